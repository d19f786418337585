theorem dX0_init_0 : decode cX0_init 0 = .ok (.aload_n 0, 1) := by decide +kernel
theorem dX0_init_1 : decode cX0_init 1 = .ok (.invokespecial 3, 3) := by decide +kernel
theorem dX0_init_4 : decode cX0_init 4 = .ok (.aload_n 0, 1) := by decide +kernel
theorem dX0_init_5 : decode cX0_init 5 = .ok (.bipush 30, 2) := by decide +kernel
theorem dX0_init_7 : decode cX0_init 7 = .ok (.newarray .int, 2) := by decide +kernel
theorem dX0_init_9 : decode cX0_init 9 = .ok (.putfield 11, 3) := by decide +kernel
theorem dX0_init_12 : decode cX0_init 12 = .ok (.aload_n 0, 1) := by decide +kernel
theorem dX0_init_13 : decode cX0_init 13 = .ok (.iconst 0, 1) := by decide +kernel
theorem dX0_init_14 : decode cX0_init 14 = .ok (.putfield 15, 3) := by decide +kernel
theorem dX0_init_17 : decode cX0_init 17 = .ok (.aload_n 0, 1) := by decide +kernel
theorem dX0_init_18 : decode cX0_init 18 = .ok (.iconst 0, 1) := by decide +kernel
theorem dX0_init_19 : decode cX0_init 19 = .ok (.putfield 19, 3) := by decide +kernel
theorem dX0_init_22 : decode cX0_init 22 = .ok (.aload_n 0, 1) := by decide +kernel
theorem dX0_init_23 : decode cX0_init 23 = .ok (.iconst 0, 1) := by decide +kernel
theorem dX0_init_24 : decode cX0_init 24 = .ok (.putfield 22, 3) := by decide +kernel
theorem dX0_init_27 : decode cX0_init 27 = .ok (.aload_n 0, 1) := by decide +kernel
theorem dX0_init_28 : decode cX0_init 28 = .ok (.iconst 0, 1) := by decide +kernel
theorem dX0_init_29 : decode cX0_init 29 = .ok (.putfield 25, 3) := by decide +kernel
theorem dX0_init_32 : decode cX0_init 32 = .ok (.aload_n 0, 1) := by decide +kernel
theorem dX0_init_33 : decode cX0_init 33 = .ok (.iconst 0, 1) := by decide +kernel
theorem dX0_init_34 : decode cX0_init 34 = .ok (.putfield 28, 3) := by decide +kernel
theorem dX0_init_37 : decode cX0_init 37 = .ok (.return_, 1) := by decide +kernel
theorem dX0_isUnder_0 : decode cX0_isUnder 0 = .ok (.iload_n 0, 1) := by decide +kernel
theorem dX0_isUnder_1 : decode cX0_isUnder 1 = .ok (.istore_n 2, 1) := by decide +kernel
theorem dX0_isUnder_2 : decode cX0_isUnder 2 = .ok (.iconst 0, 1) := by decide +kernel
theorem dX0_isUnder_3 : decode cX0_isUnder 3 = .ok (.istore_n 3, 1) := by decide +kernel
theorem dX0_isUnder_4 : decode cX0_isUnder 4 = .ok (.iload_n 3, 1) := by decide +kernel
theorem dX0_isUnder_5 : decode cX0_isUnder 5 = .ok (.bipush 6, 2) := by decide +kernel
theorem dX0_isUnder_7 : decode cX0_isUnder 7 = .ok (.if_icmp .ge 26, 3) := by decide +kernel
theorem dX0_isUnder_10 : decode cX0_isUnder 10 = .ok (.iload_n 2, 1) := by decide +kernel
theorem dX0_isUnder_11 : decode cX0_isUnder 11 = .ok (.ifCond .lt 22, 3) := by decide +kernel
theorem dX0_isUnder_14 : decode cX0_isUnder 14 = .ok (.iload_n 2, 1) := by decide +kernel
theorem dX0_isUnder_15 : decode cX0_isUnder 15 = .ok (.iload_n 1, 1) := by decide +kernel
theorem dX0_isUnder_16 : decode cX0_isUnder 16 = .ok (.if_icmp .ne 5, 3) := by decide +kernel
theorem dX0_isUnder_19 : decode cX0_isUnder 19 = .ok (.iconst 1, 1) := by decide +kernel
theorem dX0_isUnder_20 : decode cX0_isUnder 20 = .ok (.ireturn, 1) := by decide +kernel
theorem dX0_isUnder_21 : decode cX0_isUnder 21 = .ok (.getstatic 32, 3) := by decide +kernel
theorem dX0_isUnder_24 : decode cX0_isUnder 24 = .ok (.iload_n 2, 1) := by decide +kernel
theorem dX0_isUnder_25 : decode cX0_isUnder 25 = .ok (.iaload, 1) := by decide +kernel
theorem dX0_isUnder_26 : decode cX0_isUnder 26 = .ok (.istore_n 2, 1) := by decide +kernel
theorem dX0_isUnder_27 : decode cX0_isUnder 27 = .ok (.iinc 3 1, 3) := by decide +kernel
theorem dX0_isUnder_30 : decode cX0_isUnder 30 = .ok (.goto (-26), 3) := by decide +kernel
theorem dX0_isUnder_33 : decode cX0_isUnder 33 = .ok (.iconst 0, 1) := by decide +kernel
theorem dX0_isUnder_34 : decode cX0_isUnder 34 = .ok (.ireturn, 1) := by decide +kernel
theorem dX0_forget_0 : decode cX0_forget 0 = .ok (.aload_n 0, 1) := by decide +kernel
theorem dX0_forget_1 : decode cX0_forget 1 = .ok (.iconst 0, 1) := by decide +kernel
theorem dX0_forget_2 : decode cX0_forget 2 = .ok (.putfield 15, 3) := by decide +kernel
theorem dX0_forget_5 : decode cX0_forget 5 = .ok (.return_, 1) := by decide +kernel
theorem dX0_perform_0 : decode cX0_perform 0 = .ok (.aload_n 0, 1) := by decide +kernel
theorem dX0_perform_1 : decode cX0_perform 1 = .ok (.iload_n 1, 1) := by decide +kernel
theorem dX0_perform_2 : decode cX0_perform 2 = .ok (.putfield 19, 3) := by decide +kernel
theorem dX0_perform_5 : decode cX0_perform 5 = .ok (.aload_n 0, 1) := by decide +kernel
theorem dX0_perform_6 : decode cX0_perform 6 = .ok (.iload_n 2, 1) := by decide +kernel
theorem dX0_perform_7 : decode cX0_perform 7 = .ok (.putfield 22, 3) := by decide +kernel
theorem dX0_perform_10 : decode cX0_perform 10 = .ok (.aload_n 0, 1) := by decide +kernel
theorem dX0_perform_11 : decode cX0_perform 11 = .ok (.iload_n 3, 1) := by decide +kernel
theorem dX0_perform_12 : decode cX0_perform 12 = .ok (.putfield 25, 3) := by decide +kernel
theorem dX0_perform_15 : decode cX0_perform 15 = .ok (.aload_n 0, 1) := by decide +kernel
theorem dX0_perform_16 : decode cX0_perform 16 = .ok (.iconst 0, 1) := by decide +kernel
theorem dX0_perform_17 : decode cX0_perform 17 = .ok (.putfield 28, 3) := by decide +kernel
theorem dX0_perform_20 : decode cX0_perform 20 = .ok (.aload_n 0, 1) := by decide +kernel
theorem dX0_perform_21 : decode cX0_perform 21 = .ok (.iload_n 1, 1) := by decide +kernel
theorem dX0_perform_22 : decode cX0_perform 22 = .ok (.iload 4, 2) := by decide +kernel
theorem dX0_perform_24 : decode cX0_perform 24 = .ok (.invokestatic 35, 3) := by decide +kernel
theorem dX0_perform_27 : decode cX0_perform 27 = .ok (.iload 5, 2) := by decide +kernel
theorem dX0_perform_29 : decode cX0_perform 29 = .ok (.iconst 0, 1) := by decide +kernel
theorem dX0_perform_30 : decode cX0_perform 30 = .ok (.invokestatic 39, 3) := by decide +kernel
theorem dX0_perform_33 : decode cX0_perform 33 = .ok (.istore 6, 2) := by decide +kernel
theorem dX0_perform_35 : decode cX0_perform 35 = .ok (.aload_n 0, 1) := by decide +kernel
theorem dX0_perform_36 : decode cX0_perform 36 = .ok (.getfield 28, 3) := by decide +kernel
theorem dX0_perform_39 : decode cX0_perform 39 = .ok (.ifCond .eq 8, 3) := by decide +kernel
theorem dX0_perform_42 : decode cX0_perform 42 = .ok (.bipush (-15), 2) := by decide +kernel
theorem dX0_perform_44 : decode cX0_perform 44 = .ok (.goto 5, 3) := by decide +kernel
theorem dX0_perform_47 : decode cX0_perform 47 = .ok (.iload 6, 2) := by decide +kernel
theorem dX0_perform_49 : decode cX0_perform 49 = .ok (.ireturn, 1) := by decide +kernel
theorem dX0_bodyOf_0 : decode cX0_bodyOf 0 = .ok (.iload_n 0, 1) := by decide +kernel
theorem dX0_bodyOf_1 : decode cX0_bodyOf 1 = .ok (.istore_n 2, 1) := by decide +kernel
theorem dX0_bodyOf_2 : decode cX0_bodyOf 2 = .ok (.iconst 0, 1) := by decide +kernel
theorem dX0_bodyOf_3 : decode cX0_bodyOf 3 = .ok (.istore_n 3, 1) := by decide +kernel
theorem dX0_bodyOf_4 : decode cX0_bodyOf 4 = .ok (.iload_n 3, 1) := by decide +kernel
theorem dX0_bodyOf_5 : decode cX0_bodyOf 5 = .ok (.bipush 6, 2) := by decide +kernel
theorem dX0_bodyOf_7 : decode cX0_bodyOf 7 = .ok (.if_icmp .ge 41, 3) := by decide +kernel
theorem dX0_bodyOf_10 : decode cX0_bodyOf 10 = .ok (.iload_n 2, 1) := by decide +kernel
theorem dX0_bodyOf_11 : decode cX0_bodyOf 11 = .ok (.ifCond .lt 37, 3) := by decide +kernel
theorem dX0_bodyOf_14 : decode cX0_bodyOf 14 = .ok (.getstatic 43, 3) := by decide +kernel
theorem dX0_bodyOf_17 : decode cX0_bodyOf 17 = .ok (.iload_n 2, 1) := by decide +kernel
theorem dX0_bodyOf_18 : decode cX0_bodyOf 18 = .ok (.iconst 4, 1) := by decide +kernel
theorem dX0_bodyOf_19 : decode cX0_bodyOf 19 = .ok (.imul, 1) := by decide +kernel
theorem dX0_bodyOf_20 : decode cX0_bodyOf 20 = .ok (.iload_n 1, 1) := by decide +kernel
theorem dX0_bodyOf_21 : decode cX0_bodyOf 21 = .ok (.iadd, 1) := by decide +kernel
theorem dX0_bodyOf_22 : decode cX0_bodyOf 22 = .ok (.iaload, 1) := by decide +kernel
theorem dX0_bodyOf_23 : decode cX0_bodyOf 23 = .ok (.ifCond .eq 13, 3) := by decide +kernel
theorem dX0_bodyOf_26 : decode cX0_bodyOf 26 = .ok (.getstatic 43, 3) := by decide +kernel
theorem dX0_bodyOf_29 : decode cX0_bodyOf 29 = .ok (.iload_n 2, 1) := by decide +kernel
theorem dX0_bodyOf_30 : decode cX0_bodyOf 30 = .ok (.iconst 4, 1) := by decide +kernel
theorem dX0_bodyOf_31 : decode cX0_bodyOf 31 = .ok (.imul, 1) := by decide +kernel
theorem dX0_bodyOf_32 : decode cX0_bodyOf 32 = .ok (.iload_n 1, 1) := by decide +kernel
theorem dX0_bodyOf_33 : decode cX0_bodyOf 33 = .ok (.iadd, 1) := by decide +kernel
theorem dX0_bodyOf_34 : decode cX0_bodyOf 34 = .ok (.iaload, 1) := by decide +kernel
theorem dX0_bodyOf_35 : decode cX0_bodyOf 35 = .ok (.ireturn, 1) := by decide +kernel
theorem dX0_bodyOf_36 : decode cX0_bodyOf 36 = .ok (.getstatic 32, 3) := by decide +kernel
theorem dX0_bodyOf_39 : decode cX0_bodyOf 39 = .ok (.iload_n 2, 1) := by decide +kernel
theorem dX0_bodyOf_40 : decode cX0_bodyOf 40 = .ok (.iaload, 1) := by decide +kernel
theorem dX0_bodyOf_41 : decode cX0_bodyOf 41 = .ok (.istore_n 2, 1) := by decide +kernel
theorem dX0_bodyOf_42 : decode cX0_bodyOf 42 = .ok (.iinc 3 1, 3) := by decide +kernel
theorem dX0_bodyOf_45 : decode cX0_bodyOf 45 = .ok (.goto (-41), 3) := by decide +kernel
theorem dX0_bodyOf_48 : decode cX0_bodyOf 48 = .ok (.iconst 0, 1) := by decide +kernel
theorem dX0_bodyOf_49 : decode cX0_bodyOf 49 = .ok (.ireturn, 1) := by decide +kernel
theorem dX0_run_0 : decode cX0_run 0 = .ok (.aload_n 0, 1) := by decide +kernel
theorem dX0_run_1 : decode cX0_run 1 = .ok (.getfield 28, 3) := by decide +kernel
theorem dX0_run_4 : decode cX0_run 4 = .ok (.ifCond .ne 9, 3) := by decide +kernel
theorem dX0_run_7 : decode cX0_run 7 = .ok (.iload_n 3, 1) := by decide +kernel
theorem dX0_run_8 : decode cX0_run 8 = .ok (.bipush 40, 2) := by decide +kernel
theorem dX0_run_10 : decode cX0_run 10 = .ok (.if_icmp .le 5, 3) := by decide +kernel
theorem dX0_run_13 : decode cX0_run 13 = .ok (.iconst 0, 1) := by decide +kernel
theorem dX0_run_14 : decode cX0_run 14 = .ok (.ireturn, 1) := by decide +kernel
theorem dX0_run_15 : decode cX0_run 15 = .ok (.aload_n 0, 1) := by decide +kernel
theorem dX0_run_16 : decode cX0_run 16 = .ok (.iload_n 1, 1) := by decide +kernel
theorem dX0_run_17 : decode cX0_run 17 = .ok (.invokevirtual 46, 3) := by decide +kernel
theorem dX0_run_20 : decode cX0_run 20 = .ok (.iload_n 3, 1) := by decide +kernel
theorem dX0_run_21 : decode cX0_run 21 = .ok (.iconst 1, 1) := by decide +kernel
theorem dX0_run_22 : decode cX0_run 22 = .ok (.iadd, 1) := by decide +kernel
theorem dX0_run_23 : decode cX0_run 23 = .ok (.istore 4, 2) := by decide +kernel
theorem dX0_run_25 : decode cX0_run 25 = .ok (.iload_n 1, 1) := by decide +kernel
theorem dX0_run_26 : decode cX0_run 26 = .ok (.tableswitch 468 10 61 #[222, 229, 247, 253, 468, 468, 468, 468, 468, 468, 274, 468, 468, 468, 468, 468, 468, 468, 468, 468, 292, 307, 468, 468, 468, 468, 468, 468, 468, 468, 339, 354, 468, 468, 468, 468, 468, 468, 468, 468, 386, 403, 468, 468, 468, 468, 468, 468, 468, 468, 421, 436], 222) := by decide +kernel
theorem dX0_run_248 : decode cX0_run 248 = .ok (.iload_n 2, 1) := by decide +kernel
theorem dX0_run_249 : decode cX0_run 249 = .ok (.aload_n 0, 1) := by decide +kernel
theorem dX0_run_250 : decode cX0_run 250 = .ok (.getfield 22, 3) := by decide +kernel
theorem dX0_run_253 : decode cX0_run 253 = .ok (.iadd, 1) := by decide +kernel
theorem dX0_run_254 : decode cX0_run 254 = .ok (.ireturn, 1) := by decide +kernel
theorem dX0_run_255 : decode cX0_run 255 = .ok (.aload_n 0, 1) := by decide +kernel
theorem dX0_run_256 : decode cX0_run 256 = .ok (.aload_n 0, 1) := by decide +kernel
theorem dX0_run_257 : decode cX0_run 257 = .ok (.getfield 19, 3) := by decide +kernel
theorem dX0_run_260 : decode cX0_run 260 = .ok (.iconst 0, 1) := by decide +kernel
theorem dX0_run_261 : decode cX0_run 261 = .ok (.invokestatic 35, 3) := by decide +kernel
theorem dX0_run_264 : decode cX0_run 264 = .ok (.iload_n 2, 1) := by decide +kernel
theorem dX0_run_265 : decode cX0_run 265 = .ok (.iload 4, 2) := by decide +kernel
theorem dX0_run_267 : decode cX0_run 267 = .ok (.invokestatic 39, 3) := by decide +kernel
theorem dX0_run_270 : decode cX0_run 270 = .ok (.iconst 2, 1) := by decide +kernel
theorem dX0_run_271 : decode cX0_run 271 = .ok (.imul, 1) := by decide +kernel
theorem dX0_run_272 : decode cX0_run 272 = .ok (.ireturn, 1) := by decide +kernel
theorem dX0_run_273 : decode cX0_run 273 = .ok (.aload_n 0, 1) := by decide +kernel
theorem dX0_run_274 : decode cX0_run 274 = .ok (.iload_n 2, 1) := by decide +kernel
theorem dX0_run_275 : decode cX0_run 275 = .ok (.invokevirtual 50, 3) := by decide +kernel
theorem dX0_run_278 : decode cX0_run 278 = .ok (.ireturn, 1) := by decide +kernel
theorem dX0_run_279 : decode cX0_run 279 = .ok (.aload_n 0, 1) := by decide +kernel
theorem dX0_run_280 : decode cX0_run 280 = .ok (.aload_n 0, 1) := by decide +kernel
theorem dX0_run_281 : decode cX0_run 281 = .ok (.getfield 19, 3) := by decide +kernel
theorem dX0_run_284 : decode cX0_run 284 = .ok (.iconst 1, 1) := by decide +kernel
theorem dX0_run_285 : decode cX0_run 285 = .ok (.invokestatic 35, 3) := by decide +kernel
theorem dX0_run_288 : decode cX0_run 288 = .ok (.iload_n 2, 1) := by decide +kernel
theorem dX0_run_289 : decode cX0_run 289 = .ok (.iload 4, 2) := by decide +kernel
theorem dX0_run_291 : decode cX0_run 291 = .ok (.invokestatic 39, 3) := by decide +kernel
theorem dX0_run_294 : decode cX0_run 294 = .ok (.aload_n 0, 1) := by decide +kernel
theorem dX0_run_295 : decode cX0_run 295 = .ok (.getfield 25, 3) := by decide +kernel
theorem dX0_run_298 : decode cX0_run 298 = .ok (.ixor, 1) := by decide +kernel
theorem dX0_run_299 : decode cX0_run 299 = .ok (.ireturn, 1) := by decide +kernel
theorem dX0_run_300 : decode cX0_run 300 = .ok (.aload_n 0, 1) := by decide +kernel
theorem dX0_run_301 : decode cX0_run 301 = .ok (.iconst 0, 1) := by decide +kernel
theorem dX0_run_302 : decode cX0_run 302 = .ok (.iconst 1, 1) := by decide +kernel
theorem dX0_run_303 : decode cX0_run 303 = .ok (.invokestatic 35, 3) := by decide +kernel
theorem dX0_run_306 : decode cX0_run 306 = .ok (.iload_n 2, 1) := by decide +kernel
theorem dX0_run_307 : decode cX0_run 307 = .ok (.iload 4, 2) := by decide +kernel
theorem dX0_run_309 : decode cX0_run 309 = .ok (.invokestatic 39, 3) := by decide +kernel
theorem dX0_run_312 : decode cX0_run 312 = .ok (.aload_n 0, 1) := by decide +kernel
theorem dX0_run_313 : decode cX0_run 313 = .ok (.getfield 25, 3) := by decide +kernel
theorem dX0_run_316 : decode cX0_run 316 = .ok (.isub, 1) := by decide +kernel
theorem dX0_run_317 : decode cX0_run 317 = .ok (.ireturn, 1) := by decide +kernel
theorem dX0_run_318 : decode cX0_run 318 = .ok (.aload_n 0, 1) := by decide +kernel
theorem dX0_run_319 : decode cX0_run 319 = .ok (.iconst 0, 1) := by decide +kernel
theorem dX0_run_320 : decode cX0_run 320 = .ok (.iconst 0, 1) := by decide +kernel
theorem dX0_run_321 : decode cX0_run 321 = .ok (.invokestatic 35, 3) := by decide +kernel
theorem dX0_run_324 : decode cX0_run 324 = .ok (.iload_n 2, 1) := by decide +kernel
theorem dX0_run_325 : decode cX0_run 325 = .ok (.iload 4, 2) := by decide +kernel
theorem dX0_run_327 : decode cX0_run 327 = .ok (.invokestatic 39, 3) := by decide +kernel
theorem dX0_run_330 : decode cX0_run 330 = .ok (.iconst 3, 1) := by decide +kernel
theorem dX0_run_331 : decode cX0_run 331 = .ok (.imul, 1) := by decide +kernel
theorem dX0_run_332 : decode cX0_run 332 = .ok (.ireturn, 1) := by decide +kernel
theorem dX0_run_333 : decode cX0_run 333 = .ok (.aload_n 0, 1) := by decide +kernel
theorem dX0_run_334 : decode cX0_run 334 = .ok (.iconst 0, 1) := by decide +kernel
theorem dX0_run_335 : decode cX0_run 335 = .ok (.iconst 3, 1) := by decide +kernel
theorem dX0_run_336 : decode cX0_run 336 = .ok (.invokestatic 35, 3) := by decide +kernel
theorem dX0_run_339 : decode cX0_run 339 = .ok (.iload_n 2, 1) := by decide +kernel
theorem dX0_run_340 : decode cX0_run 340 = .ok (.iload 4, 2) := by decide +kernel
theorem dX0_run_342 : decode cX0_run 342 = .ok (.invokestatic 39, 3) := by decide +kernel
theorem dX0_run_345 : decode cX0_run 345 = .ok (.aload_n 0, 1) := by decide +kernel
theorem dX0_run_346 : decode cX0_run 346 = .ok (.aload_n 0, 1) := by decide +kernel
theorem dX0_run_347 : decode cX0_run 347 = .ok (.getfield 19, 3) := by decide +kernel
theorem dX0_run_350 : decode cX0_run 350 = .ok (.iconst 2, 1) := by decide +kernel
theorem dX0_run_351 : decode cX0_run 351 = .ok (.invokestatic 35, 3) := by decide +kernel
theorem dX0_run_354 : decode cX0_run 354 = .ok (.aload_n 0, 1) := by decide +kernel
theorem dX0_run_355 : decode cX0_run 355 = .ok (.getfield 22, 3) := by decide +kernel
theorem dX0_run_358 : decode cX0_run 358 = .ok (.iload 4, 2) := by decide +kernel
theorem dX0_run_360 : decode cX0_run 360 = .ok (.invokestatic 39, 3) := by decide +kernel
theorem dX0_run_363 : decode cX0_run 363 = .ok (.iadd, 1) := by decide +kernel
theorem dX0_run_364 : decode cX0_run 364 = .ok (.ireturn, 1) := by decide +kernel
theorem dX0_run_365 : decode cX0_run 365 = .ok (.iconst 0, 1) := by decide +kernel
theorem dX0_run_366 : decode cX0_run 366 = .ok (.aload_n 0, 1) := by decide +kernel
theorem dX0_run_367 : decode cX0_run 367 = .ok (.iconst 2, 1) := by decide +kernel
theorem dX0_run_368 : decode cX0_run 368 = .ok (.iconst 0, 1) := by decide +kernel
theorem dX0_run_369 : decode cX0_run 369 = .ok (.invokestatic 35, 3) := by decide +kernel
theorem dX0_run_372 : decode cX0_run 372 = .ok (.iload_n 2, 1) := by decide +kernel
theorem dX0_run_373 : decode cX0_run 373 = .ok (.iload 4, 2) := by decide +kernel
theorem dX0_run_375 : decode cX0_run 375 = .ok (.invokestatic 39, 3) := by decide +kernel
theorem dX0_run_378 : decode cX0_run 378 = .ok (.isub, 1) := by decide +kernel
theorem dX0_run_379 : decode cX0_run 379 = .ok (.ireturn, 1) := by decide +kernel
theorem dX0_run_380 : decode cX0_run 380 = .ok (.aload_n 0, 1) := by decide +kernel
theorem dX0_run_381 : decode cX0_run 381 = .ok (.iconst 2, 1) := by decide +kernel
theorem dX0_run_382 : decode cX0_run 382 = .ok (.iconst 1, 1) := by decide +kernel
theorem dX0_run_383 : decode cX0_run 383 = .ok (.invokestatic 35, 3) := by decide +kernel
theorem dX0_run_386 : decode cX0_run 386 = .ok (.iload_n 2, 1) := by decide +kernel
theorem dX0_run_387 : decode cX0_run 387 = .ok (.iload 4, 2) := by decide +kernel
theorem dX0_run_389 : decode cX0_run 389 = .ok (.invokestatic 39, 3) := by decide +kernel
theorem dX0_run_392 : decode cX0_run 392 = .ok (.aload_n 0, 1) := by decide +kernel
theorem dX0_run_393 : decode cX0_run 393 = .ok (.aload_n 0, 1) := by decide +kernel
theorem dX0_run_394 : decode cX0_run 394 = .ok (.getfield 19, 3) := by decide +kernel
theorem dX0_run_397 : decode cX0_run 397 = .ok (.iconst 0, 1) := by decide +kernel
theorem dX0_run_398 : decode cX0_run 398 = .ok (.invokestatic 35, 3) := by decide +kernel
theorem dX0_run_401 : decode cX0_run 401 = .ok (.aload_n 0, 1) := by decide +kernel
theorem dX0_run_402 : decode cX0_run 402 = .ok (.getfield 22, 3) := by decide +kernel
theorem dX0_run_405 : decode cX0_run 405 = .ok (.iload 4, 2) := by decide +kernel
theorem dX0_run_407 : decode cX0_run 407 = .ok (.invokestatic 39, 3) := by decide +kernel
theorem dX0_run_410 : decode cX0_run 410 = .ok (.iadd, 1) := by decide +kernel
theorem dX0_run_411 : decode cX0_run 411 = .ok (.ireturn, 1) := by decide +kernel
theorem dX0_run_412 : decode cX0_run 412 = .ok (.aload_n 0, 1) := by decide +kernel
theorem dX0_run_413 : decode cX0_run 413 = .ok (.iconst 1, 1) := by decide +kernel
theorem dX0_run_414 : decode cX0_run 414 = .ok (.iconst 2, 1) := by decide +kernel
theorem dX0_run_415 : decode cX0_run 415 = .ok (.invokestatic 35, 3) := by decide +kernel
theorem dX0_run_418 : decode cX0_run 418 = .ok (.iload_n 2, 1) := by decide +kernel
theorem dX0_run_419 : decode cX0_run 419 = .ok (.iconst 2, 1) := by decide +kernel
theorem dX0_run_420 : decode cX0_run 420 = .ok (.iadd, 1) := by decide +kernel
theorem dX0_run_421 : decode cX0_run 421 = .ok (.iload 4, 2) := by decide +kernel
theorem dX0_run_423 : decode cX0_run 423 = .ok (.invokestatic 39, 3) := by decide +kernel
theorem dX0_run_426 : decode cX0_run 426 = .ok (.iconst 1, 1) := by decide +kernel
theorem dX0_run_427 : decode cX0_run 427 = .ok (.ixor, 1) := by decide +kernel
theorem dX0_run_428 : decode cX0_run 428 = .ok (.ireturn, 1) := by decide +kernel
theorem dX0_run_429 : decode cX0_run 429 = .ok (.aload_n 0, 1) := by decide +kernel
theorem dX0_run_430 : decode cX0_run 430 = .ok (.iconst 1, 1) := by decide +kernel
theorem dX0_run_431 : decode cX0_run 431 = .ok (.iconst 0, 1) := by decide +kernel
theorem dX0_run_432 : decode cX0_run 432 = .ok (.invokestatic 35, 3) := by decide +kernel
theorem dX0_run_435 : decode cX0_run 435 = .ok (.iload_n 2, 1) := by decide +kernel
theorem dX0_run_436 : decode cX0_run 436 = .ok (.iload 4, 2) := by decide +kernel
theorem dX0_run_438 : decode cX0_run 438 = .ok (.invokestatic 39, 3) := by decide +kernel
theorem dX0_run_441 : decode cX0_run 441 = .ok (.aload_n 0, 1) := by decide +kernel
theorem dX0_run_442 : decode cX0_run 442 = .ok (.getfield 22, 3) := by decide +kernel
theorem dX0_run_445 : decode cX0_run 445 = .ok (.isub, 1) := by decide +kernel
theorem dX0_run_446 : decode cX0_run 446 = .ok (.ireturn, 1) := by decide +kernel
theorem dX0_run_447 : decode cX0_run 447 = .ok (.aload_n 0, 1) := by decide +kernel
theorem dX0_run_448 : decode cX0_run 448 = .ok (.iconst 0, 1) := by decide +kernel
theorem dX0_run_449 : decode cX0_run 449 = .ok (.iconst 3, 1) := by decide +kernel
theorem dX0_run_450 : decode cX0_run 450 = .ok (.invokestatic 35, 3) := by decide +kernel
theorem dX0_run_453 : decode cX0_run 453 = .ok (.iload_n 2, 1) := by decide +kernel
theorem dX0_run_454 : decode cX0_run 454 = .ok (.iload 4, 2) := by decide +kernel
theorem dX0_run_456 : decode cX0_run 456 = .ok (.invokestatic 39, 3) := by decide +kernel
theorem dX0_run_459 : decode cX0_run 459 = .ok (.iconst 2, 1) := by decide +kernel
theorem dX0_run_460 : decode cX0_run 460 = .ok (.imul, 1) := by decide +kernel
theorem dX0_run_461 : decode cX0_run 461 = .ok (.ireturn, 1) := by decide +kernel
theorem dX0_run_462 : decode cX0_run 462 = .ok (.aload_n 0, 1) := by decide +kernel
theorem dX0_run_463 : decode cX0_run 463 = .ok (.iconst 0, 1) := by decide +kernel
theorem dX0_run_464 : decode cX0_run 464 = .ok (.iconst 2, 1) := by decide +kernel
theorem dX0_run_465 : decode cX0_run 465 = .ok (.invokestatic 35, 3) := by decide +kernel
theorem dX0_run_468 : decode cX0_run 468 = .ok (.iload_n 2, 1) := by decide +kernel
theorem dX0_run_469 : decode cX0_run 469 = .ok (.iload 4, 2) := by decide +kernel
theorem dX0_run_471 : decode cX0_run 471 = .ok (.invokestatic 39, 3) := by decide +kernel
theorem dX0_run_474 : decode cX0_run 474 = .ok (.aload_n 0, 1) := by decide +kernel
theorem dX0_run_475 : decode cX0_run 475 = .ok (.aload_n 0, 1) := by decide +kernel
theorem dX0_run_476 : decode cX0_run 476 = .ok (.getfield 19, 3) := by decide +kernel
theorem dX0_run_479 : decode cX0_run 479 = .ok (.iconst 0, 1) := by decide +kernel
theorem dX0_run_480 : decode cX0_run 480 = .ok (.invokestatic 35, 3) := by decide +kernel
theorem dX0_run_483 : decode cX0_run 483 = .ok (.aload_n 0, 1) := by decide +kernel
theorem dX0_run_484 : decode cX0_run 484 = .ok (.getfield 25, 3) := by decide +kernel
theorem dX0_run_487 : decode cX0_run 487 = .ok (.iload 4, 2) := by decide +kernel
theorem dX0_run_489 : decode cX0_run 489 = .ok (.invokestatic 39, 3) := by decide +kernel
theorem dX0_run_492 : decode cX0_run 492 = .ok (.iadd, 1) := by decide +kernel
theorem dX0_run_493 : decode cX0_run 493 = .ok (.ireturn, 1) := by decide +kernel
theorem dX0_run_494 : decode cX0_run 494 = .ok (.iconst 0, 1) := by decide +kernel
theorem dX0_run_495 : decode cX0_run 495 = .ok (.ireturn, 1) := by decide +kernel
theorem dX0_share_0 : decode cX0_share 0 = .ok (.aload_n 0, 1) := by decide +kernel
theorem dX0_share_1 : decode cX0_share 1 = .ok (.getfield 25, 3) := by decide +kernel
theorem dX0_share_4 : decode cX0_share 4 = .ok (.aload_n 0, 1) := by decide +kernel
theorem dX0_share_5 : decode cX0_share 5 = .ok (.getfield 22, 3) := by decide +kernel
theorem dX0_share_8 : decode cX0_share 8 = .ok (.isub, 1) := by decide +kernel
theorem dX0_share_9 : decode cX0_share 9 = .ok (.istore_n 2, 1) := by decide +kernel
theorem dX0_share_10 : decode cX0_share 10 = .ok (.iload_n 2, 1) := by decide +kernel
theorem dX0_share_11 : decode cX0_share 11 = .ok (.ifCond .ne 10, 3) := by decide +kernel
theorem dX0_share_14 : decode cX0_share 14 = .ok (.aload_n 0, 1) := by decide +kernel
theorem dX0_share_15 : decode cX0_share 15 = .ok (.iconst 1, 1) := by decide +kernel
theorem dX0_share_16 : decode cX0_share 16 = .ok (.putfield 28, 3) := by decide +kernel
theorem dX0_share_19 : decode cX0_share 19 = .ok (.iconst 0, 1) := by decide +kernel
theorem dX0_share_20 : decode cX0_share 20 = .ok (.ireturn, 1) := by decide +kernel
theorem dX0_share_21 : decode cX0_share 21 = .ok (.iload_n 1, 1) := by decide +kernel
theorem dX0_share_22 : decode cX0_share 22 = .ok (.iload_n 2, 1) := by decide +kernel
theorem dX0_share_23 : decode cX0_share 23 = .ok (.idiv, 1) := by decide +kernel
theorem dX0_share_24 : decode cX0_share 24 = .ok (.ireturn, 1) := by decide +kernel
theorem dX0_note_0 : decode cX0_note 0 = .ok (.aload_n 0, 1) := by decide +kernel
theorem dX0_note_1 : decode cX0_note 1 = .ok (.getfield 15, 3) := by decide +kernel
theorem dX0_note_4 : decode cX0_note 4 = .ok (.bipush 30, 2) := by decide +kernel
theorem dX0_note_6 : decode cX0_note 6 = .ok (.if_icmp .ge 23, 3) := by decide +kernel
theorem dX0_note_9 : decode cX0_note 9 = .ok (.aload_n 0, 1) := by decide +kernel
theorem dX0_note_10 : decode cX0_note 10 = .ok (.getfield 11, 3) := by decide +kernel
theorem dX0_note_13 : decode cX0_note 13 = .ok (.aload_n 0, 1) := by decide +kernel
theorem dX0_note_14 : decode cX0_note 14 = .ok (.getfield 15, 3) := by decide +kernel
theorem dX0_note_17 : decode cX0_note 17 = .ok (.iload_n 1, 1) := by decide +kernel
theorem dX0_note_18 : decode cX0_note 18 = .ok (.iastore, 1) := by decide +kernel
theorem dX0_note_19 : decode cX0_note 19 = .ok (.aload_n 0, 1) := by decide +kernel
theorem dX0_note_20 : decode cX0_note 20 = .ok (.dup, 1) := by decide +kernel
theorem dX0_note_21 : decode cX0_note 21 = .ok (.getfield 15, 3) := by decide +kernel
theorem dX0_note_24 : decode cX0_note 24 = .ok (.iconst 1, 1) := by decide +kernel
theorem dX0_note_25 : decode cX0_note 25 = .ok (.iadd, 1) := by decide +kernel
theorem dX0_note_26 : decode cX0_note 26 = .ok (.putfield 15, 3) := by decide +kernel
theorem dX0_note_29 : decode cX0_note 29 = .ok (.return_, 1) := by decide +kernel
theorem dX1_init_0 : decode cX1_init 0 = .ok (.aload_n 0, 1) := by decide +kernel
theorem dX1_init_1 : decode cX1_init 1 = .ok (.invokespecial 1, 3) := by decide +kernel
theorem dX1_init_4 : decode cX1_init 4 = .ok (.aload_n 0, 1) := by decide +kernel
theorem dX1_init_5 : decode cX1_init 5 = .ok (.iconst 4, 1) := by decide +kernel
theorem dX1_init_6 : decode cX1_init 6 = .ok (.newarray .int, 2) := by decide +kernel
theorem dX1_init_8 : decode cX1_init 8 = .ok (.putfield 9, 3) := by decide +kernel
theorem dX1_init_11 : decode cX1_init 11 = .ok (.aload_n 0, 1) := by decide +kernel
theorem dX1_init_12 : decode cX1_init 12 = .ok (.iconst 4, 1) := by decide +kernel
theorem dX1_init_13 : decode cX1_init 13 = .ok (.newarray .int, 2) := by decide +kernel
theorem dX1_init_15 : decode cX1_init 15 = .ok (.putfield 13, 3) := by decide +kernel
theorem dX1_init_18 : decode cX1_init 18 = .ok (.aload_n 0, 1) := by decide +kernel
theorem dX1_init_19 : decode cX1_init 19 = .ok (.iconst 4, 1) := by decide +kernel
theorem dX1_init_20 : decode cX1_init 20 = .ok (.bipush 40, 2) := by decide +kernel
theorem dX1_init_22 : decode cX1_init 22 = .ok (.multianewarray 16 2, 4) := by decide +kernel
theorem dX1_init_26 : decode cX1_init 26 = .ok (.putfield 18, 3) := by decide +kernel
theorem dX1_init_29 : decode cX1_init 29 = .ok (.aload_n 0, 1) := by decide +kernel
theorem dX1_init_30 : decode cX1_init 30 = .ok (.iconst 4, 1) := by decide +kernel
theorem dX1_init_31 : decode cX1_init 31 = .ok (.newarray .int, 2) := by decide +kernel
theorem dX1_init_33 : decode cX1_init 33 = .ok (.putfield 21, 3) := by decide +kernel
theorem dX1_init_36 : decode cX1_init 36 = .ok (.aload_n 0, 1) := by decide +kernel
theorem dX1_init_37 : decode cX1_init 37 = .ok (.iconst 4, 1) := by decide +kernel
theorem dX1_init_38 : decode cX1_init 38 = .ok (.newarray .int, 2) := by decide +kernel
theorem dX1_init_40 : decode cX1_init 40 = .ok (.putfield 24, 3) := by decide +kernel
theorem dX1_init_43 : decode cX1_init 43 = .ok (.aload_n 0, 1) := by decide +kernel
theorem dX1_init_44 : decode cX1_init 44 = .ok (.iconst 4, 1) := by decide +kernel
theorem dX1_init_45 : decode cX1_init 45 = .ok (.newarray .int, 2) := by decide +kernel
theorem dX1_init_47 : decode cX1_init 47 = .ok (.putfield 27, 3) := by decide +kernel
theorem dX1_init_50 : decode cX1_init 50 = .ok (.aload_n 0, 1) := by decide +kernel
theorem dX1_init_51 : decode cX1_init 51 = .ok (.getfield 9, 3) := by decide +kernel
theorem dX1_init_54 : decode cX1_init 54 = .ok (.iconst (-1), 1) := by decide +kernel
theorem dX1_init_55 : decode cX1_init 55 = .ok (.invokestatic 30, 3) := by decide +kernel
theorem dX1_init_58 : decode cX1_init 58 = .ok (.aload_n 0, 1) := by decide +kernel
theorem dX1_init_59 : decode cX1_init 59 = .ok (.getfield 21, 3) := by decide +kernel
theorem dX1_init_62 : decode cX1_init 62 = .ok (.iconst 2, 1) := by decide +kernel
theorem dX1_init_63 : decode cX1_init 63 = .ok (.invokestatic 30, 3) := by decide +kernel
theorem dX1_init_66 : decode cX1_init 66 = .ok (.return_, 1) := by decide +kernel
theorem dX1_lay_0 : decode cX1_lay 0 = .ok (.aload_n 0, 1) := by decide +kernel
theorem dX1_lay_1 : decode cX1_lay 1 = .ok (.getfield 9, 3) := by decide +kernel
theorem dX1_lay_4 : decode cX1_lay 4 = .ok (.iload_n 1, 1) := by decide +kernel
theorem dX1_lay_5 : decode cX1_lay 5 = .ok (.iload_n 2, 1) := by decide +kernel
theorem dX1_lay_6 : decode cX1_lay 6 = .ok (.iastore, 1) := by decide +kernel
theorem dX1_lay_7 : decode cX1_lay 7 = .ok (.aload_n 0, 1) := by decide +kernel
theorem dX1_lay_8 : decode cX1_lay 8 = .ok (.getfield 13, 3) := by decide +kernel
theorem dX1_lay_11 : decode cX1_lay 11 = .ok (.iload_n 1, 1) := by decide +kernel
theorem dX1_lay_12 : decode cX1_lay 12 = .ok (.iload_n 3, 1) := by decide +kernel
theorem dX1_lay_13 : decode cX1_lay 13 = .ok (.iastore, 1) := by decide +kernel
theorem dX1_lay_14 : decode cX1_lay 14 = .ok (.aload_n 0, 1) := by decide +kernel
theorem dX1_lay_15 : decode cX1_lay 15 = .ok (.getfield 18, 3) := by decide +kernel
theorem dX1_lay_18 : decode cX1_lay 18 = .ok (.iload_n 1, 1) := by decide +kernel
theorem dX1_lay_19 : decode cX1_lay 19 = .ok (.aaload, 1) := by decide +kernel
theorem dX1_lay_20 : decode cX1_lay 20 = .ok (.iconst 0, 1) := by decide +kernel
theorem dX1_lay_21 : decode cX1_lay 21 = .ok (.invokestatic 30, 3) := by decide +kernel
theorem dX1_lay_24 : decode cX1_lay 24 = .ok (.iconst 1, 1) := by decide +kernel
theorem dX1_lay_25 : decode cX1_lay 25 = .ok (.ireturn, 1) := by decide +kernel
theorem dX1_holds_0 : decode cX1_holds 0 = .ok (.iload_n 2, 1) := by decide +kernel
theorem dX1_holds_1 : decode cX1_holds 1 = .ok (.ifCond .lt 17, 3) := by decide +kernel
theorem dX1_holds_4 : decode cX1_holds 4 = .ok (.iload_n 2, 1) := by decide +kernel
theorem dX1_holds_5 : decode cX1_holds 5 = .ok (.aload_n 0, 1) := by decide +kernel
theorem dX1_holds_6 : decode cX1_holds 6 = .ok (.getfield 13, 3) := by decide +kernel
theorem dX1_holds_9 : decode cX1_holds 9 = .ok (.iload_n 1, 1) := by decide +kernel
theorem dX1_holds_10 : decode cX1_holds 10 = .ok (.iaload, 1) := by decide +kernel
theorem dX1_holds_11 : decode cX1_holds 11 = .ok (.if_icmp .ge 7, 3) := by decide +kernel
theorem dX1_holds_14 : decode cX1_holds 14 = .ok (.iconst 1, 1) := by decide +kernel
theorem dX1_holds_15 : decode cX1_holds 15 = .ok (.goto 4, 3) := by decide +kernel
theorem dX1_holds_18 : decode cX1_holds 18 = .ok (.iconst 0, 1) := by decide +kernel
theorem dX1_holds_19 : decode cX1_holds 19 = .ok (.ireturn, 1) := by decide +kernel
theorem dX1_write_0 : decode cX1_write 0 = .ok (.aload_n 0, 1) := by decide +kernel
theorem dX1_write_1 : decode cX1_write 1 = .ok (.getfield 9, 3) := by decide +kernel
theorem dX1_write_4 : decode cX1_write 4 = .ok (.iload_n 1, 1) := by decide +kernel
theorem dX1_write_5 : decode cX1_write 5 = .ok (.iaload, 1) := by decide +kernel
theorem dX1_write_6 : decode cX1_write 6 = .ok (.lookupswitch 52 #[(0, 26), (1, 39)], 26) := by decide +kernel
theorem dX1_write_32 : decode cX1_write 32 = .ok (.aload_n 0, 1) := by decide +kernel
theorem dX1_write_33 : decode cX1_write 33 = .ok (.getfield 18, 3) := by decide +kernel
theorem dX1_write_36 : decode cX1_write 36 = .ok (.iload_n 1, 1) := by decide +kernel
theorem dX1_write_37 : decode cX1_write 37 = .ok (.aaload, 1) := by decide +kernel
theorem dX1_write_38 : decode cX1_write 38 = .ok (.iload_n 2, 1) := by decide +kernel
theorem dX1_write_39 : decode cX1_write 39 = .ok (.iload_n 3, 1) := by decide +kernel
theorem dX1_write_40 : decode cX1_write 40 = .ok (.i2b, 1) := by decide +kernel
theorem dX1_write_41 : decode cX1_write 41 = .ok (.iastore, 1) := by decide +kernel
theorem dX1_write_42 : decode cX1_write 42 = .ok (.goto 25, 3) := by decide +kernel
theorem dX1_write_45 : decode cX1_write 45 = .ok (.aload_n 0, 1) := by decide +kernel
theorem dX1_write_46 : decode cX1_write 46 = .ok (.getfield 18, 3) := by decide +kernel
theorem dX1_write_49 : decode cX1_write 49 = .ok (.iload_n 1, 1) := by decide +kernel
theorem dX1_write_50 : decode cX1_write 50 = .ok (.aaload, 1) := by decide +kernel
theorem dX1_write_51 : decode cX1_write 51 = .ok (.iload_n 2, 1) := by decide +kernel
theorem dX1_write_52 : decode cX1_write 52 = .ok (.iload_n 3, 1) := by decide +kernel
theorem dX1_write_53 : decode cX1_write 53 = .ok (.i2s, 1) := by decide +kernel
theorem dX1_write_54 : decode cX1_write 54 = .ok (.iastore, 1) := by decide +kernel
theorem dX1_write_55 : decode cX1_write 55 = .ok (.goto 12, 3) := by decide +kernel
theorem dX1_write_58 : decode cX1_write 58 = .ok (.aload_n 0, 1) := by decide +kernel
theorem dX1_write_59 : decode cX1_write 59 = .ok (.getfield 18, 3) := by decide +kernel
theorem dX1_write_62 : decode cX1_write 62 = .ok (.iload_n 1, 1) := by decide +kernel
theorem dX1_write_63 : decode cX1_write 63 = .ok (.aaload, 1) := by decide +kernel
theorem dX1_write_64 : decode cX1_write 64 = .ok (.iload_n 2, 1) := by decide +kernel
theorem dX1_write_65 : decode cX1_write 65 = .ok (.iload_n 3, 1) := by decide +kernel
theorem dX1_write_66 : decode cX1_write 66 = .ok (.iastore, 1) := by decide +kernel
theorem dX1_write_67 : decode cX1_write 67 = .ok (.iconst 1, 1) := by decide +kernel
theorem dX1_write_68 : decode cX1_write 68 = .ok (.ireturn, 1) := by decide +kernel
theorem dX1_shelvePlan_0 : decode cX1_shelvePlan 0 = .ok (.aload_n 0, 1) := by decide +kernel
theorem dX1_shelvePlan_1 : decode cX1_shelvePlan 1 = .ok (.getfield 21, 3) := by decide +kernel
theorem dX1_shelvePlan_4 : decode cX1_shelvePlan 4 = .ok (.iload_n 1, 1) := by decide +kernel
theorem dX1_shelvePlan_5 : decode cX1_shelvePlan 5 = .ok (.iconst 0, 1) := by decide +kernel
theorem dX1_shelvePlan_6 : decode cX1_shelvePlan 6 = .ok (.iastore, 1) := by decide +kernel
theorem dX1_shelvePlan_7 : decode cX1_shelvePlan 7 = .ok (.aload_n 0, 1) := by decide +kernel
theorem dX1_shelvePlan_8 : decode cX1_shelvePlan 8 = .ok (.getfield 27, 3) := by decide +kernel
theorem dX1_shelvePlan_11 : decode cX1_shelvePlan 11 = .ok (.iload_n 1, 1) := by decide +kernel
theorem dX1_shelvePlan_12 : decode cX1_shelvePlan 12 = .ok (.iload_n 2, 1) := by decide +kernel
theorem dX1_shelvePlan_13 : decode cX1_shelvePlan 13 = .ok (.iastore, 1) := by decide +kernel
theorem dX1_shelvePlan_14 : decode cX1_shelvePlan 14 = .ok (.iconst 1, 1) := by decide +kernel
theorem dX1_shelvePlan_15 : decode cX1_shelvePlan 15 = .ok (.ireturn, 1) := by decide +kernel
theorem dX1_shelveRow_0 : decode cX1_shelveRow 0 = .ok (.aload_n 0, 1) := by decide +kernel
theorem dX1_shelveRow_1 : decode cX1_shelveRow 1 = .ok (.getfield 21, 3) := by decide +kernel
theorem dX1_shelveRow_4 : decode cX1_shelveRow 4 = .ok (.iload_n 1, 1) := by decide +kernel
theorem dX1_shelveRow_5 : decode cX1_shelveRow 5 = .ok (.aload_n 0, 1) := by decide +kernel
theorem dX1_shelveRow_6 : decode cX1_shelveRow 6 = .ok (.getfield 9, 3) := by decide +kernel
theorem dX1_shelveRow_9 : decode cX1_shelveRow 9 = .ok (.iload_n 2, 1) := by decide +kernel
theorem dX1_shelveRow_10 : decode cX1_shelveRow 10 = .ok (.iaload, 1) := by decide +kernel
theorem dX1_shelveRow_11 : decode cX1_shelveRow 11 = .ok (.iconst (-1), 1) := by decide +kernel
theorem dX1_shelveRow_12 : decode cX1_shelveRow 12 = .ok (.if_icmp .ne 7, 3) := by decide +kernel
theorem dX1_shelveRow_15 : decode cX1_shelveRow 15 = .ok (.iconst 2, 1) := by decide +kernel
theorem dX1_shelveRow_16 : decode cX1_shelveRow 16 = .ok (.goto 4, 3) := by decide +kernel
theorem dX1_shelveRow_19 : decode cX1_shelveRow 19 = .ok (.iconst 1, 1) := by decide +kernel
theorem dX1_shelveRow_20 : decode cX1_shelveRow 20 = .ok (.iastore, 1) := by decide +kernel
theorem dX1_shelveRow_21 : decode cX1_shelveRow 21 = .ok (.aload_n 0, 1) := by decide +kernel
theorem dX1_shelveRow_22 : decode cX1_shelveRow 22 = .ok (.getfield 24, 3) := by decide +kernel
theorem dX1_shelveRow_25 : decode cX1_shelveRow 25 = .ok (.iload_n 1, 1) := by decide +kernel
theorem dX1_shelveRow_26 : decode cX1_shelveRow 26 = .ok (.aload_n 0, 1) := by decide +kernel
theorem dX1_shelveRow_27 : decode cX1_shelveRow 27 = .ok (.getfield 9, 3) := by decide +kernel
theorem dX1_shelveRow_30 : decode cX1_shelveRow 30 = .ok (.iload_n 2, 1) := by decide +kernel
theorem dX1_shelveRow_31 : decode cX1_shelveRow 31 = .ok (.iaload, 1) := by decide +kernel
theorem dX1_shelveRow_32 : decode cX1_shelveRow 32 = .ok (.iastore, 1) := by decide +kernel
theorem dX1_shelveRow_33 : decode cX1_shelveRow 33 = .ok (.aload_n 0, 1) := by decide +kernel
theorem dX1_shelveRow_34 : decode cX1_shelveRow 34 = .ok (.getfield 27, 3) := by decide +kernel
theorem dX1_shelveRow_37 : decode cX1_shelveRow 37 = .ok (.iload_n 1, 1) := by decide +kernel
theorem dX1_shelveRow_38 : decode cX1_shelveRow 38 = .ok (.aload_n 0, 1) := by decide +kernel
theorem dX1_shelveRow_39 : decode cX1_shelveRow 39 = .ok (.getfield 13, 3) := by decide +kernel
theorem dX1_shelveRow_42 : decode cX1_shelveRow 42 = .ok (.iload_n 2, 1) := by decide +kernel
theorem dX1_shelveRow_43 : decode cX1_shelveRow 43 = .ok (.iaload, 1) := by decide +kernel
theorem dX1_shelveRow_44 : decode cX1_shelveRow 44 = .ok (.iastore, 1) := by decide +kernel
theorem dX1_shelveRow_45 : decode cX1_shelveRow 45 = .ok (.iconst 1, 1) := by decide +kernel
theorem dX1_shelveRow_46 : decode cX1_shelveRow 46 = .ok (.ireturn, 1) := by decide +kernel
theorem dX1_clear_0 : decode cX1_clear 0 = .ok (.aload_n 0, 1) := by decide +kernel
theorem dX1_clear_1 : decode cX1_clear 1 = .ok (.getfield 21, 3) := by decide +kernel
theorem dX1_clear_4 : decode cX1_clear 4 = .ok (.iload_n 1, 1) := by decide +kernel
theorem dX1_clear_5 : decode cX1_clear 5 = .ok (.iconst 2, 1) := by decide +kernel
theorem dX1_clear_6 : decode cX1_clear 6 = .ok (.iastore, 1) := by decide +kernel
theorem dX1_clear_7 : decode cX1_clear 7 = .ok (.iconst 1, 1) := by decide +kernel
theorem dX1_clear_8 : decode cX1_clear 8 = .ok (.ireturn, 1) := by decide +kernel
theorem dX1_heldRow_0 : decode cX1_heldRow 0 = .ok (.aload_n 0, 1) := by decide +kernel
theorem dX1_heldRow_1 : decode cX1_heldRow 1 = .ok (.getfield 21, 3) := by decide +kernel
theorem dX1_heldRow_4 : decode cX1_heldRow 4 = .ok (.iload_n 1, 1) := by decide +kernel
theorem dX1_heldRow_5 : decode cX1_heldRow 5 = .ok (.iaload, 1) := by decide +kernel
theorem dX1_heldRow_6 : decode cX1_heldRow 6 = .ok (.iconst 1, 1) := by decide +kernel
theorem dX1_heldRow_7 : decode cX1_heldRow 7 = .ok (.if_icmp .ne 7, 3) := by decide +kernel
theorem dX1_heldRow_10 : decode cX1_heldRow 10 = .ok (.iconst 1, 1) := by decide +kernel
theorem dX1_heldRow_11 : decode cX1_heldRow 11 = .ok (.goto 4, 3) := by decide +kernel
theorem dX1_heldRow_14 : decode cX1_heldRow 14 = .ok (.iconst 0, 1) := by decide +kernel
theorem dX1_heldRow_15 : decode cX1_heldRow 15 = .ok (.ireturn, 1) := by decide +kernel
theorem dX1_heldPlan_0 : decode cX1_heldPlan 0 = .ok (.aload_n 0, 1) := by decide +kernel
theorem dX1_heldPlan_1 : decode cX1_heldPlan 1 = .ok (.getfield 21, 3) := by decide +kernel
theorem dX1_heldPlan_4 : decode cX1_heldPlan 4 = .ok (.iload_n 1, 1) := by decide +kernel
theorem dX1_heldPlan_5 : decode cX1_heldPlan 5 = .ok (.iaload, 1) := by decide +kernel
theorem dX1_heldPlan_6 : decode cX1_heldPlan 6 = .ok (.ifCond .ne 7, 3) := by decide +kernel
theorem dX1_heldPlan_9 : decode cX1_heldPlan 9 = .ok (.iconst 1, 1) := by decide +kernel
theorem dX1_heldPlan_10 : decode cX1_heldPlan 10 = .ok (.goto 4, 3) := by decide +kernel
theorem dX1_heldPlan_13 : decode cX1_heldPlan 13 = .ok (.iconst 0, 1) := by decide +kernel
theorem dX1_heldPlan_14 : decode cX1_heldPlan 14 = .ok (.ireturn, 1) := by decide +kernel
theorem dX5_init_0 : decode cX5_init 0 = .ok (.aload_n 0, 1) := by decide +kernel
theorem dX5_init_1 : decode cX5_init 1 = .ok (.invokespecial 3, 3) := by decide +kernel
theorem dX5_init_4 : decode cX5_init 4 = .ok (.aload_n 0, 1) := by decide +kernel
theorem dX5_init_5 : decode cX5_init 5 = .ok (.iconst 4, 1) := by decide +kernel
theorem dX5_init_6 : decode cX5_init 6 = .ok (.newarray .int, 2) := by decide +kernel
theorem dX5_init_8 : decode cX5_init 8 = .ok (.putfield 11, 3) := by decide +kernel
theorem dX5_init_11 : decode cX5_init 11 = .ok (.aload_n 0, 1) := by decide +kernel
theorem dX5_init_12 : decode cX5_init 12 = .ok (.iconst 4, 1) := by decide +kernel
theorem dX5_init_13 : decode cX5_init 13 = .ok (.newarray .int, 2) := by decide +kernel
theorem dX5_init_15 : decode cX5_init 15 = .ok (.putfield 15, 3) := by decide +kernel
theorem dX5_init_18 : decode cX5_init 18 = .ok (.aload_n 0, 1) := by decide +kernel
theorem dX5_init_19 : decode cX5_init 19 = .ok (.iconst 4, 1) := by decide +kernel
theorem dX5_init_20 : decode cX5_init 20 = .ok (.newarray .int, 2) := by decide +kernel
theorem dX5_init_22 : decode cX5_init 22 = .ok (.putfield 18, 3) := by decide +kernel
theorem dX5_init_25 : decode cX5_init 25 = .ok (.aload_n 0, 1) := by decide +kernel
theorem dX5_init_26 : decode cX5_init 26 = .ok (.iconst 0, 1) := by decide +kernel
theorem dX5_init_27 : decode cX5_init 27 = .ok (.putfield 21, 3) := by decide +kernel
theorem dX5_init_30 : decode cX5_init 30 = .ok (.aload_n 0, 1) := by decide +kernel
theorem dX5_init_31 : decode cX5_init 31 = .ok (.iconst 1, 1) := by decide +kernel
theorem dX5_init_32 : decode cX5_init 32 = .ok (.putfield 25, 3) := by decide +kernel
theorem dX5_init_35 : decode cX5_init 35 = .ok (.return_, 1) := by decide +kernel
theorem dX5_become_0 : decode cX5_become 0 = .ok (.aload_n 1, 1) := by decide +kernel
theorem dX5_become_1 : decode cX5_become 1 = .ok (.getfield 11, 3) := by decide +kernel
theorem dX5_become_4 : decode cX5_become 4 = .ok (.iconst 0, 1) := by decide +kernel
theorem dX5_become_5 : decode cX5_become 5 = .ok (.aload_n 0, 1) := by decide +kernel
theorem dX5_become_6 : decode cX5_become 6 = .ok (.getfield 11, 3) := by decide +kernel
theorem dX5_become_9 : decode cX5_become 9 = .ok (.iconst 0, 1) := by decide +kernel
theorem dX5_become_10 : decode cX5_become 10 = .ok (.iconst 4, 1) := by decide +kernel
theorem dX5_become_11 : decode cX5_become 11 = .ok (.invokestatic 28, 3) := by decide +kernel
theorem dX5_become_14 : decode cX5_become 14 = .ok (.aload_n 1, 1) := by decide +kernel
theorem dX5_become_15 : decode cX5_become 15 = .ok (.getfield 15, 3) := by decide +kernel
theorem dX5_become_18 : decode cX5_become 18 = .ok (.iconst 0, 1) := by decide +kernel
theorem dX5_become_19 : decode cX5_become 19 = .ok (.aload_n 0, 1) := by decide +kernel
theorem dX5_become_20 : decode cX5_become 20 = .ok (.getfield 15, 3) := by decide +kernel
theorem dX5_become_23 : decode cX5_become 23 = .ok (.iconst 0, 1) := by decide +kernel
theorem dX5_become_24 : decode cX5_become 24 = .ok (.iconst 4, 1) := by decide +kernel
theorem dX5_become_25 : decode cX5_become 25 = .ok (.invokestatic 28, 3) := by decide +kernel
theorem dX5_become_28 : decode cX5_become 28 = .ok (.aload_n 0, 1) := by decide +kernel
theorem dX5_become_29 : decode cX5_become 29 = .ok (.aload_n 1, 1) := by decide +kernel
theorem dX5_become_30 : decode cX5_become 30 = .ok (.getfield 21, 3) := by decide +kernel
theorem dX5_become_33 : decode cX5_become 33 = .ok (.putfield 21, 3) := by decide +kernel
theorem dX5_become_36 : decode cX5_become 36 = .ok (.aload_n 0, 1) := by decide +kernel
theorem dX5_become_37 : decode cX5_become 37 = .ok (.aload_n 1, 1) := by decide +kernel
theorem dX5_become_38 : decode cX5_become 38 = .ok (.getfield 25, 3) := by decide +kernel
theorem dX5_become_41 : decode cX5_become 41 = .ok (.putfield 25, 3) := by decide +kernel
theorem dX5_become_44 : decode cX5_become 44 = .ok (.return_, 1) := by decide +kernel
theorem dX5_has_0 : decode cX5_has 0 = .ok (.iload_n 1, 1) := by decide +kernel
theorem dX5_has_1 : decode cX5_has 1 = .ok (.ifCond .lt 15, 3) := by decide +kernel
theorem dX5_has_4 : decode cX5_has 4 = .ok (.iload_n 1, 1) := by decide +kernel
theorem dX5_has_5 : decode cX5_has 5 = .ok (.aload_n 0, 1) := by decide +kernel
theorem dX5_has_6 : decode cX5_has 6 = .ok (.getfield 21, 3) := by decide +kernel
theorem dX5_has_9 : decode cX5_has 9 = .ok (.if_icmp .ge 7, 3) := by decide +kernel
theorem dX5_has_12 : decode cX5_has 12 = .ok (.iconst 1, 1) := by decide +kernel
theorem dX5_has_13 : decode cX5_has 13 = .ok (.goto 4, 3) := by decide +kernel
theorem dX5_has_16 : decode cX5_has 16 = .ok (.iconst 0, 1) := by decide +kernel
theorem dX5_has_17 : decode cX5_has 17 = .ok (.ireturn, 1) := by decide +kernel
theorem dX5_add_0 : decode cX5_add 0 = .ok (.aload_n 0, 1) := by decide +kernel
theorem dX5_add_1 : decode cX5_add 1 = .ok (.getfield 11, 3) := by decide +kernel
theorem dX5_add_4 : decode cX5_add 4 = .ok (.aload_n 0, 1) := by decide +kernel
theorem dX5_add_5 : decode cX5_add 5 = .ok (.getfield 21, 3) := by decide +kernel
theorem dX5_add_8 : decode cX5_add 8 = .ok (.iload_n 1, 1) := by decide +kernel
theorem dX5_add_9 : decode cX5_add 9 = .ok (.iastore, 1) := by decide +kernel
theorem dX5_add_10 : decode cX5_add 10 = .ok (.aload_n 0, 1) := by decide +kernel
theorem dX5_add_11 : decode cX5_add 11 = .ok (.getfield 15, 3) := by decide +kernel
theorem dX5_add_14 : decode cX5_add 14 = .ok (.aload_n 0, 1) := by decide +kernel
theorem dX5_add_15 : decode cX5_add 15 = .ok (.getfield 21, 3) := by decide +kernel
theorem dX5_add_18 : decode cX5_add 18 = .ok (.iload_n 2, 1) := by decide +kernel
theorem dX5_add_19 : decode cX5_add 19 = .ok (.iastore, 1) := by decide +kernel
theorem dX5_add_20 : decode cX5_add 20 = .ok (.aload_n 0, 1) := by decide +kernel
theorem dX5_add_21 : decode cX5_add 21 = .ok (.dup, 1) := by decide +kernel
theorem dX5_add_22 : decode cX5_add 22 = .ok (.getfield 21, 3) := by decide +kernel
theorem dX5_add_25 : decode cX5_add 25 = .ok (.iconst 1, 1) := by decide +kernel
theorem dX5_add_26 : decode cX5_add 26 = .ok (.iadd, 1) := by decide +kernel
theorem dX5_add_27 : decode cX5_add 27 = .ok (.putfield 21, 3) := by decide +kernel
theorem dX5_add_30 : decode cX5_add 30 = .ok (.aload_n 0, 1) := by decide +kernel
theorem dX5_add_31 : decode cX5_add 31 = .ok (.getfield 21, 3) := by decide +kernel
theorem dX5_add_34 : decode cX5_add 34 = .ok (.iconst 1, 1) := by decide +kernel
theorem dX5_add_35 : decode cX5_add 35 = .ok (.isub, 1) := by decide +kernel
theorem dX5_add_36 : decode cX5_add 36 = .ok (.ireturn, 1) := by decide +kernel
theorem dX5_fillDay_0 : decode cX5_fillDay 0 = .ok (.aload_n 0, 1) := by decide +kernel
theorem dX5_fillDay_1 : decode cX5_fillDay 1 = .ok (.getfield 11, 3) := by decide +kernel
theorem dX5_fillDay_4 : decode cX5_fillDay 4 = .ok (.iload_n 2, 1) := by decide +kernel
theorem dX5_fillDay_5 : decode cX5_fillDay 5 = .ok (.iaload, 1) := by decide +kernel
theorem dX5_fillDay_6 : decode cX5_fillDay 6 = .ok (.istore 4, 2) := by decide +kernel
theorem dX5_fillDay_8 : decode cX5_fillDay 8 = .ok (.iload 4, 2) := by decide +kernel
theorem dX5_fillDay_10 : decode cX5_fillDay 10 = .ok (.iconst 5, 1) := by decide +kernel
theorem dX5_fillDay_11 : decode cX5_fillDay 11 = .ok (.if_icmp .ne 20, 3) := by decide +kernel
theorem dX5_fillDay_14 : decode cX5_fillDay 14 = .ok (.aload_n 0, 1) := by decide +kernel
theorem dX5_fillDay_15 : decode cX5_fillDay 15 = .ok (.aload_n 1, 1) := by decide +kernel
theorem dX5_fillDay_16 : decode cX5_fillDay 16 = .ok (.aload_n 0, 1) := by decide +kernel
theorem dX5_fillDay_17 : decode cX5_fillDay 17 = .ok (.getfield 15, 3) := by decide +kernel
theorem dX5_fillDay_20 : decode cX5_fillDay 20 = .ok (.iload_n 2, 1) := by decide +kernel
theorem dX5_fillDay_21 : decode cX5_fillDay 21 = .ok (.iaload, 1) := by decide +kernel
theorem dX5_fillDay_22 : decode cX5_fillDay 22 = .ok (.invokevirtual 36, 3) := by decide +kernel
theorem dX5_fillDay_25 : decode cX5_fillDay 25 = .ok (.ifCond .ne 69, 3) := by decide +kernel
theorem dX5_fillDay_28 : decode cX5_fillDay 28 = .ok (.bipush (-3), 2) := by decide +kernel
theorem dX5_fillDay_30 : decode cX5_fillDay 30 = .ok (.ireturn, 1) := by decide +kernel
theorem dX5_fillDay_31 : decode cX5_fillDay 31 = .ok (.aload_n 0, 1) := by decide +kernel
theorem dX5_fillDay_32 : decode cX5_fillDay 32 = .ok (.aload_n 1, 1) := by decide +kernel
theorem dX5_fillDay_33 : decode cX5_fillDay 33 = .ok (.iload_n 2, 1) := by decide +kernel
theorem dX5_fillDay_34 : decode cX5_fillDay 34 = .ok (.iload_n 3, 1) := by decide +kernel
theorem dX5_fillDay_35 : decode cX5_fillDay 35 = .ok (.invokevirtual 40, 3) := by decide +kernel
theorem dX5_fillDay_38 : decode cX5_fillDay 38 = .ok (.istore 5, 2) := by decide +kernel
theorem dX5_fillDay_40 : decode cX5_fillDay 40 = .ok (.iload 5, 2) := by decide +kernel
theorem dX5_fillDay_42 : decode cX5_fillDay 42 = .ok (.invokestatic 44, 3) := by decide +kernel
theorem dX5_fillDay_45 : decode cX5_fillDay 45 = .ok (.iconst 4, 1) := by decide +kernel
theorem dX5_fillDay_46 : decode cX5_fillDay 46 = .ok (.if_icmp .ge 6, 3) := by decide +kernel
theorem dX5_fillDay_49 : decode cX5_fillDay 49 = .ok (.bipush (-3), 2) := by decide +kernel
theorem dX5_fillDay_51 : decode cX5_fillDay 51 = .ok (.ireturn, 1) := by decide +kernel
theorem dX5_fillDay_52 : decode cX5_fillDay 52 = .ok (.iload 4, 2) := by decide +kernel
theorem dX5_fillDay_54 : decode cX5_fillDay 54 = .ok (.iconst 1, 1) := by decide +kernel
theorem dX5_fillDay_55 : decode cX5_fillDay 55 = .ok (.if_icmp .eq 9, 3) := by decide +kernel
theorem dX5_fillDay_58 : decode cX5_fillDay 58 = .ok (.iload 4, 2) := by decide +kernel
theorem dX5_fillDay_60 : decode cX5_fillDay 60 = .ok (.iconst 4, 1) := by decide +kernel
theorem dX5_fillDay_61 : decode cX5_fillDay 61 = .ok (.if_icmp .ne 14, 3) := by decide +kernel
theorem dX5_fillDay_64 : decode cX5_fillDay 64 = .ok (.aload_n 0, 1) := by decide +kernel
theorem dX5_fillDay_65 : decode cX5_fillDay 65 = .ok (.aload_n 1, 1) := by decide +kernel
theorem dX5_fillDay_66 : decode cX5_fillDay 66 = .ok (.iload 5, 2) := by decide +kernel
theorem dX5_fillDay_68 : decode cX5_fillDay 68 = .ok (.iload_n 3, 1) := by decide +kernel
theorem dX5_fillDay_69 : decode cX5_fillDay 69 = .ok (.invokevirtual 50, 3) := by decide +kernel
theorem dX5_fillDay_72 : decode cX5_fillDay 72 = .ok (.goto 22, 3) := by decide +kernel
theorem dX5_fillDay_75 : decode cX5_fillDay 75 = .ok (.aload_n 0, 1) := by decide +kernel
theorem dX5_fillDay_76 : decode cX5_fillDay 76 = .ok (.iload 5, 2) := by decide +kernel
theorem dX5_fillDay_78 : decode cX5_fillDay 78 = .ok (.invokevirtual 54, 3) := by decide +kernel
theorem dX5_fillDay_81 : decode cX5_fillDay 81 = .ok (.iload 4, 2) := by decide +kernel
theorem dX5_fillDay_83 : decode cX5_fillDay 83 = .ok (.iconst 3, 1) := by decide +kernel
theorem dX5_fillDay_84 : decode cX5_fillDay 84 = .ok (.if_icmp .ne 10, 3) := by decide +kernel
theorem dX5_fillDay_87 : decode cX5_fillDay 87 = .ok (.aload_n 0, 1) := by decide +kernel
theorem dX5_fillDay_88 : decode cX5_fillDay 88 = .ok (.aload_n 1, 1) := by decide +kernel
theorem dX5_fillDay_89 : decode cX5_fillDay 89 = .ok (.iload 5, 2) := by decide +kernel
theorem dX5_fillDay_91 : decode cX5_fillDay 91 = .ok (.invokevirtual 58, 3) := by decide +kernel
theorem dX5_fillDay_94 : decode cX5_fillDay 94 = .ok (.aload_n 0, 1) := by decide +kernel
theorem dX5_fillDay_95 : decode cX5_fillDay 95 = .ok (.aload_n 1, 1) := by decide +kernel
theorem dX5_fillDay_96 : decode cX5_fillDay 96 = .ok (.iload_n 3, 1) := by decide +kernel
theorem dX5_fillDay_97 : decode cX5_fillDay 97 = .ok (.invokevirtual 62, 3) := by decide +kernel
theorem dX5_fillDay_100 : decode cX5_fillDay 100 = .ok (.ireturn, 1) := by decide +kernel
theorem dX5_presentFor_0 : decode cX5_presentFor 0 = .ok (.iconst 0, 1) := by decide +kernel
theorem dX5_presentFor_1 : decode cX5_presentFor 1 = .ok (.istore 4, 2) := by decide +kernel
theorem dX5_presentFor_3 : decode cX5_presentFor 3 = .ok (.iconst (-1), 1) := by decide +kernel
theorem dX5_presentFor_4 : decode cX5_presentFor 4 = .ok (.istore 5, 2) := by decide +kernel
theorem dX5_presentFor_6 : decode cX5_presentFor 6 = .ok (.aload_n 0, 1) := by decide +kernel
theorem dX5_presentFor_7 : decode cX5_presentFor 7 = .ok (.getfield 11, 3) := by decide +kernel
theorem dX5_presentFor_10 : decode cX5_presentFor 10 = .ok (.iload_n 2, 1) := by decide +kernel
theorem dX5_presentFor_11 : decode cX5_presentFor 11 = .ok (.iaload, 1) := by decide +kernel
theorem dX5_presentFor_12 : decode cX5_presentFor 12 = .ok (.iconst 4, 1) := by decide +kernel
theorem dX5_presentFor_13 : decode cX5_presentFor 13 = .ok (.if_icmp .ne 25, 3) := by decide +kernel
theorem dX5_presentFor_16 : decode cX5_presentFor 16 = .ok (.aload_n 1, 1) := by decide +kernel
theorem dX5_presentFor_17 : decode cX5_presentFor 17 = .ok (.getfield 66, 3) := by decide +kernel
theorem dX5_presentFor_20 : decode cX5_presentFor 20 = .ok (.ifCond .le 18, 3) := by decide +kernel
theorem dX5_presentFor_23 : decode cX5_presentFor 23 = .ok (.aload_n 0, 1) := by decide +kernel
theorem dX5_presentFor_24 : decode cX5_presentFor 24 = .ok (.getfield 15, 3) := by decide +kernel
theorem dX5_presentFor_27 : decode cX5_presentFor 27 = .ok (.iload_n 2, 1) := by decide +kernel
theorem dX5_presentFor_28 : decode cX5_presentFor 28 = .ok (.iaload, 1) := by decide +kernel
theorem dX5_presentFor_29 : decode cX5_presentFor 29 = .ok (.iload_n 3, 1) := by decide +kernel
theorem dX5_presentFor_30 : decode cX5_presentFor 30 = .ok (.iadd, 1) := by decide +kernel
theorem dX5_presentFor_31 : decode cX5_presentFor 31 = .ok (.aload_n 1, 1) := by decide +kernel
theorem dX5_presentFor_32 : decode cX5_presentFor 32 = .ok (.getfield 66, 3) := by decide +kernel
theorem dX5_presentFor_35 : decode cX5_presentFor 35 = .ok (.irem, 1) := by decide +kernel
theorem dX5_presentFor_36 : decode cX5_presentFor 36 = .ok (.istore 5, 2) := by decide +kernel
theorem dX5_presentFor_38 : decode cX5_presentFor 38 = .ok (.iconst 0, 1) := by decide +kernel
theorem dX5_presentFor_39 : decode cX5_presentFor 39 = .ok (.istore 6, 2) := by decide +kernel
theorem dX5_presentFor_41 : decode cX5_presentFor 41 = .ok (.iload 6, 2) := by decide +kernel
theorem dX5_presentFor_43 : decode cX5_presentFor 43 = .ok (.aload_n 1, 1) := by decide +kernel
theorem dX5_presentFor_44 : decode cX5_presentFor 44 = .ok (.getfield 66, 3) := by decide +kernel
theorem dX5_presentFor_47 : decode cX5_presentFor 47 = .ok (.if_icmp .ge 35, 3) := by decide +kernel
theorem dX5_presentFor_50 : decode cX5_presentFor 50 = .ok (.iload 6, 2) := by decide +kernel
theorem dX5_presentFor_52 : decode cX5_presentFor 52 = .ok (.iload 5, 2) := by decide +kernel
theorem dX5_presentFor_54 : decode cX5_presentFor 54 = .ok (.if_icmp .eq 22, 3) := by decide +kernel
theorem dX5_presentFor_57 : decode cX5_presentFor 57 = .ok (.aload_n 1, 1) := by decide +kernel
theorem dX5_presentFor_58 : decode cX5_presentFor 58 = .ok (.iload 6, 2) := by decide +kernel
theorem dX5_presentFor_60 : decode cX5_presentFor 60 = .ok (.iload_n 3, 1) := by decide +kernel
theorem dX5_presentFor_61 : decode cX5_presentFor 61 = .ok (.invokevirtual 71, 3) := by decide +kernel
theorem dX5_presentFor_64 : decode cX5_presentFor 64 = .ok (.ifCond .ne 12, 3) := by decide +kernel
theorem dX5_presentFor_67 : decode cX5_presentFor 67 = .ok (.iload 4, 2) := by decide +kernel
theorem dX5_presentFor_69 : decode cX5_presentFor 69 = .ok (.iconst 1, 1) := by decide +kernel
theorem dX5_presentFor_70 : decode cX5_presentFor 70 = .ok (.iload 6, 2) := by decide +kernel
theorem dX5_presentFor_72 : decode cX5_presentFor 72 = .ok (.ishl, 1) := by decide +kernel
theorem dX5_presentFor_73 : decode cX5_presentFor 73 = .ok (.ior, 1) := by decide +kernel
theorem dX5_presentFor_74 : decode cX5_presentFor 74 = .ok (.istore 4, 2) := by decide +kernel
theorem dX5_presentFor_76 : decode cX5_presentFor 76 = .ok (.iinc 6 1, 3) := by decide +kernel
theorem dX5_presentFor_79 : decode cX5_presentFor 79 = .ok (.goto (-38), 3) := by decide +kernel
theorem dX5_presentFor_82 : decode cX5_presentFor 82 = .ok (.iload 4, 2) := by decide +kernel
theorem dX5_presentFor_84 : decode cX5_presentFor 84 = .ok (.ireturn, 1) := by decide +kernel
theorem dX5_seatTold_0 : decode cX5_seatTold 0 = .ok (.iconst 0, 1) := by decide +kernel
theorem dX5_seatTold_1 : decode cX5_seatTold 1 = .ok (.istore_n 3, 1) := by decide +kernel
theorem dX5_seatTold_2 : decode cX5_seatTold 2 = .ok (.iload_n 3, 1) := by decide +kernel
theorem dX5_seatTold_3 : decode cX5_seatTold 3 = .ok (.iconst 4, 1) := by decide +kernel
theorem dX5_seatTold_4 : decode cX5_seatTold 4 = .ok (.if_icmp .ge 38, 3) := by decide +kernel
theorem dX5_seatTold_7 : decode cX5_seatTold 7 = .ok (.aload_n 0, 1) := by decide +kernel
theorem dX5_seatTold_8 : decode cX5_seatTold 8 = .ok (.getfield 18, 3) := by decide +kernel
theorem dX5_seatTold_11 : decode cX5_seatTold 11 = .ok (.iload_n 3, 1) := by decide +kernel
theorem dX5_seatTold_12 : decode cX5_seatTold 12 = .ok (.iload_n 2, 1) := by decide +kernel
theorem dX5_seatTold_13 : decode cX5_seatTold 13 = .ok (.iconst 3, 1) := by decide +kernel
theorem dX5_seatTold_14 : decode cX5_seatTold 14 = .ok (.iload_n 3, 1) := by decide +kernel
theorem dX5_seatTold_15 : decode cX5_seatTold 15 = .ok (.imul, 1) := by decide +kernel
theorem dX5_seatTold_16 : decode cX5_seatTold 16 = .ok (.ishr, 1) := by decide +kernel
theorem dX5_seatTold_17 : decode cX5_seatTold 17 = .ok (.bipush 7, 2) := by decide +kernel
theorem dX5_seatTold_19 : decode cX5_seatTold 19 = .ok (.iand, 1) := by decide +kernel
theorem dX5_seatTold_20 : decode cX5_seatTold 20 = .ok (.iastore, 1) := by decide +kernel
theorem dX5_seatTold_21 : decode cX5_seatTold 21 = .ok (.aload_n 1, 1) := by decide +kernel
theorem dX5_seatTold_22 : decode cX5_seatTold 22 = .ok (.aload_n 0, 1) := by decide +kernel
theorem dX5_seatTold_23 : decode cX5_seatTold 23 = .ok (.getfield 18, 3) := by decide +kernel
theorem dX5_seatTold_26 : decode cX5_seatTold 26 = .ok (.iload_n 3, 1) := by decide +kernel
theorem dX5_seatTold_27 : decode cX5_seatTold 27 = .ok (.iaload, 1) := by decide +kernel
theorem dX5_seatTold_28 : decode cX5_seatTold 28 = .ok (.invokevirtual 75, 3) := by decide +kernel
theorem dX5_seatTold_31 : decode cX5_seatTold 31 = .ok (.ifCond .ne 5, 3) := by decide +kernel
theorem dX5_seatTold_34 : decode cX5_seatTold 34 = .ok (.iconst 0, 1) := by decide +kernel
theorem dX5_seatTold_35 : decode cX5_seatTold 35 = .ok (.ireturn, 1) := by decide +kernel
theorem dX5_seatTold_36 : decode cX5_seatTold 36 = .ok (.iinc 3 1, 3) := by decide +kernel
theorem dX5_seatTold_39 : decode cX5_seatTold 39 = .ok (.goto (-37), 3) := by decide +kernel
theorem dX5_seatTold_42 : decode cX5_seatTold 42 = .ok (.iconst 1, 1) := by decide +kernel
theorem dX5_seatTold_43 : decode cX5_seatTold 43 = .ok (.ireturn, 1) := by decide +kernel
theorem dX5_seatByTurn_0 : decode cX5_seatByTurn 0 = .ok (.aload_n 1, 1) := by decide +kernel
theorem dX5_seatByTurn_1 : decode cX5_seatByTurn 1 = .ok (.iload_n 2, 1) := by decide +kernel
theorem dX5_seatByTurn_2 : decode cX5_seatByTurn 2 = .ok (.iload_n 3, 1) := by decide +kernel
theorem dX5_seatByTurn_3 : decode cX5_seatByTurn 3 = .ok (.iconst 0, 1) := by decide +kernel
theorem dX5_seatByTurn_4 : decode cX5_seatByTurn 4 = .ok (.invokestatic 79, 3) := by decide +kernel
theorem dX5_seatByTurn_7 : decode cX5_seatByTurn 7 = .ok (.istore 4, 2) := by decide +kernel
theorem dX5_seatByTurn_9 : decode cX5_seatByTurn 9 = .ok (.iload 4, 2) := by decide +kernel
theorem dX5_seatByTurn_11 : decode cX5_seatByTurn 11 = .ok (.iconst (-1), 1) := by decide +kernel
theorem dX5_seatByTurn_12 : decode cX5_seatByTurn 12 = .ok (.if_icmp .ne 12, 3) := by decide +kernel
theorem dX5_seatByTurn_15 : decode cX5_seatByTurn 15 = .ok (.aload_n 1, 1) := by decide +kernel
theorem dX5_seatByTurn_16 : decode cX5_seatByTurn 16 = .ok (.iload_n 2, 1) := by decide +kernel
theorem dX5_seatByTurn_17 : decode cX5_seatByTurn 17 = .ok (.iload_n 3, 1) := by decide +kernel
theorem dX5_seatByTurn_18 : decode cX5_seatByTurn 18 = .ok (.iconst 1, 1) := by decide +kernel
theorem dX5_seatByTurn_19 : decode cX5_seatByTurn 19 = .ok (.invokestatic 79, 3) := by decide +kernel
theorem dX5_seatByTurn_22 : decode cX5_seatByTurn 22 = .ok (.istore 4, 2) := by decide +kernel
theorem dX5_seatByTurn_24 : decode cX5_seatByTurn 24 = .ok (.aload_n 0, 1) := by decide +kernel
theorem dX5_seatByTurn_25 : decode cX5_seatByTurn 25 = .ok (.getfield 18, 3) := by decide +kernel
theorem dX5_seatByTurn_28 : decode cX5_seatByTurn 28 = .ok (.iconst 0, 1) := by decide +kernel
theorem dX5_seatByTurn_29 : decode cX5_seatByTurn 29 = .ok (.iload 4, 2) := by decide +kernel
theorem dX5_seatByTurn_31 : decode cX5_seatByTurn 31 = .ok (.bipush 8, 2) := by decide +kernel
theorem dX5_seatByTurn_33 : decode cX5_seatByTurn 33 = .ok (.idiv, 1) := by decide +kernel
theorem dX5_seatByTurn_34 : decode cX5_seatByTurn 34 = .ok (.iastore, 1) := by decide +kernel
theorem dX5_seatByTurn_35 : decode cX5_seatByTurn 35 = .ok (.aload_n 0, 1) := by decide +kernel
theorem dX5_seatByTurn_36 : decode cX5_seatByTurn 36 = .ok (.getfield 18, 3) := by decide +kernel
theorem dX5_seatByTurn_39 : decode cX5_seatByTurn 39 = .ok (.iconst 1, 1) := by decide +kernel
theorem dX5_seatByTurn_40 : decode cX5_seatByTurn 40 = .ok (.iload 4, 2) := by decide +kernel
theorem dX5_seatByTurn_42 : decode cX5_seatByTurn 42 = .ok (.bipush 8, 2) := by decide +kernel
theorem dX5_seatByTurn_44 : decode cX5_seatByTurn 44 = .ok (.irem, 1) := by decide +kernel
theorem dX5_seatByTurn_45 : decode cX5_seatByTurn 45 = .ok (.iastore, 1) := by decide +kernel
theorem dX5_seatByTurn_46 : decode cX5_seatByTurn 46 = .ok (.iload_n 2, 1) := by decide +kernel
theorem dX5_seatByTurn_47 : decode cX5_seatByTurn 47 = .ok (.iconst 1, 1) := by decide +kernel
theorem dX5_seatByTurn_48 : decode cX5_seatByTurn 48 = .ok (.aload_n 0, 1) := by decide +kernel
theorem dX5_seatByTurn_49 : decode cX5_seatByTurn 49 = .ok (.getfield 18, 3) := by decide +kernel
theorem dX5_seatByTurn_52 : decode cX5_seatByTurn 52 = .ok (.iconst 0, 1) := by decide +kernel
theorem dX5_seatByTurn_53 : decode cX5_seatByTurn 53 = .ok (.iaload, 1) := by decide +kernel
theorem dX5_seatByTurn_54 : decode cX5_seatByTurn 54 = .ok (.ishl, 1) := by decide +kernel
theorem dX5_seatByTurn_55 : decode cX5_seatByTurn 55 = .ok (.iconst (-1), 1) := by decide +kernel
theorem dX5_seatByTurn_56 : decode cX5_seatByTurn 56 = .ok (.ixor, 1) := by decide +kernel
theorem dX5_seatByTurn_57 : decode cX5_seatByTurn 57 = .ok (.iand, 1) := by decide +kernel
theorem dX5_seatByTurn_58 : decode cX5_seatByTurn 58 = .ok (.iconst 1, 1) := by decide +kernel
theorem dX5_seatByTurn_59 : decode cX5_seatByTurn 59 = .ok (.aload_n 0, 1) := by decide +kernel
theorem dX5_seatByTurn_60 : decode cX5_seatByTurn 60 = .ok (.getfield 18, 3) := by decide +kernel
theorem dX5_seatByTurn_63 : decode cX5_seatByTurn 63 = .ok (.iconst 1, 1) := by decide +kernel
theorem dX5_seatByTurn_64 : decode cX5_seatByTurn 64 = .ok (.iaload, 1) := by decide +kernel
theorem dX5_seatByTurn_65 : decode cX5_seatByTurn 65 = .ok (.ishl, 1) := by decide +kernel
theorem dX5_seatByTurn_66 : decode cX5_seatByTurn 66 = .ok (.iconst (-1), 1) := by decide +kernel
theorem dX5_seatByTurn_67 : decode cX5_seatByTurn 67 = .ok (.ixor, 1) := by decide +kernel
theorem dX5_seatByTurn_68 : decode cX5_seatByTurn 68 = .ok (.iand, 1) := by decide +kernel
theorem dX5_seatByTurn_69 : decode cX5_seatByTurn 69 = .ok (.istore 5, 2) := by decide +kernel
theorem dX5_seatByTurn_71 : decode cX5_seatByTurn 71 = .ok (.aload_n 0, 1) := by decide +kernel
theorem dX5_seatByTurn_72 : decode cX5_seatByTurn 72 = .ok (.getfield 18, 3) := by decide +kernel
theorem dX5_seatByTurn_75 : decode cX5_seatByTurn 75 = .ok (.iconst 2, 1) := by decide +kernel
theorem dX5_seatByTurn_76 : decode cX5_seatByTurn 76 = .ok (.iload 5, 2) := by decide +kernel
theorem dX5_seatByTurn_78 : decode cX5_seatByTurn 78 = .ok (.invokestatic 83, 3) := by decide +kernel
theorem dX5_seatByTurn_81 : decode cX5_seatByTurn 81 = .ok (.iastore, 1) := by decide +kernel
theorem dX5_seatByTurn_82 : decode cX5_seatByTurn 82 = .ok (.aload_n 0, 1) := by decide +kernel
theorem dX5_seatByTurn_83 : decode cX5_seatByTurn 83 = .ok (.getfield 18, 3) := by decide +kernel
theorem dX5_seatByTurn_86 : decode cX5_seatByTurn 86 = .ok (.iconst 3, 1) := by decide +kernel
theorem dX5_seatByTurn_87 : decode cX5_seatByTurn 87 = .ok (.iload 5, 2) := by decide +kernel
theorem dX5_seatByTurn_89 : decode cX5_seatByTurn 89 = .ok (.iconst 1, 1) := by decide +kernel
theorem dX5_seatByTurn_90 : decode cX5_seatByTurn 90 = .ok (.aload_n 0, 1) := by decide +kernel
theorem dX5_seatByTurn_91 : decode cX5_seatByTurn 91 = .ok (.getfield 18, 3) := by decide +kernel
theorem dX5_seatByTurn_94 : decode cX5_seatByTurn 94 = .ok (.iconst 2, 1) := by decide +kernel
theorem dX5_seatByTurn_95 : decode cX5_seatByTurn 95 = .ok (.iaload, 1) := by decide +kernel
theorem dX5_seatByTurn_96 : decode cX5_seatByTurn 96 = .ok (.ishl, 1) := by decide +kernel
theorem dX5_seatByTurn_97 : decode cX5_seatByTurn 97 = .ok (.iconst (-1), 1) := by decide +kernel
theorem dX5_seatByTurn_98 : decode cX5_seatByTurn 98 = .ok (.ixor, 1) := by decide +kernel
theorem dX5_seatByTurn_99 : decode cX5_seatByTurn 99 = .ok (.iand, 1) := by decide +kernel
theorem dX5_seatByTurn_100 : decode cX5_seatByTurn 100 = .ok (.invokestatic 83, 3) := by decide +kernel
theorem dX5_seatByTurn_103 : decode cX5_seatByTurn 103 = .ok (.iastore, 1) := by decide +kernel
theorem dX5_seatByTurn_104 : decode cX5_seatByTurn 104 = .ok (.return_, 1) := by decide +kernel
theorem dX5_longestApart_0 : decode cX5_longestApart 0 = .ok (.iconst (-1), 1) := by decide +kernel
theorem dX5_longestApart_1 : decode cX5_longestApart 1 = .ok (.istore 4, 2) := by decide +kernel
theorem dX5_longestApart_3 : decode cX5_longestApart 3 = .ok (.bipush 10, 2) := by decide +kernel
theorem dX5_longestApart_5 : decode cX5_longestApart 5 = .ok (.istore 5, 2) := by decide +kernel
theorem dX5_longestApart_7 : decode cX5_longestApart 7 = .ok (.iconst 0, 1) := by decide +kernel
theorem dX5_longestApart_8 : decode cX5_longestApart 8 = .ok (.istore 6, 2) := by decide +kernel
theorem dX5_longestApart_10 : decode cX5_longestApart 10 = .ok (.iload 6, 2) := by decide +kernel
theorem dX5_longestApart_12 : decode cX5_longestApart 12 = .ok (.bipush 8, 2) := by decide +kernel
theorem dX5_longestApart_14 : decode cX5_longestApart 14 = .ok (.if_icmp .ge 95, 3) := by decide +kernel
theorem dX5_longestApart_17 : decode cX5_longestApart 17 = .ok (.iload 6, 2) := by decide +kernel
theorem dX5_longestApart_19 : decode cX5_longestApart 19 = .ok (.iconst 1, 1) := by decide +kernel
theorem dX5_longestApart_20 : decode cX5_longestApart 20 = .ok (.iadd, 1) := by decide +kernel
theorem dX5_longestApart_21 : decode cX5_longestApart 21 = .ok (.istore 7, 2) := by decide +kernel
theorem dX5_longestApart_23 : decode cX5_longestApart 23 = .ok (.iload 7, 2) := by decide +kernel
theorem dX5_longestApart_25 : decode cX5_longestApart 25 = .ok (.bipush 8, 2) := by decide +kernel
theorem dX5_longestApart_27 : decode cX5_longestApart 27 = .ok (.if_icmp .ge 76, 3) := by decide +kernel
theorem dX5_longestApart_30 : decode cX5_longestApart 30 = .ok (.iload_n 1, 1) := by decide +kernel
theorem dX5_longestApart_31 : decode cX5_longestApart 31 = .ok (.iload 6, 2) := by decide +kernel
theorem dX5_longestApart_33 : decode cX5_longestApart 33 = .ok (.invokestatic 86, 3) := by decide +kernel
theorem dX5_longestApart_36 : decode cX5_longestApart 36 = .ok (.ifCond .eq 61, 3) := by decide +kernel
theorem dX5_longestApart_39 : decode cX5_longestApart 39 = .ok (.iload_n 1, 1) := by decide +kernel
theorem dX5_longestApart_40 : decode cX5_longestApart 40 = .ok (.iload 7, 2) := by decide +kernel
theorem dX5_longestApart_42 : decode cX5_longestApart 42 = .ok (.invokestatic 86, 3) := by decide +kernel
theorem dX5_longestApart_45 : decode cX5_longestApart 45 = .ok (.ifCond .eq 52, 3) := by decide +kernel
theorem dX5_longestApart_48 : decode cX5_longestApart 48 = .ok (.iload_n 3, 1) := by decide +kernel
theorem dX5_longestApart_49 : decode cX5_longestApart 49 = .ok (.ifCond .ne 14, 3) := by decide +kernel
theorem dX5_longestApart_52 : decode cX5_longestApart 52 = .ok (.aload_n 0, 1) := by decide +kernel
theorem dX5_longestApart_53 : decode cX5_longestApart 53 = .ok (.iload 6, 2) := by decide +kernel
theorem dX5_longestApart_55 : decode cX5_longestApart 55 = .ok (.iload 7, 2) := by decide +kernel
theorem dX5_longestApart_57 : decode cX5_longestApart 57 = .ok (.invokevirtual 89, 3) := by decide +kernel
theorem dX5_longestApart_60 : decode cX5_longestApart 60 = .ok (.ifCond .ne 37, 3) := by decide +kernel
theorem dX5_longestApart_63 : decode cX5_longestApart 63 = .ok (.aload_n 0, 1) := by decide +kernel
theorem dX5_longestApart_64 : decode cX5_longestApart 64 = .ok (.iload 6, 2) := by decide +kernel
theorem dX5_longestApart_66 : decode cX5_longestApart 66 = .ok (.iload 7, 2) := by decide +kernel
theorem dX5_longestApart_68 : decode cX5_longestApart 68 = .ok (.invokestatic 92, 3) := by decide +kernel
theorem dX5_longestApart_71 : decode cX5_longestApart 71 = .ok (.iload_n 2, 1) := by decide +kernel
theorem dX5_longestApart_72 : decode cX5_longestApart 72 = .ok (.invokevirtual 96, 3) := by decide +kernel
theorem dX5_longestApart_75 : decode cX5_longestApart 75 = .ok (.istore 8, 2) := by decide +kernel
theorem dX5_longestApart_77 : decode cX5_longestApart 77 = .ok (.iload 8, 2) := by decide +kernel
theorem dX5_longestApart_79 : decode cX5_longestApart 79 = .ok (.iload 5, 2) := by decide +kernel
theorem dX5_longestApart_81 : decode cX5_longestApart 81 = .ok (.if_icmp .ge 16, 3) := by decide +kernel
theorem dX5_longestApart_84 : decode cX5_longestApart 84 = .ok (.iload 8, 2) := by decide +kernel
theorem dX5_longestApart_86 : decode cX5_longestApart 86 = .ok (.istore 5, 2) := by decide +kernel
theorem dX5_longestApart_88 : decode cX5_longestApart 88 = .ok (.iload 6, 2) := by decide +kernel
theorem dX5_longestApart_90 : decode cX5_longestApart 90 = .ok (.iload 7, 2) := by decide +kernel
theorem dX5_longestApart_92 : decode cX5_longestApart 92 = .ok (.invokestatic 92, 3) := by decide +kernel
theorem dX5_longestApart_95 : decode cX5_longestApart 95 = .ok (.istore 4, 2) := by decide +kernel
theorem dX5_longestApart_97 : decode cX5_longestApart 97 = .ok (.iinc 7 1, 3) := by decide +kernel
theorem dX5_longestApart_100 : decode cX5_longestApart 100 = .ok (.goto (-77), 3) := by decide +kernel
theorem dX5_longestApart_103 : decode cX5_longestApart 103 = .ok (.iinc 6 1, 3) := by decide +kernel
theorem dX5_longestApart_106 : decode cX5_longestApart 106 = .ok (.goto (-96), 3) := by decide +kernel
theorem dX5_longestApart_109 : decode cX5_longestApart 109 = .ok (.iload 4, 2) := by decide +kernel
theorem dX5_longestApart_111 : decode cX5_longestApart 111 = .ok (.ireturn, 1) := by decide +kernel
theorem dX5_seatByDraw_0 : decode cX5_seatByDraw 0 = .ok (.iload_n 1, 1) := by decide +kernel
theorem dX5_seatByDraw_1 : decode cX5_seatByDraw 1 = .ok (.istore_n 2, 1) := by decide +kernel
theorem dX5_seatByDraw_2 : decode cX5_seatByDraw 2 = .ok (.iconst 0, 1) := by decide +kernel
theorem dX5_seatByDraw_3 : decode cX5_seatByDraw 3 = .ok (.istore_n 3, 1) := by decide +kernel
theorem dX5_seatByDraw_4 : decode cX5_seatByDraw 4 = .ok (.iload_n 3, 1) := by decide +kernel
theorem dX5_seatByDraw_5 : decode cX5_seatByDraw 5 = .ok (.iconst 4, 1) := by decide +kernel
theorem dX5_seatByDraw_6 : decode cX5_seatByDraw 6 = .ok (.if_icmp .ge 48, 3) := by decide +kernel
theorem dX5_seatByDraw_9 : decode cX5_seatByDraw 9 = .ok (.aload_n 0, 1) := by decide +kernel
theorem dX5_seatByDraw_10 : decode cX5_seatByDraw 10 = .ok (.aload_n 0, 1) := by decide +kernel
theorem dX5_seatByDraw_11 : decode cX5_seatByDraw 11 = .ok (.getfield 25, 3) := by decide +kernel
theorem dX5_seatByDraw_14 : decode cX5_seatByDraw 14 = .ok (.ldc 99, 2) := by decide +kernel
theorem dX5_seatByDraw_16 : decode cX5_seatByDraw 16 = .ok (.imul, 1) := by decide +kernel
theorem dX5_seatByDraw_17 : decode cX5_seatByDraw 17 = .ok (.sipush 12345, 3) := by decide +kernel
theorem dX5_seatByDraw_20 : decode cX5_seatByDraw 20 = .ok (.iadd, 1) := by decide +kernel
theorem dX5_seatByDraw_21 : decode cX5_seatByDraw 21 = .ok (.putfield 25, 3) := by decide +kernel
theorem dX5_seatByDraw_24 : decode cX5_seatByDraw 24 = .ok (.aload_n 0, 1) := by decide +kernel
theorem dX5_seatByDraw_25 : decode cX5_seatByDraw 25 = .ok (.getfield 18, 3) := by decide +kernel
theorem dX5_seatByDraw_28 : decode cX5_seatByDraw 28 = .ok (.iload_n 3, 1) := by decide +kernel
theorem dX5_seatByDraw_29 : decode cX5_seatByDraw 29 = .ok (.aload_n 0, 1) := by decide +kernel
theorem dX5_seatByDraw_30 : decode cX5_seatByDraw 30 = .ok (.iload_n 2, 1) := by decide +kernel
theorem dX5_seatByDraw_31 : decode cX5_seatByDraw 31 = .ok (.invokevirtual 100, 3) := by decide +kernel
theorem dX5_seatByDraw_34 : decode cX5_seatByDraw 34 = .ok (.iastore, 1) := by decide +kernel
theorem dX5_seatByDraw_35 : decode cX5_seatByDraw 35 = .ok (.iload_n 2, 1) := by decide +kernel
theorem dX5_seatByDraw_36 : decode cX5_seatByDraw 36 = .ok (.iconst 1, 1) := by decide +kernel
theorem dX5_seatByDraw_37 : decode cX5_seatByDraw 37 = .ok (.aload_n 0, 1) := by decide +kernel
theorem dX5_seatByDraw_38 : decode cX5_seatByDraw 38 = .ok (.getfield 18, 3) := by decide +kernel
theorem dX5_seatByDraw_41 : decode cX5_seatByDraw 41 = .ok (.iload_n 3, 1) := by decide +kernel
theorem dX5_seatByDraw_42 : decode cX5_seatByDraw 42 = .ok (.iaload, 1) := by decide +kernel
theorem dX5_seatByDraw_43 : decode cX5_seatByDraw 43 = .ok (.ishl, 1) := by decide +kernel
theorem dX5_seatByDraw_44 : decode cX5_seatByDraw 44 = .ok (.iconst (-1), 1) := by decide +kernel
theorem dX5_seatByDraw_45 : decode cX5_seatByDraw 45 = .ok (.ixor, 1) := by decide +kernel
theorem dX5_seatByDraw_46 : decode cX5_seatByDraw 46 = .ok (.iand, 1) := by decide +kernel
theorem dX5_seatByDraw_47 : decode cX5_seatByDraw 47 = .ok (.istore_n 2, 1) := by decide +kernel
theorem dX5_seatByDraw_48 : decode cX5_seatByDraw 48 = .ok (.iinc 3 1, 3) := by decide +kernel
theorem dX5_seatByDraw_51 : decode cX5_seatByDraw 51 = .ok (.goto (-47), 3) := by decide +kernel
theorem dX5_seatByDraw_54 : decode cX5_seatByDraw 54 = .ok (.return_, 1) := by decide +kernel
theorem dX5_drawFrom_0 : decode cX5_drawFrom 0 = .ok (.iload_n 1, 1) := by decide +kernel
theorem dX5_drawFrom_1 : decode cX5_drawFrom 1 = .ok (.invokestatic 44, 3) := by decide +kernel
theorem dX5_drawFrom_4 : decode cX5_drawFrom 4 = .ok (.istore_n 2, 1) := by decide +kernel
theorem dX5_drawFrom_5 : decode cX5_drawFrom 5 = .ok (.iload_n 2, 1) := by decide +kernel
theorem dX5_drawFrom_6 : decode cX5_drawFrom 6 = .ok (.ifCond .le 15, 3) := by decide +kernel
theorem dX5_drawFrom_9 : decode cX5_drawFrom 9 = .ok (.aload_n 0, 1) := by decide +kernel
theorem dX5_drawFrom_10 : decode cX5_drawFrom 10 = .ok (.getfield 25, 3) := by decide +kernel
theorem dX5_drawFrom_13 : decode cX5_drawFrom 13 = .ok (.bipush 16, 2) := by decide +kernel
theorem dX5_drawFrom_15 : decode cX5_drawFrom 15 = .ok (.iushr, 1) := by decide +kernel
theorem dX5_drawFrom_16 : decode cX5_drawFrom 16 = .ok (.iload_n 2, 1) := by decide +kernel
theorem dX5_drawFrom_17 : decode cX5_drawFrom 17 = .ok (.irem, 1) := by decide +kernel
theorem dX5_drawFrom_18 : decode cX5_drawFrom 18 = .ok (.goto 4, 3) := by decide +kernel
theorem dX5_drawFrom_21 : decode cX5_drawFrom 21 = .ok (.iconst 0, 1) := by decide +kernel
theorem dX5_drawFrom_22 : decode cX5_drawFrom 22 = .ok (.istore_n 3, 1) := by decide +kernel
theorem dX5_drawFrom_23 : decode cX5_drawFrom 23 = .ok (.iconst 0, 1) := by decide +kernel
theorem dX5_drawFrom_24 : decode cX5_drawFrom 24 = .ok (.istore 4, 2) := by decide +kernel
theorem dX5_drawFrom_26 : decode cX5_drawFrom 26 = .ok (.iload 4, 2) := by decide +kernel
theorem dX5_drawFrom_28 : decode cX5_drawFrom 28 = .ok (.iload_n 3, 1) := by decide +kernel
theorem dX5_drawFrom_29 : decode cX5_drawFrom 29 = .ok (.if_icmp .ge 15, 3) := by decide +kernel
theorem dX5_drawFrom_32 : decode cX5_drawFrom 32 = .ok (.iload_n 1, 1) := by decide +kernel
theorem dX5_drawFrom_33 : decode cX5_drawFrom 33 = .ok (.iload_n 1, 1) := by decide +kernel
theorem dX5_drawFrom_34 : decode cX5_drawFrom 34 = .ok (.iconst 1, 1) := by decide +kernel
theorem dX5_drawFrom_35 : decode cX5_drawFrom 35 = .ok (.isub, 1) := by decide +kernel
theorem dX5_drawFrom_36 : decode cX5_drawFrom 36 = .ok (.iand, 1) := by decide +kernel
theorem dX5_drawFrom_37 : decode cX5_drawFrom 37 = .ok (.istore_n 1, 1) := by decide +kernel
theorem dX5_drawFrom_38 : decode cX5_drawFrom 38 = .ok (.iinc 4 1, 3) := by decide +kernel
theorem dX5_drawFrom_41 : decode cX5_drawFrom 41 = .ok (.goto (-15), 3) := by decide +kernel
theorem dX5_drawFrom_44 : decode cX5_drawFrom 44 = .ok (.iload_n 1, 1) := by decide +kernel
theorem dX5_drawFrom_45 : decode cX5_drawFrom 45 = .ok (.invokestatic 83, 3) := by decide +kernel
theorem dX5_drawFrom_48 : decode cX5_drawFrom 48 = .ok (.ireturn, 1) := by decide +kernel
theorem dX5_seatStranger_0 : decode cX5_seatStranger 0 = .ok (.aload_n 1, 1) := by decide +kernel
theorem dX5_seatStranger_1 : decode cX5_seatStranger 1 = .ok (.getfield 103, 3) := by decide +kernel
theorem dX5_seatStranger_4 : decode cX5_seatStranger 4 = .ok (.aload_n 0, 1) := by decide +kernel
theorem dX5_seatStranger_5 : decode cX5_seatStranger 5 = .ok (.getfield 18, 3) := by decide +kernel
theorem dX5_seatStranger_8 : decode cX5_seatStranger 8 = .ok (.iconst 0, 1) := by decide +kernel
theorem dX5_seatStranger_9 : decode cX5_seatStranger 9 = .ok (.iaload, 1) := by decide +kernel
theorem dX5_seatStranger_10 : decode cX5_seatStranger 10 = .ok (.iaload, 1) := by decide +kernel
theorem dX5_seatStranger_11 : decode cX5_seatStranger 11 = .ok (.aload_n 1, 1) := by decide +kernel
theorem dX5_seatStranger_12 : decode cX5_seatStranger 12 = .ok (.getfield 103, 3) := by decide +kernel
theorem dX5_seatStranger_15 : decode cX5_seatStranger 15 = .ok (.aload_n 0, 1) := by decide +kernel
theorem dX5_seatStranger_16 : decode cX5_seatStranger 16 = .ok (.getfield 18, 3) := by decide +kernel
theorem dX5_seatStranger_19 : decode cX5_seatStranger 19 = .ok (.iconst 1, 1) := by decide +kernel
theorem dX5_seatStranger_20 : decode cX5_seatStranger 20 = .ok (.iaload, 1) := by decide +kernel
theorem dX5_seatStranger_21 : decode cX5_seatStranger 21 = .ok (.iaload, 1) := by decide +kernel
theorem dX5_seatStranger_22 : decode cX5_seatStranger 22 = .ok (.ior, 1) := by decide +kernel
theorem dX5_seatStranger_23 : decode cX5_seatStranger 23 = .ok (.istore_n 3, 1) := by decide +kernel
theorem dX5_seatStranger_24 : decode cX5_seatStranger 24 = .ok (.iload_n 2, 1) := by decide +kernel
theorem dX5_seatStranger_25 : decode cX5_seatStranger 25 = .ok (.iconst 1, 1) := by decide +kernel
theorem dX5_seatStranger_26 : decode cX5_seatStranger 26 = .ok (.aload_n 0, 1) := by decide +kernel
theorem dX5_seatStranger_27 : decode cX5_seatStranger 27 = .ok (.getfield 18, 3) := by decide +kernel
theorem dX5_seatStranger_30 : decode cX5_seatStranger 30 = .ok (.iconst 0, 1) := by decide +kernel
theorem dX5_seatStranger_31 : decode cX5_seatStranger 31 = .ok (.iaload, 1) := by decide +kernel
theorem dX5_seatStranger_32 : decode cX5_seatStranger 32 = .ok (.ishl, 1) := by decide +kernel
theorem dX5_seatStranger_33 : decode cX5_seatStranger 33 = .ok (.iconst (-1), 1) := by decide +kernel
theorem dX5_seatStranger_34 : decode cX5_seatStranger 34 = .ok (.ixor, 1) := by decide +kernel
theorem dX5_seatStranger_35 : decode cX5_seatStranger 35 = .ok (.iand, 1) := by decide +kernel
theorem dX5_seatStranger_36 : decode cX5_seatStranger 36 = .ok (.iconst 1, 1) := by decide +kernel
theorem dX5_seatStranger_37 : decode cX5_seatStranger 37 = .ok (.aload_n 0, 1) := by decide +kernel
theorem dX5_seatStranger_38 : decode cX5_seatStranger 38 = .ok (.getfield 18, 3) := by decide +kernel
theorem dX5_seatStranger_41 : decode cX5_seatStranger 41 = .ok (.iconst 1, 1) := by decide +kernel
theorem dX5_seatStranger_42 : decode cX5_seatStranger 42 = .ok (.iaload, 1) := by decide +kernel
theorem dX5_seatStranger_43 : decode cX5_seatStranger 43 = .ok (.ishl, 1) := by decide +kernel
theorem dX5_seatStranger_44 : decode cX5_seatStranger 44 = .ok (.iconst (-1), 1) := by decide +kernel
theorem dX5_seatStranger_45 : decode cX5_seatStranger 45 = .ok (.ixor, 1) := by decide +kernel
theorem dX5_seatStranger_46 : decode cX5_seatStranger 46 = .ok (.iand, 1) := by decide +kernel
theorem dX5_seatStranger_47 : decode cX5_seatStranger 47 = .ok (.iconst 1, 1) := by decide +kernel
theorem dX5_seatStranger_48 : decode cX5_seatStranger 48 = .ok (.aload_n 0, 1) := by decide +kernel
theorem dX5_seatStranger_49 : decode cX5_seatStranger 49 = .ok (.getfield 18, 3) := by decide +kernel
theorem dX5_seatStranger_52 : decode cX5_seatStranger 52 = .ok (.iconst 2, 1) := by decide +kernel
theorem dX5_seatStranger_53 : decode cX5_seatStranger 53 = .ok (.iaload, 1) := by decide +kernel
theorem dX5_seatStranger_54 : decode cX5_seatStranger 54 = .ok (.ishl, 1) := by decide +kernel
theorem dX5_seatStranger_55 : decode cX5_seatStranger 55 = .ok (.iconst (-1), 1) := by decide +kernel
theorem dX5_seatStranger_56 : decode cX5_seatStranger 56 = .ok (.ixor, 1) := by decide +kernel
theorem dX5_seatStranger_57 : decode cX5_seatStranger 57 = .ok (.iand, 1) := by decide +kernel
theorem dX5_seatStranger_58 : decode cX5_seatStranger 58 = .ok (.istore 4, 2) := by decide +kernel
theorem dX5_seatStranger_60 : decode cX5_seatStranger 60 = .ok (.iload 4, 2) := by decide +kernel
theorem dX5_seatStranger_62 : decode cX5_seatStranger 62 = .ok (.iload_n 3, 1) := by decide +kernel
theorem dX5_seatStranger_63 : decode cX5_seatStranger 63 = .ok (.iconst (-1), 1) := by decide +kernel
theorem dX5_seatStranger_64 : decode cX5_seatStranger 64 = .ok (.ixor, 1) := by decide +kernel
theorem dX5_seatStranger_65 : decode cX5_seatStranger 65 = .ok (.iand, 1) := by decide +kernel
theorem dX5_seatStranger_66 : decode cX5_seatStranger 66 = .ok (.istore 5, 2) := by decide +kernel
theorem dX5_seatStranger_68 : decode cX5_seatStranger 68 = .ok (.iload 5, 2) := by decide +kernel
theorem dX5_seatStranger_70 : decode cX5_seatStranger 70 = .ok (.ifCond .eq 14, 3) := by decide +kernel
theorem dX5_seatStranger_73 : decode cX5_seatStranger 73 = .ok (.aload_n 0, 1) := by decide +kernel
theorem dX5_seatStranger_74 : decode cX5_seatStranger 74 = .ok (.getfield 18, 3) := by decide +kernel
theorem dX5_seatStranger_77 : decode cX5_seatStranger 77 = .ok (.iconst 3, 1) := by decide +kernel
theorem dX5_seatStranger_78 : decode cX5_seatStranger 78 = .ok (.iload 5, 2) := by decide +kernel
theorem dX5_seatStranger_80 : decode cX5_seatStranger 80 = .ok (.invokestatic 83, 3) := by decide +kernel
theorem dX5_seatStranger_83 : decode cX5_seatStranger 83 = .ok (.iastore, 1) := by decide +kernel
theorem dX5_seatStranger_84 : decode cX5_seatStranger 84 = .ok (.return_, 1) := by decide +kernel
theorem dX5_sitDown_0 : decode cX5_sitDown 0 = .ok (.iconst 0, 1) := by decide +kernel
theorem dX5_sitDown_1 : decode cX5_sitDown 1 = .ok (.istore_n 3, 1) := by decide +kernel
theorem dX5_sitDown_2 : decode cX5_sitDown 2 = .ok (.iconst 0, 1) := by decide +kernel
theorem dX5_sitDown_3 : decode cX5_sitDown 3 = .ok (.istore 4, 2) := by decide +kernel
theorem dX5_sitDown_5 : decode cX5_sitDown 5 = .ok (.iload 4, 2) := by decide +kernel
theorem dX5_sitDown_7 : decode cX5_sitDown 7 = .ok (.iconst 4, 1) := by decide +kernel
theorem dX5_sitDown_8 : decode cX5_sitDown 8 = .ok (.if_icmp .ge 38, 3) := by decide +kernel
theorem dX5_sitDown_11 : decode cX5_sitDown 11 = .ok (.aload_n 1, 1) := by decide +kernel
theorem dX5_sitDown_12 : decode cX5_sitDown 12 = .ok (.iload_n 2, 1) := by decide +kernel
theorem dX5_sitDown_13 : decode cX5_sitDown 13 = .ok (.iload 4, 2) := by decide +kernel
theorem dX5_sitDown_15 : decode cX5_sitDown 15 = .ok (.aload_n 0, 1) := by decide +kernel
theorem dX5_sitDown_16 : decode cX5_sitDown 16 = .ok (.getfield 18, 3) := by decide +kernel
theorem dX5_sitDown_19 : decode cX5_sitDown 19 = .ok (.iload 4, 2) := by decide +kernel
theorem dX5_sitDown_21 : decode cX5_sitDown 21 = .ok (.iaload, 1) := by decide +kernel
theorem dX5_sitDown_22 : decode cX5_sitDown 22 = .ok (.invokevirtual 106, 3) := by decide +kernel
theorem dX5_sitDown_25 : decode cX5_sitDown 25 = .ok (.iload_n 3, 1) := by decide +kernel
theorem dX5_sitDown_26 : decode cX5_sitDown 26 = .ok (.aload_n 0, 1) := by decide +kernel
theorem dX5_sitDown_27 : decode cX5_sitDown 27 = .ok (.getfield 18, 3) := by decide +kernel
theorem dX5_sitDown_30 : decode cX5_sitDown 30 = .ok (.iload 4, 2) := by decide +kernel
theorem dX5_sitDown_32 : decode cX5_sitDown 32 = .ok (.iaload, 1) := by decide +kernel
theorem dX5_sitDown_33 : decode cX5_sitDown 33 = .ok (.iconst 3, 1) := by decide +kernel
theorem dX5_sitDown_34 : decode cX5_sitDown 34 = .ok (.iload 4, 2) := by decide +kernel
theorem dX5_sitDown_36 : decode cX5_sitDown 36 = .ok (.imul, 1) := by decide +kernel
theorem dX5_sitDown_37 : decode cX5_sitDown 37 = .ok (.ishl, 1) := by decide +kernel
theorem dX5_sitDown_38 : decode cX5_sitDown 38 = .ok (.ior, 1) := by decide +kernel
theorem dX5_sitDown_39 : decode cX5_sitDown 39 = .ok (.istore_n 3, 1) := by decide +kernel
theorem dX5_sitDown_40 : decode cX5_sitDown 40 = .ok (.iinc 4 1, 3) := by decide +kernel
theorem dX5_sitDown_43 : decode cX5_sitDown 43 = .ok (.goto (-38), 3) := by decide +kernel
theorem dX5_sitDown_46 : decode cX5_sitDown 46 = .ok (.iload_n 3, 1) := by decide +kernel
theorem dX5_sitDown_47 : decode cX5_sitDown 47 = .ok (.ireturn, 1) := by decide +kernel
theorem dX5_isIn_0 : decode cX5_isIn 0 = .ok (.iload_n 0, 1) := by decide +kernel
theorem dX5_isIn_1 : decode cX5_isIn 1 = .ok (.iload_n 1, 1) := by decide +kernel
theorem dX5_isIn_2 : decode cX5_isIn 2 = .ok (.ishr, 1) := by decide +kernel
theorem dX5_isIn_3 : decode cX5_isIn 3 = .ok (.iconst 1, 1) := by decide +kernel
theorem dX5_isIn_4 : decode cX5_isIn 4 = .ok (.iand, 1) := by decide +kernel
theorem dX5_isIn_5 : decode cX5_isIn 5 = .ok (.iconst 1, 1) := by decide +kernel
theorem dX5_isIn_6 : decode cX5_isIn 6 = .ok (.if_icmp .ne 7, 3) := by decide +kernel
theorem dX5_isIn_9 : decode cX5_isIn 9 = .ok (.iconst 1, 1) := by decide +kernel
theorem dX5_isIn_10 : decode cX5_isIn 10 = .ok (.goto 4, 3) := by decide +kernel
theorem dX5_isIn_13 : decode cX5_isIn 13 = .ok (.iconst 0, 1) := by decide +kernel
theorem dX5_isIn_14 : decode cX5_isIn 14 = .ok (.ireturn, 1) := by decide +kernel
theorem dX5_leastOf_0 : decode cX5_leastOf 0 = .ok (.iconst 0, 1) := by decide +kernel
theorem dX5_leastOf_1 : decode cX5_leastOf 1 = .ok (.istore_n 1, 1) := by decide +kernel
theorem dX5_leastOf_2 : decode cX5_leastOf 2 = .ok (.iload_n 1, 1) := by decide +kernel
theorem dX5_leastOf_3 : decode cX5_leastOf 3 = .ok (.bipush 8, 2) := by decide +kernel
theorem dX5_leastOf_5 : decode cX5_leastOf 5 = .ok (.if_icmp .ge 19, 3) := by decide +kernel
theorem dX5_leastOf_8 : decode cX5_leastOf 8 = .ok (.iload_n 0, 1) := by decide +kernel
theorem dX5_leastOf_9 : decode cX5_leastOf 9 = .ok (.iload_n 1, 1) := by decide +kernel
theorem dX5_leastOf_10 : decode cX5_leastOf 10 = .ok (.invokestatic 86, 3) := by decide +kernel
theorem dX5_leastOf_13 : decode cX5_leastOf 13 = .ok (.ifCond .eq 5, 3) := by decide +kernel
theorem dX5_leastOf_16 : decode cX5_leastOf 16 = .ok (.iload_n 1, 1) := by decide +kernel
theorem dX5_leastOf_17 : decode cX5_leastOf 17 = .ok (.ireturn, 1) := by decide +kernel
theorem dX5_leastOf_18 : decode cX5_leastOf 18 = .ok (.iinc 1 1, 3) := by decide +kernel
theorem dX5_leastOf_21 : decode cX5_leastOf 21 = .ok (.goto (-19), 3) := by decide +kernel
theorem dX5_leastOf_24 : decode cX5_leastOf 24 = .ok (.iconst (-1), 1) := by decide +kernel
theorem dX5_leastOf_25 : decode cX5_leastOf 25 = .ok (.ireturn, 1) := by decide +kernel
theorem dX6_init_0 : decode cX6_init 0 = .ok (.aload_n 0, 1) := by decide +kernel
theorem dX6_init_1 : decode cX6_init 1 = .ok (.invokespecial 3, 3) := by decide +kernel
theorem dX6_init_4 : decode cX6_init 4 = .ok (.aload_n 0, 1) := by decide +kernel
theorem dX6_init_5 : decode cX6_init 5 = .ok (.aload_n 1, 1) := by decide +kernel
theorem dX6_init_6 : decode cX6_init 6 = .ok (.putfield 9, 3) := by decide +kernel
theorem dX6_init_9 : decode cX6_init 9 = .ok (.aload_n 0, 1) := by decide +kernel
theorem dX6_init_10 : decode cX6_init 10 = .ok (.aload_n 2, 1) := by decide +kernel
theorem dX6_init_11 : decode cX6_init 11 = .ok (.putfield 15, 3) := by decide +kernel
theorem dX6_init_14 : decode cX6_init 14 = .ok (.aload_n 0, 1) := by decide +kernel
theorem dX6_init_15 : decode cX6_init 15 = .ok (.bipush 30, 2) := by decide +kernel
theorem dX6_init_17 : decode cX6_init 17 = .ok (.newarray .int, 2) := by decide +kernel
theorem dX6_init_19 : decode cX6_init 19 = .ok (.putfield 19, 3) := by decide +kernel
theorem dX6_init_22 : decode cX6_init 22 = .ok (.aload_n 0, 1) := by decide +kernel
theorem dX6_init_23 : decode cX6_init 23 = .ok (.iconst 0, 1) := by decide +kernel
theorem dX6_init_24 : decode cX6_init 24 = .ok (.putfield 23, 3) := by decide +kernel
theorem dX6_init_27 : decode cX6_init 27 = .ok (.return_, 1) := by decide +kernel
theorem dX6_drop_0 : decode cX6_drop 0 = .ok (.aload_n 0, 1) := by decide +kernel
theorem dX6_drop_1 : decode cX6_drop 1 = .ok (.iconst 0, 1) := by decide +kernel
theorem dX6_drop_2 : decode cX6_drop 2 = .ok (.putfield 23, 3) := by decide +kernel
theorem dX6_drop_5 : decode cX6_drop 5 = .ok (.return_, 1) := by decide +kernel
theorem dX6_has_0 : decode cX6_has 0 = .ok (.iload_n 1, 1) := by decide +kernel
theorem dX6_has_1 : decode cX6_has 1 = .ok (.ifCond .lt 24, 3) := by decide +kernel
theorem dX6_has_4 : decode cX6_has 4 = .ok (.iload_n 1, 1) := by decide +kernel
theorem dX6_has_5 : decode cX6_has 5 = .ok (.aload_n 0, 1) := by decide +kernel
theorem dX6_has_6 : decode cX6_has 6 = .ok (.getfield 23, 3) := by decide +kernel
theorem dX6_has_9 : decode cX6_has 9 = .ok (.if_icmp .ge 16, 3) := by decide +kernel
theorem dX6_has_12 : decode cX6_has 12 = .ok (.iload_n 2, 1) := by decide +kernel
theorem dX6_has_13 : decode cX6_has 13 = .ok (.ifCond .lt 12, 3) := by decide +kernel
theorem dX6_has_16 : decode cX6_has 16 = .ok (.iload_n 2, 1) := by decide +kernel
theorem dX6_has_17 : decode cX6_has 17 = .ok (.iconst 3, 1) := by decide +kernel
theorem dX6_has_18 : decode cX6_has 18 = .ok (.if_icmp .ge 7, 3) := by decide +kernel
theorem dX6_has_21 : decode cX6_has 21 = .ok (.iconst 1, 1) := by decide +kernel
theorem dX6_has_22 : decode cX6_has 22 = .ok (.goto 4, 3) := by decide +kernel
theorem dX6_has_25 : decode cX6_has 25 = .ok (.iconst 0, 1) := by decide +kernel
theorem dX6_has_26 : decode cX6_has 26 = .ok (.ireturn, 1) := by decide +kernel
theorem dX6_write_0 : decode cX6_write 0 = .ok (.iconst 0, 1) := by decide +kernel
theorem dX6_write_1 : decode cX6_write 1 = .ok (.istore_n 1, 1) := by decide +kernel
theorem dX6_write_2 : decode cX6_write 2 = .ok (.iload_n 1, 1) := by decide +kernel
theorem dX6_write_3 : decode cX6_write 3 = .ok (.bipush 10, 2) := by decide +kernel
theorem dX6_write_5 : decode cX6_write 5 = .ok (.if_icmp .ge 38, 3) := by decide +kernel
theorem dX6_write_8 : decode cX6_write 8 = .ok (.iconst 0, 1) := by decide +kernel
theorem dX6_write_9 : decode cX6_write 9 = .ok (.istore_n 2, 1) := by decide +kernel
theorem dX6_write_10 : decode cX6_write 10 = .ok (.iload_n 2, 1) := by decide +kernel
theorem dX6_write_11 : decode cX6_write 11 = .ok (.iconst 3, 1) := by decide +kernel
theorem dX6_write_12 : decode cX6_write 12 = .ok (.if_icmp .ge 25, 3) := by decide +kernel
theorem dX6_write_15 : decode cX6_write 15 = .ok (.aload_n 0, 1) := by decide +kernel
theorem dX6_write_16 : decode cX6_write 16 = .ok (.getfield 19, 3) := by decide +kernel
theorem dX6_write_19 : decode cX6_write 19 = .ok (.iload_n 1, 1) := by decide +kernel
theorem dX6_write_20 : decode cX6_write 20 = .ok (.iconst 3, 1) := by decide +kernel
theorem dX6_write_21 : decode cX6_write 21 = .ok (.imul, 1) := by decide +kernel
theorem dX6_write_22 : decode cX6_write 22 = .ok (.iload_n 2, 1) := by decide +kernel
theorem dX6_write_23 : decode cX6_write 23 = .ok (.iadd, 1) := by decide +kernel
theorem dX6_write_24 : decode cX6_write 24 = .ok (.aload_n 0, 1) := by decide +kernel
theorem dX6_write_25 : decode cX6_write 25 = .ok (.iload_n 1, 1) := by decide +kernel
theorem dX6_write_26 : decode cX6_write 26 = .ok (.iload_n 2, 1) := by decide +kernel
theorem dX6_write_27 : decode cX6_write 27 = .ok (.invokevirtual 27, 3) := by decide +kernel
theorem dX6_write_30 : decode cX6_write 30 = .ok (.iastore, 1) := by decide +kernel
theorem dX6_write_31 : decode cX6_write 31 = .ok (.iinc 2 1, 3) := by decide +kernel
theorem dX6_write_34 : decode cX6_write 34 = .ok (.goto (-24), 3) := by decide +kernel
theorem dX6_write_37 : decode cX6_write 37 = .ok (.iinc 1 1, 3) := by decide +kernel
theorem dX6_write_40 : decode cX6_write 40 = .ok (.goto (-38), 3) := by decide +kernel
theorem dX6_write_43 : decode cX6_write 43 = .ok (.aload_n 0, 1) := by decide +kernel
theorem dX6_write_44 : decode cX6_write 44 = .ok (.bipush 10, 2) := by decide +kernel
theorem dX6_write_46 : decode cX6_write 46 = .ok (.putfield 23, 3) := by decide +kernel
theorem dX6_write_49 : decode cX6_write 49 = .ok (.aload_n 0, 1) := by decide +kernel
theorem dX6_write_50 : decode cX6_write 50 = .ok (.getfield 23, 3) := by decide +kernel
theorem dX6_write_53 : decode cX6_write 53 = .ok (.ireturn, 1) := by decide +kernel
theorem dX6_firstWrong_0 : decode cX6_firstWrong 0 = .ok (.iconst 0, 1) := by decide +kernel
theorem dX6_firstWrong_1 : decode cX6_firstWrong 1 = .ok (.istore_n 1, 1) := by decide +kernel
theorem dX6_firstWrong_2 : decode cX6_firstWrong 2 = .ok (.iload_n 1, 1) := by decide +kernel
theorem dX6_firstWrong_3 : decode cX6_firstWrong 3 = .ok (.aload_n 0, 1) := by decide +kernel
theorem dX6_firstWrong_4 : decode cX6_firstWrong 4 = .ok (.getfield 23, 3) := by decide +kernel
theorem dX6_firstWrong_7 : decode cX6_firstWrong 7 = .ok (.if_icmp .ge 45, 3) := by decide +kernel
theorem dX6_firstWrong_10 : decode cX6_firstWrong 10 = .ok (.iconst 0, 1) := by decide +kernel
theorem dX6_firstWrong_11 : decode cX6_firstWrong 11 = .ok (.istore_n 2, 1) := by decide +kernel
theorem dX6_firstWrong_12 : decode cX6_firstWrong 12 = .ok (.iload_n 2, 1) := by decide +kernel
theorem dX6_firstWrong_13 : decode cX6_firstWrong 13 = .ok (.iconst 3, 1) := by decide +kernel
theorem dX6_firstWrong_14 : decode cX6_firstWrong 14 = .ok (.if_icmp .ge 32, 3) := by decide +kernel
theorem dX6_firstWrong_17 : decode cX6_firstWrong 17 = .ok (.aload_n 0, 1) := by decide +kernel
theorem dX6_firstWrong_18 : decode cX6_firstWrong 18 = .ok (.getfield 19, 3) := by decide +kernel
theorem dX6_firstWrong_21 : decode cX6_firstWrong 21 = .ok (.iload_n 1, 1) := by decide +kernel
theorem dX6_firstWrong_22 : decode cX6_firstWrong 22 = .ok (.iconst 3, 1) := by decide +kernel
theorem dX6_firstWrong_23 : decode cX6_firstWrong 23 = .ok (.imul, 1) := by decide +kernel
theorem dX6_firstWrong_24 : decode cX6_firstWrong 24 = .ok (.iload_n 2, 1) := by decide +kernel
theorem dX6_firstWrong_25 : decode cX6_firstWrong 25 = .ok (.iadd, 1) := by decide +kernel
theorem dX6_firstWrong_26 : decode cX6_firstWrong 26 = .ok (.iaload, 1) := by decide +kernel
theorem dX6_firstWrong_27 : decode cX6_firstWrong 27 = .ok (.aload_n 0, 1) := by decide +kernel
theorem dX6_firstWrong_28 : decode cX6_firstWrong 28 = .ok (.iload_n 1, 1) := by decide +kernel
theorem dX6_firstWrong_29 : decode cX6_firstWrong 29 = .ok (.iload_n 2, 1) := by decide +kernel
theorem dX6_firstWrong_30 : decode cX6_firstWrong 30 = .ok (.invokevirtual 27, 3) := by decide +kernel
theorem dX6_firstWrong_33 : decode cX6_firstWrong 33 = .ok (.if_icmp .eq 7, 3) := by decide +kernel
theorem dX6_firstWrong_36 : decode cX6_firstWrong 36 = .ok (.iload_n 1, 1) := by decide +kernel
theorem dX6_firstWrong_37 : decode cX6_firstWrong 37 = .ok (.iconst 1, 1) := by decide +kernel
theorem dX6_firstWrong_38 : decode cX6_firstWrong 38 = .ok (.iadd, 1) := by decide +kernel
theorem dX6_firstWrong_39 : decode cX6_firstWrong 39 = .ok (.ireturn, 1) := by decide +kernel
theorem dX6_firstWrong_40 : decode cX6_firstWrong 40 = .ok (.iinc 2 1, 3) := by decide +kernel
theorem dX6_firstWrong_43 : decode cX6_firstWrong 43 = .ok (.goto (-31), 3) := by decide +kernel
theorem dX6_firstWrong_46 : decode cX6_firstWrong 46 = .ok (.iinc 1 1, 3) := by decide +kernel
theorem dX6_firstWrong_49 : decode cX6_firstWrong 49 = .ok (.goto (-47), 3) := by decide +kernel
theorem dX6_firstWrong_52 : decode cX6_firstWrong 52 = .ok (.iconst 0, 1) := by decide +kernel
theorem dX6_firstWrong_53 : decode cX6_firstWrong 53 = .ok (.ireturn, 1) := by decide +kernel
theorem dX6_due_0 : decode cX6_due 0 = .ok (.aload_n 0, 1) := by decide +kernel
theorem dX6_due_1 : decode cX6_due 1 = .ok (.getfield 9, 3) := by decide +kernel
theorem dX6_due_4 : decode cX6_due 4 = .ok (.iload_n 1, 1) := by decide +kernel
theorem dX6_due_5 : decode cX6_due 5 = .ok (.invokevirtual 31, 3) := by decide +kernel
theorem dX6_due_8 : decode cX6_due 8 = .ok (.istore_n 3, 1) := by decide +kernel
theorem dX6_due_9 : decode cX6_due 9 = .ok (.iload_n 2, 1) := by decide +kernel
theorem dX6_due_10 : decode cX6_due 10 = .ok (.lookupswitch 46 #[(0, 26), (1, 28)], 26) := by decide +kernel
theorem dX6_due_36 : decode cX6_due 36 = .ok (.iload_n 3, 1) := by decide +kernel
theorem dX6_due_37 : decode cX6_due 37 = .ok (.ireturn, 1) := by decide +kernel
theorem dX6_due_38 : decode cX6_due 38 = .ok (.iload_n 3, 1) := by decide +kernel
theorem dX6_due_39 : decode cX6_due 39 = .ok (.iconst (-1), 1) := by decide +kernel
theorem dX6_due_40 : decode cX6_due 40 = .ok (.if_icmp .ne 7, 3) := by decide +kernel
theorem dX6_due_43 : decode cX6_due 43 = .ok (.iconst 0, 1) := by decide +kernel
theorem dX6_due_44 : decode cX6_due 44 = .ok (.goto 11, 3) := by decide +kernel
theorem dX6_due_47 : decode cX6_due 47 = .ok (.aload_n 0, 1) := by decide +kernel
theorem dX6_due_48 : decode cX6_due 48 = .ok (.getfield 15, 3) := by decide +kernel
theorem dX6_due_51 : decode cX6_due 51 = .ok (.iload_n 1, 1) := by decide +kernel
theorem dX6_due_52 : decode cX6_due 52 = .ok (.invokevirtual 37, 3) := by decide +kernel
theorem dX6_due_55 : decode cX6_due 55 = .ok (.ireturn, 1) := by decide +kernel
theorem dX6_due_56 : decode cX6_due 56 = .ok (.aload_n 0, 1) := by decide +kernel
theorem dX6_due_57 : decode cX6_due 57 = .ok (.getfield 15, 3) := by decide +kernel
theorem dX6_due_60 : decode cX6_due 60 = .ok (.iload_n 1, 1) := by decide +kernel
theorem dX6_due_61 : decode cX6_due 61 = .ok (.invokevirtual 42, 3) := by decide +kernel
theorem dX6_due_64 : decode cX6_due 64 = .ok (.ireturn, 1) := by decide +kernel
def fRows_drop (z : MS) : Option MS :=
  some (pI z 30 3 0)
set_option maxRecDepth 4000 in
theorem cRows_drop (l : Launch) {z : MS} {z1 : MS} (h : fRows_drop z = some z1) : CT l yX6_drop cX6_drop 1 none 0 0 (fun ad sd => [.ref (ad 30)]) z none z1 := by
  rw [fRows_drop] at h
  refine u_start RX6 rfl (by decide) (fun _ _ => Nat.le_of_ble_eq_true rfl) (fun p e s m args below meth c R D ad cs sd A Q ls X hP hS hl hr hret => ?_)
  have hl : lv_has ls 1 [(0, .ref (ad 30))] := hl
  refine u_aload_n X hl dX6_drop_0 0 rfl ?_
  refine u_iconst (v := 0) X dX6_drop_1 rfl ?_
  refine pf_X6_23_30 X hP hS dX6_drop_2 (fun H locs hP hS => ?_)
  exact u_vretM X hr hret h hP hS dX6_drop_5
def fPlans_add (z : MS) (a0 : Int32) (a1 : Int32) : Option (Int32 × MS) :=
  if (gI z 26 3) < 0 ∨ 4 ≤ (gI z 26 3).toNatClampNeg then none else if (gI (pI z 27 (gI z 26 3).toNatClampNeg a0) 26 3) < 0 ∨ 4 ≤ (gI (pI z 27 (gI z 26 3).toNatClampNeg a0) 26 3).toNatClampNeg then none else some ((gI (pI (pI (pI z 27 (gI z 26 3).toNatClampNeg a0) 28 (gI (pI z 27 (gI z 26 3).toNatClampNeg a0) 26 3).toNatClampNeg a1) 26 3 ((gI (pI (pI z 27 (gI z 26 3).toNatClampNeg a0) 28 (gI (pI z 27 (gI z 26 3).toNatClampNeg a0) 26 3).toNatClampNeg a1) 26 3) + 1)) 26 3) - 1, pI (pI (pI z 27 (gI z 26 3).toNatClampNeg a0) 28 (gI (pI z 27 (gI z 26 3).toNatClampNeg a0) 26 3).toNatClampNeg a1) 26 3 ((gI (pI (pI z 27 (gI z 26 3).toNatClampNeg a0) 28 (gI (pI z 27 (gI z 26 3).toNatClampNeg a0) 26 3).toNatClampNeg a1) 26 3) + 1))
set_option maxRecDepth 4000 in
theorem cPlans_add (l : Launch) {z : MS} {a0 : Int32} {a1 : Int32} {r : Int32} {z1 : MS} (h : fPlans_add z a0 a1 = some (r, z1)) : CT l yX5_add cX5_add 3 (some .int) 0 0 (fun ad sd => [.ref (ad 26), .int a0, .int a1]) z (some (.int r)) z1 := by
  rw [fPlans_add] at h
  refine u_start RX5 rfl (by decide) (fun _ _ => Nat.le_of_ble_eq_true rfl) (fun p e s m args below meth c R D ad cs sd A Q ls X hP hS hl hr hret => ?_)
  have hl : lv_has ls 3 [(0, .ref (ad 26)), (1, .int a0), (2, .int a1)] := hl
  refine u_aload_n X hl dX5_add_0 0 rfl ?_
  refine gf_X5_11_26 X hP dX5_add_1 ?_
  refine u_aload_n X hl dX5_add_4 0 rfl ?_
  refine gf_X5_21_26 X hP dX5_add_5 ?_
  refine u_iload_n X hl dX5_add_8 1 rfl ?_
  obtain ⟨hin, h⟩ := ifn_inv h
  refine as_27 X hP hS rfl hin dX5_add_9 (fun H locs hP hS => ?_)
  refine u_aload_n X hl dX5_add_10 0 rfl ?_
  refine gf_X5_15_26 X hP dX5_add_11 ?_
  refine u_aload_n X hl dX5_add_14 0 rfl ?_
  refine gf_X5_21_26 X hP dX5_add_15 ?_
  refine u_iload_n X hl dX5_add_18 2 rfl ?_
  obtain ⟨hin, h⟩ := ifn_inv h
  refine as_28 X hP hS rfl hin dX5_add_19 (fun H locs hP hS => ?_)
  refine u_aload_n X hl dX5_add_20 0 rfl ?_
  refine u_dup X rfl dX5_add_21 ?_
  refine gf_X5_21_26 X hP dX5_add_22 ?_
  refine u_iconst (v := 1) X dX5_add_25 rfl ?_
  refine u_iadd X dX5_add_26 ?_
  refine pf_X5_21_26 X hP hS dX5_add_27 (fun H locs hP hS => ?_)
  refine u_aload_n X hl dX5_add_30 0 rfl ?_
  refine gf_X5_21_26 X hP dX5_add_31 ?_
  refine u_iconst (v := 1) X dX5_add_34 rfl ?_
  refine u_isub X dX5_add_35 ?_
  exact u_iretM X hr hret h hP hS dX5_add_36
def fPlans_has (z : MS) (a0 : Int32) : Int32 :=
  if a0 < 0 then 0 else (if (gI z 26 3) ≤ a0 then 0 else 1)
theorem fPlans_has_b (z : MS) (a0 : Int32) : fPlans_has z a0 = 0 ∨ fPlans_has z a0 = 1 := by
  unfold fPlans_has
  (repeat' split) <;> first | with_reducible exact Or.inl rfl | with_reducible exact Or.inr rfl
set_option maxRecDepth 4000 in
theorem cPlans_has (l : Launch) (z : MS) (a0 : Int32) : CT l yX5_has cX5_has 2 (some .boolean) 0 0 (fun ad sd => [.ref (ad 26), .int a0]) z (some (.int (fPlans_has z a0))) z := by
  generalize h : fPlans_has z a0 = r
  rw [fPlans_has] at h
  refine u_start RX5 rfl (by decide) (fun _ _ => Nat.le_of_ble_eq_true rfl) (fun p e s m args below meth c R D ad cs sd A Q ls X hP hS hl hr hret => ?_)
  have hl : lv_has ls 2 [(0, .ref (ad 26)), (1, .int a0)] := hl
  refine u_iload_n X hl dX5_has_0 1 rfl ?_
  refine u_if_lt 16 X dX5_has_1 rfl (fun hc => ?_) (fun hc => ?_)
  · rw [if_pos hc] at h
    refine u_iconst (v := 0) X dX5_has_16 rfl ?_
    exact u_zretT X hr hret h hP hS (Or.inl rfl) dX5_has_17
  · rw [if_neg hc] at h
    refine u_iload_n X hl dX5_has_4 1 rfl ?_
    refine u_aload_n X hl dX5_has_5 0 rfl ?_
    refine gf_X5_21_26 X hP dX5_has_6 ?_
    refine u_icmp_ge 16 X dX5_has_9 rfl (fun hc => ?_) (fun hc => ?_)
    · rw [if_pos hc] at h
      refine u_iconst (v := 0) X dX5_has_16 rfl ?_
      exact u_zretT X hr hret h hP hS (Or.inl rfl) dX5_has_17
    · rw [if_neg hc] at h
      refine u_iconst (v := 1) X dX5_has_12 rfl ?_
      refine u_goto 17 X dX5_has_13 rfl ?_
      exact u_zretT X hr hret h hP hS (Or.inr rfl) dX5_has_17
def fPlans_presentFor_L41 (z : MS) (l3 : Int32) (l5 : Int32) : Nat → Int32 → Int32 → Option Int32
  | 0, _, _ => none
  | n + 1, l4, l6 => if (gI z 1 0) ≤ l6 then some l4 else (if l6 = l5 then fPlans_presentFor_L41 z l3 l5 n l4 (l6 + 1) else Option.bind (fHouse_isAway z l6 l3) (fun w61 => if w61 = 0 then fPlans_presentFor_L41 z l3 l5 n (l4 ||| ((1 : Int32) <<< (l6 &&& 31))) (l6 + 1) else fPlans_presentFor_L41 z l3 l5 n l4 (l6 + 1)))
def fPlans_presentFor (z : MS) (a0 : Int32) (a1 : Int32) : Option Int32 :=
  if a0 < 0 ∨ 4 ≤ a0.toNatClampNeg then none else if (gI z 27 a0.toNatClampNeg) = 4 then (if (gI z 1 0) ≤ 0 then fPlans_presentFor_L41 z a1 (-1) LF 0 0 else (if a0 < 0 ∨ 4 ≤ a0.toNatClampNeg then none else if (gI z 1 0) = 0 then none else fPlans_presentFor_L41 z a1 (irm ((gI z 28 a0.toNatClampNeg) + a1) (gI z 1 0)) LF 0 0)) else fPlans_presentFor_L41 z a1 (-1) LF 0 0
set_option maxRecDepth 4000 in
theorem cPlans_presentFor (l : Launch) {z : MS} {a0 : Int32} {a1 : Int32} {r : Int32} (h : fPlans_presentFor z a0 a1 = some r) : CT l yX5_presentFor cX5_presentFor 7 (some .int) 1 22 (fun ad sd => [.ref (ad 26), .ref (ad 1), .int a0, .int a1]) z (some (.int r)) z := by
  rw [fPlans_presentFor] at h
  refine u_start RX5 rfl (by decide) (fun _ _ => Nat.le_of_ble_eq_true rfl) (fun p e s m args below meth c R D ad cs sd A Q ls X hP hS hl hr hret => ?_)
  have hl : lv_has ls 7 [(0, .ref (ad 26)), (1, .ref (ad 1)), (2, .int a0), (3, .int a1)] := hl
  refine u_iconst (v := 0) X dX5_presentFor_0 rfl ?_
  refine u_istore [(4, .int 0), (0, .ref (ad 26)), (1, .ref (ad 1)), (2, .int a0), (3, .int a1)] X hl dX5_presentFor_1 (Nat.le_of_ble_eq_true rfl) rfl (fun ls hl => ?_)
  refine u_iconst (v := (-1)) X dX5_presentFor_3 rfl ?_
  refine u_istore [(5, .int (-1)), (4, .int 0), (0, .ref (ad 26)), (1, .ref (ad 1)), (2, .int a0), (3, .int a1)] X hl dX5_presentFor_4 (Nat.le_of_ble_eq_true rfl) rfl (fun ls hl => ?_)
  refine u_aload_n X hl dX5_presentFor_6 2 rfl ?_
  refine gf_X5_11_26 X hP dX5_presentFor_7 ?_
  refine u_iload_n X hl dX5_presentFor_10 4 rfl ?_
  obtain ⟨hin, h⟩ := ifn_inv h
  refine ld_27 X hP rfl hin dX5_presentFor_11 ?_
  refine u_iconst (v := 4) X dX5_presentFor_12 rfl ?_
  refine u_icmp_ne 38 X dX5_presentFor_13 rfl (fun hc => ?_) (fun hc => ?_)
  · rw [if_neg hc] at h
    refine u_iconst (v := 0) X dX5_presentFor_38 rfl ?_
    refine u_istore [(6, .int 0), (5, .int (-1)), (4, .int 0), (0, .ref (ad 26)), (1, .ref (ad 1)), (2, .int a0), (3, .int a1)] X hl dX5_presentFor_39 (Nat.le_of_ble_eq_true rfl) rfl (fun ls hl => ?_)
    have L41 : ∀ (n : Nat) (H : Heap) (locs : List Loc) (ls : Array Slot) (l4_41 : Int32) (l6_41 : Int32), lv_has ls 7 [(1, .ref (ad 1)), (3, .int a1), (4, .int l4_41), (5, .int (-1)), (6, .int l6_41)] → va_P D clss (wld cs ad z) H → va_S A s.heap H locs → fPlans_presentFor_L41 z a1 (-1) n l4_41 l6_41 = some r → W p l e R s m args below meth c H locs 0 0 Q (F0 m 41 ls []) := by
      intro n
      induction n with
      | zero =>
        intro H locs ls l4_41 l6_41 hl hP hS h
        rw [fPlans_presentFor_L41] at h
        cases h
      | succ n41 ih41 =>
        intro H locs ls l4_41 l6_41 hl hP hS h
        rw [fPlans_presentFor_L41] at h
        refine u_iload X hl dX5_presentFor_41 4 rfl ?_
        refine u_aload_n X hl dX5_presentFor_43 0 rfl ?_
        refine gf_X5_66_1 X hP dX5_presentFor_44 ?_
        refine u_icmp_ge 82 X dX5_presentFor_47 rfl (fun hc => ?_) (fun hc => ?_)
        · rw [if_pos hc] at h
          refine u_iload X hl dX5_presentFor_82 2 rfl ?_
          exact u_iretP X hr hret h hP hS dX5_presentFor_84
        · rw [if_neg hc] at h
          refine u_iload X hl dX5_presentFor_50 4 rfl ?_
          refine u_iload X hl dX5_presentFor_52 3 rfl ?_
          refine u_icmp_eq 76 X dX5_presentFor_54 rfl (fun hc => ?_) (fun hc => ?_)
          · rw [if_pos hc] at h
            refine u_iinc [(6, .int (l6_41 + 1)), (1, .ref (ad 1)), (3, .int a1), (4, .int l4_41), (5, .int (-1))] X hl dX5_presentFor_76 4 rfl rfl (Nat.le_of_ble_eq_true rfl) rfl (fun ls hl => ?_)
            refine u_goto 41 X dX5_presentFor_79 rfl ?_
            exact ih41 _ _ _ _ _ (lv_sub hl [1, 2, 3, 4, 0] rfl) hP hS h
          · rw [if_neg hc] at h
            refine u_aload_n X hl dX5_presentFor_57 0 rfl ?_
            refine u_iload X hl dX5_presentFor_58 4 rfl ?_
            refine u_iload_n X hl dX5_presentFor_60 1 rfl ?_
            obtain ⟨w61, hc61, h⟩ := ob_inv h
            refine u_callVi X hP hS hl dX5_presentFor_61 (cHouse_isAway l hc61) cw_X5_71 io_1 rfl rfl rfl rfl ⟨rfl, rfl⟩ (fun H locs hP hS => ?_)
            refine u_if_ne 76 X dX5_presentFor_64 rfl (fun hc => ?_) (fun hc => ?_)
            · rw [if_neg hc] at h
              refine u_iinc [(6, .int (l6_41 + 1)), (1, .ref (ad 1)), (3, .int a1), (4, .int l4_41), (5, .int (-1))] X hl dX5_presentFor_76 4 rfl rfl (Nat.le_of_ble_eq_true rfl) rfl (fun ls hl => ?_)
              refine u_goto 41 X dX5_presentFor_79 rfl ?_
              exact ih41 _ _ _ _ _ (lv_sub hl [1, 2, 3, 4, 0] rfl) hP hS h
            · rw [if_pos hc] at h
              refine u_iload X hl dX5_presentFor_67 2 rfl ?_
              refine u_iconst (v := 1) X dX5_presentFor_69 rfl ?_
              refine u_iload X hl dX5_presentFor_70 4 rfl ?_
              refine u_ishl X dX5_presentFor_72 ?_
              refine u_ior X dX5_presentFor_73 ?_
              refine u_istore [(4, .int (l4_41 ||| ((1 : Int32) <<< (l6_41 &&& 31)))), (1, .ref (ad 1)), (3, .int a1), (5, .int (-1)), (6, .int l6_41)] X hl dX5_presentFor_74 (Nat.le_of_ble_eq_true rfl) rfl (fun ls hl => ?_)
              refine u_iinc [(6, .int (l6_41 + 1)), (4, .int (l4_41 ||| ((1 : Int32) <<< (l6_41 &&& 31)))), (1, .ref (ad 1)), (3, .int a1), (5, .int (-1))] X hl dX5_presentFor_76 4 rfl rfl (Nat.le_of_ble_eq_true rfl) rfl (fun ls hl => ?_)
              refine u_goto 41 X dX5_presentFor_79 rfl ?_
              exact ih41 _ _ _ _ _ (lv_sub hl [2, 3, 1, 4, 0] rfl) hP hS h
    exact L41 LF _ _ _ _ _ (lv_sub hl [4, 6, 2, 1, 0] rfl) hP hS h
  · rw [if_pos hc] at h
    refine u_aload_n X hl dX5_presentFor_16 3 rfl ?_
    refine gf_X5_66_1 X hP dX5_presentFor_17 ?_
    refine u_if_le 38 X dX5_presentFor_20 rfl (fun hc => ?_) (fun hc => ?_)
    · rw [if_pos hc] at h
      refine u_iconst (v := 0) X dX5_presentFor_38 rfl ?_
      refine u_istore [(6, .int 0), (5, .int (-1)), (4, .int 0), (0, .ref (ad 26)), (1, .ref (ad 1)), (2, .int a0), (3, .int a1)] X hl dX5_presentFor_39 (Nat.le_of_ble_eq_true rfl) rfl (fun ls hl => ?_)
      have L41 : ∀ (n : Nat) (H : Heap) (locs : List Loc) (ls : Array Slot) (l4_41 : Int32) (l6_41 : Int32), lv_has ls 7 [(1, .ref (ad 1)), (3, .int a1), (4, .int l4_41), (5, .int (-1)), (6, .int l6_41)] → va_P D clss (wld cs ad z) H → va_S A s.heap H locs → fPlans_presentFor_L41 z a1 (-1) n l4_41 l6_41 = some r → W p l e R s m args below meth c H locs 0 0 Q (F0 m 41 ls []) := by
        intro n
        induction n with
        | zero =>
          intro H locs ls l4_41 l6_41 hl hP hS h
          rw [fPlans_presentFor_L41] at h
          cases h
        | succ n41 ih41 =>
          intro H locs ls l4_41 l6_41 hl hP hS h
          rw [fPlans_presentFor_L41] at h
          refine u_iload X hl dX5_presentFor_41 4 rfl ?_
          refine u_aload_n X hl dX5_presentFor_43 0 rfl ?_
          refine gf_X5_66_1 X hP dX5_presentFor_44 ?_
          refine u_icmp_ge 82 X dX5_presentFor_47 rfl (fun hc => ?_) (fun hc => ?_)
          · rw [if_pos hc] at h
            refine u_iload X hl dX5_presentFor_82 2 rfl ?_
            exact u_iretP X hr hret h hP hS dX5_presentFor_84
          · rw [if_neg hc] at h
            refine u_iload X hl dX5_presentFor_50 4 rfl ?_
            refine u_iload X hl dX5_presentFor_52 3 rfl ?_
            refine u_icmp_eq 76 X dX5_presentFor_54 rfl (fun hc => ?_) (fun hc => ?_)
            · rw [if_pos hc] at h
              refine u_iinc [(6, .int (l6_41 + 1)), (1, .ref (ad 1)), (3, .int a1), (4, .int l4_41), (5, .int (-1))] X hl dX5_presentFor_76 4 rfl rfl (Nat.le_of_ble_eq_true rfl) rfl (fun ls hl => ?_)
              refine u_goto 41 X dX5_presentFor_79 rfl ?_
              exact ih41 _ _ _ _ _ (lv_sub hl [1, 2, 3, 4, 0] rfl) hP hS h
            · rw [if_neg hc] at h
              refine u_aload_n X hl dX5_presentFor_57 0 rfl ?_
              refine u_iload X hl dX5_presentFor_58 4 rfl ?_
              refine u_iload_n X hl dX5_presentFor_60 1 rfl ?_
              obtain ⟨w61, hc61, h⟩ := ob_inv h
              refine u_callVi X hP hS hl dX5_presentFor_61 (cHouse_isAway l hc61) cw_X5_71 io_1 rfl rfl rfl rfl ⟨rfl, rfl⟩ (fun H locs hP hS => ?_)
              refine u_if_ne 76 X dX5_presentFor_64 rfl (fun hc => ?_) (fun hc => ?_)
              · rw [if_neg hc] at h
                refine u_iinc [(6, .int (l6_41 + 1)), (1, .ref (ad 1)), (3, .int a1), (4, .int l4_41), (5, .int (-1))] X hl dX5_presentFor_76 4 rfl rfl (Nat.le_of_ble_eq_true rfl) rfl (fun ls hl => ?_)
                refine u_goto 41 X dX5_presentFor_79 rfl ?_
                exact ih41 _ _ _ _ _ (lv_sub hl [1, 2, 3, 4, 0] rfl) hP hS h
              · rw [if_pos hc] at h
                refine u_iload X hl dX5_presentFor_67 2 rfl ?_
                refine u_iconst (v := 1) X dX5_presentFor_69 rfl ?_
                refine u_iload X hl dX5_presentFor_70 4 rfl ?_
                refine u_ishl X dX5_presentFor_72 ?_
                refine u_ior X dX5_presentFor_73 ?_
                refine u_istore [(4, .int (l4_41 ||| ((1 : Int32) <<< (l6_41 &&& 31)))), (1, .ref (ad 1)), (3, .int a1), (5, .int (-1)), (6, .int l6_41)] X hl dX5_presentFor_74 (Nat.le_of_ble_eq_true rfl) rfl (fun ls hl => ?_)
                refine u_iinc [(6, .int (l6_41 + 1)), (4, .int (l4_41 ||| ((1 : Int32) <<< (l6_41 &&& 31)))), (1, .ref (ad 1)), (3, .int a1), (5, .int (-1))] X hl dX5_presentFor_76 4 rfl rfl (Nat.le_of_ble_eq_true rfl) rfl (fun ls hl => ?_)
                refine u_goto 41 X dX5_presentFor_79 rfl ?_
                exact ih41 _ _ _ _ _ (lv_sub hl [2, 3, 1, 4, 0] rfl) hP hS h
      exact L41 LF _ _ _ _ _ (lv_sub hl [4, 6, 2, 1, 0] rfl) hP hS h
    · rw [if_neg hc] at h
      refine u_aload_n X hl dX5_presentFor_23 2 rfl ?_
      refine gf_X5_15_26 X hP dX5_presentFor_24 ?_
      refine u_iload_n X hl dX5_presentFor_27 4 rfl ?_
      obtain ⟨hin, h⟩ := ifn_inv h
      refine ld_28 X hP rfl hin dX5_presentFor_28 ?_
      refine u_iload_n X hl dX5_presentFor_29 5 rfl ?_
      refine u_iadd X dX5_presentFor_30 ?_
      refine u_aload_n X hl dX5_presentFor_31 3 rfl ?_
      refine gf_X5_66_1 X hP dX5_presentFor_32 ?_
      obtain ⟨hn, h⟩ := ifn_inv h
      refine u_irem X hn dX5_presentFor_35 ?_
      refine u_istore [(5, .int (irm ((gI z 28 a0.toNatClampNeg) + a1) (gI z 1 0))), (4, .int 0), (0, .ref (ad 26)), (1, .ref (ad 1)), (2, .int a0), (3, .int a1)] X hl dX5_presentFor_36 (Nat.le_of_ble_eq_true rfl) rfl (fun ls hl => ?_)
      refine u_iconst (v := 0) X dX5_presentFor_38 rfl ?_
      refine u_istore [(6, .int 0), (5, .int (irm ((gI z 28 a0.toNatClampNeg) + a1) (gI z 1 0))), (4, .int 0), (0, .ref (ad 26)), (1, .ref (ad 1)), (2, .int a0), (3, .int a1)] X hl dX5_presentFor_39 (Nat.le_of_ble_eq_true rfl) rfl (fun ls hl => ?_)
      have L41 : ∀ (n : Nat) (H : Heap) (locs : List Loc) (ls : Array Slot) (l4_41 : Int32) (l6_41 : Int32), lv_has ls 7 [(1, .ref (ad 1)), (3, .int a1), (4, .int l4_41), (5, .int (irm ((gI z 28 a0.toNatClampNeg) + a1) (gI z 1 0))), (6, .int l6_41)] → va_P D clss (wld cs ad z) H → va_S A s.heap H locs → fPlans_presentFor_L41 z a1 (irm ((gI z 28 a0.toNatClampNeg) + a1) (gI z 1 0)) n l4_41 l6_41 = some r → W p l e R s m args below meth c H locs 0 0 Q (F0 m 41 ls []) := by
        intro n
        induction n with
        | zero =>
          intro H locs ls l4_41 l6_41 hl hP hS h
          rw [fPlans_presentFor_L41] at h
          cases h
        | succ n41 ih41 =>
          intro H locs ls l4_41 l6_41 hl hP hS h
          rw [fPlans_presentFor_L41] at h
          refine u_iload X hl dX5_presentFor_41 4 rfl ?_
          refine u_aload_n X hl dX5_presentFor_43 0 rfl ?_
          refine gf_X5_66_1 X hP dX5_presentFor_44 ?_
          refine u_icmp_ge 82 X dX5_presentFor_47 rfl (fun hc => ?_) (fun hc => ?_)
          · rw [if_pos hc] at h
            refine u_iload X hl dX5_presentFor_82 2 rfl ?_
            exact u_iretP X hr hret h hP hS dX5_presentFor_84
          · rw [if_neg hc] at h
            refine u_iload X hl dX5_presentFor_50 4 rfl ?_
            refine u_iload X hl dX5_presentFor_52 3 rfl ?_
            refine u_icmp_eq 76 X dX5_presentFor_54 rfl (fun hc => ?_) (fun hc => ?_)
            · rw [if_pos hc] at h
              refine u_iinc [(6, .int (l6_41 + 1)), (1, .ref (ad 1)), (3, .int a1), (4, .int l4_41), (5, .int (irm ((gI z 28 a0.toNatClampNeg) + a1) (gI z 1 0)))] X hl dX5_presentFor_76 4 rfl rfl (Nat.le_of_ble_eq_true rfl) rfl (fun ls hl => ?_)
              refine u_goto 41 X dX5_presentFor_79 rfl ?_
              exact ih41 _ _ _ _ _ (lv_sub hl [1, 2, 3, 4, 0] rfl) hP hS h
            · rw [if_neg hc] at h
              refine u_aload_n X hl dX5_presentFor_57 0 rfl ?_
              refine u_iload X hl dX5_presentFor_58 4 rfl ?_
              refine u_iload_n X hl dX5_presentFor_60 1 rfl ?_
              obtain ⟨w61, hc61, h⟩ := ob_inv h
              refine u_callVi X hP hS hl dX5_presentFor_61 (cHouse_isAway l hc61) cw_X5_71 io_1 rfl rfl rfl rfl ⟨rfl, rfl⟩ (fun H locs hP hS => ?_)
              refine u_if_ne 76 X dX5_presentFor_64 rfl (fun hc => ?_) (fun hc => ?_)
              · rw [if_neg hc] at h
                refine u_iinc [(6, .int (l6_41 + 1)), (1, .ref (ad 1)), (3, .int a1), (4, .int l4_41), (5, .int (irm ((gI z 28 a0.toNatClampNeg) + a1) (gI z 1 0)))] X hl dX5_presentFor_76 4 rfl rfl (Nat.le_of_ble_eq_true rfl) rfl (fun ls hl => ?_)
                refine u_goto 41 X dX5_presentFor_79 rfl ?_
                exact ih41 _ _ _ _ _ (lv_sub hl [1, 2, 3, 4, 0] rfl) hP hS h
              · rw [if_pos hc] at h
                refine u_iload X hl dX5_presentFor_67 2 rfl ?_
                refine u_iconst (v := 1) X dX5_presentFor_69 rfl ?_
                refine u_iload X hl dX5_presentFor_70 4 rfl ?_
                refine u_ishl X dX5_presentFor_72 ?_
                refine u_ior X dX5_presentFor_73 ?_
                refine u_istore [(4, .int (l4_41 ||| ((1 : Int32) <<< (l6_41 &&& 31)))), (1, .ref (ad 1)), (3, .int a1), (5, .int (irm ((gI z 28 a0.toNatClampNeg) + a1) (gI z 1 0))), (6, .int l6_41)] X hl dX5_presentFor_74 (Nat.le_of_ble_eq_true rfl) rfl (fun ls hl => ?_)
                refine u_iinc [(6, .int (l6_41 + 1)), (4, .int (l4_41 ||| ((1 : Int32) <<< (l6_41 &&& 31)))), (1, .ref (ad 1)), (3, .int a1), (5, .int (irm ((gI z 28 a0.toNatClampNeg) + a1) (gI z 1 0)))] X hl dX5_presentFor_76 4 rfl rfl (Nat.le_of_ble_eq_true rfl) rfl (fun ls hl => ?_)
                refine u_goto 41 X dX5_presentFor_79 rfl ?_
                exact ih41 _ _ _ _ _ (lv_sub hl [2, 3, 1, 4, 0] rfl) hP hS h
      exact L41 LF _ _ _ _ _ (lv_sub hl [4, 6, 2, 1, 0] rfl) hP hS h
def fPlans_isIn (a0 : Int32) (a1 : Int32) : Int32 :=
  if ((a0 >>> (a1 &&& 31)) &&& 1) = 1 then 1 else 0
theorem fPlans_isIn_b (a0 : Int32) (a1 : Int32) : fPlans_isIn a0 a1 = 0 ∨ fPlans_isIn a0 a1 = 1 := by
  unfold fPlans_isIn
  (repeat' split) <;> first | with_reducible exact Or.inl rfl | with_reducible exact Or.inr rfl
set_option maxRecDepth 4000 in
theorem cPlans_isIn (l : Launch) (z : MS) (a0 : Int32) (a1 : Int32) : CT l yX5_isIn cX5_isIn 2 (some .boolean) 0 0 (fun ad sd => [.int a0, .int a1]) z (some (.int (fPlans_isIn a0 a1))) z := by
  generalize h : fPlans_isIn a0 a1 = r
  rw [fPlans_isIn] at h
  refine u_start RX5 rfl (by decide) (fun _ _ => Nat.le_of_ble_eq_true rfl) (fun p e s m args below meth c R D ad cs sd A Q ls X hP hS hl hr hret => ?_)
  have hl : lv_has ls 2 [(0, .int a0), (1, .int a1)] := hl
  refine u_iload_n X hl dX5_isIn_0 0 rfl ?_
  refine u_iload_n X hl dX5_isIn_1 1 rfl ?_
  refine u_ishr X dX5_isIn_2 ?_
  refine u_iconst (v := 1) X dX5_isIn_3 rfl ?_
  refine u_iand X dX5_isIn_4 ?_
  refine u_iconst (v := 1) X dX5_isIn_5 rfl ?_
  refine u_icmp_ne 13 X dX5_isIn_6 rfl (fun hc => ?_) (fun hc => ?_)
  · rw [if_neg hc] at h
    refine u_iconst (v := 0) X dX5_isIn_13 rfl ?_
    exact u_zretT X hr hret h hP hS (Or.inl rfl) dX5_isIn_14
  · rw [if_pos hc] at h
    refine u_iconst (v := 1) X dX5_isIn_9 rfl ?_
    refine u_goto 14 X dX5_isIn_10 rfl ?_
    exact u_zretT X hr hret h hP hS (Or.inr rfl) dX5_isIn_14
def fPlans_longestApart_J63 (z : MS) (K23 : Int32 → Int32 → Int32 → Option Int32) (l2 : Int32) (l4 : Int32) (l5 : Int32) (l6 : Int32) (l7 : Int32) : Option Int32 :=
  Option.bind (fHouse_lastDayOf z (fHouse_pairOf l6 l7) l2) (fun w72 => if l5 ≤ w72 then K23 l4 l5 (l7 + 1) else K23 (fHouse_pairOf l6 l7) w72 (l7 + 1))
def fPlans_longestApart_L23 (z : MS) (K10 : Int32 → Int32 → Int32 → Option Int32) (l1 : Int32) (l2 : Int32) (l3 : Int32) (l6 : Int32) : Nat → Int32 → Int32 → Int32 → Option Int32
  | 0, _, _, _ => none
  | n + 1, l4, l5, l7 => if 8 ≤ l7 then K10 l4 l5 (l6 + 1) else (if (fPlans_isIn l1 l6) = 0 then fPlans_longestApart_L23 z K10 l1 l2 l3 l6 n l4 l5 (l7 + 1) else (if (fPlans_isIn l1 l7) = 0 then fPlans_longestApart_L23 z K10 l1 l2 l3 l6 n l4 l5 (l7 + 1) else (if l3 = 0 then Option.bind (fHouse_areKin z l6 l7) (fun w57 => if w57 = 0 then fPlans_longestApart_J63 z (fPlans_longestApart_L23 z K10 l1 l2 l3 l6 n) l2 l4 l5 l6 l7 else fPlans_longestApart_L23 z K10 l1 l2 l3 l6 n l4 l5 (l7 + 1)) else fPlans_longestApart_J63 z (fPlans_longestApart_L23 z K10 l1 l2 l3 l6 n) l2 l4 l5 l6 l7)))
def fPlans_longestApart_L10 (z : MS) (l1 : Int32) (l2 : Int32) (l3 : Int32) : Nat → Int32 → Int32 → Int32 → Option Int32
  | 0, _, _, _ => none
  | n + 1, l4, l5, l6 => if 8 ≤ l6 then some l4 else fPlans_longestApart_L23 z (fPlans_longestApart_L10 z l1 l2 l3 n) l1 l2 l3 l6 LF l4 l5 (l6 + 1)
def fPlans_longestApart (z : MS) (a0 : Int32) (a1 : Int32) (a2 : Int32) : Option Int32 :=
  fPlans_longestApart_L10 z a0 a1 a2 LF (-1) 10 0
set_option maxRecDepth 4000 in
theorem cPlans_longestApart (l : Launch) {z : MS} {a0 : Int32} {a1 : Int32} {a2 : Int32} {r : Int32} (h : fPlans_longestApart z a0 a1 a2 = some r) : CT l yX5_longestApart cX5_longestApart 9 (some .int) 3 67 (fun ad sd => [.ref (ad 1), .int a0, .int a1, .int a2]) z (some (.int r)) z := by
  rw [fPlans_longestApart] at h
  refine u_start RX5 rfl (by decide) (fun _ _ => Nat.le_of_ble_eq_true rfl) (fun p e s m args below meth c R D ad cs sd A Q ls X hP hS hl hr hret => ?_)
  have hl : lv_has ls 9 [(0, .ref (ad 1)), (1, .int a0), (2, .int a1), (3, .int a2)] := hl
  refine u_iconst (v := (-1)) X dX5_longestApart_0 rfl ?_
  refine u_istore [(4, .int (-1)), (0, .ref (ad 1)), (1, .int a0), (2, .int a1), (3, .int a2)] X hl dX5_longestApart_1 (Nat.le_of_ble_eq_true rfl) rfl (fun ls hl => ?_)
  refine u_bipush (v := 10) X dX5_longestApart_3 rfl ?_
  refine u_istore [(5, .int 10), (4, .int (-1)), (0, .ref (ad 1)), (1, .int a0), (2, .int a1), (3, .int a2)] X hl dX5_longestApart_5 (Nat.le_of_ble_eq_true rfl) rfl (fun ls hl => ?_)
  refine u_iconst (v := 0) X dX5_longestApart_7 rfl ?_
  refine u_istore [(6, .int 0), (5, .int 10), (4, .int (-1)), (0, .ref (ad 1)), (1, .int a0), (2, .int a1), (3, .int a2)] X hl dX5_longestApart_8 (Nat.le_of_ble_eq_true rfl) rfl (fun ls hl => ?_)
  have L10 : ∀ (n : Nat) (H : Heap) (locs : List Loc) (ls : Array Slot) (l4_10 : Int32) (l5_10 : Int32) (l6_10 : Int32), lv_has ls 9 [(0, .ref (ad 1)), (1, .int a0), (2, .int a1), (3, .int a2), (4, .int l4_10), (5, .int l5_10), (6, .int l6_10)] → va_P D clss (wld cs ad z) H → va_S A s.heap H locs → fPlans_longestApart_L10 z a0 a1 a2 n l4_10 l5_10 l6_10 = some r → W p l e R s m args below meth c H locs 0 0 Q (F0 m 10 ls []) := by
    intro n
    induction n with
    | zero =>
      intro H locs ls l4_10 l5_10 l6_10 hl hP hS h
      rw [fPlans_longestApart_L10] at h
      cases h
    | succ n10 ih10 =>
      intro H locs ls l4_10 l5_10 l6_10 hl hP hS h
      rw [fPlans_longestApart_L10] at h
      refine u_iload X hl dX5_longestApart_10 6 rfl ?_
      refine u_bipush (v := 8) X dX5_longestApart_12 rfl ?_
      refine u_icmp_ge 109 X dX5_longestApart_14 rfl (fun hc => ?_) (fun hc => ?_)
      · rw [if_pos hc] at h
        refine u_iload X hl dX5_longestApart_109 4 rfl ?_
        exact u_iretP X hr hret h hP hS dX5_longestApart_111
      · rw [if_neg hc] at h
        refine u_iload X hl dX5_longestApart_17 6 rfl ?_
        refine u_iconst (v := 1) X dX5_longestApart_19 rfl ?_
        refine u_iadd X dX5_longestApart_20 ?_
        refine u_istore [(7, .int (l6_10 + 1)), (0, .ref (ad 1)), (1, .int a0), (2, .int a1), (3, .int a2), (4, .int l4_10), (5, .int l5_10), (6, .int l6_10)] X hl dX5_longestApart_21 (Nat.le_of_ble_eq_true rfl) rfl (fun ls hl => ?_)
        have L23 : ∀ (n : Nat) (H : Heap) (locs : List Loc) (ls : Array Slot) (l4_23 : Int32) (l5_23 : Int32) (l7_23 : Int32), lv_has ls 9 [(0, .ref (ad 1)), (1, .int a0), (2, .int a1), (3, .int a2), (4, .int l4_23), (5, .int l5_23), (6, .int l6_10), (7, .int l7_23)] → va_P D clss (wld cs ad z) H → va_S A s.heap H locs → fPlans_longestApart_L23 z (fPlans_longestApart_L10 z a0 a1 a2 n10) a0 a1 a2 l6_10 n l4_23 l5_23 l7_23 = some r → W p l e R s m args below meth c H locs 0 0 Q (F0 m 23 ls []) := by
          intro n
          induction n with
          | zero =>
            intro H locs ls l4_23 l5_23 l7_23 hl hP hS h
            rw [fPlans_longestApart_L23] at h
            cases h
          | succ n23 ih23 =>
            intro H locs ls l4_23 l5_23 l7_23 hl hP hS h
            rw [fPlans_longestApart_L23] at h
            refine u_iload X hl dX5_longestApart_23 7 rfl ?_
            refine u_bipush (v := 8) X dX5_longestApart_25 rfl ?_
            refine u_icmp_ge 103 X dX5_longestApart_27 rfl (fun hc => ?_) (fun hc => ?_)
            · rw [if_pos hc] at h
              refine u_iinc [(6, .int (l6_10 + 1)), (0, .ref (ad 1)), (1, .int a0), (2, .int a1), (3, .int a2), (4, .int l4_23), (5, .int l5_23), (7, .int l7_23)] X hl dX5_longestApart_103 6 rfl rfl (Nat.le_of_ble_eq_true rfl) rfl (fun ls hl => ?_)
              refine u_goto 10 X dX5_longestApart_106 rfl ?_
              exact ih10 _ _ _ _ _ _ (lv_sub hl [1, 2, 3, 4, 5, 6, 0] rfl) hP hS h
            · rw [if_neg hc] at h
              refine u_iload_n X hl dX5_longestApart_30 1 rfl ?_
              refine u_iload X hl dX5_longestApart_31 6 rfl ?_
              refine u_callSi X hP hS hl dX5_longestApart_33 (cPlans_isIn l z a0 l6_10) cw_X5_86 rfl rfl rfl rfl ⟨rfl, rfl⟩ (fun H locs hP hS => ?_)
              refine u_if_eq 97 X dX5_longestApart_36 rfl (fun hc => ?_) (fun hc => ?_)
              · rw [if_pos hc] at h
                refine u_iinc [(7, .int (l7_23 + 1)), (0, .ref (ad 1)), (1, .int a0), (2, .int a1), (3, .int a2), (4, .int l4_23), (5, .int l5_23), (6, .int l6_10)] X hl dX5_longestApart_97 7 rfl rfl (Nat.le_of_ble_eq_true rfl) rfl (fun ls hl => ?_)
                refine u_goto 23 X dX5_longestApart_100 rfl ?_
                exact ih23 _ _ _ _ _ _ (lv_sub hl [1, 2, 3, 4, 5, 6, 7, 0] rfl) hP hS h
              · rw [if_neg hc] at h
                refine u_iload_n X hl dX5_longestApart_39 1 rfl ?_
                refine u_iload X hl dX5_longestApart_40 7 rfl ?_
                refine u_callSi X hP hS hl dX5_longestApart_42 (cPlans_isIn l z a0 l7_23) cw_X5_86 rfl rfl rfl rfl ⟨rfl, rfl⟩ (fun H locs hP hS => ?_)
                refine u_if_eq 97 X dX5_longestApart_45 rfl (fun hc => ?_) (fun hc => ?_)
                · rw [if_pos hc] at h
                  refine u_iinc [(7, .int (l7_23 + 1)), (0, .ref (ad 1)), (1, .int a0), (2, .int a1), (3, .int a2), (4, .int l4_23), (5, .int l5_23), (6, .int l6_10)] X hl dX5_longestApart_97 7 rfl rfl (Nat.le_of_ble_eq_true rfl) rfl (fun ls hl => ?_)
                  refine u_goto 23 X dX5_longestApart_100 rfl ?_
                  exact ih23 _ _ _ _ _ _ (lv_sub hl [1, 2, 3, 4, 5, 6, 7, 0] rfl) hP hS h
                · rw [if_neg hc] at h
                  refine u_iload_n X hl dX5_longestApart_48 3 rfl ?_
                  have J63 : ∀ (H : Heap) (locs : List Loc) (ls : Array Slot), lv_has ls 9 [(0, .ref (ad 1)), (1, .int a0), (2, .int a1), (3, .int a2), (4, .int l4_23), (5, .int l5_23), (6, .int l6_10), (7, .int l7_23)] → va_P D clss (wld cs ad z) H → va_S A s.heap H locs → fPlans_longestApart_J63 z (fPlans_longestApart_L23 z (fPlans_longestApart_L10 z a0 a1 a2 n10) a0 a1 a2 l6_10 n23) a1 l4_23 l5_23 l6_10 l7_23 = some r → W p l e R s m args below meth c H locs 0 0 Q (F0 m 63 ls []) := by
                    intro H locs ls hl hP hS h
                    rw [fPlans_longestApart_J63] at h
                    refine u_aload_n X hl dX5_longestApart_63 0 rfl ?_
                    refine u_iload X hl dX5_longestApart_64 6 rfl ?_
                    refine u_iload X hl dX5_longestApart_66 7 rfl ?_
                    refine u_callSi X hP hS hl dX5_longestApart_68 (cHouse_pairOf l z l6_10 l7_23) cw_X5_92 rfl rfl rfl rfl ⟨rfl, rfl⟩ (fun H locs hP hS => ?_)
                    refine u_iload_n X hl dX5_longestApart_71 2 rfl ?_
                    obtain ⟨w72, hc72, h⟩ := ob_inv h
                    refine u_callVi X hP hS hl dX5_longestApart_72 (cHouse_lastDayOf l hc72) cw_X5_96 io_1 rfl rfl rfl rfl ⟨rfl, rfl⟩ (fun H locs hP hS => ?_)
                    refine u_istore [(8, .int w72), (0, .ref (ad 1)), (1, .int a0), (2, .int a1), (3, .int a2), (4, .int l4_23), (5, .int l5_23), (6, .int l6_10), (7, .int l7_23)] X hl dX5_longestApart_75 (Nat.le_of_ble_eq_true rfl) rfl (fun ls hl => ?_)
                    refine u_iload X hl dX5_longestApart_77 0 rfl ?_
                    refine u_iload X hl dX5_longestApart_79 6 rfl ?_
                    refine u_icmp_ge 97 X dX5_longestApart_81 rfl (fun hc => ?_) (fun hc => ?_)
                    · rw [if_pos hc] at h
                      refine u_iinc [(7, .int (l7_23 + 1)), (8, .int w72), (0, .ref (ad 1)), (1, .int a0), (2, .int a1), (3, .int a2), (4, .int l4_23), (5, .int l5_23), (6, .int l6_10)] X hl dX5_longestApart_97 8 rfl rfl (Nat.le_of_ble_eq_true rfl) rfl (fun ls hl => ?_)
                      refine u_goto 23 X dX5_longestApart_100 rfl ?_
                      exact ih23 _ _ _ _ _ _ (lv_sub hl [2, 3, 4, 5, 6, 7, 8, 0] rfl) hP hS h
                    · rw [if_neg hc] at h
                      refine u_iload X hl dX5_longestApart_84 0 rfl ?_
                      refine u_istore [(5, .int w72), (8, .int w72), (0, .ref (ad 1)), (1, .int a0), (2, .int a1), (3, .int a2), (4, .int l4_23), (6, .int l6_10), (7, .int l7_23)] X hl dX5_longestApart_86 (Nat.le_of_ble_eq_true rfl) rfl (fun ls hl => ?_)
                      refine u_iload X hl dX5_longestApart_88 7 rfl ?_
                      refine u_iload X hl dX5_longestApart_90 8 rfl ?_
                      refine u_callSi X hP hS hl dX5_longestApart_92 (cHouse_pairOf l z l6_10 l7_23) cw_X5_92 rfl rfl rfl rfl ⟨rfl, rfl⟩ (fun H locs hP hS => ?_)
                      refine u_istore [(4, .int (fHouse_pairOf l6_10 l7_23)), (5, .int w72), (8, .int w72), (0, .ref (ad 1)), (1, .int a0), (2, .int a1), (3, .int a2), (6, .int l6_10), (7, .int l7_23)] X hl dX5_longestApart_95 (Nat.le_of_ble_eq_true rfl) rfl (fun ls hl => ?_)
                      refine u_iinc [(7, .int (l7_23 + 1)), (4, .int (fHouse_pairOf l6_10 l7_23)), (5, .int w72), (8, .int w72), (0, .ref (ad 1)), (1, .int a0), (2, .int a1), (3, .int a2), (6, .int l6_10)] X hl dX5_longestApart_97 8 rfl rfl (Nat.le_of_ble_eq_true rfl) rfl (fun ls hl => ?_)
                      refine u_goto 23 X dX5_longestApart_100 rfl ?_
                      exact ih23 _ _ _ _ _ _ (lv_sub hl [4, 5, 6, 7, 1, 2, 8, 0] rfl) hP hS h
                  refine u_if_ne 63 X dX5_longestApart_49 rfl (fun hc => ?_) (fun hc => ?_)
                  · rw [if_neg hc] at h
                    exact J63 _ _ _ hl hP hS h
                  · rw [if_pos hc] at h
                    refine u_aload_n X hl dX5_longestApart_52 0 rfl ?_
                    refine u_iload X hl dX5_longestApart_53 6 rfl ?_
                    refine u_iload X hl dX5_longestApart_55 7 rfl ?_
                    obtain ⟨w57, hc57, h⟩ := ob_inv h
                    refine u_callVi X hP hS hl dX5_longestApart_57 (cHouse_areKin l hc57) cw_X5_89 io_1 rfl rfl rfl rfl ⟨rfl, rfl⟩ (fun H locs hP hS => ?_)
                    refine u_if_ne 97 X dX5_longestApart_60 rfl (fun hc => ?_) (fun hc => ?_)
                    · rw [if_neg hc] at h
                      refine u_iinc [(7, .int (l7_23 + 1)), (0, .ref (ad 1)), (1, .int a0), (2, .int a1), (3, .int a2), (4, .int l4_23), (5, .int l5_23), (6, .int l6_10)] X hl dX5_longestApart_97 7 rfl rfl (Nat.le_of_ble_eq_true rfl) rfl (fun ls hl => ?_)
                      refine u_goto 23 X dX5_longestApart_100 rfl ?_
                      exact ih23 _ _ _ _ _ _ (lv_sub hl [1, 2, 3, 4, 5, 6, 7, 0] rfl) hP hS h
                    · rw [if_pos hc] at h
                      exact J63 _ _ _ hl hP hS h
        exact L23 LF _ _ _ _ _ _ (lv_sub hl [1, 2, 3, 4, 5, 6, 7, 0] rfl) hP hS h
  exact L10 LF _ _ _ _ _ _ (lv_sub hl [3, 4, 5, 6, 2, 1, 0] rfl) hP hS h
def fPlans_leastOf_L2 (l0 : Int32) : Nat → Int32 → Option Int32
  | 0, _ => none
  | n + 1, l1 => if 8 ≤ l1 then some (-1) else (if (fPlans_isIn l0 l1) = 0 then fPlans_leastOf_L2 l0 n (l1 + 1) else some l1)
def fPlans_leastOf (a0 : Int32) : Option Int32 :=
  fPlans_leastOf_L2 a0 LF 0
set_option maxRecDepth 4000 in
theorem cPlans_leastOf (l : Launch) (z : MS) {a0 : Int32} {r : Int32} (h : fPlans_leastOf a0 = some r) : CT l yX5_leastOf cX5_leastOf 2 (some .int) 1 21 (fun ad sd => [.int a0]) z (some (.int r)) z := by
  rw [fPlans_leastOf] at h
  refine u_start RX5 rfl (by decide) (fun _ _ => Nat.le_of_ble_eq_true rfl) (fun p e s m args below meth c R D ad cs sd A Q ls X hP hS hl hr hret => ?_)
  have hl : lv_has ls 2 [(0, .int a0)] := hl
  refine u_iconst (v := 0) X dX5_leastOf_0 rfl ?_
  refine u_istore_n [(1, .int 0), (0, .int a0)] X hl dX5_leastOf_1 (Nat.le_of_ble_eq_true rfl) rfl (fun ls hl => ?_)
  have L2 : ∀ (n : Nat) (H : Heap) (locs : List Loc) (ls : Array Slot) (l1_2 : Int32), lv_has ls 2 [(0, .int a0), (1, .int l1_2)] → va_P D clss (wld cs ad z) H → va_S A s.heap H locs → fPlans_leastOf_L2 a0 n l1_2 = some r → W p l e R s m args below meth c H locs 0 0 Q (F0 m 2 ls []) := by
    intro n
    induction n with
    | zero =>
      intro H locs ls l1_2 hl hP hS h
      rw [fPlans_leastOf_L2] at h
      cases h
    | succ n2 ih2 =>
      intro H locs ls l1_2 hl hP hS h
      rw [fPlans_leastOf_L2] at h
      refine u_iload_n X hl dX5_leastOf_2 1 rfl ?_
      refine u_bipush (v := 8) X dX5_leastOf_3 rfl ?_
      refine u_icmp_ge 24 X dX5_leastOf_5 rfl (fun hc => ?_) (fun hc => ?_)
      · rw [if_pos hc] at h
        refine u_iconst (v := (-1)) X dX5_leastOf_24 rfl ?_
        exact u_iretP X hr hret h hP hS dX5_leastOf_25
      · rw [if_neg hc] at h
        refine u_iload_n X hl dX5_leastOf_8 0 rfl ?_
        refine u_iload_n X hl dX5_leastOf_9 1 rfl ?_
        refine u_callSi X hP hS hl dX5_leastOf_10 (cPlans_isIn l z a0 l1_2) cw_X5_86 rfl rfl rfl rfl ⟨rfl, rfl⟩ (fun H locs hP hS => ?_)
        refine u_if_eq 18 X dX5_leastOf_13 rfl (fun hc => ?_) (fun hc => ?_)
        · rw [if_pos hc] at h
          refine u_iinc [(1, .int (l1_2 + 1)), (0, .int a0)] X hl dX5_leastOf_18 1 rfl rfl (Nat.le_of_ble_eq_true rfl) rfl (fun ls hl => ?_)
          refine u_goto 2 X dX5_leastOf_21 rfl ?_
          exact ih2 _ _ _ _ (lv_sub hl [1, 0] rfl) hP hS h
        · rw [if_neg hc] at h
          refine u_iload_n X hl dX5_leastOf_16 1 rfl ?_
          exact u_iretP X hr hret h hP hS dX5_leastOf_17
  exact L2 LF _ _ _ _ (lv_sub hl [1, 0] rfl) hP hS h
def fPlans_seatByTurn_J24 (z : MS) (l2 : Int32) (l4 : Int32) : Option MS :=
  Option.bind (fPlans_leastOf ((l2 &&& (((1 : Int32) <<< ((gI (pI (pI z 29 0 (l4 / 8)) 29 1 (irm l4 8)) 29 0) &&& 31)) ^^^ (-1))) &&& (((1 : Int32) <<< ((gI (pI (pI z 29 0 (l4 / 8)) 29 1 (irm l4 8)) 29 1) &&& 31)) ^^^ (-1)))) (fun w78 => Option.bind (fPlans_leastOf (((l2 &&& (((1 : Int32) <<< ((gI (pI (pI z 29 0 (l4 / 8)) 29 1 (irm l4 8)) 29 0) &&& 31)) ^^^ (-1))) &&& (((1 : Int32) <<< ((gI (pI (pI z 29 0 (l4 / 8)) 29 1 (irm l4 8)) 29 1) &&& 31)) ^^^ (-1))) &&& (((1 : Int32) <<< ((gI (pI (pI (pI z 29 0 (l4 / 8)) 29 1 (irm l4 8)) 29 2 w78) 29 2) &&& 31)) ^^^ (-1)))) (fun w100 => some (pI (pI (pI (pI z 29 0 (l4 / 8)) 29 1 (irm l4 8)) 29 2 w78) 29 3 w100)))
def fPlans_seatByTurn (z : MS) (a0 : Int32) (a1 : Int32) : Option MS :=
  Option.bind (fPlans_longestApart z a0 a1 0) (fun w4 => if w4 = (-1) then Option.bind (fPlans_longestApart z a0 a1 1) (fun w19 => fPlans_seatByTurn_J24 z a0 w19) else fPlans_seatByTurn_J24 z a0 w4)
set_option maxRecDepth 4000 in
theorem cPlans_seatByTurn (l : Launch) {z : MS} {a0 : Int32} {a1 : Int32} {z1 : MS} (h : fPlans_seatByTurn z a0 a1 = some z1) : CT l yX5_seatByTurn cX5_seatByTurn 6 none 4 95 (fun ad sd => [.ref (ad 26), .ref (ad 1), .int a0, .int a1]) z none z1 := by
  rw [fPlans_seatByTurn] at h
  refine u_start RX5 rfl (by decide) (fun _ _ => Nat.le_of_ble_eq_true rfl) (fun p e s m args below meth c R D ad cs sd A Q ls X hP hS hl hr hret => ?_)
  have hl : lv_has ls 6 [(0, .ref (ad 26)), (1, .ref (ad 1)), (2, .int a0), (3, .int a1)] := hl
  refine u_aload_n X hl dX5_seatByTurn_0 1 rfl ?_
  refine u_iload_n X hl dX5_seatByTurn_1 2 rfl ?_
  refine u_iload_n X hl dX5_seatByTurn_2 3 rfl ?_
  refine u_iconst (v := 0) X dX5_seatByTurn_3 rfl ?_
  obtain ⟨w4, hc4, h⟩ := ob_inv h
  refine u_callSi X hP hS hl dX5_seatByTurn_4 (cPlans_longestApart l hc4) cw_X5_79 rfl rfl rfl rfl ⟨rfl, rfl⟩ (fun H locs hP hS => ?_)
  refine u_istore [(4, .int w4), (0, .ref (ad 26)), (1, .ref (ad 1)), (2, .int a0), (3, .int a1)] X hl dX5_seatByTurn_7 (Nat.le_of_ble_eq_true rfl) rfl (fun ls hl => ?_)
  refine u_iload X hl dX5_seatByTurn_9 0 rfl ?_
  refine u_iconst (v := (-1)) X dX5_seatByTurn_11 rfl ?_
  have J24 : ∀ (H : Heap) (locs : List Loc) (ls : Array Slot) (l4_24 : Int32), lv_has ls 6 [(0, .ref (ad 26)), (2, .int a0), (4, .int l4_24)] → va_P D clss (wld cs ad z) H → va_S A s.heap H locs → fPlans_seatByTurn_J24 z a0 l4_24 = some z1 → W p l e R s m args below meth c H locs 0 0 Q (F0 m 24 ls []) := by
    intro H locs ls l4_24 hl hP hS h
    rw [fPlans_seatByTurn_J24] at h
    refine u_aload_n X hl dX5_seatByTurn_24 0 rfl ?_
    refine gf_X5_18_26 X hP dX5_seatByTurn_25 ?_
    refine u_iconst (v := 0) X dX5_seatByTurn_28 rfl ?_
    refine u_iload X hl dX5_seatByTurn_29 2 rfl ?_
    refine u_bipush (v := 8) X dX5_seatByTurn_31 rfl ?_
    refine u_idiv X (by decide) dX5_seatByTurn_33 ?_
    refine as_29 (w := 0) X hP hS rfl (by decide) dX5_seatByTurn_34 (fun H locs hP hS => ?_)
    refine u_aload_n X hl dX5_seatByTurn_35 0 rfl ?_
    refine gf_X5_18_26 X hP dX5_seatByTurn_36 ?_
    refine u_iconst (v := 1) X dX5_seatByTurn_39 rfl ?_
    refine u_iload X hl dX5_seatByTurn_40 2 rfl ?_
    refine u_bipush (v := 8) X dX5_seatByTurn_42 rfl ?_
    refine u_irem X (by decide) dX5_seatByTurn_44 ?_
    refine as_29 (w := 1) X hP hS rfl (by decide) dX5_seatByTurn_45 (fun H locs hP hS => ?_)
    refine u_iload_n X hl dX5_seatByTurn_46 1 rfl ?_
    refine u_iconst (v := 1) X dX5_seatByTurn_47 rfl ?_
    refine u_aload_n X hl dX5_seatByTurn_48 0 rfl ?_
    refine gf_X5_18_26 X hP dX5_seatByTurn_49 ?_
    refine u_iconst (v := 0) X dX5_seatByTurn_52 rfl ?_
    refine ld_29 (w := 0) X hP rfl (by decide) dX5_seatByTurn_53 ?_
    refine u_ishl X dX5_seatByTurn_54 ?_
    refine u_iconst (v := (-1)) X dX5_seatByTurn_55 rfl ?_
    refine u_ixor X dX5_seatByTurn_56 ?_
    refine u_iand X dX5_seatByTurn_57 ?_
    refine u_iconst (v := 1) X dX5_seatByTurn_58 rfl ?_
    refine u_aload_n X hl dX5_seatByTurn_59 0 rfl ?_
    refine gf_X5_18_26 X hP dX5_seatByTurn_60 ?_
    refine u_iconst (v := 1) X dX5_seatByTurn_63 rfl ?_
    refine ld_29 (w := 1) X hP rfl (by decide) dX5_seatByTurn_64 ?_
    refine u_ishl X dX5_seatByTurn_65 ?_
    refine u_iconst (v := (-1)) X dX5_seatByTurn_66 rfl ?_
    refine u_ixor X dX5_seatByTurn_67 ?_
    refine u_iand X dX5_seatByTurn_68 ?_
    refine u_istore [(5, .int ((a0 &&& (((1 : Int32) <<< ((gI (pI (pI z 29 0 (l4_24 / 8)) 29 1 (irm l4_24 8)) 29 0) &&& 31)) ^^^ (-1))) &&& (((1 : Int32) <<< ((gI (pI (pI z 29 0 (l4_24 / 8)) 29 1 (irm l4_24 8)) 29 1) &&& 31)) ^^^ (-1)))), (0, .ref (ad 26)), (2, .int a0), (4, .int l4_24)] X hl dX5_seatByTurn_69 (Nat.le_of_ble_eq_true rfl) rfl (fun ls hl => ?_)
    refine u_aload_n X hl dX5_seatByTurn_71 1 rfl ?_
    refine gf_X5_18_26 X hP dX5_seatByTurn_72 ?_
    refine u_iconst (v := 2) X dX5_seatByTurn_75 rfl ?_
    refine u_iload X hl dX5_seatByTurn_76 0 rfl ?_
    obtain ⟨w78, hc78, h⟩ := ob_inv h
    refine u_callSi X hP hS hl dX5_seatByTurn_78 (cPlans_leastOf l (pI (pI z 29 0 (l4_24 / 8)) 29 1 (irm l4_24 8)) hc78) cw_X5_83 rfl rfl rfl rfl ⟨rfl, rfl⟩ (fun H locs hP hS => ?_)
    refine as_29 (w := 2) X hP hS rfl (by decide) dX5_seatByTurn_81 (fun H locs hP hS => ?_)
    refine u_aload_n X hl dX5_seatByTurn_82 1 rfl ?_
    refine gf_X5_18_26 X hP dX5_seatByTurn_83 ?_
    refine u_iconst (v := 3) X dX5_seatByTurn_86 rfl ?_
    refine u_iload X hl dX5_seatByTurn_87 0 rfl ?_
    refine u_iconst (v := 1) X dX5_seatByTurn_89 rfl ?_
    refine u_aload_n X hl dX5_seatByTurn_90 1 rfl ?_
    refine gf_X5_18_26 X hP dX5_seatByTurn_91 ?_
    refine u_iconst (v := 2) X dX5_seatByTurn_94 rfl ?_
    refine ld_29 (w := 2) X hP rfl (by decide) dX5_seatByTurn_95 ?_
    refine u_ishl X dX5_seatByTurn_96 ?_
    refine u_iconst (v := (-1)) X dX5_seatByTurn_97 rfl ?_
    refine u_ixor X dX5_seatByTurn_98 ?_
    refine u_iand X dX5_seatByTurn_99 ?_
    obtain ⟨w100, hc100, h⟩ := ob_inv h
    refine u_callSi X hP hS hl dX5_seatByTurn_100 (cPlans_leastOf l (pI (pI (pI z 29 0 (l4_24 / 8)) 29 1 (irm l4_24 8)) 29 2 w78) hc100) cw_X5_83 rfl rfl rfl rfl ⟨rfl, rfl⟩ (fun H locs hP hS => ?_)
    refine as_29 (w := 3) X hP hS rfl (by decide) dX5_seatByTurn_103 (fun H locs hP hS => ?_)
    exact u_vretM X hr hret h hP hS dX5_seatByTurn_104
  refine u_icmp_ne 24 X dX5_seatByTurn_12 rfl (fun hc => ?_) (fun hc => ?_)
  · rw [if_neg hc] at h
    exact J24 _ _ _ _ (lv_sub hl [1, 3, 0] rfl) hP hS h
  · rw [if_pos hc] at h
    refine u_aload_n X hl dX5_seatByTurn_15 2 rfl ?_
    refine u_iload_n X hl dX5_seatByTurn_16 3 rfl ?_
    refine u_iload_n X hl dX5_seatByTurn_17 4 rfl ?_
    refine u_iconst (v := 1) X dX5_seatByTurn_18 rfl ?_
    obtain ⟨w19, hc19, h⟩ := ob_inv h
    refine u_callSi X hP hS hl dX5_seatByTurn_19 (cPlans_longestApart l hc19) cw_X5_79 rfl rfl rfl rfl ⟨rfl, rfl⟩ (fun H locs hP hS => ?_)
    refine u_istore [(4, .int w19), (0, .ref (ad 26)), (1, .ref (ad 1)), (2, .int a0), (3, .int a1)] X hl dX5_seatByTurn_22 (Nat.le_of_ble_eq_true rfl) rfl (fun ls hl => ?_)
    exact J24 _ _ _ _ (lv_sub hl [1, 3, 0] rfl) hP hS h
def fPlans_sitDown_L5 (l2 : Int32) : Nat → MS → Int32 → Int32 → Option (Int32 × MS)
  | 0, _, _, _ => none
  | n + 1, z, l3, l4 => if 4 ≤ l4 then some (l3, z) else (if l4 < 0 ∨ 4 ≤ l4.toNatClampNeg then none else Option.bind (fHouse_seat z l2 l4 (gI z 29 l4.toNatClampNeg)) (fun zc22 => if l4 < 0 ∨ 4 ≤ l4.toNatClampNeg then none else fPlans_sitDown_L5 l2 n zc22 (l3 ||| ((gI zc22 29 l4.toNatClampNeg) <<< ((3 * l4) &&& 31))) (l4 + 1)))
def fPlans_sitDown (z : MS) (a0 : Int32) : Option (Int32 × MS) :=
  fPlans_sitDown_L5 a0 LF z 0 0
set_option maxRecDepth 4000 in
theorem cPlans_sitDown (l : Launch) {z : MS} {a0 : Int32} {r : Int32} {z1 : MS} (h : fPlans_sitDown z a0 = some (r, z1)) : CT l yX5_sitDown cX5_sitDown 5 (some .int) 1 23 (fun ad sd => [.ref (ad 26), .ref (ad 1), .int a0]) z (some (.int r)) z1 := by
  rw [fPlans_sitDown] at h
  refine u_start RX5 rfl (by decide) (fun _ _ => Nat.le_of_ble_eq_true rfl) (fun p e s m args below meth c R D ad cs sd A Q ls X hP hS hl hr hret => ?_)
  have hl : lv_has ls 5 [(0, .ref (ad 26)), (1, .ref (ad 1)), (2, .int a0)] := hl
  refine u_iconst (v := 0) X dX5_sitDown_0 rfl ?_
  refine u_istore_n [(3, .int 0), (0, .ref (ad 26)), (1, .ref (ad 1)), (2, .int a0)] X hl dX5_sitDown_1 (Nat.le_of_ble_eq_true rfl) rfl (fun ls hl => ?_)
  refine u_iconst (v := 0) X dX5_sitDown_2 rfl ?_
  refine u_istore [(4, .int 0), (3, .int 0), (0, .ref (ad 26)), (1, .ref (ad 1)), (2, .int a0)] X hl dX5_sitDown_3 (Nat.le_of_ble_eq_true rfl) rfl (fun ls hl => ?_)
  have L5 : ∀ (n : Nat) (H : Heap) (locs : List Loc) (ls : Array Slot) (z_5 : MS) (l3_5 : Int32) (l4_5 : Int32), lv_has ls 5 [(0, .ref (ad 26)), (1, .ref (ad 1)), (2, .int a0), (3, .int l3_5), (4, .int l4_5)] → va_P D clss (wld cs ad z_5) H → va_S A s.heap H locs → fPlans_sitDown_L5 a0 n z_5 l3_5 l4_5 = some (r, z1) → W p l e R s m args below meth c H locs 0 0 Q (F0 m 5 ls []) := by
    intro n
    induction n with
    | zero =>
      intro H locs ls z_5 l3_5 l4_5 hl hP hS h
      rw [fPlans_sitDown_L5] at h
      cases h
    | succ n5 ih5 =>
      intro H locs ls z_5 l3_5 l4_5 hl hP hS h
      rw [fPlans_sitDown_L5] at h
      refine u_iload X hl dX5_sitDown_5 4 rfl ?_
      refine u_iconst (v := 4) X dX5_sitDown_7 rfl ?_
      refine u_icmp_ge 46 X dX5_sitDown_8 rfl (fun hc => ?_) (fun hc => ?_)
      · rw [if_pos hc] at h
        refine u_iload_n X hl dX5_sitDown_46 3 rfl ?_
        exact u_iretM X hr hret h hP hS dX5_sitDown_47
      · rw [if_neg hc] at h
        refine u_aload_n X hl dX5_sitDown_11 1 rfl ?_
        refine u_iload_n X hl dX5_sitDown_12 2 rfl ?_
        refine u_iload X hl dX5_sitDown_13 4 rfl ?_
        refine u_aload_n X hl dX5_sitDown_15 0 rfl ?_
        refine gf_X5_18_26 X hP dX5_sitDown_16 ?_
        refine u_iload X hl dX5_sitDown_19 4 rfl ?_
        obtain ⟨hin, h⟩ := ifn_inv h
        refine ld_29 X hP rfl hin dX5_sitDown_21 ?_
        obtain ⟨zc22, hc22, h⟩ := ob_inv h
        refine u_callVv X hP hS hl dX5_sitDown_22 (cHouse_seat l hc22) cw_X5_106 io_1 rfl rfl rfl rfl ⟨rfl, rfl⟩ (fun H locs hP hS => ?_)
        refine u_iload_n X hl dX5_sitDown_25 3 rfl ?_
        refine u_aload_n X hl dX5_sitDown_26 0 rfl ?_
        refine gf_X5_18_26 X hP dX5_sitDown_27 ?_
        refine u_iload X hl dX5_sitDown_30 4 rfl ?_
        obtain ⟨hin, h⟩ := ifn_inv h
        refine ld_29 X hP rfl hin dX5_sitDown_32 ?_
        refine u_iconst (v := 3) X dX5_sitDown_33 rfl ?_
        refine u_iload X hl dX5_sitDown_34 4 rfl ?_
        refine u_imul X dX5_sitDown_36 ?_
        refine u_ishl X dX5_sitDown_37 ?_
        refine u_ior X dX5_sitDown_38 ?_
        refine u_istore_n [(3, .int (l3_5 ||| ((gI zc22 29 l4_5.toNatClampNeg) <<< ((3 * l4_5) &&& 31)))), (0, .ref (ad 26)), (1, .ref (ad 1)), (2, .int a0), (4, .int l4_5)] X hl dX5_sitDown_39 (Nat.le_of_ble_eq_true rfl) rfl (fun ls hl => ?_)
        refine u_iinc [(4, .int (l4_5 + 1)), (3, .int (l3_5 ||| ((gI zc22 29 l4_5.toNatClampNeg) <<< ((3 * l4_5) &&& 31)))), (0, .ref (ad 26)), (1, .ref (ad 1)), (2, .int a0)] X hl dX5_sitDown_40 4 rfl rfl (Nat.le_of_ble_eq_true rfl) rfl (fun ls hl => ?_)
        refine u_goto 5 X dX5_sitDown_43 rfl ?_
        exact ih5 _ _ _ _ _ _ (lv_sub hl [2, 3, 4, 1, 0] rfl) hP hS h
  exact L5 LF _ _ _ _ _ _ (lv_sub hl [2, 3, 4, 1, 0] rfl) hP hS h
def fPlans_drawFrom_L26 (z : MS) (l3 : Int32) : Nat → Int32 → Int32 → Option Int32
  | 0, _, _ => none
  | n + 1, l1, l4 => if l3 ≤ l4 then Option.bind (fPlans_leastOf l1) (fun w45 => some w45) else fPlans_drawFrom_L26 z l3 n (l1 &&& (l1 - 1)) (l4 + 1)
def fPlans_drawFrom (z : MS) (a0 : Int32) : Option Int32 :=
  if (fJInt_bitCount a0) ≤ 0 then fPlans_drawFrom_L26 z 0 LF a0 0 else (if (fJInt_bitCount a0) = 0 then none else fPlans_drawFrom_L26 z (irm (iush (gI z 26 4) 16) (fJInt_bitCount a0)) LF a0 0)
set_option maxRecDepth 4000 in
theorem cPlans_drawFrom (l : Launch) {z : MS} {a0 : Int32} {r : Int32} (h : fPlans_drawFrom z a0 = some r) : CT l yX5_drawFrom cX5_drawFrom 5 (some .int) 2 42 (fun ad sd => [.ref (ad 26), .int a0]) z (some (.int r)) z := by
  rw [fPlans_drawFrom] at h
  refine u_start RX5 rfl (by decide) (fun _ _ => Nat.le_of_ble_eq_true rfl) (fun p e s m args below meth c R D ad cs sd A Q ls X hP hS hl hr hret => ?_)
  have hl : lv_has ls 5 [(0, .ref (ad 26)), (1, .int a0)] := hl
  refine u_iload_n X hl dX5_drawFrom_0 1 rfl ?_
  refine u_callSi X hP hS hl dX5_drawFrom_1 (cJInt_bitCount l z a0) cw_X5_44 rfl rfl rfl rfl ⟨rfl, rfl⟩ (fun H locs hP hS => ?_)
  refine u_istore_n [(2, .int (fJInt_bitCount a0)), (0, .ref (ad 26)), (1, .int a0)] X hl dX5_drawFrom_4 (Nat.le_of_ble_eq_true rfl) rfl (fun ls hl => ?_)
  refine u_iload_n X hl dX5_drawFrom_5 0 rfl ?_
  refine u_if_le 21 X dX5_drawFrom_6 rfl (fun hc => ?_) (fun hc => ?_)
  · rw [if_pos hc] at h
    refine u_iconst (v := 0) X dX5_drawFrom_21 rfl ?_
    refine u_istore_n [(3, .int 0), (2, .int (fJInt_bitCount a0)), (0, .ref (ad 26)), (1, .int a0)] X hl dX5_drawFrom_22 (Nat.le_of_ble_eq_true rfl) rfl (fun ls hl => ?_)
    refine u_iconst (v := 0) X dX5_drawFrom_23 rfl ?_
    refine u_istore [(4, .int 0), (3, .int 0), (2, .int (fJInt_bitCount a0)), (0, .ref (ad 26)), (1, .int a0)] X hl dX5_drawFrom_24 (Nat.le_of_ble_eq_true rfl) rfl (fun ls hl => ?_)
    have L26 : ∀ (n : Nat) (H : Heap) (locs : List Loc) (ls : Array Slot) (l1_26 : Int32) (l4_26 : Int32), lv_has ls 5 [(1, .int l1_26), (3, .int 0), (4, .int l4_26)] → va_P D clss (wld cs ad z) H → va_S A s.heap H locs → fPlans_drawFrom_L26 z 0 n l1_26 l4_26 = some r → W p l e R s m args below meth c H locs 0 0 Q (F0 m 26 ls []) := by
      intro n
      induction n with
      | zero =>
        intro H locs ls l1_26 l4_26 hl hP hS h
        rw [fPlans_drawFrom_L26] at h
        cases h
      | succ n26 ih26 =>
        intro H locs ls l1_26 l4_26 hl hP hS h
        rw [fPlans_drawFrom_L26] at h
        refine u_iload X hl dX5_drawFrom_26 2 rfl ?_
        refine u_iload_n X hl dX5_drawFrom_28 1 rfl ?_
        refine u_icmp_ge 44 X dX5_drawFrom_29 rfl (fun hc => ?_) (fun hc => ?_)
        · rw [if_pos hc] at h
          refine u_iload_n X hl dX5_drawFrom_44 0 rfl ?_
          obtain ⟨w45, hc45, h⟩ := ob_inv h
          refine u_callSi X hP hS hl dX5_drawFrom_45 (cPlans_leastOf l z hc45) cw_X5_83 rfl rfl rfl rfl ⟨rfl, rfl⟩ (fun H locs hP hS => ?_)
          exact u_iretP X hr hret h hP hS dX5_drawFrom_48
        · rw [if_neg hc] at h
          refine u_iload_n X hl dX5_drawFrom_32 0 rfl ?_
          refine u_iload_n X hl dX5_drawFrom_33 0 rfl ?_
          refine u_iconst (v := 1) X dX5_drawFrom_34 rfl ?_
          refine u_isub X dX5_drawFrom_35 ?_
          refine u_iand X dX5_drawFrom_36 ?_
          refine u_istore_n [(1, .int (l1_26 &&& (l1_26 - 1))), (3, .int 0), (4, .int l4_26)] X hl dX5_drawFrom_37 (Nat.le_of_ble_eq_true rfl) rfl (fun ls hl => ?_)
          refine u_iinc [(4, .int (l4_26 + 1)), (1, .int (l1_26 &&& (l1_26 - 1))), (3, .int 0)] X hl dX5_drawFrom_38 2 rfl rfl (Nat.le_of_ble_eq_true rfl) rfl (fun ls hl => ?_)
          refine u_goto 26 X dX5_drawFrom_41 rfl ?_
          exact ih26 _ _ _ _ _ (lv_sub hl [1, 2, 0] rfl) hP hS h
    exact L26 LF _ _ _ _ _ (lv_sub hl [4, 1, 0] rfl) hP hS h
  · rw [if_neg hc] at h
    refine u_aload_n X hl dX5_drawFrom_9 1 rfl ?_
    refine gf_X5_25_26 X hP dX5_drawFrom_10 ?_
    refine u_bipush (v := 16) X dX5_drawFrom_13 rfl ?_
    refine u_iushr X dX5_drawFrom_15 ?_
    refine u_iload_n X hl dX5_drawFrom_16 0 rfl ?_
    obtain ⟨hn, h⟩ := ifn_inv h
    refine u_irem X hn dX5_drawFrom_17 ?_
    refine u_goto 22 X dX5_drawFrom_18 rfl ?_
    refine u_istore_n [(3, .int (irm (iush (gI z 26 4) 16) (fJInt_bitCount a0))), (2, .int (fJInt_bitCount a0)), (0, .ref (ad 26)), (1, .int a0)] X hl dX5_drawFrom_22 (Nat.le_of_ble_eq_true rfl) rfl (fun ls hl => ?_)
    refine u_iconst (v := 0) X dX5_drawFrom_23 rfl ?_
    refine u_istore [(4, .int 0), (3, .int (irm (iush (gI z 26 4) 16) (fJInt_bitCount a0))), (2, .int (fJInt_bitCount a0)), (0, .ref (ad 26)), (1, .int a0)] X hl dX5_drawFrom_24 (Nat.le_of_ble_eq_true rfl) rfl (fun ls hl => ?_)
    have L26 : ∀ (n : Nat) (H : Heap) (locs : List Loc) (ls : Array Slot) (l1_26 : Int32) (l4_26 : Int32), lv_has ls 5 [(1, .int l1_26), (3, .int (irm (iush (gI z 26 4) 16) (fJInt_bitCount a0))), (4, .int l4_26)] → va_P D clss (wld cs ad z) H → va_S A s.heap H locs → fPlans_drawFrom_L26 z (irm (iush (gI z 26 4) 16) (fJInt_bitCount a0)) n l1_26 l4_26 = some r → W p l e R s m args below meth c H locs 0 0 Q (F0 m 26 ls []) := by
      intro n
      induction n with
      | zero =>
        intro H locs ls l1_26 l4_26 hl hP hS h
        rw [fPlans_drawFrom_L26] at h
        cases h
      | succ n26 ih26 =>
        intro H locs ls l1_26 l4_26 hl hP hS h
        rw [fPlans_drawFrom_L26] at h
        refine u_iload X hl dX5_drawFrom_26 2 rfl ?_
        refine u_iload_n X hl dX5_drawFrom_28 1 rfl ?_
        refine u_icmp_ge 44 X dX5_drawFrom_29 rfl (fun hc => ?_) (fun hc => ?_)
        · rw [if_pos hc] at h
          refine u_iload_n X hl dX5_drawFrom_44 0 rfl ?_
          obtain ⟨w45, hc45, h⟩ := ob_inv h
          refine u_callSi X hP hS hl dX5_drawFrom_45 (cPlans_leastOf l z hc45) cw_X5_83 rfl rfl rfl rfl ⟨rfl, rfl⟩ (fun H locs hP hS => ?_)
          exact u_iretP X hr hret h hP hS dX5_drawFrom_48
        · rw [if_neg hc] at h
          refine u_iload_n X hl dX5_drawFrom_32 0 rfl ?_
          refine u_iload_n X hl dX5_drawFrom_33 0 rfl ?_
          refine u_iconst (v := 1) X dX5_drawFrom_34 rfl ?_
          refine u_isub X dX5_drawFrom_35 ?_
          refine u_iand X dX5_drawFrom_36 ?_
          refine u_istore_n [(1, .int (l1_26 &&& (l1_26 - 1))), (3, .int (irm (iush (gI z 26 4) 16) (fJInt_bitCount a0))), (4, .int l4_26)] X hl dX5_drawFrom_37 (Nat.le_of_ble_eq_true rfl) rfl (fun ls hl => ?_)
          refine u_iinc [(4, .int (l4_26 + 1)), (1, .int (l1_26 &&& (l1_26 - 1))), (3, .int (irm (iush (gI z 26 4) 16) (fJInt_bitCount a0)))] X hl dX5_drawFrom_38 2 rfl rfl (Nat.le_of_ble_eq_true rfl) rfl (fun ls hl => ?_)
          refine u_goto 26 X dX5_drawFrom_41 rfl ?_
          exact ih26 _ _ _ _ _ (lv_sub hl [1, 2, 0] rfl) hP hS h
    exact L26 LF _ _ _ _ _ (lv_sub hl [4, 1, 0] rfl) hP hS h
def fPlans_seatByDraw_L4 : Nat → MS → Int32 → Int32 → Option MS
  | 0, _, _, _ => none
  | n + 1, z, l2, l3 => if 4 ≤ l3 then some z else Option.bind (fPlans_drawFrom (pI z 26 4 (((gI z 26 4) * 1103515245) + 12345)) l2) (fun w31 => if l3 < 0 ∨ 4 ≤ l3.toNatClampNeg then none else if l3 < 0 ∨ 4 ≤ l3.toNatClampNeg then none else fPlans_seatByDraw_L4 n (pI (pI z 26 4 (((gI z 26 4) * 1103515245) + 12345)) 29 l3.toNatClampNeg w31) (l2 &&& (((1 : Int32) <<< ((gI (pI (pI z 26 4 (((gI z 26 4) * 1103515245) + 12345)) 29 l3.toNatClampNeg w31) 29 l3.toNatClampNeg) &&& 31)) ^^^ (-1))) (l3 + 1))
def fPlans_seatByDraw (z : MS) (a0 : Int32) : Option MS :=
  fPlans_seatByDraw_L4 LF z a0 0
set_option maxRecDepth 4000 in
theorem cPlans_seatByDraw (l : Launch) {z : MS} {a0 : Int32} {z1 : MS} (h : fPlans_seatByDraw z a0 = some z1) : CT l yX5_seatByDraw cX5_seatByDraw 4 none 3 66 (fun ad sd => [.ref (ad 26), .int a0]) z none z1 := by
  rw [fPlans_seatByDraw] at h
  refine u_start RX5 rfl (by decide) (fun _ _ => Nat.le_of_ble_eq_true rfl) (fun p e s m args below meth c R D ad cs sd A Q ls X hP hS hl hr hret => ?_)
  have hl : lv_has ls 4 [(0, .ref (ad 26)), (1, .int a0)] := hl
  refine u_iload_n X hl dX5_seatByDraw_0 1 rfl ?_
  refine u_istore_n [(2, .int a0), (0, .ref (ad 26)), (1, .int a0)] X hl dX5_seatByDraw_1 (Nat.le_of_ble_eq_true rfl) rfl (fun ls hl => ?_)
  refine u_iconst (v := 0) X dX5_seatByDraw_2 rfl ?_
  refine u_istore_n [(3, .int 0), (2, .int a0), (0, .ref (ad 26)), (1, .int a0)] X hl dX5_seatByDraw_3 (Nat.le_of_ble_eq_true rfl) rfl (fun ls hl => ?_)
  have L4 : ∀ (n : Nat) (H : Heap) (locs : List Loc) (ls : Array Slot) (z_4 : MS) (l2_4 : Int32) (l3_4 : Int32), lv_has ls 4 [(0, .ref (ad 26)), (2, .int l2_4), (3, .int l3_4)] → va_P D clss (wld cs ad z_4) H → va_S A s.heap H locs → fPlans_seatByDraw_L4 n z_4 l2_4 l3_4 = some z1 → W p l e R s m args below meth c H locs 0 0 Q (F0 m 4 ls []) := by
    intro n
    induction n with
    | zero =>
      intro H locs ls z_4 l2_4 l3_4 hl hP hS h
      rw [fPlans_seatByDraw_L4] at h
      cases h
    | succ n4 ih4 =>
      intro H locs ls z_4 l2_4 l3_4 hl hP hS h
      rw [fPlans_seatByDraw_L4] at h
      refine u_iload_n X hl dX5_seatByDraw_4 2 rfl ?_
      refine u_iconst (v := 4) X dX5_seatByDraw_5 rfl ?_
      refine u_icmp_ge 54 X dX5_seatByDraw_6 rfl (fun hc => ?_) (fun hc => ?_)
      · rw [if_pos hc] at h
        exact u_vretM X hr hret h hP hS dX5_seatByDraw_54
      · rw [if_neg hc] at h
        refine u_aload_n X hl dX5_seatByDraw_9 0 rfl ?_
        refine u_aload_n X hl dX5_seatByDraw_10 0 rfl ?_
        refine gf_X5_25_26 X hP dX5_seatByDraw_11 ?_
        refine u_ldc X kw_X5_99 dX5_seatByDraw_14 ?_
        refine u_imul X dX5_seatByDraw_16 ?_
        refine u_sipush (v := 12345) X dX5_seatByDraw_17 rfl ?_
        refine u_iadd X dX5_seatByDraw_20 ?_
        refine pf_X5_25_26 X hP hS dX5_seatByDraw_21 (fun H locs hP hS => ?_)
        refine u_aload_n X hl dX5_seatByDraw_24 0 rfl ?_
        refine gf_X5_18_26 X hP dX5_seatByDraw_25 ?_
        refine u_iload_n X hl dX5_seatByDraw_28 2 rfl ?_
        refine u_aload_n X hl dX5_seatByDraw_29 0 rfl ?_
        refine u_iload_n X hl dX5_seatByDraw_30 1 rfl ?_
        obtain ⟨w31, hc31, h⟩ := ob_inv h
        refine u_callVi X hP hS hl dX5_seatByDraw_31 (cPlans_drawFrom l hc31) cw_X5_100 io_26 rfl rfl rfl rfl ⟨rfl, rfl⟩ (fun H locs hP hS => ?_)
        obtain ⟨hin, h⟩ := ifn_inv h
        refine as_29 X hP hS rfl hin dX5_seatByDraw_34 (fun H locs hP hS => ?_)
        refine u_iload_n X hl dX5_seatByDraw_35 1 rfl ?_
        refine u_iconst (v := 1) X dX5_seatByDraw_36 rfl ?_
        refine u_aload_n X hl dX5_seatByDraw_37 0 rfl ?_
        refine gf_X5_18_26 X hP dX5_seatByDraw_38 ?_
        refine u_iload_n X hl dX5_seatByDraw_41 2 rfl ?_
        obtain ⟨hin, h⟩ := ifn_inv h
        refine ld_29 X hP rfl hin dX5_seatByDraw_42 ?_
        refine u_ishl X dX5_seatByDraw_43 ?_
        refine u_iconst (v := (-1)) X dX5_seatByDraw_44 rfl ?_
        refine u_ixor X dX5_seatByDraw_45 ?_
        refine u_iand X dX5_seatByDraw_46 ?_
        refine u_istore_n [(2, .int (l2_4 &&& (((1 : Int32) <<< ((gI (pI (pI z_4 26 4 (((gI z_4 26 4) * 1103515245) + 12345)) 29 l3_4.toNatClampNeg w31) 29 l3_4.toNatClampNeg) &&& 31)) ^^^ (-1)))), (0, .ref (ad 26)), (3, .int l3_4)] X hl dX5_seatByDraw_47 (Nat.le_of_ble_eq_true rfl) rfl (fun ls hl => ?_)
        refine u_iinc [(3, .int (l3_4 + 1)), (2, .int (l2_4 &&& (((1 : Int32) <<< ((gI (pI (pI z_4 26 4 (((gI z_4 26 4) * 1103515245) + 12345)) 29 l3_4.toNatClampNeg w31) 29 l3_4.toNatClampNeg) &&& 31)) ^^^ (-1)))), (0, .ref (ad 26))] X hl dX5_seatByDraw_48 2 rfl rfl (Nat.le_of_ble_eq_true rfl) rfl (fun ls hl => ?_)
        refine u_goto 4 X dX5_seatByDraw_51 rfl ?_
        exact ih4 _ _ _ _ _ _ (lv_sub hl [2, 1, 0] rfl) hP hS h
  exact L4 LF _ _ _ _ _ _ (lv_sub hl [2, 1, 0] rfl) hP hS h
def fPlans_seatStranger (z : MS) (a0 : Int32) : Option MS :=
  if (gI z 29 0) < 0 ∨ 8 ≤ (gI z 29 0).toNatClampNeg then none else if (gI z 29 1) < 0 ∨ 8 ≤ (gI z 29 1).toNatClampNeg then none else if ((((a0 &&& (((1 : Int32) <<< ((gI z 29 0) &&& 31)) ^^^ (-1))) &&& (((1 : Int32) <<< ((gI z 29 1) &&& 31)) ^^^ (-1))) &&& (((1 : Int32) <<< ((gI z 29 2) &&& 31)) ^^^ (-1))) &&& (((gI z 2 (gI z 29 0).toNatClampNeg) ||| (gI z 2 (gI z 29 1).toNatClampNeg)) ^^^ (-1))) = 0 then some z else Option.bind (fPlans_leastOf ((((a0 &&& (((1 : Int32) <<< ((gI z 29 0) &&& 31)) ^^^ (-1))) &&& (((1 : Int32) <<< ((gI z 29 1) &&& 31)) ^^^ (-1))) &&& (((1 : Int32) <<< ((gI z 29 2) &&& 31)) ^^^ (-1))) &&& (((gI z 2 (gI z 29 0).toNatClampNeg) ||| (gI z 2 (gI z 29 1).toNatClampNeg)) ^^^ (-1)))) (fun w80 => some (pI z 29 3 w80))
set_option maxRecDepth 4000 in
theorem cPlans_seatStranger (l : Launch) {z : MS} {a0 : Int32} {z1 : MS} (h : fPlans_seatStranger z a0 = some z1) : CT l yX5_seatStranger cX5_seatStranger 6 none 2 42 (fun ad sd => [.ref (ad 26), .ref (ad 1), .int a0]) z none z1 := by
  rw [fPlans_seatStranger] at h
  refine u_start RX5 rfl (by decide) (fun _ _ => Nat.le_of_ble_eq_true rfl) (fun p e s m args below meth c R D ad cs sd A Q ls X hP hS hl hr hret => ?_)
  have hl : lv_has ls 6 [(0, .ref (ad 26)), (1, .ref (ad 1)), (2, .int a0)] := hl
  refine u_aload_n X hl dX5_seatStranger_0 1 rfl ?_
  refine gf_X5_103_1 X hP dX5_seatStranger_1 ?_
  refine u_aload_n X hl dX5_seatStranger_4 0 rfl ?_
  refine gf_X5_18_26 X hP dX5_seatStranger_5 ?_
  refine u_iconst (v := 0) X dX5_seatStranger_8 rfl ?_
  refine ld_29 (w := 0) X hP rfl (by decide) dX5_seatStranger_9 ?_
  obtain ⟨hin, h⟩ := ifn_inv h
  refine ld_2 X hP rfl hin dX5_seatStranger_10 ?_
  refine u_aload_n X hl dX5_seatStranger_11 1 rfl ?_
  refine gf_X5_103_1 X hP dX5_seatStranger_12 ?_
  refine u_aload_n X hl dX5_seatStranger_15 0 rfl ?_
  refine gf_X5_18_26 X hP dX5_seatStranger_16 ?_
  refine u_iconst (v := 1) X dX5_seatStranger_19 rfl ?_
  refine ld_29 (w := 1) X hP rfl (by decide) dX5_seatStranger_20 ?_
  obtain ⟨hin, h⟩ := ifn_inv h
  refine ld_2 X hP rfl hin dX5_seatStranger_21 ?_
  refine u_ior X dX5_seatStranger_22 ?_
  refine u_istore_n [(3, .int ((gI z 2 (gI z 29 0).toNatClampNeg) ||| (gI z 2 (gI z 29 1).toNatClampNeg))), (0, .ref (ad 26)), (1, .ref (ad 1)), (2, .int a0)] X hl dX5_seatStranger_23 (Nat.le_of_ble_eq_true rfl) rfl (fun ls hl => ?_)
  refine u_iload_n X hl dX5_seatStranger_24 3 rfl ?_
  refine u_iconst (v := 1) X dX5_seatStranger_25 rfl ?_
  refine u_aload_n X hl dX5_seatStranger_26 1 rfl ?_
  refine gf_X5_18_26 X hP dX5_seatStranger_27 ?_
  refine u_iconst (v := 0) X dX5_seatStranger_30 rfl ?_
  refine ld_29 (w := 0) X hP rfl (by decide) dX5_seatStranger_31 ?_
  refine u_ishl X dX5_seatStranger_32 ?_
  refine u_iconst (v := (-1)) X dX5_seatStranger_33 rfl ?_
  refine u_ixor X dX5_seatStranger_34 ?_
  refine u_iand X dX5_seatStranger_35 ?_
  refine u_iconst (v := 1) X dX5_seatStranger_36 rfl ?_
  refine u_aload_n X hl dX5_seatStranger_37 1 rfl ?_
  refine gf_X5_18_26 X hP dX5_seatStranger_38 ?_
  refine u_iconst (v := 1) X dX5_seatStranger_41 rfl ?_
  refine ld_29 (w := 1) X hP rfl (by decide) dX5_seatStranger_42 ?_
  refine u_ishl X dX5_seatStranger_43 ?_
  refine u_iconst (v := (-1)) X dX5_seatStranger_44 rfl ?_
  refine u_ixor X dX5_seatStranger_45 ?_
  refine u_iand X dX5_seatStranger_46 ?_
  refine u_iconst (v := 1) X dX5_seatStranger_47 rfl ?_
  refine u_aload_n X hl dX5_seatStranger_48 1 rfl ?_
  refine gf_X5_18_26 X hP dX5_seatStranger_49 ?_
  refine u_iconst (v := 2) X dX5_seatStranger_52 rfl ?_
  refine ld_29 (w := 2) X hP rfl (by decide) dX5_seatStranger_53 ?_
  refine u_ishl X dX5_seatStranger_54 ?_
  refine u_iconst (v := (-1)) X dX5_seatStranger_55 rfl ?_
  refine u_ixor X dX5_seatStranger_56 ?_
  refine u_iand X dX5_seatStranger_57 ?_
  refine u_istore [(4, .int (((a0 &&& (((1 : Int32) <<< ((gI z 29 0) &&& 31)) ^^^ (-1))) &&& (((1 : Int32) <<< ((gI z 29 1) &&& 31)) ^^^ (-1))) &&& (((1 : Int32) <<< ((gI z 29 2) &&& 31)) ^^^ (-1)))), (3, .int ((gI z 2 (gI z 29 0).toNatClampNeg) ||| (gI z 2 (gI z 29 1).toNatClampNeg))), (0, .ref (ad 26)), (1, .ref (ad 1)), (2, .int a0)] X hl dX5_seatStranger_58 (Nat.le_of_ble_eq_true rfl) rfl (fun ls hl => ?_)
  refine u_iload X hl dX5_seatStranger_60 0 rfl ?_
  refine u_iload_n X hl dX5_seatStranger_62 1 rfl ?_
  refine u_iconst (v := (-1)) X dX5_seatStranger_63 rfl ?_
  refine u_ixor X dX5_seatStranger_64 ?_
  refine u_iand X dX5_seatStranger_65 ?_
  refine u_istore [(5, .int ((((a0 &&& (((1 : Int32) <<< ((gI z 29 0) &&& 31)) ^^^ (-1))) &&& (((1 : Int32) <<< ((gI z 29 1) &&& 31)) ^^^ (-1))) &&& (((1 : Int32) <<< ((gI z 29 2) &&& 31)) ^^^ (-1))) &&& (((gI z 2 (gI z 29 0).toNatClampNeg) ||| (gI z 2 (gI z 29 1).toNatClampNeg)) ^^^ (-1)))), (4, .int (((a0 &&& (((1 : Int32) <<< ((gI z 29 0) &&& 31)) ^^^ (-1))) &&& (((1 : Int32) <<< ((gI z 29 1) &&& 31)) ^^^ (-1))) &&& (((1 : Int32) <<< ((gI z 29 2) &&& 31)) ^^^ (-1)))), (3, .int ((gI z 2 (gI z 29 0).toNatClampNeg) ||| (gI z 2 (gI z 29 1).toNatClampNeg))), (0, .ref (ad 26)), (1, .ref (ad 1)), (2, .int a0)] X hl dX5_seatStranger_66 (Nat.le_of_ble_eq_true rfl) rfl (fun ls hl => ?_)
  refine u_iload X hl dX5_seatStranger_68 0 rfl ?_
  refine u_if_eq 84 X dX5_seatStranger_70 rfl (fun hc => ?_) (fun hc => ?_)
  · rw [if_pos hc] at h
    exact u_vretM X hr hret h hP hS dX5_seatStranger_84
  · rw [if_neg hc] at h
    refine u_aload_n X hl dX5_seatStranger_73 3 rfl ?_
    refine gf_X5_18_26 X hP dX5_seatStranger_74 ?_
    refine u_iconst (v := 3) X dX5_seatStranger_77 rfl ?_
    refine u_iload X hl dX5_seatStranger_78 0 rfl ?_
    obtain ⟨w80, hc80, h⟩ := ob_inv h
    refine u_callSi X hP hS hl dX5_seatStranger_80 (cPlans_leastOf l z hc80) cw_X5_83 rfl rfl rfl rfl ⟨rfl, rfl⟩ (fun H locs hP hS => ?_)
    refine as_29 (w := 3) X hP hS rfl (by decide) dX5_seatStranger_83 (fun H locs hP hS => ?_)
    exact u_vretM X hr hret h hP hS dX5_seatStranger_84
def fPlans_seatTold_L2 (l2 : Int32) : Nat → MS → Int32 → Option (Int32 × MS)
  | 0, _, _ => none
  | n + 1, z, l3 => if 4 ≤ l3 then some (1, z) else (if l3 < 0 ∨ 4 ≤ l3.toNatClampNeg then none else if l3 < 0 ∨ 4 ≤ l3.toNatClampNeg then none else if (fHouse_isPerson (pI z 29 l3.toNatClampNeg ((l2 >>> ((3 * l3) &&& 31)) &&& 7)) (gI (pI z 29 l3.toNatClampNeg ((l2 >>> ((3 * l3) &&& 31)) &&& 7)) 29 l3.toNatClampNeg)) = 0 then some (0, pI z 29 l3.toNatClampNeg ((l2 >>> ((3 * l3) &&& 31)) &&& 7)) else fPlans_seatTold_L2 l2 n (pI z 29 l3.toNatClampNeg ((l2 >>> ((3 * l3) &&& 31)) &&& 7)) (l3 + 1))
def fPlans_seatTold (z : MS) (a0 : Int32) : Option (Int32 × MS) :=
  fPlans_seatTold_L2 a0 LF z 0
set_option maxRecDepth 4000 in
theorem cPlans_seatTold (l : Launch) {z : MS} {a0 : Int32} {r : Int32} {z1 : MS} (h : fPlans_seatTold z a0 = some (r, z1)) : CT l yX5_seatTold cX5_seatTold 4 (some .boolean) 1 21 (fun ad sd => [.ref (ad 26), .ref (ad 1), .int a0]) z (some (.int r)) z1 := by
  rw [fPlans_seatTold] at h
  refine u_start RX5 rfl (by decide) (fun _ _ => Nat.le_of_ble_eq_true rfl) (fun p e s m args below meth c R D ad cs sd A Q ls X hP hS hl hr hret => ?_)
  have hl : lv_has ls 4 [(0, .ref (ad 26)), (1, .ref (ad 1)), (2, .int a0)] := hl
  refine u_iconst (v := 0) X dX5_seatTold_0 rfl ?_
  refine u_istore_n [(3, .int 0), (0, .ref (ad 26)), (1, .ref (ad 1)), (2, .int a0)] X hl dX5_seatTold_1 (Nat.le_of_ble_eq_true rfl) rfl (fun ls hl => ?_)
  have L2 : ∀ (n : Nat) (H : Heap) (locs : List Loc) (ls : Array Slot) (z_2 : MS) (l3_2 : Int32), lv_has ls 4 [(0, .ref (ad 26)), (1, .ref (ad 1)), (2, .int a0), (3, .int l3_2)] → va_P D clss (wld cs ad z_2) H → va_S A s.heap H locs → fPlans_seatTold_L2 a0 n z_2 l3_2 = some (r, z1) → W p l e R s m args below meth c H locs 0 0 Q (F0 m 2 ls []) := by
    intro n
    induction n with
    | zero =>
      intro H locs ls z_2 l3_2 hl hP hS h
      rw [fPlans_seatTold_L2] at h
      cases h
    | succ n2 ih2 =>
      intro H locs ls z_2 l3_2 hl hP hS h
      rw [fPlans_seatTold_L2] at h
      refine u_iload_n X hl dX5_seatTold_2 3 rfl ?_
      refine u_iconst (v := 4) X dX5_seatTold_3 rfl ?_
      refine u_icmp_ge 42 X dX5_seatTold_4 rfl (fun hc => ?_) (fun hc => ?_)
      · rw [if_pos hc] at h
        refine u_iconst (v := 1) X dX5_seatTold_42 rfl ?_
        exact u_zretM X hr hret h hP hS (Or.inr rfl) dX5_seatTold_43
      · rw [if_neg hc] at h
        refine u_aload_n X hl dX5_seatTold_7 0 rfl ?_
        refine gf_X5_18_26 X hP dX5_seatTold_8 ?_
        refine u_iload_n X hl dX5_seatTold_11 3 rfl ?_
        refine u_iload_n X hl dX5_seatTold_12 2 rfl ?_
        refine u_iconst (v := 3) X dX5_seatTold_13 rfl ?_
        refine u_iload_n X hl dX5_seatTold_14 3 rfl ?_
        refine u_imul X dX5_seatTold_15 ?_
        refine u_ishr X dX5_seatTold_16 ?_
        refine u_bipush (v := 7) X dX5_seatTold_17 rfl ?_
        refine u_iand X dX5_seatTold_19 ?_
        obtain ⟨hin, h⟩ := ifn_inv h
        refine as_29 X hP hS rfl hin dX5_seatTold_20 (fun H locs hP hS => ?_)
        refine u_aload_n X hl dX5_seatTold_21 1 rfl ?_
        refine u_aload_n X hl dX5_seatTold_22 0 rfl ?_
        refine gf_X5_18_26 X hP dX5_seatTold_23 ?_
        refine u_iload_n X hl dX5_seatTold_26 3 rfl ?_
        obtain ⟨hin, h⟩ := ifn_inv h
        refine ld_29 X hP rfl hin dX5_seatTold_27 ?_
        refine u_callVi X hP hS hl dX5_seatTold_28 (cHouse_isPerson l (pI z_2 29 l3_2.toNatClampNeg ((a0 >>> ((3 * l3_2) &&& 31)) &&& 7)) (gI (pI z_2 29 l3_2.toNatClampNeg ((a0 >>> ((3 * l3_2) &&& 31)) &&& 7)) 29 l3_2.toNatClampNeg)) cw_X5_75 io_1 rfl rfl rfl rfl ⟨rfl, rfl⟩ (fun H locs hP hS => ?_)
        refine u_if_ne 36 X dX5_seatTold_31 rfl (fun hc => ?_) (fun hc => ?_)
        · rw [if_neg hc] at h
          refine u_iinc [(3, .int (l3_2 + 1)), (0, .ref (ad 26)), (1, .ref (ad 1)), (2, .int a0)] X hl dX5_seatTold_36 3 rfl rfl (Nat.le_of_ble_eq_true rfl) rfl (fun ls hl => ?_)
          refine u_goto 2 X dX5_seatTold_39 rfl ?_
          exact ih2 _ _ _ _ _ (lv_sub hl [1, 2, 3, 0] rfl) hP hS h
        · rw [if_pos hc] at h
          refine u_iconst (v := 0) X dX5_seatTold_34 rfl ?_
          exact u_zretM X hr hret h hP hS (Or.inl rfl) dX5_seatTold_35
  exact L2 LF _ _ _ _ _ (lv_sub hl [1, 2, 3, 0] rfl) hP hS h
def fPlans_fillDay_J94 (z : MS) (l3 : Int32) : Option (Int32 × MS) :=
  ob2 (fPlans_sitDown z l3) (fun w97 zc97 => some (w97, zc97))
def fPlans_fillDay_J64 (z : MS) (l3 : Int32) (l5 : Int32) : Option (Int32 × MS) :=
  Option.bind (fPlans_seatByTurn z l5 l3) (fun zc69 => fPlans_fillDay_J94 zc69 l3)
def fPlans_fillDay (z : MS) (a0 : Int32) (a1 : Int32) : Option (Int32 × MS) :=
  if a0 < 0 ∨ 4 ≤ a0.toNatClampNeg then none else if (gI z 27 a0.toNatClampNeg) = 5 then (if a0 < 0 ∨ 4 ≤ a0.toNatClampNeg then none else ob2 (fPlans_seatTold z (gI z 28 a0.toNatClampNeg)) (fun w22 zc22 => if w22 = 0 then some ((-3), zc22) else fPlans_fillDay_J94 zc22 a1)) else Option.bind (fPlans_presentFor z a0 a1) (fun w35 => if 4 ≤ (fJInt_bitCount w35) then (if (gI z 27 a0.toNatClampNeg) = 1 then fPlans_fillDay_J64 z a1 w35 else (if (gI z 27 a0.toNatClampNeg) = 4 then fPlans_fillDay_J64 z a1 w35 else Option.bind (fPlans_seatByDraw z w35) (fun zc78 => if (gI z 27 a0.toNatClampNeg) = 3 then Option.bind (fPlans_seatStranger zc78 w35) (fun zc91 => fPlans_fillDay_J94 zc91 a1) else fPlans_fillDay_J94 zc78 a1))) else some ((-3), z))
set_option maxRecDepth 4000 in
theorem cPlans_fillDay (l : Launch) {z : MS} {a0 : Int32} {a1 : Int32} {r : Int32} {z1 : MS} (h : fPlans_fillDay z a0 a1 = some (r, z1)) : CT l yX5_fillDay cX5_fillDay 6 (some .int) 5 120 (fun ad sd => [.ref (ad 26), .ref (ad 1), .int a0, .int a1]) z (some (.int r)) z1 := by
  rw [fPlans_fillDay] at h
  refine u_start RX5 rfl (by decide) (fun _ _ => Nat.le_of_ble_eq_true rfl) (fun p e s m args below meth c R D ad cs sd A Q ls X hP hS hl hr hret => ?_)
  have hl : lv_has ls 6 [(0, .ref (ad 26)), (1, .ref (ad 1)), (2, .int a0), (3, .int a1)] := hl
  refine u_aload_n X hl dX5_fillDay_0 0 rfl ?_
  refine gf_X5_11_26 X hP dX5_fillDay_1 ?_
  refine u_iload_n X hl dX5_fillDay_4 2 rfl ?_
  obtain ⟨hin, h⟩ := ifn_inv h
  refine ld_27 X hP rfl hin dX5_fillDay_5 ?_
  refine u_istore [(4, .int (gI z 27 a0.toNatClampNeg)), (0, .ref (ad 26)), (1, .ref (ad 1)), (2, .int a0), (3, .int a1)] X hl dX5_fillDay_6 (Nat.le_of_ble_eq_true rfl) rfl (fun ls hl => ?_)
  refine u_iload X hl dX5_fillDay_8 0 rfl ?_
  refine u_iconst (v := 5) X dX5_fillDay_10 rfl ?_
  have J94 : ∀ (H : Heap) (locs : List Loc) (ls : Array Slot) (z_94 : MS), lv_has ls 6 [(0, .ref (ad 26)), (1, .ref (ad 1)), (3, .int a1)] → va_P D clss (wld cs ad z_94) H → va_S A s.heap H locs → fPlans_fillDay_J94 z_94 a1 = some (r, z1) → W p l e R s m args below meth c H locs 0 0 Q (F0 m 94 ls []) := by
    intro H locs ls z_94 hl hP hS h
    rw [fPlans_fillDay_J94] at h
    refine u_aload_n X hl dX5_fillDay_94 0 rfl ?_
    refine u_aload_n X hl dX5_fillDay_95 1 rfl ?_
    refine u_iload_n X hl dX5_fillDay_96 2 rfl ?_
    obtain ⟨w97, zc97, hc97, h⟩ := ob2_inv h
    refine u_callVi X hP hS hl dX5_fillDay_97 (cPlans_sitDown l hc97) cw_X5_62 io_26 rfl rfl rfl rfl ⟨rfl, rfl⟩ (fun H locs hP hS => ?_)
    exact u_iretM X hr hret h hP hS dX5_fillDay_100
  refine u_icmp_ne 31 X dX5_fillDay_11 rfl (fun hc => ?_) (fun hc => ?_)
  · rw [if_neg hc] at h
    refine u_aload_n X hl dX5_fillDay_31 1 rfl ?_
    refine u_aload_n X hl dX5_fillDay_32 2 rfl ?_
    refine u_iload_n X hl dX5_fillDay_33 3 rfl ?_
    refine u_iload_n X hl dX5_fillDay_34 4 rfl ?_
    obtain ⟨w35, hc35, h⟩ := ob_inv h
    refine u_callVi X hP hS hl dX5_fillDay_35 (cPlans_presentFor l hc35) cw_X5_40 io_26 rfl rfl rfl rfl ⟨rfl, rfl⟩ (fun H locs hP hS => ?_)
    refine u_istore [(5, .int w35), (4, .int (gI z 27 a0.toNatClampNeg)), (0, .ref (ad 26)), (1, .ref (ad 1)), (2, .int a0), (3, .int a1)] X hl dX5_fillDay_38 (Nat.le_of_ble_eq_true rfl) rfl (fun ls hl => ?_)
    refine u_iload X hl dX5_fillDay_40 0 rfl ?_
    refine u_callSi X hP hS hl dX5_fillDay_42 (cJInt_bitCount l z w35) cw_X5_44 rfl rfl rfl rfl ⟨rfl, rfl⟩ (fun H locs hP hS => ?_)
    refine u_iconst (v := 4) X dX5_fillDay_45 rfl ?_
    refine u_icmp_ge 52 X dX5_fillDay_46 rfl (fun hc => ?_) (fun hc => ?_)
    · rw [if_pos hc] at h
      refine u_iload X hl dX5_fillDay_52 1 rfl ?_
      refine u_iconst (v := 1) X dX5_fillDay_54 rfl ?_
      have J64 : ∀ (H : Heap) (locs : List Loc) (ls : Array Slot), lv_has ls 6 [(0, .ref (ad 26)), (1, .ref (ad 1)), (3, .int a1), (5, .int w35)] → va_P D clss (wld cs ad z) H → va_S A s.heap H locs → fPlans_fillDay_J64 z a1 w35 = some (r, z1) → W p l e R s m args below meth c H locs 0 0 Q (F0 m 64 ls []) := by
        intro H locs ls hl hP hS h
        rw [fPlans_fillDay_J64] at h
        refine u_aload_n X hl dX5_fillDay_64 0 rfl ?_
        refine u_aload_n X hl dX5_fillDay_65 1 rfl ?_
        refine u_iload X hl dX5_fillDay_66 3 rfl ?_
        refine u_iload_n X hl dX5_fillDay_68 2 rfl ?_
        obtain ⟨zc69, hc69, h⟩ := ob_inv h
        refine u_callVv X hP hS hl dX5_fillDay_69 (cPlans_seatByTurn l hc69) cw_X5_50 io_26 rfl rfl rfl rfl ⟨rfl, rfl⟩ (fun H locs hP hS => ?_)
        refine u_goto 94 X dX5_fillDay_72 rfl ?_
        exact J94 _ _ _ _ (lv_sub hl [0, 1, 2] rfl) hP hS h
      refine u_icmp_eq 64 X dX5_fillDay_55 rfl (fun hc => ?_) (fun hc => ?_)
      · rw [if_pos hc] at h
        exact J64 _ _ _ (lv_sub hl [2, 3, 5, 0] rfl) hP hS h
      · rw [if_neg hc] at h
        refine u_iload X hl dX5_fillDay_58 1 rfl ?_
        refine u_iconst (v := 4) X dX5_fillDay_60 rfl ?_
        refine u_icmp_ne 75 X dX5_fillDay_61 rfl (fun hc => ?_) (fun hc => ?_)
        · rw [if_neg hc] at h
          refine u_aload_n X hl dX5_fillDay_75 2 rfl ?_
          refine u_iload X hl dX5_fillDay_76 0 rfl ?_
          obtain ⟨zc78, hc78, h⟩ := ob_inv h
          refine u_callVv X hP hS hl dX5_fillDay_78 (cPlans_seatByDraw l hc78) cw_X5_54 io_26 rfl rfl rfl rfl ⟨rfl, rfl⟩ (fun H locs hP hS => ?_)
          refine u_iload X hl dX5_fillDay_81 1 rfl ?_
          refine u_iconst (v := 3) X dX5_fillDay_83 rfl ?_
          refine u_icmp_ne 94 X dX5_fillDay_84 rfl (fun hc => ?_) (fun hc => ?_)
          · rw [if_neg hc] at h
            exact J94 _ _ _ _ (lv_sub hl [2, 3, 5] rfl) hP hS h
          · rw [if_pos hc] at h
            refine u_aload_n X hl dX5_fillDay_87 2 rfl ?_
            refine u_aload_n X hl dX5_fillDay_88 3 rfl ?_
            refine u_iload X hl dX5_fillDay_89 0 rfl ?_
            obtain ⟨zc91, hc91, h⟩ := ob_inv h
            refine u_callVv X hP hS hl dX5_fillDay_91 (cPlans_seatStranger l hc91) cw_X5_58 io_26 rfl rfl rfl rfl ⟨rfl, rfl⟩ (fun H locs hP hS => ?_)
            exact J94 _ _ _ _ (lv_sub hl [2, 3, 5] rfl) hP hS h
        · rw [if_pos hc] at h
          exact J64 _ _ _ (lv_sub hl [2, 3, 5, 0] rfl) hP hS h
    · rw [if_neg hc] at h
      refine u_bipush (v := (-3)) X dX5_fillDay_49 rfl ?_
      exact u_iretM X hr hret h hP hS dX5_fillDay_51
  · rw [if_pos hc] at h
    refine u_aload_n X hl dX5_fillDay_14 1 rfl ?_
    refine u_aload_n X hl dX5_fillDay_15 2 rfl ?_
    refine u_aload_n X hl dX5_fillDay_16 1 rfl ?_
    refine gf_X5_15_26 X hP dX5_fillDay_17 ?_
    refine u_iload_n X hl dX5_fillDay_20 3 rfl ?_
    obtain ⟨hin, h⟩ := ifn_inv h
    refine ld_28 X hP rfl hin dX5_fillDay_21 ?_
    obtain ⟨w22, zc22, hc22, h⟩ := ob2_inv h
    refine u_callVi X hP hS hl dX5_fillDay_22 (cPlans_seatTold l hc22) cw_X5_36 io_26 rfl rfl rfl rfl ⟨rfl, rfl⟩ (fun H locs hP hS => ?_)
    refine u_if_ne 94 X dX5_fillDay_25 rfl (fun hc => ?_) (fun hc => ?_)
    · rw [if_neg hc] at h
      exact J94 _ _ _ _ (lv_sub hl [1, 2, 4] rfl) hP hS h
    · rw [if_pos hc] at h
      refine u_bipush (v := (-3)) X dX5_fillDay_28 rfl ?_
      exact u_iretM X hr hret h hP hS dX5_fillDay_30
def fRows_due (z : MS) (a0 : Int32) (a1 : Int32) : Option Int32 :=
  Option.bind (fHouse_pairOn z a0) (fun w5 => if a1 = 0 then some w5 else if a1 = 1 then (if w5 = (-1) then some 0 else Option.bind (fJudge_seenOn z a0) (fun w52 => some w52)) else Option.bind (fJudge_brokenOn z a0) (fun w61 => some w61))
set_option maxRecDepth 4000 in
theorem cRows_due (l : Launch) {z : MS} {a0 : Int32} {a1 : Int32} {r : Int32} (h : fRows_due z a0 a1 = some r) : CT l yX6_due cX6_due 4 (some .int) 5 115 (fun ad sd => [.ref (ad 30), .int a0, .int a1]) z (some (.int r)) z := by
  rw [fRows_due] at h
  refine u_start RX6 rfl (by decide) (fun _ _ => Nat.le_of_ble_eq_true rfl) (fun p e s m args below meth c R D ad cs sd A Q ls X hP hS hl hr hret => ?_)
  have hl : lv_has ls 4 [(0, .ref (ad 30)), (1, .int a0), (2, .int a1)] := hl
  refine u_aload_n X hl dX6_due_0 0 rfl ?_
  refine gf_X6_9_30 X hP dX6_due_1 ?_
  refine u_iload_n X hl dX6_due_4 1 rfl ?_
  obtain ⟨w5, hc5, h⟩ := ob_inv h
  refine u_callVi X hP hS hl dX6_due_5 (cHouse_pairOn l hc5) cw_X6_31 io_1 rfl rfl rfl rfl ⟨rfl, rfl⟩ (fun H locs hP hS => ?_)
  refine u_istore_n [(3, .int w5), (0, .ref (ad 30)), (1, .int a0), (2, .int a1)] X hl dX6_due_8 (Nat.le_of_ble_eq_true rfl) rfl (fun ls hl => ?_)
  refine u_iload_n X hl dX6_due_9 3 rfl ?_
  by_cases hc0 : a1 = 0
  · rw [if_pos hc0] at h
    refine u_lsw 36 X dX6_due_10 rfl (v := 0) (by rw [hc0]; rfl) rfl ?_
    refine u_iload_n X hl dX6_due_36 0 rfl ?_
    exact u_iretP X hr hret h hP hS dX6_due_37
  rw [if_neg hc0] at h
  by_cases hc1 : a1 = 1
  · rw [if_pos hc1] at h
    refine u_lsw 38 X dX6_due_10 rfl (v := 1) (by rw [hc1]; rfl) rfl ?_
    refine u_iload_n X hl dX6_due_38 0 rfl ?_
    refine u_iconst (v := (-1)) X dX6_due_39 rfl ?_
    refine u_icmp_ne 47 X dX6_due_40 rfl (fun hc => ?_) (fun hc => ?_)
    · rw [if_neg hc] at h
      refine u_aload_n X hl dX6_due_47 1 rfl ?_
      refine gf_X6_15_30 X hP dX6_due_48 ?_
      refine u_iload_n X hl dX6_due_51 2 rfl ?_
      obtain ⟨w52, hc52, h⟩ := ob_inv h
      refine u_callVi X hP hS hl dX6_due_52 (cJudge_seenOn l hc52) cw_X6_37 io_17 rfl rfl rfl rfl ⟨rfl, rfl⟩ (fun H locs hP hS => ?_)
      exact u_iretP X hr hret h hP hS dX6_due_55
    · rw [if_pos hc] at h
      refine u_iconst (v := 0) X dX6_due_43 rfl ?_
      refine u_goto 55 X dX6_due_44 rfl ?_
      exact u_iretP X hr hret h hP hS dX6_due_55
  rw [if_neg hc1] at h
  refine u_lswD 56 X dX6_due_10 rfl rfl (vs := [0, 1]) (List.forall_mem_cons.mpr ⟨fun q9 => hc0 (Int32.toInt_inj.mp q9), (List.forall_mem_cons.mpr ⟨fun q9 => hc1 (Int32.toInt_inj.mp q9), (fun _ h9 => by cases h9)⟩)⟩) (by decide) ?_
  refine u_aload_n X hl dX6_due_56 1 rfl ?_
  refine gf_X6_15_30 X hP dX6_due_57 ?_
  refine u_iload_n X hl dX6_due_60 2 rfl ?_
  obtain ⟨w61, hc61, h⟩ := ob_inv h
  refine u_callVi X hP hS hl dX6_due_61 (cJudge_brokenOn l hc61) cw_X6_42 io_17 rfl rfl rfl rfl ⟨rfl, rfl⟩ (fun H locs hP hS => ?_)
  exact u_iretP X hr hret h hP hS dX6_due_64
def fRows_write_L10 (K2 : MS → Int32 → Option (Int32 × MS)) (l1 : Int32) : Nat → MS → Int32 → Option (Int32 × MS)
  | 0, _, _ => none
  | n + 1, z, l2 => if 3 ≤ l2 then K2 z (l1 + 1) else Option.bind (fRows_due z l1 l2) (fun w27 => if ((l1 * 3) + l2) < 0 ∨ 30 ≤ ((l1 * 3) + l2).toNatClampNeg then none else fRows_write_L10 K2 l1 n (pI z 31 ((l1 * 3) + l2).toNatClampNeg w27) (l2 + 1))
def fRows_write_L2 : Nat → MS → Int32 → Option (Int32 × MS)
  | 0, _, _ => none
  | n + 1, z, l1 => if 10 ≤ l1 then some (gI (pI z 30 3 10) 30 3, pI z 30 3 10) else fRows_write_L10 (fRows_write_L2 n) l1 LF z 0
def fRows_write (z : MS) : Option (Int32 × MS) :=
  fRows_write_L2 LF z 0
set_option maxRecDepth 4000 in
theorem cRows_write (l : Launch) {z : MS} {r : Int32} {z1 : MS} (h : fRows_write z = some (r, z1)) : CT l yX6_write cX6_write 3 (some .int) 6 138 (fun ad sd => [.ref (ad 30)]) z (some (.int r)) z1 := by
  rw [fRows_write] at h
  refine u_start RX6 rfl (by decide) (fun _ _ => Nat.le_of_ble_eq_true rfl) (fun p e s m args below meth c R D ad cs sd A Q ls X hP hS hl hr hret => ?_)
  have hl : lv_has ls 3 [(0, .ref (ad 30))] := hl
  refine u_iconst (v := 0) X dX6_write_0 rfl ?_
  refine u_istore_n [(1, .int 0), (0, .ref (ad 30))] X hl dX6_write_1 (Nat.le_of_ble_eq_true rfl) rfl (fun ls hl => ?_)
  have L2 : ∀ (n : Nat) (H : Heap) (locs : List Loc) (ls : Array Slot) (z_2 : MS) (l1_2 : Int32), lv_has ls 3 [(0, .ref (ad 30)), (1, .int l1_2)] → va_P D clss (wld cs ad z_2) H → va_S A s.heap H locs → fRows_write_L2 n z_2 l1_2 = some (r, z1) → W p l e R s m args below meth c H locs 0 0 Q (F0 m 2 ls []) := by
    intro n
    induction n with
    | zero =>
      intro H locs ls z_2 l1_2 hl hP hS h
      rw [fRows_write_L2] at h
      cases h
    | succ n2 ih2 =>
      intro H locs ls z_2 l1_2 hl hP hS h
      rw [fRows_write_L2] at h
      refine u_iload_n X hl dX6_write_2 1 rfl ?_
      refine u_bipush (v := 10) X dX6_write_3 rfl ?_
      refine u_icmp_ge 43 X dX6_write_5 rfl (fun hc => ?_) (fun hc => ?_)
      · rw [if_pos hc] at h
        refine u_aload_n X hl dX6_write_43 0 rfl ?_
        refine u_bipush (v := 10) X dX6_write_44 rfl ?_
        refine pf_X6_23_30 X hP hS dX6_write_46 (fun H locs hP hS => ?_)
        refine u_aload_n X hl dX6_write_49 0 rfl ?_
        refine gf_X6_23_30 X hP dX6_write_50 ?_
        exact u_iretM X hr hret h hP hS dX6_write_53
      · rw [if_neg hc] at h
        refine u_iconst (v := 0) X dX6_write_8 rfl ?_
        refine u_istore_n [(2, .int 0), (0, .ref (ad 30)), (1, .int l1_2)] X hl dX6_write_9 (Nat.le_of_ble_eq_true rfl) rfl (fun ls hl => ?_)
        have L10 : ∀ (n : Nat) (H : Heap) (locs : List Loc) (ls : Array Slot) (z_10 : MS) (l2_10 : Int32), lv_has ls 3 [(0, .ref (ad 30)), (1, .int l1_2), (2, .int l2_10)] → va_P D clss (wld cs ad z_10) H → va_S A s.heap H locs → fRows_write_L10 (fRows_write_L2 n2) l1_2 n z_10 l2_10 = some (r, z1) → W p l e R s m args below meth c H locs 0 0 Q (F0 m 10 ls []) := by
          intro n
          induction n with
          | zero =>
            intro H locs ls z_10 l2_10 hl hP hS h
            rw [fRows_write_L10] at h
            cases h
          | succ n10 ih10 =>
            intro H locs ls z_10 l2_10 hl hP hS h
            rw [fRows_write_L10] at h
            refine u_iload_n X hl dX6_write_10 2 rfl ?_
            refine u_iconst (v := 3) X dX6_write_11 rfl ?_
            refine u_icmp_ge 37 X dX6_write_12 rfl (fun hc => ?_) (fun hc => ?_)
            · rw [if_pos hc] at h
              refine u_iinc [(1, .int (l1_2 + 1)), (0, .ref (ad 30)), (2, .int l2_10)] X hl dX6_write_37 1 rfl rfl (Nat.le_of_ble_eq_true rfl) rfl (fun ls hl => ?_)
              refine u_goto 2 X dX6_write_40 rfl ?_
              exact ih2 _ _ _ _ _ (lv_sub hl [1, 0] rfl) hP hS h
            · rw [if_neg hc] at h
              refine u_aload_n X hl dX6_write_15 0 rfl ?_
              refine gf_X6_19_30 X hP dX6_write_16 ?_
              refine u_iload_n X hl dX6_write_19 1 rfl ?_
              refine u_iconst (v := 3) X dX6_write_20 rfl ?_
              refine u_imul X dX6_write_21 ?_
              refine u_iload_n X hl dX6_write_22 2 rfl ?_
              refine u_iadd X dX6_write_23 ?_
              refine u_aload_n X hl dX6_write_24 0 rfl ?_
              refine u_iload_n X hl dX6_write_25 1 rfl ?_
              refine u_iload_n X hl dX6_write_26 2 rfl ?_
              obtain ⟨w27, hc27, h⟩ := ob_inv h
              refine u_callVi X hP hS hl dX6_write_27 (cRows_due l hc27) cw_X6_27 io_30 rfl rfl rfl rfl ⟨rfl, rfl⟩ (fun H locs hP hS => ?_)
              obtain ⟨hin, h⟩ := ifn_inv h
              refine as_31 X hP hS rfl hin dX6_write_30 (fun H locs hP hS => ?_)
              refine u_iinc [(2, .int (l2_10 + 1)), (0, .ref (ad 30)), (1, .int l1_2)] X hl dX6_write_31 2 rfl rfl (Nat.le_of_ble_eq_true rfl) rfl (fun ls hl => ?_)
              refine u_goto 10 X dX6_write_34 rfl ?_
              exact ih10 _ _ _ _ _ (lv_sub hl [1, 2, 0] rfl) hP hS h
        exact L10 LF _ _ _ _ _ (lv_sub hl [1, 2, 0] rfl) hP hS h
  exact L2 LF _ _ _ _ _ (lv_sub hl [1, 0] rfl) hP hS h
def fRows_has (z : MS) (a0 : Int32) (a1 : Int32) : Int32 :=
  if a0 < 0 then 0 else (if (gI z 30 3) ≤ a0 then 0 else (if a1 < 0 then 0 else (if 3 ≤ a1 then 0 else 1)))
theorem fRows_has_b (z : MS) (a0 : Int32) (a1 : Int32) : fRows_has z a0 a1 = 0 ∨ fRows_has z a0 a1 = 1 := by
  unfold fRows_has
  (repeat' split) <;> first | with_reducible exact Or.inl rfl | with_reducible exact Or.inr rfl
set_option maxRecDepth 4000 in
theorem cRows_has (l : Launch) (z : MS) (a0 : Int32) (a1 : Int32) : CT l yX6_has cX6_has 3 (some .boolean) 0 0 (fun ad sd => [.ref (ad 30), .int a0, .int a1]) z (some (.int (fRows_has z a0 a1))) z := by
  generalize h : fRows_has z a0 a1 = r
  rw [fRows_has] at h
  refine u_start RX6 rfl (by decide) (fun _ _ => Nat.le_of_ble_eq_true rfl) (fun p e s m args below meth c R D ad cs sd A Q ls X hP hS hl hr hret => ?_)
  have hl : lv_has ls 3 [(0, .ref (ad 30)), (1, .int a0), (2, .int a1)] := hl
  refine u_iload_n X hl dX6_has_0 1 rfl ?_
  refine u_if_lt 25 X dX6_has_1 rfl (fun hc => ?_) (fun hc => ?_)
  · rw [if_pos hc] at h
    refine u_iconst (v := 0) X dX6_has_25 rfl ?_
    exact u_zretT X hr hret h hP hS (Or.inl rfl) dX6_has_26
  · rw [if_neg hc] at h
    refine u_iload_n X hl dX6_has_4 1 rfl ?_
    refine u_aload_n X hl dX6_has_5 0 rfl ?_
    refine gf_X6_23_30 X hP dX6_has_6 ?_
    refine u_icmp_ge 25 X dX6_has_9 rfl (fun hc => ?_) (fun hc => ?_)
    · rw [if_pos hc] at h
      refine u_iconst (v := 0) X dX6_has_25 rfl ?_
      exact u_zretT X hr hret h hP hS (Or.inl rfl) dX6_has_26
    · rw [if_neg hc] at h
      refine u_iload_n X hl dX6_has_12 2 rfl ?_
      refine u_if_lt 25 X dX6_has_13 rfl (fun hc => ?_) (fun hc => ?_)
      · rw [if_pos hc] at h
        refine u_iconst (v := 0) X dX6_has_25 rfl ?_
        exact u_zretT X hr hret h hP hS (Or.inl rfl) dX6_has_26
      · rw [if_neg hc] at h
        refine u_iload_n X hl dX6_has_16 2 rfl ?_
        refine u_iconst (v := 3) X dX6_has_17 rfl ?_
        refine u_icmp_ge 25 X dX6_has_18 rfl (fun hc => ?_) (fun hc => ?_)
        · rw [if_pos hc] at h
          refine u_iconst (v := 0) X dX6_has_25 rfl ?_
          exact u_zretT X hr hret h hP hS (Or.inl rfl) dX6_has_26
        · rw [if_neg hc] at h
          refine u_iconst (v := 1) X dX6_has_21 rfl ?_
          refine u_goto 26 X dX6_has_22 rfl ?_
          exact u_zretT X hr hret h hP hS (Or.inr rfl) dX6_has_26
def fRows_firstWrong_L12 (z : MS) (K2 : Int32 → Option Int32) (l1 : Int32) : Nat → Int32 → Option Int32
  | 0, _ => none
  | n + 1, l2 => if 3 ≤ l2 then K2 (l1 + 1) else (if ((l1 * 3) + l2) < 0 ∨ 30 ≤ ((l1 * 3) + l2).toNatClampNeg then none else Option.bind (fRows_due z l1 l2) (fun w30 => if (gI z 31 ((l1 * 3) + l2).toNatClampNeg) = w30 then fRows_firstWrong_L12 z K2 l1 n (l2 + 1) else some (l1 + 1)))
def fRows_firstWrong_L2 (z : MS) : Nat → Int32 → Option Int32
  | 0, _ => none
  | n + 1, l1 => if (gI z 30 3) ≤ l1 then some 0 else fRows_firstWrong_L12 z (fRows_firstWrong_L2 z n) l1 LF 0
def fRows_firstWrong (z : MS) : Option Int32 :=
  fRows_firstWrong_L2 z LF 0
set_option maxRecDepth 4000 in
theorem cRows_firstWrong (l : Launch) {z : MS} {r : Int32} (h : fRows_firstWrong z = some r) : CT l yX6_firstWrong cX6_firstWrong 3 (some .int) 6 138 (fun ad sd => [.ref (ad 30)]) z (some (.int r)) z := by
  rw [fRows_firstWrong] at h
  refine u_start RX6 rfl (by decide) (fun _ _ => Nat.le_of_ble_eq_true rfl) (fun p e s m args below meth c R D ad cs sd A Q ls X hP hS hl hr hret => ?_)
  have hl : lv_has ls 3 [(0, .ref (ad 30))] := hl
  refine u_iconst (v := 0) X dX6_firstWrong_0 rfl ?_
  refine u_istore_n [(1, .int 0), (0, .ref (ad 30))] X hl dX6_firstWrong_1 (Nat.le_of_ble_eq_true rfl) rfl (fun ls hl => ?_)
  have L2 : ∀ (n : Nat) (H : Heap) (locs : List Loc) (ls : Array Slot) (l1_2 : Int32), lv_has ls 3 [(0, .ref (ad 30)), (1, .int l1_2)] → va_P D clss (wld cs ad z) H → va_S A s.heap H locs → fRows_firstWrong_L2 z n l1_2 = some r → W p l e R s m args below meth c H locs 0 0 Q (F0 m 2 ls []) := by
    intro n
    induction n with
    | zero =>
      intro H locs ls l1_2 hl hP hS h
      rw [fRows_firstWrong_L2] at h
      cases h
    | succ n2 ih2 =>
      intro H locs ls l1_2 hl hP hS h
      rw [fRows_firstWrong_L2] at h
      refine u_iload_n X hl dX6_firstWrong_2 1 rfl ?_
      refine u_aload_n X hl dX6_firstWrong_3 0 rfl ?_
      refine gf_X6_23_30 X hP dX6_firstWrong_4 ?_
      refine u_icmp_ge 52 X dX6_firstWrong_7 rfl (fun hc => ?_) (fun hc => ?_)
      · rw [if_pos hc] at h
        refine u_iconst (v := 0) X dX6_firstWrong_52 rfl ?_
        exact u_iretP X hr hret h hP hS dX6_firstWrong_53
      · rw [if_neg hc] at h
        refine u_iconst (v := 0) X dX6_firstWrong_10 rfl ?_
        refine u_istore_n [(2, .int 0), (0, .ref (ad 30)), (1, .int l1_2)] X hl dX6_firstWrong_11 (Nat.le_of_ble_eq_true rfl) rfl (fun ls hl => ?_)
        have L12 : ∀ (n : Nat) (H : Heap) (locs : List Loc) (ls : Array Slot) (l2_12 : Int32), lv_has ls 3 [(0, .ref (ad 30)), (1, .int l1_2), (2, .int l2_12)] → va_P D clss (wld cs ad z) H → va_S A s.heap H locs → fRows_firstWrong_L12 z (fRows_firstWrong_L2 z n2) l1_2 n l2_12 = some r → W p l e R s m args below meth c H locs 0 0 Q (F0 m 12 ls []) := by
          intro n
          induction n with
          | zero =>
            intro H locs ls l2_12 hl hP hS h
            rw [fRows_firstWrong_L12] at h
            cases h
          | succ n12 ih12 =>
            intro H locs ls l2_12 hl hP hS h
            rw [fRows_firstWrong_L12] at h
            refine u_iload_n X hl dX6_firstWrong_12 2 rfl ?_
            refine u_iconst (v := 3) X dX6_firstWrong_13 rfl ?_
            refine u_icmp_ge 46 X dX6_firstWrong_14 rfl (fun hc => ?_) (fun hc => ?_)
            · rw [if_pos hc] at h
              refine u_iinc [(1, .int (l1_2 + 1)), (0, .ref (ad 30)), (2, .int l2_12)] X hl dX6_firstWrong_46 1 rfl rfl (Nat.le_of_ble_eq_true rfl) rfl (fun ls hl => ?_)
              refine u_goto 2 X dX6_firstWrong_49 rfl ?_
              exact ih2 _ _ _ _ (lv_sub hl [1, 0] rfl) hP hS h
            · rw [if_neg hc] at h
              refine u_aload_n X hl dX6_firstWrong_17 0 rfl ?_
              refine gf_X6_19_30 X hP dX6_firstWrong_18 ?_
              refine u_iload_n X hl dX6_firstWrong_21 1 rfl ?_
              refine u_iconst (v := 3) X dX6_firstWrong_22 rfl ?_
              refine u_imul X dX6_firstWrong_23 ?_
              refine u_iload_n X hl dX6_firstWrong_24 2 rfl ?_
              refine u_iadd X dX6_firstWrong_25 ?_
              obtain ⟨hin, h⟩ := ifn_inv h
              refine ld_31 X hP rfl hin dX6_firstWrong_26 ?_
              refine u_aload_n X hl dX6_firstWrong_27 0 rfl ?_
              refine u_iload_n X hl dX6_firstWrong_28 1 rfl ?_
              refine u_iload_n X hl dX6_firstWrong_29 2 rfl ?_
              obtain ⟨w30, hc30, h⟩ := ob_inv h
              refine u_callVi X hP hS hl dX6_firstWrong_30 (cRows_due l hc30) cw_X6_27 io_30 rfl rfl rfl rfl ⟨rfl, rfl⟩ (fun H locs hP hS => ?_)
              refine u_icmp_eq 40 X dX6_firstWrong_33 rfl (fun hc => ?_) (fun hc => ?_)
              · rw [if_pos hc] at h
                refine u_iinc [(2, .int (l2_12 + 1)), (0, .ref (ad 30)), (1, .int l1_2)] X hl dX6_firstWrong_40 2 rfl rfl (Nat.le_of_ble_eq_true rfl) rfl (fun ls hl => ?_)
                refine u_goto 12 X dX6_firstWrong_43 rfl ?_
                exact ih12 _ _ _ _ (lv_sub hl [1, 2, 0] rfl) hP hS h
              · rw [if_neg hc] at h
                refine u_iload_n X hl dX6_firstWrong_36 1 rfl ?_
                refine u_iconst (v := 1) X dX6_firstWrong_37 rfl ?_
                refine u_iadd X dX6_firstWrong_38 ?_
                exact u_iretP X hr hret h hP hS dX6_firstWrong_39
        exact L12 LF _ _ _ _ (lv_sub hl [1, 2, 0] rfl) hP hS h
  exact L2 LF _ _ _ _ (lv_sub hl [1, 0] rfl) hP hS h
def fHost_lay (z : MS) (a0 : Int32) (a1 : Int32) (a2 : Int32) : Option (Int32 × MS) :=
  if a0 < 0 ∨ 4 ≤ a0.toNatClampNeg then none else if a0 < 0 ∨ 4 ≤ a0.toNatClampNeg then none else if a0 < 0 ∨ 4 ≤ a0.toNatClampNeg then none else some (1, fI (pI (pI z 35 a0.toNatClampNeg a1) 36 a0.toNatClampNeg a2) (38 + a0.toNatClampNeg) 40 0)
set_option maxRecDepth 4000 in
theorem cHost_lay (l : Launch) {z : MS} {a0 : Int32} {a1 : Int32} {a2 : Int32} {r : Int32} {z1 : MS} (h : fHost_lay z a0 a1 a2 = some (r, z1)) : CT l yX1_lay cX1_lay 4 (some .int) 1 23 (fun ad sd => [.ref (ad 34), .int a0, .int a1, .int a2]) z (some (.int r)) z1 := by
  rw [fHost_lay] at h
  refine u_start RX1 rfl (by decide) (fun _ _ => Nat.le_of_ble_eq_true rfl) (fun p e s m args below meth c R D ad cs sd A Q ls X hP hS hl hr hret => ?_)
  have hl : lv_has ls 4 [(0, .ref (ad 34)), (1, .int a0), (2, .int a1), (3, .int a2)] := hl
  refine u_aload_n X hl dX1_lay_0 0 rfl ?_
  refine gf_X1_9_34 X hP dX1_lay_1 ?_
  refine u_iload_n X hl dX1_lay_4 1 rfl ?_
  refine u_iload_n X hl dX1_lay_5 2 rfl ?_
  obtain ⟨hin, h⟩ := ifn_inv h
  refine as_35 X hP hS rfl hin dX1_lay_6 (fun H locs hP hS => ?_)
  refine u_aload_n X hl dX1_lay_7 0 rfl ?_
  refine gf_X1_13_34 X hP dX1_lay_8 ?_
  refine u_iload_n X hl dX1_lay_11 1 rfl ?_
  refine u_iload_n X hl dX1_lay_12 3 rfl ?_
  obtain ⟨hin, h⟩ := ifn_inv h
  refine as_36 X hP hS rfl hin dX1_lay_13 (fun H locs hP hS => ?_)
  refine u_aload_n X hl dX1_lay_14 0 rfl ?_
  refine gf_X1_18_34 X hP dX1_lay_15 ?_
  refine u_iload_n X hl dX1_lay_18 1 rfl ?_
  obtain ⟨hin, h⟩ := ifn_inv h
  have hdy := vp_lt hin
  refine la_37 X hP hin dX1_lay_19 ?_
  refine u_iconst (v := 0) X dX1_lay_20 rfl ?_
  refine u_callSv X hP hS hl dX1_lay_21 (c_fill l (38 + a0.toNatClampNeg) 40 0 (by decide) (en_dyn38 hdy) (ax_dyn38 hdy)) cw_X1_30 rfl rfl rfl rfl ⟨rfl, rfl⟩ (fun H locs hP hS => ?_)
  refine u_iconst (v := 1) X dX1_lay_24 rfl ?_
  exact u_iretM X hr hret h hP hS dX1_lay_25
def fHost_holds (z : MS) (a0 : Int32) (a1 : Int32) : Option Int32 :=
  if a1 < 0 then some 0 else (if a0 < 0 ∨ 4 ≤ a0.toNatClampNeg then none else if (gI z 36 a0.toNatClampNeg) ≤ a1 then some 0 else some 1)
set_option maxRecDepth 4000 in
theorem cHost_holds (l : Launch) {z : MS} {a0 : Int32} {a1 : Int32} {r : Int32} (h : fHost_holds z a0 a1 = some r) : CT l yX1_holds cX1_holds 3 (some .boolean) 0 0 (fun ad sd => [.ref (ad 34), .int a0, .int a1]) z (some (.int r)) z := by
  rw [fHost_holds] at h
  refine u_start RX1 rfl (by decide) (fun _ _ => Nat.le_of_ble_eq_true rfl) (fun p e s m args below meth c R D ad cs sd A Q ls X hP hS hl hr hret => ?_)
  have hl : lv_has ls 3 [(0, .ref (ad 34)), (1, .int a0), (2, .int a1)] := hl
  refine u_iload_n X hl dX1_holds_0 2 rfl ?_
  refine u_if_lt 18 X dX1_holds_1 rfl (fun hc => ?_) (fun hc => ?_)
  · rw [if_pos hc] at h
    refine u_iconst (v := 0) X dX1_holds_18 rfl ?_
    exact u_zretP X hr hret h hP hS (Or.inl rfl) dX1_holds_19
  · rw [if_neg hc] at h
    refine u_iload_n X hl dX1_holds_4 2 rfl ?_
    refine u_aload_n X hl dX1_holds_5 0 rfl ?_
    refine gf_X1_13_34 X hP dX1_holds_6 ?_
    refine u_iload_n X hl dX1_holds_9 1 rfl ?_
    obtain ⟨hin, h⟩ := ifn_inv h
    refine ld_36 X hP rfl hin dX1_holds_10 ?_
    refine u_icmp_ge 18 X dX1_holds_11 rfl (fun hc => ?_) (fun hc => ?_)
    · rw [if_pos hc] at h
      refine u_iconst (v := 0) X dX1_holds_18 rfl ?_
      exact u_zretP X hr hret h hP hS (Or.inl rfl) dX1_holds_19
    · rw [if_neg hc] at h
      refine u_iconst (v := 1) X dX1_holds_14 rfl ?_
      refine u_goto 19 X dX1_holds_15 rfl ?_
      exact u_zretP X hr hret h hP hS (Or.inr rfl) dX1_holds_19
def fHost_write (z : MS) (a0 : Int32) (a1 : Int32) (a2 : Int32) : Option (Int32 × MS) :=
  if a0 < 0 ∨ 4 ≤ a0.toNatClampNeg then none else if (gI z 35 a0.toNatClampNeg) = 0 then (if a0 < 0 ∨ 4 ≤ a0.toNatClampNeg then none else if a1 < 0 ∨ 40 ≤ a1.toNatClampNeg then none else some (1, pI z (38 + a0.toNatClampNeg) a1.toNatClampNeg a2.toInt8.toInt32)) else if (gI z 35 a0.toNatClampNeg) = 1 then (if a0 < 0 ∨ 4 ≤ a0.toNatClampNeg then none else if a1 < 0 ∨ 40 ≤ a1.toNatClampNeg then none else some (1, pI z (38 + a0.toNatClampNeg) a1.toNatClampNeg a2.toInt16.toInt32)) else (if a0 < 0 ∨ 4 ≤ a0.toNatClampNeg then none else if a1 < 0 ∨ 40 ≤ a1.toNatClampNeg then none else some (1, pI z (38 + a0.toNatClampNeg) a1.toNatClampNeg a2))
set_option maxRecDepth 4000 in
theorem cHost_write (l : Launch) {z : MS} {a0 : Int32} {a1 : Int32} {a2 : Int32} {r : Int32} {z1 : MS} (h : fHost_write z a0 a1 a2 = some (r, z1)) : CT l yX1_write cX1_write 4 (some .int) 0 0 (fun ad sd => [.ref (ad 34), .int a0, .int a1, .int a2]) z (some (.int r)) z1 := by
  rw [fHost_write] at h
  refine u_start RX1 rfl (by decide) (fun _ _ => Nat.le_of_ble_eq_true rfl) (fun p e s m args below meth c R D ad cs sd A Q ls X hP hS hl hr hret => ?_)
  have hl : lv_has ls 4 [(0, .ref (ad 34)), (1, .int a0), (2, .int a1), (3, .int a2)] := hl
  refine u_aload_n X hl dX1_write_0 0 rfl ?_
  refine gf_X1_9_34 X hP dX1_write_1 ?_
  refine u_iload_n X hl dX1_write_4 1 rfl ?_
  obtain ⟨hin, h⟩ := ifn_inv h
  refine ld_35 X hP rfl hin dX1_write_5 ?_
  by_cases hc0 : (gI z 35 a0.toNatClampNeg) = 0
  · rw [if_pos hc0] at h
    refine u_lsw 32 X dX1_write_6 rfl (v := 0) (by rw [hc0]; rfl) rfl ?_
    refine u_aload_n X hl dX1_write_32 0 rfl ?_
    refine gf_X1_18_34 X hP dX1_write_33 ?_
    refine u_iload_n X hl dX1_write_36 1 rfl ?_
    obtain ⟨hin, h⟩ := ifn_inv h
    have hdy := vp_lt hin
    refine la_37 X hP hin dX1_write_37 ?_
    refine u_iload_n X hl dX1_write_38 2 rfl ?_
    refine u_iload_n X hl dX1_write_39 3 rfl ?_
    refine u_i2b X dX1_write_40 ?_
    obtain ⟨hin, h⟩ := ifn_inv h
    refine as_dyn38 hdy X hP hS rfl hin dX1_write_41 (fun H locs hP hS => ?_)
    refine u_goto 67 X dX1_write_42 rfl ?_
    refine u_iconst (v := 1) X dX1_write_67 rfl ?_
    exact u_iretM X hr hret h hP hS dX1_write_68
  rw [if_neg hc0] at h
  by_cases hc1 : (gI z 35 a0.toNatClampNeg) = 1
  · rw [if_pos hc1] at h
    refine u_lsw 45 X dX1_write_6 rfl (v := 1) (by rw [hc1]; rfl) rfl ?_
    refine u_aload_n X hl dX1_write_45 0 rfl ?_
    refine gf_X1_18_34 X hP dX1_write_46 ?_
    refine u_iload_n X hl dX1_write_49 1 rfl ?_
    obtain ⟨hin, h⟩ := ifn_inv h
    have hdy := vp_lt hin
    refine la_37 X hP hin dX1_write_50 ?_
    refine u_iload_n X hl dX1_write_51 2 rfl ?_
    refine u_iload_n X hl dX1_write_52 3 rfl ?_
    refine u_i2s X dX1_write_53 ?_
    obtain ⟨hin, h⟩ := ifn_inv h
    refine as_dyn38 hdy X hP hS rfl hin dX1_write_54 (fun H locs hP hS => ?_)
    refine u_goto 67 X dX1_write_55 rfl ?_
    refine u_iconst (v := 1) X dX1_write_67 rfl ?_
    exact u_iretM X hr hret h hP hS dX1_write_68
  rw [if_neg hc1] at h
  refine u_lswD 58 X dX1_write_6 rfl rfl (vs := [0, 1]) (List.forall_mem_cons.mpr ⟨fun q9 => hc0 (Int32.toInt_inj.mp q9), (List.forall_mem_cons.mpr ⟨fun q9 => hc1 (Int32.toInt_inj.mp q9), (fun _ h9 => by cases h9)⟩)⟩) (by decide) ?_
  refine u_aload_n X hl dX1_write_58 0 rfl ?_
  refine gf_X1_18_34 X hP dX1_write_59 ?_
  refine u_iload_n X hl dX1_write_62 1 rfl ?_
  obtain ⟨hin, h⟩ := ifn_inv h
  have hdy := vp_lt hin
  refine la_37 X hP hin dX1_write_63 ?_
  refine u_iload_n X hl dX1_write_64 2 rfl ?_
  refine u_iload_n X hl dX1_write_65 3 rfl ?_
  obtain ⟨hin, h⟩ := ifn_inv h
  refine as_dyn38 hdy X hP hS rfl hin dX1_write_66 (fun H locs hP hS => ?_)
  refine u_iconst (v := 1) X dX1_write_67 rfl ?_
  exact u_iretM X hr hret h hP hS dX1_write_68
def fHost_clear (z : MS) (a0 : Int32) : Option (Int32 × MS) :=
  if a0 < 0 ∨ 4 ≤ a0.toNatClampNeg then none else some (1, pI z 42 a0.toNatClampNeg 2)
set_option maxRecDepth 4000 in
theorem cHost_clear (l : Launch) {z : MS} {a0 : Int32} {r : Int32} {z1 : MS} (h : fHost_clear z a0 = some (r, z1)) : CT l yX1_clear cX1_clear 2 (some .int) 0 0 (fun ad sd => [.ref (ad 34), .int a0]) z (some (.int r)) z1 := by
  rw [fHost_clear] at h
  refine u_start RX1 rfl (by decide) (fun _ _ => Nat.le_of_ble_eq_true rfl) (fun p e s m args below meth c R D ad cs sd A Q ls X hP hS hl hr hret => ?_)
  have hl : lv_has ls 2 [(0, .ref (ad 34)), (1, .int a0)] := hl
  refine u_aload_n X hl dX1_clear_0 0 rfl ?_
  refine gf_X1_21_34 X hP dX1_clear_1 ?_
  refine u_iload_n X hl dX1_clear_4 1 rfl ?_
  refine u_iconst (v := 2) X dX1_clear_5 rfl ?_
  obtain ⟨hin, h⟩ := ifn_inv h
  refine as_42 X hP hS rfl hin dX1_clear_6 (fun H locs hP hS => ?_)
  refine u_iconst (v := 1) X dX1_clear_7 rfl ?_
  exact u_iretM X hr hret h hP hS dX1_clear_8
def fHost_shelveRow_J20 (z : MS) (l1 : Int32) (l2 : Int32) (s1 : Int32) (s2 : Int32) : Option (Int32 × MS) :=
  if s1 < 0 ∨ 4 ≤ s1.toNatClampNeg then none else if l2 < 0 ∨ 4 ≤ l2.toNatClampNeg then none else if l1 < 0 ∨ 4 ≤ l1.toNatClampNeg then none else if l2 < 0 ∨ 4 ≤ l2.toNatClampNeg then none else if l1 < 0 ∨ 4 ≤ l1.toNatClampNeg then none else some (1, pI (pI (pI z 42 s1.toNatClampNeg s2) 43 l1.toNatClampNeg (gI (pI z 42 s1.toNatClampNeg s2) 35 l2.toNatClampNeg)) 44 l1.toNatClampNeg (gI (pI (pI z 42 s1.toNatClampNeg s2) 43 l1.toNatClampNeg (gI (pI z 42 s1.toNatClampNeg s2) 35 l2.toNatClampNeg)) 36 l2.toNatClampNeg))
def fHost_shelveRow (z : MS) (a0 : Int32) (a1 : Int32) : Option (Int32 × MS) :=
  if a1 < 0 ∨ 4 ≤ a1.toNatClampNeg then none else if (gI z 35 a1.toNatClampNeg) = (-1) then fHost_shelveRow_J20 z a0 a1 a0 2 else fHost_shelveRow_J20 z a0 a1 a0 1
set_option maxRecDepth 4000 in
theorem cHost_shelveRow (l : Launch) {z : MS} {a0 : Int32} {a1 : Int32} {r : Int32} {z1 : MS} (h : fHost_shelveRow z a0 a1 = some (r, z1)) : CT l yX1_shelveRow cX1_shelveRow 3 (some .int) 0 0 (fun ad sd => [.ref (ad 34), .int a0, .int a1]) z (some (.int r)) z1 := by
  rw [fHost_shelveRow] at h
  refine u_start RX1 rfl (by decide) (fun _ _ => Nat.le_of_ble_eq_true rfl) (fun p e s m args below meth c R D ad cs sd A Q ls X hP hS hl hr hret => ?_)
  have hl : lv_has ls 3 [(0, .ref (ad 34)), (1, .int a0), (2, .int a1)] := hl
  refine u_aload_n X hl dX1_shelveRow_0 0 rfl ?_
  refine gf_X1_21_34 X hP dX1_shelveRow_1 ?_
  refine u_iload_n X hl dX1_shelveRow_4 1 rfl ?_
  refine u_aload_n X hl dX1_shelveRow_5 0 rfl ?_
  refine gf_X1_9_34 X hP dX1_shelveRow_6 ?_
  refine u_iload_n X hl dX1_shelveRow_9 2 rfl ?_
  obtain ⟨hin, h⟩ := ifn_inv h
  refine ld_35 X hP rfl hin dX1_shelveRow_10 ?_
  refine u_iconst (v := (-1)) X dX1_shelveRow_11 rfl ?_
  have J20 : ∀ (H : Heap) (locs : List Loc) (ls : Array Slot) (s2_20 : Int32), lv_has ls 3 [(0, .ref (ad 34)), (1, .int a0), (2, .int a1)] → va_P D clss (wld cs ad z) H → va_S A s.heap H locs → fHost_shelveRow_J20 z a0 a1 a0 s2_20 = some (r, z1) → W p l e R s m args below meth c H locs 0 0 Q (F0 m 20 ls [.int s2_20, .int a0, .ref (ad 42)]) := by
    intro H locs ls s2_20 hl hP hS h
    rw [fHost_shelveRow_J20] at h
    obtain ⟨hin, h⟩ := ifn_inv h
    refine as_42 X hP hS rfl hin dX1_shelveRow_20 (fun H locs hP hS => ?_)
    refine u_aload_n X hl dX1_shelveRow_21 0 rfl ?_
    refine gf_X1_24_34 X hP dX1_shelveRow_22 ?_
    refine u_iload_n X hl dX1_shelveRow_25 1 rfl ?_
    refine u_aload_n X hl dX1_shelveRow_26 0 rfl ?_
    refine gf_X1_9_34 X hP dX1_shelveRow_27 ?_
    refine u_iload_n X hl dX1_shelveRow_30 2 rfl ?_
    obtain ⟨hin, h⟩ := ifn_inv h
    refine ld_35 X hP rfl hin dX1_shelveRow_31 ?_
    obtain ⟨hin, h⟩ := ifn_inv h
    refine as_43 X hP hS rfl hin dX1_shelveRow_32 (fun H locs hP hS => ?_)
    refine u_aload_n X hl dX1_shelveRow_33 0 rfl ?_
    refine gf_X1_27_34 X hP dX1_shelveRow_34 ?_
    refine u_iload_n X hl dX1_shelveRow_37 1 rfl ?_
    refine u_aload_n X hl dX1_shelveRow_38 0 rfl ?_
    refine gf_X1_13_34 X hP dX1_shelveRow_39 ?_
    refine u_iload_n X hl dX1_shelveRow_42 2 rfl ?_
    obtain ⟨hin, h⟩ := ifn_inv h
    refine ld_36 X hP rfl hin dX1_shelveRow_43 ?_
    obtain ⟨hin, h⟩ := ifn_inv h
    refine as_44 X hP hS rfl hin dX1_shelveRow_44 (fun H locs hP hS => ?_)
    refine u_iconst (v := 1) X dX1_shelveRow_45 rfl ?_
    exact u_iretM X hr hret h hP hS dX1_shelveRow_46
  refine u_icmp_ne 19 X dX1_shelveRow_12 rfl (fun hc => ?_) (fun hc => ?_)
  · rw [if_neg hc] at h
    refine u_iconst (v := 1) X dX1_shelveRow_19 rfl ?_
    exact J20 _ _ _ _ hl hP hS h
  · rw [if_pos hc] at h
    refine u_iconst (v := 2) X dX1_shelveRow_15 rfl ?_
    refine u_goto 20 X dX1_shelveRow_16 rfl ?_
    exact J20 _ _ _ _ hl hP hS h
def fHost_shelvePlan (z : MS) (a0 : Int32) (a1 : Int32) : Option (Int32 × MS) :=
  if a0 < 0 ∨ 4 ≤ a0.toNatClampNeg then none else if a0 < 0 ∨ 4 ≤ a0.toNatClampNeg then none else some (1, pI (pI z 42 a0.toNatClampNeg 0) 44 a0.toNatClampNeg a1)
set_option maxRecDepth 4000 in
theorem cHost_shelvePlan (l : Launch) {z : MS} {a0 : Int32} {a1 : Int32} {r : Int32} {z1 : MS} (h : fHost_shelvePlan z a0 a1 = some (r, z1)) : CT l yX1_shelvePlan cX1_shelvePlan 3 (some .int) 0 0 (fun ad sd => [.ref (ad 34), .int a0, .int a1]) z (some (.int r)) z1 := by
  rw [fHost_shelvePlan] at h
  refine u_start RX1 rfl (by decide) (fun _ _ => Nat.le_of_ble_eq_true rfl) (fun p e s m args below meth c R D ad cs sd A Q ls X hP hS hl hr hret => ?_)
  have hl : lv_has ls 3 [(0, .ref (ad 34)), (1, .int a0), (2, .int a1)] := hl
  refine u_aload_n X hl dX1_shelvePlan_0 0 rfl ?_
  refine gf_X1_21_34 X hP dX1_shelvePlan_1 ?_
  refine u_iload_n X hl dX1_shelvePlan_4 1 rfl ?_
  refine u_iconst (v := 0) X dX1_shelvePlan_5 rfl ?_
  obtain ⟨hin, h⟩ := ifn_inv h
  refine as_42 X hP hS rfl hin dX1_shelvePlan_6 (fun H locs hP hS => ?_)
  refine u_aload_n X hl dX1_shelvePlan_7 0 rfl ?_
  refine gf_X1_27_34 X hP dX1_shelvePlan_8 ?_
  refine u_iload_n X hl dX1_shelvePlan_11 1 rfl ?_
  refine u_iload_n X hl dX1_shelvePlan_12 2 rfl ?_
  obtain ⟨hin, h⟩ := ifn_inv h
  refine as_44 X hP hS rfl hin dX1_shelvePlan_13 (fun H locs hP hS => ?_)
  refine u_iconst (v := 1) X dX1_shelvePlan_14 rfl ?_
  exact u_iretM X hr hret h hP hS dX1_shelvePlan_15
def fHost_heldRow (z : MS) (a0 : Int32) : Option Int32 :=
  if a0 < 0 ∨ 4 ≤ a0.toNatClampNeg then none else if (gI z 42 a0.toNatClampNeg) = 1 then some 1 else some 0
set_option maxRecDepth 4000 in
theorem cHost_heldRow (l : Launch) {z : MS} {a0 : Int32} {r : Int32} (h : fHost_heldRow z a0 = some r) : CT l yX1_heldRow cX1_heldRow 2 (some .boolean) 0 0 (fun ad sd => [.ref (ad 34), .int a0]) z (some (.int r)) z := by
  rw [fHost_heldRow] at h
  refine u_start RX1 rfl (by decide) (fun _ _ => Nat.le_of_ble_eq_true rfl) (fun p e s m args below meth c R D ad cs sd A Q ls X hP hS hl hr hret => ?_)
  have hl : lv_has ls 2 [(0, .ref (ad 34)), (1, .int a0)] := hl
  refine u_aload_n X hl dX1_heldRow_0 0 rfl ?_
  refine gf_X1_21_34 X hP dX1_heldRow_1 ?_
  refine u_iload_n X hl dX1_heldRow_4 1 rfl ?_
  obtain ⟨hin, h⟩ := ifn_inv h
  refine ld_42 X hP rfl hin dX1_heldRow_5 ?_
  refine u_iconst (v := 1) X dX1_heldRow_6 rfl ?_
  refine u_icmp_ne 14 X dX1_heldRow_7 rfl (fun hc => ?_) (fun hc => ?_)
  · rw [if_neg hc] at h
    refine u_iconst (v := 0) X dX1_heldRow_14 rfl ?_
    exact u_zretP X hr hret h hP hS (Or.inl rfl) dX1_heldRow_15
  · rw [if_pos hc] at h
    refine u_iconst (v := 1) X dX1_heldRow_10 rfl ?_
    refine u_goto 15 X dX1_heldRow_11 rfl ?_
    exact u_zretP X hr hret h hP hS (Or.inr rfl) dX1_heldRow_15
def fHost_heldPlan (z : MS) (a0 : Int32) : Option Int32 :=
  if a0 < 0 ∨ 4 ≤ a0.toNatClampNeg then none else if (gI z 42 a0.toNatClampNeg) = 0 then some 1 else some 0
set_option maxRecDepth 4000 in
theorem cHost_heldPlan (l : Launch) {z : MS} {a0 : Int32} {r : Int32} (h : fHost_heldPlan z a0 = some r) : CT l yX1_heldPlan cX1_heldPlan 2 (some .boolean) 0 0 (fun ad sd => [.ref (ad 34), .int a0]) z (some (.int r)) z := by
  rw [fHost_heldPlan] at h
  refine u_start RX1 rfl (by decide) (fun _ _ => Nat.le_of_ble_eq_true rfl) (fun p e s m args below meth c R D ad cs sd A Q ls X hP hS hl hr hret => ?_)
  have hl : lv_has ls 2 [(0, .ref (ad 34)), (1, .int a0)] := hl
  refine u_aload_n X hl dX1_heldPlan_0 0 rfl ?_
  refine gf_X1_21_34 X hP dX1_heldPlan_1 ?_
  refine u_iload_n X hl dX1_heldPlan_4 1 rfl ?_
  obtain ⟨hin, h⟩ := ifn_inv h
  refine ld_42 X hP rfl hin dX1_heldPlan_5 ?_
  refine u_if_ne 13 X dX1_heldPlan_6 rfl (fun hc => ?_) (fun hc => ?_)
  · rw [if_neg hc] at h
    refine u_iconst (v := 0) X dX1_heldPlan_13 rfl ?_
    exact u_zretP X hr hret h hP hS (Or.inl rfl) dX1_heldPlan_14
  · rw [if_pos hc] at h
    refine u_iconst (v := 1) X dX1_heldPlan_9 rfl ?_
    refine u_goto 14 X dX1_heldPlan_10 rfl ?_
    exact u_zretP X hr hret h hP hS (Or.inr rfl) dX1_heldPlan_14
def fActs_isUnder_L4 (l1 : Int32) : Nat → Int32 → Int32 → Option Int32
  | 0, _, _ => none
  | n + 1, l2, l3 => if 6 ≤ l3 then some 0 else (if l2 < 0 then some 0 else (if l2 = l1 then some 1 else (if l2 < 0 ∨ 6 ≤ l2.toNatClampNeg then none else fActs_isUnder_L4 l1 n (cST2.getD l2.toNatClampNeg 0) (l3 + 1))))
def fActs_isUnder (a0 : Int32) (a1 : Int32) : Option Int32 :=
  fActs_isUnder_L4 a1 LF a0 0
set_option maxRecDepth 4000 in
theorem cActs_isUnder (l : Launch) (z : MS) {a0 : Int32} {a1 : Int32} {r : Int32} (h : fActs_isUnder a0 a1 = some r) : CT l yX0_isUnder cX0_isUnder 4 (some .boolean) 0 0 (fun ad sd => [.int a0, .int a1]) z (some (.int r)) z := by
  rw [fActs_isUnder] at h
  refine u_start RX0 rfl (by decide) (fun _ _ => Nat.le_of_ble_eq_true rfl) (fun p e s m args below meth c R D ad cs sd A Q ls X hP hS hl hr hret => ?_)
  have hl : lv_has ls 4 [(0, .int a0), (1, .int a1)] := hl
  refine u_iload_n X hl dX0_isUnder_0 0 rfl ?_
  refine u_istore_n [(2, .int a0), (0, .int a0), (1, .int a1)] X hl dX0_isUnder_1 (Nat.le_of_ble_eq_true rfl) rfl (fun ls hl => ?_)
  refine u_iconst (v := 0) X dX0_isUnder_2 rfl ?_
  refine u_istore_n [(3, .int 0), (2, .int a0), (0, .int a0), (1, .int a1)] X hl dX0_isUnder_3 (Nat.le_of_ble_eq_true rfl) rfl (fun ls hl => ?_)
  have L4 : ∀ (n : Nat) (H : Heap) (locs : List Loc) (ls : Array Slot) (l2_4 : Int32) (l3_4 : Int32), lv_has ls 4 [(1, .int a1), (2, .int l2_4), (3, .int l3_4)] → va_P D clss (wld cs ad z) H → va_S A s.heap H locs → fActs_isUnder_L4 a1 n l2_4 l3_4 = some r → W p l e R s m args below meth c H locs 0 0 Q (F0 m 4 ls []) := by
    intro n
    induction n with
    | zero =>
      intro H locs ls l2_4 l3_4 hl hP hS h
      rw [fActs_isUnder_L4] at h
      cases h
    | succ n4 ih4 =>
      intro H locs ls l2_4 l3_4 hl hP hS h
      rw [fActs_isUnder_L4] at h
      refine u_iload_n X hl dX0_isUnder_4 2 rfl ?_
      refine u_bipush (v := 6) X dX0_isUnder_5 rfl ?_
      refine u_icmp_ge 33 X dX0_isUnder_7 rfl (fun hc => ?_) (fun hc => ?_)
      · rw [if_pos hc] at h
        refine u_iconst (v := 0) X dX0_isUnder_33 rfl ?_
        exact u_zretP X hr hret h hP hS (Or.inl rfl) dX0_isUnder_34
      · rw [if_neg hc] at h
        refine u_iload_n X hl dX0_isUnder_10 1 rfl ?_
        refine u_if_lt 33 X dX0_isUnder_11 rfl (fun hc => ?_) (fun hc => ?_)
        · rw [if_pos hc] at h
          refine u_iconst (v := 0) X dX0_isUnder_33 rfl ?_
          exact u_zretP X hr hret h hP hS (Or.inl rfl) dX0_isUnder_34
        · rw [if_neg hc] at h
          refine u_iload_n X hl dX0_isUnder_14 1 rfl ?_
          refine u_iload_n X hl dX0_isUnder_15 0 rfl ?_
          refine u_icmp_ne 21 X dX0_isUnder_16 rfl (fun hc => ?_) (fun hc => ?_)
          · rw [if_neg hc] at h
            refine gs_X0_32 X hS dX0_isUnder_21 ?_
            refine u_iload_n X hl dX0_isUnder_24 1 rfl ?_
            obtain ⟨hin, h⟩ := ifn_inv h
            refine u_tald2 X hS hin dX0_isUnder_25 ?_
            refine u_istore_n [(2, .int (cST2.getD l2_4.toNatClampNeg 0)), (1, .int a1), (3, .int l3_4)] X hl dX0_isUnder_26 (Nat.le_of_ble_eq_true rfl) rfl (fun ls hl => ?_)
            refine u_iinc [(3, .int (l3_4 + 1)), (2, .int (cST2.getD l2_4.toNatClampNeg 0)), (1, .int a1)] X hl dX0_isUnder_27 2 rfl rfl (Nat.le_of_ble_eq_true rfl) rfl (fun ls hl => ?_)
            refine u_goto 4 X dX0_isUnder_30 rfl ?_
            exact ih4 _ _ _ _ _ (lv_sub hl [2, 1, 0] rfl) hP hS h
          · rw [if_pos hc] at h
            refine u_iconst (v := 1) X dX0_isUnder_19 rfl ?_
            exact u_zretP X hr hret h hP hS (Or.inr rfl) dX0_isUnder_20
  exact L4 LF _ _ _ _ _ (lv_sub hl [3, 1, 0] rfl) hP hS h
def fActs_forget (z : MS) : Option MS :=
  some (pI z 32 1 0)
set_option maxRecDepth 4000 in
theorem cActs_forget (l : Launch) {z : MS} {z1 : MS} (h : fActs_forget z = some z1) : CT l yX0_forget cX0_forget 1 none 0 0 (fun ad sd => [.ref (ad 32)]) z none z1 := by
  rw [fActs_forget] at h
  refine u_start RX0 rfl (by decide) (fun _ _ => Nat.le_of_ble_eq_true rfl) (fun p e s m args below meth c R D ad cs sd A Q ls X hP hS hl hr hret => ?_)
  have hl : lv_has ls 1 [(0, .ref (ad 32))] := hl
  refine u_aload_n X hl dX0_forget_0 0 rfl ?_
  refine u_iconst (v := 0) X dX0_forget_1 rfl ?_
  refine pf_X0_15_32 X hP hS dX0_forget_2 (fun H locs hP hS => ?_)
  exact u_vretM X hr hret h hP hS dX0_forget_5
def fActs_bodyOf_L4 (l1 : Int32) : Nat → Int32 → Int32 → Option Int32
  | 0, _, _ => none
  | n + 1, l2, l3 => if 6 ≤ l3 then some 0 else (if l2 < 0 then some 0 else (if ((l2 * 4) + l1) < 0 ∨ 24 ≤ ((l2 * 4) + l1).toNatClampNeg then none else if (cST3.getD ((l2 * 4) + l1).toNatClampNeg 0) = 0 then (if l2 < 0 ∨ 6 ≤ l2.toNatClampNeg then none else fActs_bodyOf_L4 l1 n (cST2.getD l2.toNatClampNeg 0) (l3 + 1)) else (if ((l2 * 4) + l1) < 0 ∨ 24 ≤ ((l2 * 4) + l1).toNatClampNeg then none else some (cST3.getD ((l2 * 4) + l1).toNatClampNeg 0))))
def fActs_bodyOf (a0 : Int32) (a1 : Int32) : Option Int32 :=
  fActs_bodyOf_L4 a1 LF a0 0
set_option maxRecDepth 4000 in
theorem cActs_bodyOf (l : Launch) (z : MS) {a0 : Int32} {a1 : Int32} {r : Int32} (h : fActs_bodyOf a0 a1 = some r) : CT l yX0_bodyOf cX0_bodyOf 4 (some .int) 0 0 (fun ad sd => [.int a0, .int a1]) z (some (.int r)) z := by
  rw [fActs_bodyOf] at h
  refine u_start RX0 rfl (by decide) (fun _ _ => Nat.le_of_ble_eq_true rfl) (fun p e s m args below meth c R D ad cs sd A Q ls X hP hS hl hr hret => ?_)
  have hl : lv_has ls 4 [(0, .int a0), (1, .int a1)] := hl
  refine u_iload_n X hl dX0_bodyOf_0 0 rfl ?_
  refine u_istore_n [(2, .int a0), (0, .int a0), (1, .int a1)] X hl dX0_bodyOf_1 (Nat.le_of_ble_eq_true rfl) rfl (fun ls hl => ?_)
  refine u_iconst (v := 0) X dX0_bodyOf_2 rfl ?_
  refine u_istore_n [(3, .int 0), (2, .int a0), (0, .int a0), (1, .int a1)] X hl dX0_bodyOf_3 (Nat.le_of_ble_eq_true rfl) rfl (fun ls hl => ?_)
  have L4 : ∀ (n : Nat) (H : Heap) (locs : List Loc) (ls : Array Slot) (l2_4 : Int32) (l3_4 : Int32), lv_has ls 4 [(1, .int a1), (2, .int l2_4), (3, .int l3_4)] → va_P D clss (wld cs ad z) H → va_S A s.heap H locs → fActs_bodyOf_L4 a1 n l2_4 l3_4 = some r → W p l e R s m args below meth c H locs 0 0 Q (F0 m 4 ls []) := by
    intro n
    induction n with
    | zero =>
      intro H locs ls l2_4 l3_4 hl hP hS h
      rw [fActs_bodyOf_L4] at h
      cases h
    | succ n4 ih4 =>
      intro H locs ls l2_4 l3_4 hl hP hS h
      rw [fActs_bodyOf_L4] at h
      refine u_iload_n X hl dX0_bodyOf_4 2 rfl ?_
      refine u_bipush (v := 6) X dX0_bodyOf_5 rfl ?_
      refine u_icmp_ge 48 X dX0_bodyOf_7 rfl (fun hc => ?_) (fun hc => ?_)
      · rw [if_pos hc] at h
        refine u_iconst (v := 0) X dX0_bodyOf_48 rfl ?_
        exact u_iretP X hr hret h hP hS dX0_bodyOf_49
      · rw [if_neg hc] at h
        refine u_iload_n X hl dX0_bodyOf_10 1 rfl ?_
        refine u_if_lt 48 X dX0_bodyOf_11 rfl (fun hc => ?_) (fun hc => ?_)
        · rw [if_pos hc] at h
          refine u_iconst (v := 0) X dX0_bodyOf_48 rfl ?_
          exact u_iretP X hr hret h hP hS dX0_bodyOf_49
        · rw [if_neg hc] at h
          refine gs_X0_43 X hS dX0_bodyOf_14 ?_
          refine u_iload_n X hl dX0_bodyOf_17 1 rfl ?_
          refine u_iconst (v := 4) X dX0_bodyOf_18 rfl ?_
          refine u_imul X dX0_bodyOf_19 ?_
          refine u_iload_n X hl dX0_bodyOf_20 0 rfl ?_
          refine u_iadd X dX0_bodyOf_21 ?_
          obtain ⟨hin, h⟩ := ifn_inv h
          refine u_tald3 X hS hin dX0_bodyOf_22 ?_
          refine u_if_eq 36 X dX0_bodyOf_23 rfl (fun hc => ?_) (fun hc => ?_)
          · rw [if_pos hc] at h
            refine gs_X0_32 X hS dX0_bodyOf_36 ?_
            refine u_iload_n X hl dX0_bodyOf_39 1 rfl ?_
            obtain ⟨hin, h⟩ := ifn_inv h
            refine u_tald2 X hS hin dX0_bodyOf_40 ?_
            refine u_istore_n [(2, .int (cST2.getD l2_4.toNatClampNeg 0)), (1, .int a1), (3, .int l3_4)] X hl dX0_bodyOf_41 (Nat.le_of_ble_eq_true rfl) rfl (fun ls hl => ?_)
            refine u_iinc [(3, .int (l3_4 + 1)), (2, .int (cST2.getD l2_4.toNatClampNeg 0)), (1, .int a1)] X hl dX0_bodyOf_42 2 rfl rfl (Nat.le_of_ble_eq_true rfl) rfl (fun ls hl => ?_)
            refine u_goto 4 X dX0_bodyOf_45 rfl ?_
            exact ih4 _ _ _ _ _ (lv_sub hl [2, 1, 0] rfl) hP hS h
          · rw [if_neg hc] at h
            refine gs_X0_43 X hS dX0_bodyOf_26 ?_
            refine u_iload_n X hl dX0_bodyOf_29 1 rfl ?_
            refine u_iconst (v := 4) X dX0_bodyOf_30 rfl ?_
            refine u_imul X dX0_bodyOf_31 ?_
            refine u_iload_n X hl dX0_bodyOf_32 0 rfl ?_
            refine u_iadd X dX0_bodyOf_33 ?_
            obtain ⟨hin, h⟩ := ifn_inv h
            refine u_tald3 X hS hin dX0_bodyOf_34 ?_
            exact u_iretP X hr hret h hP hS dX0_bodyOf_35
  exact L4 LF _ _ _ _ _ (lv_sub hl [3, 1, 0] rfl) hP hS h
def fActs_note (z : MS) (a0 : Int32) : Option MS :=
  if 30 ≤ (gI z 32 1) then some z else (if (gI z 32 1) < 0 ∨ 30 ≤ (gI z 32 1).toNatClampNeg then none else some (pI (pI z 33 (gI z 32 1).toNatClampNeg a0) 32 1 ((gI (pI z 33 (gI z 32 1).toNatClampNeg a0) 32 1) + 1)))
set_option maxRecDepth 4000 in
theorem cActs_note (l : Launch) {z : MS} {a0 : Int32} {z1 : MS} (h : fActs_note z a0 = some z1) : CT l yX0_note cX0_note 2 none 0 0 (fun ad sd => [.ref (ad 32), .int a0]) z none z1 := by
  rw [fActs_note] at h
  refine u_start RX0 rfl (by decide) (fun _ _ => Nat.le_of_ble_eq_true rfl) (fun p e s m args below meth c R D ad cs sd A Q ls X hP hS hl hr hret => ?_)
  have hl : lv_has ls 2 [(0, .ref (ad 32)), (1, .int a0)] := hl
  refine u_aload_n X hl dX0_note_0 0 rfl ?_
  refine gf_X0_15_32 X hP dX0_note_1 ?_
  refine u_bipush (v := 30) X dX0_note_4 rfl ?_
  refine u_icmp_ge 29 X dX0_note_6 rfl (fun hc => ?_) (fun hc => ?_)
  · rw [if_pos hc] at h
    exact u_vretM X hr hret h hP hS dX0_note_29
  · rw [if_neg hc] at h
    refine u_aload_n X hl dX0_note_9 0 rfl ?_
    refine gf_X0_11_32 X hP dX0_note_10 ?_
    refine u_aload_n X hl dX0_note_13 0 rfl ?_
    refine gf_X0_15_32 X hP dX0_note_14 ?_
    refine u_iload_n X hl dX0_note_17 1 rfl ?_
    obtain ⟨hin, h⟩ := ifn_inv h
    refine as_33 X hP hS rfl hin dX0_note_18 (fun H locs hP hS => ?_)
    refine u_aload_n X hl dX0_note_19 0 rfl ?_
    refine u_dup X rfl dX0_note_20 ?_
    refine gf_X0_15_32 X hP dX0_note_21 ?_
    refine u_iconst (v := 1) X dX0_note_24 rfl ?_
    refine u_iadd X dX0_note_25 ?_
    refine pf_X0_15_32 X hP hS dX0_note_26 (fun H locs hP hS => ?_)
    exact u_vretM X hr hret h hP hS dX0_note_29
def fActs_share (z : MS) (a0 : Int32) : Option (Int32 × MS) :=
  if ((gI z 32 4) - (gI z 32 3)) = 0 then some (0, pI z 32 5 1) else (if ((gI z 32 4) - (gI z 32 3)) = 0 then none else some (a0 / ((gI z 32 4) - (gI z 32 3)), z))
set_option maxRecDepth 4000 in
theorem cActs_share (l : Launch) {z : MS} {a0 : Int32} {r : Int32} {z1 : MS} (h : fActs_share z a0 = some (r, z1)) : CT l yX0_share cX0_share 3 (some .int) 0 0 (fun ad sd => [.ref (ad 32), .int a0]) z (some (.int r)) z1 := by
  rw [fActs_share] at h
  refine u_start RX0 rfl (by decide) (fun _ _ => Nat.le_of_ble_eq_true rfl) (fun p e s m args below meth c R D ad cs sd A Q ls X hP hS hl hr hret => ?_)
  have hl : lv_has ls 3 [(0, .ref (ad 32)), (1, .int a0)] := hl
  refine u_aload_n X hl dX0_share_0 0 rfl ?_
  refine gf_X0_25_32 X hP dX0_share_1 ?_
  refine u_aload_n X hl dX0_share_4 0 rfl ?_
  refine gf_X0_22_32 X hP dX0_share_5 ?_
  refine u_isub X dX0_share_8 ?_
  refine u_istore_n [(2, .int ((gI z 32 4) - (gI z 32 3))), (0, .ref (ad 32)), (1, .int a0)] X hl dX0_share_9 (Nat.le_of_ble_eq_true rfl) rfl (fun ls hl => ?_)
  refine u_iload_n X hl dX0_share_10 0 rfl ?_
  refine u_if_ne 21 X dX0_share_11 rfl (fun hc => ?_) (fun hc => ?_)
  · rw [if_neg hc] at h
    refine u_iload_n X hl dX0_share_21 2 rfl ?_
    refine u_iload_n X hl dX0_share_22 0 rfl ?_
    obtain ⟨hn, h⟩ := ifn_inv h
    refine u_idiv X hn dX0_share_23 ?_
    exact u_iretM X hr hret h hP hS dX0_share_24
  · rw [if_pos hc] at h
    refine u_aload_n X hl dX0_share_14 1 rfl ?_
    refine u_iconst (v := 1) X dX0_share_15 rfl ?_
    refine pf_X0_28_32 X hP hS (Or.inr rfl) dX0_share_16 (fun H locs hP hS => ?_)
    refine u_iconst (v := 0) X dX0_share_19 rfl ?_
    exact u_iretM X hr hret h hP hS dX0_share_20
def fActs_run : Nat → MS → Int32 → Int32 → Int32 → Option (Int32 × MS)
  | 0, _, _, _, _ => none
  | n + 1, z, a0, a1, a2 => if (gI z 32 5) = 0 then (if a2 ≤ 40 then Option.bind (fActs_note z a0) (fun zc17 => if a0 = 10 then some (a1 + (gI zc17 32 3), zc17) else if a0 = 11 then Option.bind (fActs_bodyOf (gI zc17 32 2) 0) (fun w261 => ob2 ((fActs_run n) zc17 w261 a1 (a2 + 1)) (fun w267 zc267 => some (w267 * 2, zc267))) else if a0 = 12 then ob2 (fActs_share zc17 a1) (fun w275 zc275 => some (w275, zc275)) else if a0 = 13 then Option.bind (fActs_bodyOf (gI zc17 32 2) 1) (fun w285 => ob2 ((fActs_run n) zc17 w285 a1 (a2 + 1)) (fun w291 zc291 => some (w291 ^^^ (gI zc291 32 4), zc291))) else if a0 = 20 then Option.bind (fActs_bodyOf 0 1) (fun w303 => ob2 ((fActs_run n) zc17 w303 a1 (a2 + 1)) (fun w309 zc309 => some (w309 - (gI zc309 32 4), zc309))) else if a0 = 30 then Option.bind (fActs_bodyOf 0 0) (fun w321 => ob2 ((fActs_run n) zc17 w321 a1 (a2 + 1)) (fun w327 zc327 => some (w327 * 3, zc327))) else if a0 = 31 then Option.bind (fActs_bodyOf 0 3) (fun w336 => ob2 ((fActs_run n) zc17 w336 a1 (a2 + 1)) (fun w342 zc342 => Option.bind (fActs_bodyOf (gI zc342 32 2) 2) (fun w351 => ob2 ((fActs_run n) zc342 w351 (gI zc342 32 3) (a2 + 1)) (fun w360 zc360 => some (w342 + w360, zc360))))) else if a0 = 40 then Option.bind (fActs_bodyOf 2 0) (fun w369 => ob2 ((fActs_run n) zc17 w369 a1 (a2 + 1)) (fun w375 zc375 => some (0 - w375, zc375))) else if a0 = 41 then Option.bind (fActs_bodyOf 2 1) (fun w383 => ob2 ((fActs_run n) zc17 w383 a1 (a2 + 1)) (fun w389 zc389 => Option.bind (fActs_bodyOf (gI zc389 32 2) 0) (fun w398 => ob2 ((fActs_run n) zc389 w398 (gI zc389 32 3) (a2 + 1)) (fun w407 zc407 => some (w389 + w407, zc407))))) else if a0 = 50 then Option.bind (fActs_bodyOf 1 2) (fun w415 => ob2 ((fActs_run n) zc17 w415 (a1 + 2) (a2 + 1)) (fun w423 zc423 => some (w423 ^^^ 1, zc423))) else if a0 = 51 then Option.bind (fActs_bodyOf 1 0) (fun w432 => ob2 ((fActs_run n) zc17 w432 a1 (a2 + 1)) (fun w438 zc438 => some (w438 - (gI zc438 32 3), zc438))) else if a0 = 60 then Option.bind (fActs_bodyOf 0 3) (fun w450 => ob2 ((fActs_run n) zc17 w450 a1 (a2 + 1)) (fun w456 zc456 => some (w456 * 2, zc456))) else if a0 = 61 then Option.bind (fActs_bodyOf 0 2) (fun w465 => ob2 ((fActs_run n) zc17 w465 a1 (a2 + 1)) (fun w471 zc471 => Option.bind (fActs_bodyOf (gI zc471 32 2) 0) (fun w480 => ob2 ((fActs_run n) zc471 w480 (gI zc471 32 4) (a2 + 1)) (fun w489 zc489 => some (w471 + w489, zc489))))) else some (0, zc17)) else some (0, z)) else some (0, z)
set_option maxRecDepth 4000 in
theorem cActs_run (l : Launch) : ∀ (nr : Nat) {z : MS} {a0 : Int32} {a1 : Int32} {a2 : Int32} {r : Int32} {z1 : MS} (h : fActs_run nr z a0 a1 a2 = some (r, z1)), CT l yX0_run cX0_run 5 (some .int) (1 + nr) (23 + nr * 24) (fun ad sd => [.ref (ad 32), .int a0, .int a1, .int a2]) z (some (.int r)) z1 := by
  intro nr
  induction nr with
  | zero =>
    intro z a0 a1 a2 r z1 h
    rw [fActs_run] at h
    cases h
  | succ nr ihr =>
    intro z a0 a1 a2 r z1 h
    rw [fActs_run] at h
    refine u_start RX0 rfl (by decide) (fun _ _ => Nat.le_of_ble_eq_true rfl) (fun p e s m args below meth c R D ad cs sd A Q ls X hP hS hl hr hret => ?_)
    have hl : lv_has ls 5 [(0, .ref (ad 32)), (1, .int a0), (2, .int a1), (3, .int a2)] := hl
    refine u_aload_n X hl dX0_run_0 0 rfl ?_
    refine gf_X0_28_32 X hP dX0_run_1 ?_
    refine u_if_ne 13 X dX0_run_4 rfl (fun hc => ?_) (fun hc => ?_)
    · rw [if_neg hc] at h
      refine u_iconst (v := 0) X dX0_run_13 rfl ?_
      exact u_iretM X hr hret h hP hS dX0_run_14
    · rw [if_pos hc] at h
      refine u_iload_n X hl dX0_run_7 3 rfl ?_
      refine u_bipush (v := 40) X dX0_run_8 rfl ?_
      refine u_icmp_le 15 X dX0_run_10 rfl (fun hc => ?_) (fun hc => ?_)
      · rw [if_pos hc] at h
        refine u_aload_n X hl dX0_run_15 0 rfl ?_
        refine u_iload_n X hl dX0_run_16 1 rfl ?_
        obtain ⟨zc17, hc17, h⟩ := ob_inv h
        refine u_callVv X hP hS hl dX0_run_17 (cActs_note l hc17) cw_X0_46 io_32 rfl rfl rfl rfl ⟨Nat.ble_eq_true_of_le (by omega), Nat.ble_eq_true_of_le (by omega)⟩ (fun H locs hP hS => ?_)
        refine u_iload_n X hl dX0_run_20 3 rfl ?_
        refine u_iconst (v := 1) X dX0_run_21 rfl ?_
        refine u_iadd X dX0_run_22 ?_
        refine u_istore [(4, .int (a2 + 1)), (0, .ref (ad 32)), (1, .int a0), (2, .int a1), (3, .int a2)] X hl dX0_run_23 (Nat.le_of_ble_eq_true rfl) rfl (fun ls hl => ?_)
        refine u_iload_n X hl dX0_run_25 2 rfl ?_
        by_cases hc0 : a0 = 10
        · rw [if_pos hc0] at h
          refine u_tsw 248 X dX0_run_26 (v := 10) (by rw [hc0]; rfl) (by decide) ?_
          refine u_iload_n X hl dX0_run_248 3 rfl ?_
          refine u_aload_n X hl dX0_run_249 1 rfl ?_
          refine gf_X0_22_32 X hP dX0_run_250 ?_
          refine u_iadd X dX0_run_253 ?_
          exact u_iretM X hr hret h hP hS dX0_run_254
        rw [if_neg hc0] at h
        by_cases hc1 : a0 = 11
        · rw [if_pos hc1] at h
          refine u_tsw 255 X dX0_run_26 (v := 11) (by rw [hc1]; rfl) (by decide) ?_
          refine u_aload_n X hl dX0_run_255 1 rfl ?_
          refine u_aload_n X hl dX0_run_256 1 rfl ?_
          refine gf_X0_19_32 X hP dX0_run_257 ?_
          refine u_iconst (v := 0) X dX0_run_260 rfl ?_
          obtain ⟨w261, hc261, h⟩ := ob_inv h
          refine u_callSi X hP hS hl dX0_run_261 (cActs_bodyOf l zc17 hc261) cw_X0_35 rfl rfl rfl rfl ⟨Nat.ble_eq_true_of_le (by omega), Nat.ble_eq_true_of_le (by omega)⟩ (fun H locs hP hS => ?_)
          refine u_iload_n X hl dX0_run_264 3 rfl ?_
          refine u_iload X hl dX0_run_265 0 rfl ?_
          obtain ⟨w267, zc267, hc267, h⟩ := ob2_inv h
          refine u_callSi X hP hS hl dX0_run_267 (ihr hc267) cw_X0_39 rfl rfl rfl rfl ⟨Nat.ble_eq_true_of_le (by omega), Nat.ble_eq_true_of_le (by omega)⟩ (fun H locs hP hS => ?_)
          refine u_iconst (v := 2) X dX0_run_270 rfl ?_
          refine u_imul X dX0_run_271 ?_
          exact u_iretM X hr hret h hP hS dX0_run_272
        rw [if_neg hc1] at h
        by_cases hc2 : a0 = 12
        · rw [if_pos hc2] at h
          refine u_tsw 273 X dX0_run_26 (v := 12) (by rw [hc2]; rfl) (by decide) ?_
          refine u_aload_n X hl dX0_run_273 1 rfl ?_
          refine u_iload_n X hl dX0_run_274 3 rfl ?_
          obtain ⟨w275, zc275, hc275, h⟩ := ob2_inv h
          refine u_callVi X hP hS hl dX0_run_275 (cActs_share l hc275) cw_X0_50 io_32 rfl rfl rfl rfl ⟨Nat.ble_eq_true_of_le (by omega), Nat.ble_eq_true_of_le (by omega)⟩ (fun H locs hP hS => ?_)
          exact u_iretM X hr hret h hP hS dX0_run_278
        rw [if_neg hc2] at h
        by_cases hc3 : a0 = 13
        · rw [if_pos hc3] at h
          refine u_tsw 279 X dX0_run_26 (v := 13) (by rw [hc3]; rfl) (by decide) ?_
          refine u_aload_n X hl dX0_run_279 1 rfl ?_
          refine u_aload_n X hl dX0_run_280 1 rfl ?_
          refine gf_X0_19_32 X hP dX0_run_281 ?_
          refine u_iconst (v := 1) X dX0_run_284 rfl ?_
          obtain ⟨w285, hc285, h⟩ := ob_inv h
          refine u_callSi X hP hS hl dX0_run_285 (cActs_bodyOf l zc17 hc285) cw_X0_35 rfl rfl rfl rfl ⟨Nat.ble_eq_true_of_le (by omega), Nat.ble_eq_true_of_le (by omega)⟩ (fun H locs hP hS => ?_)
          refine u_iload_n X hl dX0_run_288 3 rfl ?_
          refine u_iload X hl dX0_run_289 0 rfl ?_
          obtain ⟨w291, zc291, hc291, h⟩ := ob2_inv h
          refine u_callSi X hP hS hl dX0_run_291 (ihr hc291) cw_X0_39 rfl rfl rfl rfl ⟨Nat.ble_eq_true_of_le (by omega), Nat.ble_eq_true_of_le (by omega)⟩ (fun H locs hP hS => ?_)
          refine u_aload_n X hl dX0_run_294 1 rfl ?_
          refine gf_X0_25_32 X hP dX0_run_295 ?_
          refine u_ixor X dX0_run_298 ?_
          exact u_iretM X hr hret h hP hS dX0_run_299
        rw [if_neg hc3] at h
        by_cases hc4 : a0 = 20
        · rw [if_pos hc4] at h
          refine u_tsw 300 X dX0_run_26 (v := 20) (by rw [hc4]; rfl) (by decide) ?_
          refine u_aload_n X hl dX0_run_300 1 rfl ?_
          refine u_iconst (v := 0) X dX0_run_301 rfl ?_
          refine u_iconst (v := 1) X dX0_run_302 rfl ?_
          obtain ⟨w303, hc303, h⟩ := ob_inv h
          refine u_callSi X hP hS hl dX0_run_303 (cActs_bodyOf l zc17 hc303) cw_X0_35 rfl rfl rfl rfl ⟨Nat.ble_eq_true_of_le (by omega), Nat.ble_eq_true_of_le (by omega)⟩ (fun H locs hP hS => ?_)
          refine u_iload_n X hl dX0_run_306 3 rfl ?_
          refine u_iload X hl dX0_run_307 0 rfl ?_
          obtain ⟨w309, zc309, hc309, h⟩ := ob2_inv h
          refine u_callSi X hP hS hl dX0_run_309 (ihr hc309) cw_X0_39 rfl rfl rfl rfl ⟨Nat.ble_eq_true_of_le (by omega), Nat.ble_eq_true_of_le (by omega)⟩ (fun H locs hP hS => ?_)
          refine u_aload_n X hl dX0_run_312 1 rfl ?_
          refine gf_X0_25_32 X hP dX0_run_313 ?_
          refine u_isub X dX0_run_316 ?_
          exact u_iretM X hr hret h hP hS dX0_run_317
        rw [if_neg hc4] at h
        by_cases hc5 : a0 = 30
        · rw [if_pos hc5] at h
          refine u_tsw 318 X dX0_run_26 (v := 30) (by rw [hc5]; rfl) (by decide) ?_
          refine u_aload_n X hl dX0_run_318 1 rfl ?_
          refine u_iconst (v := 0) X dX0_run_319 rfl ?_
          refine u_iconst (v := 0) X dX0_run_320 rfl ?_
          obtain ⟨w321, hc321, h⟩ := ob_inv h
          refine u_callSi X hP hS hl dX0_run_321 (cActs_bodyOf l zc17 hc321) cw_X0_35 rfl rfl rfl rfl ⟨Nat.ble_eq_true_of_le (by omega), Nat.ble_eq_true_of_le (by omega)⟩ (fun H locs hP hS => ?_)
          refine u_iload_n X hl dX0_run_324 3 rfl ?_
          refine u_iload X hl dX0_run_325 0 rfl ?_
          obtain ⟨w327, zc327, hc327, h⟩ := ob2_inv h
          refine u_callSi X hP hS hl dX0_run_327 (ihr hc327) cw_X0_39 rfl rfl rfl rfl ⟨Nat.ble_eq_true_of_le (by omega), Nat.ble_eq_true_of_le (by omega)⟩ (fun H locs hP hS => ?_)
          refine u_iconst (v := 3) X dX0_run_330 rfl ?_
          refine u_imul X dX0_run_331 ?_
          exact u_iretM X hr hret h hP hS dX0_run_332
        rw [if_neg hc5] at h
        by_cases hc6 : a0 = 31
        · rw [if_pos hc6] at h
          refine u_tsw 333 X dX0_run_26 (v := 31) (by rw [hc6]; rfl) (by decide) ?_
          refine u_aload_n X hl dX0_run_333 1 rfl ?_
          refine u_iconst (v := 0) X dX0_run_334 rfl ?_
          refine u_iconst (v := 3) X dX0_run_335 rfl ?_
          obtain ⟨w336, hc336, h⟩ := ob_inv h
          refine u_callSi X hP hS hl dX0_run_336 (cActs_bodyOf l zc17 hc336) cw_X0_35 rfl rfl rfl rfl ⟨Nat.ble_eq_true_of_le (by omega), Nat.ble_eq_true_of_le (by omega)⟩ (fun H locs hP hS => ?_)
          refine u_iload_n X hl dX0_run_339 3 rfl ?_
          refine u_iload X hl dX0_run_340 0 rfl ?_
          obtain ⟨w342, zc342, hc342, h⟩ := ob2_inv h
          refine u_callSi X hP hS hl dX0_run_342 (ihr hc342) cw_X0_39 rfl rfl rfl rfl ⟨Nat.ble_eq_true_of_le (by omega), Nat.ble_eq_true_of_le (by omega)⟩ (fun H locs hP hS => ?_)
          refine u_aload_n X hl dX0_run_345 1 rfl ?_
          refine u_aload_n X hl dX0_run_346 1 rfl ?_
          refine gf_X0_19_32 X hP dX0_run_347 ?_
          refine u_iconst (v := 2) X dX0_run_350 rfl ?_
          obtain ⟨w351, hc351, h⟩ := ob_inv h
          refine u_callSi X hP hS hl dX0_run_351 (cActs_bodyOf l zc342 hc351) cw_X0_35 rfl rfl rfl rfl ⟨Nat.ble_eq_true_of_le (by omega), Nat.ble_eq_true_of_le (by omega)⟩ (fun H locs hP hS => ?_)
          refine u_aload_n X hl dX0_run_354 1 rfl ?_
          refine gf_X0_22_32 X hP dX0_run_355 ?_
          refine u_iload X hl dX0_run_358 0 rfl ?_
          obtain ⟨w360, zc360, hc360, h⟩ := ob2_inv h
          refine u_callSi X hP hS hl dX0_run_360 (ihr hc360) cw_X0_39 rfl rfl rfl rfl ⟨Nat.ble_eq_true_of_le (by omega), Nat.ble_eq_true_of_le (by omega)⟩ (fun H locs hP hS => ?_)
          refine u_iadd X dX0_run_363 ?_
          exact u_iretM X hr hret h hP hS dX0_run_364
        rw [if_neg hc6] at h
        by_cases hc7 : a0 = 40
        · rw [if_pos hc7] at h
          refine u_tsw 365 X dX0_run_26 (v := 40) (by rw [hc7]; rfl) (by decide) ?_
          refine u_iconst (v := 0) X dX0_run_365 rfl ?_
          refine u_aload_n X hl dX0_run_366 1 rfl ?_
          refine u_iconst (v := 2) X dX0_run_367 rfl ?_
          refine u_iconst (v := 0) X dX0_run_368 rfl ?_
          obtain ⟨w369, hc369, h⟩ := ob_inv h
          refine u_callSi X hP hS hl dX0_run_369 (cActs_bodyOf l zc17 hc369) cw_X0_35 rfl rfl rfl rfl ⟨Nat.ble_eq_true_of_le (by omega), Nat.ble_eq_true_of_le (by omega)⟩ (fun H locs hP hS => ?_)
          refine u_iload_n X hl dX0_run_372 3 rfl ?_
          refine u_iload X hl dX0_run_373 0 rfl ?_
          obtain ⟨w375, zc375, hc375, h⟩ := ob2_inv h
          refine u_callSi X hP hS hl dX0_run_375 (ihr hc375) cw_X0_39 rfl rfl rfl rfl ⟨Nat.ble_eq_true_of_le (by omega), Nat.ble_eq_true_of_le (by omega)⟩ (fun H locs hP hS => ?_)
          refine u_isub X dX0_run_378 ?_
          exact u_iretM X hr hret h hP hS dX0_run_379
        rw [if_neg hc7] at h
        by_cases hc8 : a0 = 41
        · rw [if_pos hc8] at h
          refine u_tsw 380 X dX0_run_26 (v := 41) (by rw [hc8]; rfl) (by decide) ?_
          refine u_aload_n X hl dX0_run_380 1 rfl ?_
          refine u_iconst (v := 2) X dX0_run_381 rfl ?_
          refine u_iconst (v := 1) X dX0_run_382 rfl ?_
          obtain ⟨w383, hc383, h⟩ := ob_inv h
          refine u_callSi X hP hS hl dX0_run_383 (cActs_bodyOf l zc17 hc383) cw_X0_35 rfl rfl rfl rfl ⟨Nat.ble_eq_true_of_le (by omega), Nat.ble_eq_true_of_le (by omega)⟩ (fun H locs hP hS => ?_)
          refine u_iload_n X hl dX0_run_386 3 rfl ?_
          refine u_iload X hl dX0_run_387 0 rfl ?_
          obtain ⟨w389, zc389, hc389, h⟩ := ob2_inv h
          refine u_callSi X hP hS hl dX0_run_389 (ihr hc389) cw_X0_39 rfl rfl rfl rfl ⟨Nat.ble_eq_true_of_le (by omega), Nat.ble_eq_true_of_le (by omega)⟩ (fun H locs hP hS => ?_)
          refine u_aload_n X hl dX0_run_392 1 rfl ?_
          refine u_aload_n X hl dX0_run_393 1 rfl ?_
          refine gf_X0_19_32 X hP dX0_run_394 ?_
          refine u_iconst (v := 0) X dX0_run_397 rfl ?_
          obtain ⟨w398, hc398, h⟩ := ob_inv h
          refine u_callSi X hP hS hl dX0_run_398 (cActs_bodyOf l zc389 hc398) cw_X0_35 rfl rfl rfl rfl ⟨Nat.ble_eq_true_of_le (by omega), Nat.ble_eq_true_of_le (by omega)⟩ (fun H locs hP hS => ?_)
          refine u_aload_n X hl dX0_run_401 1 rfl ?_
          refine gf_X0_22_32 X hP dX0_run_402 ?_
          refine u_iload X hl dX0_run_405 0 rfl ?_
          obtain ⟨w407, zc407, hc407, h⟩ := ob2_inv h
          refine u_callSi X hP hS hl dX0_run_407 (ihr hc407) cw_X0_39 rfl rfl rfl rfl ⟨Nat.ble_eq_true_of_le (by omega), Nat.ble_eq_true_of_le (by omega)⟩ (fun H locs hP hS => ?_)
          refine u_iadd X dX0_run_410 ?_
          exact u_iretM X hr hret h hP hS dX0_run_411
        rw [if_neg hc8] at h
        by_cases hc9 : a0 = 50
        · rw [if_pos hc9] at h
          refine u_tsw 412 X dX0_run_26 (v := 50) (by rw [hc9]; rfl) (by decide) ?_
          refine u_aload_n X hl dX0_run_412 1 rfl ?_
          refine u_iconst (v := 1) X dX0_run_413 rfl ?_
          refine u_iconst (v := 2) X dX0_run_414 rfl ?_
          obtain ⟨w415, hc415, h⟩ := ob_inv h
          refine u_callSi X hP hS hl dX0_run_415 (cActs_bodyOf l zc17 hc415) cw_X0_35 rfl rfl rfl rfl ⟨Nat.ble_eq_true_of_le (by omega), Nat.ble_eq_true_of_le (by omega)⟩ (fun H locs hP hS => ?_)
          refine u_iload_n X hl dX0_run_418 3 rfl ?_
          refine u_iconst (v := 2) X dX0_run_419 rfl ?_
          refine u_iadd X dX0_run_420 ?_
          refine u_iload X hl dX0_run_421 0 rfl ?_
          obtain ⟨w423, zc423, hc423, h⟩ := ob2_inv h
          refine u_callSi X hP hS hl dX0_run_423 (ihr hc423) cw_X0_39 rfl rfl rfl rfl ⟨Nat.ble_eq_true_of_le (by omega), Nat.ble_eq_true_of_le (by omega)⟩ (fun H locs hP hS => ?_)
          refine u_iconst (v := 1) X dX0_run_426 rfl ?_
          refine u_ixor X dX0_run_427 ?_
          exact u_iretM X hr hret h hP hS dX0_run_428
        rw [if_neg hc9] at h
        by_cases hc10 : a0 = 51
        · rw [if_pos hc10] at h
          refine u_tsw 429 X dX0_run_26 (v := 51) (by rw [hc10]; rfl) (by decide) ?_
          refine u_aload_n X hl dX0_run_429 1 rfl ?_
          refine u_iconst (v := 1) X dX0_run_430 rfl ?_
          refine u_iconst (v := 0) X dX0_run_431 rfl ?_
          obtain ⟨w432, hc432, h⟩ := ob_inv h
          refine u_callSi X hP hS hl dX0_run_432 (cActs_bodyOf l zc17 hc432) cw_X0_35 rfl rfl rfl rfl ⟨Nat.ble_eq_true_of_le (by omega), Nat.ble_eq_true_of_le (by omega)⟩ (fun H locs hP hS => ?_)
          refine u_iload_n X hl dX0_run_435 3 rfl ?_
          refine u_iload X hl dX0_run_436 0 rfl ?_
          obtain ⟨w438, zc438, hc438, h⟩ := ob2_inv h
          refine u_callSi X hP hS hl dX0_run_438 (ihr hc438) cw_X0_39 rfl rfl rfl rfl ⟨Nat.ble_eq_true_of_le (by omega), Nat.ble_eq_true_of_le (by omega)⟩ (fun H locs hP hS => ?_)
          refine u_aload_n X hl dX0_run_441 1 rfl ?_
          refine gf_X0_22_32 X hP dX0_run_442 ?_
          refine u_isub X dX0_run_445 ?_
          exact u_iretM X hr hret h hP hS dX0_run_446
        rw [if_neg hc10] at h
        by_cases hc11 : a0 = 60
        · rw [if_pos hc11] at h
          refine u_tsw 447 X dX0_run_26 (v := 60) (by rw [hc11]; rfl) (by decide) ?_
          refine u_aload_n X hl dX0_run_447 1 rfl ?_
          refine u_iconst (v := 0) X dX0_run_448 rfl ?_
          refine u_iconst (v := 3) X dX0_run_449 rfl ?_
          obtain ⟨w450, hc450, h⟩ := ob_inv h
          refine u_callSi X hP hS hl dX0_run_450 (cActs_bodyOf l zc17 hc450) cw_X0_35 rfl rfl rfl rfl ⟨Nat.ble_eq_true_of_le (by omega), Nat.ble_eq_true_of_le (by omega)⟩ (fun H locs hP hS => ?_)
          refine u_iload_n X hl dX0_run_453 3 rfl ?_
          refine u_iload X hl dX0_run_454 0 rfl ?_
          obtain ⟨w456, zc456, hc456, h⟩ := ob2_inv h
          refine u_callSi X hP hS hl dX0_run_456 (ihr hc456) cw_X0_39 rfl rfl rfl rfl ⟨Nat.ble_eq_true_of_le (by omega), Nat.ble_eq_true_of_le (by omega)⟩ (fun H locs hP hS => ?_)
          refine u_iconst (v := 2) X dX0_run_459 rfl ?_
          refine u_imul X dX0_run_460 ?_
          exact u_iretM X hr hret h hP hS dX0_run_461
        rw [if_neg hc11] at h
        by_cases hc12 : a0 = 61
        · rw [if_pos hc12] at h
          refine u_tsw 462 X dX0_run_26 (v := 61) (by rw [hc12]; rfl) (by decide) ?_
          refine u_aload_n X hl dX0_run_462 1 rfl ?_
          refine u_iconst (v := 0) X dX0_run_463 rfl ?_
          refine u_iconst (v := 2) X dX0_run_464 rfl ?_
          obtain ⟨w465, hc465, h⟩ := ob_inv h
          refine u_callSi X hP hS hl dX0_run_465 (cActs_bodyOf l zc17 hc465) cw_X0_35 rfl rfl rfl rfl ⟨Nat.ble_eq_true_of_le (by omega), Nat.ble_eq_true_of_le (by omega)⟩ (fun H locs hP hS => ?_)
          refine u_iload_n X hl dX0_run_468 3 rfl ?_
          refine u_iload X hl dX0_run_469 0 rfl ?_
          obtain ⟨w471, zc471, hc471, h⟩ := ob2_inv h
          refine u_callSi X hP hS hl dX0_run_471 (ihr hc471) cw_X0_39 rfl rfl rfl rfl ⟨Nat.ble_eq_true_of_le (by omega), Nat.ble_eq_true_of_le (by omega)⟩ (fun H locs hP hS => ?_)
          refine u_aload_n X hl dX0_run_474 1 rfl ?_
          refine u_aload_n X hl dX0_run_475 1 rfl ?_
          refine gf_X0_19_32 X hP dX0_run_476 ?_
          refine u_iconst (v := 0) X dX0_run_479 rfl ?_
          obtain ⟨w480, hc480, h⟩ := ob_inv h
          refine u_callSi X hP hS hl dX0_run_480 (cActs_bodyOf l zc471 hc480) cw_X0_35 rfl rfl rfl rfl ⟨Nat.ble_eq_true_of_le (by omega), Nat.ble_eq_true_of_le (by omega)⟩ (fun H locs hP hS => ?_)
          refine u_aload_n X hl dX0_run_483 1 rfl ?_
          refine gf_X0_25_32 X hP dX0_run_484 ?_
          refine u_iload X hl dX0_run_487 0 rfl ?_
          obtain ⟨w489, zc489, hc489, h⟩ := ob2_inv h
          refine u_callSi X hP hS hl dX0_run_489 (ihr hc489) cw_X0_39 rfl rfl rfl rfl ⟨Nat.ble_eq_true_of_le (by omega), Nat.ble_eq_true_of_le (by omega)⟩ (fun H locs hP hS => ?_)
          refine u_iadd X dX0_run_492 ?_
          exact u_iretM X hr hret h hP hS dX0_run_493
        rw [if_neg hc12] at h
        refine u_tswD 494 X dX0_run_26 rfl (vs := [10, 11, 12, 13, 20, 30, 31, 40, 41, 50, 51, 60, 61]) (List.forall_mem_cons.mpr ⟨fun q9 => hc0 (Int32.toInt_inj.mp q9), (List.forall_mem_cons.mpr ⟨fun q9 => hc1 (Int32.toInt_inj.mp q9), (List.forall_mem_cons.mpr ⟨fun q9 => hc2 (Int32.toInt_inj.mp q9), (List.forall_mem_cons.mpr ⟨fun q9 => hc3 (Int32.toInt_inj.mp q9), (List.forall_mem_cons.mpr ⟨fun q9 => hc4 (Int32.toInt_inj.mp q9), (List.forall_mem_cons.mpr ⟨fun q9 => hc5 (Int32.toInt_inj.mp q9), (List.forall_mem_cons.mpr ⟨fun q9 => hc6 (Int32.toInt_inj.mp q9), (List.forall_mem_cons.mpr ⟨fun q9 => hc7 (Int32.toInt_inj.mp q9), (List.forall_mem_cons.mpr ⟨fun q9 => hc8 (Int32.toInt_inj.mp q9), (List.forall_mem_cons.mpr ⟨fun q9 => hc9 (Int32.toInt_inj.mp q9), (List.forall_mem_cons.mpr ⟨fun q9 => hc10 (Int32.toInt_inj.mp q9), (List.forall_mem_cons.mpr ⟨fun q9 => hc11 (Int32.toInt_inj.mp q9), (List.forall_mem_cons.mpr ⟨fun q9 => hc12 (Int32.toInt_inj.mp q9), (fun _ h9 => by cases h9)⟩)⟩)⟩)⟩)⟩)⟩)⟩)⟩)⟩)⟩)⟩)⟩)⟩) (by decide) ?_
        refine u_iconst (v := 0) X dX0_run_494 rfl ?_
        exact u_iretM X hr hret h hP hS dX0_run_495
      · rw [if_neg hc] at h
        refine u_iconst (v := 0) X dX0_run_13 rfl ?_
        exact u_iretM X hr hret h hP hS dX0_run_14
def fActs_perform (z : MS) (a0 : Int32) (a1 : Int32) (a2 : Int32) (a3 : Int32) (a4 : Int32) : Option (Int32 × MS) :=
  Option.bind (fActs_bodyOf a0 a3) (fun w24 => ob2 (fActs_run 45 (pI (pI (pI (pI z 32 2 a0) 32 3 a1) 32 4 a2) 32 5 0) w24 a4 0) (fun w30 zc30 => if (gI zc30 32 5) = 0 then some (w30, zc30) else some ((-15), zc30)))
set_option maxRecDepth 4000 in
theorem cActs_perform (l : Launch) {z : MS} {a0 : Int32} {a1 : Int32} {a2 : Int32} {a3 : Int32} {a4 : Int32} {r : Int32} {z1 : MS} (h : fActs_perform z a0 a1 a2 a3 a4 = some (r, z1)) : CT l yX0_perform cX0_perform 7 (some .int) 47 1127 (fun ad sd => [.ref (ad 32), .int a0, .int a1, .int a2, .int a3, .int a4]) z (some (.int r)) z1 := by
  rw [fActs_perform] at h
  refine u_start RX0 rfl (by decide) (fun _ _ => Nat.le_of_ble_eq_true rfl) (fun p e s m args below meth c R D ad cs sd A Q ls X hP hS hl hr hret => ?_)
  have hl : lv_has ls 7 [(0, .ref (ad 32)), (1, .int a0), (2, .int a1), (3, .int a2), (4, .int a3), (5, .int a4)] := hl
  refine u_aload_n X hl dX0_perform_0 0 rfl ?_
  refine u_iload_n X hl dX0_perform_1 1 rfl ?_
  refine pf_X0_19_32 X hP hS dX0_perform_2 (fun H locs hP hS => ?_)
  refine u_aload_n X hl dX0_perform_5 0 rfl ?_
  refine u_iload_n X hl dX0_perform_6 2 rfl ?_
  refine pf_X0_22_32 X hP hS dX0_perform_7 (fun H locs hP hS => ?_)
  refine u_aload_n X hl dX0_perform_10 0 rfl ?_
  refine u_iload_n X hl dX0_perform_11 3 rfl ?_
  refine pf_X0_25_32 X hP hS dX0_perform_12 (fun H locs hP hS => ?_)
  refine u_aload_n X hl dX0_perform_15 0 rfl ?_
  refine u_iconst (v := 0) X dX0_perform_16 rfl ?_
  refine pf_X0_28_32 X hP hS (Or.inl rfl) dX0_perform_17 (fun H locs hP hS => ?_)
  refine u_aload_n X hl dX0_perform_20 0 rfl ?_
  refine u_iload_n X hl dX0_perform_21 1 rfl ?_
  refine u_iload X hl dX0_perform_22 4 rfl ?_
  obtain ⟨w24, hc24, h⟩ := ob_inv h
  refine u_callSi X hP hS hl dX0_perform_24 (cActs_bodyOf l (pI (pI (pI (pI z 32 2 a0) 32 3 a1) 32 4 a2) 32 5 0) hc24) cw_X0_35 rfl rfl rfl rfl ⟨rfl, rfl⟩ (fun H locs hP hS => ?_)
  refine u_iload X hl dX0_perform_27 5 rfl ?_
  refine u_iconst (v := 0) X dX0_perform_29 rfl ?_
  obtain ⟨w30, zc30, hc30, h⟩ := ob2_inv h
  refine u_callSi X hP hS hl dX0_perform_30 (cActs_run l 45 hc30) cw_X0_39 rfl rfl rfl rfl ⟨rfl, rfl⟩ (fun H locs hP hS => ?_)
  refine u_istore [(6, .int w30), (0, .ref (ad 32)), (1, .int a0), (2, .int a1), (3, .int a2), (4, .int a3), (5, .int a4)] X hl dX0_perform_33 (Nat.le_of_ble_eq_true rfl) rfl (fun ls hl => ?_)
  refine u_aload_n X hl dX0_perform_35 1 rfl ?_
  refine gf_X0_28_32 X hP dX0_perform_36 ?_
  refine u_if_eq 47 X dX0_perform_39 rfl (fun hc => ?_) (fun hc => ?_)
  · rw [if_pos hc] at h
    refine u_iload X hl dX0_perform_47 0 rfl ?_
    exact u_iretM X hr hret h hP hS dX0_perform_49
  · rw [if_neg hc] at h
    refine u_bipush (v := (-15)) X dX0_perform_42 rfl ?_
    refine u_goto 49 X dX0_perform_44 rfl ?_
    exact u_iretM X hr hret h hP hS dX0_perform_49
def fPlans52_become_26 (z : MS) : Option MS :=
  some (pI (pI (cI (cI z 53 27 4) 54 28 4) 52 3 (gI (cI (cI z 53 27 4) 54 28 4) 26 3)) 52 4 (gI (pI (cI (cI z 53 27 4) 54 28 4) 52 3 (gI (cI (cI z 53 27 4) 54 28 4) 26 3)) 26 4))
set_option maxRecDepth 4000 in
theorem cPlans52_become_26 (l : Launch) {z : MS} {z1 : MS} (h : fPlans52_become_26 z = some z1) : CT l yX5_become cX5_become 2 none 1 26 (fun ad sd => [.ref (ad 52), .ref (ad 26)]) z none z1 := by
  rw [fPlans52_become_26] at h
  refine u_start RX5 rfl (by decide) (fun _ _ => Nat.le_of_ble_eq_true rfl) (fun p e s m args below meth c R D ad cs sd A Q ls X hP hS hl hr hret => ?_)
  have hl : lv_has ls 2 [(0, .ref (ad 52)), (1, .ref (ad 26))] := hl
  refine u_aload_n X hl dX5_become_0 1 rfl ?_
  refine gf_X5_11_26 X hP dX5_become_1 ?_
  refine u_iconst (v := 0) X dX5_become_4 rfl ?_
  refine u_aload_n X hl dX5_become_5 0 rfl ?_
  refine gf_X5_11_52 X hP dX5_become_6 ?_
  refine u_iconst (v := 0) X dX5_become_9 rfl ?_
  refine u_iconst (v := 4) X dX5_become_10 rfl ?_
  refine cp_X5_28 (i0 := 27) (i1 := 53) (cI z 53 27 4) X hP hS hl dX5_become_11 rfl rfl (by decide) rfl rfl rfl (ax_53 _ _ _ _) rfl ⟨rfl, rfl⟩ (fun H locs hP hS => ?_)
  refine u_aload_n X hl dX5_become_14 1 rfl ?_
  refine gf_X5_15_26 X hP dX5_become_15 ?_
  refine u_iconst (v := 0) X dX5_become_18 rfl ?_
  refine u_aload_n X hl dX5_become_19 0 rfl ?_
  refine gf_X5_15_52 X hP dX5_become_20 ?_
  refine u_iconst (v := 0) X dX5_become_23 rfl ?_
  refine u_iconst (v := 4) X dX5_become_24 rfl ?_
  refine cp_X5_28 (i0 := 28) (i1 := 54) (cI (cI z 53 27 4) 54 28 4) X hP hS hl dX5_become_25 rfl rfl (by decide) rfl rfl rfl (ax_54 _ _ _ _) rfl ⟨rfl, rfl⟩ (fun H locs hP hS => ?_)
  refine u_aload_n X hl dX5_become_28 0 rfl ?_
  refine u_aload_n X hl dX5_become_29 1 rfl ?_
  refine gf_X5_21_26 X hP dX5_become_30 ?_
  refine pf_X5_21_52 X hP hS dX5_become_33 (fun H locs hP hS => ?_)
  refine u_aload_n X hl dX5_become_36 0 rfl ?_
  refine u_aload_n X hl dX5_become_37 1 rfl ?_
  refine gf_X5_25_26 X hP dX5_become_38 ?_
  refine pf_X5_25_52 X hP hS dX5_become_41 (fun H locs hP hS => ?_)
  exact u_vretM X hr hret h hP hS dX5_become_44
def fPlans_become_52 (z : MS) : Option MS :=
  some (pI (pI (cI (cI z 27 53 4) 28 54 4) 26 3 (gI (cI (cI z 27 53 4) 28 54 4) 52 3)) 26 4 (gI (pI (cI (cI z 27 53 4) 28 54 4) 26 3 (gI (cI (cI z 27 53 4) 28 54 4) 52 3)) 52 4))
set_option maxRecDepth 4000 in
theorem cPlans_become_52 (l : Launch) {z : MS} {z1 : MS} (h : fPlans_become_52 z = some z1) : CT l yX5_become cX5_become 2 none 1 26 (fun ad sd => [.ref (ad 26), .ref (ad 52)]) z none z1 := by
  rw [fPlans_become_52] at h
  refine u_start RX5 rfl (by decide) (fun _ _ => Nat.le_of_ble_eq_true rfl) (fun p e s m args below meth c R D ad cs sd A Q ls X hP hS hl hr hret => ?_)
  have hl : lv_has ls 2 [(0, .ref (ad 26)), (1, .ref (ad 52))] := hl
  refine u_aload_n X hl dX5_become_0 1 rfl ?_
  refine gf_X5_11_52 X hP dX5_become_1 ?_
  refine u_iconst (v := 0) X dX5_become_4 rfl ?_
  refine u_aload_n X hl dX5_become_5 0 rfl ?_
  refine gf_X5_11_26 X hP dX5_become_6 ?_
  refine u_iconst (v := 0) X dX5_become_9 rfl ?_
  refine u_iconst (v := 4) X dX5_become_10 rfl ?_
  refine cp_X5_28 (i0 := 53) (i1 := 27) (cI z 27 53 4) X hP hS hl dX5_become_11 rfl rfl (by decide) rfl rfl rfl (ax_27 _ _ _ _) rfl ⟨rfl, rfl⟩ (fun H locs hP hS => ?_)
  refine u_aload_n X hl dX5_become_14 1 rfl ?_
  refine gf_X5_15_52 X hP dX5_become_15 ?_
  refine u_iconst (v := 0) X dX5_become_18 rfl ?_
  refine u_aload_n X hl dX5_become_19 0 rfl ?_
  refine gf_X5_15_26 X hP dX5_become_20 ?_
  refine u_iconst (v := 0) X dX5_become_23 rfl ?_
  refine u_iconst (v := 4) X dX5_become_24 rfl ?_
  refine cp_X5_28 (i0 := 54) (i1 := 28) (cI (cI z 27 53 4) 28 54 4) X hP hS hl dX5_become_25 rfl rfl (by decide) rfl rfl rfl (ax_28 _ _ _ _) rfl ⟨rfl, rfl⟩ (fun H locs hP hS => ?_)
  refine u_aload_n X hl dX5_become_28 0 rfl ?_
  refine u_aload_n X hl dX5_become_29 1 rfl ?_
  refine gf_X5_21_52 X hP dX5_become_30 ?_
  refine pf_X5_21_26 X hP hS dX5_become_33 (fun H locs hP hS => ?_)
  refine u_aload_n X hl dX5_become_36 0 rfl ?_
  refine u_aload_n X hl dX5_become_37 1 rfl ?_
  refine gf_X5_25_52 X hP dX5_become_38 ?_
  refine pf_X5_25_26 X hP hS dX5_become_41 (fun H locs hP hS => ?_)
  exact u_vretM X hr hret h hP hS dX5_become_44
