theorem dL_law_0 : decode cL_law 0 = .ok (.new 7, 3) := by decide +kernel
theorem dL_law_3 : decode cL_law 3 = .ok (.dup, 1) := by decide +kernel
theorem dL_law_4 : decode cL_law 4 = .ok (.invokespecial 9, 3) := by decide +kernel
theorem dL_law_7 : decode cL_law 7 = .ok (.astore_n 1, 1) := by decide +kernel
theorem dL_law_8 : decode cL_law 8 = .ok (.new 10, 3) := by decide +kernel
theorem dL_law_11 : decode cL_law 11 = .ok (.dup, 1) := by decide +kernel
theorem dL_law_12 : decode cL_law 12 = .ok (.invokespecial 12, 3) := by decide +kernel
theorem dL_law_15 : decode cL_law 15 = .ok (.astore_n 2, 1) := by decide +kernel
theorem dL_law_16 : decode cL_law 16 = .ok (.iconst 0, 1) := by decide +kernel
theorem dL_law_17 : decode cL_law 17 = .ok (.istore_n 3, 1) := by decide +kernel
theorem dL_law_18 : decode cL_law 18 = .ok (.iload_n 3, 1) := by decide +kernel
theorem dL_law_19 : decode cL_law 19 = .ok (.aload_n 0, 1) := by decide +kernel
theorem dL_law_20 : decode cL_law 20 = .ok (.arraylength, 1) := by decide +kernel
theorem dL_law_21 : decode cL_law 21 = .ok (.iconst 4, 1) := by decide +kernel
theorem dL_law_22 : decode cL_law 22 = .ok (.isub, 1) := by decide +kernel
theorem dL_law_23 : decode cL_law 23 = .ok (.if_icmp .gt 1609, 3) := by decide +kernel
theorem dL_law_26 : decode cL_law 26 = .ok (.aload_n 0, 1) := by decide +kernel
theorem dL_law_27 : decode cL_law 27 = .ok (.iload_n 3, 1) := by decide +kernel
theorem dL_law_28 : decode cL_law 28 = .ok (.iaload, 1) := by decide +kernel
theorem dL_law_29 : decode cL_law 29 = .ok (.bipush 63, 2) := by decide +kernel
theorem dL_law_31 : decode cL_law 31 = .ok (.iand, 1) := by decide +kernel
theorem dL_law_32 : decode cL_law 32 = .ok (.tableswitch 1594 0 43 #[192, 255, 268, 281, 340, 383, 442, 475, 498, 541, 574, 623, 656, 699, 722, 745, 758, 802, 815, 828, 851, 884, 917, 961, 994, 1017, 1050, 1083, 1116, 1139, 1152, 1185, 1228, 1241, 1284, 1327, 1370, 1413, 1446, 1489, 1512, 1545, 1568, 1581], 192) := by decide +kernel
theorem dL_law_224 : decode cL_law 224 = .ok (.aload_n 1, 1) := by decide +kernel
theorem dL_law_225 : decode cL_law 225 = .ok (.aload_n 0, 1) := by decide +kernel
theorem dL_law_226 : decode cL_law 226 = .ok (.iload_n 3, 1) := by decide +kernel
theorem dL_law_227 : decode cL_law 227 = .ok (.iconst 1, 1) := by decide +kernel
theorem dL_law_228 : decode cL_law 228 = .ok (.iadd, 1) := by decide +kernel
theorem dL_law_229 : decode cL_law 229 = .ok (.iaload, 1) := by decide +kernel
theorem dL_law_230 : decode cL_law 230 = .ok (.i2l, 1) := by decide +kernel
theorem dL_law_231 : decode cL_law 231 = .ok (.bipush 32, 2) := by decide +kernel
theorem dL_law_233 : decode cL_law 233 = .ok (.lshl, 1) := by decide +kernel
theorem dL_law_234 : decode cL_law 234 = .ok (.aload_n 0, 1) := by decide +kernel
theorem dL_law_235 : decode cL_law 235 = .ok (.iload_n 3, 1) := by decide +kernel
theorem dL_law_236 : decode cL_law 236 = .ok (.iconst 2, 1) := by decide +kernel
theorem dL_law_237 : decode cL_law 237 = .ok (.iadd, 1) := by decide +kernel
theorem dL_law_238 : decode cL_law 238 = .ok (.iaload, 1) := by decide +kernel
theorem dL_law_239 : decode cL_law 239 = .ok (.i2l, 1) := by decide +kernel
theorem dL_law_240 : decode cL_law 240 = .ok (.ldc2_w 13, 3) := by decide +kernel
theorem dL_law_243 : decode cL_law 243 = .ok (.land, 1) := by decide +kernel
theorem dL_law_244 : decode cL_law 244 = .ok (.lor, 1) := by decide +kernel
theorem dL_law_245 : decode cL_law 245 = .ok (.aload_n 0, 1) := by decide +kernel
theorem dL_law_246 : decode cL_law 246 = .ok (.iload_n 3, 1) := by decide +kernel
theorem dL_law_247 : decode cL_law 247 = .ok (.iconst 3, 1) := by decide +kernel
theorem dL_law_248 : decode cL_law 248 = .ok (.iadd, 1) := by decide +kernel
theorem dL_law_249 : decode cL_law 249 = .ok (.iaload, 1) := by decide +kernel
theorem dL_law_250 : decode cL_law 250 = .ok (.invokevirtual 15, 3) := by decide +kernel
theorem dL_law_253 : decode cL_law 253 = .ok (.aload_n 2, 1) := by decide +kernel
theorem dL_law_254 : decode cL_law 254 = .ok (.aload_n 0, 1) := by decide +kernel
theorem dL_law_255 : decode cL_law 255 = .ok (.iload_n 3, 1) := by decide +kernel
theorem dL_law_256 : decode cL_law 256 = .ok (.iconst 1, 1) := by decide +kernel
theorem dL_law_257 : decode cL_law 257 = .ok (.iadd, 1) := by decide +kernel
theorem dL_law_258 : decode cL_law 258 = .ok (.iaload, 1) := by decide +kernel
theorem dL_law_259 : decode cL_law 259 = .ok (.i2l, 1) := by decide +kernel
theorem dL_law_260 : decode cL_law 260 = .ok (.bipush 32, 2) := by decide +kernel
theorem dL_law_262 : decode cL_law 262 = .ok (.lshl, 1) := by decide +kernel
theorem dL_law_263 : decode cL_law 263 = .ok (.aload_n 0, 1) := by decide +kernel
theorem dL_law_264 : decode cL_law 264 = .ok (.iload_n 3, 1) := by decide +kernel
theorem dL_law_265 : decode cL_law 265 = .ok (.iconst 2, 1) := by decide +kernel
theorem dL_law_266 : decode cL_law 266 = .ok (.iadd, 1) := by decide +kernel
theorem dL_law_267 : decode cL_law 267 = .ok (.iaload, 1) := by decide +kernel
theorem dL_law_268 : decode cL_law 268 = .ok (.i2l, 1) := by decide +kernel
theorem dL_law_269 : decode cL_law 269 = .ok (.ldc2_w 13, 3) := by decide +kernel
theorem dL_law_272 : decode cL_law 272 = .ok (.land, 1) := by decide +kernel
theorem dL_law_273 : decode cL_law 273 = .ok (.lor, 1) := by decide +kernel
theorem dL_law_274 : decode cL_law 274 = .ok (.aload_n 0, 1) := by decide +kernel
theorem dL_law_275 : decode cL_law 275 = .ok (.iload_n 3, 1) := by decide +kernel
theorem dL_law_276 : decode cL_law 276 = .ok (.iconst 3, 1) := by decide +kernel
theorem dL_law_277 : decode cL_law 277 = .ok (.iadd, 1) := by decide +kernel
theorem dL_law_278 : decode cL_law 278 = .ok (.iaload, 1) := by decide +kernel
theorem dL_law_279 : decode cL_law 279 = .ok (.invokevirtual 19, 3) := by decide +kernel
theorem dL_law_282 : decode cL_law 282 = .ok (.if_icmp .eq 1344, 3) := by decide +kernel
theorem dL_law_285 : decode cL_law 285 = .ok (.iconst 0, 1) := by decide +kernel
theorem dL_law_286 : decode cL_law 286 = .ok (.ireturn, 1) := by decide +kernel
theorem dL_law_287 : decode cL_law 287 = .ok (.aload_n 1, 1) := by decide +kernel
theorem dL_law_288 : decode cL_law 288 = .ok (.invokevirtual 20, 3) := by decide +kernel
theorem dL_law_291 : decode cL_law 291 = .ok (.aload_n 2, 1) := by decide +kernel
theorem dL_law_292 : decode cL_law 292 = .ok (.invokevirtual 24, 3) := by decide +kernel
theorem dL_law_295 : decode cL_law 295 = .ok (.if_icmp .eq 1331, 3) := by decide +kernel
theorem dL_law_298 : decode cL_law 298 = .ok (.iconst 0, 1) := by decide +kernel
theorem dL_law_299 : decode cL_law 299 = .ok (.ireturn, 1) := by decide +kernel
theorem dL_law_300 : decode cL_law 300 = .ok (.aload_n 1, 1) := by decide +kernel
theorem dL_law_301 : decode cL_law 301 = .ok (.invokevirtual 25, 3) := by decide +kernel
theorem dL_law_304 : decode cL_law 304 = .ok (.aload_n 2, 1) := by decide +kernel
theorem dL_law_305 : decode cL_law 305 = .ok (.invokevirtual 28, 3) := by decide +kernel
theorem dL_law_308 : decode cL_law 308 = .ok (.if_icmp .eq 1318, 3) := by decide +kernel
theorem dL_law_311 : decode cL_law 311 = .ok (.iconst 0, 1) := by decide +kernel
theorem dL_law_312 : decode cL_law 312 = .ok (.ireturn, 1) := by decide +kernel
theorem dL_law_313 : decode cL_law 313 = .ok (.aload_n 1, 1) := by decide +kernel
theorem dL_law_314 : decode cL_law 314 = .ok (.aload_n 0, 1) := by decide +kernel
theorem dL_law_315 : decode cL_law 315 = .ok (.iload_n 3, 1) := by decide +kernel
theorem dL_law_316 : decode cL_law 316 = .ok (.iconst 1, 1) := by decide +kernel
theorem dL_law_317 : decode cL_law 317 = .ok (.iadd, 1) := by decide +kernel
theorem dL_law_318 : decode cL_law 318 = .ok (.iaload, 1) := by decide +kernel
theorem dL_law_319 : decode cL_law 319 = .ok (.aload_n 0, 1) := by decide +kernel
theorem dL_law_320 : decode cL_law 320 = .ok (.iload_n 3, 1) := by decide +kernel
theorem dL_law_321 : decode cL_law 321 = .ok (.iconst 2, 1) := by decide +kernel
theorem dL_law_322 : decode cL_law 322 = .ok (.iadd, 1) := by decide +kernel
theorem dL_law_323 : decode cL_law 323 = .ok (.iaload, 1) := by decide +kernel
theorem dL_law_324 : decode cL_law 324 = .ok (.aload_n 0, 1) := by decide +kernel
theorem dL_law_325 : decode cL_law 325 = .ok (.iload_n 3, 1) := by decide +kernel
theorem dL_law_326 : decode cL_law 326 = .ok (.iconst 3, 1) := by decide +kernel
theorem dL_law_327 : decode cL_law 327 = .ok (.iadd, 1) := by decide +kernel
theorem dL_law_328 : decode cL_law 328 = .ok (.iaload, 1) := by decide +kernel
theorem dL_law_329 : decode cL_law 329 = .ok (.ifCond .eq 7, 3) := by decide +kernel
theorem dL_law_332 : decode cL_law 332 = .ok (.iconst 1, 1) := by decide +kernel
theorem dL_law_333 : decode cL_law 333 = .ok (.goto 4, 3) := by decide +kernel
theorem dL_law_336 : decode cL_law 336 = .ok (.iconst 0, 1) := by decide +kernel
theorem dL_law_337 : decode cL_law 337 = .ok (.invokevirtual 29, 3) := by decide +kernel
theorem dL_law_340 : decode cL_law 340 = .ok (.aload_n 2, 1) := by decide +kernel
theorem dL_law_341 : decode cL_law 341 = .ok (.aload_n 0, 1) := by decide +kernel
theorem dL_law_342 : decode cL_law 342 = .ok (.iload_n 3, 1) := by decide +kernel
theorem dL_law_343 : decode cL_law 343 = .ok (.iconst 1, 1) := by decide +kernel
theorem dL_law_344 : decode cL_law 344 = .ok (.iadd, 1) := by decide +kernel
theorem dL_law_345 : decode cL_law 345 = .ok (.iaload, 1) := by decide +kernel
theorem dL_law_346 : decode cL_law 346 = .ok (.aload_n 0, 1) := by decide +kernel
theorem dL_law_347 : decode cL_law 347 = .ok (.iload_n 3, 1) := by decide +kernel
theorem dL_law_348 : decode cL_law 348 = .ok (.iconst 2, 1) := by decide +kernel
theorem dL_law_349 : decode cL_law 349 = .ok (.iadd, 1) := by decide +kernel
theorem dL_law_350 : decode cL_law 350 = .ok (.iaload, 1) := by decide +kernel
theorem dL_law_351 : decode cL_law 351 = .ok (.aload_n 0, 1) := by decide +kernel
theorem dL_law_352 : decode cL_law 352 = .ok (.iload_n 3, 1) := by decide +kernel
theorem dL_law_353 : decode cL_law 353 = .ok (.iconst 3, 1) := by decide +kernel
theorem dL_law_354 : decode cL_law 354 = .ok (.iadd, 1) := by decide +kernel
theorem dL_law_355 : decode cL_law 355 = .ok (.iaload, 1) := by decide +kernel
theorem dL_law_356 : decode cL_law 356 = .ok (.ifCond .eq 7, 3) := by decide +kernel
theorem dL_law_359 : decode cL_law 359 = .ok (.iconst 1, 1) := by decide +kernel
theorem dL_law_360 : decode cL_law 360 = .ok (.goto 4, 3) := by decide +kernel
theorem dL_law_363 : decode cL_law 363 = .ok (.iconst 0, 1) := by decide +kernel
theorem dL_law_364 : decode cL_law 364 = .ok (.invokevirtual 33, 3) := by decide +kernel
theorem dL_law_367 : decode cL_law 367 = .ok (.if_icmp .eq 1259, 3) := by decide +kernel
theorem dL_law_370 : decode cL_law 370 = .ok (.iconst 0, 1) := by decide +kernel
theorem dL_law_371 : decode cL_law 371 = .ok (.ireturn, 1) := by decide +kernel
theorem dL_law_372 : decode cL_law 372 = .ok (.aload_n 1, 1) := by decide +kernel
theorem dL_law_373 : decode cL_law 373 = .ok (.aload_n 0, 1) := by decide +kernel
theorem dL_law_374 : decode cL_law 374 = .ok (.iload_n 3, 1) := by decide +kernel
theorem dL_law_375 : decode cL_law 375 = .ok (.iconst 1, 1) := by decide +kernel
theorem dL_law_376 : decode cL_law 376 = .ok (.iadd, 1) := by decide +kernel
theorem dL_law_377 : decode cL_law 377 = .ok (.iaload, 1) := by decide +kernel
theorem dL_law_378 : decode cL_law 378 = .ok (.aload_n 0, 1) := by decide +kernel
theorem dL_law_379 : decode cL_law 379 = .ok (.iload_n 3, 1) := by decide +kernel
theorem dL_law_380 : decode cL_law 380 = .ok (.iconst 2, 1) := by decide +kernel
theorem dL_law_381 : decode cL_law 381 = .ok (.iadd, 1) := by decide +kernel
theorem dL_law_382 : decode cL_law 382 = .ok (.iaload, 1) := by decide +kernel
theorem dL_law_383 : decode cL_law 383 = .ok (.aload_n 0, 1) := by decide +kernel
theorem dL_law_384 : decode cL_law 384 = .ok (.iload_n 3, 1) := by decide +kernel
theorem dL_law_385 : decode cL_law 385 = .ok (.iconst 3, 1) := by decide +kernel
theorem dL_law_386 : decode cL_law 386 = .ok (.iadd, 1) := by decide +kernel
theorem dL_law_387 : decode cL_law 387 = .ok (.iaload, 1) := by decide +kernel
theorem dL_law_388 : decode cL_law 388 = .ok (.invokevirtual 34, 3) := by decide +kernel
theorem dL_law_391 : decode cL_law 391 = .ok (.aload_n 2, 1) := by decide +kernel
theorem dL_law_392 : decode cL_law 392 = .ok (.aload_n 0, 1) := by decide +kernel
theorem dL_law_393 : decode cL_law 393 = .ok (.iload_n 3, 1) := by decide +kernel
theorem dL_law_394 : decode cL_law 394 = .ok (.iconst 1, 1) := by decide +kernel
theorem dL_law_395 : decode cL_law 395 = .ok (.iadd, 1) := by decide +kernel
theorem dL_law_396 : decode cL_law 396 = .ok (.iaload, 1) := by decide +kernel
theorem dL_law_397 : decode cL_law 397 = .ok (.aload_n 0, 1) := by decide +kernel
theorem dL_law_398 : decode cL_law 398 = .ok (.iload_n 3, 1) := by decide +kernel
theorem dL_law_399 : decode cL_law 399 = .ok (.iconst 2, 1) := by decide +kernel
theorem dL_law_400 : decode cL_law 400 = .ok (.iadd, 1) := by decide +kernel
theorem dL_law_401 : decode cL_law 401 = .ok (.iaload, 1) := by decide +kernel
theorem dL_law_402 : decode cL_law 402 = .ok (.aload_n 0, 1) := by decide +kernel
theorem dL_law_403 : decode cL_law 403 = .ok (.iload_n 3, 1) := by decide +kernel
theorem dL_law_404 : decode cL_law 404 = .ok (.iconst 3, 1) := by decide +kernel
theorem dL_law_405 : decode cL_law 405 = .ok (.iadd, 1) := by decide +kernel
theorem dL_law_406 : decode cL_law 406 = .ok (.iaload, 1) := by decide +kernel
theorem dL_law_407 : decode cL_law 407 = .ok (.invokevirtual 38, 3) := by decide +kernel
theorem dL_law_410 : decode cL_law 410 = .ok (.if_icmp .eq 1216, 3) := by decide +kernel
theorem dL_law_413 : decode cL_law 413 = .ok (.iconst 0, 1) := by decide +kernel
theorem dL_law_414 : decode cL_law 414 = .ok (.ireturn, 1) := by decide +kernel
theorem dL_law_415 : decode cL_law 415 = .ok (.aload_n 1, 1) := by decide +kernel
theorem dL_law_416 : decode cL_law 416 = .ok (.aload_n 0, 1) := by decide +kernel
theorem dL_law_417 : decode cL_law 417 = .ok (.iload_n 3, 1) := by decide +kernel
theorem dL_law_418 : decode cL_law 418 = .ok (.iconst 1, 1) := by decide +kernel
theorem dL_law_419 : decode cL_law 419 = .ok (.iadd, 1) := by decide +kernel
theorem dL_law_420 : decode cL_law 420 = .ok (.iaload, 1) := by decide +kernel
theorem dL_law_421 : decode cL_law 421 = .ok (.aload_n 0, 1) := by decide +kernel
theorem dL_law_422 : decode cL_law 422 = .ok (.iload_n 3, 1) := by decide +kernel
theorem dL_law_423 : decode cL_law 423 = .ok (.iconst 2, 1) := by decide +kernel
theorem dL_law_424 : decode cL_law 424 = .ok (.iadd, 1) := by decide +kernel
theorem dL_law_425 : decode cL_law 425 = .ok (.iaload, 1) := by decide +kernel
theorem dL_law_426 : decode cL_law 426 = .ok (.aload_n 0, 1) := by decide +kernel
theorem dL_law_427 : decode cL_law 427 = .ok (.iload_n 3, 1) := by decide +kernel
theorem dL_law_428 : decode cL_law 428 = .ok (.iconst 3, 1) := by decide +kernel
theorem dL_law_429 : decode cL_law 429 = .ok (.iadd, 1) := by decide +kernel
theorem dL_law_430 : decode cL_law 430 = .ok (.iaload, 1) := by decide +kernel
theorem dL_law_431 : decode cL_law 431 = .ok (.ifCond .eq 7, 3) := by decide +kernel
theorem dL_law_434 : decode cL_law 434 = .ok (.iconst 1, 1) := by decide +kernel
theorem dL_law_435 : decode cL_law 435 = .ok (.goto 4, 3) := by decide +kernel
theorem dL_law_438 : decode cL_law 438 = .ok (.iconst 0, 1) := by decide +kernel
theorem dL_law_439 : decode cL_law 439 = .ok (.invokevirtual 39, 3) := by decide +kernel
theorem dL_law_442 : decode cL_law 442 = .ok (.aload_n 2, 1) := by decide +kernel
theorem dL_law_443 : decode cL_law 443 = .ok (.aload_n 0, 1) := by decide +kernel
theorem dL_law_444 : decode cL_law 444 = .ok (.iload_n 3, 1) := by decide +kernel
theorem dL_law_445 : decode cL_law 445 = .ok (.iconst 1, 1) := by decide +kernel
theorem dL_law_446 : decode cL_law 446 = .ok (.iadd, 1) := by decide +kernel
theorem dL_law_447 : decode cL_law 447 = .ok (.iaload, 1) := by decide +kernel
theorem dL_law_448 : decode cL_law 448 = .ok (.aload_n 0, 1) := by decide +kernel
theorem dL_law_449 : decode cL_law 449 = .ok (.iload_n 3, 1) := by decide +kernel
theorem dL_law_450 : decode cL_law 450 = .ok (.iconst 2, 1) := by decide +kernel
theorem dL_law_451 : decode cL_law 451 = .ok (.iadd, 1) := by decide +kernel
theorem dL_law_452 : decode cL_law 452 = .ok (.iaload, 1) := by decide +kernel
theorem dL_law_453 : decode cL_law 453 = .ok (.aload_n 0, 1) := by decide +kernel
theorem dL_law_454 : decode cL_law 454 = .ok (.iload_n 3, 1) := by decide +kernel
theorem dL_law_455 : decode cL_law 455 = .ok (.iconst 3, 1) := by decide +kernel
theorem dL_law_456 : decode cL_law 456 = .ok (.iadd, 1) := by decide +kernel
theorem dL_law_457 : decode cL_law 457 = .ok (.iaload, 1) := by decide +kernel
theorem dL_law_458 : decode cL_law 458 = .ok (.ifCond .eq 7, 3) := by decide +kernel
theorem dL_law_461 : decode cL_law 461 = .ok (.iconst 1, 1) := by decide +kernel
theorem dL_law_462 : decode cL_law 462 = .ok (.goto 4, 3) := by decide +kernel
theorem dL_law_465 : decode cL_law 465 = .ok (.iconst 0, 1) := by decide +kernel
theorem dL_law_466 : decode cL_law 466 = .ok (.invokevirtual 42, 3) := by decide +kernel
theorem dL_law_469 : decode cL_law 469 = .ok (.if_icmp .eq 1157, 3) := by decide +kernel
theorem dL_law_472 : decode cL_law 472 = .ok (.iconst 0, 1) := by decide +kernel
theorem dL_law_473 : decode cL_law 473 = .ok (.ireturn, 1) := by decide +kernel
theorem dL_law_474 : decode cL_law 474 = .ok (.aload_n 1, 1) := by decide +kernel
theorem dL_law_475 : decode cL_law 475 = .ok (.aload_n 0, 1) := by decide +kernel
theorem dL_law_476 : decode cL_law 476 = .ok (.iload_n 3, 1) := by decide +kernel
theorem dL_law_477 : decode cL_law 477 = .ok (.iconst 1, 1) := by decide +kernel
theorem dL_law_478 : decode cL_law 478 = .ok (.iadd, 1) := by decide +kernel
theorem dL_law_479 : decode cL_law 479 = .ok (.iaload, 1) := by decide +kernel
theorem dL_law_480 : decode cL_law 480 = .ok (.aload_n 0, 1) := by decide +kernel
theorem dL_law_481 : decode cL_law 481 = .ok (.iload_n 3, 1) := by decide +kernel
theorem dL_law_482 : decode cL_law 482 = .ok (.iconst 2, 1) := by decide +kernel
theorem dL_law_483 : decode cL_law 483 = .ok (.iadd, 1) := by decide +kernel
theorem dL_law_484 : decode cL_law 484 = .ok (.iaload, 1) := by decide +kernel
theorem dL_law_485 : decode cL_law 485 = .ok (.invokevirtual 43, 3) := by decide +kernel
theorem dL_law_488 : decode cL_law 488 = .ok (.aload_n 2, 1) := by decide +kernel
theorem dL_law_489 : decode cL_law 489 = .ok (.aload_n 0, 1) := by decide +kernel
theorem dL_law_490 : decode cL_law 490 = .ok (.iload_n 3, 1) := by decide +kernel
theorem dL_law_491 : decode cL_law 491 = .ok (.iconst 1, 1) := by decide +kernel
theorem dL_law_492 : decode cL_law 492 = .ok (.iadd, 1) := by decide +kernel
theorem dL_law_493 : decode cL_law 493 = .ok (.iaload, 1) := by decide +kernel
theorem dL_law_494 : decode cL_law 494 = .ok (.aload_n 0, 1) := by decide +kernel
theorem dL_law_495 : decode cL_law 495 = .ok (.iload_n 3, 1) := by decide +kernel
theorem dL_law_496 : decode cL_law 496 = .ok (.iconst 2, 1) := by decide +kernel
theorem dL_law_497 : decode cL_law 497 = .ok (.iadd, 1) := by decide +kernel
theorem dL_law_498 : decode cL_law 498 = .ok (.iaload, 1) := by decide +kernel
theorem dL_law_499 : decode cL_law 499 = .ok (.invokevirtual 47, 3) := by decide +kernel
theorem dL_law_502 : decode cL_law 502 = .ok (.if_icmp .eq 1124, 3) := by decide +kernel
theorem dL_law_505 : decode cL_law 505 = .ok (.iconst 0, 1) := by decide +kernel
theorem dL_law_506 : decode cL_law 506 = .ok (.ireturn, 1) := by decide +kernel
theorem dL_law_507 : decode cL_law 507 = .ok (.aload_n 1, 1) := by decide +kernel
theorem dL_law_508 : decode cL_law 508 = .ok (.aload_n 0, 1) := by decide +kernel
theorem dL_law_509 : decode cL_law 509 = .ok (.iload_n 3, 1) := by decide +kernel
theorem dL_law_510 : decode cL_law 510 = .ok (.iconst 1, 1) := by decide +kernel
theorem dL_law_511 : decode cL_law 511 = .ok (.iadd, 1) := by decide +kernel
theorem dL_law_512 : decode cL_law 512 = .ok (.iaload, 1) := by decide +kernel
theorem dL_law_513 : decode cL_law 513 = .ok (.invokevirtual 48, 3) := by decide +kernel
theorem dL_law_516 : decode cL_law 516 = .ok (.aload_n 2, 1) := by decide +kernel
theorem dL_law_517 : decode cL_law 517 = .ok (.aload_n 0, 1) := by decide +kernel
theorem dL_law_518 : decode cL_law 518 = .ok (.iload_n 3, 1) := by decide +kernel
theorem dL_law_519 : decode cL_law 519 = .ok (.iconst 1, 1) := by decide +kernel
theorem dL_law_520 : decode cL_law 520 = .ok (.iadd, 1) := by decide +kernel
theorem dL_law_521 : decode cL_law 521 = .ok (.iaload, 1) := by decide +kernel
theorem dL_law_522 : decode cL_law 522 = .ok (.invokevirtual 52, 3) := by decide +kernel
theorem dL_law_525 : decode cL_law 525 = .ok (.if_icmp .eq 1101, 3) := by decide +kernel
theorem dL_law_528 : decode cL_law 528 = .ok (.iconst 0, 1) := by decide +kernel
theorem dL_law_529 : decode cL_law 529 = .ok (.ireturn, 1) := by decide +kernel
theorem dL_law_530 : decode cL_law 530 = .ok (.aload_n 1, 1) := by decide +kernel
theorem dL_law_531 : decode cL_law 531 = .ok (.aload_n 0, 1) := by decide +kernel
theorem dL_law_532 : decode cL_law 532 = .ok (.iload_n 3, 1) := by decide +kernel
theorem dL_law_533 : decode cL_law 533 = .ok (.iconst 1, 1) := by decide +kernel
theorem dL_law_534 : decode cL_law 534 = .ok (.iadd, 1) := by decide +kernel
theorem dL_law_535 : decode cL_law 535 = .ok (.iaload, 1) := by decide +kernel
theorem dL_law_536 : decode cL_law 536 = .ok (.aload_n 0, 1) := by decide +kernel
theorem dL_law_537 : decode cL_law 537 = .ok (.iload_n 3, 1) := by decide +kernel
theorem dL_law_538 : decode cL_law 538 = .ok (.iconst 2, 1) := by decide +kernel
theorem dL_law_539 : decode cL_law 539 = .ok (.iadd, 1) := by decide +kernel
theorem dL_law_540 : decode cL_law 540 = .ok (.iaload, 1) := by decide +kernel
theorem dL_law_541 : decode cL_law 541 = .ok (.aload_n 0, 1) := by decide +kernel
theorem dL_law_542 : decode cL_law 542 = .ok (.iload_n 3, 1) := by decide +kernel
theorem dL_law_543 : decode cL_law 543 = .ok (.iconst 3, 1) := by decide +kernel
theorem dL_law_544 : decode cL_law 544 = .ok (.iadd, 1) := by decide +kernel
theorem dL_law_545 : decode cL_law 545 = .ok (.iaload, 1) := by decide +kernel
theorem dL_law_546 : decode cL_law 546 = .ok (.invokevirtual 53, 3) := by decide +kernel
theorem dL_law_549 : decode cL_law 549 = .ok (.aload_n 2, 1) := by decide +kernel
theorem dL_law_550 : decode cL_law 550 = .ok (.aload_n 0, 1) := by decide +kernel
theorem dL_law_551 : decode cL_law 551 = .ok (.iload_n 3, 1) := by decide +kernel
theorem dL_law_552 : decode cL_law 552 = .ok (.iconst 1, 1) := by decide +kernel
theorem dL_law_553 : decode cL_law 553 = .ok (.iadd, 1) := by decide +kernel
theorem dL_law_554 : decode cL_law 554 = .ok (.iaload, 1) := by decide +kernel
theorem dL_law_555 : decode cL_law 555 = .ok (.aload_n 0, 1) := by decide +kernel
theorem dL_law_556 : decode cL_law 556 = .ok (.iload_n 3, 1) := by decide +kernel
theorem dL_law_557 : decode cL_law 557 = .ok (.iconst 2, 1) := by decide +kernel
theorem dL_law_558 : decode cL_law 558 = .ok (.iadd, 1) := by decide +kernel
theorem dL_law_559 : decode cL_law 559 = .ok (.iaload, 1) := by decide +kernel
theorem dL_law_560 : decode cL_law 560 = .ok (.aload_n 0, 1) := by decide +kernel
theorem dL_law_561 : decode cL_law 561 = .ok (.iload_n 3, 1) := by decide +kernel
theorem dL_law_562 : decode cL_law 562 = .ok (.iconst 3, 1) := by decide +kernel
theorem dL_law_563 : decode cL_law 563 = .ok (.iadd, 1) := by decide +kernel
theorem dL_law_564 : decode cL_law 564 = .ok (.iaload, 1) := by decide +kernel
theorem dL_law_565 : decode cL_law 565 = .ok (.invokevirtual 56, 3) := by decide +kernel
theorem dL_law_568 : decode cL_law 568 = .ok (.if_icmp .eq 1058, 3) := by decide +kernel
theorem dL_law_571 : decode cL_law 571 = .ok (.iconst 0, 1) := by decide +kernel
theorem dL_law_572 : decode cL_law 572 = .ok (.ireturn, 1) := by decide +kernel
theorem dL_law_573 : decode cL_law 573 = .ok (.aload_n 1, 1) := by decide +kernel
theorem dL_law_574 : decode cL_law 574 = .ok (.aload_n 0, 1) := by decide +kernel
theorem dL_law_575 : decode cL_law 575 = .ok (.iload_n 3, 1) := by decide +kernel
theorem dL_law_576 : decode cL_law 576 = .ok (.iconst 1, 1) := by decide +kernel
theorem dL_law_577 : decode cL_law 577 = .ok (.iadd, 1) := by decide +kernel
theorem dL_law_578 : decode cL_law 578 = .ok (.iaload, 1) := by decide +kernel
theorem dL_law_579 : decode cL_law 579 = .ok (.aload_n 0, 1) := by decide +kernel
theorem dL_law_580 : decode cL_law 580 = .ok (.iload_n 3, 1) := by decide +kernel
theorem dL_law_581 : decode cL_law 581 = .ok (.iconst 2, 1) := by decide +kernel
theorem dL_law_582 : decode cL_law 582 = .ok (.iadd, 1) := by decide +kernel
theorem dL_law_583 : decode cL_law 583 = .ok (.iaload, 1) := by decide +kernel
theorem dL_law_584 : decode cL_law 584 = .ok (.invokevirtual 57, 3) := by decide +kernel
theorem dL_law_587 : decode cL_law 587 = .ok (.aload_n 2, 1) := by decide +kernel
theorem dL_law_588 : decode cL_law 588 = .ok (.aload_n 0, 1) := by decide +kernel
theorem dL_law_589 : decode cL_law 589 = .ok (.iload_n 3, 1) := by decide +kernel
theorem dL_law_590 : decode cL_law 590 = .ok (.iconst 1, 1) := by decide +kernel
theorem dL_law_591 : decode cL_law 591 = .ok (.iadd, 1) := by decide +kernel
theorem dL_law_592 : decode cL_law 592 = .ok (.iaload, 1) := by decide +kernel
theorem dL_law_593 : decode cL_law 593 = .ok (.aload_n 0, 1) := by decide +kernel
theorem dL_law_594 : decode cL_law 594 = .ok (.iload_n 3, 1) := by decide +kernel
theorem dL_law_595 : decode cL_law 595 = .ok (.iconst 2, 1) := by decide +kernel
theorem dL_law_596 : decode cL_law 596 = .ok (.iadd, 1) := by decide +kernel
theorem dL_law_597 : decode cL_law 597 = .ok (.iaload, 1) := by decide +kernel
theorem dL_law_598 : decode cL_law 598 = .ok (.invokevirtual 60, 3) := by decide +kernel
theorem dL_law_601 : decode cL_law 601 = .ok (.if_icmp .eq 1025, 3) := by decide +kernel
theorem dL_law_604 : decode cL_law 604 = .ok (.iconst 0, 1) := by decide +kernel
theorem dL_law_605 : decode cL_law 605 = .ok (.ireturn, 1) := by decide +kernel
theorem dL_law_606 : decode cL_law 606 = .ok (.aload_n 1, 1) := by decide +kernel
theorem dL_law_607 : decode cL_law 607 = .ok (.aload_n 0, 1) := by decide +kernel
theorem dL_law_608 : decode cL_law 608 = .ok (.iload_n 3, 1) := by decide +kernel
theorem dL_law_609 : decode cL_law 609 = .ok (.iconst 1, 1) := by decide +kernel
theorem dL_law_610 : decode cL_law 610 = .ok (.iadd, 1) := by decide +kernel
theorem dL_law_611 : decode cL_law 611 = .ok (.iaload, 1) := by decide +kernel
theorem dL_law_612 : decode cL_law 612 = .ok (.aload_n 0, 1) := by decide +kernel
theorem dL_law_613 : decode cL_law 613 = .ok (.iload_n 3, 1) := by decide +kernel
theorem dL_law_614 : decode cL_law 614 = .ok (.iconst 2, 1) := by decide +kernel
theorem dL_law_615 : decode cL_law 615 = .ok (.iadd, 1) := by decide +kernel
theorem dL_law_616 : decode cL_law 616 = .ok (.iaload, 1) := by decide +kernel
theorem dL_law_617 : decode cL_law 617 = .ok (.ifCond .eq 7, 3) := by decide +kernel
theorem dL_law_620 : decode cL_law 620 = .ok (.iconst 1, 1) := by decide +kernel
theorem dL_law_621 : decode cL_law 621 = .ok (.goto 4, 3) := by decide +kernel
theorem dL_law_624 : decode cL_law 624 = .ok (.iconst 0, 1) := by decide +kernel
theorem dL_law_625 : decode cL_law 625 = .ok (.invokevirtual 61, 3) := by decide +kernel
theorem dL_law_628 : decode cL_law 628 = .ok (.aload_n 2, 1) := by decide +kernel
theorem dL_law_629 : decode cL_law 629 = .ok (.aload_n 0, 1) := by decide +kernel
theorem dL_law_630 : decode cL_law 630 = .ok (.iload_n 3, 1) := by decide +kernel
theorem dL_law_631 : decode cL_law 631 = .ok (.iconst 1, 1) := by decide +kernel
theorem dL_law_632 : decode cL_law 632 = .ok (.iadd, 1) := by decide +kernel
theorem dL_law_633 : decode cL_law 633 = .ok (.iaload, 1) := by decide +kernel
theorem dL_law_634 : decode cL_law 634 = .ok (.aload_n 0, 1) := by decide +kernel
theorem dL_law_635 : decode cL_law 635 = .ok (.iload_n 3, 1) := by decide +kernel
theorem dL_law_636 : decode cL_law 636 = .ok (.iconst 2, 1) := by decide +kernel
theorem dL_law_637 : decode cL_law 637 = .ok (.iadd, 1) := by decide +kernel
theorem dL_law_638 : decode cL_law 638 = .ok (.iaload, 1) := by decide +kernel
theorem dL_law_639 : decode cL_law 639 = .ok (.ifCond .eq 7, 3) := by decide +kernel
theorem dL_law_642 : decode cL_law 642 = .ok (.iconst 1, 1) := by decide +kernel
theorem dL_law_643 : decode cL_law 643 = .ok (.goto 4, 3) := by decide +kernel
theorem dL_law_646 : decode cL_law 646 = .ok (.iconst 0, 1) := by decide +kernel
theorem dL_law_647 : decode cL_law 647 = .ok (.invokevirtual 65, 3) := by decide +kernel
theorem dL_law_650 : decode cL_law 650 = .ok (.if_icmp .eq 976, 3) := by decide +kernel
theorem dL_law_653 : decode cL_law 653 = .ok (.iconst 0, 1) := by decide +kernel
theorem dL_law_654 : decode cL_law 654 = .ok (.ireturn, 1) := by decide +kernel
theorem dL_law_655 : decode cL_law 655 = .ok (.aload_n 1, 1) := by decide +kernel
theorem dL_law_656 : decode cL_law 656 = .ok (.aload_n 0, 1) := by decide +kernel
theorem dL_law_657 : decode cL_law 657 = .ok (.iload_n 3, 1) := by decide +kernel
theorem dL_law_658 : decode cL_law 658 = .ok (.iconst 1, 1) := by decide +kernel
theorem dL_law_659 : decode cL_law 659 = .ok (.iadd, 1) := by decide +kernel
theorem dL_law_660 : decode cL_law 660 = .ok (.iaload, 1) := by decide +kernel
theorem dL_law_661 : decode cL_law 661 = .ok (.aload_n 0, 1) := by decide +kernel
theorem dL_law_662 : decode cL_law 662 = .ok (.iload_n 3, 1) := by decide +kernel
theorem dL_law_663 : decode cL_law 663 = .ok (.iconst 2, 1) := by decide +kernel
theorem dL_law_664 : decode cL_law 664 = .ok (.iadd, 1) := by decide +kernel
theorem dL_law_665 : decode cL_law 665 = .ok (.iaload, 1) := by decide +kernel
theorem dL_law_666 : decode cL_law 666 = .ok (.invokevirtual 66, 3) := by decide +kernel
theorem dL_law_669 : decode cL_law 669 = .ok (.aload_n 2, 1) := by decide +kernel
theorem dL_law_670 : decode cL_law 670 = .ok (.aload_n 0, 1) := by decide +kernel
theorem dL_law_671 : decode cL_law 671 = .ok (.iload_n 3, 1) := by decide +kernel
theorem dL_law_672 : decode cL_law 672 = .ok (.iconst 1, 1) := by decide +kernel
theorem dL_law_673 : decode cL_law 673 = .ok (.iadd, 1) := by decide +kernel
theorem dL_law_674 : decode cL_law 674 = .ok (.iaload, 1) := by decide +kernel
theorem dL_law_675 : decode cL_law 675 = .ok (.aload_n 0, 1) := by decide +kernel
theorem dL_law_676 : decode cL_law 676 = .ok (.iload_n 3, 1) := by decide +kernel
theorem dL_law_677 : decode cL_law 677 = .ok (.iconst 2, 1) := by decide +kernel
theorem dL_law_678 : decode cL_law 678 = .ok (.iadd, 1) := by decide +kernel
theorem dL_law_679 : decode cL_law 679 = .ok (.iaload, 1) := by decide +kernel
theorem dL_law_680 : decode cL_law 680 = .ok (.invokevirtual 69, 3) := by decide +kernel
theorem dL_law_683 : decode cL_law 683 = .ok (.if_icmp .eq 943, 3) := by decide +kernel
theorem dL_law_686 : decode cL_law 686 = .ok (.iconst 0, 1) := by decide +kernel
theorem dL_law_687 : decode cL_law 687 = .ok (.ireturn, 1) := by decide +kernel
theorem dL_law_688 : decode cL_law 688 = .ok (.aload_n 1, 1) := by decide +kernel
theorem dL_law_689 : decode cL_law 689 = .ok (.aload_n 0, 1) := by decide +kernel
theorem dL_law_690 : decode cL_law 690 = .ok (.iload_n 3, 1) := by decide +kernel
theorem dL_law_691 : decode cL_law 691 = .ok (.iconst 1, 1) := by decide +kernel
theorem dL_law_692 : decode cL_law 692 = .ok (.iadd, 1) := by decide +kernel
theorem dL_law_693 : decode cL_law 693 = .ok (.iaload, 1) := by decide +kernel
theorem dL_law_694 : decode cL_law 694 = .ok (.aload_n 0, 1) := by decide +kernel
theorem dL_law_695 : decode cL_law 695 = .ok (.iload_n 3, 1) := by decide +kernel
theorem dL_law_696 : decode cL_law 696 = .ok (.iconst 2, 1) := by decide +kernel
theorem dL_law_697 : decode cL_law 697 = .ok (.iadd, 1) := by decide +kernel
theorem dL_law_698 : decode cL_law 698 = .ok (.iaload, 1) := by decide +kernel
theorem dL_law_699 : decode cL_law 699 = .ok (.aload_n 0, 1) := by decide +kernel
theorem dL_law_700 : decode cL_law 700 = .ok (.iload_n 3, 1) := by decide +kernel
theorem dL_law_701 : decode cL_law 701 = .ok (.iconst 3, 1) := by decide +kernel
theorem dL_law_702 : decode cL_law 702 = .ok (.iadd, 1) := by decide +kernel
theorem dL_law_703 : decode cL_law 703 = .ok (.iaload, 1) := by decide +kernel
theorem dL_law_704 : decode cL_law 704 = .ok (.invokevirtual 70, 3) := by decide +kernel
theorem dL_law_707 : decode cL_law 707 = .ok (.aload_n 2, 1) := by decide +kernel
theorem dL_law_708 : decode cL_law 708 = .ok (.aload_n 0, 1) := by decide +kernel
theorem dL_law_709 : decode cL_law 709 = .ok (.iload_n 3, 1) := by decide +kernel
theorem dL_law_710 : decode cL_law 710 = .ok (.iconst 1, 1) := by decide +kernel
theorem dL_law_711 : decode cL_law 711 = .ok (.iadd, 1) := by decide +kernel
theorem dL_law_712 : decode cL_law 712 = .ok (.iaload, 1) := by decide +kernel
theorem dL_law_713 : decode cL_law 713 = .ok (.aload_n 0, 1) := by decide +kernel
theorem dL_law_714 : decode cL_law 714 = .ok (.iload_n 3, 1) := by decide +kernel
theorem dL_law_715 : decode cL_law 715 = .ok (.iconst 2, 1) := by decide +kernel
theorem dL_law_716 : decode cL_law 716 = .ok (.iadd, 1) := by decide +kernel
theorem dL_law_717 : decode cL_law 717 = .ok (.iaload, 1) := by decide +kernel
theorem dL_law_718 : decode cL_law 718 = .ok (.aload_n 0, 1) := by decide +kernel
theorem dL_law_719 : decode cL_law 719 = .ok (.iload_n 3, 1) := by decide +kernel
theorem dL_law_720 : decode cL_law 720 = .ok (.iconst 3, 1) := by decide +kernel
theorem dL_law_721 : decode cL_law 721 = .ok (.iadd, 1) := by decide +kernel
theorem dL_law_722 : decode cL_law 722 = .ok (.iaload, 1) := by decide +kernel
theorem dL_law_723 : decode cL_law 723 = .ok (.invokevirtual 73, 3) := by decide +kernel
theorem dL_law_726 : decode cL_law 726 = .ok (.if_icmp .eq 900, 3) := by decide +kernel
theorem dL_law_729 : decode cL_law 729 = .ok (.iconst 0, 1) := by decide +kernel
theorem dL_law_730 : decode cL_law 730 = .ok (.ireturn, 1) := by decide +kernel
theorem dL_law_731 : decode cL_law 731 = .ok (.aload_n 1, 1) := by decide +kernel
theorem dL_law_732 : decode cL_law 732 = .ok (.aload_n 0, 1) := by decide +kernel
theorem dL_law_733 : decode cL_law 733 = .ok (.iload_n 3, 1) := by decide +kernel
theorem dL_law_734 : decode cL_law 734 = .ok (.iconst 1, 1) := by decide +kernel
theorem dL_law_735 : decode cL_law 735 = .ok (.iadd, 1) := by decide +kernel
theorem dL_law_736 : decode cL_law 736 = .ok (.iaload, 1) := by decide +kernel
theorem dL_law_737 : decode cL_law 737 = .ok (.invokevirtual 74, 3) := by decide +kernel
theorem dL_law_740 : decode cL_law 740 = .ok (.aload_n 2, 1) := by decide +kernel
theorem dL_law_741 : decode cL_law 741 = .ok (.aload_n 0, 1) := by decide +kernel
theorem dL_law_742 : decode cL_law 742 = .ok (.iload_n 3, 1) := by decide +kernel
theorem dL_law_743 : decode cL_law 743 = .ok (.iconst 1, 1) := by decide +kernel
theorem dL_law_744 : decode cL_law 744 = .ok (.iadd, 1) := by decide +kernel
theorem dL_law_745 : decode cL_law 745 = .ok (.iaload, 1) := by decide +kernel
theorem dL_law_746 : decode cL_law 746 = .ok (.invokevirtual 77, 3) := by decide +kernel
theorem dL_law_749 : decode cL_law 749 = .ok (.if_icmp .eq 877, 3) := by decide +kernel
theorem dL_law_752 : decode cL_law 752 = .ok (.iconst 0, 1) := by decide +kernel
theorem dL_law_753 : decode cL_law 753 = .ok (.ireturn, 1) := by decide +kernel
theorem dL_law_754 : decode cL_law 754 = .ok (.aload_n 1, 1) := by decide +kernel
theorem dL_law_755 : decode cL_law 755 = .ok (.aload_n 0, 1) := by decide +kernel
theorem dL_law_756 : decode cL_law 756 = .ok (.iload_n 3, 1) := by decide +kernel
theorem dL_law_757 : decode cL_law 757 = .ok (.iconst 1, 1) := by decide +kernel
theorem dL_law_758 : decode cL_law 758 = .ok (.iadd, 1) := by decide +kernel
theorem dL_law_759 : decode cL_law 759 = .ok (.iaload, 1) := by decide +kernel
theorem dL_law_760 : decode cL_law 760 = .ok (.invokevirtual 78, 3) := by decide +kernel
theorem dL_law_763 : decode cL_law 763 = .ok (.aload_n 2, 1) := by decide +kernel
theorem dL_law_764 : decode cL_law 764 = .ok (.aload_n 0, 1) := by decide +kernel
theorem dL_law_765 : decode cL_law 765 = .ok (.iload_n 3, 1) := by decide +kernel
theorem dL_law_766 : decode cL_law 766 = .ok (.iconst 1, 1) := by decide +kernel
theorem dL_law_767 : decode cL_law 767 = .ok (.iadd, 1) := by decide +kernel
theorem dL_law_768 : decode cL_law 768 = .ok (.iaload, 1) := by decide +kernel
theorem dL_law_769 : decode cL_law 769 = .ok (.invokevirtual 81, 3) := by decide +kernel
theorem dL_law_772 : decode cL_law 772 = .ok (.if_icmp .eq 854, 3) := by decide +kernel
theorem dL_law_775 : decode cL_law 775 = .ok (.iconst 0, 1) := by decide +kernel
theorem dL_law_776 : decode cL_law 776 = .ok (.ireturn, 1) := by decide +kernel
theorem dL_law_777 : decode cL_law 777 = .ok (.aload_n 1, 1) := by decide +kernel
theorem dL_law_778 : decode cL_law 778 = .ok (.invokevirtual 82, 3) := by decide +kernel
theorem dL_law_781 : decode cL_law 781 = .ok (.aload_n 2, 1) := by decide +kernel
theorem dL_law_782 : decode cL_law 782 = .ok (.invokevirtual 85, 3) := by decide +kernel
theorem dL_law_785 : decode cL_law 785 = .ok (.if_icmp .eq 841, 3) := by decide +kernel
theorem dL_law_788 : decode cL_law 788 = .ok (.iconst 0, 1) := by decide +kernel
theorem dL_law_789 : decode cL_law 789 = .ok (.ireturn, 1) := by decide +kernel
theorem dL_law_790 : decode cL_law 790 = .ok (.aload_n 1, 1) := by decide +kernel
theorem dL_law_791 : decode cL_law 791 = .ok (.aload_n 0, 1) := by decide +kernel
theorem dL_law_792 : decode cL_law 792 = .ok (.iload_n 3, 1) := by decide +kernel
theorem dL_law_793 : decode cL_law 793 = .ok (.iconst 1, 1) := by decide +kernel
theorem dL_law_794 : decode cL_law 794 = .ok (.iadd, 1) := by decide +kernel
theorem dL_law_795 : decode cL_law 795 = .ok (.iaload, 1) := by decide +kernel
theorem dL_law_796 : decode cL_law 796 = .ok (.aload_n 0, 1) := by decide +kernel
theorem dL_law_797 : decode cL_law 797 = .ok (.iload_n 3, 1) := by decide +kernel
theorem dL_law_798 : decode cL_law 798 = .ok (.iconst 2, 1) := by decide +kernel
theorem dL_law_799 : decode cL_law 799 = .ok (.iadd, 1) := by decide +kernel
theorem dL_law_800 : decode cL_law 800 = .ok (.iaload, 1) := by decide +kernel
theorem dL_law_801 : decode cL_law 801 = .ok (.aload_n 0, 1) := by decide +kernel
theorem dL_law_802 : decode cL_law 802 = .ok (.iload_n 3, 1) := by decide +kernel
theorem dL_law_803 : decode cL_law 803 = .ok (.iconst 3, 1) := by decide +kernel
theorem dL_law_804 : decode cL_law 804 = .ok (.iadd, 1) := by decide +kernel
theorem dL_law_805 : decode cL_law 805 = .ok (.iaload, 1) := by decide +kernel
theorem dL_law_806 : decode cL_law 806 = .ok (.invokevirtual 86, 3) := by decide +kernel
theorem dL_law_809 : decode cL_law 809 = .ok (.aload_n 2, 1) := by decide +kernel
theorem dL_law_810 : decode cL_law 810 = .ok (.aload_n 0, 1) := by decide +kernel
theorem dL_law_811 : decode cL_law 811 = .ok (.iload_n 3, 1) := by decide +kernel
theorem dL_law_812 : decode cL_law 812 = .ok (.iconst 1, 1) := by decide +kernel
theorem dL_law_813 : decode cL_law 813 = .ok (.iadd, 1) := by decide +kernel
theorem dL_law_814 : decode cL_law 814 = .ok (.iaload, 1) := by decide +kernel
theorem dL_law_815 : decode cL_law 815 = .ok (.aload_n 0, 1) := by decide +kernel
theorem dL_law_816 : decode cL_law 816 = .ok (.iload_n 3, 1) := by decide +kernel
theorem dL_law_817 : decode cL_law 817 = .ok (.iconst 2, 1) := by decide +kernel
theorem dL_law_818 : decode cL_law 818 = .ok (.iadd, 1) := by decide +kernel
theorem dL_law_819 : decode cL_law 819 = .ok (.iaload, 1) := by decide +kernel
theorem dL_law_820 : decode cL_law 820 = .ok (.aload_n 0, 1) := by decide +kernel
theorem dL_law_821 : decode cL_law 821 = .ok (.iload_n 3, 1) := by decide +kernel
theorem dL_law_822 : decode cL_law 822 = .ok (.iconst 3, 1) := by decide +kernel
theorem dL_law_823 : decode cL_law 823 = .ok (.iadd, 1) := by decide +kernel
theorem dL_law_824 : decode cL_law 824 = .ok (.iaload, 1) := by decide +kernel
theorem dL_law_825 : decode cL_law 825 = .ok (.invokevirtual 90, 3) := by decide +kernel
theorem dL_law_828 : decode cL_law 828 = .ok (.lcmp, 1) := by decide +kernel
theorem dL_law_829 : decode cL_law 829 = .ok (.ifCond .eq 797, 3) := by decide +kernel
theorem dL_law_832 : decode cL_law 832 = .ok (.iconst 0, 1) := by decide +kernel
theorem dL_law_833 : decode cL_law 833 = .ok (.ireturn, 1) := by decide +kernel
theorem dL_law_834 : decode cL_law 834 = .ok (.aload_n 1, 1) := by decide +kernel
theorem dL_law_835 : decode cL_law 835 = .ok (.invokevirtual 91, 3) := by decide +kernel
theorem dL_law_838 : decode cL_law 838 = .ok (.aload_n 2, 1) := by decide +kernel
theorem dL_law_839 : decode cL_law 839 = .ok (.invokevirtual 94, 3) := by decide +kernel
theorem dL_law_842 : decode cL_law 842 = .ok (.if_icmp .eq 784, 3) := by decide +kernel
theorem dL_law_845 : decode cL_law 845 = .ok (.iconst 0, 1) := by decide +kernel
theorem dL_law_846 : decode cL_law 846 = .ok (.ireturn, 1) := by decide +kernel
theorem dL_law_847 : decode cL_law 847 = .ok (.aload_n 1, 1) := by decide +kernel
theorem dL_law_848 : decode cL_law 848 = .ok (.invokevirtual 95, 3) := by decide +kernel
theorem dL_law_851 : decode cL_law 851 = .ok (.aload_n 2, 1) := by decide +kernel
theorem dL_law_852 : decode cL_law 852 = .ok (.invokevirtual 98, 3) := by decide +kernel
theorem dL_law_855 : decode cL_law 855 = .ok (.if_icmp .eq 771, 3) := by decide +kernel
theorem dL_law_858 : decode cL_law 858 = .ok (.iconst 0, 1) := by decide +kernel
theorem dL_law_859 : decode cL_law 859 = .ok (.ireturn, 1) := by decide +kernel
theorem dL_law_860 : decode cL_law 860 = .ok (.aload_n 1, 1) := by decide +kernel
theorem dL_law_861 : decode cL_law 861 = .ok (.aload_n 0, 1) := by decide +kernel
theorem dL_law_862 : decode cL_law 862 = .ok (.iload_n 3, 1) := by decide +kernel
theorem dL_law_863 : decode cL_law 863 = .ok (.iconst 1, 1) := by decide +kernel
theorem dL_law_864 : decode cL_law 864 = .ok (.iadd, 1) := by decide +kernel
theorem dL_law_865 : decode cL_law 865 = .ok (.iaload, 1) := by decide +kernel
theorem dL_law_866 : decode cL_law 866 = .ok (.invokevirtual 99, 3) := by decide +kernel
theorem dL_law_869 : decode cL_law 869 = .ok (.aload_n 2, 1) := by decide +kernel
theorem dL_law_870 : decode cL_law 870 = .ok (.aload_n 0, 1) := by decide +kernel
theorem dL_law_871 : decode cL_law 871 = .ok (.iload_n 3, 1) := by decide +kernel
theorem dL_law_872 : decode cL_law 872 = .ok (.iconst 1, 1) := by decide +kernel
theorem dL_law_873 : decode cL_law 873 = .ok (.iadd, 1) := by decide +kernel
theorem dL_law_874 : decode cL_law 874 = .ok (.iaload, 1) := by decide +kernel
theorem dL_law_875 : decode cL_law 875 = .ok (.invokevirtual 102, 3) := by decide +kernel
theorem dL_law_878 : decode cL_law 878 = .ok (.if_icmp .eq 748, 3) := by decide +kernel
theorem dL_law_881 : decode cL_law 881 = .ok (.iconst 0, 1) := by decide +kernel
theorem dL_law_882 : decode cL_law 882 = .ok (.ireturn, 1) := by decide +kernel
theorem dL_law_883 : decode cL_law 883 = .ok (.aload_n 1, 1) := by decide +kernel
theorem dL_law_884 : decode cL_law 884 = .ok (.aload_n 0, 1) := by decide +kernel
theorem dL_law_885 : decode cL_law 885 = .ok (.iload_n 3, 1) := by decide +kernel
theorem dL_law_886 : decode cL_law 886 = .ok (.iconst 1, 1) := by decide +kernel
theorem dL_law_887 : decode cL_law 887 = .ok (.iadd, 1) := by decide +kernel
theorem dL_law_888 : decode cL_law 888 = .ok (.iaload, 1) := by decide +kernel
theorem dL_law_889 : decode cL_law 889 = .ok (.aload_n 0, 1) := by decide +kernel
theorem dL_law_890 : decode cL_law 890 = .ok (.iload_n 3, 1) := by decide +kernel
theorem dL_law_891 : decode cL_law 891 = .ok (.iconst 2, 1) := by decide +kernel
theorem dL_law_892 : decode cL_law 892 = .ok (.iadd, 1) := by decide +kernel
theorem dL_law_893 : decode cL_law 893 = .ok (.iaload, 1) := by decide +kernel
theorem dL_law_894 : decode cL_law 894 = .ok (.invokevirtual 103, 3) := by decide +kernel
theorem dL_law_897 : decode cL_law 897 = .ok (.aload_n 2, 1) := by decide +kernel
theorem dL_law_898 : decode cL_law 898 = .ok (.aload_n 0, 1) := by decide +kernel
theorem dL_law_899 : decode cL_law 899 = .ok (.iload_n 3, 1) := by decide +kernel
theorem dL_law_900 : decode cL_law 900 = .ok (.iconst 1, 1) := by decide +kernel
theorem dL_law_901 : decode cL_law 901 = .ok (.iadd, 1) := by decide +kernel
theorem dL_law_902 : decode cL_law 902 = .ok (.iaload, 1) := by decide +kernel
theorem dL_law_903 : decode cL_law 903 = .ok (.aload_n 0, 1) := by decide +kernel
theorem dL_law_904 : decode cL_law 904 = .ok (.iload_n 3, 1) := by decide +kernel
theorem dL_law_905 : decode cL_law 905 = .ok (.iconst 2, 1) := by decide +kernel
theorem dL_law_906 : decode cL_law 906 = .ok (.iadd, 1) := by decide +kernel
theorem dL_law_907 : decode cL_law 907 = .ok (.iaload, 1) := by decide +kernel
theorem dL_law_908 : decode cL_law 908 = .ok (.invokevirtual 106, 3) := by decide +kernel
theorem dL_law_911 : decode cL_law 911 = .ok (.if_icmp .eq 715, 3) := by decide +kernel
theorem dL_law_914 : decode cL_law 914 = .ok (.iconst 0, 1) := by decide +kernel
theorem dL_law_915 : decode cL_law 915 = .ok (.ireturn, 1) := by decide +kernel
theorem dL_law_916 : decode cL_law 916 = .ok (.aload_n 1, 1) := by decide +kernel
theorem dL_law_917 : decode cL_law 917 = .ok (.aload_n 0, 1) := by decide +kernel
theorem dL_law_918 : decode cL_law 918 = .ok (.iload_n 3, 1) := by decide +kernel
theorem dL_law_919 : decode cL_law 919 = .ok (.iconst 1, 1) := by decide +kernel
theorem dL_law_920 : decode cL_law 920 = .ok (.iadd, 1) := by decide +kernel
theorem dL_law_921 : decode cL_law 921 = .ok (.iaload, 1) := by decide +kernel
theorem dL_law_922 : decode cL_law 922 = .ok (.aload_n 0, 1) := by decide +kernel
theorem dL_law_923 : decode cL_law 923 = .ok (.iload_n 3, 1) := by decide +kernel
theorem dL_law_924 : decode cL_law 924 = .ok (.iconst 2, 1) := by decide +kernel
theorem dL_law_925 : decode cL_law 925 = .ok (.iadd, 1) := by decide +kernel
theorem dL_law_926 : decode cL_law 926 = .ok (.iaload, 1) := by decide +kernel
theorem dL_law_927 : decode cL_law 927 = .ok (.invokevirtual 107, 3) := by decide +kernel
theorem dL_law_930 : decode cL_law 930 = .ok (.aload_n 2, 1) := by decide +kernel
theorem dL_law_931 : decode cL_law 931 = .ok (.aload_n 0, 1) := by decide +kernel
theorem dL_law_932 : decode cL_law 932 = .ok (.iload_n 3, 1) := by decide +kernel
theorem dL_law_933 : decode cL_law 933 = .ok (.iconst 1, 1) := by decide +kernel
theorem dL_law_934 : decode cL_law 934 = .ok (.iadd, 1) := by decide +kernel
theorem dL_law_935 : decode cL_law 935 = .ok (.iaload, 1) := by decide +kernel
theorem dL_law_936 : decode cL_law 936 = .ok (.aload_n 0, 1) := by decide +kernel
theorem dL_law_937 : decode cL_law 937 = .ok (.iload_n 3, 1) := by decide +kernel
theorem dL_law_938 : decode cL_law 938 = .ok (.iconst 2, 1) := by decide +kernel
theorem dL_law_939 : decode cL_law 939 = .ok (.iadd, 1) := by decide +kernel
theorem dL_law_940 : decode cL_law 940 = .ok (.iaload, 1) := by decide +kernel
theorem dL_law_941 : decode cL_law 941 = .ok (.invokevirtual 110, 3) := by decide +kernel
theorem dL_law_944 : decode cL_law 944 = .ok (.if_icmp .eq 682, 3) := by decide +kernel
theorem dL_law_947 : decode cL_law 947 = .ok (.iconst 0, 1) := by decide +kernel
theorem dL_law_948 : decode cL_law 948 = .ok (.ireturn, 1) := by decide +kernel
theorem dL_law_949 : decode cL_law 949 = .ok (.aload_n 1, 1) := by decide +kernel
theorem dL_law_950 : decode cL_law 950 = .ok (.aload_n 0, 1) := by decide +kernel
theorem dL_law_951 : decode cL_law 951 = .ok (.iload_n 3, 1) := by decide +kernel
theorem dL_law_952 : decode cL_law 952 = .ok (.iconst 1, 1) := by decide +kernel
theorem dL_law_953 : decode cL_law 953 = .ok (.iadd, 1) := by decide +kernel
theorem dL_law_954 : decode cL_law 954 = .ok (.iaload, 1) := by decide +kernel
theorem dL_law_955 : decode cL_law 955 = .ok (.aload_n 0, 1) := by decide +kernel
theorem dL_law_956 : decode cL_law 956 = .ok (.iload_n 3, 1) := by decide +kernel
theorem dL_law_957 : decode cL_law 957 = .ok (.iconst 2, 1) := by decide +kernel
theorem dL_law_958 : decode cL_law 958 = .ok (.iadd, 1) := by decide +kernel
theorem dL_law_959 : decode cL_law 959 = .ok (.iaload, 1) := by decide +kernel
theorem dL_law_960 : decode cL_law 960 = .ok (.aload_n 0, 1) := by decide +kernel
theorem dL_law_961 : decode cL_law 961 = .ok (.iload_n 3, 1) := by decide +kernel
theorem dL_law_962 : decode cL_law 962 = .ok (.iconst 3, 1) := by decide +kernel
theorem dL_law_963 : decode cL_law 963 = .ok (.iadd, 1) := by decide +kernel
theorem dL_law_964 : decode cL_law 964 = .ok (.iaload, 1) := by decide +kernel
theorem dL_law_965 : decode cL_law 965 = .ok (.invokevirtual 111, 3) := by decide +kernel
theorem dL_law_968 : decode cL_law 968 = .ok (.aload_n 2, 1) := by decide +kernel
theorem dL_law_969 : decode cL_law 969 = .ok (.aload_n 0, 1) := by decide +kernel
theorem dL_law_970 : decode cL_law 970 = .ok (.iload_n 3, 1) := by decide +kernel
theorem dL_law_971 : decode cL_law 971 = .ok (.iconst 1, 1) := by decide +kernel
theorem dL_law_972 : decode cL_law 972 = .ok (.iadd, 1) := by decide +kernel
theorem dL_law_973 : decode cL_law 973 = .ok (.iaload, 1) := by decide +kernel
theorem dL_law_974 : decode cL_law 974 = .ok (.aload_n 0, 1) := by decide +kernel
theorem dL_law_975 : decode cL_law 975 = .ok (.iload_n 3, 1) := by decide +kernel
theorem dL_law_976 : decode cL_law 976 = .ok (.iconst 2, 1) := by decide +kernel
theorem dL_law_977 : decode cL_law 977 = .ok (.iadd, 1) := by decide +kernel
theorem dL_law_978 : decode cL_law 978 = .ok (.iaload, 1) := by decide +kernel
theorem dL_law_979 : decode cL_law 979 = .ok (.aload_n 0, 1) := by decide +kernel
theorem dL_law_980 : decode cL_law 980 = .ok (.iload_n 3, 1) := by decide +kernel
theorem dL_law_981 : decode cL_law 981 = .ok (.iconst 3, 1) := by decide +kernel
theorem dL_law_982 : decode cL_law 982 = .ok (.iadd, 1) := by decide +kernel
theorem dL_law_983 : decode cL_law 983 = .ok (.iaload, 1) := by decide +kernel
theorem dL_law_984 : decode cL_law 984 = .ok (.invokevirtual 114, 3) := by decide +kernel
theorem dL_law_987 : decode cL_law 987 = .ok (.lcmp, 1) := by decide +kernel
theorem dL_law_988 : decode cL_law 988 = .ok (.ifCond .eq 638, 3) := by decide +kernel
theorem dL_law_991 : decode cL_law 991 = .ok (.iconst 0, 1) := by decide +kernel
theorem dL_law_992 : decode cL_law 992 = .ok (.ireturn, 1) := by decide +kernel
theorem dL_law_993 : decode cL_law 993 = .ok (.aload_n 1, 1) := by decide +kernel
theorem dL_law_994 : decode cL_law 994 = .ok (.aload_n 0, 1) := by decide +kernel
theorem dL_law_995 : decode cL_law 995 = .ok (.iload_n 3, 1) := by decide +kernel
theorem dL_law_996 : decode cL_law 996 = .ok (.iconst 1, 1) := by decide +kernel
theorem dL_law_997 : decode cL_law 997 = .ok (.iadd, 1) := by decide +kernel
theorem dL_law_998 : decode cL_law 998 = .ok (.iaload, 1) := by decide +kernel
theorem dL_law_999 : decode cL_law 999 = .ok (.aload_n 0, 1) := by decide +kernel
theorem dL_law_1000 : decode cL_law 1000 = .ok (.iload_n 3, 1) := by decide +kernel
theorem dL_law_1001 : decode cL_law 1001 = .ok (.iconst 2, 1) := by decide +kernel
theorem dL_law_1002 : decode cL_law 1002 = .ok (.iadd, 1) := by decide +kernel
theorem dL_law_1003 : decode cL_law 1003 = .ok (.iaload, 1) := by decide +kernel
theorem dL_law_1004 : decode cL_law 1004 = .ok (.invokevirtual 115, 3) := by decide +kernel
theorem dL_law_1007 : decode cL_law 1007 = .ok (.aload_n 2, 1) := by decide +kernel
theorem dL_law_1008 : decode cL_law 1008 = .ok (.aload_n 0, 1) := by decide +kernel
theorem dL_law_1009 : decode cL_law 1009 = .ok (.iload_n 3, 1) := by decide +kernel
theorem dL_law_1010 : decode cL_law 1010 = .ok (.iconst 1, 1) := by decide +kernel
theorem dL_law_1011 : decode cL_law 1011 = .ok (.iadd, 1) := by decide +kernel
theorem dL_law_1012 : decode cL_law 1012 = .ok (.iaload, 1) := by decide +kernel
theorem dL_law_1013 : decode cL_law 1013 = .ok (.aload_n 0, 1) := by decide +kernel
theorem dL_law_1014 : decode cL_law 1014 = .ok (.iload_n 3, 1) := by decide +kernel
theorem dL_law_1015 : decode cL_law 1015 = .ok (.iconst 2, 1) := by decide +kernel
theorem dL_law_1016 : decode cL_law 1016 = .ok (.iadd, 1) := by decide +kernel
theorem dL_law_1017 : decode cL_law 1017 = .ok (.iaload, 1) := by decide +kernel
theorem dL_law_1018 : decode cL_law 1018 = .ok (.invokevirtual 118, 3) := by decide +kernel
theorem dL_law_1021 : decode cL_law 1021 = .ok (.if_icmp .eq 605, 3) := by decide +kernel
theorem dL_law_1024 : decode cL_law 1024 = .ok (.iconst 0, 1) := by decide +kernel
theorem dL_law_1025 : decode cL_law 1025 = .ok (.ireturn, 1) := by decide +kernel
theorem dL_law_1026 : decode cL_law 1026 = .ok (.aload_n 1, 1) := by decide +kernel
theorem dL_law_1027 : decode cL_law 1027 = .ok (.aload_n 0, 1) := by decide +kernel
theorem dL_law_1028 : decode cL_law 1028 = .ok (.iload_n 3, 1) := by decide +kernel
theorem dL_law_1029 : decode cL_law 1029 = .ok (.iconst 1, 1) := by decide +kernel
theorem dL_law_1030 : decode cL_law 1030 = .ok (.iadd, 1) := by decide +kernel
theorem dL_law_1031 : decode cL_law 1031 = .ok (.iaload, 1) := by decide +kernel
theorem dL_law_1032 : decode cL_law 1032 = .ok (.invokevirtual 119, 3) := by decide +kernel
theorem dL_law_1035 : decode cL_law 1035 = .ok (.aload_n 2, 1) := by decide +kernel
theorem dL_law_1036 : decode cL_law 1036 = .ok (.aload_n 0, 1) := by decide +kernel
theorem dL_law_1037 : decode cL_law 1037 = .ok (.iload_n 3, 1) := by decide +kernel
theorem dL_law_1038 : decode cL_law 1038 = .ok (.iconst 1, 1) := by decide +kernel
theorem dL_law_1039 : decode cL_law 1039 = .ok (.iadd, 1) := by decide +kernel
theorem dL_law_1040 : decode cL_law 1040 = .ok (.iaload, 1) := by decide +kernel
theorem dL_law_1041 : decode cL_law 1041 = .ok (.invokevirtual 122, 3) := by decide +kernel
theorem dL_law_1044 : decode cL_law 1044 = .ok (.if_icmp .eq 582, 3) := by decide +kernel
theorem dL_law_1047 : decode cL_law 1047 = .ok (.iconst 0, 1) := by decide +kernel
theorem dL_law_1048 : decode cL_law 1048 = .ok (.ireturn, 1) := by decide +kernel
theorem dL_law_1049 : decode cL_law 1049 = .ok (.aload_n 1, 1) := by decide +kernel
theorem dL_law_1050 : decode cL_law 1050 = .ok (.aload_n 0, 1) := by decide +kernel
theorem dL_law_1051 : decode cL_law 1051 = .ok (.iload_n 3, 1) := by decide +kernel
theorem dL_law_1052 : decode cL_law 1052 = .ok (.iconst 1, 1) := by decide +kernel
theorem dL_law_1053 : decode cL_law 1053 = .ok (.iadd, 1) := by decide +kernel
theorem dL_law_1054 : decode cL_law 1054 = .ok (.iaload, 1) := by decide +kernel
theorem dL_law_1055 : decode cL_law 1055 = .ok (.aload_n 0, 1) := by decide +kernel
theorem dL_law_1056 : decode cL_law 1056 = .ok (.iload_n 3, 1) := by decide +kernel
theorem dL_law_1057 : decode cL_law 1057 = .ok (.iconst 2, 1) := by decide +kernel
theorem dL_law_1058 : decode cL_law 1058 = .ok (.iadd, 1) := by decide +kernel
theorem dL_law_1059 : decode cL_law 1059 = .ok (.iaload, 1) := by decide +kernel
theorem dL_law_1060 : decode cL_law 1060 = .ok (.invokevirtual 123, 3) := by decide +kernel
theorem dL_law_1063 : decode cL_law 1063 = .ok (.aload_n 2, 1) := by decide +kernel
theorem dL_law_1064 : decode cL_law 1064 = .ok (.aload_n 0, 1) := by decide +kernel
theorem dL_law_1065 : decode cL_law 1065 = .ok (.iload_n 3, 1) := by decide +kernel
theorem dL_law_1066 : decode cL_law 1066 = .ok (.iconst 1, 1) := by decide +kernel
theorem dL_law_1067 : decode cL_law 1067 = .ok (.iadd, 1) := by decide +kernel
theorem dL_law_1068 : decode cL_law 1068 = .ok (.iaload, 1) := by decide +kernel
theorem dL_law_1069 : decode cL_law 1069 = .ok (.aload_n 0, 1) := by decide +kernel
theorem dL_law_1070 : decode cL_law 1070 = .ok (.iload_n 3, 1) := by decide +kernel
theorem dL_law_1071 : decode cL_law 1071 = .ok (.iconst 2, 1) := by decide +kernel
theorem dL_law_1072 : decode cL_law 1072 = .ok (.iadd, 1) := by decide +kernel
theorem dL_law_1073 : decode cL_law 1073 = .ok (.iaload, 1) := by decide +kernel
theorem dL_law_1074 : decode cL_law 1074 = .ok (.invokevirtual 126, 3) := by decide +kernel
theorem dL_law_1077 : decode cL_law 1077 = .ok (.if_icmp .eq 549, 3) := by decide +kernel
theorem dL_law_1080 : decode cL_law 1080 = .ok (.iconst 0, 1) := by decide +kernel
theorem dL_law_1081 : decode cL_law 1081 = .ok (.ireturn, 1) := by decide +kernel
theorem dL_law_1082 : decode cL_law 1082 = .ok (.aload_n 1, 1) := by decide +kernel
theorem dL_law_1083 : decode cL_law 1083 = .ok (.aload_n 0, 1) := by decide +kernel
theorem dL_law_1084 : decode cL_law 1084 = .ok (.iload_n 3, 1) := by decide +kernel
theorem dL_law_1085 : decode cL_law 1085 = .ok (.iconst 1, 1) := by decide +kernel
theorem dL_law_1086 : decode cL_law 1086 = .ok (.iadd, 1) := by decide +kernel
theorem dL_law_1087 : decode cL_law 1087 = .ok (.iaload, 1) := by decide +kernel
theorem dL_law_1088 : decode cL_law 1088 = .ok (.aload_n 0, 1) := by decide +kernel
theorem dL_law_1089 : decode cL_law 1089 = .ok (.iload_n 3, 1) := by decide +kernel
theorem dL_law_1090 : decode cL_law 1090 = .ok (.iconst 2, 1) := by decide +kernel
theorem dL_law_1091 : decode cL_law 1091 = .ok (.iadd, 1) := by decide +kernel
theorem dL_law_1092 : decode cL_law 1092 = .ok (.iaload, 1) := by decide +kernel
theorem dL_law_1093 : decode cL_law 1093 = .ok (.invokevirtual 127, 3) := by decide +kernel
theorem dL_law_1096 : decode cL_law 1096 = .ok (.aload_n 2, 1) := by decide +kernel
theorem dL_law_1097 : decode cL_law 1097 = .ok (.aload_n 0, 1) := by decide +kernel
theorem dL_law_1098 : decode cL_law 1098 = .ok (.iload_n 3, 1) := by decide +kernel
theorem dL_law_1099 : decode cL_law 1099 = .ok (.iconst 1, 1) := by decide +kernel
theorem dL_law_1100 : decode cL_law 1100 = .ok (.iadd, 1) := by decide +kernel
theorem dL_law_1101 : decode cL_law 1101 = .ok (.iaload, 1) := by decide +kernel
theorem dL_law_1102 : decode cL_law 1102 = .ok (.aload_n 0, 1) := by decide +kernel
theorem dL_law_1103 : decode cL_law 1103 = .ok (.iload_n 3, 1) := by decide +kernel
theorem dL_law_1104 : decode cL_law 1104 = .ok (.iconst 2, 1) := by decide +kernel
theorem dL_law_1105 : decode cL_law 1105 = .ok (.iadd, 1) := by decide +kernel
theorem dL_law_1106 : decode cL_law 1106 = .ok (.iaload, 1) := by decide +kernel
theorem dL_law_1107 : decode cL_law 1107 = .ok (.invokevirtual 130, 3) := by decide +kernel
theorem dL_law_1110 : decode cL_law 1110 = .ok (.if_icmp .eq 516, 3) := by decide +kernel
theorem dL_law_1113 : decode cL_law 1113 = .ok (.iconst 0, 1) := by decide +kernel
theorem dL_law_1114 : decode cL_law 1114 = .ok (.ireturn, 1) := by decide +kernel
theorem dL_law_1115 : decode cL_law 1115 = .ok (.aload_n 1, 1) := by decide +kernel
theorem dL_law_1116 : decode cL_law 1116 = .ok (.aload_n 0, 1) := by decide +kernel
theorem dL_law_1117 : decode cL_law 1117 = .ok (.iload_n 3, 1) := by decide +kernel
theorem dL_law_1118 : decode cL_law 1118 = .ok (.iconst 1, 1) := by decide +kernel
theorem dL_law_1119 : decode cL_law 1119 = .ok (.iadd, 1) := by decide +kernel
theorem dL_law_1120 : decode cL_law 1120 = .ok (.iaload, 1) := by decide +kernel
theorem dL_law_1121 : decode cL_law 1121 = .ok (.aload_n 0, 1) := by decide +kernel
theorem dL_law_1122 : decode cL_law 1122 = .ok (.iload_n 3, 1) := by decide +kernel
theorem dL_law_1123 : decode cL_law 1123 = .ok (.iconst 2, 1) := by decide +kernel
theorem dL_law_1124 : decode cL_law 1124 = .ok (.iadd, 1) := by decide +kernel
theorem dL_law_1125 : decode cL_law 1125 = .ok (.iaload, 1) := by decide +kernel
theorem dL_law_1126 : decode cL_law 1126 = .ok (.invokevirtual 131, 3) := by decide +kernel
theorem dL_law_1129 : decode cL_law 1129 = .ok (.aload_n 2, 1) := by decide +kernel
theorem dL_law_1130 : decode cL_law 1130 = .ok (.aload_n 0, 1) := by decide +kernel
theorem dL_law_1131 : decode cL_law 1131 = .ok (.iload_n 3, 1) := by decide +kernel
theorem dL_law_1132 : decode cL_law 1132 = .ok (.iconst 1, 1) := by decide +kernel
theorem dL_law_1133 : decode cL_law 1133 = .ok (.iadd, 1) := by decide +kernel
theorem dL_law_1134 : decode cL_law 1134 = .ok (.iaload, 1) := by decide +kernel
theorem dL_law_1135 : decode cL_law 1135 = .ok (.aload_n 0, 1) := by decide +kernel
theorem dL_law_1136 : decode cL_law 1136 = .ok (.iload_n 3, 1) := by decide +kernel
theorem dL_law_1137 : decode cL_law 1137 = .ok (.iconst 2, 1) := by decide +kernel
theorem dL_law_1138 : decode cL_law 1138 = .ok (.iadd, 1) := by decide +kernel
theorem dL_law_1139 : decode cL_law 1139 = .ok (.iaload, 1) := by decide +kernel
theorem dL_law_1140 : decode cL_law 1140 = .ok (.invokevirtual 134, 3) := by decide +kernel
theorem dL_law_1143 : decode cL_law 1143 = .ok (.if_icmp .eq 483, 3) := by decide +kernel
theorem dL_law_1146 : decode cL_law 1146 = .ok (.iconst 0, 1) := by decide +kernel
theorem dL_law_1147 : decode cL_law 1147 = .ok (.ireturn, 1) := by decide +kernel
theorem dL_law_1148 : decode cL_law 1148 = .ok (.aload_n 1, 1) := by decide +kernel
theorem dL_law_1149 : decode cL_law 1149 = .ok (.aload_n 0, 1) := by decide +kernel
theorem dL_law_1150 : decode cL_law 1150 = .ok (.iload_n 3, 1) := by decide +kernel
theorem dL_law_1151 : decode cL_law 1151 = .ok (.iconst 1, 1) := by decide +kernel
theorem dL_law_1152 : decode cL_law 1152 = .ok (.iadd, 1) := by decide +kernel
theorem dL_law_1153 : decode cL_law 1153 = .ok (.iaload, 1) := by decide +kernel
theorem dL_law_1154 : decode cL_law 1154 = .ok (.invokevirtual 135, 3) := by decide +kernel
theorem dL_law_1157 : decode cL_law 1157 = .ok (.aload_n 2, 1) := by decide +kernel
theorem dL_law_1158 : decode cL_law 1158 = .ok (.aload_n 0, 1) := by decide +kernel
theorem dL_law_1159 : decode cL_law 1159 = .ok (.iload_n 3, 1) := by decide +kernel
theorem dL_law_1160 : decode cL_law 1160 = .ok (.iconst 1, 1) := by decide +kernel
theorem dL_law_1161 : decode cL_law 1161 = .ok (.iadd, 1) := by decide +kernel
theorem dL_law_1162 : decode cL_law 1162 = .ok (.iaload, 1) := by decide +kernel
theorem dL_law_1163 : decode cL_law 1163 = .ok (.invokevirtual 138, 3) := by decide +kernel
theorem dL_law_1166 : decode cL_law 1166 = .ok (.if_icmp .eq 460, 3) := by decide +kernel
theorem dL_law_1169 : decode cL_law 1169 = .ok (.iconst 0, 1) := by decide +kernel
theorem dL_law_1170 : decode cL_law 1170 = .ok (.ireturn, 1) := by decide +kernel
theorem dL_law_1171 : decode cL_law 1171 = .ok (.aload_n 1, 1) := by decide +kernel
theorem dL_law_1172 : decode cL_law 1172 = .ok (.invokevirtual 139, 3) := by decide +kernel
theorem dL_law_1175 : decode cL_law 1175 = .ok (.aload_n 2, 1) := by decide +kernel
theorem dL_law_1176 : decode cL_law 1176 = .ok (.invokevirtual 142, 3) := by decide +kernel
theorem dL_law_1179 : decode cL_law 1179 = .ok (.if_icmp .eq 447, 3) := by decide +kernel
theorem dL_law_1182 : decode cL_law 1182 = .ok (.iconst 0, 1) := by decide +kernel
theorem dL_law_1183 : decode cL_law 1183 = .ok (.ireturn, 1) := by decide +kernel
theorem dL_law_1184 : decode cL_law 1184 = .ok (.aload_n 1, 1) := by decide +kernel
theorem dL_law_1185 : decode cL_law 1185 = .ok (.aload_n 0, 1) := by decide +kernel
theorem dL_law_1186 : decode cL_law 1186 = .ok (.iload_n 3, 1) := by decide +kernel
theorem dL_law_1187 : decode cL_law 1187 = .ok (.iconst 1, 1) := by decide +kernel
theorem dL_law_1188 : decode cL_law 1188 = .ok (.iadd, 1) := by decide +kernel
theorem dL_law_1189 : decode cL_law 1189 = .ok (.iaload, 1) := by decide +kernel
theorem dL_law_1190 : decode cL_law 1190 = .ok (.aload_n 0, 1) := by decide +kernel
theorem dL_law_1191 : decode cL_law 1191 = .ok (.iload_n 3, 1) := by decide +kernel
theorem dL_law_1192 : decode cL_law 1192 = .ok (.iconst 2, 1) := by decide +kernel
theorem dL_law_1193 : decode cL_law 1193 = .ok (.iadd, 1) := by decide +kernel
theorem dL_law_1194 : decode cL_law 1194 = .ok (.iaload, 1) := by decide +kernel
theorem dL_law_1195 : decode cL_law 1195 = .ok (.invokevirtual 143, 3) := by decide +kernel
theorem dL_law_1198 : decode cL_law 1198 = .ok (.aload_n 2, 1) := by decide +kernel
theorem dL_law_1199 : decode cL_law 1199 = .ok (.aload_n 0, 1) := by decide +kernel
theorem dL_law_1200 : decode cL_law 1200 = .ok (.iload_n 3, 1) := by decide +kernel
theorem dL_law_1201 : decode cL_law 1201 = .ok (.iconst 1, 1) := by decide +kernel
theorem dL_law_1202 : decode cL_law 1202 = .ok (.iadd, 1) := by decide +kernel
theorem dL_law_1203 : decode cL_law 1203 = .ok (.iaload, 1) := by decide +kernel
theorem dL_law_1204 : decode cL_law 1204 = .ok (.aload_n 0, 1) := by decide +kernel
theorem dL_law_1205 : decode cL_law 1205 = .ok (.iload_n 3, 1) := by decide +kernel
theorem dL_law_1206 : decode cL_law 1206 = .ok (.iconst 2, 1) := by decide +kernel
theorem dL_law_1207 : decode cL_law 1207 = .ok (.iadd, 1) := by decide +kernel
theorem dL_law_1208 : decode cL_law 1208 = .ok (.iaload, 1) := by decide +kernel
theorem dL_law_1209 : decode cL_law 1209 = .ok (.invokevirtual 146, 3) := by decide +kernel
theorem dL_law_1212 : decode cL_law 1212 = .ok (.if_icmp .eq 414, 3) := by decide +kernel
theorem dL_law_1215 : decode cL_law 1215 = .ok (.iconst 0, 1) := by decide +kernel
theorem dL_law_1216 : decode cL_law 1216 = .ok (.ireturn, 1) := by decide +kernel
theorem dL_law_1217 : decode cL_law 1217 = .ok (.aload_n 1, 1) := by decide +kernel
theorem dL_law_1218 : decode cL_law 1218 = .ok (.aload_n 0, 1) := by decide +kernel
theorem dL_law_1219 : decode cL_law 1219 = .ok (.iload_n 3, 1) := by decide +kernel
theorem dL_law_1220 : decode cL_law 1220 = .ok (.iconst 1, 1) := by decide +kernel
theorem dL_law_1221 : decode cL_law 1221 = .ok (.iadd, 1) := by decide +kernel
theorem dL_law_1222 : decode cL_law 1222 = .ok (.iaload, 1) := by decide +kernel
theorem dL_law_1223 : decode cL_law 1223 = .ok (.aload_n 0, 1) := by decide +kernel
theorem dL_law_1224 : decode cL_law 1224 = .ok (.iload_n 3, 1) := by decide +kernel
theorem dL_law_1225 : decode cL_law 1225 = .ok (.iconst 2, 1) := by decide +kernel
theorem dL_law_1226 : decode cL_law 1226 = .ok (.iadd, 1) := by decide +kernel
theorem dL_law_1227 : decode cL_law 1227 = .ok (.iaload, 1) := by decide +kernel
theorem dL_law_1228 : decode cL_law 1228 = .ok (.aload_n 0, 1) := by decide +kernel
theorem dL_law_1229 : decode cL_law 1229 = .ok (.iload_n 3, 1) := by decide +kernel
theorem dL_law_1230 : decode cL_law 1230 = .ok (.iconst 3, 1) := by decide +kernel
theorem dL_law_1231 : decode cL_law 1231 = .ok (.iadd, 1) := by decide +kernel
theorem dL_law_1232 : decode cL_law 1232 = .ok (.iaload, 1) := by decide +kernel
theorem dL_law_1233 : decode cL_law 1233 = .ok (.invokevirtual 147, 3) := by decide +kernel
theorem dL_law_1236 : decode cL_law 1236 = .ok (.aload_n 2, 1) := by decide +kernel
theorem dL_law_1237 : decode cL_law 1237 = .ok (.aload_n 0, 1) := by decide +kernel
theorem dL_law_1238 : decode cL_law 1238 = .ok (.iload_n 3, 1) := by decide +kernel
theorem dL_law_1239 : decode cL_law 1239 = .ok (.iconst 1, 1) := by decide +kernel
theorem dL_law_1240 : decode cL_law 1240 = .ok (.iadd, 1) := by decide +kernel
theorem dL_law_1241 : decode cL_law 1241 = .ok (.iaload, 1) := by decide +kernel
theorem dL_law_1242 : decode cL_law 1242 = .ok (.aload_n 0, 1) := by decide +kernel
theorem dL_law_1243 : decode cL_law 1243 = .ok (.iload_n 3, 1) := by decide +kernel
theorem dL_law_1244 : decode cL_law 1244 = .ok (.iconst 2, 1) := by decide +kernel
theorem dL_law_1245 : decode cL_law 1245 = .ok (.iadd, 1) := by decide +kernel
theorem dL_law_1246 : decode cL_law 1246 = .ok (.iaload, 1) := by decide +kernel
theorem dL_law_1247 : decode cL_law 1247 = .ok (.aload_n 0, 1) := by decide +kernel
theorem dL_law_1248 : decode cL_law 1248 = .ok (.iload_n 3, 1) := by decide +kernel
theorem dL_law_1249 : decode cL_law 1249 = .ok (.iconst 3, 1) := by decide +kernel
theorem dL_law_1250 : decode cL_law 1250 = .ok (.iadd, 1) := by decide +kernel
theorem dL_law_1251 : decode cL_law 1251 = .ok (.iaload, 1) := by decide +kernel
theorem dL_law_1252 : decode cL_law 1252 = .ok (.invokevirtual 150, 3) := by decide +kernel
theorem dL_law_1255 : decode cL_law 1255 = .ok (.if_icmp .eq 371, 3) := by decide +kernel
theorem dL_law_1258 : decode cL_law 1258 = .ok (.iconst 0, 1) := by decide +kernel
theorem dL_law_1259 : decode cL_law 1259 = .ok (.ireturn, 1) := by decide +kernel
theorem dL_law_1260 : decode cL_law 1260 = .ok (.aload_n 1, 1) := by decide +kernel
theorem dL_law_1261 : decode cL_law 1261 = .ok (.invokevirtual 151, 3) := by decide +kernel
theorem dL_law_1264 : decode cL_law 1264 = .ok (.aload_n 2, 1) := by decide +kernel
theorem dL_law_1265 : decode cL_law 1265 = .ok (.invokevirtual 154, 3) := by decide +kernel
theorem dL_law_1268 : decode cL_law 1268 = .ok (.if_icmp .eq 358, 3) := by decide +kernel
theorem dL_law_1271 : decode cL_law 1271 = .ok (.iconst 0, 1) := by decide +kernel
theorem dL_law_1272 : decode cL_law 1272 = .ok (.ireturn, 1) := by decide +kernel
theorem dL_law_1273 : decode cL_law 1273 = .ok (.aload_n 1, 1) := by decide +kernel
theorem dL_law_1274 : decode cL_law 1274 = .ok (.aload_n 0, 1) := by decide +kernel
theorem dL_law_1275 : decode cL_law 1275 = .ok (.iload_n 3, 1) := by decide +kernel
theorem dL_law_1276 : decode cL_law 1276 = .ok (.iconst 1, 1) := by decide +kernel
theorem dL_law_1277 : decode cL_law 1277 = .ok (.iadd, 1) := by decide +kernel
theorem dL_law_1278 : decode cL_law 1278 = .ok (.iaload, 1) := by decide +kernel
theorem dL_law_1279 : decode cL_law 1279 = .ok (.aload_n 0, 1) := by decide +kernel
theorem dL_law_1280 : decode cL_law 1280 = .ok (.iload_n 3, 1) := by decide +kernel
theorem dL_law_1281 : decode cL_law 1281 = .ok (.iconst 2, 1) := by decide +kernel
theorem dL_law_1282 : decode cL_law 1282 = .ok (.iadd, 1) := by decide +kernel
theorem dL_law_1283 : decode cL_law 1283 = .ok (.iaload, 1) := by decide +kernel
theorem dL_law_1284 : decode cL_law 1284 = .ok (.aload_n 0, 1) := by decide +kernel
theorem dL_law_1285 : decode cL_law 1285 = .ok (.iload_n 3, 1) := by decide +kernel
theorem dL_law_1286 : decode cL_law 1286 = .ok (.iconst 3, 1) := by decide +kernel
theorem dL_law_1287 : decode cL_law 1287 = .ok (.iadd, 1) := by decide +kernel
theorem dL_law_1288 : decode cL_law 1288 = .ok (.iaload, 1) := by decide +kernel
theorem dL_law_1289 : decode cL_law 1289 = .ok (.invokevirtual 155, 3) := by decide +kernel
theorem dL_law_1292 : decode cL_law 1292 = .ok (.aload_n 2, 1) := by decide +kernel
theorem dL_law_1293 : decode cL_law 1293 = .ok (.aload_n 0, 1) := by decide +kernel
theorem dL_law_1294 : decode cL_law 1294 = .ok (.iload_n 3, 1) := by decide +kernel
theorem dL_law_1295 : decode cL_law 1295 = .ok (.iconst 1, 1) := by decide +kernel
theorem dL_law_1296 : decode cL_law 1296 = .ok (.iadd, 1) := by decide +kernel
theorem dL_law_1297 : decode cL_law 1297 = .ok (.iaload, 1) := by decide +kernel
theorem dL_law_1298 : decode cL_law 1298 = .ok (.aload_n 0, 1) := by decide +kernel
theorem dL_law_1299 : decode cL_law 1299 = .ok (.iload_n 3, 1) := by decide +kernel
theorem dL_law_1300 : decode cL_law 1300 = .ok (.iconst 2, 1) := by decide +kernel
theorem dL_law_1301 : decode cL_law 1301 = .ok (.iadd, 1) := by decide +kernel
theorem dL_law_1302 : decode cL_law 1302 = .ok (.iaload, 1) := by decide +kernel
theorem dL_law_1303 : decode cL_law 1303 = .ok (.aload_n 0, 1) := by decide +kernel
theorem dL_law_1304 : decode cL_law 1304 = .ok (.iload_n 3, 1) := by decide +kernel
theorem dL_law_1305 : decode cL_law 1305 = .ok (.iconst 3, 1) := by decide +kernel
theorem dL_law_1306 : decode cL_law 1306 = .ok (.iadd, 1) := by decide +kernel
theorem dL_law_1307 : decode cL_law 1307 = .ok (.iaload, 1) := by decide +kernel
theorem dL_law_1308 : decode cL_law 1308 = .ok (.invokevirtual 158, 3) := by decide +kernel
theorem dL_law_1311 : decode cL_law 1311 = .ok (.if_icmp .eq 315, 3) := by decide +kernel
theorem dL_law_1314 : decode cL_law 1314 = .ok (.iconst 0, 1) := by decide +kernel
theorem dL_law_1315 : decode cL_law 1315 = .ok (.ireturn, 1) := by decide +kernel
theorem dL_law_1316 : decode cL_law 1316 = .ok (.aload_n 1, 1) := by decide +kernel
theorem dL_law_1317 : decode cL_law 1317 = .ok (.aload_n 0, 1) := by decide +kernel
theorem dL_law_1318 : decode cL_law 1318 = .ok (.iload_n 3, 1) := by decide +kernel
theorem dL_law_1319 : decode cL_law 1319 = .ok (.iconst 1, 1) := by decide +kernel
theorem dL_law_1320 : decode cL_law 1320 = .ok (.iadd, 1) := by decide +kernel
theorem dL_law_1321 : decode cL_law 1321 = .ok (.iaload, 1) := by decide +kernel
theorem dL_law_1322 : decode cL_law 1322 = .ok (.aload_n 0, 1) := by decide +kernel
theorem dL_law_1323 : decode cL_law 1323 = .ok (.iload_n 3, 1) := by decide +kernel
theorem dL_law_1324 : decode cL_law 1324 = .ok (.iconst 2, 1) := by decide +kernel
theorem dL_law_1325 : decode cL_law 1325 = .ok (.iadd, 1) := by decide +kernel
theorem dL_law_1326 : decode cL_law 1326 = .ok (.iaload, 1) := by decide +kernel
theorem dL_law_1327 : decode cL_law 1327 = .ok (.aload_n 0, 1) := by decide +kernel
theorem dL_law_1328 : decode cL_law 1328 = .ok (.iload_n 3, 1) := by decide +kernel
theorem dL_law_1329 : decode cL_law 1329 = .ok (.iconst 3, 1) := by decide +kernel
theorem dL_law_1330 : decode cL_law 1330 = .ok (.iadd, 1) := by decide +kernel
theorem dL_law_1331 : decode cL_law 1331 = .ok (.iaload, 1) := by decide +kernel
theorem dL_law_1332 : decode cL_law 1332 = .ok (.invokevirtual 159, 3) := by decide +kernel
theorem dL_law_1335 : decode cL_law 1335 = .ok (.aload_n 2, 1) := by decide +kernel
theorem dL_law_1336 : decode cL_law 1336 = .ok (.aload_n 0, 1) := by decide +kernel
theorem dL_law_1337 : decode cL_law 1337 = .ok (.iload_n 3, 1) := by decide +kernel
theorem dL_law_1338 : decode cL_law 1338 = .ok (.iconst 1, 1) := by decide +kernel
theorem dL_law_1339 : decode cL_law 1339 = .ok (.iadd, 1) := by decide +kernel
theorem dL_law_1340 : decode cL_law 1340 = .ok (.iaload, 1) := by decide +kernel
theorem dL_law_1341 : decode cL_law 1341 = .ok (.aload_n 0, 1) := by decide +kernel
theorem dL_law_1342 : decode cL_law 1342 = .ok (.iload_n 3, 1) := by decide +kernel
theorem dL_law_1343 : decode cL_law 1343 = .ok (.iconst 2, 1) := by decide +kernel
theorem dL_law_1344 : decode cL_law 1344 = .ok (.iadd, 1) := by decide +kernel
theorem dL_law_1345 : decode cL_law 1345 = .ok (.iaload, 1) := by decide +kernel
theorem dL_law_1346 : decode cL_law 1346 = .ok (.aload_n 0, 1) := by decide +kernel
theorem dL_law_1347 : decode cL_law 1347 = .ok (.iload_n 3, 1) := by decide +kernel
theorem dL_law_1348 : decode cL_law 1348 = .ok (.iconst 3, 1) := by decide +kernel
theorem dL_law_1349 : decode cL_law 1349 = .ok (.iadd, 1) := by decide +kernel
theorem dL_law_1350 : decode cL_law 1350 = .ok (.iaload, 1) := by decide +kernel
theorem dL_law_1351 : decode cL_law 1351 = .ok (.invokevirtual 162, 3) := by decide +kernel
theorem dL_law_1354 : decode cL_law 1354 = .ok (.if_icmp .eq 272, 3) := by decide +kernel
theorem dL_law_1357 : decode cL_law 1357 = .ok (.iconst 0, 1) := by decide +kernel
theorem dL_law_1358 : decode cL_law 1358 = .ok (.ireturn, 1) := by decide +kernel
theorem dL_law_1359 : decode cL_law 1359 = .ok (.aload_n 1, 1) := by decide +kernel
theorem dL_law_1360 : decode cL_law 1360 = .ok (.aload_n 0, 1) := by decide +kernel
theorem dL_law_1361 : decode cL_law 1361 = .ok (.iload_n 3, 1) := by decide +kernel
theorem dL_law_1362 : decode cL_law 1362 = .ok (.iconst 1, 1) := by decide +kernel
theorem dL_law_1363 : decode cL_law 1363 = .ok (.iadd, 1) := by decide +kernel
theorem dL_law_1364 : decode cL_law 1364 = .ok (.iaload, 1) := by decide +kernel
theorem dL_law_1365 : decode cL_law 1365 = .ok (.aload_n 0, 1) := by decide +kernel
theorem dL_law_1366 : decode cL_law 1366 = .ok (.iload_n 3, 1) := by decide +kernel
theorem dL_law_1367 : decode cL_law 1367 = .ok (.iconst 2, 1) := by decide +kernel
theorem dL_law_1368 : decode cL_law 1368 = .ok (.iadd, 1) := by decide +kernel
theorem dL_law_1369 : decode cL_law 1369 = .ok (.iaload, 1) := by decide +kernel
theorem dL_law_1370 : decode cL_law 1370 = .ok (.aload_n 0, 1) := by decide +kernel
theorem dL_law_1371 : decode cL_law 1371 = .ok (.iload_n 3, 1) := by decide +kernel
theorem dL_law_1372 : decode cL_law 1372 = .ok (.iconst 3, 1) := by decide +kernel
theorem dL_law_1373 : decode cL_law 1373 = .ok (.iadd, 1) := by decide +kernel
theorem dL_law_1374 : decode cL_law 1374 = .ok (.iaload, 1) := by decide +kernel
theorem dL_law_1375 : decode cL_law 1375 = .ok (.invokevirtual 163, 3) := by decide +kernel
theorem dL_law_1378 : decode cL_law 1378 = .ok (.aload_n 2, 1) := by decide +kernel
theorem dL_law_1379 : decode cL_law 1379 = .ok (.aload_n 0, 1) := by decide +kernel
theorem dL_law_1380 : decode cL_law 1380 = .ok (.iload_n 3, 1) := by decide +kernel
theorem dL_law_1381 : decode cL_law 1381 = .ok (.iconst 1, 1) := by decide +kernel
theorem dL_law_1382 : decode cL_law 1382 = .ok (.iadd, 1) := by decide +kernel
theorem dL_law_1383 : decode cL_law 1383 = .ok (.iaload, 1) := by decide +kernel
theorem dL_law_1384 : decode cL_law 1384 = .ok (.aload_n 0, 1) := by decide +kernel
theorem dL_law_1385 : decode cL_law 1385 = .ok (.iload_n 3, 1) := by decide +kernel
theorem dL_law_1386 : decode cL_law 1386 = .ok (.iconst 2, 1) := by decide +kernel
theorem dL_law_1387 : decode cL_law 1387 = .ok (.iadd, 1) := by decide +kernel
theorem dL_law_1388 : decode cL_law 1388 = .ok (.iaload, 1) := by decide +kernel
theorem dL_law_1389 : decode cL_law 1389 = .ok (.aload_n 0, 1) := by decide +kernel
theorem dL_law_1390 : decode cL_law 1390 = .ok (.iload_n 3, 1) := by decide +kernel
theorem dL_law_1391 : decode cL_law 1391 = .ok (.iconst 3, 1) := by decide +kernel
theorem dL_law_1392 : decode cL_law 1392 = .ok (.iadd, 1) := by decide +kernel
theorem dL_law_1393 : decode cL_law 1393 = .ok (.iaload, 1) := by decide +kernel
theorem dL_law_1394 : decode cL_law 1394 = .ok (.invokevirtual 166, 3) := by decide +kernel
theorem dL_law_1397 : decode cL_law 1397 = .ok (.if_icmp .eq 229, 3) := by decide +kernel
theorem dL_law_1400 : decode cL_law 1400 = .ok (.iconst 0, 1) := by decide +kernel
theorem dL_law_1401 : decode cL_law 1401 = .ok (.ireturn, 1) := by decide +kernel
theorem dL_law_1402 : decode cL_law 1402 = .ok (.aload_n 1, 1) := by decide +kernel
theorem dL_law_1403 : decode cL_law 1403 = .ok (.aload_n 0, 1) := by decide +kernel
theorem dL_law_1404 : decode cL_law 1404 = .ok (.iload_n 3, 1) := by decide +kernel
theorem dL_law_1405 : decode cL_law 1405 = .ok (.iconst 1, 1) := by decide +kernel
theorem dL_law_1406 : decode cL_law 1406 = .ok (.iadd, 1) := by decide +kernel
theorem dL_law_1407 : decode cL_law 1407 = .ok (.iaload, 1) := by decide +kernel
theorem dL_law_1408 : decode cL_law 1408 = .ok (.aload_n 0, 1) := by decide +kernel
theorem dL_law_1409 : decode cL_law 1409 = .ok (.iload_n 3, 1) := by decide +kernel
theorem dL_law_1410 : decode cL_law 1410 = .ok (.iconst 2, 1) := by decide +kernel
theorem dL_law_1411 : decode cL_law 1411 = .ok (.iadd, 1) := by decide +kernel
theorem dL_law_1412 : decode cL_law 1412 = .ok (.iaload, 1) := by decide +kernel
theorem dL_law_1413 : decode cL_law 1413 = .ok (.aload_n 0, 1) := by decide +kernel
theorem dL_law_1414 : decode cL_law 1414 = .ok (.iload_n 3, 1) := by decide +kernel
theorem dL_law_1415 : decode cL_law 1415 = .ok (.iconst 3, 1) := by decide +kernel
theorem dL_law_1416 : decode cL_law 1416 = .ok (.iadd, 1) := by decide +kernel
theorem dL_law_1417 : decode cL_law 1417 = .ok (.iaload, 1) := by decide +kernel
theorem dL_law_1418 : decode cL_law 1418 = .ok (.invokevirtual 167, 3) := by decide +kernel
theorem dL_law_1421 : decode cL_law 1421 = .ok (.aload_n 2, 1) := by decide +kernel
theorem dL_law_1422 : decode cL_law 1422 = .ok (.aload_n 0, 1) := by decide +kernel
theorem dL_law_1423 : decode cL_law 1423 = .ok (.iload_n 3, 1) := by decide +kernel
theorem dL_law_1424 : decode cL_law 1424 = .ok (.iconst 1, 1) := by decide +kernel
theorem dL_law_1425 : decode cL_law 1425 = .ok (.iadd, 1) := by decide +kernel
theorem dL_law_1426 : decode cL_law 1426 = .ok (.iaload, 1) := by decide +kernel
theorem dL_law_1427 : decode cL_law 1427 = .ok (.aload_n 0, 1) := by decide +kernel
theorem dL_law_1428 : decode cL_law 1428 = .ok (.iload_n 3, 1) := by decide +kernel
theorem dL_law_1429 : decode cL_law 1429 = .ok (.iconst 2, 1) := by decide +kernel
theorem dL_law_1430 : decode cL_law 1430 = .ok (.iadd, 1) := by decide +kernel
theorem dL_law_1431 : decode cL_law 1431 = .ok (.iaload, 1) := by decide +kernel
theorem dL_law_1432 : decode cL_law 1432 = .ok (.aload_n 0, 1) := by decide +kernel
theorem dL_law_1433 : decode cL_law 1433 = .ok (.iload_n 3, 1) := by decide +kernel
theorem dL_law_1434 : decode cL_law 1434 = .ok (.iconst 3, 1) := by decide +kernel
theorem dL_law_1435 : decode cL_law 1435 = .ok (.iadd, 1) := by decide +kernel
theorem dL_law_1436 : decode cL_law 1436 = .ok (.iaload, 1) := by decide +kernel
theorem dL_law_1437 : decode cL_law 1437 = .ok (.invokevirtual 170, 3) := by decide +kernel
theorem dL_law_1440 : decode cL_law 1440 = .ok (.if_icmp .eq 186, 3) := by decide +kernel
theorem dL_law_1443 : decode cL_law 1443 = .ok (.iconst 0, 1) := by decide +kernel
theorem dL_law_1444 : decode cL_law 1444 = .ok (.ireturn, 1) := by decide +kernel
theorem dL_law_1445 : decode cL_law 1445 = .ok (.aload_n 1, 1) := by decide +kernel
theorem dL_law_1446 : decode cL_law 1446 = .ok (.aload_n 0, 1) := by decide +kernel
theorem dL_law_1447 : decode cL_law 1447 = .ok (.iload_n 3, 1) := by decide +kernel
theorem dL_law_1448 : decode cL_law 1448 = .ok (.iconst 1, 1) := by decide +kernel
theorem dL_law_1449 : decode cL_law 1449 = .ok (.iadd, 1) := by decide +kernel
theorem dL_law_1450 : decode cL_law 1450 = .ok (.iaload, 1) := by decide +kernel
theorem dL_law_1451 : decode cL_law 1451 = .ok (.aload_n 0, 1) := by decide +kernel
theorem dL_law_1452 : decode cL_law 1452 = .ok (.iload_n 3, 1) := by decide +kernel
theorem dL_law_1453 : decode cL_law 1453 = .ok (.iconst 2, 1) := by decide +kernel
theorem dL_law_1454 : decode cL_law 1454 = .ok (.iadd, 1) := by decide +kernel
theorem dL_law_1455 : decode cL_law 1455 = .ok (.iaload, 1) := by decide +kernel
theorem dL_law_1456 : decode cL_law 1456 = .ok (.invokevirtual 171, 3) := by decide +kernel
theorem dL_law_1459 : decode cL_law 1459 = .ok (.aload_n 2, 1) := by decide +kernel
theorem dL_law_1460 : decode cL_law 1460 = .ok (.aload_n 0, 1) := by decide +kernel
theorem dL_law_1461 : decode cL_law 1461 = .ok (.iload_n 3, 1) := by decide +kernel
theorem dL_law_1462 : decode cL_law 1462 = .ok (.iconst 1, 1) := by decide +kernel
theorem dL_law_1463 : decode cL_law 1463 = .ok (.iadd, 1) := by decide +kernel
theorem dL_law_1464 : decode cL_law 1464 = .ok (.iaload, 1) := by decide +kernel
theorem dL_law_1465 : decode cL_law 1465 = .ok (.aload_n 0, 1) := by decide +kernel
theorem dL_law_1466 : decode cL_law 1466 = .ok (.iload_n 3, 1) := by decide +kernel
theorem dL_law_1467 : decode cL_law 1467 = .ok (.iconst 2, 1) := by decide +kernel
theorem dL_law_1468 : decode cL_law 1468 = .ok (.iadd, 1) := by decide +kernel
theorem dL_law_1469 : decode cL_law 1469 = .ok (.iaload, 1) := by decide +kernel
theorem dL_law_1470 : decode cL_law 1470 = .ok (.invokevirtual 174, 3) := by decide +kernel
theorem dL_law_1473 : decode cL_law 1473 = .ok (.if_icmp .eq 153, 3) := by decide +kernel
theorem dL_law_1476 : decode cL_law 1476 = .ok (.iconst 0, 1) := by decide +kernel
theorem dL_law_1477 : decode cL_law 1477 = .ok (.ireturn, 1) := by decide +kernel
theorem dL_law_1478 : decode cL_law 1478 = .ok (.aload_n 1, 1) := by decide +kernel
theorem dL_law_1479 : decode cL_law 1479 = .ok (.aload_n 0, 1) := by decide +kernel
theorem dL_law_1480 : decode cL_law 1480 = .ok (.iload_n 3, 1) := by decide +kernel
theorem dL_law_1481 : decode cL_law 1481 = .ok (.iconst 1, 1) := by decide +kernel
theorem dL_law_1482 : decode cL_law 1482 = .ok (.iadd, 1) := by decide +kernel
theorem dL_law_1483 : decode cL_law 1483 = .ok (.iaload, 1) := by decide +kernel
theorem dL_law_1484 : decode cL_law 1484 = .ok (.aload_n 0, 1) := by decide +kernel
theorem dL_law_1485 : decode cL_law 1485 = .ok (.iload_n 3, 1) := by decide +kernel
theorem dL_law_1486 : decode cL_law 1486 = .ok (.iconst 2, 1) := by decide +kernel
theorem dL_law_1487 : decode cL_law 1487 = .ok (.iadd, 1) := by decide +kernel
theorem dL_law_1488 : decode cL_law 1488 = .ok (.iaload, 1) := by decide +kernel
theorem dL_law_1489 : decode cL_law 1489 = .ok (.aload_n 0, 1) := by decide +kernel
theorem dL_law_1490 : decode cL_law 1490 = .ok (.iload_n 3, 1) := by decide +kernel
theorem dL_law_1491 : decode cL_law 1491 = .ok (.iconst 3, 1) := by decide +kernel
theorem dL_law_1492 : decode cL_law 1492 = .ok (.iadd, 1) := by decide +kernel
theorem dL_law_1493 : decode cL_law 1493 = .ok (.iaload, 1) := by decide +kernel
theorem dL_law_1494 : decode cL_law 1494 = .ok (.invokevirtual 175, 3) := by decide +kernel
theorem dL_law_1497 : decode cL_law 1497 = .ok (.aload_n 2, 1) := by decide +kernel
theorem dL_law_1498 : decode cL_law 1498 = .ok (.aload_n 0, 1) := by decide +kernel
theorem dL_law_1499 : decode cL_law 1499 = .ok (.iload_n 3, 1) := by decide +kernel
theorem dL_law_1500 : decode cL_law 1500 = .ok (.iconst 1, 1) := by decide +kernel
theorem dL_law_1501 : decode cL_law 1501 = .ok (.iadd, 1) := by decide +kernel
theorem dL_law_1502 : decode cL_law 1502 = .ok (.iaload, 1) := by decide +kernel
theorem dL_law_1503 : decode cL_law 1503 = .ok (.aload_n 0, 1) := by decide +kernel
theorem dL_law_1504 : decode cL_law 1504 = .ok (.iload_n 3, 1) := by decide +kernel
theorem dL_law_1505 : decode cL_law 1505 = .ok (.iconst 2, 1) := by decide +kernel
theorem dL_law_1506 : decode cL_law 1506 = .ok (.iadd, 1) := by decide +kernel
theorem dL_law_1507 : decode cL_law 1507 = .ok (.iaload, 1) := by decide +kernel
theorem dL_law_1508 : decode cL_law 1508 = .ok (.aload_n 0, 1) := by decide +kernel
theorem dL_law_1509 : decode cL_law 1509 = .ok (.iload_n 3, 1) := by decide +kernel
theorem dL_law_1510 : decode cL_law 1510 = .ok (.iconst 3, 1) := by decide +kernel
theorem dL_law_1511 : decode cL_law 1511 = .ok (.iadd, 1) := by decide +kernel
theorem dL_law_1512 : decode cL_law 1512 = .ok (.iaload, 1) := by decide +kernel
theorem dL_law_1513 : decode cL_law 1513 = .ok (.invokevirtual 178, 3) := by decide +kernel
theorem dL_law_1516 : decode cL_law 1516 = .ok (.if_icmp .eq 110, 3) := by decide +kernel
theorem dL_law_1519 : decode cL_law 1519 = .ok (.iconst 0, 1) := by decide +kernel
theorem dL_law_1520 : decode cL_law 1520 = .ok (.ireturn, 1) := by decide +kernel
theorem dL_law_1521 : decode cL_law 1521 = .ok (.aload_n 1, 1) := by decide +kernel
theorem dL_law_1522 : decode cL_law 1522 = .ok (.aload_n 0, 1) := by decide +kernel
theorem dL_law_1523 : decode cL_law 1523 = .ok (.iload_n 3, 1) := by decide +kernel
theorem dL_law_1524 : decode cL_law 1524 = .ok (.iconst 1, 1) := by decide +kernel
theorem dL_law_1525 : decode cL_law 1525 = .ok (.iadd, 1) := by decide +kernel
theorem dL_law_1526 : decode cL_law 1526 = .ok (.iaload, 1) := by decide +kernel
theorem dL_law_1527 : decode cL_law 1527 = .ok (.invokevirtual 179, 3) := by decide +kernel
theorem dL_law_1530 : decode cL_law 1530 = .ok (.aload_n 2, 1) := by decide +kernel
theorem dL_law_1531 : decode cL_law 1531 = .ok (.aload_n 0, 1) := by decide +kernel
theorem dL_law_1532 : decode cL_law 1532 = .ok (.iload_n 3, 1) := by decide +kernel
theorem dL_law_1533 : decode cL_law 1533 = .ok (.iconst 1, 1) := by decide +kernel
theorem dL_law_1534 : decode cL_law 1534 = .ok (.iadd, 1) := by decide +kernel
theorem dL_law_1535 : decode cL_law 1535 = .ok (.iaload, 1) := by decide +kernel
theorem dL_law_1536 : decode cL_law 1536 = .ok (.invokevirtual 182, 3) := by decide +kernel
theorem dL_law_1539 : decode cL_law 1539 = .ok (.if_icmp .eq 87, 3) := by decide +kernel
theorem dL_law_1542 : decode cL_law 1542 = .ok (.iconst 0, 1) := by decide +kernel
theorem dL_law_1543 : decode cL_law 1543 = .ok (.ireturn, 1) := by decide +kernel
theorem dL_law_1544 : decode cL_law 1544 = .ok (.aload_n 1, 1) := by decide +kernel
theorem dL_law_1545 : decode cL_law 1545 = .ok (.aload_n 0, 1) := by decide +kernel
theorem dL_law_1546 : decode cL_law 1546 = .ok (.iload_n 3, 1) := by decide +kernel
theorem dL_law_1547 : decode cL_law 1547 = .ok (.iconst 1, 1) := by decide +kernel
theorem dL_law_1548 : decode cL_law 1548 = .ok (.iadd, 1) := by decide +kernel
theorem dL_law_1549 : decode cL_law 1549 = .ok (.iaload, 1) := by decide +kernel
theorem dL_law_1550 : decode cL_law 1550 = .ok (.aload_n 0, 1) := by decide +kernel
theorem dL_law_1551 : decode cL_law 1551 = .ok (.iload_n 3, 1) := by decide +kernel
theorem dL_law_1552 : decode cL_law 1552 = .ok (.iconst 2, 1) := by decide +kernel
theorem dL_law_1553 : decode cL_law 1553 = .ok (.iadd, 1) := by decide +kernel
theorem dL_law_1554 : decode cL_law 1554 = .ok (.iaload, 1) := by decide +kernel
theorem dL_law_1555 : decode cL_law 1555 = .ok (.invokevirtual 183, 3) := by decide +kernel
theorem dL_law_1558 : decode cL_law 1558 = .ok (.aload_n 2, 1) := by decide +kernel
theorem dL_law_1559 : decode cL_law 1559 = .ok (.aload_n 0, 1) := by decide +kernel
theorem dL_law_1560 : decode cL_law 1560 = .ok (.iload_n 3, 1) := by decide +kernel
theorem dL_law_1561 : decode cL_law 1561 = .ok (.iconst 1, 1) := by decide +kernel
theorem dL_law_1562 : decode cL_law 1562 = .ok (.iadd, 1) := by decide +kernel
theorem dL_law_1563 : decode cL_law 1563 = .ok (.iaload, 1) := by decide +kernel
theorem dL_law_1564 : decode cL_law 1564 = .ok (.aload_n 0, 1) := by decide +kernel
theorem dL_law_1565 : decode cL_law 1565 = .ok (.iload_n 3, 1) := by decide +kernel
theorem dL_law_1566 : decode cL_law 1566 = .ok (.iconst 2, 1) := by decide +kernel
theorem dL_law_1567 : decode cL_law 1567 = .ok (.iadd, 1) := by decide +kernel
theorem dL_law_1568 : decode cL_law 1568 = .ok (.iaload, 1) := by decide +kernel
theorem dL_law_1569 : decode cL_law 1569 = .ok (.invokevirtual 186, 3) := by decide +kernel
theorem dL_law_1572 : decode cL_law 1572 = .ok (.if_icmp .eq 54, 3) := by decide +kernel
theorem dL_law_1575 : decode cL_law 1575 = .ok (.iconst 0, 1) := by decide +kernel
theorem dL_law_1576 : decode cL_law 1576 = .ok (.ireturn, 1) := by decide +kernel
theorem dL_law_1577 : decode cL_law 1577 = .ok (.aload_n 1, 1) := by decide +kernel
theorem dL_law_1578 : decode cL_law 1578 = .ok (.aload_n 0, 1) := by decide +kernel
theorem dL_law_1579 : decode cL_law 1579 = .ok (.iload_n 3, 1) := by decide +kernel
theorem dL_law_1580 : decode cL_law 1580 = .ok (.iconst 1, 1) := by decide +kernel
theorem dL_law_1581 : decode cL_law 1581 = .ok (.iadd, 1) := by decide +kernel
theorem dL_law_1582 : decode cL_law 1582 = .ok (.iaload, 1) := by decide +kernel
theorem dL_law_1583 : decode cL_law 1583 = .ok (.invokevirtual 187, 3) := by decide +kernel
theorem dL_law_1586 : decode cL_law 1586 = .ok (.aload_n 2, 1) := by decide +kernel
theorem dL_law_1587 : decode cL_law 1587 = .ok (.aload_n 0, 1) := by decide +kernel
theorem dL_law_1588 : decode cL_law 1588 = .ok (.iload_n 3, 1) := by decide +kernel
theorem dL_law_1589 : decode cL_law 1589 = .ok (.iconst 1, 1) := by decide +kernel
theorem dL_law_1590 : decode cL_law 1590 = .ok (.iadd, 1) := by decide +kernel
theorem dL_law_1591 : decode cL_law 1591 = .ok (.iaload, 1) := by decide +kernel
theorem dL_law_1592 : decode cL_law 1592 = .ok (.invokevirtual 190, 3) := by decide +kernel
theorem dL_law_1595 : decode cL_law 1595 = .ok (.if_icmp .eq 31, 3) := by decide +kernel
theorem dL_law_1598 : decode cL_law 1598 = .ok (.iconst 0, 1) := by decide +kernel
theorem dL_law_1599 : decode cL_law 1599 = .ok (.ireturn, 1) := by decide +kernel
theorem dL_law_1600 : decode cL_law 1600 = .ok (.aload_n 1, 1) := by decide +kernel
theorem dL_law_1601 : decode cL_law 1601 = .ok (.invokevirtual 191, 3) := by decide +kernel
theorem dL_law_1604 : decode cL_law 1604 = .ok (.aload_n 2, 1) := by decide +kernel
theorem dL_law_1605 : decode cL_law 1605 = .ok (.invokevirtual 194, 3) := by decide +kernel
theorem dL_law_1608 : decode cL_law 1608 = .ok (.if_icmp .eq 18, 3) := by decide +kernel
theorem dL_law_1611 : decode cL_law 1611 = .ok (.iconst 0, 1) := by decide +kernel
theorem dL_law_1612 : decode cL_law 1612 = .ok (.ireturn, 1) := by decide +kernel
theorem dL_law_1613 : decode cL_law 1613 = .ok (.aload_n 1, 1) := by decide +kernel
theorem dL_law_1614 : decode cL_law 1614 = .ok (.invokevirtual 195, 3) := by decide +kernel
theorem dL_law_1617 : decode cL_law 1617 = .ok (.aload_n 2, 1) := by decide +kernel
theorem dL_law_1618 : decode cL_law 1618 = .ok (.invokevirtual 198, 3) := by decide +kernel
theorem dL_law_1621 : decode cL_law 1621 = .ok (.if_icmp .eq 5, 3) := by decide +kernel
theorem dL_law_1624 : decode cL_law 1624 = .ok (.iconst 0, 1) := by decide +kernel
theorem dL_law_1625 : decode cL_law 1625 = .ok (.ireturn, 1) := by decide +kernel
theorem dL_law_1626 : decode cL_law 1626 = .ok (.iinc 3 4, 3) := by decide +kernel
theorem dL_law_1629 : decode cL_law 1629 = .ok (.goto (-1611), 3) := by decide +kernel
theorem dL_law_1632 : decode cL_law 1632 = .ok (.iconst 1, 1) := by decide +kernel
theorem dL_law_1633 : decode cL_law 1633 = .ok (.ireturn, 1) := by decide +kernel
section UG
variable {p : Program} {l : Launch} {e : Env} {R : Room} {s : State} {m : MethodId} {args : Array Value} {below : List Frame} {meth : Method} {c : Code} {H : Heap} {locs : List Loc} {cells slots : Nat} {Q : State → Prop}
variable {cc : ByteArray} {nL fr lo pc : Nat} {own : String} {ls : Array Slot} {rest : List Value} {D : va_G} {ad : Nat → Nat} {cs : Nat → ClassId} {sd : Nat → Nat} {A : Nat → Prop} {z z1 : MS}
theorem u_backG {v0 : Option Value} {z1 : MS} {st0 : List Value} {a : Array Value} (X : UC p s m args meth c cc nL own R fr lo D ad cs sd A) (hS : va_S A s.heap H locs)
    (hr : va_Run p l e R s m args below meth c H locs cells slots 0 0 (F0 m pc ls st0) rest (QU v0 D ad cs z1 (WA ad H.size) a) (WA ad H.size))
    (k : ∀ (H : Heap) (locs : List Loc), va_P D clss (wld cs ad z1) H → va_S A s.heap H locs → W p l e R s m args below meth c H locs cells slots Q (F0 m (pc + 3) ls (v0.toList ++ rest))) : W p l e R s m args below meth c H locs cells slots Q (F0 m pc ls st0) := by
  intro T hT X1
  obtain ⟨v, st₀, t, T', L, h0, X', hL, e1, e2, ⟨hv, hp, hz, hk⟩, st⟩ := hr T hT X1
  cases hv
  rw [h0] at hz hk
  have hA := u_WA X hS
  obtain ⟨t2, a1, b1⟩ := k T'.heap (locs ++ L) (by rw [e1]; exact hp)
    ⟨Nat.le_trans hS.1 (by rw [e1]; exact hz), fun q h1 h2 => by rw [e1, hk q (Nat.lt_of_lt_of_le h1 hS.1) (fun z => h2 (hA q z))]; exact hS.2.1 q h1 h2, fun q hq => by
      rcases List.mem_append.mp hq with h | h
      · exact hS.2.2 q h
      · exact hA _ (hL q h)⟩ T' rfl X'
  exact ⟨t2, st t2 a1, b1⟩
theorem u_callVG {y : MethodName} {bytes : ByteArray} {maxL n fr1 lo1 index : Nat} {ret : Option FieldType} {avs : (Nat → Nat) → (Nat → Nat) → List Value} {z z1 : MS} {v0 : Option Value} {As : List Value} {i0 : Nat} {C : String} {st : List Value} {lv : List (Nat × Value)} (hcs : cells ≤ R.cells ∧ slots ≤ R.slots) (X : UC p s m args meth c cc nL own R fr lo D ad cs sd A) (hP : va_P D clss (wld cs ad z) H) (hS : va_S A s.heap H locs) (hl : lv_has ls nL lv)
    (hC : CT l y bytes maxL ret fr1 lo1 avs z v0 z1) (hM : CWV own index C y bytes maxL ret n) (ho : isO i0 C)
    (ha : avs ad sd = .ref (ad i0) :: As) (hn : As.length = n) (hst : st = As.reverse ++ .ref (ad i0) :: rest) (hW : Nat.ble (rest.map fun v => v.category).sum 8 = true) (hR : Nat.ble (fr1 + 1) fr = true ∧ Nat.ble (8 + (maxL + 11) + lo1) lo = true) (d : decode cc pc = .ok (.invokevirtual index, 3))
    (k : ∀ (H : Heap) (locs : List Loc), va_P D clss (wld cs ad z1) H → va_S A s.heap H locs → W p l e R s m args below meth c H locs cells slots Q (F0 m (pc + 3) ls (v0.toList ++ rest))) : W p l e R s m args below meth c H locs cells slots Q (F0 m pc ls st) := by
  subst hst
  obtain ⟨hM, hw, hi, hs⟩ := hM
  obtain ⟨ci, T, N, fs, he, hc⟩ := ho cs ad z
  refine u_backG X hS (va_runV (Ts := TBL) (own := own) (nL := nL) (ws := .code y bytes maxL ret :: TBL) (rm := { frames := fr1, cells := 0, slots := 0, locals := lo1 }) ⟨X.1, X.2.1, X.2.2.1, X.2.2.2.1, X.2.2.2.2.1⟩ (hC D ad cs sd H.size X.2.2.2.2.2.2.2.2.1)
    ⟨⟨rfl, rfl, Nat.le_trans (Nat.le_of_ble_eq_true hR.1) X.2.2.2.2.2.2.2.2.2.2.2.2.1, Nat.le_trans (Nat.le_of_ble_eq_true hR.2) X.2.2.2.2.2.2.2.2.2.2.2.2.2.1, pay_in X.2.2.2.2.1 (tb_good (tb_cons hM.1)), List.mem_cons_self, X.2.2.2.2.1 _ hM.1, X.2.2.2.2.1 _ hM.2.1, ⟨hM.2.2.1, hM.2.2.2.1⟩, fun sig h => ?_, X.2.2.2.2.1 _ hw⟩, X.2.2.2.2.1 _ hi, X.2.2.2.2.1 _ hs⟩
    (by rw [ha]; exact ⟨u_blind, va_recv X.2.2.2.2.2.2.1 hP hc he, fun U hU hW => ⟨rfl, u_pre X hP hS hU hW⟩⟩) rfl hn hl.1 rfl (lv_room (Nat.le_of_ble_eq_true hW)) d ⟨hcs.1, hcs.2⟩) k
  have h2 := hM.2.2.2.2
  rw [h] at h2
  exact (Option.some.inj h2).symm
theorem u_callViG {y : MethodName} {bytes : ByteArray} {maxL n fr1 lo1 index : Nat} {ret : Option FieldType} {avs : (Nat → Nat) → (Nat → Nat) → List Value} {z z1 : MS} {v : Int32} {As : List Value} {i0 : Nat} {C : String} {st : List Value} {lv : List (Nat × Value)} (hcs : cells ≤ R.cells ∧ slots ≤ R.slots) (X : UC p s m args meth c cc nL own R fr lo D ad cs sd A) (hP : va_P D clss (wld cs ad z) H) (hS : va_S A s.heap H locs) (hl : lv_has ls nL lv) (d : decode cc pc = .ok (.invokevirtual index, 3)) (hC : CT l y bytes maxL ret fr1 lo1 avs z (some (.int v)) z1) (hM : CWV own index C y bytes maxL ret n) (ho : isO i0 C) (ha : avs ad sd = .ref (ad i0) :: As) (hn : As.length = n) (hst : st = As.reverse ++ .ref (ad i0) :: rest) (hW : Nat.ble (rest.map fun v => v.category).sum 8 = true) (hR : Nat.ble (fr1 + 1) fr = true ∧ Nat.ble (8 + (maxL + 11) + lo1) lo = true) (k : ∀ (H : Heap) (locs : List Loc), va_P D clss (wld cs ad z1) H → va_S A s.heap H locs → W p l e R s m args below meth c H locs cells slots Q (F0 m (pc + 3) ls (.int v :: rest))) : W p l e R s m args below meth c H locs cells slots Q (F0 m pc ls st) := u_callVG hcs X hP hS hl hC hM ho ha hn hst hW hR d k
theorem u_callVlG {y : MethodName} {bytes : ByteArray} {maxL n fr1 lo1 index : Nat} {ret : Option FieldType} {avs : (Nat → Nat) → (Nat → Nat) → List Value} {z z1 : MS} {v : Int64} {As : List Value} {i0 : Nat} {C : String} {st : List Value} {lv : List (Nat × Value)} (hcs : cells ≤ R.cells ∧ slots ≤ R.slots) (X : UC p s m args meth c cc nL own R fr lo D ad cs sd A) (hP : va_P D clss (wld cs ad z) H) (hS : va_S A s.heap H locs) (hl : lv_has ls nL lv) (d : decode cc pc = .ok (.invokevirtual index, 3)) (hC : CT l y bytes maxL ret fr1 lo1 avs z (some (.long v)) z1) (hM : CWV own index C y bytes maxL ret n) (ho : isO i0 C) (ha : avs ad sd = .ref (ad i0) :: As) (hn : As.length = n) (hst : st = As.reverse ++ .ref (ad i0) :: rest) (hW : Nat.ble (rest.map fun v => v.category).sum 8 = true) (hR : Nat.ble (fr1 + 1) fr = true ∧ Nat.ble (8 + (maxL + 11) + lo1) lo = true) (k : ∀ (H : Heap) (locs : List Loc), va_P D clss (wld cs ad z1) H → va_S A s.heap H locs → W p l e R s m args below meth c H locs cells slots Q (F0 m (pc + 3) ls (.long v :: rest))) : W p l e R s m args below meth c H locs cells slots Q (F0 m pc ls st) := u_callVG hcs X hP hS hl hC hM ho ha hn hst hW hR d k
theorem u_slen {b L : Nat} {xs : Nat → Int32} (X : UC p s m args meth c cc nL own R fr lo D ad cs sd A) (hX : va_X b L xs s s.heap) (hbl : b < s.heap.size) (hbA : ¬ A b) (hS : va_S A s.heap H locs) (d : decode cc pc = .ok (.arraylength, 1)) (k : W p l e R s m args below meth c H locs cells slots Q (F0 m (pc + 1) ls (.int (nI L) :: rest))) : W p l e R s m args below meth c H locs cells slots Q (F0 m pc ls (.ref b :: rest)) := va_slen X.1 X.2.1 hX hbl hbA hS d k
end UG
set_option maxRecDepth 20000 in
theorem cw_L_102 : CWV RL 102 RX10 yX10_broken cX10_broken 2 (some .int) 1 := ⟨me_X10_broken, tb_c6 208 rfl rfl, mi_X10_broken, mz_X10_broken⟩
set_option maxRecDepth 20000 in
theorem cw_L_103 : CWV RL 103 RX9 yX9_mended cX9_mended 3 (some .int) 2 := ⟨me_X9_mended, tb_c3 220 rfl rfl, mi_X9_mended, mz_X9_mended⟩
set_option maxRecDepth 20000 in
theorem cw_L_106 : CWV RL 106 RX10 yX10_mended cX10_mended 7 (some .int) 2 := ⟨me_X10_mended, tb_c6 216 rfl rfl, mi_X10_mended, mz_X10_mended⟩
set_option maxRecDepth 20000 in
theorem cw_L_107 : CWV RL 107 RX9 yX9_ahead cX9_ahead 3 (some .int) 2 := ⟨me_X9_ahead, tb_c4 18 rfl rfl, mi_X9_ahead, mz_X9_ahead⟩
set_option maxRecDepth 20000 in
theorem cw_L_110 : CWV RL 110 RX10 yX10_ahead cX10_ahead 5 (some .int) 2 := ⟨me_X10_ahead, tb_c6 232 rfl rfl, mi_X10_ahead, mz_X10_ahead⟩
set_option maxRecDepth 20000 in
theorem cw_L_111 : CWV RL 111 RX9 yX9_lot cX9_lot 4 (some .long) 3 := ⟨me_X9_lot, tb_c4 39 rfl rfl, mi_X9_lot, mz_X9_lot⟩
set_option maxRecDepth 20000 in
theorem cw_L_114 : CWV RL 114 RX10 yX10_lot cX10_lot 11 (some .long) 3 := ⟨me_X10_lot, tb_c7 8 rfl rfl, mi_X10_lot, mz_X10_lot⟩
set_option maxRecDepth 20000 in
theorem cw_L_115 : CWV RL 115 RX9 yX9_sat cX9_sat 3 (some .int) 2 := ⟨me_X9_sat, tb_c4 67 rfl rfl, mi_X9_sat, mz_X9_sat⟩
set_option maxRecDepth 20000 in
theorem cw_L_118 : CWV RL 118 RX10 yX10_sat cX10_sat 3 (some .int) 2 := ⟨me_X10_sat, tb_c7 0 rfl rfl, mi_X10_sat, mz_X10_sat⟩
set_option maxRecDepth 20000 in
theorem cw_L_119 : CWV RL 119 RX9 yX9_suspects cX9_suspects 3 (some .int) 1 := ⟨me_X9_suspects, tb_c4 72 rfl rfl, mi_X9_suspects, mz_X9_suspects⟩
set_option maxRecDepth 20000 in
theorem cw_L_122 : CWV RL 122 RX10 yX10_suspects cX10_suspects 8 (some .int) 1 := ⟨me_X10_suspects, tb_c7 19 rfl rfl, mi_X10_suspects, mz_X10_suspects⟩
set_option maxRecDepth 20000 in
theorem cw_L_123 : CWV RL 123 RX9 yX9_plan cX9_plan 3 (some .int) 2 := ⟨me_X9_plan, tb_c4 85 rfl rfl, mi_X9_plan, mz_X9_plan⟩
set_option maxRecDepth 20000 in
theorem cw_L_126 : CWV RL 126 RX10 yX10_plan cX10_plan 3 (some .int) 2 := ⟨me_X10_plan, tb_c7 23 rfl rfl, mi_X10_plan, mz_X10_plan⟩
set_option maxRecDepth 20000 in
theorem cw_L_127 : CWV RL 127 RX9 yX9_planOf cX9_planOf 3 (some .int) 2 := ⟨me_X9_planOf, tb_c4 93 rfl rfl, mi_X9_planOf, mz_X9_planOf⟩
set_option maxRecDepth 20000 in
theorem cw_L_130 : CWV RL 130 RX10 yX10_planOf cX10_planOf 3 (some .int) 2 := ⟨me_X10_planOf, tb_c7 27 rfl rfl, mi_X10_planOf, mz_X10_planOf⟩
set_option maxRecDepth 20000 in
theorem cw_L_131 : CWV RL 131 RX9 yX9_fill cX9_fill 3 (some .int) 2 := ⟨me_X9_fill, tb_c4 101 rfl rfl, mi_X9_fill, mz_X9_fill⟩
set_option maxRecDepth 20000 in
theorem cw_L_134 : CWV RL 134 RX10 yX10_fill cX10_fill 8 (some .int) 2 := ⟨me_X10_fill, tb_c7 35 rfl rfl, mi_X10_fill, mz_X10_fill⟩
set_option maxRecDepth 20000 in
theorem cw_L_135 : CWV RL 135 RX9 yX9_seed cX9_seed 3 (some .int) 1 := ⟨me_X9_seed, tb_c4 154 rfl rfl, mi_X9_seed, mz_X9_seed⟩
set_option maxRecDepth 20000 in
theorem cw_L_138 : CWV RL 138 RX10 yX10_seed cX10_seed 3 (some .int) 1 := ⟨me_X10_seed, tb_c7 63 rfl rfl, mi_X10_seed, mz_X10_seed⟩
set_option maxRecDepth 20000 in
theorem cw_L_139 : CWV RL 139 RX9 yX9_prove cX9_prove 1 (some .int) 0 := ⟨me_X9_prove, tb_c4 158 rfl rfl, mi_X9_prove, mz_X9_prove⟩
set_option maxRecDepth 20000 in
theorem cw_L_142 : CWV RL 142 RX10 yX10_prove cX10_prove 2 (some .int) 0 := ⟨me_X10_prove, tb_c7 67 rfl rfl, mi_X10_prove, mz_X10_prove⟩
set_option maxRecDepth 20000 in
theorem cw_L_143 : CWV RL 143 RX9 yX9_row cX9_row 3 (some .int) 2 := ⟨me_X9_row, tb_c4 173 rfl rfl, mi_X9_row, mz_X9_row⟩
set_option maxRecDepth 20000 in
theorem cw_L_146 : CWV RL 146 RX10 yX10_row cX10_row 3 (some .int) 2 := ⟨me_X10_row, tb_c7 75 rfl rfl, mi_X10_row, mz_X10_row⟩
set_option maxRecDepth 20000 in
theorem cw_L_147 : CWV RL 147 RX9 yX9_alterRow cX9_alterRow 6 (some .int) 3 := ⟨me_X9_alterRow, tb_c4 181 rfl rfl, mi_X9_alterRow, mz_X9_alterRow⟩
set_option maxRecDepth 20000 in
theorem cw_L_15 : CWV RL 15 RX9 yX9_feed cX9_feed 4 (some .int) 2 := ⟨me_X9_feed, tb_c2 75 rfl rfl, mi_X9_feed, mz_X9_feed⟩
set_option maxRecDepth 20000 in
theorem cw_L_150 : CWV RL 150 RX10 yX10_alterRow cX10_alterRow 5 (some .int) 3 := ⟨me_X10_alterRow, tb_c7 83 rfl rfl, mi_X10_alterRow, mz_X10_alterRow⟩
set_option maxRecDepth 20000 in
theorem cw_L_151 : CWV RL 151 RX9 yX9_judge cX9_judge 1 (some .int) 0 := ⟨me_X9_judge, tb_c4 185 rfl rfl, mi_X9_judge, mz_X9_judge⟩
set_option maxRecDepth 20000 in
theorem cw_L_154 : CWV RL 154 RX10 yX10_judge cX10_judge 2 (some .int) 0 := ⟨me_X10_judge, tb_c7 87 rfl rfl, mi_X10_judge, mz_X10_judge⟩
set_option maxRecDepth 20000 in
theorem cw_L_155 : CWV RL 155 RX9 yX9_sheet cX9_sheet 4 (some .int) 3 := ⟨me_X9_sheet, tb_c4 193 rfl rfl, mi_X9_sheet, mz_X9_sheet⟩
set_option maxRecDepth 20000 in
theorem cw_L_158 : CWV RL 158 RX10 yX10_sheet cX10_sheet 5 (some .int) 3 := ⟨me_X10_sheet, tb_c7 102 rfl rfl, mi_X10_sheet, mz_X10_sheet⟩
set_option maxRecDepth 20000 in
theorem cw_L_159 : CWV RL 159 RX9 yX9_put cX9_put 4 (some .int) 3 := ⟨me_X9_put, tb_c4 204 rfl rfl, mi_X9_put, mz_X9_put⟩
set_option maxRecDepth 20000 in
theorem cw_L_162 : CWV RL 162 RX10 yX10_put cX10_put 4 (some .int) 3 := ⟨me_X10_put, tb_c7 106 rfl rfl, mi_X10_put, mz_X10_put⟩
set_option maxRecDepth 20000 in
theorem cw_L_163 : CWV RL 163 RX9 yX9_item cX9_item 4 (some .int) 3 := ⟨me_X9_item, tb_c4 216 rfl rfl, mi_X9_item, mz_X9_item⟩
set_option maxRecDepth 20000 in
theorem cw_L_166 : CWV RL 166 RX10 yX10_item cX10_item 5 (some .int) 3 := ⟨me_X10_item, tb_c7 110 rfl rfl, mi_X10_item, mz_X10_item⟩
set_option maxRecDepth 20000 in
theorem cw_L_167 : CWV RL 167 RX9 yX9_shelf cX9_shelf 4 (some .int) 3 := ⟨me_X9_shelf, tb_c4 220 rfl rfl, mi_X9_shelf, mz_X9_shelf⟩
set_option maxRecDepth 20000 in
theorem cw_L_170 : CWV RL 170 RX10 yX10_shelf cX10_shelf 4 (some .int) 3 := ⟨me_X10_shelf, tb_c7 114 rfl rfl, mi_X10_shelf, mz_X10_shelf⟩
set_option maxRecDepth 20000 in
theorem cw_L_171 : CWV RL 171 RX9 yX9_taken cX9_taken 6 (some .int) 2 := ⟨me_X9_taken, tb_c4 236 rfl rfl, mi_X9_taken, mz_X9_taken⟩
set_option maxRecDepth 20000 in
theorem cw_L_174 : CWV RL 174 RX10 yX10_taken cX10_taken 4 (some .int) 2 := ⟨me_X10_taken, tb_c7 122 rfl rfl, mi_X10_taken, mz_X10_taken⟩
set_option maxRecDepth 20000 in
theorem cw_L_175 : CWV RL 175 RX9 yX9_act cX9_act 5 (some .int) 3 := ⟨me_X9_act, tb_c5 17 rfl rfl, mi_X9_act, mz_X9_act⟩
set_option maxRecDepth 20000 in
theorem cw_L_178 : CWV RL 178 RX10 yX10_act cX10_act 6 (some .int) 3 := ⟨me_X10_act, tb_c7 133 rfl rfl, mi_X10_act, mz_X10_act⟩
set_option maxRecDepth 20000 in
theorem cw_L_179 : CWV RL 179 RX9 yX9_trace cX9_trace 2 (some .int) 1 := ⟨me_X9_trace, tb_c5 45 rfl rfl, mi_X9_trace, mz_X9_trace⟩
set_option maxRecDepth 20000 in
theorem cw_L_182 : CWV RL 182 RX10 yX10_trace cX10_trace 2 (some .int) 1 := ⟨me_X10_trace, tb_c7 177 rfl rfl, mi_X10_trace, mz_X10_trace⟩
set_option maxRecDepth 20000 in
theorem cw_L_183 : CWV RL 183 RX9 yX9_days cX9_days 6 (some .int) 2 := ⟨me_X9_days, tb_c5 49 rfl rfl, mi_X9_days, mz_X9_days⟩
set_option maxRecDepth 20000 in
theorem cw_L_186 : CWV RL 186 RX10 yX10_days cX10_days 7 (some .int) 2 := ⟨me_X10_days, tb_c7 91 rfl rfl, mi_X10_days, mz_X10_days⟩
set_option maxRecDepth 20000 in
theorem cw_L_187 : CWV RL 187 RX9 yX9_many cX9_many 2 (some .int) 1 := ⟨me_X9_many, tb_c5 54 rfl rfl, mi_X9_many, mz_X9_many⟩
set_option maxRecDepth 20000 in
theorem cw_L_19 : CWV RL 19 RX10 yX10_feed cX10_feed 5 (some .int) 2 := ⟨me_X10_feed, tb_c5 234 rfl rfl, mi_X10_feed, mz_X10_feed⟩
set_option maxRecDepth 20000 in
theorem cw_L_190 : CWV RL 190 RX10 yX10_many cX10_many 2 (some .int) 1 := ⟨me_X10_many, tb_c7 181 rfl rfl, mi_X10_many, mz_X10_many⟩
set_option maxRecDepth 20000 in
theorem cw_L_191 : CWV RL 191 RX9 yX9_keep cX9_keep 1 (some .int) 0 := ⟨me_X9_keep, tb_c5 59 rfl rfl, mi_X9_keep, mz_X9_keep⟩
set_option maxRecDepth 20000 in
theorem cw_L_194 : CWV RL 194 RX10 yX10_keep cX10_keep 1 (some .int) 0 := ⟨me_X10_keep, tb_c7 185 rfl rfl, mi_X10_keep, mz_X10_keep⟩
set_option maxRecDepth 20000 in
theorem cw_L_195 : CWV RL 195 RX9 yX9_again cX9_again 1 (some .int) 0 := ⟨me_X9_again, tb_c5 69 rfl rfl, mi_X9_again, mz_X9_again⟩
set_option maxRecDepth 20000 in
theorem cw_L_198 : CWV RL 198 RX10 yX10_again cX10_again 1 (some .int) 0 := ⟨me_X10_again, tb_c7 197 rfl rfl, mi_X10_again, mz_X10_again⟩
set_option maxRecDepth 20000 in
theorem cw_L_20 : CWV RL 20 RX9 yX9_house cX9_house 2 (some .int) 0 := ⟨me_X9_house, tb_c2 83 rfl rfl, mi_X9_house, mz_X9_house⟩
set_option maxRecDepth 20000 in
theorem cw_L_24 : CWV RL 24 RX10 yX10_house cX10_house 2 (some .int) 0 := ⟨me_X10_house, tb_c6 2 rfl rfl, mi_X10_house, mz_X10_house⟩
set_option maxRecDepth 20000 in
theorem cw_L_25 : CWV RL 25 RX9 yX9_person cX9_person 1 (some .int) 0 := ⟨me_X9_person, tb_c3 8 rfl rfl, mi_X9_person, mz_X9_person⟩
set_option maxRecDepth 20000 in
theorem cw_L_28 : CWV RL 28 RX10 yX10_person cX10_person 2 (some .int) 0 := ⟨me_X10_person, tb_c6 73 rfl rfl, mi_X10_person, mz_X10_person⟩
set_option maxRecDepth 20000 in
theorem cw_L_29 : CWV RL 29 RX9 yX9_kin cX9_kin 4 (some .int) 3 := ⟨me_X9_kin, tb_c3 13 rfl rfl, mi_X9_kin, mz_X9_kin⟩
set_option maxRecDepth 20000 in
theorem cw_L_33 : CWV RL 33 RX10 yX10_kin cX10_kin 4 (some .int) 3 := ⟨me_X10_kin, tb_c6 77 rfl rfl, mi_X10_kin, mz_X10_kin⟩
set_option maxRecDepth 20000 in
theorem cw_L_34 : CWV RL 34 RX9 yX9_trust cX9_trust 6 (some .int) 3 := ⟨me_X9_trust, tb_c3 26 rfl rfl, mi_X9_trust, mz_X9_trust⟩
set_option maxRecDepth 20000 in
theorem cw_L_38 : CWV RL 38 RX10 yX10_trust cX10_trust 5 (some .int) 3 := ⟨me_X10_trust, tb_c6 93 rfl rfl, mi_X10_trust, mz_X10_trust⟩
set_option maxRecDepth 20000 in
theorem cw_L_39 : CWV RL 39 RX9 yX9_away cX9_away 4 (some .int) 3 := ⟨me_X9_away, tb_c3 31 rfl rfl, mi_X9_away, mz_X9_away⟩
set_option maxRecDepth 20000 in
theorem cw_L_42 : CWV RL 42 RX10 yX10_away cX10_away 4 (some .int) 3 := ⟨me_X10_away, tb_c6 97 rfl rfl, mi_X10_away, mz_X10_away⟩
set_option maxRecDepth 20000 in
theorem cw_L_43 : CWV RL 43 RX9 yX9_set cX9_set 4 (some .int) 2 := ⟨me_X9_set, tb_c3 40 rfl rfl, mi_X9_set, mz_X9_set⟩
set_option maxRecDepth 20000 in
theorem cw_L_47 : CWV RL 47 RX10 yX10_set cX10_set 4 (some .int) 2 := ⟨me_X10_set, tb_c6 108 rfl rfl, mi_X10_set, mz_X10_set⟩
set_option maxRecDepth 20000 in
theorem cw_L_48 : CWV RL 48 RX9 yX9_law cX9_law 2 (some .int) 1 := ⟨me_X9_law, tb_c3 45 rfl rfl, mi_X9_law, mz_X9_law⟩
set_option maxRecDepth 20000 in
theorem cw_L_52 : CWV RL 52 RX10 yX10_law cX10_law 2 (some .int) 1 := ⟨me_X10_law, tb_c6 115 rfl rfl, mi_X10_law, mz_X10_law⟩
set_option maxRecDepth 20000 in
theorem cw_L_53 : CWV RL 53 RX9 yX9_post cX9_post 5 (some .int) 3 := ⟨me_X9_post, tb_c3 49 rfl rfl, mi_X9_post, mz_X9_post⟩
set_option maxRecDepth 20000 in
theorem cw_L_56 : CWV RL 56 RX10 yX10_post cX10_post 5 (some .int) 3 := ⟨me_X10_post, tb_c6 119 rfl rfl, mi_X10_post, mz_X10_post⟩
set_option maxRecDepth 20000 in
theorem cw_L_57 : CWV RL 57 RX9 yX9_postOf cX9_postOf 4 (some .int) 2 := ⟨me_X9_postOf, tb_c3 64 rfl rfl, mi_X9_postOf, mz_X9_postOf⟩
set_option maxRecDepth 20000 in
theorem cw_L_60 : CWV RL 60 RX10 yX10_postOf cX10_postOf 3 (some .int) 2 := ⟨me_X10_postOf, tb_c6 129 rfl rfl, mi_X10_postOf, mz_X10_postOf⟩
set_option maxRecDepth 20000 in
theorem cw_L_61 : CWV RL 61 RX9 yX9_surprise cX9_surprise 3 (some .int) 2 := ⟨me_X9_surprise, tb_c3 68 rfl rfl, mi_X9_surprise, mz_X9_surprise⟩
set_option maxRecDepth 20000 in
theorem cw_L_65 : CWV RL 65 RX10 yX10_surprise cX10_surprise 3 (some .int) 2 := ⟨me_X10_surprise, tb_c6 133 rfl rfl, mi_X10_surprise, mz_X10_surprise⟩
set_option maxRecDepth 20000 in
theorem cw_L_66 : CWV RL 66 RX9 yX9_loss cX9_loss 4 (some .int) 2 := ⟨me_X9_loss, tb_c3 80 rfl rfl, mi_X9_loss, mz_X9_loss⟩
set_option maxRecDepth 20000 in
theorem cw_L_69 : CWV RL 69 RX10 yX10_loss cX10_loss 4 (some .int) 2 := ⟨me_X10_loss, tb_c6 137 rfl rfl, mi_X10_loss, mz_X10_loss⟩
set_option maxRecDepth 20000 in
theorem cw_L_70 : CWV RL 70 RX9 yX9_trustOn cX9_trustOn 4 (some .int) 3 := ⟨me_X9_trustOn, tb_c3 84 rfl rfl, mi_X9_trustOn, mz_X9_trustOn⟩
set_option maxRecDepth 20000 in
theorem cw_L_73 : CWV RL 73 RX10 yX10_trustOn cX10_trustOn 4 (some .int) 3 := ⟨me_X10_trustOn, tb_c6 141 rfl rfl, mi_X10_trustOn, mz_X10_trustOn⟩
set_option maxRecDepth 20000 in
theorem cw_L_74 : CWV RL 74 RX9 yX9_seen cX9_seen 2 (some .int) 1 := ⟨me_X9_seen, tb_c3 105 rfl rfl, mi_X9_seen, mz_X9_seen⟩
set_option maxRecDepth 20000 in
theorem cw_L_77 : CWV RL 77 RX10 yX10_seen cX10_seen 2 (some .int) 1 := ⟨me_X10_seen, tb_c6 156 rfl rfl, mi_X10_seen, mz_X10_seen⟩
set_option maxRecDepth 20000 in
theorem cw_L_78 : CWV RL 78 RX9 yX9_worth cX9_worth 2 (some .int) 1 := ⟨me_X9_worth, tb_c3 120 rfl rfl, mi_X9_worth, mz_X9_worth⟩
set_option maxRecDepth 20000 in
theorem cw_L_81 : CWV RL 81 RX10 yX10_worth cX10_worth 2 (some .int) 1 := ⟨me_X10_worth, tb_c6 172 rfl rfl, mi_X10_worth, mz_X10_worth⟩
set_option maxRecDepth 20000 in
theorem cw_L_82 : CWV RL 82 RX9 yX9_pays cX9_pays 1 (some .int) 0 := ⟨me_X9_pays, tb_c3 137 rfl rfl, mi_X9_pays, mz_X9_pays⟩
set_option maxRecDepth 20000 in
theorem cw_L_85 : CWV RL 85 RX10 yX10_pays cX10_pays 3 (some .int) 0 := ⟨me_X10_pays, tb_c6 180 rfl rfl, mi_X10_pays, mz_X10_pays⟩
set_option maxRecDepth 20000 in
theorem cw_L_86 : CWV RL 86 RX9 yX9_best cX9_best 4 (some .long) 3 := ⟨me_X9_best, tb_c3 154 rfl rfl, mi_X9_best, mz_X9_best⟩
set_option maxRecDepth 20000 in
theorem cw_L_90 : CWV RL 90 RX10 yX10_best cX10_best 12 (some .long) 3 := ⟨me_X10_best, tb_c6 188 rfl rfl, mi_X10_best, mz_X10_best⟩
set_option maxRecDepth 20000 in
theorem cw_L_91 : CWV RL 91 RX9 yX9_enough cX9_enough 1 (some .int) 0 := ⟨me_X9_enough, tb_c3 177 rfl rfl, mi_X9_enough, mz_X9_enough⟩
set_option maxRecDepth 20000 in
theorem cw_L_94 : CWV RL 94 RX10 yX10_enough cX10_enough 4 (some .int) 0 := ⟨me_X10_enough, tb_c6 200 rfl rfl, mi_X10_enough, mz_X10_enough⟩
set_option maxRecDepth 20000 in
theorem cw_L_95 : CWV RL 95 RX9 yX9_needed cX9_needed 1 (some .int) 0 := ⟨me_X9_needed, tb_c3 185 rfl rfl, mi_X9_needed, mz_X9_needed⟩
set_option maxRecDepth 20000 in
theorem cw_L_98 : CWV RL 98 RX10 yX10_needed cX10_needed 3 (some .int) 0 := ⟨me_X10_needed, tb_c6 204 rfl rfl, mi_X10_needed, mz_X10_needed⟩
set_option maxRecDepth 20000 in
theorem cw_L_99 : CWV RL 99 RX9 yX9_broken cX9_broken 2 (some .int) 1 := ⟨me_X9_broken, tb_c3 193 rfl rfl, mi_X9_broken, mz_X9_broken⟩
set_option maxRecDepth 20000 in
theorem kw_L_13 : ((Jvm.Cond.constantLong "TillPairsLaw" (13 : Nat) (4294967295 : Int64)) : Cond) ∈ TBL := tb_c7 201 rfl rfl
def fLaw_J364 (xs : Nat → Int32) (L : Nat) (z : MS) (K18 : MS → Int32 → Option (Int32 × MS)) (l3 : Int32) (s0 : Int32) (s2 : Int32) (s3 : Int32) (s4 : Int32) : Option (Int32 × MS) :=
  ob2 (fM_kin z s2 s3 s4) (fun w364 zc364 => if s0 = w364 then K18 zc364 (l3 + 4) else some (0, zc364))
def fLaw_J337 (xs : Nat → Int32) (L : Nat) (z : MS) (K18 : MS → Int32 → Option (Int32 × MS)) (l3 : Int32) (s1 : Int32) (s2 : Int32) (s3 : Int32) : Option (Int32 × MS) :=
  ob2 (fT_kin z s1 s2 s3) (fun w337 zc337 => if (l3 + 1) < 0 ∨ L ≤ (l3 + 1).toNatClampNeg then none else if (l3 + 2) < 0 ∨ L ≤ (l3 + 2).toNatClampNeg then none else if (l3 + 3) < 0 ∨ L ≤ (l3 + 3).toNatClampNeg then none else if (xs (l3 + 3).toNatClampNeg) = 0 then fLaw_J364 xs L zc337 K18 l3 w337 (xs (l3 + 1).toNatClampNeg) (xs (l3 + 2).toNatClampNeg) 0 else fLaw_J364 xs L zc337 K18 l3 w337 (xs (l3 + 1).toNatClampNeg) (xs (l3 + 2).toNatClampNeg) 1)
def fLaw_J466 (xs : Nat → Int32) (L : Nat) (z : MS) (K18 : MS → Int32 → Option (Int32 × MS)) (l3 : Int32) (s0 : Int32) (s2 : Int32) (s3 : Int32) (s4 : Int32) : Option (Int32 × MS) :=
  ob2 (fM_away z s2 s3 s4) (fun w466 zc466 => if s0 = w466 then K18 zc466 (l3 + 4) else some (0, zc466))
def fLaw_J439 (xs : Nat → Int32) (L : Nat) (z : MS) (K18 : MS → Int32 → Option (Int32 × MS)) (l3 : Int32) (s1 : Int32) (s2 : Int32) (s3 : Int32) : Option (Int32 × MS) :=
  ob2 (fT_away z s1 s2 s3) (fun w439 zc439 => if (l3 + 1) < 0 ∨ L ≤ (l3 + 1).toNatClampNeg then none else if (l3 + 2) < 0 ∨ L ≤ (l3 + 2).toNatClampNeg then none else if (l3 + 3) < 0 ∨ L ≤ (l3 + 3).toNatClampNeg then none else if (xs (l3 + 3).toNatClampNeg) = 0 then fLaw_J466 xs L zc439 K18 l3 w439 (xs (l3 + 1).toNatClampNeg) (xs (l3 + 2).toNatClampNeg) 0 else fLaw_J466 xs L zc439 K18 l3 w439 (xs (l3 + 1).toNatClampNeg) (xs (l3 + 2).toNatClampNeg) 1)
def fLaw_J647 (xs : Nat → Int32) (L : Nat) (z : MS) (K18 : MS → Int32 → Option (Int32 × MS)) (l3 : Int32) (s0 : Int32) (s2 : Int32) (s3 : Int32) : Option (Int32 × MS) :=
  ob2 (fM_surprise z s2 s3) (fun w647 zc647 => if s0 = w647 then K18 zc647 (l3 + 4) else some (0, zc647))
def fLaw_J625 (xs : Nat → Int32) (L : Nat) (z : MS) (K18 : MS → Int32 → Option (Int32 × MS)) (l3 : Int32) (s1 : Int32) (s2 : Int32) : Option (Int32 × MS) :=
  ob2 (fT_surprise z s1 s2) (fun w625 zc625 => if (l3 + 1) < 0 ∨ L ≤ (l3 + 1).toNatClampNeg then none else if (l3 + 2) < 0 ∨ L ≤ (l3 + 2).toNatClampNeg then none else if (xs (l3 + 2).toNatClampNeg) = 0 then fLaw_J647 xs L zc625 K18 l3 w625 (xs (l3 + 1).toNatClampNeg) 0 else fLaw_J647 xs L zc625 K18 l3 w625 (xs (l3 + 1).toNatClampNeg) 1)
def fLaw_L18 (xs : Nat → Int32) (L : Nat) : Nat → MS → Int32 → Option (Int32 × MS)
  | 0, _, _ => none
  | n + 1, z, l3 => if ((nI L) - 4) < l3 then some (1, z) else (if l3 < 0 ∨ L ≤ l3.toNatClampNeg then none else if ((xs l3.toNatClampNeg) &&& 63) = 0 then (if (l3 + 1) < 0 ∨ L ≤ (l3 + 1).toNatClampNeg then none else if (l3 + 2) < 0 ∨ L ≤ (l3 + 2).toNatClampNeg then none else if (l3 + 3) < 0 ∨ L ≤ (l3 + 3).toNatClampNeg then none else ob2 (fT_feed z ((jshl ((xs (l3 + 1).toNatClampNeg).toInt64) 32) ||| (((xs (l3 + 2).toNatClampNeg).toInt64) &&& 4294967295)) (xs (l3 + 3).toNatClampNeg)) (fun w250 zc250 => if (l3 + 1) < 0 ∨ L ≤ (l3 + 1).toNatClampNeg then none else if (l3 + 2) < 0 ∨ L ≤ (l3 + 2).toNatClampNeg then none else if (l3 + 3) < 0 ∨ L ≤ (l3 + 3).toNatClampNeg then none else ob2 (fM_feed zc250 ((jshl ((xs (l3 + 1).toNatClampNeg).toInt64) 32) ||| (((xs (l3 + 2).toNatClampNeg).toInt64) &&& 4294967295)) (xs (l3 + 3).toNatClampNeg)) (fun w279 zc279 => if w250 = w279 then fLaw_L18 xs L n zc279 (l3 + 4) else some (0, zc279)))) else if ((xs l3.toNatClampNeg) &&& 63) = 1 then ob2 (fT_house z) (fun w288 zc288 => ob2 (fM_house zc288) (fun w292 zc292 => if w288 = w292 then fLaw_L18 xs L n zc292 (l3 + 4) else some (0, zc292))) else if ((xs l3.toNatClampNeg) &&& 63) = 2 then ob2 (fT_person z) (fun w301 zc301 => ob2 (fM_person zc301) (fun w305 zc305 => if w301 = w305 then fLaw_L18 xs L n zc305 (l3 + 4) else some (0, zc305))) else if ((xs l3.toNatClampNeg) &&& 63) = 3 then (if (l3 + 1) < 0 ∨ L ≤ (l3 + 1).toNatClampNeg then none else if (l3 + 2) < 0 ∨ L ≤ (l3 + 2).toNatClampNeg then none else if (l3 + 3) < 0 ∨ L ≤ (l3 + 3).toNatClampNeg then none else if (xs (l3 + 3).toNatClampNeg) = 0 then fLaw_J337 xs L z (fLaw_L18 xs L n) l3 (xs (l3 + 1).toNatClampNeg) (xs (l3 + 2).toNatClampNeg) 0 else fLaw_J337 xs L z (fLaw_L18 xs L n) l3 (xs (l3 + 1).toNatClampNeg) (xs (l3 + 2).toNatClampNeg) 1) else if ((xs l3.toNatClampNeg) &&& 63) = 4 then (if (l3 + 1) < 0 ∨ L ≤ (l3 + 1).toNatClampNeg then none else if (l3 + 2) < 0 ∨ L ≤ (l3 + 2).toNatClampNeg then none else if (l3 + 3) < 0 ∨ L ≤ (l3 + 3).toNatClampNeg then none else ob2 (fT_trust z (xs (l3 + 1).toNatClampNeg) (xs (l3 + 2).toNatClampNeg) (xs (l3 + 3).toNatClampNeg)) (fun w388 zc388 => if (l3 + 1) < 0 ∨ L ≤ (l3 + 1).toNatClampNeg then none else if (l3 + 2) < 0 ∨ L ≤ (l3 + 2).toNatClampNeg then none else if (l3 + 3) < 0 ∨ L ≤ (l3 + 3).toNatClampNeg then none else ob2 (fM_trust zc388 (xs (l3 + 1).toNatClampNeg) (xs (l3 + 2).toNatClampNeg) (xs (l3 + 3).toNatClampNeg)) (fun w407 zc407 => if w388 = w407 then fLaw_L18 xs L n zc407 (l3 + 4) else some (0, zc407)))) else if ((xs l3.toNatClampNeg) &&& 63) = 5 then (if (l3 + 1) < 0 ∨ L ≤ (l3 + 1).toNatClampNeg then none else if (l3 + 2) < 0 ∨ L ≤ (l3 + 2).toNatClampNeg then none else if (l3 + 3) < 0 ∨ L ≤ (l3 + 3).toNatClampNeg then none else if (xs (l3 + 3).toNatClampNeg) = 0 then fLaw_J439 xs L z (fLaw_L18 xs L n) l3 (xs (l3 + 1).toNatClampNeg) (xs (l3 + 2).toNatClampNeg) 0 else fLaw_J439 xs L z (fLaw_L18 xs L n) l3 (xs (l3 + 1).toNatClampNeg) (xs (l3 + 2).toNatClampNeg) 1) else if ((xs l3.toNatClampNeg) &&& 63) = 6 then (if (l3 + 1) < 0 ∨ L ≤ (l3 + 1).toNatClampNeg then none else if (l3 + 2) < 0 ∨ L ≤ (l3 + 2).toNatClampNeg then none else ob2 (fT_set z (xs (l3 + 1).toNatClampNeg) (xs (l3 + 2).toNatClampNeg)) (fun w485 zc485 => if (l3 + 1) < 0 ∨ L ≤ (l3 + 1).toNatClampNeg then none else if (l3 + 2) < 0 ∨ L ≤ (l3 + 2).toNatClampNeg then none else ob2 (fM_set zc485 (xs (l3 + 1).toNatClampNeg) (xs (l3 + 2).toNatClampNeg)) (fun w499 zc499 => if w485 = w499 then fLaw_L18 xs L n zc499 (l3 + 4) else some (0, zc499)))) else if ((xs l3.toNatClampNeg) &&& 63) = 7 then (if (l3 + 1) < 0 ∨ L ≤ (l3 + 1).toNatClampNeg then none else Option.bind (fT_law z (xs (l3 + 1).toNatClampNeg)) (fun w513 => if (l3 + 1) < 0 ∨ L ≤ (l3 + 1).toNatClampNeg then none else Option.bind (fM_law z (xs (l3 + 1).toNatClampNeg)) (fun w522 => if w513 = w522 then fLaw_L18 xs L n z (l3 + 4) else some (0, z)))) else if ((xs l3.toNatClampNeg) &&& 63) = 8 then (if (l3 + 1) < 0 ∨ L ≤ (l3 + 1).toNatClampNeg then none else if (l3 + 2) < 0 ∨ L ≤ (l3 + 2).toNatClampNeg then none else if (l3 + 3) < 0 ∨ L ≤ (l3 + 3).toNatClampNeg then none else ob2 (fT_post z (xs (l3 + 1).toNatClampNeg) (xs (l3 + 2).toNatClampNeg) (xs (l3 + 3).toNatClampNeg)) (fun w546 zc546 => if (l3 + 1) < 0 ∨ L ≤ (l3 + 1).toNatClampNeg then none else if (l3 + 2) < 0 ∨ L ≤ (l3 + 2).toNatClampNeg then none else if (l3 + 3) < 0 ∨ L ≤ (l3 + 3).toNatClampNeg then none else ob2 (fM_post zc546 (xs (l3 + 1).toNatClampNeg) (xs (l3 + 2).toNatClampNeg) (xs (l3 + 3).toNatClampNeg)) (fun w565 zc565 => if w546 = w565 then fLaw_L18 xs L n zc565 (l3 + 4) else some (0, zc565)))) else if ((xs l3.toNatClampNeg) &&& 63) = 9 then (if (l3 + 1) < 0 ∨ L ≤ (l3 + 1).toNatClampNeg then none else if (l3 + 2) < 0 ∨ L ≤ (l3 + 2).toNatClampNeg then none else Option.bind (fT_postOf z (xs (l3 + 1).toNatClampNeg) (xs (l3 + 2).toNatClampNeg)) (fun w584 => if (l3 + 1) < 0 ∨ L ≤ (l3 + 1).toNatClampNeg then none else if (l3 + 2) < 0 ∨ L ≤ (l3 + 2).toNatClampNeg then none else Option.bind (fM_postOf z (xs (l3 + 1).toNatClampNeg) (xs (l3 + 2).toNatClampNeg)) (fun w598 => if w584 = w598 then fLaw_L18 xs L n z (l3 + 4) else some (0, z)))) else if ((xs l3.toNatClampNeg) &&& 63) = 10 then (if (l3 + 1) < 0 ∨ L ≤ (l3 + 1).toNatClampNeg then none else if (l3 + 2) < 0 ∨ L ≤ (l3 + 2).toNatClampNeg then none else if (xs (l3 + 2).toNatClampNeg) = 0 then fLaw_J625 xs L z (fLaw_L18 xs L n) l3 (xs (l3 + 1).toNatClampNeg) 0 else fLaw_J625 xs L z (fLaw_L18 xs L n) l3 (xs (l3 + 1).toNatClampNeg) 1) else if ((xs l3.toNatClampNeg) &&& 63) = 11 then (if (l3 + 1) < 0 ∨ L ≤ (l3 + 1).toNatClampNeg then none else if (l3 + 2) < 0 ∨ L ≤ (l3 + 2).toNatClampNeg then none else ob2 (fT_loss z (xs (l3 + 1).toNatClampNeg) (xs (l3 + 2).toNatClampNeg)) (fun w666 zc666 => if (l3 + 1) < 0 ∨ L ≤ (l3 + 1).toNatClampNeg then none else if (l3 + 2) < 0 ∨ L ≤ (l3 + 2).toNatClampNeg then none else ob2 (fM_loss zc666 (xs (l3 + 1).toNatClampNeg) (xs (l3 + 2).toNatClampNeg)) (fun w680 zc680 => if w666 = w680 then fLaw_L18 xs L n zc680 (l3 + 4) else some (0, zc680)))) else if ((xs l3.toNatClampNeg) &&& 63) = 12 then (if (l3 + 1) < 0 ∨ L ≤ (l3 + 1).toNatClampNeg then none else if (l3 + 2) < 0 ∨ L ≤ (l3 + 2).toNatClampNeg then none else if (l3 + 3) < 0 ∨ L ≤ (l3 + 3).toNatClampNeg then none else Option.bind (fT_trustOn z (xs (l3 + 1).toNatClampNeg) (xs (l3 + 2).toNatClampNeg) (xs (l3 + 3).toNatClampNeg)) (fun w704 => if (l3 + 1) < 0 ∨ L ≤ (l3 + 1).toNatClampNeg then none else if (l3 + 2) < 0 ∨ L ≤ (l3 + 2).toNatClampNeg then none else if (l3 + 3) < 0 ∨ L ≤ (l3 + 3).toNatClampNeg then none else Option.bind (fM_trustOn z (xs (l3 + 1).toNatClampNeg) (xs (l3 + 2).toNatClampNeg) (xs (l3 + 3).toNatClampNeg)) (fun w723 => if w704 = w723 then fLaw_L18 xs L n z (l3 + 4) else some (0, z)))) else if ((xs l3.toNatClampNeg) &&& 63) = 13 then (if (l3 + 1) < 0 ∨ L ≤ (l3 + 1).toNatClampNeg then none else Option.bind (fT_seen z (xs (l3 + 1).toNatClampNeg)) (fun w737 => if (l3 + 1) < 0 ∨ L ≤ (l3 + 1).toNatClampNeg then none else Option.bind (fM_seen z (xs (l3 + 1).toNatClampNeg)) (fun w746 => if w737 = w746 then fLaw_L18 xs L n z (l3 + 4) else some (0, z)))) else if ((xs l3.toNatClampNeg) &&& 63) = 14 then (if (l3 + 1) < 0 ∨ L ≤ (l3 + 1).toNatClampNeg then none else Option.bind (fT_worth z (xs (l3 + 1).toNatClampNeg)) (fun w760 => if (l3 + 1) < 0 ∨ L ≤ (l3 + 1).toNatClampNeg then none else Option.bind (fM_worth z (xs (l3 + 1).toNatClampNeg)) (fun w769 => if w760 = w769 then fLaw_L18 xs L n z (l3 + 4) else some (0, z)))) else if ((xs l3.toNatClampNeg) &&& 63) = 15 then Option.bind (fT_pays z) (fun w778 => Option.bind (fM_pays z) (fun w782 => if w778 = w782 then fLaw_L18 xs L n z (l3 + 4) else some (0, z))) else if ((xs l3.toNatClampNeg) &&& 63) = 16 then (if (l3 + 1) < 0 ∨ L ≤ (l3 + 1).toNatClampNeg then none else if (l3 + 2) < 0 ∨ L ≤ (l3 + 2).toNatClampNeg then none else if (l3 + 3) < 0 ∨ L ≤ (l3 + 3).toNatClampNeg then none else ob2 (fT_best z (xs (l3 + 1).toNatClampNeg) (xs (l3 + 2).toNatClampNeg) (xs (l3 + 3).toNatClampNeg)) (fun w806 zc806 => if (l3 + 1) < 0 ∨ L ≤ (l3 + 1).toNatClampNeg then none else if (l3 + 2) < 0 ∨ L ≤ (l3 + 2).toNatClampNeg then none else if (l3 + 3) < 0 ∨ L ≤ (l3 + 3).toNatClampNeg then none else ob2 (fM_best zc806 (xs (l3 + 1).toNatClampNeg) (xs (l3 + 2).toNatClampNeg) (xs (l3 + 3).toNatClampNeg)) (fun w825 zc825 => if (lg_cmp w806 w825) = 0 then fLaw_L18 xs L n zc825 (l3 + 4) else some (0, zc825)))) else if ((xs l3.toNatClampNeg) &&& 63) = 17 then Option.bind (fT_enough z) (fun w835 => Option.bind (fM_enough z) (fun w839 => if w835 = w839 then fLaw_L18 xs L n z (l3 + 4) else some (0, z))) else if ((xs l3.toNatClampNeg) &&& 63) = 18 then Option.bind (fT_needed z) (fun w848 => Option.bind (fM_needed z) (fun w852 => if w848 = w852 then fLaw_L18 xs L n z (l3 + 4) else some (0, z))) else if ((xs l3.toNatClampNeg) &&& 63) = 19 then (if (l3 + 1) < 0 ∨ L ≤ (l3 + 1).toNatClampNeg then none else Option.bind (fT_broken z (xs (l3 + 1).toNatClampNeg)) (fun w866 => if (l3 + 1) < 0 ∨ L ≤ (l3 + 1).toNatClampNeg then none else Option.bind (fM_broken z (xs (l3 + 1).toNatClampNeg)) (fun w875 => if w866 = w875 then fLaw_L18 xs L n z (l3 + 4) else some (0, z)))) else if ((xs l3.toNatClampNeg) &&& 63) = 20 then (if (l3 + 1) < 0 ∨ L ≤ (l3 + 1).toNatClampNeg then none else if (l3 + 2) < 0 ∨ L ≤ (l3 + 2).toNatClampNeg then none else ob2 (fT_mended z (xs (l3 + 1).toNatClampNeg) (xs (l3 + 2).toNatClampNeg)) (fun w894 zc894 => if (l3 + 1) < 0 ∨ L ≤ (l3 + 1).toNatClampNeg then none else if (l3 + 2) < 0 ∨ L ≤ (l3 + 2).toNatClampNeg then none else ob2 (fM_mended zc894 (xs (l3 + 1).toNatClampNeg) (xs (l3 + 2).toNatClampNeg)) (fun w908 zc908 => if w894 = w908 then fLaw_L18 xs L n zc908 (l3 + 4) else some (0, zc908)))) else if ((xs l3.toNatClampNeg) &&& 63) = 21 then (if (l3 + 1) < 0 ∨ L ≤ (l3 + 1).toNatClampNeg then none else if (l3 + 2) < 0 ∨ L ≤ (l3 + 2).toNatClampNeg then none else ob2 (fT_ahead z (xs (l3 + 1).toNatClampNeg) (xs (l3 + 2).toNatClampNeg)) (fun w927 zc927 => if (l3 + 1) < 0 ∨ L ≤ (l3 + 1).toNatClampNeg then none else if (l3 + 2) < 0 ∨ L ≤ (l3 + 2).toNatClampNeg then none else ob2 (fM_ahead zc927 (xs (l3 + 1).toNatClampNeg) (xs (l3 + 2).toNatClampNeg)) (fun w941 zc941 => if w927 = w941 then fLaw_L18 xs L n zc941 (l3 + 4) else some (0, zc941)))) else if ((xs l3.toNatClampNeg) &&& 63) = 22 then (if (l3 + 1) < 0 ∨ L ≤ (l3 + 1).toNatClampNeg then none else if (l3 + 2) < 0 ∨ L ≤ (l3 + 2).toNatClampNeg then none else if (l3 + 3) < 0 ∨ L ≤ (l3 + 3).toNatClampNeg then none else ob2 (fT_lot z (xs (l3 + 1).toNatClampNeg) (xs (l3 + 2).toNatClampNeg) (xs (l3 + 3).toNatClampNeg)) (fun w965 zc965 => if (l3 + 1) < 0 ∨ L ≤ (l3 + 1).toNatClampNeg then none else if (l3 + 2) < 0 ∨ L ≤ (l3 + 2).toNatClampNeg then none else if (l3 + 3) < 0 ∨ L ≤ (l3 + 3).toNatClampNeg then none else ob2 (fM_lot zc965 (xs (l3 + 1).toNatClampNeg) (xs (l3 + 2).toNatClampNeg) (xs (l3 + 3).toNatClampNeg)) (fun w984 zc984 => if (lg_cmp w965 w984) = 0 then fLaw_L18 xs L n zc984 (l3 + 4) else some (0, zc984)))) else if ((xs l3.toNatClampNeg) &&& 63) = 23 then (if (l3 + 1) < 0 ∨ L ≤ (l3 + 1).toNatClampNeg then none else if (l3 + 2) < 0 ∨ L ≤ (l3 + 2).toNatClampNeg then none else Option.bind (fT_sat z (xs (l3 + 1).toNatClampNeg) (xs (l3 + 2).toNatClampNeg)) (fun w1004 => if (l3 + 1) < 0 ∨ L ≤ (l3 + 1).toNatClampNeg then none else if (l3 + 2) < 0 ∨ L ≤ (l3 + 2).toNatClampNeg then none else Option.bind (fM_sat z (xs (l3 + 1).toNatClampNeg) (xs (l3 + 2).toNatClampNeg)) (fun w1018 => if w1004 = w1018 then fLaw_L18 xs L n z (l3 + 4) else some (0, z)))) else if ((xs l3.toNatClampNeg) &&& 63) = 24 then (if (l3 + 1) < 0 ∨ L ≤ (l3 + 1).toNatClampNeg then none else Option.bind (fT_suspects z (xs (l3 + 1).toNatClampNeg)) (fun w1032 => if (l3 + 1) < 0 ∨ L ≤ (l3 + 1).toNatClampNeg then none else Option.bind (fM_suspects z (xs (l3 + 1).toNatClampNeg)) (fun w1041 => if w1032 = w1041 then fLaw_L18 xs L n z (l3 + 4) else some (0, z)))) else if ((xs l3.toNatClampNeg) &&& 63) = 25 then (if (l3 + 1) < 0 ∨ L ≤ (l3 + 1).toNatClampNeg then none else if (l3 + 2) < 0 ∨ L ≤ (l3 + 2).toNatClampNeg then none else ob2 (fT_plan z (xs (l3 + 1).toNatClampNeg) (xs (l3 + 2).toNatClampNeg)) (fun w1060 zc1060 => if (l3 + 1) < 0 ∨ L ≤ (l3 + 1).toNatClampNeg then none else if (l3 + 2) < 0 ∨ L ≤ (l3 + 2).toNatClampNeg then none else ob2 (fM_plan zc1060 (xs (l3 + 1).toNatClampNeg) (xs (l3 + 2).toNatClampNeg)) (fun w1074 zc1074 => if w1060 = w1074 then fLaw_L18 xs L n zc1074 (l3 + 4) else some (0, zc1074)))) else if ((xs l3.toNatClampNeg) &&& 63) = 26 then (if (l3 + 1) < 0 ∨ L ≤ (l3 + 1).toNatClampNeg then none else if (l3 + 2) < 0 ∨ L ≤ (l3 + 2).toNatClampNeg then none else Option.bind (fT_planOf z (xs (l3 + 1).toNatClampNeg) (xs (l3 + 2).toNatClampNeg)) (fun w1093 => if (l3 + 1) < 0 ∨ L ≤ (l3 + 1).toNatClampNeg then none else if (l3 + 2) < 0 ∨ L ≤ (l3 + 2).toNatClampNeg then none else Option.bind (fM_planOf z (xs (l3 + 1).toNatClampNeg) (xs (l3 + 2).toNatClampNeg)) (fun w1107 => if w1093 = w1107 then fLaw_L18 xs L n z (l3 + 4) else some (0, z)))) else if ((xs l3.toNatClampNeg) &&& 63) = 27 then (if (l3 + 1) < 0 ∨ L ≤ (l3 + 1).toNatClampNeg then none else if (l3 + 2) < 0 ∨ L ≤ (l3 + 2).toNatClampNeg then none else ob2 (fT_fill z (xs (l3 + 1).toNatClampNeg) (xs (l3 + 2).toNatClampNeg)) (fun w1126 zc1126 => if (l3 + 1) < 0 ∨ L ≤ (l3 + 1).toNatClampNeg then none else if (l3 + 2) < 0 ∨ L ≤ (l3 + 2).toNatClampNeg then none else ob2 (fM_fill zc1126 (xs (l3 + 1).toNatClampNeg) (xs (l3 + 2).toNatClampNeg)) (fun w1140 zc1140 => if w1126 = w1140 then fLaw_L18 xs L n zc1140 (l3 + 4) else some (0, zc1140)))) else if ((xs l3.toNatClampNeg) &&& 63) = 28 then (if (l3 + 1) < 0 ∨ L ≤ (l3 + 1).toNatClampNeg then none else ob2 (fT_seed z (xs (l3 + 1).toNatClampNeg)) (fun w1154 zc1154 => if (l3 + 1) < 0 ∨ L ≤ (l3 + 1).toNatClampNeg then none else ob2 (fM_seed zc1154 (xs (l3 + 1).toNatClampNeg)) (fun w1163 zc1163 => if w1154 = w1163 then fLaw_L18 xs L n zc1163 (l3 + 4) else some (0, zc1163)))) else if ((xs l3.toNatClampNeg) &&& 63) = 29 then ob2 (fT_prove z) (fun w1172 zc1172 => ob2 (fM_prove zc1172) (fun w1176 zc1176 => if w1172 = w1176 then fLaw_L18 xs L n zc1176 (l3 + 4) else some (0, zc1176))) else if ((xs l3.toNatClampNeg) &&& 63) = 30 then (if (l3 + 1) < 0 ∨ L ≤ (l3 + 1).toNatClampNeg then none else if (l3 + 2) < 0 ∨ L ≤ (l3 + 2).toNatClampNeg then none else Option.bind (fT_row z (xs (l3 + 1).toNatClampNeg) (xs (l3 + 2).toNatClampNeg)) (fun w1195 => if (l3 + 1) < 0 ∨ L ≤ (l3 + 1).toNatClampNeg then none else if (l3 + 2) < 0 ∨ L ≤ (l3 + 2).toNatClampNeg then none else Option.bind (fM_row z (xs (l3 + 1).toNatClampNeg) (xs (l3 + 2).toNatClampNeg)) (fun w1209 => if w1195 = w1209 then fLaw_L18 xs L n z (l3 + 4) else some (0, z)))) else if ((xs l3.toNatClampNeg) &&& 63) = 31 then (if (l3 + 1) < 0 ∨ L ≤ (l3 + 1).toNatClampNeg then none else if (l3 + 2) < 0 ∨ L ≤ (l3 + 2).toNatClampNeg then none else if (l3 + 3) < 0 ∨ L ≤ (l3 + 3).toNatClampNeg then none else ob2 (fT_alterRow z (xs (l3 + 1).toNatClampNeg) (xs (l3 + 2).toNatClampNeg) (xs (l3 + 3).toNatClampNeg)) (fun w1233 zc1233 => if (l3 + 1) < 0 ∨ L ≤ (l3 + 1).toNatClampNeg then none else if (l3 + 2) < 0 ∨ L ≤ (l3 + 2).toNatClampNeg then none else if (l3 + 3) < 0 ∨ L ≤ (l3 + 3).toNatClampNeg then none else ob2 (fM_alterRow zc1233 (xs (l3 + 1).toNatClampNeg) (xs (l3 + 2).toNatClampNeg) (xs (l3 + 3).toNatClampNeg)) (fun w1252 zc1252 => if w1233 = w1252 then fLaw_L18 xs L n zc1252 (l3 + 4) else some (0, zc1252)))) else if ((xs l3.toNatClampNeg) &&& 63) = 32 then Option.bind (fT_judge z) (fun w1261 => ob2 (fM_judge z) (fun w1265 zc1265 => if w1261 = w1265 then fLaw_L18 xs L n zc1265 (l3 + 4) else some (0, zc1265))) else if ((xs l3.toNatClampNeg) &&& 63) = 33 then (if (l3 + 1) < 0 ∨ L ≤ (l3 + 1).toNatClampNeg then none else if (l3 + 2) < 0 ∨ L ≤ (l3 + 2).toNatClampNeg then none else if (l3 + 3) < 0 ∨ L ≤ (l3 + 3).toNatClampNeg then none else ob2 (fT_sheet z (xs (l3 + 1).toNatClampNeg) (xs (l3 + 2).toNatClampNeg) (xs (l3 + 3).toNatClampNeg)) (fun w1289 zc1289 => if (l3 + 1) < 0 ∨ L ≤ (l3 + 1).toNatClampNeg then none else if (l3 + 2) < 0 ∨ L ≤ (l3 + 2).toNatClampNeg then none else if (l3 + 3) < 0 ∨ L ≤ (l3 + 3).toNatClampNeg then none else ob2 (fM_sheet zc1289 (xs (l3 + 1).toNatClampNeg) (xs (l3 + 2).toNatClampNeg) (xs (l3 + 3).toNatClampNeg)) (fun w1308 zc1308 => if w1289 = w1308 then fLaw_L18 xs L n zc1308 (l3 + 4) else some (0, zc1308)))) else if ((xs l3.toNatClampNeg) &&& 63) = 34 then (if (l3 + 1) < 0 ∨ L ≤ (l3 + 1).toNatClampNeg then none else if (l3 + 2) < 0 ∨ L ≤ (l3 + 2).toNatClampNeg then none else if (l3 + 3) < 0 ∨ L ≤ (l3 + 3).toNatClampNeg then none else ob2 (fT_put z (xs (l3 + 1).toNatClampNeg) (xs (l3 + 2).toNatClampNeg) (xs (l3 + 3).toNatClampNeg)) (fun w1332 zc1332 => if (l3 + 1) < 0 ∨ L ≤ (l3 + 1).toNatClampNeg then none else if (l3 + 2) < 0 ∨ L ≤ (l3 + 2).toNatClampNeg then none else if (l3 + 3) < 0 ∨ L ≤ (l3 + 3).toNatClampNeg then none else ob2 (fM_put zc1332 (xs (l3 + 1).toNatClampNeg) (xs (l3 + 2).toNatClampNeg) (xs (l3 + 3).toNatClampNeg)) (fun w1351 zc1351 => if w1332 = w1351 then fLaw_L18 xs L n zc1351 (l3 + 4) else some (0, zc1351)))) else if ((xs l3.toNatClampNeg) &&& 63) = 35 then (if (l3 + 1) < 0 ∨ L ≤ (l3 + 1).toNatClampNeg then none else if (l3 + 2) < 0 ∨ L ≤ (l3 + 2).toNatClampNeg then none else if (l3 + 3) < 0 ∨ L ≤ (l3 + 3).toNatClampNeg then none else Option.bind (fT_item z (xs (l3 + 1).toNatClampNeg) (xs (l3 + 2).toNatClampNeg) (xs (l3 + 3).toNatClampNeg)) (fun w1375 => if (l3 + 1) < 0 ∨ L ≤ (l3 + 1).toNatClampNeg then none else if (l3 + 2) < 0 ∨ L ≤ (l3 + 2).toNatClampNeg then none else if (l3 + 3) < 0 ∨ L ≤ (l3 + 3).toNatClampNeg then none else Option.bind (fM_item z (xs (l3 + 1).toNatClampNeg) (xs (l3 + 2).toNatClampNeg) (xs (l3 + 3).toNatClampNeg)) (fun w1394 => if w1375 = w1394 then fLaw_L18 xs L n z (l3 + 4) else some (0, z)))) else if ((xs l3.toNatClampNeg) &&& 63) = 36 then (if (l3 + 1) < 0 ∨ L ≤ (l3 + 1).toNatClampNeg then none else if (l3 + 2) < 0 ∨ L ≤ (l3 + 2).toNatClampNeg then none else if (l3 + 3) < 0 ∨ L ≤ (l3 + 3).toNatClampNeg then none else ob2 (fT_shelf z (xs (l3 + 1).toNatClampNeg) (xs (l3 + 2).toNatClampNeg) (xs (l3 + 3).toNatClampNeg)) (fun w1418 zc1418 => if (l3 + 1) < 0 ∨ L ≤ (l3 + 1).toNatClampNeg then none else if (l3 + 2) < 0 ∨ L ≤ (l3 + 2).toNatClampNeg then none else if (l3 + 3) < 0 ∨ L ≤ (l3 + 3).toNatClampNeg then none else ob2 (fM_shelf zc1418 (xs (l3 + 1).toNatClampNeg) (xs (l3 + 2).toNatClampNeg) (xs (l3 + 3).toNatClampNeg)) (fun w1437 zc1437 => if w1418 = w1437 then fLaw_L18 xs L n zc1437 (l3 + 4) else some (0, zc1437)))) else if ((xs l3.toNatClampNeg) &&& 63) = 37 then (if (l3 + 1) < 0 ∨ L ≤ (l3 + 1).toNatClampNeg then none else if (l3 + 2) < 0 ∨ L ≤ (l3 + 2).toNatClampNeg then none else Option.bind (fT_taken z (xs (l3 + 1).toNatClampNeg) (xs (l3 + 2).toNatClampNeg)) (fun w1456 => if (l3 + 1) < 0 ∨ L ≤ (l3 + 1).toNatClampNeg then none else if (l3 + 2) < 0 ∨ L ≤ (l3 + 2).toNatClampNeg then none else Option.bind (fM_taken z (xs (l3 + 1).toNatClampNeg) (xs (l3 + 2).toNatClampNeg)) (fun w1470 => if w1456 = w1470 then fLaw_L18 xs L n z (l3 + 4) else some (0, z)))) else if ((xs l3.toNatClampNeg) &&& 63) = 38 then (if (l3 + 1) < 0 ∨ L ≤ (l3 + 1).toNatClampNeg then none else if (l3 + 2) < 0 ∨ L ≤ (l3 + 2).toNatClampNeg then none else if (l3 + 3) < 0 ∨ L ≤ (l3 + 3).toNatClampNeg then none else ob2 (fT_act z (xs (l3 + 1).toNatClampNeg) (xs (l3 + 2).toNatClampNeg) (xs (l3 + 3).toNatClampNeg)) (fun w1494 zc1494 => if (l3 + 1) < 0 ∨ L ≤ (l3 + 1).toNatClampNeg then none else if (l3 + 2) < 0 ∨ L ≤ (l3 + 2).toNatClampNeg then none else if (l3 + 3) < 0 ∨ L ≤ (l3 + 3).toNatClampNeg then none else ob2 (fM_act zc1494 (xs (l3 + 1).toNatClampNeg) (xs (l3 + 2).toNatClampNeg) (xs (l3 + 3).toNatClampNeg)) (fun w1513 zc1513 => if w1494 = w1513 then fLaw_L18 xs L n zc1513 (l3 + 4) else some (0, zc1513)))) else if ((xs l3.toNatClampNeg) &&& 63) = 39 then (if (l3 + 1) < 0 ∨ L ≤ (l3 + 1).toNatClampNeg then none else Option.bind (fT_trace z (xs (l3 + 1).toNatClampNeg)) (fun w1527 => if (l3 + 1) < 0 ∨ L ≤ (l3 + 1).toNatClampNeg then none else Option.bind (fM_trace z (xs (l3 + 1).toNatClampNeg)) (fun w1536 => if w1527 = w1536 then fLaw_L18 xs L n z (l3 + 4) else some (0, z)))) else if ((xs l3.toNatClampNeg) &&& 63) = 40 then (if (l3 + 1) < 0 ∨ L ≤ (l3 + 1).toNatClampNeg then none else if (l3 + 2) < 0 ∨ L ≤ (l3 + 2).toNatClampNeg then none else ob2 (fT_days z (xs (l3 + 1).toNatClampNeg) (xs (l3 + 2).toNatClampNeg)) (fun w1555 zc1555 => if (l3 + 1) < 0 ∨ L ≤ (l3 + 1).toNatClampNeg then none else if (l3 + 2) < 0 ∨ L ≤ (l3 + 2).toNatClampNeg then none else ob2 (fM_days zc1555 (xs (l3 + 1).toNatClampNeg) (xs (l3 + 2).toNatClampNeg)) (fun w1569 zc1569 => if w1555 = w1569 then fLaw_L18 xs L n zc1569 (l3 + 4) else some (0, zc1569)))) else if ((xs l3.toNatClampNeg) &&& 63) = 41 then (if (l3 + 1) < 0 ∨ L ≤ (l3 + 1).toNatClampNeg then none else Option.bind (fT_many z (xs (l3 + 1).toNatClampNeg)) (fun w1583 => if (l3 + 1) < 0 ∨ L ≤ (l3 + 1).toNatClampNeg then none else Option.bind (fM_many z (xs (l3 + 1).toNatClampNeg)) (fun w1592 => if w1583 = w1592 then fLaw_L18 xs L n z (l3 + 4) else some (0, z)))) else if ((xs l3.toNatClampNeg) &&& 63) = 42 then ob2 (fT_keep z) (fun w1601 zc1601 => ob2 (fM_keep zc1601) (fun w1605 zc1605 => if w1601 = w1605 then fLaw_L18 xs L n zc1605 (l3 + 4) else some (0, zc1605))) else if ((xs l3.toNatClampNeg) &&& 63) = 43 then ob2 (fT_again z) (fun w1614 zc1614 => ob2 (fM_again zc1614) (fun w1618 zc1618 => if w1614 = w1618 then fLaw_L18 xs L n zc1618 (l3 + 4) else some (0, zc1618))) else fLaw_L18 xs L n z (l3 + 4))
def fLaw (xs : Nat → Int32) (L : Nat) (z : MS) : Option (Int32 × MS) :=
  fLaw_L18 xs L LF z 0
theorem law_no {z z1 : MS} (h : (some ((0 : Int32), z) : Option (Int32 × MS)) = some (1, z1)) : False := by
  have h1 : (0 : Int32) = 1 := congrArg Prod.fst (Option.some.inj h)
  exact absurd h1 (by decide)
set_option maxRecDepth 20000 in
set_option maxHeartbeats 8000000 in
theorem law_walk {p : Program} {l : Launch} {e : Env} {R : Room} {s : State} {m : MethodId} {args : Array Value} {below : List Frame} {meth : Method} {c : Code} {H : Heap} {locs : List Loc} {cells slots : Nat} {Q : State → Prop} {ls : Array Slot} {D : va_G} {ad cs sd : Nat → Nat} {A : Nat → Prop} {z z1 : MS} {b L : Nat} {xs : Nat → Int32}
    (X : UC p s m args meth c code 4 RL R 49 1177 D ad cs sd A) (hX : va_X b L xs s s.heap) (hbl : b < s.heap.size) (hbA : ¬ A b) (hcs : cells ≤ R.cells ∧ slots ≤ R.slots) (hP : va_P D clss (wld cs ad z) H) (hS : va_S A s.heap H locs) (hl : lv_has ls 4 [(0, .ref b), (1, .ref (ad 0)), (2, .ref (ad 56))])
    (hret : ∀ (H : Heap) (locs : List Loc) (ls : Array Slot) (z : MS) (pc : Nat), va_P D clss (wld cs ad z) H → va_S A s.heap H locs → decode code pc = .ok (.ireturn, 1) → W p l e R s m args below meth c H locs cells slots Q (F0 m pc ls [.int 1]))
    (h : fLaw xs L z = some (1, z1)) : W p l e R s m args below meth c H locs cells slots Q (F0 m 16 ls []) := by
  rw [fLaw] at h
  refine u_iconst (v := 0) X dL_law_16 rfl ?_
  refine u_istore_n [(3, .int 0), (0, .ref b), (1, .ref (ad 0)), (2, .ref (ad 56))] X hl dL_law_17 (Nat.le_of_ble_eq_true rfl) rfl (fun ls hl => ?_)
  have L18 : ∀ (n : Nat) (H : Heap) (locs : List Loc) (ls : Array Slot) (z_18 : MS) (l3_18 : Int32), lv_has ls 4 [(0, .ref b), (1, .ref (ad 0)), (2, .ref (ad 56)), (3, .int l3_18)] → va_P D clss (wld cs ad z_18) H → va_S A s.heap H locs → fLaw_L18 xs L n z_18 l3_18 = some (1, z1) → W p l e R s m args below meth c H locs cells slots Q (F0 m 18 ls []) := by
    intro n
    induction n with
    | zero =>
      intro H locs ls z_18 l3_18 hl hP hS h
      rw [fLaw_L18] at h
      cases h
    | succ n18 ih18 =>
      intro H locs ls z_18 l3_18 hl hP hS h
      rw [fLaw_L18] at h
      refine u_iload_n X hl dL_law_18 3 rfl ?_
      refine u_aload_n X hl dL_law_19 0 rfl ?_
      refine u_slen X hX hbl hbA hS dL_law_20 ?_
      refine u_iconst (v := 4) X dL_law_21 rfl ?_
      refine u_isub X dL_law_22 ?_
      refine u_icmp_gt 1632 X dL_law_23 rfl (fun hc => ?_) (fun hc => ?_)
      · rw [if_pos hc] at h
        refine u_iconst (v := 1) X dL_law_1632 rfl ?_
        exact hret _ _ _ _ _ hP hS dL_law_1633
      · rw [if_neg hc] at h
        refine u_aload_n X hl dL_law_26 0 rfl ?_
        refine u_iload_n X hl dL_law_27 3 rfl ?_
        obtain ⟨hin, h⟩ := ifn_inv h
        refine va_sld X.1 X.2.1 hX hbl hbA hS hin dL_law_28 ?_
        refine u_bipush (v := 63) X dL_law_29 rfl ?_
        refine u_iand X dL_law_31 ?_
        by_cases hc0 : ((xs l3_18.toNatClampNeg) &&& 63) = 0
        · rw [if_pos hc0] at h
          refine u_tsw 224 X dL_law_32 (v := 0) (by rw [hc0]; rfl) (by decide) ?_
          refine u_aload_n X hl dL_law_224 1 rfl ?_
          refine u_aload_n X hl dL_law_225 0 rfl ?_
          refine u_iload_n X hl dL_law_226 3 rfl ?_
          refine u_iconst (v := 1) X dL_law_227 rfl ?_
          refine u_iadd X dL_law_228 ?_
          obtain ⟨hin, h⟩ := ifn_inv h
          refine va_sld X.1 X.2.1 hX hbl hbA hS hin dL_law_229 ?_
          refine u_i2l X dL_law_230 ?_
          refine u_bipush (v := 32) X dL_law_231 rfl ?_
          refine u_lshl X dL_law_233 ?_
          refine u_aload_n X hl dL_law_234 0 rfl ?_
          refine u_iload_n X hl dL_law_235 3 rfl ?_
          refine u_iconst (v := 2) X dL_law_236 rfl ?_
          refine u_iadd X dL_law_237 ?_
          obtain ⟨hin, h⟩ := ifn_inv h
          refine va_sld X.1 X.2.1 hX hbl hbA hS hin dL_law_238 ?_
          refine u_i2l X dL_law_239 ?_
          refine u_ldc2 X kw_L_13 dL_law_240 ?_
          refine u_land X dL_law_243 ?_
          refine u_lor X dL_law_244 ?_
          refine u_aload_n X hl dL_law_245 0 rfl ?_
          refine u_iload_n X hl dL_law_246 3 rfl ?_
          refine u_iconst (v := 3) X dL_law_247 rfl ?_
          refine u_iadd X dL_law_248 ?_
          obtain ⟨hin, h⟩ := ifn_inv h
          refine va_sld X.1 X.2.1 hX hbl hbA hS hin dL_law_249 ?_
          obtain ⟨w250, zc250, hc250, h⟩ := ob2_inv h
          refine u_callViG hcs X hP hS hl dL_law_250 (cT_feed l hc250) cw_L_15 io_0 rfl rfl rfl rfl ⟨rfl, rfl⟩ (fun H locs hP hS => ?_)
          refine u_aload_n X hl dL_law_253 2 rfl ?_
          refine u_aload_n X hl dL_law_254 0 rfl ?_
          refine u_iload_n X hl dL_law_255 3 rfl ?_
          refine u_iconst (v := 1) X dL_law_256 rfl ?_
          refine u_iadd X dL_law_257 ?_
          obtain ⟨hin, h⟩ := ifn_inv h
          refine va_sld X.1 X.2.1 hX hbl hbA hS hin dL_law_258 ?_
          refine u_i2l X dL_law_259 ?_
          refine u_bipush (v := 32) X dL_law_260 rfl ?_
          refine u_lshl X dL_law_262 ?_
          refine u_aload_n X hl dL_law_263 0 rfl ?_
          refine u_iload_n X hl dL_law_264 3 rfl ?_
          refine u_iconst (v := 2) X dL_law_265 rfl ?_
          refine u_iadd X dL_law_266 ?_
          obtain ⟨hin, h⟩ := ifn_inv h
          refine va_sld X.1 X.2.1 hX hbl hbA hS hin dL_law_267 ?_
          refine u_i2l X dL_law_268 ?_
          refine u_ldc2 X kw_L_13 dL_law_269 ?_
          refine u_land X dL_law_272 ?_
          refine u_lor X dL_law_273 ?_
          refine u_aload_n X hl dL_law_274 0 rfl ?_
          refine u_iload_n X hl dL_law_275 3 rfl ?_
          refine u_iconst (v := 3) X dL_law_276 rfl ?_
          refine u_iadd X dL_law_277 ?_
          obtain ⟨hin, h⟩ := ifn_inv h
          refine va_sld X.1 X.2.1 hX hbl hbA hS hin dL_law_278 ?_
          obtain ⟨w279, zc279, hc279, h⟩ := ob2_inv h
          refine u_callViG hcs X hP hS hl dL_law_279 (cM_feed l hc279) cw_L_19 io_56 rfl rfl rfl rfl ⟨rfl, rfl⟩ (fun H locs hP hS => ?_)
          refine u_icmp_eq 1626 X dL_law_282 rfl (fun hc => ?_) (fun hc => ?_)
          · rw [if_pos hc] at h
            refine u_iinc [(3, .int (l3_18 + 4)), (0, .ref b), (1, .ref (ad 0)), (2, .ref (ad 56))] X hl dL_law_1626 3 rfl rfl (Nat.le_of_ble_eq_true rfl) rfl (fun ls hl => ?_)
            refine u_goto 18 X dL_law_1629 rfl ?_
            exact ih18 _ _ _ _ _ (lv_sub hl [1, 2, 3, 0] rfl) hP hS h
          · rw [if_neg hc] at h
            refine u_iconst (v := 0) X dL_law_285 rfl ?_
            exact (law_no h).elim
        rw [if_neg hc0] at h
        by_cases hc1 : ((xs l3_18.toNatClampNeg) &&& 63) = 1
        · rw [if_pos hc1] at h
          refine u_tsw 287 X dL_law_32 (v := 1) (by rw [hc1]; rfl) (by decide) ?_
          refine u_aload_n X hl dL_law_287 1 rfl ?_
          obtain ⟨w288, zc288, hc288, h⟩ := ob2_inv h
          refine u_callViG hcs X hP hS hl dL_law_288 (cT_house l hc288) cw_L_20 io_0 rfl rfl rfl rfl ⟨rfl, rfl⟩ (fun H locs hP hS => ?_)
          refine u_aload_n X hl dL_law_291 2 rfl ?_
          obtain ⟨w292, zc292, hc292, h⟩ := ob2_inv h
          refine u_callViG hcs X hP hS hl dL_law_292 (cM_house l hc292) cw_L_24 io_56 rfl rfl rfl rfl ⟨rfl, rfl⟩ (fun H locs hP hS => ?_)
          refine u_icmp_eq 1626 X dL_law_295 rfl (fun hc => ?_) (fun hc => ?_)
          · rw [if_pos hc] at h
            refine u_iinc [(3, .int (l3_18 + 4)), (0, .ref b), (1, .ref (ad 0)), (2, .ref (ad 56))] X hl dL_law_1626 3 rfl rfl (Nat.le_of_ble_eq_true rfl) rfl (fun ls hl => ?_)
            refine u_goto 18 X dL_law_1629 rfl ?_
            exact ih18 _ _ _ _ _ (lv_sub hl [1, 2, 3, 0] rfl) hP hS h
          · rw [if_neg hc] at h
            refine u_iconst (v := 0) X dL_law_298 rfl ?_
            exact (law_no h).elim
        rw [if_neg hc1] at h
        by_cases hc2 : ((xs l3_18.toNatClampNeg) &&& 63) = 2
        · rw [if_pos hc2] at h
          refine u_tsw 300 X dL_law_32 (v := 2) (by rw [hc2]; rfl) (by decide) ?_
          refine u_aload_n X hl dL_law_300 1 rfl ?_
          obtain ⟨w301, zc301, hc301, h⟩ := ob2_inv h
          refine u_callViG hcs X hP hS hl dL_law_301 (cT_person l hc301) cw_L_25 io_0 rfl rfl rfl rfl ⟨rfl, rfl⟩ (fun H locs hP hS => ?_)
          refine u_aload_n X hl dL_law_304 2 rfl ?_
          obtain ⟨w305, zc305, hc305, h⟩ := ob2_inv h
          refine u_callViG hcs X hP hS hl dL_law_305 (cM_person l hc305) cw_L_28 io_56 rfl rfl rfl rfl ⟨rfl, rfl⟩ (fun H locs hP hS => ?_)
          refine u_icmp_eq 1626 X dL_law_308 rfl (fun hc => ?_) (fun hc => ?_)
          · rw [if_pos hc] at h
            refine u_iinc [(3, .int (l3_18 + 4)), (0, .ref b), (1, .ref (ad 0)), (2, .ref (ad 56))] X hl dL_law_1626 3 rfl rfl (Nat.le_of_ble_eq_true rfl) rfl (fun ls hl => ?_)
            refine u_goto 18 X dL_law_1629 rfl ?_
            exact ih18 _ _ _ _ _ (lv_sub hl [1, 2, 3, 0] rfl) hP hS h
          · rw [if_neg hc] at h
            refine u_iconst (v := 0) X dL_law_311 rfl ?_
            exact (law_no h).elim
        rw [if_neg hc2] at h
        by_cases hc3 : ((xs l3_18.toNatClampNeg) &&& 63) = 3
        · rw [if_pos hc3] at h
          refine u_tsw 313 X dL_law_32 (v := 3) (by rw [hc3]; rfl) (by decide) ?_
          refine u_aload_n X hl dL_law_313 1 rfl ?_
          refine u_aload_n X hl dL_law_314 0 rfl ?_
          refine u_iload_n X hl dL_law_315 3 rfl ?_
          refine u_iconst (v := 1) X dL_law_316 rfl ?_
          refine u_iadd X dL_law_317 ?_
          obtain ⟨hin, h⟩ := ifn_inv h
          refine va_sld X.1 X.2.1 hX hbl hbA hS hin dL_law_318 ?_
          refine u_aload_n X hl dL_law_319 0 rfl ?_
          refine u_iload_n X hl dL_law_320 3 rfl ?_
          refine u_iconst (v := 2) X dL_law_321 rfl ?_
          refine u_iadd X dL_law_322 ?_
          obtain ⟨hin, h⟩ := ifn_inv h
          refine va_sld X.1 X.2.1 hX hbl hbA hS hin dL_law_323 ?_
          refine u_aload_n X hl dL_law_324 0 rfl ?_
          refine u_iload_n X hl dL_law_325 3 rfl ?_
          refine u_iconst (v := 3) X dL_law_326 rfl ?_
          refine u_iadd X dL_law_327 ?_
          obtain ⟨hin, h⟩ := ifn_inv h
          refine va_sld X.1 X.2.1 hX hbl hbA hS hin dL_law_328 ?_
          have J337 : ∀ (H : Heap) (locs : List Loc) (ls : Array Slot) (s3_337 : Int32), lv_has ls 4 [(0, .ref b), (1, .ref (ad 0)), (2, .ref (ad 56)), (3, .int l3_18)] → va_P D clss (wld cs ad z_18) H → va_S A s.heap H locs → fLaw_J337 xs L z_18 (fLaw_L18 xs L n18) l3_18 (xs (l3_18 + 1).toNatClampNeg) (xs (l3_18 + 2).toNatClampNeg) s3_337 = some (1, z1) → W p l e R s m args below meth c H locs cells slots Q (F0 m 337 ls [.int s3_337, .int (xs (l3_18 + 2).toNatClampNeg), .int (xs (l3_18 + 1).toNatClampNeg), .ref (ad 0)]) := by
            intro H locs ls s3_337 hl hP hS h
            rw [fLaw_J337] at h
            obtain ⟨w337, zc337, hc337, h⟩ := ob2_inv h
            refine u_callViG hcs X hP hS hl dL_law_337 (cT_kin l hc337) cw_L_29 io_0 rfl rfl rfl rfl ⟨rfl, rfl⟩ (fun H locs hP hS => ?_)
            refine u_aload_n X hl dL_law_340 2 rfl ?_
            refine u_aload_n X hl dL_law_341 0 rfl ?_
            refine u_iload_n X hl dL_law_342 3 rfl ?_
            refine u_iconst (v := 1) X dL_law_343 rfl ?_
            refine u_iadd X dL_law_344 ?_
            obtain ⟨hin, h⟩ := ifn_inv h
            refine va_sld X.1 X.2.1 hX hbl hbA hS hin dL_law_345 ?_
            refine u_aload_n X hl dL_law_346 0 rfl ?_
            refine u_iload_n X hl dL_law_347 3 rfl ?_
            refine u_iconst (v := 2) X dL_law_348 rfl ?_
            refine u_iadd X dL_law_349 ?_
            obtain ⟨hin, h⟩ := ifn_inv h
            refine va_sld X.1 X.2.1 hX hbl hbA hS hin dL_law_350 ?_
            refine u_aload_n X hl dL_law_351 0 rfl ?_
            refine u_iload_n X hl dL_law_352 3 rfl ?_
            refine u_iconst (v := 3) X dL_law_353 rfl ?_
            refine u_iadd X dL_law_354 ?_
            obtain ⟨hin, h⟩ := ifn_inv h
            refine va_sld X.1 X.2.1 hX hbl hbA hS hin dL_law_355 ?_
            have J364 : ∀ (H : Heap) (locs : List Loc) (ls : Array Slot) (s4_364 : Int32), lv_has ls 4 [(0, .ref b), (1, .ref (ad 0)), (2, .ref (ad 56)), (3, .int l3_18)] → va_P D clss (wld cs ad zc337) H → va_S A s.heap H locs → fLaw_J364 xs L zc337 (fLaw_L18 xs L n18) l3_18 w337 (xs (l3_18 + 1).toNatClampNeg) (xs (l3_18 + 2).toNatClampNeg) s4_364 = some (1, z1) → W p l e R s m args below meth c H locs cells slots Q (F0 m 364 ls [.int s4_364, .int (xs (l3_18 + 2).toNatClampNeg), .int (xs (l3_18 + 1).toNatClampNeg), .ref (ad 56), .int w337]) := by
              intro H locs ls s4_364 hl hP hS h
              rw [fLaw_J364] at h
              obtain ⟨w364, zc364, hc364, h⟩ := ob2_inv h
              refine u_callViG hcs X hP hS hl dL_law_364 (cM_kin l hc364) cw_L_33 io_56 rfl rfl rfl rfl ⟨rfl, rfl⟩ (fun H locs hP hS => ?_)
              refine u_icmp_eq 1626 X dL_law_367 rfl (fun hc => ?_) (fun hc => ?_)
              · rw [if_pos hc] at h
                refine u_iinc [(3, .int (l3_18 + 4)), (0, .ref b), (1, .ref (ad 0)), (2, .ref (ad 56))] X hl dL_law_1626 3 rfl rfl (Nat.le_of_ble_eq_true rfl) rfl (fun ls hl => ?_)
                refine u_goto 18 X dL_law_1629 rfl ?_
                exact ih18 _ _ _ _ _ (lv_sub hl [1, 2, 3, 0] rfl) hP hS h
              · rw [if_neg hc] at h
                refine u_iconst (v := 0) X dL_law_370 rfl ?_
                exact (law_no h).elim
            refine u_if_eq 363 X dL_law_356 rfl (fun hc => ?_) (fun hc => ?_)
            · rw [if_pos hc] at h
              refine u_iconst (v := 0) X dL_law_363 rfl ?_
              exact J364 _ _ _ _ hl hP hS h
            · rw [if_neg hc] at h
              refine u_iconst (v := 1) X dL_law_359 rfl ?_
              refine u_goto 364 X dL_law_360 rfl ?_
              exact J364 _ _ _ _ hl hP hS h
          refine u_if_eq 336 X dL_law_329 rfl (fun hc => ?_) (fun hc => ?_)
          · rw [if_pos hc] at h
            refine u_iconst (v := 0) X dL_law_336 rfl ?_
            exact J337 _ _ _ _ hl hP hS h
          · rw [if_neg hc] at h
            refine u_iconst (v := 1) X dL_law_332 rfl ?_
            refine u_goto 337 X dL_law_333 rfl ?_
            exact J337 _ _ _ _ hl hP hS h
        rw [if_neg hc3] at h
        by_cases hc4 : ((xs l3_18.toNatClampNeg) &&& 63) = 4
        · rw [if_pos hc4] at h
          refine u_tsw 372 X dL_law_32 (v := 4) (by rw [hc4]; rfl) (by decide) ?_
          refine u_aload_n X hl dL_law_372 1 rfl ?_
          refine u_aload_n X hl dL_law_373 0 rfl ?_
          refine u_iload_n X hl dL_law_374 3 rfl ?_
          refine u_iconst (v := 1) X dL_law_375 rfl ?_
          refine u_iadd X dL_law_376 ?_
          obtain ⟨hin, h⟩ := ifn_inv h
          refine va_sld X.1 X.2.1 hX hbl hbA hS hin dL_law_377 ?_
          refine u_aload_n X hl dL_law_378 0 rfl ?_
          refine u_iload_n X hl dL_law_379 3 rfl ?_
          refine u_iconst (v := 2) X dL_law_380 rfl ?_
          refine u_iadd X dL_law_381 ?_
          obtain ⟨hin, h⟩ := ifn_inv h
          refine va_sld X.1 X.2.1 hX hbl hbA hS hin dL_law_382 ?_
          refine u_aload_n X hl dL_law_383 0 rfl ?_
          refine u_iload_n X hl dL_law_384 3 rfl ?_
          refine u_iconst (v := 3) X dL_law_385 rfl ?_
          refine u_iadd X dL_law_386 ?_
          obtain ⟨hin, h⟩ := ifn_inv h
          refine va_sld X.1 X.2.1 hX hbl hbA hS hin dL_law_387 ?_
          obtain ⟨w388, zc388, hc388, h⟩ := ob2_inv h
          refine u_callViG hcs X hP hS hl dL_law_388 (cT_trust l hc388) cw_L_34 io_0 rfl rfl rfl rfl ⟨rfl, rfl⟩ (fun H locs hP hS => ?_)
          refine u_aload_n X hl dL_law_391 2 rfl ?_
          refine u_aload_n X hl dL_law_392 0 rfl ?_
          refine u_iload_n X hl dL_law_393 3 rfl ?_
          refine u_iconst (v := 1) X dL_law_394 rfl ?_
          refine u_iadd X dL_law_395 ?_
          obtain ⟨hin, h⟩ := ifn_inv h
          refine va_sld X.1 X.2.1 hX hbl hbA hS hin dL_law_396 ?_
          refine u_aload_n X hl dL_law_397 0 rfl ?_
          refine u_iload_n X hl dL_law_398 3 rfl ?_
          refine u_iconst (v := 2) X dL_law_399 rfl ?_
          refine u_iadd X dL_law_400 ?_
          obtain ⟨hin, h⟩ := ifn_inv h
          refine va_sld X.1 X.2.1 hX hbl hbA hS hin dL_law_401 ?_
          refine u_aload_n X hl dL_law_402 0 rfl ?_
          refine u_iload_n X hl dL_law_403 3 rfl ?_
          refine u_iconst (v := 3) X dL_law_404 rfl ?_
          refine u_iadd X dL_law_405 ?_
          obtain ⟨hin, h⟩ := ifn_inv h
          refine va_sld X.1 X.2.1 hX hbl hbA hS hin dL_law_406 ?_
          obtain ⟨w407, zc407, hc407, h⟩ := ob2_inv h
          refine u_callViG hcs X hP hS hl dL_law_407 (cM_trust l hc407) cw_L_38 io_56 rfl rfl rfl rfl ⟨rfl, rfl⟩ (fun H locs hP hS => ?_)
          refine u_icmp_eq 1626 X dL_law_410 rfl (fun hc => ?_) (fun hc => ?_)
          · rw [if_pos hc] at h
            refine u_iinc [(3, .int (l3_18 + 4)), (0, .ref b), (1, .ref (ad 0)), (2, .ref (ad 56))] X hl dL_law_1626 3 rfl rfl (Nat.le_of_ble_eq_true rfl) rfl (fun ls hl => ?_)
            refine u_goto 18 X dL_law_1629 rfl ?_
            exact ih18 _ _ _ _ _ (lv_sub hl [1, 2, 3, 0] rfl) hP hS h
          · rw [if_neg hc] at h
            refine u_iconst (v := 0) X dL_law_413 rfl ?_
            exact (law_no h).elim
        rw [if_neg hc4] at h
        by_cases hc5 : ((xs l3_18.toNatClampNeg) &&& 63) = 5
        · rw [if_pos hc5] at h
          refine u_tsw 415 X dL_law_32 (v := 5) (by rw [hc5]; rfl) (by decide) ?_
          refine u_aload_n X hl dL_law_415 1 rfl ?_
          refine u_aload_n X hl dL_law_416 0 rfl ?_
          refine u_iload_n X hl dL_law_417 3 rfl ?_
          refine u_iconst (v := 1) X dL_law_418 rfl ?_
          refine u_iadd X dL_law_419 ?_
          obtain ⟨hin, h⟩ := ifn_inv h
          refine va_sld X.1 X.2.1 hX hbl hbA hS hin dL_law_420 ?_
          refine u_aload_n X hl dL_law_421 0 rfl ?_
          refine u_iload_n X hl dL_law_422 3 rfl ?_
          refine u_iconst (v := 2) X dL_law_423 rfl ?_
          refine u_iadd X dL_law_424 ?_
          obtain ⟨hin, h⟩ := ifn_inv h
          refine va_sld X.1 X.2.1 hX hbl hbA hS hin dL_law_425 ?_
          refine u_aload_n X hl dL_law_426 0 rfl ?_
          refine u_iload_n X hl dL_law_427 3 rfl ?_
          refine u_iconst (v := 3) X dL_law_428 rfl ?_
          refine u_iadd X dL_law_429 ?_
          obtain ⟨hin, h⟩ := ifn_inv h
          refine va_sld X.1 X.2.1 hX hbl hbA hS hin dL_law_430 ?_
          have J439 : ∀ (H : Heap) (locs : List Loc) (ls : Array Slot) (s3_439 : Int32), lv_has ls 4 [(0, .ref b), (1, .ref (ad 0)), (2, .ref (ad 56)), (3, .int l3_18)] → va_P D clss (wld cs ad z_18) H → va_S A s.heap H locs → fLaw_J439 xs L z_18 (fLaw_L18 xs L n18) l3_18 (xs (l3_18 + 1).toNatClampNeg) (xs (l3_18 + 2).toNatClampNeg) s3_439 = some (1, z1) → W p l e R s m args below meth c H locs cells slots Q (F0 m 439 ls [.int s3_439, .int (xs (l3_18 + 2).toNatClampNeg), .int (xs (l3_18 + 1).toNatClampNeg), .ref (ad 0)]) := by
            intro H locs ls s3_439 hl hP hS h
            rw [fLaw_J439] at h
            obtain ⟨w439, zc439, hc439, h⟩ := ob2_inv h
            refine u_callViG hcs X hP hS hl dL_law_439 (cT_away l hc439) cw_L_39 io_0 rfl rfl rfl rfl ⟨rfl, rfl⟩ (fun H locs hP hS => ?_)
            refine u_aload_n X hl dL_law_442 2 rfl ?_
            refine u_aload_n X hl dL_law_443 0 rfl ?_
            refine u_iload_n X hl dL_law_444 3 rfl ?_
            refine u_iconst (v := 1) X dL_law_445 rfl ?_
            refine u_iadd X dL_law_446 ?_
            obtain ⟨hin, h⟩ := ifn_inv h
            refine va_sld X.1 X.2.1 hX hbl hbA hS hin dL_law_447 ?_
            refine u_aload_n X hl dL_law_448 0 rfl ?_
            refine u_iload_n X hl dL_law_449 3 rfl ?_
            refine u_iconst (v := 2) X dL_law_450 rfl ?_
            refine u_iadd X dL_law_451 ?_
            obtain ⟨hin, h⟩ := ifn_inv h
            refine va_sld X.1 X.2.1 hX hbl hbA hS hin dL_law_452 ?_
            refine u_aload_n X hl dL_law_453 0 rfl ?_
            refine u_iload_n X hl dL_law_454 3 rfl ?_
            refine u_iconst (v := 3) X dL_law_455 rfl ?_
            refine u_iadd X dL_law_456 ?_
            obtain ⟨hin, h⟩ := ifn_inv h
            refine va_sld X.1 X.2.1 hX hbl hbA hS hin dL_law_457 ?_
            have J466 : ∀ (H : Heap) (locs : List Loc) (ls : Array Slot) (s4_466 : Int32), lv_has ls 4 [(0, .ref b), (1, .ref (ad 0)), (2, .ref (ad 56)), (3, .int l3_18)] → va_P D clss (wld cs ad zc439) H → va_S A s.heap H locs → fLaw_J466 xs L zc439 (fLaw_L18 xs L n18) l3_18 w439 (xs (l3_18 + 1).toNatClampNeg) (xs (l3_18 + 2).toNatClampNeg) s4_466 = some (1, z1) → W p l e R s m args below meth c H locs cells slots Q (F0 m 466 ls [.int s4_466, .int (xs (l3_18 + 2).toNatClampNeg), .int (xs (l3_18 + 1).toNatClampNeg), .ref (ad 56), .int w439]) := by
              intro H locs ls s4_466 hl hP hS h
              rw [fLaw_J466] at h
              obtain ⟨w466, zc466, hc466, h⟩ := ob2_inv h
              refine u_callViG hcs X hP hS hl dL_law_466 (cM_away l hc466) cw_L_42 io_56 rfl rfl rfl rfl ⟨rfl, rfl⟩ (fun H locs hP hS => ?_)
              refine u_icmp_eq 1626 X dL_law_469 rfl (fun hc => ?_) (fun hc => ?_)
              · rw [if_pos hc] at h
                refine u_iinc [(3, .int (l3_18 + 4)), (0, .ref b), (1, .ref (ad 0)), (2, .ref (ad 56))] X hl dL_law_1626 3 rfl rfl (Nat.le_of_ble_eq_true rfl) rfl (fun ls hl => ?_)
                refine u_goto 18 X dL_law_1629 rfl ?_
                exact ih18 _ _ _ _ _ (lv_sub hl [1, 2, 3, 0] rfl) hP hS h
              · rw [if_neg hc] at h
                refine u_iconst (v := 0) X dL_law_472 rfl ?_
                exact (law_no h).elim
            refine u_if_eq 465 X dL_law_458 rfl (fun hc => ?_) (fun hc => ?_)
            · rw [if_pos hc] at h
              refine u_iconst (v := 0) X dL_law_465 rfl ?_
              exact J466 _ _ _ _ hl hP hS h
            · rw [if_neg hc] at h
              refine u_iconst (v := 1) X dL_law_461 rfl ?_
              refine u_goto 466 X dL_law_462 rfl ?_
              exact J466 _ _ _ _ hl hP hS h
          refine u_if_eq 438 X dL_law_431 rfl (fun hc => ?_) (fun hc => ?_)
          · rw [if_pos hc] at h
            refine u_iconst (v := 0) X dL_law_438 rfl ?_
            exact J439 _ _ _ _ hl hP hS h
          · rw [if_neg hc] at h
            refine u_iconst (v := 1) X dL_law_434 rfl ?_
            refine u_goto 439 X dL_law_435 rfl ?_
            exact J439 _ _ _ _ hl hP hS h
        rw [if_neg hc5] at h
        by_cases hc6 : ((xs l3_18.toNatClampNeg) &&& 63) = 6
        · rw [if_pos hc6] at h
          refine u_tsw 474 X dL_law_32 (v := 6) (by rw [hc6]; rfl) (by decide) ?_
          refine u_aload_n X hl dL_law_474 1 rfl ?_
          refine u_aload_n X hl dL_law_475 0 rfl ?_
          refine u_iload_n X hl dL_law_476 3 rfl ?_
          refine u_iconst (v := 1) X dL_law_477 rfl ?_
          refine u_iadd X dL_law_478 ?_
          obtain ⟨hin, h⟩ := ifn_inv h
          refine va_sld X.1 X.2.1 hX hbl hbA hS hin dL_law_479 ?_
          refine u_aload_n X hl dL_law_480 0 rfl ?_
          refine u_iload_n X hl dL_law_481 3 rfl ?_
          refine u_iconst (v := 2) X dL_law_482 rfl ?_
          refine u_iadd X dL_law_483 ?_
          obtain ⟨hin, h⟩ := ifn_inv h
          refine va_sld X.1 X.2.1 hX hbl hbA hS hin dL_law_484 ?_
          obtain ⟨w485, zc485, hc485, h⟩ := ob2_inv h
          refine u_callViG hcs X hP hS hl dL_law_485 (cT_set l hc485) cw_L_43 io_0 rfl rfl rfl rfl ⟨rfl, rfl⟩ (fun H locs hP hS => ?_)
          refine u_aload_n X hl dL_law_488 2 rfl ?_
          refine u_aload_n X hl dL_law_489 0 rfl ?_
          refine u_iload_n X hl dL_law_490 3 rfl ?_
          refine u_iconst (v := 1) X dL_law_491 rfl ?_
          refine u_iadd X dL_law_492 ?_
          obtain ⟨hin, h⟩ := ifn_inv h
          refine va_sld X.1 X.2.1 hX hbl hbA hS hin dL_law_493 ?_
          refine u_aload_n X hl dL_law_494 0 rfl ?_
          refine u_iload_n X hl dL_law_495 3 rfl ?_
          refine u_iconst (v := 2) X dL_law_496 rfl ?_
          refine u_iadd X dL_law_497 ?_
          obtain ⟨hin, h⟩ := ifn_inv h
          refine va_sld X.1 X.2.1 hX hbl hbA hS hin dL_law_498 ?_
          obtain ⟨w499, zc499, hc499, h⟩ := ob2_inv h
          refine u_callViG hcs X hP hS hl dL_law_499 (cM_set l hc499) cw_L_47 io_56 rfl rfl rfl rfl ⟨rfl, rfl⟩ (fun H locs hP hS => ?_)
          refine u_icmp_eq 1626 X dL_law_502 rfl (fun hc => ?_) (fun hc => ?_)
          · rw [if_pos hc] at h
            refine u_iinc [(3, .int (l3_18 + 4)), (0, .ref b), (1, .ref (ad 0)), (2, .ref (ad 56))] X hl dL_law_1626 3 rfl rfl (Nat.le_of_ble_eq_true rfl) rfl (fun ls hl => ?_)
            refine u_goto 18 X dL_law_1629 rfl ?_
            exact ih18 _ _ _ _ _ (lv_sub hl [1, 2, 3, 0] rfl) hP hS h
          · rw [if_neg hc] at h
            refine u_iconst (v := 0) X dL_law_505 rfl ?_
            exact (law_no h).elim
        rw [if_neg hc6] at h
        by_cases hc7 : ((xs l3_18.toNatClampNeg) &&& 63) = 7
        · rw [if_pos hc7] at h
          refine u_tsw 507 X dL_law_32 (v := 7) (by rw [hc7]; rfl) (by decide) ?_
          refine u_aload_n X hl dL_law_507 1 rfl ?_
          refine u_aload_n X hl dL_law_508 0 rfl ?_
          refine u_iload_n X hl dL_law_509 3 rfl ?_
          refine u_iconst (v := 1) X dL_law_510 rfl ?_
          refine u_iadd X dL_law_511 ?_
          obtain ⟨hin, h⟩ := ifn_inv h
          refine va_sld X.1 X.2.1 hX hbl hbA hS hin dL_law_512 ?_
          obtain ⟨w513, hc513, h⟩ := ob_inv h
          refine u_callViG hcs X hP hS hl dL_law_513 (cT_law l hc513) cw_L_48 io_0 rfl rfl rfl rfl ⟨rfl, rfl⟩ (fun H locs hP hS => ?_)
          refine u_aload_n X hl dL_law_516 2 rfl ?_
          refine u_aload_n X hl dL_law_517 0 rfl ?_
          refine u_iload_n X hl dL_law_518 3 rfl ?_
          refine u_iconst (v := 1) X dL_law_519 rfl ?_
          refine u_iadd X dL_law_520 ?_
          obtain ⟨hin, h⟩ := ifn_inv h
          refine va_sld X.1 X.2.1 hX hbl hbA hS hin dL_law_521 ?_
          obtain ⟨w522, hc522, h⟩ := ob_inv h
          refine u_callViG hcs X hP hS hl dL_law_522 (cM_law l hc522) cw_L_52 io_56 rfl rfl rfl rfl ⟨rfl, rfl⟩ (fun H locs hP hS => ?_)
          refine u_icmp_eq 1626 X dL_law_525 rfl (fun hc => ?_) (fun hc => ?_)
          · rw [if_pos hc] at h
            refine u_iinc [(3, .int (l3_18 + 4)), (0, .ref b), (1, .ref (ad 0)), (2, .ref (ad 56))] X hl dL_law_1626 3 rfl rfl (Nat.le_of_ble_eq_true rfl) rfl (fun ls hl => ?_)
            refine u_goto 18 X dL_law_1629 rfl ?_
            exact ih18 _ _ _ _ _ (lv_sub hl [1, 2, 3, 0] rfl) hP hS h
          · rw [if_neg hc] at h
            refine u_iconst (v := 0) X dL_law_528 rfl ?_
            exact (law_no h).elim
        rw [if_neg hc7] at h
        by_cases hc8 : ((xs l3_18.toNatClampNeg) &&& 63) = 8
        · rw [if_pos hc8] at h
          refine u_tsw 530 X dL_law_32 (v := 8) (by rw [hc8]; rfl) (by decide) ?_
          refine u_aload_n X hl dL_law_530 1 rfl ?_
          refine u_aload_n X hl dL_law_531 0 rfl ?_
          refine u_iload_n X hl dL_law_532 3 rfl ?_
          refine u_iconst (v := 1) X dL_law_533 rfl ?_
          refine u_iadd X dL_law_534 ?_
          obtain ⟨hin, h⟩ := ifn_inv h
          refine va_sld X.1 X.2.1 hX hbl hbA hS hin dL_law_535 ?_
          refine u_aload_n X hl dL_law_536 0 rfl ?_
          refine u_iload_n X hl dL_law_537 3 rfl ?_
          refine u_iconst (v := 2) X dL_law_538 rfl ?_
          refine u_iadd X dL_law_539 ?_
          obtain ⟨hin, h⟩ := ifn_inv h
          refine va_sld X.1 X.2.1 hX hbl hbA hS hin dL_law_540 ?_
          refine u_aload_n X hl dL_law_541 0 rfl ?_
          refine u_iload_n X hl dL_law_542 3 rfl ?_
          refine u_iconst (v := 3) X dL_law_543 rfl ?_
          refine u_iadd X dL_law_544 ?_
          obtain ⟨hin, h⟩ := ifn_inv h
          refine va_sld X.1 X.2.1 hX hbl hbA hS hin dL_law_545 ?_
          obtain ⟨w546, zc546, hc546, h⟩ := ob2_inv h
          refine u_callViG hcs X hP hS hl dL_law_546 (cT_post l hc546) cw_L_53 io_0 rfl rfl rfl rfl ⟨rfl, rfl⟩ (fun H locs hP hS => ?_)
          refine u_aload_n X hl dL_law_549 2 rfl ?_
          refine u_aload_n X hl dL_law_550 0 rfl ?_
          refine u_iload_n X hl dL_law_551 3 rfl ?_
          refine u_iconst (v := 1) X dL_law_552 rfl ?_
          refine u_iadd X dL_law_553 ?_
          obtain ⟨hin, h⟩ := ifn_inv h
          refine va_sld X.1 X.2.1 hX hbl hbA hS hin dL_law_554 ?_
          refine u_aload_n X hl dL_law_555 0 rfl ?_
          refine u_iload_n X hl dL_law_556 3 rfl ?_
          refine u_iconst (v := 2) X dL_law_557 rfl ?_
          refine u_iadd X dL_law_558 ?_
          obtain ⟨hin, h⟩ := ifn_inv h
          refine va_sld X.1 X.2.1 hX hbl hbA hS hin dL_law_559 ?_
          refine u_aload_n X hl dL_law_560 0 rfl ?_
          refine u_iload_n X hl dL_law_561 3 rfl ?_
          refine u_iconst (v := 3) X dL_law_562 rfl ?_
          refine u_iadd X dL_law_563 ?_
          obtain ⟨hin, h⟩ := ifn_inv h
          refine va_sld X.1 X.2.1 hX hbl hbA hS hin dL_law_564 ?_
          obtain ⟨w565, zc565, hc565, h⟩ := ob2_inv h
          refine u_callViG hcs X hP hS hl dL_law_565 (cM_post l hc565) cw_L_56 io_56 rfl rfl rfl rfl ⟨rfl, rfl⟩ (fun H locs hP hS => ?_)
          refine u_icmp_eq 1626 X dL_law_568 rfl (fun hc => ?_) (fun hc => ?_)
          · rw [if_pos hc] at h
            refine u_iinc [(3, .int (l3_18 + 4)), (0, .ref b), (1, .ref (ad 0)), (2, .ref (ad 56))] X hl dL_law_1626 3 rfl rfl (Nat.le_of_ble_eq_true rfl) rfl (fun ls hl => ?_)
            refine u_goto 18 X dL_law_1629 rfl ?_
            exact ih18 _ _ _ _ _ (lv_sub hl [1, 2, 3, 0] rfl) hP hS h
          · rw [if_neg hc] at h
            refine u_iconst (v := 0) X dL_law_571 rfl ?_
            exact (law_no h).elim
        rw [if_neg hc8] at h
        by_cases hc9 : ((xs l3_18.toNatClampNeg) &&& 63) = 9
        · rw [if_pos hc9] at h
          refine u_tsw 573 X dL_law_32 (v := 9) (by rw [hc9]; rfl) (by decide) ?_
          refine u_aload_n X hl dL_law_573 1 rfl ?_
          refine u_aload_n X hl dL_law_574 0 rfl ?_
          refine u_iload_n X hl dL_law_575 3 rfl ?_
          refine u_iconst (v := 1) X dL_law_576 rfl ?_
          refine u_iadd X dL_law_577 ?_
          obtain ⟨hin, h⟩ := ifn_inv h
          refine va_sld X.1 X.2.1 hX hbl hbA hS hin dL_law_578 ?_
          refine u_aload_n X hl dL_law_579 0 rfl ?_
          refine u_iload_n X hl dL_law_580 3 rfl ?_
          refine u_iconst (v := 2) X dL_law_581 rfl ?_
          refine u_iadd X dL_law_582 ?_
          obtain ⟨hin, h⟩ := ifn_inv h
          refine va_sld X.1 X.2.1 hX hbl hbA hS hin dL_law_583 ?_
          obtain ⟨w584, hc584, h⟩ := ob_inv h
          refine u_callViG hcs X hP hS hl dL_law_584 (cT_postOf l hc584) cw_L_57 io_0 rfl rfl rfl rfl ⟨rfl, rfl⟩ (fun H locs hP hS => ?_)
          refine u_aload_n X hl dL_law_587 2 rfl ?_
          refine u_aload_n X hl dL_law_588 0 rfl ?_
          refine u_iload_n X hl dL_law_589 3 rfl ?_
          refine u_iconst (v := 1) X dL_law_590 rfl ?_
          refine u_iadd X dL_law_591 ?_
          obtain ⟨hin, h⟩ := ifn_inv h
          refine va_sld X.1 X.2.1 hX hbl hbA hS hin dL_law_592 ?_
          refine u_aload_n X hl dL_law_593 0 rfl ?_
          refine u_iload_n X hl dL_law_594 3 rfl ?_
          refine u_iconst (v := 2) X dL_law_595 rfl ?_
          refine u_iadd X dL_law_596 ?_
          obtain ⟨hin, h⟩ := ifn_inv h
          refine va_sld X.1 X.2.1 hX hbl hbA hS hin dL_law_597 ?_
          obtain ⟨w598, hc598, h⟩ := ob_inv h
          refine u_callViG hcs X hP hS hl dL_law_598 (cM_postOf l hc598) cw_L_60 io_56 rfl rfl rfl rfl ⟨rfl, rfl⟩ (fun H locs hP hS => ?_)
          refine u_icmp_eq 1626 X dL_law_601 rfl (fun hc => ?_) (fun hc => ?_)
          · rw [if_pos hc] at h
            refine u_iinc [(3, .int (l3_18 + 4)), (0, .ref b), (1, .ref (ad 0)), (2, .ref (ad 56))] X hl dL_law_1626 3 rfl rfl (Nat.le_of_ble_eq_true rfl) rfl (fun ls hl => ?_)
            refine u_goto 18 X dL_law_1629 rfl ?_
            exact ih18 _ _ _ _ _ (lv_sub hl [1, 2, 3, 0] rfl) hP hS h
          · rw [if_neg hc] at h
            refine u_iconst (v := 0) X dL_law_604 rfl ?_
            exact (law_no h).elim
        rw [if_neg hc9] at h
        by_cases hc10 : ((xs l3_18.toNatClampNeg) &&& 63) = 10
        · rw [if_pos hc10] at h
          refine u_tsw 606 X dL_law_32 (v := 10) (by rw [hc10]; rfl) (by decide) ?_
          refine u_aload_n X hl dL_law_606 1 rfl ?_
          refine u_aload_n X hl dL_law_607 0 rfl ?_
          refine u_iload_n X hl dL_law_608 3 rfl ?_
          refine u_iconst (v := 1) X dL_law_609 rfl ?_
          refine u_iadd X dL_law_610 ?_
          obtain ⟨hin, h⟩ := ifn_inv h
          refine va_sld X.1 X.2.1 hX hbl hbA hS hin dL_law_611 ?_
          refine u_aload_n X hl dL_law_612 0 rfl ?_
          refine u_iload_n X hl dL_law_613 3 rfl ?_
          refine u_iconst (v := 2) X dL_law_614 rfl ?_
          refine u_iadd X dL_law_615 ?_
          obtain ⟨hin, h⟩ := ifn_inv h
          refine va_sld X.1 X.2.1 hX hbl hbA hS hin dL_law_616 ?_
          have J625 : ∀ (H : Heap) (locs : List Loc) (ls : Array Slot) (s2_625 : Int32), lv_has ls 4 [(0, .ref b), (1, .ref (ad 0)), (2, .ref (ad 56)), (3, .int l3_18)] → va_P D clss (wld cs ad z_18) H → va_S A s.heap H locs → fLaw_J625 xs L z_18 (fLaw_L18 xs L n18) l3_18 (xs (l3_18 + 1).toNatClampNeg) s2_625 = some (1, z1) → W p l e R s m args below meth c H locs cells slots Q (F0 m 625 ls [.int s2_625, .int (xs (l3_18 + 1).toNatClampNeg), .ref (ad 0)]) := by
            intro H locs ls s2_625 hl hP hS h
            rw [fLaw_J625] at h
            obtain ⟨w625, zc625, hc625, h⟩ := ob2_inv h
            refine u_callViG hcs X hP hS hl dL_law_625 (cT_surprise l hc625) cw_L_61 io_0 rfl rfl rfl rfl ⟨rfl, rfl⟩ (fun H locs hP hS => ?_)
            refine u_aload_n X hl dL_law_628 2 rfl ?_
            refine u_aload_n X hl dL_law_629 0 rfl ?_
            refine u_iload_n X hl dL_law_630 3 rfl ?_
            refine u_iconst (v := 1) X dL_law_631 rfl ?_
            refine u_iadd X dL_law_632 ?_
            obtain ⟨hin, h⟩ := ifn_inv h
            refine va_sld X.1 X.2.1 hX hbl hbA hS hin dL_law_633 ?_
            refine u_aload_n X hl dL_law_634 0 rfl ?_
            refine u_iload_n X hl dL_law_635 3 rfl ?_
            refine u_iconst (v := 2) X dL_law_636 rfl ?_
            refine u_iadd X dL_law_637 ?_
            obtain ⟨hin, h⟩ := ifn_inv h
            refine va_sld X.1 X.2.1 hX hbl hbA hS hin dL_law_638 ?_
            have J647 : ∀ (H : Heap) (locs : List Loc) (ls : Array Slot) (s3_647 : Int32), lv_has ls 4 [(0, .ref b), (1, .ref (ad 0)), (2, .ref (ad 56)), (3, .int l3_18)] → va_P D clss (wld cs ad zc625) H → va_S A s.heap H locs → fLaw_J647 xs L zc625 (fLaw_L18 xs L n18) l3_18 w625 (xs (l3_18 + 1).toNatClampNeg) s3_647 = some (1, z1) → W p l e R s m args below meth c H locs cells slots Q (F0 m 647 ls [.int s3_647, .int (xs (l3_18 + 1).toNatClampNeg), .ref (ad 56), .int w625]) := by
              intro H locs ls s3_647 hl hP hS h
              rw [fLaw_J647] at h
              obtain ⟨w647, zc647, hc647, h⟩ := ob2_inv h
              refine u_callViG hcs X hP hS hl dL_law_647 (cM_surprise l hc647) cw_L_65 io_56 rfl rfl rfl rfl ⟨rfl, rfl⟩ (fun H locs hP hS => ?_)
              refine u_icmp_eq 1626 X dL_law_650 rfl (fun hc => ?_) (fun hc => ?_)
              · rw [if_pos hc] at h
                refine u_iinc [(3, .int (l3_18 + 4)), (0, .ref b), (1, .ref (ad 0)), (2, .ref (ad 56))] X hl dL_law_1626 3 rfl rfl (Nat.le_of_ble_eq_true rfl) rfl (fun ls hl => ?_)
                refine u_goto 18 X dL_law_1629 rfl ?_
                exact ih18 _ _ _ _ _ (lv_sub hl [1, 2, 3, 0] rfl) hP hS h
              · rw [if_neg hc] at h
                refine u_iconst (v := 0) X dL_law_653 rfl ?_
                exact (law_no h).elim
            refine u_if_eq 646 X dL_law_639 rfl (fun hc => ?_) (fun hc => ?_)
            · rw [if_pos hc] at h
              refine u_iconst (v := 0) X dL_law_646 rfl ?_
              exact J647 _ _ _ _ hl hP hS h
            · rw [if_neg hc] at h
              refine u_iconst (v := 1) X dL_law_642 rfl ?_
              refine u_goto 647 X dL_law_643 rfl ?_
              exact J647 _ _ _ _ hl hP hS h
          refine u_if_eq 624 X dL_law_617 rfl (fun hc => ?_) (fun hc => ?_)
          · rw [if_pos hc] at h
            refine u_iconst (v := 0) X dL_law_624 rfl ?_
            exact J625 _ _ _ _ hl hP hS h
          · rw [if_neg hc] at h
            refine u_iconst (v := 1) X dL_law_620 rfl ?_
            refine u_goto 625 X dL_law_621 rfl ?_
            exact J625 _ _ _ _ hl hP hS h
        rw [if_neg hc10] at h
        by_cases hc11 : ((xs l3_18.toNatClampNeg) &&& 63) = 11
        · rw [if_pos hc11] at h
          refine u_tsw 655 X dL_law_32 (v := 11) (by rw [hc11]; rfl) (by decide) ?_
          refine u_aload_n X hl dL_law_655 1 rfl ?_
          refine u_aload_n X hl dL_law_656 0 rfl ?_
          refine u_iload_n X hl dL_law_657 3 rfl ?_
          refine u_iconst (v := 1) X dL_law_658 rfl ?_
          refine u_iadd X dL_law_659 ?_
          obtain ⟨hin, h⟩ := ifn_inv h
          refine va_sld X.1 X.2.1 hX hbl hbA hS hin dL_law_660 ?_
          refine u_aload_n X hl dL_law_661 0 rfl ?_
          refine u_iload_n X hl dL_law_662 3 rfl ?_
          refine u_iconst (v := 2) X dL_law_663 rfl ?_
          refine u_iadd X dL_law_664 ?_
          obtain ⟨hin, h⟩ := ifn_inv h
          refine va_sld X.1 X.2.1 hX hbl hbA hS hin dL_law_665 ?_
          obtain ⟨w666, zc666, hc666, h⟩ := ob2_inv h
          refine u_callViG hcs X hP hS hl dL_law_666 (cT_loss l hc666) cw_L_66 io_0 rfl rfl rfl rfl ⟨rfl, rfl⟩ (fun H locs hP hS => ?_)
          refine u_aload_n X hl dL_law_669 2 rfl ?_
          refine u_aload_n X hl dL_law_670 0 rfl ?_
          refine u_iload_n X hl dL_law_671 3 rfl ?_
          refine u_iconst (v := 1) X dL_law_672 rfl ?_
          refine u_iadd X dL_law_673 ?_
          obtain ⟨hin, h⟩ := ifn_inv h
          refine va_sld X.1 X.2.1 hX hbl hbA hS hin dL_law_674 ?_
          refine u_aload_n X hl dL_law_675 0 rfl ?_
          refine u_iload_n X hl dL_law_676 3 rfl ?_
          refine u_iconst (v := 2) X dL_law_677 rfl ?_
          refine u_iadd X dL_law_678 ?_
          obtain ⟨hin, h⟩ := ifn_inv h
          refine va_sld X.1 X.2.1 hX hbl hbA hS hin dL_law_679 ?_
          obtain ⟨w680, zc680, hc680, h⟩ := ob2_inv h
          refine u_callViG hcs X hP hS hl dL_law_680 (cM_loss l hc680) cw_L_69 io_56 rfl rfl rfl rfl ⟨rfl, rfl⟩ (fun H locs hP hS => ?_)
          refine u_icmp_eq 1626 X dL_law_683 rfl (fun hc => ?_) (fun hc => ?_)
          · rw [if_pos hc] at h
            refine u_iinc [(3, .int (l3_18 + 4)), (0, .ref b), (1, .ref (ad 0)), (2, .ref (ad 56))] X hl dL_law_1626 3 rfl rfl (Nat.le_of_ble_eq_true rfl) rfl (fun ls hl => ?_)
            refine u_goto 18 X dL_law_1629 rfl ?_
            exact ih18 _ _ _ _ _ (lv_sub hl [1, 2, 3, 0] rfl) hP hS h
          · rw [if_neg hc] at h
            refine u_iconst (v := 0) X dL_law_686 rfl ?_
            exact (law_no h).elim
        rw [if_neg hc11] at h
        by_cases hc12 : ((xs l3_18.toNatClampNeg) &&& 63) = 12
        · rw [if_pos hc12] at h
          refine u_tsw 688 X dL_law_32 (v := 12) (by rw [hc12]; rfl) (by decide) ?_
          refine u_aload_n X hl dL_law_688 1 rfl ?_
          refine u_aload_n X hl dL_law_689 0 rfl ?_
          refine u_iload_n X hl dL_law_690 3 rfl ?_
          refine u_iconst (v := 1) X dL_law_691 rfl ?_
          refine u_iadd X dL_law_692 ?_
          obtain ⟨hin, h⟩ := ifn_inv h
          refine va_sld X.1 X.2.1 hX hbl hbA hS hin dL_law_693 ?_
          refine u_aload_n X hl dL_law_694 0 rfl ?_
          refine u_iload_n X hl dL_law_695 3 rfl ?_
          refine u_iconst (v := 2) X dL_law_696 rfl ?_
          refine u_iadd X dL_law_697 ?_
          obtain ⟨hin, h⟩ := ifn_inv h
          refine va_sld X.1 X.2.1 hX hbl hbA hS hin dL_law_698 ?_
          refine u_aload_n X hl dL_law_699 0 rfl ?_
          refine u_iload_n X hl dL_law_700 3 rfl ?_
          refine u_iconst (v := 3) X dL_law_701 rfl ?_
          refine u_iadd X dL_law_702 ?_
          obtain ⟨hin, h⟩ := ifn_inv h
          refine va_sld X.1 X.2.1 hX hbl hbA hS hin dL_law_703 ?_
          obtain ⟨w704, hc704, h⟩ := ob_inv h
          refine u_callViG hcs X hP hS hl dL_law_704 (cT_trustOn l hc704) cw_L_70 io_0 rfl rfl rfl rfl ⟨rfl, rfl⟩ (fun H locs hP hS => ?_)
          refine u_aload_n X hl dL_law_707 2 rfl ?_
          refine u_aload_n X hl dL_law_708 0 rfl ?_
          refine u_iload_n X hl dL_law_709 3 rfl ?_
          refine u_iconst (v := 1) X dL_law_710 rfl ?_
          refine u_iadd X dL_law_711 ?_
          obtain ⟨hin, h⟩ := ifn_inv h
          refine va_sld X.1 X.2.1 hX hbl hbA hS hin dL_law_712 ?_
          refine u_aload_n X hl dL_law_713 0 rfl ?_
          refine u_iload_n X hl dL_law_714 3 rfl ?_
          refine u_iconst (v := 2) X dL_law_715 rfl ?_
          refine u_iadd X dL_law_716 ?_
          obtain ⟨hin, h⟩ := ifn_inv h
          refine va_sld X.1 X.2.1 hX hbl hbA hS hin dL_law_717 ?_
          refine u_aload_n X hl dL_law_718 0 rfl ?_
          refine u_iload_n X hl dL_law_719 3 rfl ?_
          refine u_iconst (v := 3) X dL_law_720 rfl ?_
          refine u_iadd X dL_law_721 ?_
          obtain ⟨hin, h⟩ := ifn_inv h
          refine va_sld X.1 X.2.1 hX hbl hbA hS hin dL_law_722 ?_
          obtain ⟨w723, hc723, h⟩ := ob_inv h
          refine u_callViG hcs X hP hS hl dL_law_723 (cM_trustOn l hc723) cw_L_73 io_56 rfl rfl rfl rfl ⟨rfl, rfl⟩ (fun H locs hP hS => ?_)
          refine u_icmp_eq 1626 X dL_law_726 rfl (fun hc => ?_) (fun hc => ?_)
          · rw [if_pos hc] at h
            refine u_iinc [(3, .int (l3_18 + 4)), (0, .ref b), (1, .ref (ad 0)), (2, .ref (ad 56))] X hl dL_law_1626 3 rfl rfl (Nat.le_of_ble_eq_true rfl) rfl (fun ls hl => ?_)
            refine u_goto 18 X dL_law_1629 rfl ?_
            exact ih18 _ _ _ _ _ (lv_sub hl [1, 2, 3, 0] rfl) hP hS h
          · rw [if_neg hc] at h
            refine u_iconst (v := 0) X dL_law_729 rfl ?_
            exact (law_no h).elim
        rw [if_neg hc12] at h
        by_cases hc13 : ((xs l3_18.toNatClampNeg) &&& 63) = 13
        · rw [if_pos hc13] at h
          refine u_tsw 731 X dL_law_32 (v := 13) (by rw [hc13]; rfl) (by decide) ?_
          refine u_aload_n X hl dL_law_731 1 rfl ?_
          refine u_aload_n X hl dL_law_732 0 rfl ?_
          refine u_iload_n X hl dL_law_733 3 rfl ?_
          refine u_iconst (v := 1) X dL_law_734 rfl ?_
          refine u_iadd X dL_law_735 ?_
          obtain ⟨hin, h⟩ := ifn_inv h
          refine va_sld X.1 X.2.1 hX hbl hbA hS hin dL_law_736 ?_
          obtain ⟨w737, hc737, h⟩ := ob_inv h
          refine u_callViG hcs X hP hS hl dL_law_737 (cT_seen l hc737) cw_L_74 io_0 rfl rfl rfl rfl ⟨rfl, rfl⟩ (fun H locs hP hS => ?_)
          refine u_aload_n X hl dL_law_740 2 rfl ?_
          refine u_aload_n X hl dL_law_741 0 rfl ?_
          refine u_iload_n X hl dL_law_742 3 rfl ?_
          refine u_iconst (v := 1) X dL_law_743 rfl ?_
          refine u_iadd X dL_law_744 ?_
          obtain ⟨hin, h⟩ := ifn_inv h
          refine va_sld X.1 X.2.1 hX hbl hbA hS hin dL_law_745 ?_
          obtain ⟨w746, hc746, h⟩ := ob_inv h
          refine u_callViG hcs X hP hS hl dL_law_746 (cM_seen l hc746) cw_L_77 io_56 rfl rfl rfl rfl ⟨rfl, rfl⟩ (fun H locs hP hS => ?_)
          refine u_icmp_eq 1626 X dL_law_749 rfl (fun hc => ?_) (fun hc => ?_)
          · rw [if_pos hc] at h
            refine u_iinc [(3, .int (l3_18 + 4)), (0, .ref b), (1, .ref (ad 0)), (2, .ref (ad 56))] X hl dL_law_1626 3 rfl rfl (Nat.le_of_ble_eq_true rfl) rfl (fun ls hl => ?_)
            refine u_goto 18 X dL_law_1629 rfl ?_
            exact ih18 _ _ _ _ _ (lv_sub hl [1, 2, 3, 0] rfl) hP hS h
          · rw [if_neg hc] at h
            refine u_iconst (v := 0) X dL_law_752 rfl ?_
            exact (law_no h).elim
        rw [if_neg hc13] at h
        by_cases hc14 : ((xs l3_18.toNatClampNeg) &&& 63) = 14
        · rw [if_pos hc14] at h
          refine u_tsw 754 X dL_law_32 (v := 14) (by rw [hc14]; rfl) (by decide) ?_
          refine u_aload_n X hl dL_law_754 1 rfl ?_
          refine u_aload_n X hl dL_law_755 0 rfl ?_
          refine u_iload_n X hl dL_law_756 3 rfl ?_
          refine u_iconst (v := 1) X dL_law_757 rfl ?_
          refine u_iadd X dL_law_758 ?_
          obtain ⟨hin, h⟩ := ifn_inv h
          refine va_sld X.1 X.2.1 hX hbl hbA hS hin dL_law_759 ?_
          obtain ⟨w760, hc760, h⟩ := ob_inv h
          refine u_callViG hcs X hP hS hl dL_law_760 (cT_worth l hc760) cw_L_78 io_0 rfl rfl rfl rfl ⟨rfl, rfl⟩ (fun H locs hP hS => ?_)
          refine u_aload_n X hl dL_law_763 2 rfl ?_
          refine u_aload_n X hl dL_law_764 0 rfl ?_
          refine u_iload_n X hl dL_law_765 3 rfl ?_
          refine u_iconst (v := 1) X dL_law_766 rfl ?_
          refine u_iadd X dL_law_767 ?_
          obtain ⟨hin, h⟩ := ifn_inv h
          refine va_sld X.1 X.2.1 hX hbl hbA hS hin dL_law_768 ?_
          obtain ⟨w769, hc769, h⟩ := ob_inv h
          refine u_callViG hcs X hP hS hl dL_law_769 (cM_worth l hc769) cw_L_81 io_56 rfl rfl rfl rfl ⟨rfl, rfl⟩ (fun H locs hP hS => ?_)
          refine u_icmp_eq 1626 X dL_law_772 rfl (fun hc => ?_) (fun hc => ?_)
          · rw [if_pos hc] at h
            refine u_iinc [(3, .int (l3_18 + 4)), (0, .ref b), (1, .ref (ad 0)), (2, .ref (ad 56))] X hl dL_law_1626 3 rfl rfl (Nat.le_of_ble_eq_true rfl) rfl (fun ls hl => ?_)
            refine u_goto 18 X dL_law_1629 rfl ?_
            exact ih18 _ _ _ _ _ (lv_sub hl [1, 2, 3, 0] rfl) hP hS h
          · rw [if_neg hc] at h
            refine u_iconst (v := 0) X dL_law_775 rfl ?_
            exact (law_no h).elim
        rw [if_neg hc14] at h
        by_cases hc15 : ((xs l3_18.toNatClampNeg) &&& 63) = 15
        · rw [if_pos hc15] at h
          refine u_tsw 777 X dL_law_32 (v := 15) (by rw [hc15]; rfl) (by decide) ?_
          refine u_aload_n X hl dL_law_777 1 rfl ?_
          obtain ⟨w778, hc778, h⟩ := ob_inv h
          refine u_callViG hcs X hP hS hl dL_law_778 (cT_pays l hc778) cw_L_82 io_0 rfl rfl rfl rfl ⟨rfl, rfl⟩ (fun H locs hP hS => ?_)
          refine u_aload_n X hl dL_law_781 2 rfl ?_
          obtain ⟨w782, hc782, h⟩ := ob_inv h
          refine u_callViG hcs X hP hS hl dL_law_782 (cM_pays l hc782) cw_L_85 io_56 rfl rfl rfl rfl ⟨rfl, rfl⟩ (fun H locs hP hS => ?_)
          refine u_icmp_eq 1626 X dL_law_785 rfl (fun hc => ?_) (fun hc => ?_)
          · rw [if_pos hc] at h
            refine u_iinc [(3, .int (l3_18 + 4)), (0, .ref b), (1, .ref (ad 0)), (2, .ref (ad 56))] X hl dL_law_1626 3 rfl rfl (Nat.le_of_ble_eq_true rfl) rfl (fun ls hl => ?_)
            refine u_goto 18 X dL_law_1629 rfl ?_
            exact ih18 _ _ _ _ _ (lv_sub hl [1, 2, 3, 0] rfl) hP hS h
          · rw [if_neg hc] at h
            refine u_iconst (v := 0) X dL_law_788 rfl ?_
            exact (law_no h).elim
        rw [if_neg hc15] at h
        by_cases hc16 : ((xs l3_18.toNatClampNeg) &&& 63) = 16
        · rw [if_pos hc16] at h
          refine u_tsw 790 X dL_law_32 (v := 16) (by rw [hc16]; rfl) (by decide) ?_
          refine u_aload_n X hl dL_law_790 1 rfl ?_
          refine u_aload_n X hl dL_law_791 0 rfl ?_
          refine u_iload_n X hl dL_law_792 3 rfl ?_
          refine u_iconst (v := 1) X dL_law_793 rfl ?_
          refine u_iadd X dL_law_794 ?_
          obtain ⟨hin, h⟩ := ifn_inv h
          refine va_sld X.1 X.2.1 hX hbl hbA hS hin dL_law_795 ?_
          refine u_aload_n X hl dL_law_796 0 rfl ?_
          refine u_iload_n X hl dL_law_797 3 rfl ?_
          refine u_iconst (v := 2) X dL_law_798 rfl ?_
          refine u_iadd X dL_law_799 ?_
          obtain ⟨hin, h⟩ := ifn_inv h
          refine va_sld X.1 X.2.1 hX hbl hbA hS hin dL_law_800 ?_
          refine u_aload_n X hl dL_law_801 0 rfl ?_
          refine u_iload_n X hl dL_law_802 3 rfl ?_
          refine u_iconst (v := 3) X dL_law_803 rfl ?_
          refine u_iadd X dL_law_804 ?_
          obtain ⟨hin, h⟩ := ifn_inv h
          refine va_sld X.1 X.2.1 hX hbl hbA hS hin dL_law_805 ?_
          obtain ⟨w806, zc806, hc806, h⟩ := ob2_inv h
          refine u_callVlG hcs X hP hS hl dL_law_806 (cT_best l hc806) cw_L_86 io_0 rfl rfl rfl rfl ⟨rfl, rfl⟩ (fun H locs hP hS => ?_)
          refine u_aload_n X hl dL_law_809 2 rfl ?_
          refine u_aload_n X hl dL_law_810 0 rfl ?_
          refine u_iload_n X hl dL_law_811 3 rfl ?_
          refine u_iconst (v := 1) X dL_law_812 rfl ?_
          refine u_iadd X dL_law_813 ?_
          obtain ⟨hin, h⟩ := ifn_inv h
          refine va_sld X.1 X.2.1 hX hbl hbA hS hin dL_law_814 ?_
          refine u_aload_n X hl dL_law_815 0 rfl ?_
          refine u_iload_n X hl dL_law_816 3 rfl ?_
          refine u_iconst (v := 2) X dL_law_817 rfl ?_
          refine u_iadd X dL_law_818 ?_
          obtain ⟨hin, h⟩ := ifn_inv h
          refine va_sld X.1 X.2.1 hX hbl hbA hS hin dL_law_819 ?_
          refine u_aload_n X hl dL_law_820 0 rfl ?_
          refine u_iload_n X hl dL_law_821 3 rfl ?_
          refine u_iconst (v := 3) X dL_law_822 rfl ?_
          refine u_iadd X dL_law_823 ?_
          obtain ⟨hin, h⟩ := ifn_inv h
          refine va_sld X.1 X.2.1 hX hbl hbA hS hin dL_law_824 ?_
          obtain ⟨w825, zc825, hc825, h⟩ := ob2_inv h
          refine u_callVlG hcs X hP hS hl dL_law_825 (cM_best l hc825) cw_L_90 io_56 rfl rfl rfl rfl ⟨rfl, rfl⟩ (fun H locs hP hS => ?_)
          refine u_lcmp X dL_law_828 ?_
          refine u_if_eq 1626 X dL_law_829 rfl (fun hc => ?_) (fun hc => ?_)
          · rw [if_pos hc] at h
            refine u_iinc [(3, .int (l3_18 + 4)), (0, .ref b), (1, .ref (ad 0)), (2, .ref (ad 56))] X hl dL_law_1626 3 rfl rfl (Nat.le_of_ble_eq_true rfl) rfl (fun ls hl => ?_)
            refine u_goto 18 X dL_law_1629 rfl ?_
            exact ih18 _ _ _ _ _ (lv_sub hl [1, 2, 3, 0] rfl) hP hS h
          · rw [if_neg hc] at h
            refine u_iconst (v := 0) X dL_law_832 rfl ?_
            exact (law_no h).elim
        rw [if_neg hc16] at h
        by_cases hc17 : ((xs l3_18.toNatClampNeg) &&& 63) = 17
        · rw [if_pos hc17] at h
          refine u_tsw 834 X dL_law_32 (v := 17) (by rw [hc17]; rfl) (by decide) ?_
          refine u_aload_n X hl dL_law_834 1 rfl ?_
          obtain ⟨w835, hc835, h⟩ := ob_inv h
          refine u_callViG hcs X hP hS hl dL_law_835 (cT_enough l hc835) cw_L_91 io_0 rfl rfl rfl rfl ⟨rfl, rfl⟩ (fun H locs hP hS => ?_)
          refine u_aload_n X hl dL_law_838 2 rfl ?_
          obtain ⟨w839, hc839, h⟩ := ob_inv h
          refine u_callViG hcs X hP hS hl dL_law_839 (cM_enough l hc839) cw_L_94 io_56 rfl rfl rfl rfl ⟨rfl, rfl⟩ (fun H locs hP hS => ?_)
          refine u_icmp_eq 1626 X dL_law_842 rfl (fun hc => ?_) (fun hc => ?_)
          · rw [if_pos hc] at h
            refine u_iinc [(3, .int (l3_18 + 4)), (0, .ref b), (1, .ref (ad 0)), (2, .ref (ad 56))] X hl dL_law_1626 3 rfl rfl (Nat.le_of_ble_eq_true rfl) rfl (fun ls hl => ?_)
            refine u_goto 18 X dL_law_1629 rfl ?_
            exact ih18 _ _ _ _ _ (lv_sub hl [1, 2, 3, 0] rfl) hP hS h
          · rw [if_neg hc] at h
            refine u_iconst (v := 0) X dL_law_845 rfl ?_
            exact (law_no h).elim
        rw [if_neg hc17] at h
        by_cases hc18 : ((xs l3_18.toNatClampNeg) &&& 63) = 18
        · rw [if_pos hc18] at h
          refine u_tsw 847 X dL_law_32 (v := 18) (by rw [hc18]; rfl) (by decide) ?_
          refine u_aload_n X hl dL_law_847 1 rfl ?_
          obtain ⟨w848, hc848, h⟩ := ob_inv h
          refine u_callViG hcs X hP hS hl dL_law_848 (cT_needed l hc848) cw_L_95 io_0 rfl rfl rfl rfl ⟨rfl, rfl⟩ (fun H locs hP hS => ?_)
          refine u_aload_n X hl dL_law_851 2 rfl ?_
          obtain ⟨w852, hc852, h⟩ := ob_inv h
          refine u_callViG hcs X hP hS hl dL_law_852 (cM_needed l hc852) cw_L_98 io_56 rfl rfl rfl rfl ⟨rfl, rfl⟩ (fun H locs hP hS => ?_)
          refine u_icmp_eq 1626 X dL_law_855 rfl (fun hc => ?_) (fun hc => ?_)
          · rw [if_pos hc] at h
            refine u_iinc [(3, .int (l3_18 + 4)), (0, .ref b), (1, .ref (ad 0)), (2, .ref (ad 56))] X hl dL_law_1626 3 rfl rfl (Nat.le_of_ble_eq_true rfl) rfl (fun ls hl => ?_)
            refine u_goto 18 X dL_law_1629 rfl ?_
            exact ih18 _ _ _ _ _ (lv_sub hl [1, 2, 3, 0] rfl) hP hS h
          · rw [if_neg hc] at h
            refine u_iconst (v := 0) X dL_law_858 rfl ?_
            exact (law_no h).elim
        rw [if_neg hc18] at h
        by_cases hc19 : ((xs l3_18.toNatClampNeg) &&& 63) = 19
        · rw [if_pos hc19] at h
          refine u_tsw 860 X dL_law_32 (v := 19) (by rw [hc19]; rfl) (by decide) ?_
          refine u_aload_n X hl dL_law_860 1 rfl ?_
          refine u_aload_n X hl dL_law_861 0 rfl ?_
          refine u_iload_n X hl dL_law_862 3 rfl ?_
          refine u_iconst (v := 1) X dL_law_863 rfl ?_
          refine u_iadd X dL_law_864 ?_
          obtain ⟨hin, h⟩ := ifn_inv h
          refine va_sld X.1 X.2.1 hX hbl hbA hS hin dL_law_865 ?_
          obtain ⟨w866, hc866, h⟩ := ob_inv h
          refine u_callViG hcs X hP hS hl dL_law_866 (cT_broken l hc866) cw_L_99 io_0 rfl rfl rfl rfl ⟨rfl, rfl⟩ (fun H locs hP hS => ?_)
          refine u_aload_n X hl dL_law_869 2 rfl ?_
          refine u_aload_n X hl dL_law_870 0 rfl ?_
          refine u_iload_n X hl dL_law_871 3 rfl ?_
          refine u_iconst (v := 1) X dL_law_872 rfl ?_
          refine u_iadd X dL_law_873 ?_
          obtain ⟨hin, h⟩ := ifn_inv h
          refine va_sld X.1 X.2.1 hX hbl hbA hS hin dL_law_874 ?_
          obtain ⟨w875, hc875, h⟩ := ob_inv h
          refine u_callViG hcs X hP hS hl dL_law_875 (cM_broken l hc875) cw_L_102 io_56 rfl rfl rfl rfl ⟨rfl, rfl⟩ (fun H locs hP hS => ?_)
          refine u_icmp_eq 1626 X dL_law_878 rfl (fun hc => ?_) (fun hc => ?_)
          · rw [if_pos hc] at h
            refine u_iinc [(3, .int (l3_18 + 4)), (0, .ref b), (1, .ref (ad 0)), (2, .ref (ad 56))] X hl dL_law_1626 3 rfl rfl (Nat.le_of_ble_eq_true rfl) rfl (fun ls hl => ?_)
            refine u_goto 18 X dL_law_1629 rfl ?_
            exact ih18 _ _ _ _ _ (lv_sub hl [1, 2, 3, 0] rfl) hP hS h
          · rw [if_neg hc] at h
            refine u_iconst (v := 0) X dL_law_881 rfl ?_
            exact (law_no h).elim
        rw [if_neg hc19] at h
        by_cases hc20 : ((xs l3_18.toNatClampNeg) &&& 63) = 20
        · rw [if_pos hc20] at h
          refine u_tsw 883 X dL_law_32 (v := 20) (by rw [hc20]; rfl) (by decide) ?_
          refine u_aload_n X hl dL_law_883 1 rfl ?_
          refine u_aload_n X hl dL_law_884 0 rfl ?_
          refine u_iload_n X hl dL_law_885 3 rfl ?_
          refine u_iconst (v := 1) X dL_law_886 rfl ?_
          refine u_iadd X dL_law_887 ?_
          obtain ⟨hin, h⟩ := ifn_inv h
          refine va_sld X.1 X.2.1 hX hbl hbA hS hin dL_law_888 ?_
          refine u_aload_n X hl dL_law_889 0 rfl ?_
          refine u_iload_n X hl dL_law_890 3 rfl ?_
          refine u_iconst (v := 2) X dL_law_891 rfl ?_
          refine u_iadd X dL_law_892 ?_
          obtain ⟨hin, h⟩ := ifn_inv h
          refine va_sld X.1 X.2.1 hX hbl hbA hS hin dL_law_893 ?_
          obtain ⟨w894, zc894, hc894, h⟩ := ob2_inv h
          refine u_callViG hcs X hP hS hl dL_law_894 (cT_mended l hc894) cw_L_103 io_0 rfl rfl rfl rfl ⟨rfl, rfl⟩ (fun H locs hP hS => ?_)
          refine u_aload_n X hl dL_law_897 2 rfl ?_
          refine u_aload_n X hl dL_law_898 0 rfl ?_
          refine u_iload_n X hl dL_law_899 3 rfl ?_
          refine u_iconst (v := 1) X dL_law_900 rfl ?_
          refine u_iadd X dL_law_901 ?_
          obtain ⟨hin, h⟩ := ifn_inv h
          refine va_sld X.1 X.2.1 hX hbl hbA hS hin dL_law_902 ?_
          refine u_aload_n X hl dL_law_903 0 rfl ?_
          refine u_iload_n X hl dL_law_904 3 rfl ?_
          refine u_iconst (v := 2) X dL_law_905 rfl ?_
          refine u_iadd X dL_law_906 ?_
          obtain ⟨hin, h⟩ := ifn_inv h
          refine va_sld X.1 X.2.1 hX hbl hbA hS hin dL_law_907 ?_
          obtain ⟨w908, zc908, hc908, h⟩ := ob2_inv h
          refine u_callViG hcs X hP hS hl dL_law_908 (cM_mended l hc908) cw_L_106 io_56 rfl rfl rfl rfl ⟨rfl, rfl⟩ (fun H locs hP hS => ?_)
          refine u_icmp_eq 1626 X dL_law_911 rfl (fun hc => ?_) (fun hc => ?_)
          · rw [if_pos hc] at h
            refine u_iinc [(3, .int (l3_18 + 4)), (0, .ref b), (1, .ref (ad 0)), (2, .ref (ad 56))] X hl dL_law_1626 3 rfl rfl (Nat.le_of_ble_eq_true rfl) rfl (fun ls hl => ?_)
            refine u_goto 18 X dL_law_1629 rfl ?_
            exact ih18 _ _ _ _ _ (lv_sub hl [1, 2, 3, 0] rfl) hP hS h
          · rw [if_neg hc] at h
            refine u_iconst (v := 0) X dL_law_914 rfl ?_
            exact (law_no h).elim
        rw [if_neg hc20] at h
        by_cases hc21 : ((xs l3_18.toNatClampNeg) &&& 63) = 21
        · rw [if_pos hc21] at h
          refine u_tsw 916 X dL_law_32 (v := 21) (by rw [hc21]; rfl) (by decide) ?_
          refine u_aload_n X hl dL_law_916 1 rfl ?_
          refine u_aload_n X hl dL_law_917 0 rfl ?_
          refine u_iload_n X hl dL_law_918 3 rfl ?_
          refine u_iconst (v := 1) X dL_law_919 rfl ?_
          refine u_iadd X dL_law_920 ?_
          obtain ⟨hin, h⟩ := ifn_inv h
          refine va_sld X.1 X.2.1 hX hbl hbA hS hin dL_law_921 ?_
          refine u_aload_n X hl dL_law_922 0 rfl ?_
          refine u_iload_n X hl dL_law_923 3 rfl ?_
          refine u_iconst (v := 2) X dL_law_924 rfl ?_
          refine u_iadd X dL_law_925 ?_
          obtain ⟨hin, h⟩ := ifn_inv h
          refine va_sld X.1 X.2.1 hX hbl hbA hS hin dL_law_926 ?_
          obtain ⟨w927, zc927, hc927, h⟩ := ob2_inv h
          refine u_callViG hcs X hP hS hl dL_law_927 (cT_ahead l hc927) cw_L_107 io_0 rfl rfl rfl rfl ⟨rfl, rfl⟩ (fun H locs hP hS => ?_)
          refine u_aload_n X hl dL_law_930 2 rfl ?_
          refine u_aload_n X hl dL_law_931 0 rfl ?_
          refine u_iload_n X hl dL_law_932 3 rfl ?_
          refine u_iconst (v := 1) X dL_law_933 rfl ?_
          refine u_iadd X dL_law_934 ?_
          obtain ⟨hin, h⟩ := ifn_inv h
          refine va_sld X.1 X.2.1 hX hbl hbA hS hin dL_law_935 ?_
          refine u_aload_n X hl dL_law_936 0 rfl ?_
          refine u_iload_n X hl dL_law_937 3 rfl ?_
          refine u_iconst (v := 2) X dL_law_938 rfl ?_
          refine u_iadd X dL_law_939 ?_
          obtain ⟨hin, h⟩ := ifn_inv h
          refine va_sld X.1 X.2.1 hX hbl hbA hS hin dL_law_940 ?_
          obtain ⟨w941, zc941, hc941, h⟩ := ob2_inv h
          refine u_callViG hcs X hP hS hl dL_law_941 (cM_ahead l hc941) cw_L_110 io_56 rfl rfl rfl rfl ⟨rfl, rfl⟩ (fun H locs hP hS => ?_)
          refine u_icmp_eq 1626 X dL_law_944 rfl (fun hc => ?_) (fun hc => ?_)
          · rw [if_pos hc] at h
            refine u_iinc [(3, .int (l3_18 + 4)), (0, .ref b), (1, .ref (ad 0)), (2, .ref (ad 56))] X hl dL_law_1626 3 rfl rfl (Nat.le_of_ble_eq_true rfl) rfl (fun ls hl => ?_)
            refine u_goto 18 X dL_law_1629 rfl ?_
            exact ih18 _ _ _ _ _ (lv_sub hl [1, 2, 3, 0] rfl) hP hS h
          · rw [if_neg hc] at h
            refine u_iconst (v := 0) X dL_law_947 rfl ?_
            exact (law_no h).elim
        rw [if_neg hc21] at h
        by_cases hc22 : ((xs l3_18.toNatClampNeg) &&& 63) = 22
        · rw [if_pos hc22] at h
          refine u_tsw 949 X dL_law_32 (v := 22) (by rw [hc22]; rfl) (by decide) ?_
          refine u_aload_n X hl dL_law_949 1 rfl ?_
          refine u_aload_n X hl dL_law_950 0 rfl ?_
          refine u_iload_n X hl dL_law_951 3 rfl ?_
          refine u_iconst (v := 1) X dL_law_952 rfl ?_
          refine u_iadd X dL_law_953 ?_
          obtain ⟨hin, h⟩ := ifn_inv h
          refine va_sld X.1 X.2.1 hX hbl hbA hS hin dL_law_954 ?_
          refine u_aload_n X hl dL_law_955 0 rfl ?_
          refine u_iload_n X hl dL_law_956 3 rfl ?_
          refine u_iconst (v := 2) X dL_law_957 rfl ?_
          refine u_iadd X dL_law_958 ?_
          obtain ⟨hin, h⟩ := ifn_inv h
          refine va_sld X.1 X.2.1 hX hbl hbA hS hin dL_law_959 ?_
          refine u_aload_n X hl dL_law_960 0 rfl ?_
          refine u_iload_n X hl dL_law_961 3 rfl ?_
          refine u_iconst (v := 3) X dL_law_962 rfl ?_
          refine u_iadd X dL_law_963 ?_
          obtain ⟨hin, h⟩ := ifn_inv h
          refine va_sld X.1 X.2.1 hX hbl hbA hS hin dL_law_964 ?_
          obtain ⟨w965, zc965, hc965, h⟩ := ob2_inv h
          refine u_callVlG hcs X hP hS hl dL_law_965 (cT_lot l hc965) cw_L_111 io_0 rfl rfl rfl rfl ⟨rfl, rfl⟩ (fun H locs hP hS => ?_)
          refine u_aload_n X hl dL_law_968 2 rfl ?_
          refine u_aload_n X hl dL_law_969 0 rfl ?_
          refine u_iload_n X hl dL_law_970 3 rfl ?_
          refine u_iconst (v := 1) X dL_law_971 rfl ?_
          refine u_iadd X dL_law_972 ?_
          obtain ⟨hin, h⟩ := ifn_inv h
          refine va_sld X.1 X.2.1 hX hbl hbA hS hin dL_law_973 ?_
          refine u_aload_n X hl dL_law_974 0 rfl ?_
          refine u_iload_n X hl dL_law_975 3 rfl ?_
          refine u_iconst (v := 2) X dL_law_976 rfl ?_
          refine u_iadd X dL_law_977 ?_
          obtain ⟨hin, h⟩ := ifn_inv h
          refine va_sld X.1 X.2.1 hX hbl hbA hS hin dL_law_978 ?_
          refine u_aload_n X hl dL_law_979 0 rfl ?_
          refine u_iload_n X hl dL_law_980 3 rfl ?_
          refine u_iconst (v := 3) X dL_law_981 rfl ?_
          refine u_iadd X dL_law_982 ?_
          obtain ⟨hin, h⟩ := ifn_inv h
          refine va_sld X.1 X.2.1 hX hbl hbA hS hin dL_law_983 ?_
          obtain ⟨w984, zc984, hc984, h⟩ := ob2_inv h
          refine u_callVlG hcs X hP hS hl dL_law_984 (cM_lot l hc984) cw_L_114 io_56 rfl rfl rfl rfl ⟨rfl, rfl⟩ (fun H locs hP hS => ?_)
          refine u_lcmp X dL_law_987 ?_
          refine u_if_eq 1626 X dL_law_988 rfl (fun hc => ?_) (fun hc => ?_)
          · rw [if_pos hc] at h
            refine u_iinc [(3, .int (l3_18 + 4)), (0, .ref b), (1, .ref (ad 0)), (2, .ref (ad 56))] X hl dL_law_1626 3 rfl rfl (Nat.le_of_ble_eq_true rfl) rfl (fun ls hl => ?_)
            refine u_goto 18 X dL_law_1629 rfl ?_
            exact ih18 _ _ _ _ _ (lv_sub hl [1, 2, 3, 0] rfl) hP hS h
          · rw [if_neg hc] at h
            refine u_iconst (v := 0) X dL_law_991 rfl ?_
            exact (law_no h).elim
        rw [if_neg hc22] at h
        by_cases hc23 : ((xs l3_18.toNatClampNeg) &&& 63) = 23
        · rw [if_pos hc23] at h
          refine u_tsw 993 X dL_law_32 (v := 23) (by rw [hc23]; rfl) (by decide) ?_
          refine u_aload_n X hl dL_law_993 1 rfl ?_
          refine u_aload_n X hl dL_law_994 0 rfl ?_
          refine u_iload_n X hl dL_law_995 3 rfl ?_
          refine u_iconst (v := 1) X dL_law_996 rfl ?_
          refine u_iadd X dL_law_997 ?_
          obtain ⟨hin, h⟩ := ifn_inv h
          refine va_sld X.1 X.2.1 hX hbl hbA hS hin dL_law_998 ?_
          refine u_aload_n X hl dL_law_999 0 rfl ?_
          refine u_iload_n X hl dL_law_1000 3 rfl ?_
          refine u_iconst (v := 2) X dL_law_1001 rfl ?_
          refine u_iadd X dL_law_1002 ?_
          obtain ⟨hin, h⟩ := ifn_inv h
          refine va_sld X.1 X.2.1 hX hbl hbA hS hin dL_law_1003 ?_
          obtain ⟨w1004, hc1004, h⟩ := ob_inv h
          refine u_callViG hcs X hP hS hl dL_law_1004 (cT_sat l hc1004) cw_L_115 io_0 rfl rfl rfl rfl ⟨rfl, rfl⟩ (fun H locs hP hS => ?_)
          refine u_aload_n X hl dL_law_1007 2 rfl ?_
          refine u_aload_n X hl dL_law_1008 0 rfl ?_
          refine u_iload_n X hl dL_law_1009 3 rfl ?_
          refine u_iconst (v := 1) X dL_law_1010 rfl ?_
          refine u_iadd X dL_law_1011 ?_
          obtain ⟨hin, h⟩ := ifn_inv h
          refine va_sld X.1 X.2.1 hX hbl hbA hS hin dL_law_1012 ?_
          refine u_aload_n X hl dL_law_1013 0 rfl ?_
          refine u_iload_n X hl dL_law_1014 3 rfl ?_
          refine u_iconst (v := 2) X dL_law_1015 rfl ?_
          refine u_iadd X dL_law_1016 ?_
          obtain ⟨hin, h⟩ := ifn_inv h
          refine va_sld X.1 X.2.1 hX hbl hbA hS hin dL_law_1017 ?_
          obtain ⟨w1018, hc1018, h⟩ := ob_inv h
          refine u_callViG hcs X hP hS hl dL_law_1018 (cM_sat l hc1018) cw_L_118 io_56 rfl rfl rfl rfl ⟨rfl, rfl⟩ (fun H locs hP hS => ?_)
          refine u_icmp_eq 1626 X dL_law_1021 rfl (fun hc => ?_) (fun hc => ?_)
          · rw [if_pos hc] at h
            refine u_iinc [(3, .int (l3_18 + 4)), (0, .ref b), (1, .ref (ad 0)), (2, .ref (ad 56))] X hl dL_law_1626 3 rfl rfl (Nat.le_of_ble_eq_true rfl) rfl (fun ls hl => ?_)
            refine u_goto 18 X dL_law_1629 rfl ?_
            exact ih18 _ _ _ _ _ (lv_sub hl [1, 2, 3, 0] rfl) hP hS h
          · rw [if_neg hc] at h
            refine u_iconst (v := 0) X dL_law_1024 rfl ?_
            exact (law_no h).elim
        rw [if_neg hc23] at h
        by_cases hc24 : ((xs l3_18.toNatClampNeg) &&& 63) = 24
        · rw [if_pos hc24] at h
          refine u_tsw 1026 X dL_law_32 (v := 24) (by rw [hc24]; rfl) (by decide) ?_
          refine u_aload_n X hl dL_law_1026 1 rfl ?_
          refine u_aload_n X hl dL_law_1027 0 rfl ?_
          refine u_iload_n X hl dL_law_1028 3 rfl ?_
          refine u_iconst (v := 1) X dL_law_1029 rfl ?_
          refine u_iadd X dL_law_1030 ?_
          obtain ⟨hin, h⟩ := ifn_inv h
          refine va_sld X.1 X.2.1 hX hbl hbA hS hin dL_law_1031 ?_
          obtain ⟨w1032, hc1032, h⟩ := ob_inv h
          refine u_callViG hcs X hP hS hl dL_law_1032 (cT_suspects l hc1032) cw_L_119 io_0 rfl rfl rfl rfl ⟨rfl, rfl⟩ (fun H locs hP hS => ?_)
          refine u_aload_n X hl dL_law_1035 2 rfl ?_
          refine u_aload_n X hl dL_law_1036 0 rfl ?_
          refine u_iload_n X hl dL_law_1037 3 rfl ?_
          refine u_iconst (v := 1) X dL_law_1038 rfl ?_
          refine u_iadd X dL_law_1039 ?_
          obtain ⟨hin, h⟩ := ifn_inv h
          refine va_sld X.1 X.2.1 hX hbl hbA hS hin dL_law_1040 ?_
          obtain ⟨w1041, hc1041, h⟩ := ob_inv h
          refine u_callViG hcs X hP hS hl dL_law_1041 (cM_suspects l hc1041) cw_L_122 io_56 rfl rfl rfl rfl ⟨rfl, rfl⟩ (fun H locs hP hS => ?_)
          refine u_icmp_eq 1626 X dL_law_1044 rfl (fun hc => ?_) (fun hc => ?_)
          · rw [if_pos hc] at h
            refine u_iinc [(3, .int (l3_18 + 4)), (0, .ref b), (1, .ref (ad 0)), (2, .ref (ad 56))] X hl dL_law_1626 3 rfl rfl (Nat.le_of_ble_eq_true rfl) rfl (fun ls hl => ?_)
            refine u_goto 18 X dL_law_1629 rfl ?_
            exact ih18 _ _ _ _ _ (lv_sub hl [1, 2, 3, 0] rfl) hP hS h
          · rw [if_neg hc] at h
            refine u_iconst (v := 0) X dL_law_1047 rfl ?_
            exact (law_no h).elim
        rw [if_neg hc24] at h
        by_cases hc25 : ((xs l3_18.toNatClampNeg) &&& 63) = 25
        · rw [if_pos hc25] at h
          refine u_tsw 1049 X dL_law_32 (v := 25) (by rw [hc25]; rfl) (by decide) ?_
          refine u_aload_n X hl dL_law_1049 1 rfl ?_
          refine u_aload_n X hl dL_law_1050 0 rfl ?_
          refine u_iload_n X hl dL_law_1051 3 rfl ?_
          refine u_iconst (v := 1) X dL_law_1052 rfl ?_
          refine u_iadd X dL_law_1053 ?_
          obtain ⟨hin, h⟩ := ifn_inv h
          refine va_sld X.1 X.2.1 hX hbl hbA hS hin dL_law_1054 ?_
          refine u_aload_n X hl dL_law_1055 0 rfl ?_
          refine u_iload_n X hl dL_law_1056 3 rfl ?_
          refine u_iconst (v := 2) X dL_law_1057 rfl ?_
          refine u_iadd X dL_law_1058 ?_
          obtain ⟨hin, h⟩ := ifn_inv h
          refine va_sld X.1 X.2.1 hX hbl hbA hS hin dL_law_1059 ?_
          obtain ⟨w1060, zc1060, hc1060, h⟩ := ob2_inv h
          refine u_callViG hcs X hP hS hl dL_law_1060 (cT_plan l hc1060) cw_L_123 io_0 rfl rfl rfl rfl ⟨rfl, rfl⟩ (fun H locs hP hS => ?_)
          refine u_aload_n X hl dL_law_1063 2 rfl ?_
          refine u_aload_n X hl dL_law_1064 0 rfl ?_
          refine u_iload_n X hl dL_law_1065 3 rfl ?_
          refine u_iconst (v := 1) X dL_law_1066 rfl ?_
          refine u_iadd X dL_law_1067 ?_
          obtain ⟨hin, h⟩ := ifn_inv h
          refine va_sld X.1 X.2.1 hX hbl hbA hS hin dL_law_1068 ?_
          refine u_aload_n X hl dL_law_1069 0 rfl ?_
          refine u_iload_n X hl dL_law_1070 3 rfl ?_
          refine u_iconst (v := 2) X dL_law_1071 rfl ?_
          refine u_iadd X dL_law_1072 ?_
          obtain ⟨hin, h⟩ := ifn_inv h
          refine va_sld X.1 X.2.1 hX hbl hbA hS hin dL_law_1073 ?_
          obtain ⟨w1074, zc1074, hc1074, h⟩ := ob2_inv h
          refine u_callViG hcs X hP hS hl dL_law_1074 (cM_plan l hc1074) cw_L_126 io_56 rfl rfl rfl rfl ⟨rfl, rfl⟩ (fun H locs hP hS => ?_)
          refine u_icmp_eq 1626 X dL_law_1077 rfl (fun hc => ?_) (fun hc => ?_)
          · rw [if_pos hc] at h
            refine u_iinc [(3, .int (l3_18 + 4)), (0, .ref b), (1, .ref (ad 0)), (2, .ref (ad 56))] X hl dL_law_1626 3 rfl rfl (Nat.le_of_ble_eq_true rfl) rfl (fun ls hl => ?_)
            refine u_goto 18 X dL_law_1629 rfl ?_
            exact ih18 _ _ _ _ _ (lv_sub hl [1, 2, 3, 0] rfl) hP hS h
          · rw [if_neg hc] at h
            refine u_iconst (v := 0) X dL_law_1080 rfl ?_
            exact (law_no h).elim
        rw [if_neg hc25] at h
        by_cases hc26 : ((xs l3_18.toNatClampNeg) &&& 63) = 26
        · rw [if_pos hc26] at h
          refine u_tsw 1082 X dL_law_32 (v := 26) (by rw [hc26]; rfl) (by decide) ?_
          refine u_aload_n X hl dL_law_1082 1 rfl ?_
          refine u_aload_n X hl dL_law_1083 0 rfl ?_
          refine u_iload_n X hl dL_law_1084 3 rfl ?_
          refine u_iconst (v := 1) X dL_law_1085 rfl ?_
          refine u_iadd X dL_law_1086 ?_
          obtain ⟨hin, h⟩ := ifn_inv h
          refine va_sld X.1 X.2.1 hX hbl hbA hS hin dL_law_1087 ?_
          refine u_aload_n X hl dL_law_1088 0 rfl ?_
          refine u_iload_n X hl dL_law_1089 3 rfl ?_
          refine u_iconst (v := 2) X dL_law_1090 rfl ?_
          refine u_iadd X dL_law_1091 ?_
          obtain ⟨hin, h⟩ := ifn_inv h
          refine va_sld X.1 X.2.1 hX hbl hbA hS hin dL_law_1092 ?_
          obtain ⟨w1093, hc1093, h⟩ := ob_inv h
          refine u_callViG hcs X hP hS hl dL_law_1093 (cT_planOf l hc1093) cw_L_127 io_0 rfl rfl rfl rfl ⟨rfl, rfl⟩ (fun H locs hP hS => ?_)
          refine u_aload_n X hl dL_law_1096 2 rfl ?_
          refine u_aload_n X hl dL_law_1097 0 rfl ?_
          refine u_iload_n X hl dL_law_1098 3 rfl ?_
          refine u_iconst (v := 1) X dL_law_1099 rfl ?_
          refine u_iadd X dL_law_1100 ?_
          obtain ⟨hin, h⟩ := ifn_inv h
          refine va_sld X.1 X.2.1 hX hbl hbA hS hin dL_law_1101 ?_
          refine u_aload_n X hl dL_law_1102 0 rfl ?_
          refine u_iload_n X hl dL_law_1103 3 rfl ?_
          refine u_iconst (v := 2) X dL_law_1104 rfl ?_
          refine u_iadd X dL_law_1105 ?_
          obtain ⟨hin, h⟩ := ifn_inv h
          refine va_sld X.1 X.2.1 hX hbl hbA hS hin dL_law_1106 ?_
          obtain ⟨w1107, hc1107, h⟩ := ob_inv h
          refine u_callViG hcs X hP hS hl dL_law_1107 (cM_planOf l hc1107) cw_L_130 io_56 rfl rfl rfl rfl ⟨rfl, rfl⟩ (fun H locs hP hS => ?_)
          refine u_icmp_eq 1626 X dL_law_1110 rfl (fun hc => ?_) (fun hc => ?_)
          · rw [if_pos hc] at h
            refine u_iinc [(3, .int (l3_18 + 4)), (0, .ref b), (1, .ref (ad 0)), (2, .ref (ad 56))] X hl dL_law_1626 3 rfl rfl (Nat.le_of_ble_eq_true rfl) rfl (fun ls hl => ?_)
            refine u_goto 18 X dL_law_1629 rfl ?_
            exact ih18 _ _ _ _ _ (lv_sub hl [1, 2, 3, 0] rfl) hP hS h
          · rw [if_neg hc] at h
            refine u_iconst (v := 0) X dL_law_1113 rfl ?_
            exact (law_no h).elim
        rw [if_neg hc26] at h
        by_cases hc27 : ((xs l3_18.toNatClampNeg) &&& 63) = 27
        · rw [if_pos hc27] at h
          refine u_tsw 1115 X dL_law_32 (v := 27) (by rw [hc27]; rfl) (by decide) ?_
          refine u_aload_n X hl dL_law_1115 1 rfl ?_
          refine u_aload_n X hl dL_law_1116 0 rfl ?_
          refine u_iload_n X hl dL_law_1117 3 rfl ?_
          refine u_iconst (v := 1) X dL_law_1118 rfl ?_
          refine u_iadd X dL_law_1119 ?_
          obtain ⟨hin, h⟩ := ifn_inv h
          refine va_sld X.1 X.2.1 hX hbl hbA hS hin dL_law_1120 ?_
          refine u_aload_n X hl dL_law_1121 0 rfl ?_
          refine u_iload_n X hl dL_law_1122 3 rfl ?_
          refine u_iconst (v := 2) X dL_law_1123 rfl ?_
          refine u_iadd X dL_law_1124 ?_
          obtain ⟨hin, h⟩ := ifn_inv h
          refine va_sld X.1 X.2.1 hX hbl hbA hS hin dL_law_1125 ?_
          obtain ⟨w1126, zc1126, hc1126, h⟩ := ob2_inv h
          refine u_callViG hcs X hP hS hl dL_law_1126 (cT_fill l hc1126) cw_L_131 io_0 rfl rfl rfl rfl ⟨rfl, rfl⟩ (fun H locs hP hS => ?_)
          refine u_aload_n X hl dL_law_1129 2 rfl ?_
          refine u_aload_n X hl dL_law_1130 0 rfl ?_
          refine u_iload_n X hl dL_law_1131 3 rfl ?_
          refine u_iconst (v := 1) X dL_law_1132 rfl ?_
          refine u_iadd X dL_law_1133 ?_
          obtain ⟨hin, h⟩ := ifn_inv h
          refine va_sld X.1 X.2.1 hX hbl hbA hS hin dL_law_1134 ?_
          refine u_aload_n X hl dL_law_1135 0 rfl ?_
          refine u_iload_n X hl dL_law_1136 3 rfl ?_
          refine u_iconst (v := 2) X dL_law_1137 rfl ?_
          refine u_iadd X dL_law_1138 ?_
          obtain ⟨hin, h⟩ := ifn_inv h
          refine va_sld X.1 X.2.1 hX hbl hbA hS hin dL_law_1139 ?_
          obtain ⟨w1140, zc1140, hc1140, h⟩ := ob2_inv h
          refine u_callViG hcs X hP hS hl dL_law_1140 (cM_fill l hc1140) cw_L_134 io_56 rfl rfl rfl rfl ⟨rfl, rfl⟩ (fun H locs hP hS => ?_)
          refine u_icmp_eq 1626 X dL_law_1143 rfl (fun hc => ?_) (fun hc => ?_)
          · rw [if_pos hc] at h
            refine u_iinc [(3, .int (l3_18 + 4)), (0, .ref b), (1, .ref (ad 0)), (2, .ref (ad 56))] X hl dL_law_1626 3 rfl rfl (Nat.le_of_ble_eq_true rfl) rfl (fun ls hl => ?_)
            refine u_goto 18 X dL_law_1629 rfl ?_
            exact ih18 _ _ _ _ _ (lv_sub hl [1, 2, 3, 0] rfl) hP hS h
          · rw [if_neg hc] at h
            refine u_iconst (v := 0) X dL_law_1146 rfl ?_
            exact (law_no h).elim
        rw [if_neg hc27] at h
        by_cases hc28 : ((xs l3_18.toNatClampNeg) &&& 63) = 28
        · rw [if_pos hc28] at h
          refine u_tsw 1148 X dL_law_32 (v := 28) (by rw [hc28]; rfl) (by decide) ?_
          refine u_aload_n X hl dL_law_1148 1 rfl ?_
          refine u_aload_n X hl dL_law_1149 0 rfl ?_
          refine u_iload_n X hl dL_law_1150 3 rfl ?_
          refine u_iconst (v := 1) X dL_law_1151 rfl ?_
          refine u_iadd X dL_law_1152 ?_
          obtain ⟨hin, h⟩ := ifn_inv h
          refine va_sld X.1 X.2.1 hX hbl hbA hS hin dL_law_1153 ?_
          obtain ⟨w1154, zc1154, hc1154, h⟩ := ob2_inv h
          refine u_callViG hcs X hP hS hl dL_law_1154 (cT_seed l hc1154) cw_L_135 io_0 rfl rfl rfl rfl ⟨rfl, rfl⟩ (fun H locs hP hS => ?_)
          refine u_aload_n X hl dL_law_1157 2 rfl ?_
          refine u_aload_n X hl dL_law_1158 0 rfl ?_
          refine u_iload_n X hl dL_law_1159 3 rfl ?_
          refine u_iconst (v := 1) X dL_law_1160 rfl ?_
          refine u_iadd X dL_law_1161 ?_
          obtain ⟨hin, h⟩ := ifn_inv h
          refine va_sld X.1 X.2.1 hX hbl hbA hS hin dL_law_1162 ?_
          obtain ⟨w1163, zc1163, hc1163, h⟩ := ob2_inv h
          refine u_callViG hcs X hP hS hl dL_law_1163 (cM_seed l hc1163) cw_L_138 io_56 rfl rfl rfl rfl ⟨rfl, rfl⟩ (fun H locs hP hS => ?_)
          refine u_icmp_eq 1626 X dL_law_1166 rfl (fun hc => ?_) (fun hc => ?_)
          · rw [if_pos hc] at h
            refine u_iinc [(3, .int (l3_18 + 4)), (0, .ref b), (1, .ref (ad 0)), (2, .ref (ad 56))] X hl dL_law_1626 3 rfl rfl (Nat.le_of_ble_eq_true rfl) rfl (fun ls hl => ?_)
            refine u_goto 18 X dL_law_1629 rfl ?_
            exact ih18 _ _ _ _ _ (lv_sub hl [1, 2, 3, 0] rfl) hP hS h
          · rw [if_neg hc] at h
            refine u_iconst (v := 0) X dL_law_1169 rfl ?_
            exact (law_no h).elim
        rw [if_neg hc28] at h
        by_cases hc29 : ((xs l3_18.toNatClampNeg) &&& 63) = 29
        · rw [if_pos hc29] at h
          refine u_tsw 1171 X dL_law_32 (v := 29) (by rw [hc29]; rfl) (by decide) ?_
          refine u_aload_n X hl dL_law_1171 1 rfl ?_
          obtain ⟨w1172, zc1172, hc1172, h⟩ := ob2_inv h
          refine u_callViG hcs X hP hS hl dL_law_1172 (cT_prove l hc1172) cw_L_139 io_0 rfl rfl rfl rfl ⟨rfl, rfl⟩ (fun H locs hP hS => ?_)
          refine u_aload_n X hl dL_law_1175 2 rfl ?_
          obtain ⟨w1176, zc1176, hc1176, h⟩ := ob2_inv h
          refine u_callViG hcs X hP hS hl dL_law_1176 (cM_prove l hc1176) cw_L_142 io_56 rfl rfl rfl rfl ⟨rfl, rfl⟩ (fun H locs hP hS => ?_)
          refine u_icmp_eq 1626 X dL_law_1179 rfl (fun hc => ?_) (fun hc => ?_)
          · rw [if_pos hc] at h
            refine u_iinc [(3, .int (l3_18 + 4)), (0, .ref b), (1, .ref (ad 0)), (2, .ref (ad 56))] X hl dL_law_1626 3 rfl rfl (Nat.le_of_ble_eq_true rfl) rfl (fun ls hl => ?_)
            refine u_goto 18 X dL_law_1629 rfl ?_
            exact ih18 _ _ _ _ _ (lv_sub hl [1, 2, 3, 0] rfl) hP hS h
          · rw [if_neg hc] at h
            refine u_iconst (v := 0) X dL_law_1182 rfl ?_
            exact (law_no h).elim
        rw [if_neg hc29] at h
        by_cases hc30 : ((xs l3_18.toNatClampNeg) &&& 63) = 30
        · rw [if_pos hc30] at h
          refine u_tsw 1184 X dL_law_32 (v := 30) (by rw [hc30]; rfl) (by decide) ?_
          refine u_aload_n X hl dL_law_1184 1 rfl ?_
          refine u_aload_n X hl dL_law_1185 0 rfl ?_
          refine u_iload_n X hl dL_law_1186 3 rfl ?_
          refine u_iconst (v := 1) X dL_law_1187 rfl ?_
          refine u_iadd X dL_law_1188 ?_
          obtain ⟨hin, h⟩ := ifn_inv h
          refine va_sld X.1 X.2.1 hX hbl hbA hS hin dL_law_1189 ?_
          refine u_aload_n X hl dL_law_1190 0 rfl ?_
          refine u_iload_n X hl dL_law_1191 3 rfl ?_
          refine u_iconst (v := 2) X dL_law_1192 rfl ?_
          refine u_iadd X dL_law_1193 ?_
          obtain ⟨hin, h⟩ := ifn_inv h
          refine va_sld X.1 X.2.1 hX hbl hbA hS hin dL_law_1194 ?_
          obtain ⟨w1195, hc1195, h⟩ := ob_inv h
          refine u_callViG hcs X hP hS hl dL_law_1195 (cT_row l hc1195) cw_L_143 io_0 rfl rfl rfl rfl ⟨rfl, rfl⟩ (fun H locs hP hS => ?_)
          refine u_aload_n X hl dL_law_1198 2 rfl ?_
          refine u_aload_n X hl dL_law_1199 0 rfl ?_
          refine u_iload_n X hl dL_law_1200 3 rfl ?_
          refine u_iconst (v := 1) X dL_law_1201 rfl ?_
          refine u_iadd X dL_law_1202 ?_
          obtain ⟨hin, h⟩ := ifn_inv h
          refine va_sld X.1 X.2.1 hX hbl hbA hS hin dL_law_1203 ?_
          refine u_aload_n X hl dL_law_1204 0 rfl ?_
          refine u_iload_n X hl dL_law_1205 3 rfl ?_
          refine u_iconst (v := 2) X dL_law_1206 rfl ?_
          refine u_iadd X dL_law_1207 ?_
          obtain ⟨hin, h⟩ := ifn_inv h
          refine va_sld X.1 X.2.1 hX hbl hbA hS hin dL_law_1208 ?_
          obtain ⟨w1209, hc1209, h⟩ := ob_inv h
          refine u_callViG hcs X hP hS hl dL_law_1209 (cM_row l hc1209) cw_L_146 io_56 rfl rfl rfl rfl ⟨rfl, rfl⟩ (fun H locs hP hS => ?_)
          refine u_icmp_eq 1626 X dL_law_1212 rfl (fun hc => ?_) (fun hc => ?_)
          · rw [if_pos hc] at h
            refine u_iinc [(3, .int (l3_18 + 4)), (0, .ref b), (1, .ref (ad 0)), (2, .ref (ad 56))] X hl dL_law_1626 3 rfl rfl (Nat.le_of_ble_eq_true rfl) rfl (fun ls hl => ?_)
            refine u_goto 18 X dL_law_1629 rfl ?_
            exact ih18 _ _ _ _ _ (lv_sub hl [1, 2, 3, 0] rfl) hP hS h
          · rw [if_neg hc] at h
            refine u_iconst (v := 0) X dL_law_1215 rfl ?_
            exact (law_no h).elim
        rw [if_neg hc30] at h
        by_cases hc31 : ((xs l3_18.toNatClampNeg) &&& 63) = 31
        · rw [if_pos hc31] at h
          refine u_tsw 1217 X dL_law_32 (v := 31) (by rw [hc31]; rfl) (by decide) ?_
          refine u_aload_n X hl dL_law_1217 1 rfl ?_
          refine u_aload_n X hl dL_law_1218 0 rfl ?_
          refine u_iload_n X hl dL_law_1219 3 rfl ?_
          refine u_iconst (v := 1) X dL_law_1220 rfl ?_
          refine u_iadd X dL_law_1221 ?_
          obtain ⟨hin, h⟩ := ifn_inv h
          refine va_sld X.1 X.2.1 hX hbl hbA hS hin dL_law_1222 ?_
          refine u_aload_n X hl dL_law_1223 0 rfl ?_
          refine u_iload_n X hl dL_law_1224 3 rfl ?_
          refine u_iconst (v := 2) X dL_law_1225 rfl ?_
          refine u_iadd X dL_law_1226 ?_
          obtain ⟨hin, h⟩ := ifn_inv h
          refine va_sld X.1 X.2.1 hX hbl hbA hS hin dL_law_1227 ?_
          refine u_aload_n X hl dL_law_1228 0 rfl ?_
          refine u_iload_n X hl dL_law_1229 3 rfl ?_
          refine u_iconst (v := 3) X dL_law_1230 rfl ?_
          refine u_iadd X dL_law_1231 ?_
          obtain ⟨hin, h⟩ := ifn_inv h
          refine va_sld X.1 X.2.1 hX hbl hbA hS hin dL_law_1232 ?_
          obtain ⟨w1233, zc1233, hc1233, h⟩ := ob2_inv h
          refine u_callViG hcs X hP hS hl dL_law_1233 (cT_alterRow l hc1233) cw_L_147 io_0 rfl rfl rfl rfl ⟨rfl, rfl⟩ (fun H locs hP hS => ?_)
          refine u_aload_n X hl dL_law_1236 2 rfl ?_
          refine u_aload_n X hl dL_law_1237 0 rfl ?_
          refine u_iload_n X hl dL_law_1238 3 rfl ?_
          refine u_iconst (v := 1) X dL_law_1239 rfl ?_
          refine u_iadd X dL_law_1240 ?_
          obtain ⟨hin, h⟩ := ifn_inv h
          refine va_sld X.1 X.2.1 hX hbl hbA hS hin dL_law_1241 ?_
          refine u_aload_n X hl dL_law_1242 0 rfl ?_
          refine u_iload_n X hl dL_law_1243 3 rfl ?_
          refine u_iconst (v := 2) X dL_law_1244 rfl ?_
          refine u_iadd X dL_law_1245 ?_
          obtain ⟨hin, h⟩ := ifn_inv h
          refine va_sld X.1 X.2.1 hX hbl hbA hS hin dL_law_1246 ?_
          refine u_aload_n X hl dL_law_1247 0 rfl ?_
          refine u_iload_n X hl dL_law_1248 3 rfl ?_
          refine u_iconst (v := 3) X dL_law_1249 rfl ?_
          refine u_iadd X dL_law_1250 ?_
          obtain ⟨hin, h⟩ := ifn_inv h
          refine va_sld X.1 X.2.1 hX hbl hbA hS hin dL_law_1251 ?_
          obtain ⟨w1252, zc1252, hc1252, h⟩ := ob2_inv h
          refine u_callViG hcs X hP hS hl dL_law_1252 (cM_alterRow l hc1252) cw_L_150 io_56 rfl rfl rfl rfl ⟨rfl, rfl⟩ (fun H locs hP hS => ?_)
          refine u_icmp_eq 1626 X dL_law_1255 rfl (fun hc => ?_) (fun hc => ?_)
          · rw [if_pos hc] at h
            refine u_iinc [(3, .int (l3_18 + 4)), (0, .ref b), (1, .ref (ad 0)), (2, .ref (ad 56))] X hl dL_law_1626 3 rfl rfl (Nat.le_of_ble_eq_true rfl) rfl (fun ls hl => ?_)
            refine u_goto 18 X dL_law_1629 rfl ?_
            exact ih18 _ _ _ _ _ (lv_sub hl [1, 2, 3, 0] rfl) hP hS h
          · rw [if_neg hc] at h
            refine u_iconst (v := 0) X dL_law_1258 rfl ?_
            exact (law_no h).elim
        rw [if_neg hc31] at h
        by_cases hc32 : ((xs l3_18.toNatClampNeg) &&& 63) = 32
        · rw [if_pos hc32] at h
          refine u_tsw 1260 X dL_law_32 (v := 32) (by rw [hc32]; rfl) (by decide) ?_
          refine u_aload_n X hl dL_law_1260 1 rfl ?_
          obtain ⟨w1261, hc1261, h⟩ := ob_inv h
          refine u_callViG hcs X hP hS hl dL_law_1261 (cT_judge l hc1261) cw_L_151 io_0 rfl rfl rfl rfl ⟨rfl, rfl⟩ (fun H locs hP hS => ?_)
          refine u_aload_n X hl dL_law_1264 2 rfl ?_
          obtain ⟨w1265, zc1265, hc1265, h⟩ := ob2_inv h
          refine u_callViG hcs X hP hS hl dL_law_1265 (cM_judge l hc1265) cw_L_154 io_56 rfl rfl rfl rfl ⟨rfl, rfl⟩ (fun H locs hP hS => ?_)
          refine u_icmp_eq 1626 X dL_law_1268 rfl (fun hc => ?_) (fun hc => ?_)
          · rw [if_pos hc] at h
            refine u_iinc [(3, .int (l3_18 + 4)), (0, .ref b), (1, .ref (ad 0)), (2, .ref (ad 56))] X hl dL_law_1626 3 rfl rfl (Nat.le_of_ble_eq_true rfl) rfl (fun ls hl => ?_)
            refine u_goto 18 X dL_law_1629 rfl ?_
            exact ih18 _ _ _ _ _ (lv_sub hl [1, 2, 3, 0] rfl) hP hS h
          · rw [if_neg hc] at h
            refine u_iconst (v := 0) X dL_law_1271 rfl ?_
            exact (law_no h).elim
        rw [if_neg hc32] at h
        by_cases hc33 : ((xs l3_18.toNatClampNeg) &&& 63) = 33
        · rw [if_pos hc33] at h
          refine u_tsw 1273 X dL_law_32 (v := 33) (by rw [hc33]; rfl) (by decide) ?_
          refine u_aload_n X hl dL_law_1273 1 rfl ?_
          refine u_aload_n X hl dL_law_1274 0 rfl ?_
          refine u_iload_n X hl dL_law_1275 3 rfl ?_
          refine u_iconst (v := 1) X dL_law_1276 rfl ?_
          refine u_iadd X dL_law_1277 ?_
          obtain ⟨hin, h⟩ := ifn_inv h
          refine va_sld X.1 X.2.1 hX hbl hbA hS hin dL_law_1278 ?_
          refine u_aload_n X hl dL_law_1279 0 rfl ?_
          refine u_iload_n X hl dL_law_1280 3 rfl ?_
          refine u_iconst (v := 2) X dL_law_1281 rfl ?_
          refine u_iadd X dL_law_1282 ?_
          obtain ⟨hin, h⟩ := ifn_inv h
          refine va_sld X.1 X.2.1 hX hbl hbA hS hin dL_law_1283 ?_
          refine u_aload_n X hl dL_law_1284 0 rfl ?_
          refine u_iload_n X hl dL_law_1285 3 rfl ?_
          refine u_iconst (v := 3) X dL_law_1286 rfl ?_
          refine u_iadd X dL_law_1287 ?_
          obtain ⟨hin, h⟩ := ifn_inv h
          refine va_sld X.1 X.2.1 hX hbl hbA hS hin dL_law_1288 ?_
          obtain ⟨w1289, zc1289, hc1289, h⟩ := ob2_inv h
          refine u_callViG hcs X hP hS hl dL_law_1289 (cT_sheet l hc1289) cw_L_155 io_0 rfl rfl rfl rfl ⟨rfl, rfl⟩ (fun H locs hP hS => ?_)
          refine u_aload_n X hl dL_law_1292 2 rfl ?_
          refine u_aload_n X hl dL_law_1293 0 rfl ?_
          refine u_iload_n X hl dL_law_1294 3 rfl ?_
          refine u_iconst (v := 1) X dL_law_1295 rfl ?_
          refine u_iadd X dL_law_1296 ?_
          obtain ⟨hin, h⟩ := ifn_inv h
          refine va_sld X.1 X.2.1 hX hbl hbA hS hin dL_law_1297 ?_
          refine u_aload_n X hl dL_law_1298 0 rfl ?_
          refine u_iload_n X hl dL_law_1299 3 rfl ?_
          refine u_iconst (v := 2) X dL_law_1300 rfl ?_
          refine u_iadd X dL_law_1301 ?_
          obtain ⟨hin, h⟩ := ifn_inv h
          refine va_sld X.1 X.2.1 hX hbl hbA hS hin dL_law_1302 ?_
          refine u_aload_n X hl dL_law_1303 0 rfl ?_
          refine u_iload_n X hl dL_law_1304 3 rfl ?_
          refine u_iconst (v := 3) X dL_law_1305 rfl ?_
          refine u_iadd X dL_law_1306 ?_
          obtain ⟨hin, h⟩ := ifn_inv h
          refine va_sld X.1 X.2.1 hX hbl hbA hS hin dL_law_1307 ?_
          obtain ⟨w1308, zc1308, hc1308, h⟩ := ob2_inv h
          refine u_callViG hcs X hP hS hl dL_law_1308 (cM_sheet l hc1308) cw_L_158 io_56 rfl rfl rfl rfl ⟨rfl, rfl⟩ (fun H locs hP hS => ?_)
          refine u_icmp_eq 1626 X dL_law_1311 rfl (fun hc => ?_) (fun hc => ?_)
          · rw [if_pos hc] at h
            refine u_iinc [(3, .int (l3_18 + 4)), (0, .ref b), (1, .ref (ad 0)), (2, .ref (ad 56))] X hl dL_law_1626 3 rfl rfl (Nat.le_of_ble_eq_true rfl) rfl (fun ls hl => ?_)
            refine u_goto 18 X dL_law_1629 rfl ?_
            exact ih18 _ _ _ _ _ (lv_sub hl [1, 2, 3, 0] rfl) hP hS h
          · rw [if_neg hc] at h
            refine u_iconst (v := 0) X dL_law_1314 rfl ?_
            exact (law_no h).elim
        rw [if_neg hc33] at h
        by_cases hc34 : ((xs l3_18.toNatClampNeg) &&& 63) = 34
        · rw [if_pos hc34] at h
          refine u_tsw 1316 X dL_law_32 (v := 34) (by rw [hc34]; rfl) (by decide) ?_
          refine u_aload_n X hl dL_law_1316 1 rfl ?_
          refine u_aload_n X hl dL_law_1317 0 rfl ?_
          refine u_iload_n X hl dL_law_1318 3 rfl ?_
          refine u_iconst (v := 1) X dL_law_1319 rfl ?_
          refine u_iadd X dL_law_1320 ?_
          obtain ⟨hin, h⟩ := ifn_inv h
          refine va_sld X.1 X.2.1 hX hbl hbA hS hin dL_law_1321 ?_
          refine u_aload_n X hl dL_law_1322 0 rfl ?_
          refine u_iload_n X hl dL_law_1323 3 rfl ?_
          refine u_iconst (v := 2) X dL_law_1324 rfl ?_
          refine u_iadd X dL_law_1325 ?_
          obtain ⟨hin, h⟩ := ifn_inv h
          refine va_sld X.1 X.2.1 hX hbl hbA hS hin dL_law_1326 ?_
          refine u_aload_n X hl dL_law_1327 0 rfl ?_
          refine u_iload_n X hl dL_law_1328 3 rfl ?_
          refine u_iconst (v := 3) X dL_law_1329 rfl ?_
          refine u_iadd X dL_law_1330 ?_
          obtain ⟨hin, h⟩ := ifn_inv h
          refine va_sld X.1 X.2.1 hX hbl hbA hS hin dL_law_1331 ?_
          obtain ⟨w1332, zc1332, hc1332, h⟩ := ob2_inv h
          refine u_callViG hcs X hP hS hl dL_law_1332 (cT_put l hc1332) cw_L_159 io_0 rfl rfl rfl rfl ⟨rfl, rfl⟩ (fun H locs hP hS => ?_)
          refine u_aload_n X hl dL_law_1335 2 rfl ?_
          refine u_aload_n X hl dL_law_1336 0 rfl ?_
          refine u_iload_n X hl dL_law_1337 3 rfl ?_
          refine u_iconst (v := 1) X dL_law_1338 rfl ?_
          refine u_iadd X dL_law_1339 ?_
          obtain ⟨hin, h⟩ := ifn_inv h
          refine va_sld X.1 X.2.1 hX hbl hbA hS hin dL_law_1340 ?_
          refine u_aload_n X hl dL_law_1341 0 rfl ?_
          refine u_iload_n X hl dL_law_1342 3 rfl ?_
          refine u_iconst (v := 2) X dL_law_1343 rfl ?_
          refine u_iadd X dL_law_1344 ?_
          obtain ⟨hin, h⟩ := ifn_inv h
          refine va_sld X.1 X.2.1 hX hbl hbA hS hin dL_law_1345 ?_
          refine u_aload_n X hl dL_law_1346 0 rfl ?_
          refine u_iload_n X hl dL_law_1347 3 rfl ?_
          refine u_iconst (v := 3) X dL_law_1348 rfl ?_
          refine u_iadd X dL_law_1349 ?_
          obtain ⟨hin, h⟩ := ifn_inv h
          refine va_sld X.1 X.2.1 hX hbl hbA hS hin dL_law_1350 ?_
          obtain ⟨w1351, zc1351, hc1351, h⟩ := ob2_inv h
          refine u_callViG hcs X hP hS hl dL_law_1351 (cM_put l hc1351) cw_L_162 io_56 rfl rfl rfl rfl ⟨rfl, rfl⟩ (fun H locs hP hS => ?_)
          refine u_icmp_eq 1626 X dL_law_1354 rfl (fun hc => ?_) (fun hc => ?_)
          · rw [if_pos hc] at h
            refine u_iinc [(3, .int (l3_18 + 4)), (0, .ref b), (1, .ref (ad 0)), (2, .ref (ad 56))] X hl dL_law_1626 3 rfl rfl (Nat.le_of_ble_eq_true rfl) rfl (fun ls hl => ?_)
            refine u_goto 18 X dL_law_1629 rfl ?_
            exact ih18 _ _ _ _ _ (lv_sub hl [1, 2, 3, 0] rfl) hP hS h
          · rw [if_neg hc] at h
            refine u_iconst (v := 0) X dL_law_1357 rfl ?_
            exact (law_no h).elim
        rw [if_neg hc34] at h
        by_cases hc35 : ((xs l3_18.toNatClampNeg) &&& 63) = 35
        · rw [if_pos hc35] at h
          refine u_tsw 1359 X dL_law_32 (v := 35) (by rw [hc35]; rfl) (by decide) ?_
          refine u_aload_n X hl dL_law_1359 1 rfl ?_
          refine u_aload_n X hl dL_law_1360 0 rfl ?_
          refine u_iload_n X hl dL_law_1361 3 rfl ?_
          refine u_iconst (v := 1) X dL_law_1362 rfl ?_
          refine u_iadd X dL_law_1363 ?_
          obtain ⟨hin, h⟩ := ifn_inv h
          refine va_sld X.1 X.2.1 hX hbl hbA hS hin dL_law_1364 ?_
          refine u_aload_n X hl dL_law_1365 0 rfl ?_
          refine u_iload_n X hl dL_law_1366 3 rfl ?_
          refine u_iconst (v := 2) X dL_law_1367 rfl ?_
          refine u_iadd X dL_law_1368 ?_
          obtain ⟨hin, h⟩ := ifn_inv h
          refine va_sld X.1 X.2.1 hX hbl hbA hS hin dL_law_1369 ?_
          refine u_aload_n X hl dL_law_1370 0 rfl ?_
          refine u_iload_n X hl dL_law_1371 3 rfl ?_
          refine u_iconst (v := 3) X dL_law_1372 rfl ?_
          refine u_iadd X dL_law_1373 ?_
          obtain ⟨hin, h⟩ := ifn_inv h
          refine va_sld X.1 X.2.1 hX hbl hbA hS hin dL_law_1374 ?_
          obtain ⟨w1375, hc1375, h⟩ := ob_inv h
          refine u_callViG hcs X hP hS hl dL_law_1375 (cT_item l hc1375) cw_L_163 io_0 rfl rfl rfl rfl ⟨rfl, rfl⟩ (fun H locs hP hS => ?_)
          refine u_aload_n X hl dL_law_1378 2 rfl ?_
          refine u_aload_n X hl dL_law_1379 0 rfl ?_
          refine u_iload_n X hl dL_law_1380 3 rfl ?_
          refine u_iconst (v := 1) X dL_law_1381 rfl ?_
          refine u_iadd X dL_law_1382 ?_
          obtain ⟨hin, h⟩ := ifn_inv h
          refine va_sld X.1 X.2.1 hX hbl hbA hS hin dL_law_1383 ?_
          refine u_aload_n X hl dL_law_1384 0 rfl ?_
          refine u_iload_n X hl dL_law_1385 3 rfl ?_
          refine u_iconst (v := 2) X dL_law_1386 rfl ?_
          refine u_iadd X dL_law_1387 ?_
          obtain ⟨hin, h⟩ := ifn_inv h
          refine va_sld X.1 X.2.1 hX hbl hbA hS hin dL_law_1388 ?_
          refine u_aload_n X hl dL_law_1389 0 rfl ?_
          refine u_iload_n X hl dL_law_1390 3 rfl ?_
          refine u_iconst (v := 3) X dL_law_1391 rfl ?_
          refine u_iadd X dL_law_1392 ?_
          obtain ⟨hin, h⟩ := ifn_inv h
          refine va_sld X.1 X.2.1 hX hbl hbA hS hin dL_law_1393 ?_
          obtain ⟨w1394, hc1394, h⟩ := ob_inv h
          refine u_callViG hcs X hP hS hl dL_law_1394 (cM_item l hc1394) cw_L_166 io_56 rfl rfl rfl rfl ⟨rfl, rfl⟩ (fun H locs hP hS => ?_)
          refine u_icmp_eq 1626 X dL_law_1397 rfl (fun hc => ?_) (fun hc => ?_)
          · rw [if_pos hc] at h
            refine u_iinc [(3, .int (l3_18 + 4)), (0, .ref b), (1, .ref (ad 0)), (2, .ref (ad 56))] X hl dL_law_1626 3 rfl rfl (Nat.le_of_ble_eq_true rfl) rfl (fun ls hl => ?_)
            refine u_goto 18 X dL_law_1629 rfl ?_
            exact ih18 _ _ _ _ _ (lv_sub hl [1, 2, 3, 0] rfl) hP hS h
          · rw [if_neg hc] at h
            refine u_iconst (v := 0) X dL_law_1400 rfl ?_
            exact (law_no h).elim
        rw [if_neg hc35] at h
        by_cases hc36 : ((xs l3_18.toNatClampNeg) &&& 63) = 36
        · rw [if_pos hc36] at h
          refine u_tsw 1402 X dL_law_32 (v := 36) (by rw [hc36]; rfl) (by decide) ?_
          refine u_aload_n X hl dL_law_1402 1 rfl ?_
          refine u_aload_n X hl dL_law_1403 0 rfl ?_
          refine u_iload_n X hl dL_law_1404 3 rfl ?_
          refine u_iconst (v := 1) X dL_law_1405 rfl ?_
          refine u_iadd X dL_law_1406 ?_
          obtain ⟨hin, h⟩ := ifn_inv h
          refine va_sld X.1 X.2.1 hX hbl hbA hS hin dL_law_1407 ?_
          refine u_aload_n X hl dL_law_1408 0 rfl ?_
          refine u_iload_n X hl dL_law_1409 3 rfl ?_
          refine u_iconst (v := 2) X dL_law_1410 rfl ?_
          refine u_iadd X dL_law_1411 ?_
          obtain ⟨hin, h⟩ := ifn_inv h
          refine va_sld X.1 X.2.1 hX hbl hbA hS hin dL_law_1412 ?_
          refine u_aload_n X hl dL_law_1413 0 rfl ?_
          refine u_iload_n X hl dL_law_1414 3 rfl ?_
          refine u_iconst (v := 3) X dL_law_1415 rfl ?_
          refine u_iadd X dL_law_1416 ?_
          obtain ⟨hin, h⟩ := ifn_inv h
          refine va_sld X.1 X.2.1 hX hbl hbA hS hin dL_law_1417 ?_
          obtain ⟨w1418, zc1418, hc1418, h⟩ := ob2_inv h
          refine u_callViG hcs X hP hS hl dL_law_1418 (cT_shelf l hc1418) cw_L_167 io_0 rfl rfl rfl rfl ⟨rfl, rfl⟩ (fun H locs hP hS => ?_)
          refine u_aload_n X hl dL_law_1421 2 rfl ?_
          refine u_aload_n X hl dL_law_1422 0 rfl ?_
          refine u_iload_n X hl dL_law_1423 3 rfl ?_
          refine u_iconst (v := 1) X dL_law_1424 rfl ?_
          refine u_iadd X dL_law_1425 ?_
          obtain ⟨hin, h⟩ := ifn_inv h
          refine va_sld X.1 X.2.1 hX hbl hbA hS hin dL_law_1426 ?_
          refine u_aload_n X hl dL_law_1427 0 rfl ?_
          refine u_iload_n X hl dL_law_1428 3 rfl ?_
          refine u_iconst (v := 2) X dL_law_1429 rfl ?_
          refine u_iadd X dL_law_1430 ?_
          obtain ⟨hin, h⟩ := ifn_inv h
          refine va_sld X.1 X.2.1 hX hbl hbA hS hin dL_law_1431 ?_
          refine u_aload_n X hl dL_law_1432 0 rfl ?_
          refine u_iload_n X hl dL_law_1433 3 rfl ?_
          refine u_iconst (v := 3) X dL_law_1434 rfl ?_
          refine u_iadd X dL_law_1435 ?_
          obtain ⟨hin, h⟩ := ifn_inv h
          refine va_sld X.1 X.2.1 hX hbl hbA hS hin dL_law_1436 ?_
          obtain ⟨w1437, zc1437, hc1437, h⟩ := ob2_inv h
          refine u_callViG hcs X hP hS hl dL_law_1437 (cM_shelf l hc1437) cw_L_170 io_56 rfl rfl rfl rfl ⟨rfl, rfl⟩ (fun H locs hP hS => ?_)
          refine u_icmp_eq 1626 X dL_law_1440 rfl (fun hc => ?_) (fun hc => ?_)
          · rw [if_pos hc] at h
            refine u_iinc [(3, .int (l3_18 + 4)), (0, .ref b), (1, .ref (ad 0)), (2, .ref (ad 56))] X hl dL_law_1626 3 rfl rfl (Nat.le_of_ble_eq_true rfl) rfl (fun ls hl => ?_)
            refine u_goto 18 X dL_law_1629 rfl ?_
            exact ih18 _ _ _ _ _ (lv_sub hl [1, 2, 3, 0] rfl) hP hS h
          · rw [if_neg hc] at h
            refine u_iconst (v := 0) X dL_law_1443 rfl ?_
            exact (law_no h).elim
        rw [if_neg hc36] at h
        by_cases hc37 : ((xs l3_18.toNatClampNeg) &&& 63) = 37
        · rw [if_pos hc37] at h
          refine u_tsw 1445 X dL_law_32 (v := 37) (by rw [hc37]; rfl) (by decide) ?_
          refine u_aload_n X hl dL_law_1445 1 rfl ?_
          refine u_aload_n X hl dL_law_1446 0 rfl ?_
          refine u_iload_n X hl dL_law_1447 3 rfl ?_
          refine u_iconst (v := 1) X dL_law_1448 rfl ?_
          refine u_iadd X dL_law_1449 ?_
          obtain ⟨hin, h⟩ := ifn_inv h
          refine va_sld X.1 X.2.1 hX hbl hbA hS hin dL_law_1450 ?_
          refine u_aload_n X hl dL_law_1451 0 rfl ?_
          refine u_iload_n X hl dL_law_1452 3 rfl ?_
          refine u_iconst (v := 2) X dL_law_1453 rfl ?_
          refine u_iadd X dL_law_1454 ?_
          obtain ⟨hin, h⟩ := ifn_inv h
          refine va_sld X.1 X.2.1 hX hbl hbA hS hin dL_law_1455 ?_
          obtain ⟨w1456, hc1456, h⟩ := ob_inv h
          refine u_callViG hcs X hP hS hl dL_law_1456 (cT_taken l hc1456) cw_L_171 io_0 rfl rfl rfl rfl ⟨rfl, rfl⟩ (fun H locs hP hS => ?_)
          refine u_aload_n X hl dL_law_1459 2 rfl ?_
          refine u_aload_n X hl dL_law_1460 0 rfl ?_
          refine u_iload_n X hl dL_law_1461 3 rfl ?_
          refine u_iconst (v := 1) X dL_law_1462 rfl ?_
          refine u_iadd X dL_law_1463 ?_
          obtain ⟨hin, h⟩ := ifn_inv h
          refine va_sld X.1 X.2.1 hX hbl hbA hS hin dL_law_1464 ?_
          refine u_aload_n X hl dL_law_1465 0 rfl ?_
          refine u_iload_n X hl dL_law_1466 3 rfl ?_
          refine u_iconst (v := 2) X dL_law_1467 rfl ?_
          refine u_iadd X dL_law_1468 ?_
          obtain ⟨hin, h⟩ := ifn_inv h
          refine va_sld X.1 X.2.1 hX hbl hbA hS hin dL_law_1469 ?_
          obtain ⟨w1470, hc1470, h⟩ := ob_inv h
          refine u_callViG hcs X hP hS hl dL_law_1470 (cM_taken l hc1470) cw_L_174 io_56 rfl rfl rfl rfl ⟨rfl, rfl⟩ (fun H locs hP hS => ?_)
          refine u_icmp_eq 1626 X dL_law_1473 rfl (fun hc => ?_) (fun hc => ?_)
          · rw [if_pos hc] at h
            refine u_iinc [(3, .int (l3_18 + 4)), (0, .ref b), (1, .ref (ad 0)), (2, .ref (ad 56))] X hl dL_law_1626 3 rfl rfl (Nat.le_of_ble_eq_true rfl) rfl (fun ls hl => ?_)
            refine u_goto 18 X dL_law_1629 rfl ?_
            exact ih18 _ _ _ _ _ (lv_sub hl [1, 2, 3, 0] rfl) hP hS h
          · rw [if_neg hc] at h
            refine u_iconst (v := 0) X dL_law_1476 rfl ?_
            exact (law_no h).elim
        rw [if_neg hc37] at h
        by_cases hc38 : ((xs l3_18.toNatClampNeg) &&& 63) = 38
        · rw [if_pos hc38] at h
          refine u_tsw 1478 X dL_law_32 (v := 38) (by rw [hc38]; rfl) (by decide) ?_
          refine u_aload_n X hl dL_law_1478 1 rfl ?_
          refine u_aload_n X hl dL_law_1479 0 rfl ?_
          refine u_iload_n X hl dL_law_1480 3 rfl ?_
          refine u_iconst (v := 1) X dL_law_1481 rfl ?_
          refine u_iadd X dL_law_1482 ?_
          obtain ⟨hin, h⟩ := ifn_inv h
          refine va_sld X.1 X.2.1 hX hbl hbA hS hin dL_law_1483 ?_
          refine u_aload_n X hl dL_law_1484 0 rfl ?_
          refine u_iload_n X hl dL_law_1485 3 rfl ?_
          refine u_iconst (v := 2) X dL_law_1486 rfl ?_
          refine u_iadd X dL_law_1487 ?_
          obtain ⟨hin, h⟩ := ifn_inv h
          refine va_sld X.1 X.2.1 hX hbl hbA hS hin dL_law_1488 ?_
          refine u_aload_n X hl dL_law_1489 0 rfl ?_
          refine u_iload_n X hl dL_law_1490 3 rfl ?_
          refine u_iconst (v := 3) X dL_law_1491 rfl ?_
          refine u_iadd X dL_law_1492 ?_
          obtain ⟨hin, h⟩ := ifn_inv h
          refine va_sld X.1 X.2.1 hX hbl hbA hS hin dL_law_1493 ?_
          obtain ⟨w1494, zc1494, hc1494, h⟩ := ob2_inv h
          refine u_callViG hcs X hP hS hl dL_law_1494 (cT_act l hc1494) cw_L_175 io_0 rfl rfl rfl rfl ⟨rfl, rfl⟩ (fun H locs hP hS => ?_)
          refine u_aload_n X hl dL_law_1497 2 rfl ?_
          refine u_aload_n X hl dL_law_1498 0 rfl ?_
          refine u_iload_n X hl dL_law_1499 3 rfl ?_
          refine u_iconst (v := 1) X dL_law_1500 rfl ?_
          refine u_iadd X dL_law_1501 ?_
          obtain ⟨hin, h⟩ := ifn_inv h
          refine va_sld X.1 X.2.1 hX hbl hbA hS hin dL_law_1502 ?_
          refine u_aload_n X hl dL_law_1503 0 rfl ?_
          refine u_iload_n X hl dL_law_1504 3 rfl ?_
          refine u_iconst (v := 2) X dL_law_1505 rfl ?_
          refine u_iadd X dL_law_1506 ?_
          obtain ⟨hin, h⟩ := ifn_inv h
          refine va_sld X.1 X.2.1 hX hbl hbA hS hin dL_law_1507 ?_
          refine u_aload_n X hl dL_law_1508 0 rfl ?_
          refine u_iload_n X hl dL_law_1509 3 rfl ?_
          refine u_iconst (v := 3) X dL_law_1510 rfl ?_
          refine u_iadd X dL_law_1511 ?_
          obtain ⟨hin, h⟩ := ifn_inv h
          refine va_sld X.1 X.2.1 hX hbl hbA hS hin dL_law_1512 ?_
          obtain ⟨w1513, zc1513, hc1513, h⟩ := ob2_inv h
          refine u_callViG hcs X hP hS hl dL_law_1513 (cM_act l hc1513) cw_L_178 io_56 rfl rfl rfl rfl ⟨rfl, rfl⟩ (fun H locs hP hS => ?_)
          refine u_icmp_eq 1626 X dL_law_1516 rfl (fun hc => ?_) (fun hc => ?_)
          · rw [if_pos hc] at h
            refine u_iinc [(3, .int (l3_18 + 4)), (0, .ref b), (1, .ref (ad 0)), (2, .ref (ad 56))] X hl dL_law_1626 3 rfl rfl (Nat.le_of_ble_eq_true rfl) rfl (fun ls hl => ?_)
            refine u_goto 18 X dL_law_1629 rfl ?_
            exact ih18 _ _ _ _ _ (lv_sub hl [1, 2, 3, 0] rfl) hP hS h
          · rw [if_neg hc] at h
            refine u_iconst (v := 0) X dL_law_1519 rfl ?_
            exact (law_no h).elim
        rw [if_neg hc38] at h
        by_cases hc39 : ((xs l3_18.toNatClampNeg) &&& 63) = 39
        · rw [if_pos hc39] at h
          refine u_tsw 1521 X dL_law_32 (v := 39) (by rw [hc39]; rfl) (by decide) ?_
          refine u_aload_n X hl dL_law_1521 1 rfl ?_
          refine u_aload_n X hl dL_law_1522 0 rfl ?_
          refine u_iload_n X hl dL_law_1523 3 rfl ?_
          refine u_iconst (v := 1) X dL_law_1524 rfl ?_
          refine u_iadd X dL_law_1525 ?_
          obtain ⟨hin, h⟩ := ifn_inv h
          refine va_sld X.1 X.2.1 hX hbl hbA hS hin dL_law_1526 ?_
          obtain ⟨w1527, hc1527, h⟩ := ob_inv h
          refine u_callViG hcs X hP hS hl dL_law_1527 (cT_trace l hc1527) cw_L_179 io_0 rfl rfl rfl rfl ⟨rfl, rfl⟩ (fun H locs hP hS => ?_)
          refine u_aload_n X hl dL_law_1530 2 rfl ?_
          refine u_aload_n X hl dL_law_1531 0 rfl ?_
          refine u_iload_n X hl dL_law_1532 3 rfl ?_
          refine u_iconst (v := 1) X dL_law_1533 rfl ?_
          refine u_iadd X dL_law_1534 ?_
          obtain ⟨hin, h⟩ := ifn_inv h
          refine va_sld X.1 X.2.1 hX hbl hbA hS hin dL_law_1535 ?_
          obtain ⟨w1536, hc1536, h⟩ := ob_inv h
          refine u_callViG hcs X hP hS hl dL_law_1536 (cM_trace l hc1536) cw_L_182 io_56 rfl rfl rfl rfl ⟨rfl, rfl⟩ (fun H locs hP hS => ?_)
          refine u_icmp_eq 1626 X dL_law_1539 rfl (fun hc => ?_) (fun hc => ?_)
          · rw [if_pos hc] at h
            refine u_iinc [(3, .int (l3_18 + 4)), (0, .ref b), (1, .ref (ad 0)), (2, .ref (ad 56))] X hl dL_law_1626 3 rfl rfl (Nat.le_of_ble_eq_true rfl) rfl (fun ls hl => ?_)
            refine u_goto 18 X dL_law_1629 rfl ?_
            exact ih18 _ _ _ _ _ (lv_sub hl [1, 2, 3, 0] rfl) hP hS h
          · rw [if_neg hc] at h
            refine u_iconst (v := 0) X dL_law_1542 rfl ?_
            exact (law_no h).elim
        rw [if_neg hc39] at h
        by_cases hc40 : ((xs l3_18.toNatClampNeg) &&& 63) = 40
        · rw [if_pos hc40] at h
          refine u_tsw 1544 X dL_law_32 (v := 40) (by rw [hc40]; rfl) (by decide) ?_
          refine u_aload_n X hl dL_law_1544 1 rfl ?_
          refine u_aload_n X hl dL_law_1545 0 rfl ?_
          refine u_iload_n X hl dL_law_1546 3 rfl ?_
          refine u_iconst (v := 1) X dL_law_1547 rfl ?_
          refine u_iadd X dL_law_1548 ?_
          obtain ⟨hin, h⟩ := ifn_inv h
          refine va_sld X.1 X.2.1 hX hbl hbA hS hin dL_law_1549 ?_
          refine u_aload_n X hl dL_law_1550 0 rfl ?_
          refine u_iload_n X hl dL_law_1551 3 rfl ?_
          refine u_iconst (v := 2) X dL_law_1552 rfl ?_
          refine u_iadd X dL_law_1553 ?_
          obtain ⟨hin, h⟩ := ifn_inv h
          refine va_sld X.1 X.2.1 hX hbl hbA hS hin dL_law_1554 ?_
          obtain ⟨w1555, zc1555, hc1555, h⟩ := ob2_inv h
          refine u_callViG hcs X hP hS hl dL_law_1555 (cT_days l hc1555) cw_L_183 io_0 rfl rfl rfl rfl ⟨rfl, rfl⟩ (fun H locs hP hS => ?_)
          refine u_aload_n X hl dL_law_1558 2 rfl ?_
          refine u_aload_n X hl dL_law_1559 0 rfl ?_
          refine u_iload_n X hl dL_law_1560 3 rfl ?_
          refine u_iconst (v := 1) X dL_law_1561 rfl ?_
          refine u_iadd X dL_law_1562 ?_
          obtain ⟨hin, h⟩ := ifn_inv h
          refine va_sld X.1 X.2.1 hX hbl hbA hS hin dL_law_1563 ?_
          refine u_aload_n X hl dL_law_1564 0 rfl ?_
          refine u_iload_n X hl dL_law_1565 3 rfl ?_
          refine u_iconst (v := 2) X dL_law_1566 rfl ?_
          refine u_iadd X dL_law_1567 ?_
          obtain ⟨hin, h⟩ := ifn_inv h
          refine va_sld X.1 X.2.1 hX hbl hbA hS hin dL_law_1568 ?_
          obtain ⟨w1569, zc1569, hc1569, h⟩ := ob2_inv h
          refine u_callViG hcs X hP hS hl dL_law_1569 (cM_days l hc1569) cw_L_186 io_56 rfl rfl rfl rfl ⟨rfl, rfl⟩ (fun H locs hP hS => ?_)
          refine u_icmp_eq 1626 X dL_law_1572 rfl (fun hc => ?_) (fun hc => ?_)
          · rw [if_pos hc] at h
            refine u_iinc [(3, .int (l3_18 + 4)), (0, .ref b), (1, .ref (ad 0)), (2, .ref (ad 56))] X hl dL_law_1626 3 rfl rfl (Nat.le_of_ble_eq_true rfl) rfl (fun ls hl => ?_)
            refine u_goto 18 X dL_law_1629 rfl ?_
            exact ih18 _ _ _ _ _ (lv_sub hl [1, 2, 3, 0] rfl) hP hS h
          · rw [if_neg hc] at h
            refine u_iconst (v := 0) X dL_law_1575 rfl ?_
            exact (law_no h).elim
        rw [if_neg hc40] at h
        by_cases hc41 : ((xs l3_18.toNatClampNeg) &&& 63) = 41
        · rw [if_pos hc41] at h
          refine u_tsw 1577 X dL_law_32 (v := 41) (by rw [hc41]; rfl) (by decide) ?_
          refine u_aload_n X hl dL_law_1577 1 rfl ?_
          refine u_aload_n X hl dL_law_1578 0 rfl ?_
          refine u_iload_n X hl dL_law_1579 3 rfl ?_
          refine u_iconst (v := 1) X dL_law_1580 rfl ?_
          refine u_iadd X dL_law_1581 ?_
          obtain ⟨hin, h⟩ := ifn_inv h
          refine va_sld X.1 X.2.1 hX hbl hbA hS hin dL_law_1582 ?_
          obtain ⟨w1583, hc1583, h⟩ := ob_inv h
          refine u_callViG hcs X hP hS hl dL_law_1583 (cT_many l hc1583) cw_L_187 io_0 rfl rfl rfl rfl ⟨rfl, rfl⟩ (fun H locs hP hS => ?_)
          refine u_aload_n X hl dL_law_1586 2 rfl ?_
          refine u_aload_n X hl dL_law_1587 0 rfl ?_
          refine u_iload_n X hl dL_law_1588 3 rfl ?_
          refine u_iconst (v := 1) X dL_law_1589 rfl ?_
          refine u_iadd X dL_law_1590 ?_
          obtain ⟨hin, h⟩ := ifn_inv h
          refine va_sld X.1 X.2.1 hX hbl hbA hS hin dL_law_1591 ?_
          obtain ⟨w1592, hc1592, h⟩ := ob_inv h
          refine u_callViG hcs X hP hS hl dL_law_1592 (cM_many l hc1592) cw_L_190 io_56 rfl rfl rfl rfl ⟨rfl, rfl⟩ (fun H locs hP hS => ?_)
          refine u_icmp_eq 1626 X dL_law_1595 rfl (fun hc => ?_) (fun hc => ?_)
          · rw [if_pos hc] at h
            refine u_iinc [(3, .int (l3_18 + 4)), (0, .ref b), (1, .ref (ad 0)), (2, .ref (ad 56))] X hl dL_law_1626 3 rfl rfl (Nat.le_of_ble_eq_true rfl) rfl (fun ls hl => ?_)
            refine u_goto 18 X dL_law_1629 rfl ?_
            exact ih18 _ _ _ _ _ (lv_sub hl [1, 2, 3, 0] rfl) hP hS h
          · rw [if_neg hc] at h
            refine u_iconst (v := 0) X dL_law_1598 rfl ?_
            exact (law_no h).elim
        rw [if_neg hc41] at h
        by_cases hc42 : ((xs l3_18.toNatClampNeg) &&& 63) = 42
        · rw [if_pos hc42] at h
          refine u_tsw 1600 X dL_law_32 (v := 42) (by rw [hc42]; rfl) (by decide) ?_
          refine u_aload_n X hl dL_law_1600 1 rfl ?_
          obtain ⟨w1601, zc1601, hc1601, h⟩ := ob2_inv h
          refine u_callViG hcs X hP hS hl dL_law_1601 (cT_keep l hc1601) cw_L_191 io_0 rfl rfl rfl rfl ⟨rfl, rfl⟩ (fun H locs hP hS => ?_)
          refine u_aload_n X hl dL_law_1604 2 rfl ?_
          obtain ⟨w1605, zc1605, hc1605, h⟩ := ob2_inv h
          refine u_callViG hcs X hP hS hl dL_law_1605 (cM_keep l hc1605) cw_L_194 io_56 rfl rfl rfl rfl ⟨rfl, rfl⟩ (fun H locs hP hS => ?_)
          refine u_icmp_eq 1626 X dL_law_1608 rfl (fun hc => ?_) (fun hc => ?_)
          · rw [if_pos hc] at h
            refine u_iinc [(3, .int (l3_18 + 4)), (0, .ref b), (1, .ref (ad 0)), (2, .ref (ad 56))] X hl dL_law_1626 3 rfl rfl (Nat.le_of_ble_eq_true rfl) rfl (fun ls hl => ?_)
            refine u_goto 18 X dL_law_1629 rfl ?_
            exact ih18 _ _ _ _ _ (lv_sub hl [1, 2, 3, 0] rfl) hP hS h
          · rw [if_neg hc] at h
            refine u_iconst (v := 0) X dL_law_1611 rfl ?_
            exact (law_no h).elim
        rw [if_neg hc42] at h
        by_cases hc43 : ((xs l3_18.toNatClampNeg) &&& 63) = 43
        · rw [if_pos hc43] at h
          refine u_tsw 1613 X dL_law_32 (v := 43) (by rw [hc43]; rfl) (by decide) ?_
          refine u_aload_n X hl dL_law_1613 1 rfl ?_
          obtain ⟨w1614, zc1614, hc1614, h⟩ := ob2_inv h
          refine u_callViG hcs X hP hS hl dL_law_1614 (cT_again l hc1614) cw_L_195 io_0 rfl rfl rfl rfl ⟨rfl, rfl⟩ (fun H locs hP hS => ?_)
          refine u_aload_n X hl dL_law_1617 2 rfl ?_
          obtain ⟨w1618, zc1618, hc1618, h⟩ := ob2_inv h
          refine u_callViG hcs X hP hS hl dL_law_1618 (cM_again l hc1618) cw_L_198 io_56 rfl rfl rfl rfl ⟨rfl, rfl⟩ (fun H locs hP hS => ?_)
          refine u_icmp_eq 1626 X dL_law_1621 rfl (fun hc => ?_) (fun hc => ?_)
          · rw [if_pos hc] at h
            refine u_iinc [(3, .int (l3_18 + 4)), (0, .ref b), (1, .ref (ad 0)), (2, .ref (ad 56))] X hl dL_law_1626 3 rfl rfl (Nat.le_of_ble_eq_true rfl) rfl (fun ls hl => ?_)
            refine u_goto 18 X dL_law_1629 rfl ?_
            exact ih18 _ _ _ _ _ (lv_sub hl [1, 2, 3, 0] rfl) hP hS h
          · rw [if_neg hc] at h
            refine u_iconst (v := 0) X dL_law_1624 rfl ?_
            exact (law_no h).elim
        rw [if_neg hc43] at h
        refine u_tswD 1626 X dL_law_32 rfl (vs := [0, 1, 2, 3, 4, 5, 6, 7, 8, 9, 10, 11, 12, 13, 14, 15, 16, 17, 18, 19, 20, 21, 22, 23, 24, 25, 26, 27, 28, 29, 30, 31, 32, 33, 34, 35, 36, 37, 38, 39, 40, 41, 42, 43]) (List.forall_mem_cons.mpr ⟨fun q9 => hc0 (Int32.toInt_inj.mp q9), (List.forall_mem_cons.mpr ⟨fun q9 => hc1 (Int32.toInt_inj.mp q9), (List.forall_mem_cons.mpr ⟨fun q9 => hc2 (Int32.toInt_inj.mp q9), (List.forall_mem_cons.mpr ⟨fun q9 => hc3 (Int32.toInt_inj.mp q9), (List.forall_mem_cons.mpr ⟨fun q9 => hc4 (Int32.toInt_inj.mp q9), (List.forall_mem_cons.mpr ⟨fun q9 => hc5 (Int32.toInt_inj.mp q9), (List.forall_mem_cons.mpr ⟨fun q9 => hc6 (Int32.toInt_inj.mp q9), (List.forall_mem_cons.mpr ⟨fun q9 => hc7 (Int32.toInt_inj.mp q9), (List.forall_mem_cons.mpr ⟨fun q9 => hc8 (Int32.toInt_inj.mp q9), (List.forall_mem_cons.mpr ⟨fun q9 => hc9 (Int32.toInt_inj.mp q9), (List.forall_mem_cons.mpr ⟨fun q9 => hc10 (Int32.toInt_inj.mp q9), (List.forall_mem_cons.mpr ⟨fun q9 => hc11 (Int32.toInt_inj.mp q9), (List.forall_mem_cons.mpr ⟨fun q9 => hc12 (Int32.toInt_inj.mp q9), (List.forall_mem_cons.mpr ⟨fun q9 => hc13 (Int32.toInt_inj.mp q9), (List.forall_mem_cons.mpr ⟨fun q9 => hc14 (Int32.toInt_inj.mp q9), (List.forall_mem_cons.mpr ⟨fun q9 => hc15 (Int32.toInt_inj.mp q9), (List.forall_mem_cons.mpr ⟨fun q9 => hc16 (Int32.toInt_inj.mp q9), (List.forall_mem_cons.mpr ⟨fun q9 => hc17 (Int32.toInt_inj.mp q9), (List.forall_mem_cons.mpr ⟨fun q9 => hc18 (Int32.toInt_inj.mp q9), (List.forall_mem_cons.mpr ⟨fun q9 => hc19 (Int32.toInt_inj.mp q9), (List.forall_mem_cons.mpr ⟨fun q9 => hc20 (Int32.toInt_inj.mp q9), (List.forall_mem_cons.mpr ⟨fun q9 => hc21 (Int32.toInt_inj.mp q9), (List.forall_mem_cons.mpr ⟨fun q9 => hc22 (Int32.toInt_inj.mp q9), (List.forall_mem_cons.mpr ⟨fun q9 => hc23 (Int32.toInt_inj.mp q9), (List.forall_mem_cons.mpr ⟨fun q9 => hc24 (Int32.toInt_inj.mp q9), (List.forall_mem_cons.mpr ⟨fun q9 => hc25 (Int32.toInt_inj.mp q9), (List.forall_mem_cons.mpr ⟨fun q9 => hc26 (Int32.toInt_inj.mp q9), (List.forall_mem_cons.mpr ⟨fun q9 => hc27 (Int32.toInt_inj.mp q9), (List.forall_mem_cons.mpr ⟨fun q9 => hc28 (Int32.toInt_inj.mp q9), (List.forall_mem_cons.mpr ⟨fun q9 => hc29 (Int32.toInt_inj.mp q9), (List.forall_mem_cons.mpr ⟨fun q9 => hc30 (Int32.toInt_inj.mp q9), (List.forall_mem_cons.mpr ⟨fun q9 => hc31 (Int32.toInt_inj.mp q9), (List.forall_mem_cons.mpr ⟨fun q9 => hc32 (Int32.toInt_inj.mp q9), (List.forall_mem_cons.mpr ⟨fun q9 => hc33 (Int32.toInt_inj.mp q9), (List.forall_mem_cons.mpr ⟨fun q9 => hc34 (Int32.toInt_inj.mp q9), (List.forall_mem_cons.mpr ⟨fun q9 => hc35 (Int32.toInt_inj.mp q9), (List.forall_mem_cons.mpr ⟨fun q9 => hc36 (Int32.toInt_inj.mp q9), (List.forall_mem_cons.mpr ⟨fun q9 => hc37 (Int32.toInt_inj.mp q9), (List.forall_mem_cons.mpr ⟨fun q9 => hc38 (Int32.toInt_inj.mp q9), (List.forall_mem_cons.mpr ⟨fun q9 => hc39 (Int32.toInt_inj.mp q9), (List.forall_mem_cons.mpr ⟨fun q9 => hc40 (Int32.toInt_inj.mp q9), (List.forall_mem_cons.mpr ⟨fun q9 => hc41 (Int32.toInt_inj.mp q9), (List.forall_mem_cons.mpr ⟨fun q9 => hc42 (Int32.toInt_inj.mp q9), (List.forall_mem_cons.mpr ⟨fun q9 => hc43 (Int32.toInt_inj.mp q9), (fun _ h9 => by cases h9)⟩)⟩)⟩)⟩)⟩)⟩)⟩)⟩)⟩)⟩)⟩)⟩)⟩)⟩)⟩)⟩)⟩)⟩)⟩)⟩)⟩)⟩)⟩)⟩)⟩)⟩)⟩)⟩)⟩)⟩)⟩)⟩)⟩)⟩)⟩)⟩)⟩)⟩)⟩)⟩)⟩)⟩)⟩)⟩) (by decide) ?_
        refine u_iinc [(3, .int (l3_18 + 4)), (0, .ref b), (1, .ref (ad 0)), (2, .ref (ad 56))] X hl dL_law_1626 3 rfl rfl (Nat.le_of_ble_eq_true rfl) rfl (fun ls hl => ?_)
        refine u_goto 18 X dL_law_1629 rfl ?_
        exact ih18 _ _ _ _ _ (lv_sub hl [1, 2, 3, 0] rfl) hP hS h
  exact L18 LF _ _ _ _ _ (lv_sub hl [1, 2, 3, 0] rfl) hP hS h
