abbrev t_Mo_openWay_39 : List UInt8 := 172 :: []
abbrev t_Mo_openWay_38 : List UInt8 := 2 :: t_Mo_openWay_39
abbrev t_Mo_openWay_35 : List UInt8 := 167 :: 255 :: 223 :: t_Mo_openWay_38
abbrev t_Mo_openWay_32 : List UInt8 := 132 :: 3 :: 1 :: t_Mo_openWay_35
abbrev t_Mo_openWay_31 : List UInt8 := 172 :: t_Mo_openWay_32
abbrev t_Mo_openWay_30 : List UInt8 := 29 :: t_Mo_openWay_31
abbrev t_Mo_openWay_27 : List UInt8 := 160 :: 0 :: 5 :: t_Mo_openWay_30
abbrev t_Mo_openWay_26 : List UInt8 := 28 :: t_Mo_openWay_27
abbrev t_Mo_openWay_25 : List UInt8 := 46 :: t_Mo_openWay_26
abbrev t_Mo_openWay_24 : List UInt8 := 29 :: t_Mo_openWay_25
abbrev t_Mo_openWay_21 : List UInt8 := 180 :: 0 :: 86 :: t_Mo_openWay_24
abbrev t_Mo_openWay_20 : List UInt8 := 42 :: t_Mo_openWay_21
abbrev t_Mo_openWay_17 : List UInt8 := 160 :: 0 :: 15 :: t_Mo_openWay_20
abbrev t_Mo_openWay_16 : List UInt8 := 27 :: t_Mo_openWay_17
abbrev t_Mo_openWay_15 : List UInt8 := 46 :: t_Mo_openWay_16
abbrev t_Mo_openWay_14 : List UInt8 := 29 :: t_Mo_openWay_15
abbrev t_Mo_openWay_11 : List UInt8 := 180 :: 0 :: 83 :: t_Mo_openWay_14
abbrev t_Mo_openWay_10 : List UInt8 := 42 :: t_Mo_openWay_11
abbrev t_Mo_openWay_7 : List UInt8 := 162 :: 0 :: 31 :: t_Mo_openWay_10
abbrev t_Mo_openWay_4 : List UInt8 := 180 :: 1 :: 28 :: t_Mo_openWay_7
abbrev t_Mo_openWay_3 : List UInt8 := 42 :: t_Mo_openWay_4
abbrev t_Mo_openWay_2 : List UInt8 := 29 :: t_Mo_openWay_3
abbrev t_Mo_openWay_1 : List UInt8 := 62 :: t_Mo_openWay_2
abbrev t_Mo_openWay_0 : List UInt8 := 3 :: t_Mo_openWay_1
theorem a_Mo_openWay_0 : dk_at b_Mo_openWay 0 t_Mo_openWay_0 := dk_start (by decide +kernel)
theorem a_Mo_openWay_1 : dk_at b_Mo_openWay 1 t_Mo_openWay_1 := dk_go 1 a_Mo_openWay_0 rfl
theorem a_Mo_openWay_2 : dk_at b_Mo_openWay 2 t_Mo_openWay_2 := dk_go 1 a_Mo_openWay_1 rfl
theorem a_Mo_openWay_3 : dk_at b_Mo_openWay 3 t_Mo_openWay_3 := dk_go 1 a_Mo_openWay_2 rfl
theorem a_Mo_openWay_4 : dk_at b_Mo_openWay 4 t_Mo_openWay_4 := dk_go 1 a_Mo_openWay_3 rfl
theorem a_Mo_openWay_7 : dk_at b_Mo_openWay 7 t_Mo_openWay_7 := dk_go 3 a_Mo_openWay_4 rfl
theorem a_Mo_openWay_10 : dk_at b_Mo_openWay 10 t_Mo_openWay_10 := dk_go 3 a_Mo_openWay_7 rfl
theorem a_Mo_openWay_11 : dk_at b_Mo_openWay 11 t_Mo_openWay_11 := dk_go 1 a_Mo_openWay_10 rfl
theorem a_Mo_openWay_14 : dk_at b_Mo_openWay 14 t_Mo_openWay_14 := dk_go 3 a_Mo_openWay_11 rfl
theorem a_Mo_openWay_15 : dk_at b_Mo_openWay 15 t_Mo_openWay_15 := dk_go 1 a_Mo_openWay_14 rfl
theorem a_Mo_openWay_16 : dk_at b_Mo_openWay 16 t_Mo_openWay_16 := dk_go 1 a_Mo_openWay_15 rfl
theorem a_Mo_openWay_17 : dk_at b_Mo_openWay 17 t_Mo_openWay_17 := dk_go 1 a_Mo_openWay_16 rfl
theorem a_Mo_openWay_20 : dk_at b_Mo_openWay 20 t_Mo_openWay_20 := dk_go 3 a_Mo_openWay_17 rfl
theorem a_Mo_openWay_21 : dk_at b_Mo_openWay 21 t_Mo_openWay_21 := dk_go 1 a_Mo_openWay_20 rfl
theorem a_Mo_openWay_24 : dk_at b_Mo_openWay 24 t_Mo_openWay_24 := dk_go 3 a_Mo_openWay_21 rfl
theorem a_Mo_openWay_25 : dk_at b_Mo_openWay 25 t_Mo_openWay_25 := dk_go 1 a_Mo_openWay_24 rfl
theorem a_Mo_openWay_26 : dk_at b_Mo_openWay 26 t_Mo_openWay_26 := dk_go 1 a_Mo_openWay_25 rfl
theorem a_Mo_openWay_27 : dk_at b_Mo_openWay 27 t_Mo_openWay_27 := dk_go 1 a_Mo_openWay_26 rfl
theorem a_Mo_openWay_30 : dk_at b_Mo_openWay 30 t_Mo_openWay_30 := dk_go 3 a_Mo_openWay_27 rfl
theorem a_Mo_openWay_31 : dk_at b_Mo_openWay 31 t_Mo_openWay_31 := dk_go 1 a_Mo_openWay_30 rfl
theorem a_Mo_openWay_32 : dk_at b_Mo_openWay 32 t_Mo_openWay_32 := dk_go 1 a_Mo_openWay_31 rfl
theorem a_Mo_openWay_35 : dk_at b_Mo_openWay 35 t_Mo_openWay_35 := dk_go 3 a_Mo_openWay_32 rfl
theorem a_Mo_openWay_38 : dk_at b_Mo_openWay 38 t_Mo_openWay_38 := dk_go 3 a_Mo_openWay_35 rfl
theorem a_Mo_openWay_39 : dk_at b_Mo_openWay 39 t_Mo_openWay_39 := dk_go 1 a_Mo_openWay_38 rfl
theorem d_Mo_openWay_0 : decode b_Mo_openWay 0 = .ok (.iconst 0, 1) := dk_0 a_Mo_openWay_0 (dko_3 _)
theorem d_Mo_openWay_1 : decode b_Mo_openWay 1 = .ok (.istore_n 3, 1) := dk_0 a_Mo_openWay_1 (dko_62 _)
theorem d_Mo_openWay_2 : decode b_Mo_openWay 2 = .ok (.iload_n 3, 1) := dk_0 a_Mo_openWay_2 (dko_29 _)
theorem d_Mo_openWay_3 : decode b_Mo_openWay 3 = .ok (.aload_n 0, 1) := dk_0 a_Mo_openWay_3 (dko_42 _)
theorem d_Mo_openWay_4 : decode b_Mo_openWay 4 = .ok (.getfield 284, 3) := dk_U2 a_Mo_openWay_4 (dko_180 _) rfl
theorem d_Mo_openWay_7 : decode b_Mo_openWay 7 = .ok (.if_icmp .ge 31, 3) := dk_S2 a_Mo_openWay_7 (dko_162 _) (by decide +kernel)
theorem d_Mo_openWay_10 : decode b_Mo_openWay 10 = .ok (.aload_n 0, 1) := dk_0 a_Mo_openWay_10 (dko_42 _)
theorem d_Mo_openWay_11 : decode b_Mo_openWay 11 = .ok (.getfield 83, 3) := dk_U2 a_Mo_openWay_11 (dko_180 _) rfl
theorem d_Mo_openWay_14 : decode b_Mo_openWay 14 = .ok (.iload_n 3, 1) := dk_0 a_Mo_openWay_14 (dko_29 _)
theorem d_Mo_openWay_15 : decode b_Mo_openWay 15 = .ok (.iaload, 1) := dk_0 a_Mo_openWay_15 (dko_46 _)
theorem d_Mo_openWay_16 : decode b_Mo_openWay 16 = .ok (.iload_n 1, 1) := dk_0 a_Mo_openWay_16 (dko_27 _)
theorem d_Mo_openWay_17 : decode b_Mo_openWay 17 = .ok (.if_icmp .ne 15, 3) := dk_S2 a_Mo_openWay_17 (dko_160 _) (by decide +kernel)
theorem d_Mo_openWay_20 : decode b_Mo_openWay 20 = .ok (.aload_n 0, 1) := dk_0 a_Mo_openWay_20 (dko_42 _)
theorem d_Mo_openWay_21 : decode b_Mo_openWay 21 = .ok (.getfield 86, 3) := dk_U2 a_Mo_openWay_21 (dko_180 _) rfl
theorem d_Mo_openWay_24 : decode b_Mo_openWay 24 = .ok (.iload_n 3, 1) := dk_0 a_Mo_openWay_24 (dko_29 _)
theorem d_Mo_openWay_25 : decode b_Mo_openWay 25 = .ok (.iaload, 1) := dk_0 a_Mo_openWay_25 (dko_46 _)
theorem d_Mo_openWay_26 : decode b_Mo_openWay 26 = .ok (.iload_n 2, 1) := dk_0 a_Mo_openWay_26 (dko_28 _)
theorem d_Mo_openWay_27 : decode b_Mo_openWay 27 = .ok (.if_icmp .ne 5, 3) := dk_S2 a_Mo_openWay_27 (dko_160 _) (by decide +kernel)
theorem d_Mo_openWay_30 : decode b_Mo_openWay 30 = .ok (.iload_n 3, 1) := dk_0 a_Mo_openWay_30 (dko_29 _)
theorem d_Mo_openWay_31 : decode b_Mo_openWay 31 = .ok (.ireturn, 1) := dk_0 a_Mo_openWay_31 (dko_172 _)
theorem d_Mo_openWay_32 : decode b_Mo_openWay 32 = .ok (.iinc 3 1, 3) := dk_US a_Mo_openWay_32 (dko_132 _) (by decide +kernel)
theorem d_Mo_openWay_35 : decode b_Mo_openWay 35 = .ok (.goto (-33), 3) := dk_S2 a_Mo_openWay_35 (dko_167 _) (by decide +kernel)
theorem d_Mo_openWay_38 : decode b_Mo_openWay 38 = .ok (.iconst (-1), 1) := dk_0 a_Mo_openWay_38 (dko_2 _)
theorem d_Mo_openWay_39 : decode b_Mo_openWay 39 = .ok (.ireturn, 1) := dk_0 a_Mo_openWay_39 (dko_172 _)
set_option maxHeartbeats 4000000 in
set_option maxRecDepth 100000 in
theorem ok_Mo_openWay (pc : Nat) : OpS mt mi_Mo_openWay pc (cs_Mo_openWay pc) := (os_n (os_n (os_n (os_n (os_l (so_iconst d_Mo_openWay_0 (by decide))) (os_n (os_l (so_istore_n d_Mo_openWay_1 rfl (by decide))) (os_l (so_iload_n d_Mo_openWay_2 rfl)))) (os_n (os_l (so_aload_n d_Mo_openWay_3 rfl)) (os_n (os_l (so_get (C := R_Mo) (T := F_Mo) (N := 87) (j := 26) in_Mo rfl (by decide) mw_1820 d_Mo_openWay_4)) (os_l (so_icge d_Mo_openWay_7 (by decide)))))) (os_n (os_n (os_l (so_aload_n d_Mo_openWay_10 rfl)) (os_n (os_l (so_get (C := R_Mo) (T := F_Mo) (N := 87) (j := 27) in_Mo rfl (by decide) mw_1821 d_Mo_openWay_11)) (os_l (so_iload_n d_Mo_openWay_14 rfl)))) (os_n (os_l (so_iaload d_Mo_openWay_15)) (os_n (os_l (so_iload_n d_Mo_openWay_16 rfl)) (os_l (so_icne d_Mo_openWay_17 (by decide))))))) (os_n (os_n (os_n (os_l (so_aload_n d_Mo_openWay_20 rfl)) (os_n (os_l (so_get (C := R_Mo) (T := F_Mo) (N := 87) (j := 28) in_Mo rfl (by decide) mw_1822 d_Mo_openWay_21)) (os_l (so_iload_n d_Mo_openWay_24 rfl)))) (os_n (os_l (so_iaload d_Mo_openWay_25)) (os_n (os_l (so_iload_n d_Mo_openWay_26 rfl)) (os_l (so_icne d_Mo_openWay_27 (by decide)))))) (os_n (os_n (os_l (so_iload_n d_Mo_openWay_30 rfl)) (os_n (os_l (so_ireturn rfl d_Mo_openWay_31)) (os_l (so_iinc d_Mo_openWay_32 (by decide) (by decide))))) (os_n (os_l (so_goto d_Mo_openWay_35 (by decide))) (os_n (os_l (so_iconst d_Mo_openWay_38 (by decide))) (os_l (so_ireturn rfl d_Mo_openWay_39)))))))
abbrev t_Mo_open_439 : List UInt8 := 172 :: []
abbrev t_Mo_open_438 : List UInt8 := 3 :: t_Mo_open_439
abbrev t_Mo_open_435 : List UInt8 := 181 :: 1 :: 28 :: t_Mo_open_438
abbrev t_Mo_open_434 : List UInt8 := 96 :: t_Mo_open_435
abbrev t_Mo_open_433 : List UInt8 := 4 :: t_Mo_open_434
abbrev t_Mo_open_430 : List UInt8 := 180 :: 1 :: 28 :: t_Mo_open_433
abbrev t_Mo_open_429 : List UInt8 := 89 :: t_Mo_open_430
abbrev t_Mo_open_428 : List UInt8 := 42 :: t_Mo_open_429
abbrev t_Mo_open_425 : List UInt8 := 167 :: 255 :: 211 :: t_Mo_open_428
abbrev t_Mo_open_422 : List UInt8 := 132 :: 6 :: 1 :: t_Mo_open_425
abbrev t_Mo_open_421 : List UInt8 := 79 :: t_Mo_open_422
abbrev t_Mo_open_420 : List UInt8 := 2 :: t_Mo_open_421
abbrev t_Mo_open_417 : List UInt8 := 167 :: 0 :: 4 :: t_Mo_open_420
abbrev t_Mo_open_416 : List UInt8 := 46 :: t_Mo_open_417
abbrev t_Mo_open_414 : List UInt8 := 21 :: 6 :: t_Mo_open_416
abbrev t_Mo_open_411 : List UInt8 := 180 :: 0 :: 116 :: t_Mo_open_414
abbrev t_Mo_open_410 : List UInt8 := 42 :: t_Mo_open_411
abbrev t_Mo_open_407 : List UInt8 := 162 :: 0 :: 13 :: t_Mo_open_410
abbrev t_Mo_open_404 : List UInt8 := 180 :: 1 :: 22 :: t_Mo_open_407
abbrev t_Mo_open_403 : List UInt8 := 42 :: t_Mo_open_404
abbrev t_Mo_open_401 : List UInt8 := 21 :: 6 :: t_Mo_open_403
abbrev t_Mo_open_400 : List UInt8 := 96 :: t_Mo_open_401
abbrev t_Mo_open_398 : List UInt8 := 21 :: 6 :: t_Mo_open_400
abbrev t_Mo_open_397 : List UInt8 := 104 :: t_Mo_open_398
abbrev t_Mo_open_394 : List UInt8 := 180 :: 1 :: 28 :: t_Mo_open_397
abbrev t_Mo_open_393 : List UInt8 := 42 :: t_Mo_open_394
abbrev t_Mo_open_391 : List UInt8 := 16 :: 20 :: t_Mo_open_393
abbrev t_Mo_open_388 : List UInt8 := 180 :: 0 :: 101 :: t_Mo_open_391
abbrev t_Mo_open_387 : List UInt8 := 42 :: t_Mo_open_388
abbrev t_Mo_open_384 : List UInt8 := 162 :: 0 :: 44 :: t_Mo_open_387
abbrev t_Mo_open_382 : List UInt8 := 16 :: 20 :: t_Mo_open_384
abbrev t_Mo_open_380 : List UInt8 := 21 :: 6 :: t_Mo_open_382
abbrev t_Mo_open_378 : List UInt8 := 54 :: 6 :: t_Mo_open_380
abbrev t_Mo_open_377 : List UInt8 := 3 :: t_Mo_open_378
abbrev t_Mo_open_374 : List UInt8 := 167 :: 255 :: 222 :: t_Mo_open_377
abbrev t_Mo_open_371 : List UInt8 := 132 :: 6 :: 1 :: t_Mo_open_374
abbrev t_Mo_open_370 : List UInt8 := 79 :: t_Mo_open_371
abbrev t_Mo_open_369 : List UInt8 := 46 :: t_Mo_open_370
abbrev t_Mo_open_367 : List UInt8 := 21 :: 6 :: t_Mo_open_369
abbrev t_Mo_open_364 : List UInt8 := 180 :: 0 :: 113 :: t_Mo_open_367
abbrev t_Mo_open_363 : List UInt8 := 42 :: t_Mo_open_364
abbrev t_Mo_open_362 : List UInt8 := 96 :: t_Mo_open_363
abbrev t_Mo_open_360 : List UInt8 := 21 :: 6 :: t_Mo_open_362
abbrev t_Mo_open_359 : List UInt8 := 104 :: t_Mo_open_360
abbrev t_Mo_open_356 : List UInt8 := 180 :: 1 :: 28 :: t_Mo_open_359
abbrev t_Mo_open_355 : List UInt8 := 42 :: t_Mo_open_356
abbrev t_Mo_open_353 : List UInt8 := 16 :: 24 :: t_Mo_open_355
abbrev t_Mo_open_350 : List UInt8 := 180 :: 0 :: 98 :: t_Mo_open_353
abbrev t_Mo_open_349 : List UInt8 := 42 :: t_Mo_open_350
abbrev t_Mo_open_346 : List UInt8 := 162 :: 0 :: 31 :: t_Mo_open_349
abbrev t_Mo_open_343 : List UInt8 := 180 :: 1 :: 135 :: t_Mo_open_346
abbrev t_Mo_open_342 : List UInt8 := 42 :: t_Mo_open_343
abbrev t_Mo_open_340 : List UInt8 := 21 :: 6 :: t_Mo_open_342
abbrev t_Mo_open_338 : List UInt8 := 54 :: 6 :: t_Mo_open_340
abbrev t_Mo_open_337 : List UInt8 := 3 :: t_Mo_open_338
abbrev t_Mo_open_336 : List UInt8 := 79 :: t_Mo_open_337
abbrev t_Mo_open_333 : List UInt8 := 180 :: 1 :: 135 :: t_Mo_open_336
abbrev t_Mo_open_332 : List UInt8 := 42 :: t_Mo_open_333
abbrev t_Mo_open_329 : List UInt8 := 180 :: 1 :: 28 :: t_Mo_open_332
abbrev t_Mo_open_328 : List UInt8 := 42 :: t_Mo_open_329
abbrev t_Mo_open_325 : List UInt8 := 180 :: 0 :: 95 :: t_Mo_open_328
abbrev t_Mo_open_324 : List UInt8 := 42 :: t_Mo_open_325
abbrev t_Mo_open_323 : List UInt8 := 79 :: t_Mo_open_324
abbrev t_Mo_open_322 : List UInt8 := 29 :: t_Mo_open_323
abbrev t_Mo_open_319 : List UInt8 := 180 :: 1 :: 28 :: t_Mo_open_322
abbrev t_Mo_open_318 : List UInt8 := 42 :: t_Mo_open_319
abbrev t_Mo_open_315 : List UInt8 := 180 :: 0 :: 92 :: t_Mo_open_318
abbrev t_Mo_open_314 : List UInt8 := 42 :: t_Mo_open_315
abbrev t_Mo_open_313 : List UInt8 := 79 :: t_Mo_open_314
abbrev t_Mo_open_311 : List UInt8 := 21 :: 4 :: t_Mo_open_313
abbrev t_Mo_open_308 : List UInt8 := 180 :: 1 :: 28 :: t_Mo_open_311
abbrev t_Mo_open_307 : List UInt8 := 42 :: t_Mo_open_308
abbrev t_Mo_open_304 : List UInt8 := 180 :: 0 :: 89 :: t_Mo_open_307
abbrev t_Mo_open_303 : List UInt8 := 42 :: t_Mo_open_304
abbrev t_Mo_open_302 : List UInt8 := 79 :: t_Mo_open_303
abbrev t_Mo_open_301 : List UInt8 := 28 :: t_Mo_open_302
abbrev t_Mo_open_298 : List UInt8 := 180 :: 1 :: 28 :: t_Mo_open_301
abbrev t_Mo_open_297 : List UInt8 := 42 :: t_Mo_open_298
abbrev t_Mo_open_294 : List UInt8 := 180 :: 0 :: 86 :: t_Mo_open_297
abbrev t_Mo_open_293 : List UInt8 := 42 :: t_Mo_open_294
abbrev t_Mo_open_292 : List UInt8 := 79 :: t_Mo_open_293
abbrev t_Mo_open_291 : List UInt8 := 27 :: t_Mo_open_292
abbrev t_Mo_open_288 : List UInt8 := 180 :: 1 :: 28 :: t_Mo_open_291
abbrev t_Mo_open_287 : List UInt8 := 42 :: t_Mo_open_288
abbrev t_Mo_open_284 : List UInt8 := 180 :: 0 :: 83 :: t_Mo_open_287
abbrev t_Mo_open_283 : List UInt8 := 42 :: t_Mo_open_284
abbrev t_Mo_open_282 : List UInt8 := 172 :: t_Mo_open_283
abbrev t_Mo_open_280 : List UInt8 := 16 :: 7 :: t_Mo_open_282
abbrev t_Mo_open_277 : List UInt8 := 167 :: 255 :: 230 :: t_Mo_open_280
abbrev t_Mo_open_274 : List UInt8 := 132 :: 6 :: 1 :: t_Mo_open_277
abbrev t_Mo_open_273 : List UInt8 := 79 :: t_Mo_open_274
abbrev t_Mo_open_272 : List UInt8 := 46 :: t_Mo_open_273
abbrev t_Mo_open_270 : List UInt8 := 21 :: 6 :: t_Mo_open_272
abbrev t_Mo_open_267 : List UInt8 := 180 :: 0 :: 110 :: t_Mo_open_270
abbrev t_Mo_open_266 : List UInt8 := 42 :: t_Mo_open_267
abbrev t_Mo_open_264 : List UInt8 := 21 :: 6 :: t_Mo_open_266
abbrev t_Mo_open_261 : List UInt8 := 180 :: 0 :: 40 :: t_Mo_open_264
abbrev t_Mo_open_260 : List UInt8 := 42 :: t_Mo_open_261
abbrev t_Mo_open_257 : List UInt8 := 162 :: 0 :: 23 :: t_Mo_open_260
abbrev t_Mo_open_254 : List UInt8 := 180 :: 1 :: 22 :: t_Mo_open_257
abbrev t_Mo_open_253 : List UInt8 := 42 :: t_Mo_open_254
abbrev t_Mo_open_251 : List UInt8 := 21 :: 6 :: t_Mo_open_253
abbrev t_Mo_open_249 : List UInt8 := 54 :: 6 :: t_Mo_open_251
abbrev t_Mo_open_248 : List UInt8 := 3 :: t_Mo_open_249
abbrev t_Mo_open_245 : List UInt8 := 154 :: 0 :: 38 :: t_Mo_open_248
abbrev t_Mo_open_242 : List UInt8 := 182 :: 1 :: 113 :: t_Mo_open_245
abbrev t_Mo_open_241 : List UInt8 := 42 :: t_Mo_open_242
abbrev t_Mo_open_238 : List UInt8 := 167 :: 255 :: 184 :: t_Mo_open_241
abbrev t_Mo_open_235 : List UInt8 := 132 :: 6 :: 1 :: t_Mo_open_238
abbrev t_Mo_open_234 : List UInt8 := 79 :: t_Mo_open_235
abbrev t_Mo_open_233 : List UInt8 := 46 :: t_Mo_open_234
abbrev t_Mo_open_231 : List UInt8 := 21 :: 6 :: t_Mo_open_233
abbrev t_Mo_open_228 : List UInt8 := 180 :: 0 :: 40 :: t_Mo_open_231
abbrev t_Mo_open_227 : List UInt8 := 42 :: t_Mo_open_228
abbrev t_Mo_open_224 : List UInt8 := 167 :: 0 :: 10 :: t_Mo_open_227
abbrev t_Mo_open_223 : List UInt8 := 46 :: t_Mo_open_224
abbrev t_Mo_open_221 : List UInt8 := 21 :: 6 :: t_Mo_open_223
abbrev t_Mo_open_218 : List UInt8 := 180 :: 0 :: 116 :: t_Mo_open_221
abbrev t_Mo_open_217 : List UInt8 := 42 :: t_Mo_open_218
abbrev t_Mo_open_214 : List UInt8 := 159 :: 0 :: 13 :: t_Mo_open_217
abbrev t_Mo_open_213 : List UInt8 := 2 :: t_Mo_open_214
abbrev t_Mo_open_212 : List UInt8 := 46 :: t_Mo_open_213
abbrev t_Mo_open_210 : List UInt8 := 21 :: 6 :: t_Mo_open_212
abbrev t_Mo_open_207 : List UInt8 := 180 :: 0 :: 116 :: t_Mo_open_210
abbrev t_Mo_open_206 : List UInt8 := 42 :: t_Mo_open_207
abbrev t_Mo_open_203 : List UInt8 := 161 :: 0 :: 24 :: t_Mo_open_206
abbrev t_Mo_open_202 : List UInt8 := 5 :: t_Mo_open_203
abbrev t_Mo_open_201 : List UInt8 := 46 :: t_Mo_open_202
abbrev t_Mo_open_199 : List UInt8 := 21 :: 6 :: t_Mo_open_201
abbrev t_Mo_open_196 : List UInt8 := 180 :: 0 :: 27 :: t_Mo_open_199
abbrev t_Mo_open_195 : List UInt8 := 42 :: t_Mo_open_196
abbrev t_Mo_open_193 : List UInt8 := 21 :: 6 :: t_Mo_open_195
abbrev t_Mo_open_190 : List UInt8 := 180 :: 0 :: 40 :: t_Mo_open_193
abbrev t_Mo_open_189 : List UInt8 := 42 :: t_Mo_open_190
abbrev t_Mo_open_188 : List UInt8 := 79 :: t_Mo_open_189
abbrev t_Mo_open_187 : List UInt8 := 46 :: t_Mo_open_188
abbrev t_Mo_open_185 : List UInt8 := 21 :: 6 :: t_Mo_open_187
abbrev t_Mo_open_182 : List UInt8 := 180 :: 0 :: 40 :: t_Mo_open_185
abbrev t_Mo_open_181 : List UInt8 := 42 :: t_Mo_open_182
abbrev t_Mo_open_179 : List UInt8 := 21 :: 6 :: t_Mo_open_181
abbrev t_Mo_open_176 : List UInt8 := 180 :: 0 :: 110 :: t_Mo_open_179
abbrev t_Mo_open_175 : List UInt8 := 42 :: t_Mo_open_176
abbrev t_Mo_open_172 : List UInt8 := 162 :: 0 :: 69 :: t_Mo_open_175
abbrev t_Mo_open_169 : List UInt8 := 180 :: 1 :: 22 :: t_Mo_open_172
abbrev t_Mo_open_168 : List UInt8 := 42 :: t_Mo_open_169
abbrev t_Mo_open_166 : List UInt8 := 21 :: 6 :: t_Mo_open_168
abbrev t_Mo_open_164 : List UInt8 := 54 :: 6 :: t_Mo_open_166
abbrev t_Mo_open_163 : List UInt8 := 3 :: t_Mo_open_164
abbrev t_Mo_open_160 : List UInt8 := 167 :: 255 :: 223 :: t_Mo_open_163
abbrev t_Mo_open_157 : List UInt8 := 132 :: 6 :: 1 :: t_Mo_open_160
abbrev t_Mo_open_156 : List UInt8 := 79 :: t_Mo_open_157
abbrev t_Mo_open_154 : List UInt8 := 21 :: 4 :: t_Mo_open_156
abbrev t_Mo_open_153 : List UInt8 := 96 :: t_Mo_open_154
abbrev t_Mo_open_152 : List UInt8 := 108 :: t_Mo_open_153
abbrev t_Mo_open_151 : List UInt8 := 5 :: t_Mo_open_152
abbrev t_Mo_open_150 : List UInt8 := 46 :: t_Mo_open_151
abbrev t_Mo_open_148 : List UInt8 := 21 :: 6 :: t_Mo_open_150
abbrev t_Mo_open_145 : List UInt8 := 180 :: 0 :: 113 :: t_Mo_open_148
abbrev t_Mo_open_144 : List UInt8 := 42 :: t_Mo_open_145
abbrev t_Mo_open_141 : List UInt8 := 180 :: 1 :: 22 :: t_Mo_open_144
abbrev t_Mo_open_140 : List UInt8 := 42 :: t_Mo_open_141
abbrev t_Mo_open_137 : List UInt8 := 180 :: 0 :: 122 :: t_Mo_open_140
abbrev t_Mo_open_136 : List UInt8 := 42 :: t_Mo_open_137
abbrev t_Mo_open_133 : List UInt8 := 162 :: 0 :: 30 :: t_Mo_open_136
abbrev t_Mo_open_130 : List UInt8 := 180 :: 1 :: 135 :: t_Mo_open_133
abbrev t_Mo_open_129 : List UInt8 := 42 :: t_Mo_open_130
abbrev t_Mo_open_127 : List UInt8 := 21 :: 6 :: t_Mo_open_129
abbrev t_Mo_open_125 : List UInt8 := 54 :: 6 :: t_Mo_open_127
abbrev t_Mo_open_124 : List UInt8 := 3 :: t_Mo_open_125
abbrev t_Mo_open_123 : List UInt8 := 79 :: t_Mo_open_124
abbrev t_Mo_open_121 : List UInt8 := 21 :: 4 :: t_Mo_open_123
abbrev t_Mo_open_120 : List UInt8 := 28 :: t_Mo_open_121
abbrev t_Mo_open_117 : List UInt8 := 180 :: 0 :: 122 :: t_Mo_open_120
abbrev t_Mo_open_116 : List UInt8 := 42 :: t_Mo_open_117
abbrev t_Mo_open_113 : List UInt8 := 182 :: 1 :: 110 :: t_Mo_open_116
abbrev t_Mo_open_112 : List UInt8 := 42 :: t_Mo_open_113
abbrev t_Mo_open_111 : List UInt8 := 172 :: t_Mo_open_112
abbrev t_Mo_open_109 : List UInt8 := 16 :: 6 :: t_Mo_open_111
abbrev t_Mo_open_106 : List UInt8 := 154 :: 0 :: 6 :: t_Mo_open_109
abbrev t_Mo_open_104 : List UInt8 := 21 :: 5 :: t_Mo_open_106
abbrev t_Mo_open_101 : List UInt8 := 167 :: 255 :: 209 :: t_Mo_open_104
abbrev t_Mo_open_98 : List UInt8 := 132 :: 6 :: 1 :: t_Mo_open_101
abbrev t_Mo_open_96 : List UInt8 := 54 :: 5 :: t_Mo_open_98
abbrev t_Mo_open_95 : List UInt8 := 3 :: t_Mo_open_96
abbrev t_Mo_open_92 : List UInt8 := 167 :: 0 :: 4 :: t_Mo_open_95
abbrev t_Mo_open_91 : List UInt8 := 4 :: t_Mo_open_92
abbrev t_Mo_open_88 : List UInt8 := 153 :: 0 :: 7 :: t_Mo_open_91
abbrev t_Mo_open_85 : List UInt8 := 182 :: 1 :: 144 :: t_Mo_open_88
abbrev t_Mo_open_84 : List UInt8 := 96 :: t_Mo_open_85
abbrev t_Mo_open_83 : List UInt8 := 108 :: t_Mo_open_84
abbrev t_Mo_open_82 : List UInt8 := 5 :: t_Mo_open_83
abbrev t_Mo_open_81 : List UInt8 := 46 :: t_Mo_open_82
abbrev t_Mo_open_79 : List UInt8 := 21 :: 6 :: t_Mo_open_81
abbrev t_Mo_open_76 : List UInt8 := 180 :: 0 :: 113 :: t_Mo_open_79
abbrev t_Mo_open_75 : List UInt8 := 42 :: t_Mo_open_76
abbrev t_Mo_open_72 : List UInt8 := 180 :: 1 :: 22 :: t_Mo_open_75
abbrev t_Mo_open_71 : List UInt8 := 42 :: t_Mo_open_72
abbrev t_Mo_open_69 : List UInt8 := 21 :: 4 :: t_Mo_open_71
abbrev t_Mo_open_68 : List UInt8 := 42 :: t_Mo_open_69
abbrev t_Mo_open_65 : List UInt8 := 153 :: 0 :: 30 :: t_Mo_open_68
abbrev t_Mo_open_63 : List UInt8 := 21 :: 5 :: t_Mo_open_65
abbrev t_Mo_open_60 : List UInt8 := 162 :: 0 :: 44 :: t_Mo_open_63
abbrev t_Mo_open_57 : List UInt8 := 180 :: 1 :: 135 :: t_Mo_open_60
abbrev t_Mo_open_56 : List UInt8 := 42 :: t_Mo_open_57
abbrev t_Mo_open_54 : List UInt8 := 21 :: 6 :: t_Mo_open_56
abbrev t_Mo_open_52 : List UInt8 := 54 :: 6 :: t_Mo_open_54
abbrev t_Mo_open_51 : List UInt8 := 3 :: t_Mo_open_52
abbrev t_Mo_open_49 : List UInt8 := 54 :: 5 :: t_Mo_open_51
abbrev t_Mo_open_46 : List UInt8 := 182 :: 1 :: 144 :: t_Mo_open_49
abbrev t_Mo_open_45 : List UInt8 := 28 :: t_Mo_open_46
abbrev t_Mo_open_43 : List UInt8 := 21 :: 4 :: t_Mo_open_45
abbrev t_Mo_open_42 : List UInt8 := 42 :: t_Mo_open_43
abbrev t_Mo_open_40 : List UInt8 := 54 :: 4 :: t_Mo_open_42
abbrev t_Mo_open_39 : List UInt8 := 46 :: t_Mo_open_40
abbrev t_Mo_open_38 : List UInt8 := 27 :: t_Mo_open_39
abbrev t_Mo_open_35 : List UInt8 := 180 :: 0 :: 37 :: t_Mo_open_38
abbrev t_Mo_open_34 : List UInt8 := 42 :: t_Mo_open_35
abbrev t_Mo_open_33 : List UInt8 := 172 :: t_Mo_open_34
abbrev t_Mo_open_32 : List UInt8 := 8 :: t_Mo_open_33
abbrev t_Mo_open_29 : List UInt8 := 154 :: 0 :: 5 :: t_Mo_open_32
abbrev t_Mo_open_26 : List UInt8 := 182 :: 1 :: 141 :: t_Mo_open_29
abbrev t_Mo_open_25 : List UInt8 := 28 :: t_Mo_open_26
abbrev t_Mo_open_24 : List UInt8 := 27 :: t_Mo_open_25
abbrev t_Mo_open_23 : List UInt8 := 42 :: t_Mo_open_24
abbrev t_Mo_open_22 : List UInt8 := 172 :: t_Mo_open_23
abbrev t_Mo_open_21 : List UInt8 := 7 :: t_Mo_open_22
abbrev t_Mo_open_18 : List UInt8 := 154 :: 0 :: 5 :: t_Mo_open_21
abbrev t_Mo_open_17 : List UInt8 := 46 :: t_Mo_open_18
abbrev t_Mo_open_16 : List UInt8 := 27 :: t_Mo_open_17
abbrev t_Mo_open_13 : List UInt8 := 180 :: 0 :: 34 :: t_Mo_open_16
abbrev t_Mo_open_12 : List UInt8 := 42 :: t_Mo_open_13
abbrev t_Mo_open_11 : List UInt8 := 172 :: t_Mo_open_12
abbrev t_Mo_open_10 : List UInt8 := 6 :: t_Mo_open_11
abbrev t_Mo_open_7 : List UInt8 := 159 :: 0 :: 5 :: t_Mo_open_10
abbrev t_Mo_open_6 : List UInt8 := 2 :: t_Mo_open_7
abbrev t_Mo_open_3 : List UInt8 := 182 :: 1 :: 138 :: t_Mo_open_6
abbrev t_Mo_open_2 : List UInt8 := 28 :: t_Mo_open_3
abbrev t_Mo_open_1 : List UInt8 := 27 :: t_Mo_open_2
abbrev t_Mo_open_0 : List UInt8 := 42 :: t_Mo_open_1
theorem a_Mo_open_0 : dk_at b_Mo_open 0 t_Mo_open_0 := dk_start (by decide +kernel)
theorem a_Mo_open_1 : dk_at b_Mo_open 1 t_Mo_open_1 := dk_go 1 a_Mo_open_0 rfl
theorem a_Mo_open_2 : dk_at b_Mo_open 2 t_Mo_open_2 := dk_go 1 a_Mo_open_1 rfl
theorem a_Mo_open_3 : dk_at b_Mo_open 3 t_Mo_open_3 := dk_go 1 a_Mo_open_2 rfl
theorem a_Mo_open_6 : dk_at b_Mo_open 6 t_Mo_open_6 := dk_go 3 a_Mo_open_3 rfl
theorem a_Mo_open_7 : dk_at b_Mo_open 7 t_Mo_open_7 := dk_go 1 a_Mo_open_6 rfl
theorem a_Mo_open_10 : dk_at b_Mo_open 10 t_Mo_open_10 := dk_go 3 a_Mo_open_7 rfl
theorem a_Mo_open_11 : dk_at b_Mo_open 11 t_Mo_open_11 := dk_go 1 a_Mo_open_10 rfl
theorem a_Mo_open_12 : dk_at b_Mo_open 12 t_Mo_open_12 := dk_go 1 a_Mo_open_11 rfl
theorem a_Mo_open_13 : dk_at b_Mo_open 13 t_Mo_open_13 := dk_go 1 a_Mo_open_12 rfl
theorem a_Mo_open_16 : dk_at b_Mo_open 16 t_Mo_open_16 := dk_go 3 a_Mo_open_13 rfl
theorem a_Mo_open_17 : dk_at b_Mo_open 17 t_Mo_open_17 := dk_go 1 a_Mo_open_16 rfl
theorem a_Mo_open_18 : dk_at b_Mo_open 18 t_Mo_open_18 := dk_go 1 a_Mo_open_17 rfl
theorem a_Mo_open_21 : dk_at b_Mo_open 21 t_Mo_open_21 := dk_go 3 a_Mo_open_18 rfl
theorem a_Mo_open_22 : dk_at b_Mo_open 22 t_Mo_open_22 := dk_go 1 a_Mo_open_21 rfl
theorem a_Mo_open_23 : dk_at b_Mo_open 23 t_Mo_open_23 := dk_go 1 a_Mo_open_22 rfl
theorem a_Mo_open_24 : dk_at b_Mo_open 24 t_Mo_open_24 := dk_go 1 a_Mo_open_23 rfl
theorem a_Mo_open_25 : dk_at b_Mo_open 25 t_Mo_open_25 := dk_go 1 a_Mo_open_24 rfl
theorem a_Mo_open_26 : dk_at b_Mo_open 26 t_Mo_open_26 := dk_go 1 a_Mo_open_25 rfl
theorem a_Mo_open_29 : dk_at b_Mo_open 29 t_Mo_open_29 := dk_go 3 a_Mo_open_26 rfl
theorem a_Mo_open_32 : dk_at b_Mo_open 32 t_Mo_open_32 := dk_go 3 a_Mo_open_29 rfl
theorem a_Mo_open_33 : dk_at b_Mo_open 33 t_Mo_open_33 := dk_go 1 a_Mo_open_32 rfl
theorem a_Mo_open_34 : dk_at b_Mo_open 34 t_Mo_open_34 := dk_go 1 a_Mo_open_33 rfl
theorem a_Mo_open_35 : dk_at b_Mo_open 35 t_Mo_open_35 := dk_go 1 a_Mo_open_34 rfl
theorem a_Mo_open_38 : dk_at b_Mo_open 38 t_Mo_open_38 := dk_go 3 a_Mo_open_35 rfl
theorem a_Mo_open_39 : dk_at b_Mo_open 39 t_Mo_open_39 := dk_go 1 a_Mo_open_38 rfl
theorem a_Mo_open_40 : dk_at b_Mo_open 40 t_Mo_open_40 := dk_go 1 a_Mo_open_39 rfl
theorem a_Mo_open_42 : dk_at b_Mo_open 42 t_Mo_open_42 := dk_go 2 a_Mo_open_40 rfl
theorem a_Mo_open_43 : dk_at b_Mo_open 43 t_Mo_open_43 := dk_go 1 a_Mo_open_42 rfl
theorem a_Mo_open_45 : dk_at b_Mo_open 45 t_Mo_open_45 := dk_go 2 a_Mo_open_43 rfl
theorem a_Mo_open_46 : dk_at b_Mo_open 46 t_Mo_open_46 := dk_go 1 a_Mo_open_45 rfl
theorem a_Mo_open_49 : dk_at b_Mo_open 49 t_Mo_open_49 := dk_go 3 a_Mo_open_46 rfl
theorem a_Mo_open_51 : dk_at b_Mo_open 51 t_Mo_open_51 := dk_go 2 a_Mo_open_49 rfl
theorem a_Mo_open_52 : dk_at b_Mo_open 52 t_Mo_open_52 := dk_go 1 a_Mo_open_51 rfl
theorem a_Mo_open_54 : dk_at b_Mo_open 54 t_Mo_open_54 := dk_go 2 a_Mo_open_52 rfl
theorem a_Mo_open_56 : dk_at b_Mo_open 56 t_Mo_open_56 := dk_go 2 a_Mo_open_54 rfl
theorem a_Mo_open_57 : dk_at b_Mo_open 57 t_Mo_open_57 := dk_go 1 a_Mo_open_56 rfl
theorem a_Mo_open_60 : dk_at b_Mo_open 60 t_Mo_open_60 := dk_go 3 a_Mo_open_57 rfl
theorem a_Mo_open_63 : dk_at b_Mo_open 63 t_Mo_open_63 := dk_go 3 a_Mo_open_60 rfl
theorem a_Mo_open_65 : dk_at b_Mo_open 65 t_Mo_open_65 := dk_go 2 a_Mo_open_63 rfl
theorem a_Mo_open_68 : dk_at b_Mo_open 68 t_Mo_open_68 := dk_go 3 a_Mo_open_65 rfl
theorem a_Mo_open_69 : dk_at b_Mo_open 69 t_Mo_open_69 := dk_go 1 a_Mo_open_68 rfl
theorem a_Mo_open_71 : dk_at b_Mo_open 71 t_Mo_open_71 := dk_go 2 a_Mo_open_69 rfl
theorem a_Mo_open_72 : dk_at b_Mo_open 72 t_Mo_open_72 := dk_go 1 a_Mo_open_71 rfl
theorem a_Mo_open_75 : dk_at b_Mo_open 75 t_Mo_open_75 := dk_go 3 a_Mo_open_72 rfl
theorem a_Mo_open_76 : dk_at b_Mo_open 76 t_Mo_open_76 := dk_go 1 a_Mo_open_75 rfl
theorem a_Mo_open_79 : dk_at b_Mo_open 79 t_Mo_open_79 := dk_go 3 a_Mo_open_76 rfl
theorem a_Mo_open_81 : dk_at b_Mo_open 81 t_Mo_open_81 := dk_go 2 a_Mo_open_79 rfl
theorem a_Mo_open_82 : dk_at b_Mo_open 82 t_Mo_open_82 := dk_go 1 a_Mo_open_81 rfl
theorem a_Mo_open_83 : dk_at b_Mo_open 83 t_Mo_open_83 := dk_go 1 a_Mo_open_82 rfl
theorem a_Mo_open_84 : dk_at b_Mo_open 84 t_Mo_open_84 := dk_go 1 a_Mo_open_83 rfl
theorem a_Mo_open_85 : dk_at b_Mo_open 85 t_Mo_open_85 := dk_go 1 a_Mo_open_84 rfl
theorem a_Mo_open_88 : dk_at b_Mo_open 88 t_Mo_open_88 := dk_go 3 a_Mo_open_85 rfl
theorem a_Mo_open_91 : dk_at b_Mo_open 91 t_Mo_open_91 := dk_go 3 a_Mo_open_88 rfl
theorem a_Mo_open_92 : dk_at b_Mo_open 92 t_Mo_open_92 := dk_go 1 a_Mo_open_91 rfl
theorem a_Mo_open_95 : dk_at b_Mo_open 95 t_Mo_open_95 := dk_go 3 a_Mo_open_92 rfl
theorem a_Mo_open_96 : dk_at b_Mo_open 96 t_Mo_open_96 := dk_go 1 a_Mo_open_95 rfl
theorem a_Mo_open_98 : dk_at b_Mo_open 98 t_Mo_open_98 := dk_go 2 a_Mo_open_96 rfl
theorem a_Mo_open_101 : dk_at b_Mo_open 101 t_Mo_open_101 := dk_go 3 a_Mo_open_98 rfl
theorem a_Mo_open_104 : dk_at b_Mo_open 104 t_Mo_open_104 := dk_go 3 a_Mo_open_101 rfl
theorem a_Mo_open_106 : dk_at b_Mo_open 106 t_Mo_open_106 := dk_go 2 a_Mo_open_104 rfl
theorem a_Mo_open_109 : dk_at b_Mo_open 109 t_Mo_open_109 := dk_go 3 a_Mo_open_106 rfl
theorem a_Mo_open_111 : dk_at b_Mo_open 111 t_Mo_open_111 := dk_go 2 a_Mo_open_109 rfl
theorem a_Mo_open_112 : dk_at b_Mo_open 112 t_Mo_open_112 := dk_go 1 a_Mo_open_111 rfl
theorem a_Mo_open_113 : dk_at b_Mo_open 113 t_Mo_open_113 := dk_go 1 a_Mo_open_112 rfl
theorem a_Mo_open_116 : dk_at b_Mo_open 116 t_Mo_open_116 := dk_go 3 a_Mo_open_113 rfl
theorem a_Mo_open_117 : dk_at b_Mo_open 117 t_Mo_open_117 := dk_go 1 a_Mo_open_116 rfl
theorem a_Mo_open_120 : dk_at b_Mo_open 120 t_Mo_open_120 := dk_go 3 a_Mo_open_117 rfl
theorem a_Mo_open_121 : dk_at b_Mo_open 121 t_Mo_open_121 := dk_go 1 a_Mo_open_120 rfl
theorem a_Mo_open_123 : dk_at b_Mo_open 123 t_Mo_open_123 := dk_go 2 a_Mo_open_121 rfl
theorem a_Mo_open_124 : dk_at b_Mo_open 124 t_Mo_open_124 := dk_go 1 a_Mo_open_123 rfl
theorem a_Mo_open_125 : dk_at b_Mo_open 125 t_Mo_open_125 := dk_go 1 a_Mo_open_124 rfl
theorem a_Mo_open_127 : dk_at b_Mo_open 127 t_Mo_open_127 := dk_go 2 a_Mo_open_125 rfl
theorem a_Mo_open_129 : dk_at b_Mo_open 129 t_Mo_open_129 := dk_go 2 a_Mo_open_127 rfl
theorem a_Mo_open_130 : dk_at b_Mo_open 130 t_Mo_open_130 := dk_go 1 a_Mo_open_129 rfl
theorem a_Mo_open_133 : dk_at b_Mo_open 133 t_Mo_open_133 := dk_go 3 a_Mo_open_130 rfl
theorem a_Mo_open_136 : dk_at b_Mo_open 136 t_Mo_open_136 := dk_go 3 a_Mo_open_133 rfl
theorem a_Mo_open_137 : dk_at b_Mo_open 137 t_Mo_open_137 := dk_go 1 a_Mo_open_136 rfl
theorem a_Mo_open_140 : dk_at b_Mo_open 140 t_Mo_open_140 := dk_go 3 a_Mo_open_137 rfl
theorem a_Mo_open_141 : dk_at b_Mo_open 141 t_Mo_open_141 := dk_go 1 a_Mo_open_140 rfl
theorem a_Mo_open_144 : dk_at b_Mo_open 144 t_Mo_open_144 := dk_go 3 a_Mo_open_141 rfl
theorem a_Mo_open_145 : dk_at b_Mo_open 145 t_Mo_open_145 := dk_go 1 a_Mo_open_144 rfl
theorem a_Mo_open_148 : dk_at b_Mo_open 148 t_Mo_open_148 := dk_go 3 a_Mo_open_145 rfl
theorem a_Mo_open_150 : dk_at b_Mo_open 150 t_Mo_open_150 := dk_go 2 a_Mo_open_148 rfl
theorem a_Mo_open_151 : dk_at b_Mo_open 151 t_Mo_open_151 := dk_go 1 a_Mo_open_150 rfl
theorem a_Mo_open_152 : dk_at b_Mo_open 152 t_Mo_open_152 := dk_go 1 a_Mo_open_151 rfl
theorem a_Mo_open_153 : dk_at b_Mo_open 153 t_Mo_open_153 := dk_go 1 a_Mo_open_152 rfl
theorem a_Mo_open_154 : dk_at b_Mo_open 154 t_Mo_open_154 := dk_go 1 a_Mo_open_153 rfl
theorem a_Mo_open_156 : dk_at b_Mo_open 156 t_Mo_open_156 := dk_go 2 a_Mo_open_154 rfl
theorem a_Mo_open_157 : dk_at b_Mo_open 157 t_Mo_open_157 := dk_go 1 a_Mo_open_156 rfl
theorem a_Mo_open_160 : dk_at b_Mo_open 160 t_Mo_open_160 := dk_go 3 a_Mo_open_157 rfl
theorem a_Mo_open_163 : dk_at b_Mo_open 163 t_Mo_open_163 := dk_go 3 a_Mo_open_160 rfl
theorem a_Mo_open_164 : dk_at b_Mo_open 164 t_Mo_open_164 := dk_go 1 a_Mo_open_163 rfl
theorem a_Mo_open_166 : dk_at b_Mo_open 166 t_Mo_open_166 := dk_go 2 a_Mo_open_164 rfl
theorem a_Mo_open_168 : dk_at b_Mo_open 168 t_Mo_open_168 := dk_go 2 a_Mo_open_166 rfl
theorem a_Mo_open_169 : dk_at b_Mo_open 169 t_Mo_open_169 := dk_go 1 a_Mo_open_168 rfl
theorem a_Mo_open_172 : dk_at b_Mo_open 172 t_Mo_open_172 := dk_go 3 a_Mo_open_169 rfl
theorem a_Mo_open_175 : dk_at b_Mo_open 175 t_Mo_open_175 := dk_go 3 a_Mo_open_172 rfl
theorem a_Mo_open_176 : dk_at b_Mo_open 176 t_Mo_open_176 := dk_go 1 a_Mo_open_175 rfl
theorem a_Mo_open_179 : dk_at b_Mo_open 179 t_Mo_open_179 := dk_go 3 a_Mo_open_176 rfl
theorem a_Mo_open_181 : dk_at b_Mo_open 181 t_Mo_open_181 := dk_go 2 a_Mo_open_179 rfl
theorem a_Mo_open_182 : dk_at b_Mo_open 182 t_Mo_open_182 := dk_go 1 a_Mo_open_181 rfl
theorem a_Mo_open_185 : dk_at b_Mo_open 185 t_Mo_open_185 := dk_go 3 a_Mo_open_182 rfl
theorem a_Mo_open_187 : dk_at b_Mo_open 187 t_Mo_open_187 := dk_go 2 a_Mo_open_185 rfl
theorem a_Mo_open_188 : dk_at b_Mo_open 188 t_Mo_open_188 := dk_go 1 a_Mo_open_187 rfl
theorem a_Mo_open_189 : dk_at b_Mo_open 189 t_Mo_open_189 := dk_go 1 a_Mo_open_188 rfl
theorem a_Mo_open_190 : dk_at b_Mo_open 190 t_Mo_open_190 := dk_go 1 a_Mo_open_189 rfl
theorem a_Mo_open_193 : dk_at b_Mo_open 193 t_Mo_open_193 := dk_go 3 a_Mo_open_190 rfl
theorem a_Mo_open_195 : dk_at b_Mo_open 195 t_Mo_open_195 := dk_go 2 a_Mo_open_193 rfl
theorem a_Mo_open_196 : dk_at b_Mo_open 196 t_Mo_open_196 := dk_go 1 a_Mo_open_195 rfl
theorem a_Mo_open_199 : dk_at b_Mo_open 199 t_Mo_open_199 := dk_go 3 a_Mo_open_196 rfl
theorem a_Mo_open_201 : dk_at b_Mo_open 201 t_Mo_open_201 := dk_go 2 a_Mo_open_199 rfl
theorem a_Mo_open_202 : dk_at b_Mo_open 202 t_Mo_open_202 := dk_go 1 a_Mo_open_201 rfl
theorem a_Mo_open_203 : dk_at b_Mo_open 203 t_Mo_open_203 := dk_go 1 a_Mo_open_202 rfl
theorem a_Mo_open_206 : dk_at b_Mo_open 206 t_Mo_open_206 := dk_go 3 a_Mo_open_203 rfl
theorem a_Mo_open_207 : dk_at b_Mo_open 207 t_Mo_open_207 := dk_go 1 a_Mo_open_206 rfl
theorem a_Mo_open_210 : dk_at b_Mo_open 210 t_Mo_open_210 := dk_go 3 a_Mo_open_207 rfl
theorem a_Mo_open_212 : dk_at b_Mo_open 212 t_Mo_open_212 := dk_go 2 a_Mo_open_210 rfl
theorem a_Mo_open_213 : dk_at b_Mo_open 213 t_Mo_open_213 := dk_go 1 a_Mo_open_212 rfl
theorem a_Mo_open_214 : dk_at b_Mo_open 214 t_Mo_open_214 := dk_go 1 a_Mo_open_213 rfl
theorem a_Mo_open_217 : dk_at b_Mo_open 217 t_Mo_open_217 := dk_go 3 a_Mo_open_214 rfl
theorem a_Mo_open_218 : dk_at b_Mo_open 218 t_Mo_open_218 := dk_go 1 a_Mo_open_217 rfl
theorem a_Mo_open_221 : dk_at b_Mo_open 221 t_Mo_open_221 := dk_go 3 a_Mo_open_218 rfl
theorem a_Mo_open_223 : dk_at b_Mo_open 223 t_Mo_open_223 := dk_go 2 a_Mo_open_221 rfl
theorem a_Mo_open_224 : dk_at b_Mo_open 224 t_Mo_open_224 := dk_go 1 a_Mo_open_223 rfl
theorem a_Mo_open_227 : dk_at b_Mo_open 227 t_Mo_open_227 := dk_go 3 a_Mo_open_224 rfl
theorem a_Mo_open_228 : dk_at b_Mo_open 228 t_Mo_open_228 := dk_go 1 a_Mo_open_227 rfl
theorem a_Mo_open_231 : dk_at b_Mo_open 231 t_Mo_open_231 := dk_go 3 a_Mo_open_228 rfl
theorem a_Mo_open_233 : dk_at b_Mo_open 233 t_Mo_open_233 := dk_go 2 a_Mo_open_231 rfl
theorem a_Mo_open_234 : dk_at b_Mo_open 234 t_Mo_open_234 := dk_go 1 a_Mo_open_233 rfl
theorem a_Mo_open_235 : dk_at b_Mo_open 235 t_Mo_open_235 := dk_go 1 a_Mo_open_234 rfl
theorem a_Mo_open_238 : dk_at b_Mo_open 238 t_Mo_open_238 := dk_go 3 a_Mo_open_235 rfl
theorem a_Mo_open_241 : dk_at b_Mo_open 241 t_Mo_open_241 := dk_go 3 a_Mo_open_238 rfl
theorem a_Mo_open_242 : dk_at b_Mo_open 242 t_Mo_open_242 := dk_go 1 a_Mo_open_241 rfl
theorem a_Mo_open_245 : dk_at b_Mo_open 245 t_Mo_open_245 := dk_go 3 a_Mo_open_242 rfl
theorem a_Mo_open_248 : dk_at b_Mo_open 248 t_Mo_open_248 := dk_go 3 a_Mo_open_245 rfl
theorem a_Mo_open_249 : dk_at b_Mo_open 249 t_Mo_open_249 := dk_go 1 a_Mo_open_248 rfl
theorem a_Mo_open_251 : dk_at b_Mo_open 251 t_Mo_open_251 := dk_go 2 a_Mo_open_249 rfl
theorem a_Mo_open_253 : dk_at b_Mo_open 253 t_Mo_open_253 := dk_go 2 a_Mo_open_251 rfl
theorem a_Mo_open_254 : dk_at b_Mo_open 254 t_Mo_open_254 := dk_go 1 a_Mo_open_253 rfl
theorem a_Mo_open_257 : dk_at b_Mo_open 257 t_Mo_open_257 := dk_go 3 a_Mo_open_254 rfl
theorem a_Mo_open_260 : dk_at b_Mo_open 260 t_Mo_open_260 := dk_go 3 a_Mo_open_257 rfl
theorem a_Mo_open_261 : dk_at b_Mo_open 261 t_Mo_open_261 := dk_go 1 a_Mo_open_260 rfl
theorem a_Mo_open_264 : dk_at b_Mo_open 264 t_Mo_open_264 := dk_go 3 a_Mo_open_261 rfl
theorem a_Mo_open_266 : dk_at b_Mo_open 266 t_Mo_open_266 := dk_go 2 a_Mo_open_264 rfl
theorem a_Mo_open_267 : dk_at b_Mo_open 267 t_Mo_open_267 := dk_go 1 a_Mo_open_266 rfl
theorem a_Mo_open_270 : dk_at b_Mo_open 270 t_Mo_open_270 := dk_go 3 a_Mo_open_267 rfl
theorem a_Mo_open_272 : dk_at b_Mo_open 272 t_Mo_open_272 := dk_go 2 a_Mo_open_270 rfl
theorem a_Mo_open_273 : dk_at b_Mo_open 273 t_Mo_open_273 := dk_go 1 a_Mo_open_272 rfl
theorem a_Mo_open_274 : dk_at b_Mo_open 274 t_Mo_open_274 := dk_go 1 a_Mo_open_273 rfl
theorem a_Mo_open_277 : dk_at b_Mo_open 277 t_Mo_open_277 := dk_go 3 a_Mo_open_274 rfl
theorem a_Mo_open_280 : dk_at b_Mo_open 280 t_Mo_open_280 := dk_go 3 a_Mo_open_277 rfl
theorem a_Mo_open_282 : dk_at b_Mo_open 282 t_Mo_open_282 := dk_go 2 a_Mo_open_280 rfl
theorem a_Mo_open_283 : dk_at b_Mo_open 283 t_Mo_open_283 := dk_go 1 a_Mo_open_282 rfl
theorem a_Mo_open_284 : dk_at b_Mo_open 284 t_Mo_open_284 := dk_go 1 a_Mo_open_283 rfl
theorem a_Mo_open_287 : dk_at b_Mo_open 287 t_Mo_open_287 := dk_go 3 a_Mo_open_284 rfl
theorem a_Mo_open_288 : dk_at b_Mo_open 288 t_Mo_open_288 := dk_go 1 a_Mo_open_287 rfl
theorem a_Mo_open_291 : dk_at b_Mo_open 291 t_Mo_open_291 := dk_go 3 a_Mo_open_288 rfl
theorem a_Mo_open_292 : dk_at b_Mo_open 292 t_Mo_open_292 := dk_go 1 a_Mo_open_291 rfl
theorem a_Mo_open_293 : dk_at b_Mo_open 293 t_Mo_open_293 := dk_go 1 a_Mo_open_292 rfl
theorem a_Mo_open_294 : dk_at b_Mo_open 294 t_Mo_open_294 := dk_go 1 a_Mo_open_293 rfl
theorem a_Mo_open_297 : dk_at b_Mo_open 297 t_Mo_open_297 := dk_go 3 a_Mo_open_294 rfl
theorem a_Mo_open_298 : dk_at b_Mo_open 298 t_Mo_open_298 := dk_go 1 a_Mo_open_297 rfl
theorem a_Mo_open_301 : dk_at b_Mo_open 301 t_Mo_open_301 := dk_go 3 a_Mo_open_298 rfl
theorem a_Mo_open_302 : dk_at b_Mo_open 302 t_Mo_open_302 := dk_go 1 a_Mo_open_301 rfl
theorem a_Mo_open_303 : dk_at b_Mo_open 303 t_Mo_open_303 := dk_go 1 a_Mo_open_302 rfl
theorem a_Mo_open_304 : dk_at b_Mo_open 304 t_Mo_open_304 := dk_go 1 a_Mo_open_303 rfl
theorem a_Mo_open_307 : dk_at b_Mo_open 307 t_Mo_open_307 := dk_go 3 a_Mo_open_304 rfl
theorem a_Mo_open_308 : dk_at b_Mo_open 308 t_Mo_open_308 := dk_go 1 a_Mo_open_307 rfl
theorem a_Mo_open_311 : dk_at b_Mo_open 311 t_Mo_open_311 := dk_go 3 a_Mo_open_308 rfl
theorem a_Mo_open_313 : dk_at b_Mo_open 313 t_Mo_open_313 := dk_go 2 a_Mo_open_311 rfl
theorem a_Mo_open_314 : dk_at b_Mo_open 314 t_Mo_open_314 := dk_go 1 a_Mo_open_313 rfl
theorem a_Mo_open_315 : dk_at b_Mo_open 315 t_Mo_open_315 := dk_go 1 a_Mo_open_314 rfl
theorem a_Mo_open_318 : dk_at b_Mo_open 318 t_Mo_open_318 := dk_go 3 a_Mo_open_315 rfl
theorem a_Mo_open_319 : dk_at b_Mo_open 319 t_Mo_open_319 := dk_go 1 a_Mo_open_318 rfl
theorem a_Mo_open_322 : dk_at b_Mo_open 322 t_Mo_open_322 := dk_go 3 a_Mo_open_319 rfl
theorem a_Mo_open_323 : dk_at b_Mo_open 323 t_Mo_open_323 := dk_go 1 a_Mo_open_322 rfl
theorem a_Mo_open_324 : dk_at b_Mo_open 324 t_Mo_open_324 := dk_go 1 a_Mo_open_323 rfl
theorem a_Mo_open_325 : dk_at b_Mo_open 325 t_Mo_open_325 := dk_go 1 a_Mo_open_324 rfl
theorem a_Mo_open_328 : dk_at b_Mo_open 328 t_Mo_open_328 := dk_go 3 a_Mo_open_325 rfl
theorem a_Mo_open_329 : dk_at b_Mo_open 329 t_Mo_open_329 := dk_go 1 a_Mo_open_328 rfl
theorem a_Mo_open_332 : dk_at b_Mo_open 332 t_Mo_open_332 := dk_go 3 a_Mo_open_329 rfl
theorem a_Mo_open_333 : dk_at b_Mo_open 333 t_Mo_open_333 := dk_go 1 a_Mo_open_332 rfl
theorem a_Mo_open_336 : dk_at b_Mo_open 336 t_Mo_open_336 := dk_go 3 a_Mo_open_333 rfl
theorem a_Mo_open_337 : dk_at b_Mo_open 337 t_Mo_open_337 := dk_go 1 a_Mo_open_336 rfl
theorem a_Mo_open_338 : dk_at b_Mo_open 338 t_Mo_open_338 := dk_go 1 a_Mo_open_337 rfl
theorem a_Mo_open_340 : dk_at b_Mo_open 340 t_Mo_open_340 := dk_go 2 a_Mo_open_338 rfl
theorem a_Mo_open_342 : dk_at b_Mo_open 342 t_Mo_open_342 := dk_go 2 a_Mo_open_340 rfl
theorem a_Mo_open_343 : dk_at b_Mo_open 343 t_Mo_open_343 := dk_go 1 a_Mo_open_342 rfl
theorem a_Mo_open_346 : dk_at b_Mo_open 346 t_Mo_open_346 := dk_go 3 a_Mo_open_343 rfl
theorem a_Mo_open_349 : dk_at b_Mo_open 349 t_Mo_open_349 := dk_go 3 a_Mo_open_346 rfl
theorem a_Mo_open_350 : dk_at b_Mo_open 350 t_Mo_open_350 := dk_go 1 a_Mo_open_349 rfl
theorem a_Mo_open_353 : dk_at b_Mo_open 353 t_Mo_open_353 := dk_go 3 a_Mo_open_350 rfl
theorem a_Mo_open_355 : dk_at b_Mo_open 355 t_Mo_open_355 := dk_go 2 a_Mo_open_353 rfl
theorem a_Mo_open_356 : dk_at b_Mo_open 356 t_Mo_open_356 := dk_go 1 a_Mo_open_355 rfl
theorem a_Mo_open_359 : dk_at b_Mo_open 359 t_Mo_open_359 := dk_go 3 a_Mo_open_356 rfl
theorem a_Mo_open_360 : dk_at b_Mo_open 360 t_Mo_open_360 := dk_go 1 a_Mo_open_359 rfl
theorem a_Mo_open_362 : dk_at b_Mo_open 362 t_Mo_open_362 := dk_go 2 a_Mo_open_360 rfl
theorem a_Mo_open_363 : dk_at b_Mo_open 363 t_Mo_open_363 := dk_go 1 a_Mo_open_362 rfl
theorem a_Mo_open_364 : dk_at b_Mo_open 364 t_Mo_open_364 := dk_go 1 a_Mo_open_363 rfl
theorem a_Mo_open_367 : dk_at b_Mo_open 367 t_Mo_open_367 := dk_go 3 a_Mo_open_364 rfl
theorem a_Mo_open_369 : dk_at b_Mo_open 369 t_Mo_open_369 := dk_go 2 a_Mo_open_367 rfl
theorem a_Mo_open_370 : dk_at b_Mo_open 370 t_Mo_open_370 := dk_go 1 a_Mo_open_369 rfl
theorem a_Mo_open_371 : dk_at b_Mo_open 371 t_Mo_open_371 := dk_go 1 a_Mo_open_370 rfl
theorem a_Mo_open_374 : dk_at b_Mo_open 374 t_Mo_open_374 := dk_go 3 a_Mo_open_371 rfl
theorem a_Mo_open_377 : dk_at b_Mo_open 377 t_Mo_open_377 := dk_go 3 a_Mo_open_374 rfl
theorem a_Mo_open_378 : dk_at b_Mo_open 378 t_Mo_open_378 := dk_go 1 a_Mo_open_377 rfl
theorem a_Mo_open_380 : dk_at b_Mo_open 380 t_Mo_open_380 := dk_go 2 a_Mo_open_378 rfl
theorem a_Mo_open_382 : dk_at b_Mo_open 382 t_Mo_open_382 := dk_go 2 a_Mo_open_380 rfl
theorem a_Mo_open_384 : dk_at b_Mo_open 384 t_Mo_open_384 := dk_go 2 a_Mo_open_382 rfl
theorem a_Mo_open_387 : dk_at b_Mo_open 387 t_Mo_open_387 := dk_go 3 a_Mo_open_384 rfl
theorem a_Mo_open_388 : dk_at b_Mo_open 388 t_Mo_open_388 := dk_go 1 a_Mo_open_387 rfl
theorem a_Mo_open_391 : dk_at b_Mo_open 391 t_Mo_open_391 := dk_go 3 a_Mo_open_388 rfl
theorem a_Mo_open_393 : dk_at b_Mo_open 393 t_Mo_open_393 := dk_go 2 a_Mo_open_391 rfl
theorem a_Mo_open_394 : dk_at b_Mo_open 394 t_Mo_open_394 := dk_go 1 a_Mo_open_393 rfl
theorem a_Mo_open_397 : dk_at b_Mo_open 397 t_Mo_open_397 := dk_go 3 a_Mo_open_394 rfl
theorem a_Mo_open_398 : dk_at b_Mo_open 398 t_Mo_open_398 := dk_go 1 a_Mo_open_397 rfl
theorem a_Mo_open_400 : dk_at b_Mo_open 400 t_Mo_open_400 := dk_go 2 a_Mo_open_398 rfl
theorem a_Mo_open_401 : dk_at b_Mo_open 401 t_Mo_open_401 := dk_go 1 a_Mo_open_400 rfl
theorem a_Mo_open_403 : dk_at b_Mo_open 403 t_Mo_open_403 := dk_go 2 a_Mo_open_401 rfl
theorem a_Mo_open_404 : dk_at b_Mo_open 404 t_Mo_open_404 := dk_go 1 a_Mo_open_403 rfl
theorem a_Mo_open_407 : dk_at b_Mo_open 407 t_Mo_open_407 := dk_go 3 a_Mo_open_404 rfl
theorem a_Mo_open_410 : dk_at b_Mo_open 410 t_Mo_open_410 := dk_go 3 a_Mo_open_407 rfl
theorem a_Mo_open_411 : dk_at b_Mo_open 411 t_Mo_open_411 := dk_go 1 a_Mo_open_410 rfl
theorem a_Mo_open_414 : dk_at b_Mo_open 414 t_Mo_open_414 := dk_go 3 a_Mo_open_411 rfl
theorem a_Mo_open_416 : dk_at b_Mo_open 416 t_Mo_open_416 := dk_go 2 a_Mo_open_414 rfl
theorem a_Mo_open_417 : dk_at b_Mo_open 417 t_Mo_open_417 := dk_go 1 a_Mo_open_416 rfl
theorem a_Mo_open_420 : dk_at b_Mo_open 420 t_Mo_open_420 := dk_go 3 a_Mo_open_417 rfl
theorem a_Mo_open_421 : dk_at b_Mo_open 421 t_Mo_open_421 := dk_go 1 a_Mo_open_420 rfl
theorem a_Mo_open_422 : dk_at b_Mo_open 422 t_Mo_open_422 := dk_go 1 a_Mo_open_421 rfl
theorem a_Mo_open_425 : dk_at b_Mo_open 425 t_Mo_open_425 := dk_go 3 a_Mo_open_422 rfl
theorem a_Mo_open_428 : dk_at b_Mo_open 428 t_Mo_open_428 := dk_go 3 a_Mo_open_425 rfl
theorem a_Mo_open_429 : dk_at b_Mo_open 429 t_Mo_open_429 := dk_go 1 a_Mo_open_428 rfl
theorem a_Mo_open_430 : dk_at b_Mo_open 430 t_Mo_open_430 := dk_go 1 a_Mo_open_429 rfl
theorem a_Mo_open_433 : dk_at b_Mo_open 433 t_Mo_open_433 := dk_go 3 a_Mo_open_430 rfl
theorem a_Mo_open_434 : dk_at b_Mo_open 434 t_Mo_open_434 := dk_go 1 a_Mo_open_433 rfl
theorem a_Mo_open_435 : dk_at b_Mo_open 435 t_Mo_open_435 := dk_go 1 a_Mo_open_434 rfl
theorem a_Mo_open_438 : dk_at b_Mo_open 438 t_Mo_open_438 := dk_go 3 a_Mo_open_435 rfl
theorem a_Mo_open_439 : dk_at b_Mo_open 439 t_Mo_open_439 := dk_go 1 a_Mo_open_438 rfl
theorem d_Mo_open_0 : decode b_Mo_open 0 = .ok (.aload_n 0, 1) := dk_0 a_Mo_open_0 (dko_42 _)
theorem d_Mo_open_1 : decode b_Mo_open 1 = .ok (.iload_n 1, 1) := dk_0 a_Mo_open_1 (dko_27 _)
theorem d_Mo_open_2 : decode b_Mo_open 2 = .ok (.iload_n 2, 1) := dk_0 a_Mo_open_2 (dko_28 _)
theorem d_Mo_open_3 : decode b_Mo_open 3 = .ok (.invokevirtual 394, 3) := dk_U2 a_Mo_open_3 (dko_182 _) rfl
theorem d_Mo_open_6 : decode b_Mo_open 6 = .ok (.iconst (-1), 1) := dk_0 a_Mo_open_6 (dko_2 _)
theorem d_Mo_open_7 : decode b_Mo_open 7 = .ok (.if_icmp .eq 5, 3) := dk_S2 a_Mo_open_7 (dko_159 _) (by decide +kernel)
theorem d_Mo_open_10 : decode b_Mo_open 10 = .ok (.iconst 3, 1) := dk_0 a_Mo_open_10 (dko_6 _)
theorem d_Mo_open_11 : decode b_Mo_open 11 = .ok (.ireturn, 1) := dk_0 a_Mo_open_11 (dko_172 _)
theorem d_Mo_open_12 : decode b_Mo_open 12 = .ok (.aload_n 0, 1) := dk_0 a_Mo_open_12 (dko_42 _)
theorem d_Mo_open_13 : decode b_Mo_open 13 = .ok (.getfield 34, 3) := dk_U2 a_Mo_open_13 (dko_180 _) rfl
theorem d_Mo_open_16 : decode b_Mo_open 16 = .ok (.iload_n 1, 1) := dk_0 a_Mo_open_16 (dko_27 _)
theorem d_Mo_open_17 : decode b_Mo_open 17 = .ok (.iaload, 1) := dk_0 a_Mo_open_17 (dko_46 _)
theorem d_Mo_open_18 : decode b_Mo_open 18 = .ok (.ifCond .ne 5, 3) := dk_S2 a_Mo_open_18 (dko_154 _) (by decide +kernel)
theorem d_Mo_open_21 : decode b_Mo_open 21 = .ok (.iconst 4, 1) := dk_0 a_Mo_open_21 (dko_7 _)
theorem d_Mo_open_22 : decode b_Mo_open 22 = .ok (.ireturn, 1) := dk_0 a_Mo_open_22 (dko_172 _)
theorem d_Mo_open_23 : decode b_Mo_open 23 = .ok (.aload_n 0, 1) := dk_0 a_Mo_open_23 (dko_42 _)
theorem d_Mo_open_24 : decode b_Mo_open 24 = .ok (.iload_n 1, 1) := dk_0 a_Mo_open_24 (dko_27 _)
theorem d_Mo_open_25 : decode b_Mo_open 25 = .ok (.iload_n 2, 1) := dk_0 a_Mo_open_25 (dko_28 _)
theorem d_Mo_open_26 : decode b_Mo_open 26 = .ok (.invokevirtual 397, 3) := dk_U2 a_Mo_open_26 (dko_182 _) rfl
theorem d_Mo_open_29 : decode b_Mo_open 29 = .ok (.ifCond .ne 5, 3) := dk_S2 a_Mo_open_29 (dko_154 _) (by decide +kernel)
theorem d_Mo_open_32 : decode b_Mo_open 32 = .ok (.iconst 5, 1) := dk_0 a_Mo_open_32 (dko_8 _)
theorem d_Mo_open_33 : decode b_Mo_open 33 = .ok (.ireturn, 1) := dk_0 a_Mo_open_33 (dko_172 _)
theorem d_Mo_open_34 : decode b_Mo_open 34 = .ok (.aload_n 0, 1) := dk_0 a_Mo_open_34 (dko_42 _)
theorem d_Mo_open_35 : decode b_Mo_open 35 = .ok (.getfield 37, 3) := dk_U2 a_Mo_open_35 (dko_180 _) rfl
theorem d_Mo_open_38 : decode b_Mo_open 38 = .ok (.iload_n 1, 1) := dk_0 a_Mo_open_38 (dko_27 _)
theorem d_Mo_open_39 : decode b_Mo_open 39 = .ok (.iaload, 1) := dk_0 a_Mo_open_39 (dko_46 _)
theorem d_Mo_open_40 : decode b_Mo_open 40 = .ok (.istore 4, 2) := dk_U1 a_Mo_open_40 (dko_54 _) rfl
theorem d_Mo_open_42 : decode b_Mo_open 42 = .ok (.aload_n 0, 1) := dk_0 a_Mo_open_42 (dko_42 _)
theorem d_Mo_open_43 : decode b_Mo_open 43 = .ok (.iload 4, 2) := dk_U1 a_Mo_open_43 (dko_21 _) rfl
theorem d_Mo_open_45 : decode b_Mo_open 45 = .ok (.iload_n 2, 1) := dk_0 a_Mo_open_45 (dko_28 _)
theorem d_Mo_open_46 : decode b_Mo_open 46 = .ok (.invokevirtual 400, 3) := dk_U2 a_Mo_open_46 (dko_182 _) rfl
theorem d_Mo_open_49 : decode b_Mo_open 49 = .ok (.istore 5, 2) := dk_U1 a_Mo_open_49 (dko_54 _) rfl
theorem d_Mo_open_51 : decode b_Mo_open 51 = .ok (.iconst 0, 1) := dk_0 a_Mo_open_51 (dko_3 _)
theorem d_Mo_open_52 : decode b_Mo_open 52 = .ok (.istore 6, 2) := dk_U1 a_Mo_open_52 (dko_54 _) rfl
theorem d_Mo_open_54 : decode b_Mo_open 54 = .ok (.iload 6, 2) := dk_U1 a_Mo_open_54 (dko_21 _) rfl
theorem d_Mo_open_56 : decode b_Mo_open 56 = .ok (.aload_n 0, 1) := dk_0 a_Mo_open_56 (dko_42 _)
theorem d_Mo_open_57 : decode b_Mo_open 57 = .ok (.getfield 391, 3) := dk_U2 a_Mo_open_57 (dko_180 _) rfl
theorem d_Mo_open_60 : decode b_Mo_open 60 = .ok (.if_icmp .ge 44, 3) := dk_S2 a_Mo_open_60 (dko_162 _) (by decide +kernel)
theorem d_Mo_open_63 : decode b_Mo_open 63 = .ok (.iload 5, 2) := dk_U1 a_Mo_open_63 (dko_21 _) rfl
theorem d_Mo_open_65 : decode b_Mo_open 65 = .ok (.ifCond .eq 30, 3) := dk_S2 a_Mo_open_65 (dko_153 _) (by decide +kernel)
theorem d_Mo_open_68 : decode b_Mo_open 68 = .ok (.aload_n 0, 1) := dk_0 a_Mo_open_68 (dko_42 _)
theorem d_Mo_open_69 : decode b_Mo_open 69 = .ok (.iload 4, 2) := dk_U1 a_Mo_open_69 (dko_21 _) rfl
theorem d_Mo_open_71 : decode b_Mo_open 71 = .ok (.aload_n 0, 1) := dk_0 a_Mo_open_71 (dko_42 _)
theorem d_Mo_open_72 : decode b_Mo_open 72 = .ok (.getfield 278, 3) := dk_U2 a_Mo_open_72 (dko_180 _) rfl
theorem d_Mo_open_75 : decode b_Mo_open 75 = .ok (.aload_n 0, 1) := dk_0 a_Mo_open_75 (dko_42 _)
theorem d_Mo_open_76 : decode b_Mo_open 76 = .ok (.getfield 113, 3) := dk_U2 a_Mo_open_76 (dko_180 _) rfl
theorem d_Mo_open_79 : decode b_Mo_open 79 = .ok (.iload 6, 2) := dk_U1 a_Mo_open_79 (dko_21 _) rfl
theorem d_Mo_open_81 : decode b_Mo_open 81 = .ok (.iaload, 1) := dk_0 a_Mo_open_81 (dko_46 _)
theorem d_Mo_open_82 : decode b_Mo_open 82 = .ok (.iconst 2, 1) := dk_0 a_Mo_open_82 (dko_5 _)
theorem d_Mo_open_83 : decode b_Mo_open 83 = .ok (.idiv, 1) := dk_0 a_Mo_open_83 (dko_108 _)
theorem d_Mo_open_84 : decode b_Mo_open 84 = .ok (.iadd, 1) := dk_0 a_Mo_open_84 (dko_96 _)
theorem d_Mo_open_85 : decode b_Mo_open 85 = .ok (.invokevirtual 400, 3) := dk_U2 a_Mo_open_85 (dko_182 _) rfl
theorem d_Mo_open_88 : decode b_Mo_open 88 = .ok (.ifCond .eq 7, 3) := dk_S2 a_Mo_open_88 (dko_153 _) (by decide +kernel)
theorem d_Mo_open_91 : decode b_Mo_open 91 = .ok (.iconst 1, 1) := dk_0 a_Mo_open_91 (dko_4 _)
theorem d_Mo_open_92 : decode b_Mo_open 92 = .ok (.goto 4, 3) := dk_S2 a_Mo_open_92 (dko_167 _) (by decide +kernel)
theorem d_Mo_open_95 : decode b_Mo_open 95 = .ok (.iconst 0, 1) := dk_0 a_Mo_open_95 (dko_3 _)
theorem d_Mo_open_96 : decode b_Mo_open 96 = .ok (.istore 5, 2) := dk_U1 a_Mo_open_96 (dko_54 _) rfl
theorem d_Mo_open_98 : decode b_Mo_open 98 = .ok (.iinc 6 1, 3) := dk_US a_Mo_open_98 (dko_132 _) (by decide +kernel)
theorem d_Mo_open_101 : decode b_Mo_open 101 = .ok (.goto (-47), 3) := dk_S2 a_Mo_open_101 (dko_167 _) (by decide +kernel)
theorem d_Mo_open_104 : decode b_Mo_open 104 = .ok (.iload 5, 2) := dk_U1 a_Mo_open_104 (dko_21 _) rfl
theorem d_Mo_open_106 : decode b_Mo_open 106 = .ok (.ifCond .ne 6, 3) := dk_S2 a_Mo_open_106 (dko_154 _) (by decide +kernel)
theorem d_Mo_open_109 : decode b_Mo_open 109 = .ok (.bipush 6, 2) := dk_S1 a_Mo_open_109 (dko_16 _) (by decide +kernel)
theorem d_Mo_open_111 : decode b_Mo_open 111 = .ok (.ireturn, 1) := dk_0 a_Mo_open_111 (dko_172 _)
theorem d_Mo_open_112 : decode b_Mo_open 112 = .ok (.aload_n 0, 1) := dk_0 a_Mo_open_112 (dko_42 _)
theorem d_Mo_open_113 : decode b_Mo_open 113 = .ok (.invokevirtual 366, 3) := dk_U2 a_Mo_open_113 (dko_182 _) rfl
theorem d_Mo_open_116 : decode b_Mo_open 116 = .ok (.aload_n 0, 1) := dk_0 a_Mo_open_116 (dko_42 _)
theorem d_Mo_open_117 : decode b_Mo_open 117 = .ok (.getfield 122, 3) := dk_U2 a_Mo_open_117 (dko_180 _) rfl
theorem d_Mo_open_120 : decode b_Mo_open 120 = .ok (.iload_n 2, 1) := dk_0 a_Mo_open_120 (dko_28 _)
theorem d_Mo_open_121 : decode b_Mo_open 121 = .ok (.iload 4, 2) := dk_U1 a_Mo_open_121 (dko_21 _) rfl
theorem d_Mo_open_123 : decode b_Mo_open 123 = .ok (.iastore, 1) := dk_0 a_Mo_open_123 (dko_79 _)
theorem d_Mo_open_124 : decode b_Mo_open 124 = .ok (.iconst 0, 1) := dk_0 a_Mo_open_124 (dko_3 _)
theorem d_Mo_open_125 : decode b_Mo_open 125 = .ok (.istore 6, 2) := dk_U1 a_Mo_open_125 (dko_54 _) rfl
theorem d_Mo_open_127 : decode b_Mo_open 127 = .ok (.iload 6, 2) := dk_U1 a_Mo_open_127 (dko_21 _) rfl
theorem d_Mo_open_129 : decode b_Mo_open 129 = .ok (.aload_n 0, 1) := dk_0 a_Mo_open_129 (dko_42 _)
theorem d_Mo_open_130 : decode b_Mo_open 130 = .ok (.getfield 391, 3) := dk_U2 a_Mo_open_130 (dko_180 _) rfl
theorem d_Mo_open_133 : decode b_Mo_open 133 = .ok (.if_icmp .ge 30, 3) := dk_S2 a_Mo_open_133 (dko_162 _) (by decide +kernel)
theorem d_Mo_open_136 : decode b_Mo_open 136 = .ok (.aload_n 0, 1) := dk_0 a_Mo_open_136 (dko_42 _)
theorem d_Mo_open_137 : decode b_Mo_open 137 = .ok (.getfield 122, 3) := dk_U2 a_Mo_open_137 (dko_180 _) rfl
theorem d_Mo_open_140 : decode b_Mo_open 140 = .ok (.aload_n 0, 1) := dk_0 a_Mo_open_140 (dko_42 _)
theorem d_Mo_open_141 : decode b_Mo_open 141 = .ok (.getfield 278, 3) := dk_U2 a_Mo_open_141 (dko_180 _) rfl
theorem d_Mo_open_144 : decode b_Mo_open 144 = .ok (.aload_n 0, 1) := dk_0 a_Mo_open_144 (dko_42 _)
theorem d_Mo_open_145 : decode b_Mo_open 145 = .ok (.getfield 113, 3) := dk_U2 a_Mo_open_145 (dko_180 _) rfl
theorem d_Mo_open_148 : decode b_Mo_open 148 = .ok (.iload 6, 2) := dk_U1 a_Mo_open_148 (dko_21 _) rfl
theorem d_Mo_open_150 : decode b_Mo_open 150 = .ok (.iaload, 1) := dk_0 a_Mo_open_150 (dko_46 _)
theorem d_Mo_open_151 : decode b_Mo_open 151 = .ok (.iconst 2, 1) := dk_0 a_Mo_open_151 (dko_5 _)
theorem d_Mo_open_152 : decode b_Mo_open 152 = .ok (.idiv, 1) := dk_0 a_Mo_open_152 (dko_108 _)
theorem d_Mo_open_153 : decode b_Mo_open 153 = .ok (.iadd, 1) := dk_0 a_Mo_open_153 (dko_96 _)
theorem d_Mo_open_154 : decode b_Mo_open 154 = .ok (.iload 4, 2) := dk_U1 a_Mo_open_154 (dko_21 _) rfl
theorem d_Mo_open_156 : decode b_Mo_open 156 = .ok (.iastore, 1) := dk_0 a_Mo_open_156 (dko_79 _)
theorem d_Mo_open_157 : decode b_Mo_open 157 = .ok (.iinc 6 1, 3) := dk_US a_Mo_open_157 (dko_132 _) (by decide +kernel)
theorem d_Mo_open_160 : decode b_Mo_open 160 = .ok (.goto (-33), 3) := dk_S2 a_Mo_open_160 (dko_167 _) (by decide +kernel)
theorem d_Mo_open_163 : decode b_Mo_open 163 = .ok (.iconst 0, 1) := dk_0 a_Mo_open_163 (dko_3 _)
theorem d_Mo_open_164 : decode b_Mo_open 164 = .ok (.istore 6, 2) := dk_U1 a_Mo_open_164 (dko_54 _) rfl
theorem d_Mo_open_166 : decode b_Mo_open 166 = .ok (.iload 6, 2) := dk_U1 a_Mo_open_166 (dko_21 _) rfl
theorem d_Mo_open_168 : decode b_Mo_open 168 = .ok (.aload_n 0, 1) := dk_0 a_Mo_open_168 (dko_42 _)
theorem d_Mo_open_169 : decode b_Mo_open 169 = .ok (.getfield 278, 3) := dk_U2 a_Mo_open_169 (dko_180 _) rfl
theorem d_Mo_open_172 : decode b_Mo_open 172 = .ok (.if_icmp .ge 69, 3) := dk_S2 a_Mo_open_172 (dko_162 _) (by decide +kernel)
theorem d_Mo_open_175 : decode b_Mo_open 175 = .ok (.aload_n 0, 1) := dk_0 a_Mo_open_175 (dko_42 _)
theorem d_Mo_open_176 : decode b_Mo_open 176 = .ok (.getfield 110, 3) := dk_U2 a_Mo_open_176 (dko_180 _) rfl
theorem d_Mo_open_179 : decode b_Mo_open 179 = .ok (.iload 6, 2) := dk_U1 a_Mo_open_179 (dko_21 _) rfl
theorem d_Mo_open_181 : decode b_Mo_open 181 = .ok (.aload_n 0, 1) := dk_0 a_Mo_open_181 (dko_42 _)
theorem d_Mo_open_182 : decode b_Mo_open 182 = .ok (.getfield 40, 3) := dk_U2 a_Mo_open_182 (dko_180 _) rfl
theorem d_Mo_open_185 : decode b_Mo_open 185 = .ok (.iload 6, 2) := dk_U1 a_Mo_open_185 (dko_21 _) rfl
theorem d_Mo_open_187 : decode b_Mo_open 187 = .ok (.iaload, 1) := dk_0 a_Mo_open_187 (dko_46 _)
theorem d_Mo_open_188 : decode b_Mo_open 188 = .ok (.iastore, 1) := dk_0 a_Mo_open_188 (dko_79 _)
theorem d_Mo_open_189 : decode b_Mo_open 189 = .ok (.aload_n 0, 1) := dk_0 a_Mo_open_189 (dko_42 _)
theorem d_Mo_open_190 : decode b_Mo_open 190 = .ok (.getfield 40, 3) := dk_U2 a_Mo_open_190 (dko_180 _) rfl
theorem d_Mo_open_193 : decode b_Mo_open 193 = .ok (.iload 6, 2) := dk_U1 a_Mo_open_193 (dko_21 _) rfl
theorem d_Mo_open_195 : decode b_Mo_open 195 = .ok (.aload_n 0, 1) := dk_0 a_Mo_open_195 (dko_42 _)
theorem d_Mo_open_196 : decode b_Mo_open 196 = .ok (.getfield 27, 3) := dk_U2 a_Mo_open_196 (dko_180 _) rfl
theorem d_Mo_open_199 : decode b_Mo_open 199 = .ok (.iload 6, 2) := dk_U1 a_Mo_open_199 (dko_21 _) rfl
theorem d_Mo_open_201 : decode b_Mo_open 201 = .ok (.iaload, 1) := dk_0 a_Mo_open_201 (dko_46 _)
theorem d_Mo_open_202 : decode b_Mo_open 202 = .ok (.iconst 2, 1) := dk_0 a_Mo_open_202 (dko_5 _)
theorem d_Mo_open_203 : decode b_Mo_open 203 = .ok (.if_icmp .lt 24, 3) := dk_S2 a_Mo_open_203 (dko_161 _) (by decide +kernel)
theorem d_Mo_open_206 : decode b_Mo_open 206 = .ok (.aload_n 0, 1) := dk_0 a_Mo_open_206 (dko_42 _)
theorem d_Mo_open_207 : decode b_Mo_open 207 = .ok (.getfield 116, 3) := dk_U2 a_Mo_open_207 (dko_180 _) rfl
theorem d_Mo_open_210 : decode b_Mo_open 210 = .ok (.iload 6, 2) := dk_U1 a_Mo_open_210 (dko_21 _) rfl
theorem d_Mo_open_212 : decode b_Mo_open 212 = .ok (.iaload, 1) := dk_0 a_Mo_open_212 (dko_46 _)
theorem d_Mo_open_213 : decode b_Mo_open 213 = .ok (.iconst (-1), 1) := dk_0 a_Mo_open_213 (dko_2 _)
theorem d_Mo_open_214 : decode b_Mo_open 214 = .ok (.if_icmp .eq 13, 3) := dk_S2 a_Mo_open_214 (dko_159 _) (by decide +kernel)
theorem d_Mo_open_217 : decode b_Mo_open 217 = .ok (.aload_n 0, 1) := dk_0 a_Mo_open_217 (dko_42 _)
theorem d_Mo_open_218 : decode b_Mo_open 218 = .ok (.getfield 116, 3) := dk_U2 a_Mo_open_218 (dko_180 _) rfl
theorem d_Mo_open_221 : decode b_Mo_open 221 = .ok (.iload 6, 2) := dk_U1 a_Mo_open_221 (dko_21 _) rfl
theorem d_Mo_open_223 : decode b_Mo_open 223 = .ok (.iaload, 1) := dk_0 a_Mo_open_223 (dko_46 _)
theorem d_Mo_open_224 : decode b_Mo_open 224 = .ok (.goto 10, 3) := dk_S2 a_Mo_open_224 (dko_167 _) (by decide +kernel)
theorem d_Mo_open_227 : decode b_Mo_open 227 = .ok (.aload_n 0, 1) := dk_0 a_Mo_open_227 (dko_42 _)
theorem d_Mo_open_228 : decode b_Mo_open 228 = .ok (.getfield 40, 3) := dk_U2 a_Mo_open_228 (dko_180 _) rfl
theorem d_Mo_open_231 : decode b_Mo_open 231 = .ok (.iload 6, 2) := dk_U1 a_Mo_open_231 (dko_21 _) rfl
theorem d_Mo_open_233 : decode b_Mo_open 233 = .ok (.iaload, 1) := dk_0 a_Mo_open_233 (dko_46 _)
theorem d_Mo_open_234 : decode b_Mo_open 234 = .ok (.iastore, 1) := dk_0 a_Mo_open_234 (dko_79 _)
theorem d_Mo_open_235 : decode b_Mo_open 235 = .ok (.iinc 6 1, 3) := dk_US a_Mo_open_235 (dko_132 _) (by decide +kernel)
theorem d_Mo_open_238 : decode b_Mo_open 238 = .ok (.goto (-72), 3) := dk_S2 a_Mo_open_238 (dko_167 _) (by decide +kernel)
theorem d_Mo_open_241 : decode b_Mo_open 241 = .ok (.aload_n 0, 1) := dk_0 a_Mo_open_241 (dko_42 _)
theorem d_Mo_open_242 : decode b_Mo_open 242 = .ok (.invokevirtual 369, 3) := dk_U2 a_Mo_open_242 (dko_182 _) rfl
theorem d_Mo_open_245 : decode b_Mo_open 245 = .ok (.ifCond .ne 38, 3) := dk_S2 a_Mo_open_245 (dko_154 _) (by decide +kernel)
theorem d_Mo_open_248 : decode b_Mo_open 248 = .ok (.iconst 0, 1) := dk_0 a_Mo_open_248 (dko_3 _)
theorem d_Mo_open_249 : decode b_Mo_open 249 = .ok (.istore 6, 2) := dk_U1 a_Mo_open_249 (dko_54 _) rfl
theorem d_Mo_open_251 : decode b_Mo_open 251 = .ok (.iload 6, 2) := dk_U1 a_Mo_open_251 (dko_21 _) rfl
theorem d_Mo_open_253 : decode b_Mo_open 253 = .ok (.aload_n 0, 1) := dk_0 a_Mo_open_253 (dko_42 _)
theorem d_Mo_open_254 : decode b_Mo_open 254 = .ok (.getfield 278, 3) := dk_U2 a_Mo_open_254 (dko_180 _) rfl
theorem d_Mo_open_257 : decode b_Mo_open 257 = .ok (.if_icmp .ge 23, 3) := dk_S2 a_Mo_open_257 (dko_162 _) (by decide +kernel)
theorem d_Mo_open_260 : decode b_Mo_open 260 = .ok (.aload_n 0, 1) := dk_0 a_Mo_open_260 (dko_42 _)
theorem d_Mo_open_261 : decode b_Mo_open 261 = .ok (.getfield 40, 3) := dk_U2 a_Mo_open_261 (dko_180 _) rfl
theorem d_Mo_open_264 : decode b_Mo_open 264 = .ok (.iload 6, 2) := dk_U1 a_Mo_open_264 (dko_21 _) rfl
theorem d_Mo_open_266 : decode b_Mo_open 266 = .ok (.aload_n 0, 1) := dk_0 a_Mo_open_266 (dko_42 _)
theorem d_Mo_open_267 : decode b_Mo_open 267 = .ok (.getfield 110, 3) := dk_U2 a_Mo_open_267 (dko_180 _) rfl
theorem d_Mo_open_270 : decode b_Mo_open 270 = .ok (.iload 6, 2) := dk_U1 a_Mo_open_270 (dko_21 _) rfl
theorem d_Mo_open_272 : decode b_Mo_open 272 = .ok (.iaload, 1) := dk_0 a_Mo_open_272 (dko_46 _)
theorem d_Mo_open_273 : decode b_Mo_open 273 = .ok (.iastore, 1) := dk_0 a_Mo_open_273 (dko_79 _)
theorem d_Mo_open_274 : decode b_Mo_open 274 = .ok (.iinc 6 1, 3) := dk_US a_Mo_open_274 (dko_132 _) (by decide +kernel)
theorem d_Mo_open_277 : decode b_Mo_open 277 = .ok (.goto (-26), 3) := dk_S2 a_Mo_open_277 (dko_167 _) (by decide +kernel)
theorem d_Mo_open_280 : decode b_Mo_open 280 = .ok (.bipush 7, 2) := dk_S1 a_Mo_open_280 (dko_16 _) (by decide +kernel)
theorem d_Mo_open_282 : decode b_Mo_open 282 = .ok (.ireturn, 1) := dk_0 a_Mo_open_282 (dko_172 _)
theorem d_Mo_open_283 : decode b_Mo_open 283 = .ok (.aload_n 0, 1) := dk_0 a_Mo_open_283 (dko_42 _)
theorem d_Mo_open_284 : decode b_Mo_open 284 = .ok (.getfield 83, 3) := dk_U2 a_Mo_open_284 (dko_180 _) rfl
theorem d_Mo_open_287 : decode b_Mo_open 287 = .ok (.aload_n 0, 1) := dk_0 a_Mo_open_287 (dko_42 _)
theorem d_Mo_open_288 : decode b_Mo_open 288 = .ok (.getfield 284, 3) := dk_U2 a_Mo_open_288 (dko_180 _) rfl
theorem d_Mo_open_291 : decode b_Mo_open 291 = .ok (.iload_n 1, 1) := dk_0 a_Mo_open_291 (dko_27 _)
theorem d_Mo_open_292 : decode b_Mo_open 292 = .ok (.iastore, 1) := dk_0 a_Mo_open_292 (dko_79 _)
theorem d_Mo_open_293 : decode b_Mo_open 293 = .ok (.aload_n 0, 1) := dk_0 a_Mo_open_293 (dko_42 _)
theorem d_Mo_open_294 : decode b_Mo_open 294 = .ok (.getfield 86, 3) := dk_U2 a_Mo_open_294 (dko_180 _) rfl
theorem d_Mo_open_297 : decode b_Mo_open 297 = .ok (.aload_n 0, 1) := dk_0 a_Mo_open_297 (dko_42 _)
theorem d_Mo_open_298 : decode b_Mo_open 298 = .ok (.getfield 284, 3) := dk_U2 a_Mo_open_298 (dko_180 _) rfl
theorem d_Mo_open_301 : decode b_Mo_open 301 = .ok (.iload_n 2, 1) := dk_0 a_Mo_open_301 (dko_28 _)
theorem d_Mo_open_302 : decode b_Mo_open 302 = .ok (.iastore, 1) := dk_0 a_Mo_open_302 (dko_79 _)
theorem d_Mo_open_303 : decode b_Mo_open 303 = .ok (.aload_n 0, 1) := dk_0 a_Mo_open_303 (dko_42 _)
theorem d_Mo_open_304 : decode b_Mo_open 304 = .ok (.getfield 89, 3) := dk_U2 a_Mo_open_304 (dko_180 _) rfl
theorem d_Mo_open_307 : decode b_Mo_open 307 = .ok (.aload_n 0, 1) := dk_0 a_Mo_open_307 (dko_42 _)
theorem d_Mo_open_308 : decode b_Mo_open 308 = .ok (.getfield 284, 3) := dk_U2 a_Mo_open_308 (dko_180 _) rfl
theorem d_Mo_open_311 : decode b_Mo_open 311 = .ok (.iload 4, 2) := dk_U1 a_Mo_open_311 (dko_21 _) rfl
theorem d_Mo_open_313 : decode b_Mo_open 313 = .ok (.iastore, 1) := dk_0 a_Mo_open_313 (dko_79 _)
theorem d_Mo_open_314 : decode b_Mo_open 314 = .ok (.aload_n 0, 1) := dk_0 a_Mo_open_314 (dko_42 _)
theorem d_Mo_open_315 : decode b_Mo_open 315 = .ok (.getfield 92, 3) := dk_U2 a_Mo_open_315 (dko_180 _) rfl
theorem d_Mo_open_318 : decode b_Mo_open 318 = .ok (.aload_n 0, 1) := dk_0 a_Mo_open_318 (dko_42 _)
theorem d_Mo_open_319 : decode b_Mo_open 319 = .ok (.getfield 284, 3) := dk_U2 a_Mo_open_319 (dko_180 _) rfl
theorem d_Mo_open_322 : decode b_Mo_open 322 = .ok (.iload_n 3, 1) := dk_0 a_Mo_open_322 (dko_29 _)
theorem d_Mo_open_323 : decode b_Mo_open 323 = .ok (.iastore, 1) := dk_0 a_Mo_open_323 (dko_79 _)
theorem d_Mo_open_324 : decode b_Mo_open 324 = .ok (.aload_n 0, 1) := dk_0 a_Mo_open_324 (dko_42 _)
theorem d_Mo_open_325 : decode b_Mo_open 325 = .ok (.getfield 95, 3) := dk_U2 a_Mo_open_325 (dko_180 _) rfl
theorem d_Mo_open_328 : decode b_Mo_open 328 = .ok (.aload_n 0, 1) := dk_0 a_Mo_open_328 (dko_42 _)
theorem d_Mo_open_329 : decode b_Mo_open 329 = .ok (.getfield 284, 3) := dk_U2 a_Mo_open_329 (dko_180 _) rfl
theorem d_Mo_open_332 : decode b_Mo_open 332 = .ok (.aload_n 0, 1) := dk_0 a_Mo_open_332 (dko_42 _)
theorem d_Mo_open_333 : decode b_Mo_open 333 = .ok (.getfield 391, 3) := dk_U2 a_Mo_open_333 (dko_180 _) rfl
theorem d_Mo_open_336 : decode b_Mo_open 336 = .ok (.iastore, 1) := dk_0 a_Mo_open_336 (dko_79 _)
theorem d_Mo_open_337 : decode b_Mo_open 337 = .ok (.iconst 0, 1) := dk_0 a_Mo_open_337 (dko_3 _)
theorem d_Mo_open_338 : decode b_Mo_open 338 = .ok (.istore 6, 2) := dk_U1 a_Mo_open_338 (dko_54 _) rfl
theorem d_Mo_open_340 : decode b_Mo_open 340 = .ok (.iload 6, 2) := dk_U1 a_Mo_open_340 (dko_21 _) rfl
theorem d_Mo_open_342 : decode b_Mo_open 342 = .ok (.aload_n 0, 1) := dk_0 a_Mo_open_342 (dko_42 _)
theorem d_Mo_open_343 : decode b_Mo_open 343 = .ok (.getfield 391, 3) := dk_U2 a_Mo_open_343 (dko_180 _) rfl
theorem d_Mo_open_346 : decode b_Mo_open 346 = .ok (.if_icmp .ge 31, 3) := dk_S2 a_Mo_open_346 (dko_162 _) (by decide +kernel)
theorem d_Mo_open_349 : decode b_Mo_open 349 = .ok (.aload_n 0, 1) := dk_0 a_Mo_open_349 (dko_42 _)
theorem d_Mo_open_350 : decode b_Mo_open 350 = .ok (.getfield 98, 3) := dk_U2 a_Mo_open_350 (dko_180 _) rfl
theorem d_Mo_open_353 : decode b_Mo_open 353 = .ok (.bipush 24, 2) := dk_S1 a_Mo_open_353 (dko_16 _) (by decide +kernel)
theorem d_Mo_open_355 : decode b_Mo_open 355 = .ok (.aload_n 0, 1) := dk_0 a_Mo_open_355 (dko_42 _)
theorem d_Mo_open_356 : decode b_Mo_open 356 = .ok (.getfield 284, 3) := dk_U2 a_Mo_open_356 (dko_180 _) rfl
theorem d_Mo_open_359 : decode b_Mo_open 359 = .ok (.imul, 1) := dk_0 a_Mo_open_359 (dko_104 _)
theorem d_Mo_open_360 : decode b_Mo_open 360 = .ok (.iload 6, 2) := dk_U1 a_Mo_open_360 (dko_21 _) rfl
theorem d_Mo_open_362 : decode b_Mo_open 362 = .ok (.iadd, 1) := dk_0 a_Mo_open_362 (dko_96 _)
theorem d_Mo_open_363 : decode b_Mo_open 363 = .ok (.aload_n 0, 1) := dk_0 a_Mo_open_363 (dko_42 _)
theorem d_Mo_open_364 : decode b_Mo_open 364 = .ok (.getfield 113, 3) := dk_U2 a_Mo_open_364 (dko_180 _) rfl
theorem d_Mo_open_367 : decode b_Mo_open 367 = .ok (.iload 6, 2) := dk_U1 a_Mo_open_367 (dko_21 _) rfl
theorem d_Mo_open_369 : decode b_Mo_open 369 = .ok (.iaload, 1) := dk_0 a_Mo_open_369 (dko_46 _)
theorem d_Mo_open_370 : decode b_Mo_open 370 = .ok (.iastore, 1) := dk_0 a_Mo_open_370 (dko_79 _)
theorem d_Mo_open_371 : decode b_Mo_open 371 = .ok (.iinc 6 1, 3) := dk_US a_Mo_open_371 (dko_132 _) (by decide +kernel)
theorem d_Mo_open_374 : decode b_Mo_open 374 = .ok (.goto (-34), 3) := dk_S2 a_Mo_open_374 (dko_167 _) (by decide +kernel)
theorem d_Mo_open_377 : decode b_Mo_open 377 = .ok (.iconst 0, 1) := dk_0 a_Mo_open_377 (dko_3 _)
theorem d_Mo_open_378 : decode b_Mo_open 378 = .ok (.istore 6, 2) := dk_U1 a_Mo_open_378 (dko_54 _) rfl
theorem d_Mo_open_380 : decode b_Mo_open 380 = .ok (.iload 6, 2) := dk_U1 a_Mo_open_380 (dko_21 _) rfl
theorem d_Mo_open_382 : decode b_Mo_open 382 = .ok (.bipush 20, 2) := dk_S1 a_Mo_open_382 (dko_16 _) (by decide +kernel)
theorem d_Mo_open_384 : decode b_Mo_open 384 = .ok (.if_icmp .ge 44, 3) := dk_S2 a_Mo_open_384 (dko_162 _) (by decide +kernel)
theorem d_Mo_open_387 : decode b_Mo_open 387 = .ok (.aload_n 0, 1) := dk_0 a_Mo_open_387 (dko_42 _)
theorem d_Mo_open_388 : decode b_Mo_open 388 = .ok (.getfield 101, 3) := dk_U2 a_Mo_open_388 (dko_180 _) rfl
theorem d_Mo_open_391 : decode b_Mo_open 391 = .ok (.bipush 20, 2) := dk_S1 a_Mo_open_391 (dko_16 _) (by decide +kernel)
theorem d_Mo_open_393 : decode b_Mo_open 393 = .ok (.aload_n 0, 1) := dk_0 a_Mo_open_393 (dko_42 _)
theorem d_Mo_open_394 : decode b_Mo_open 394 = .ok (.getfield 284, 3) := dk_U2 a_Mo_open_394 (dko_180 _) rfl
theorem d_Mo_open_397 : decode b_Mo_open 397 = .ok (.imul, 1) := dk_0 a_Mo_open_397 (dko_104 _)
theorem d_Mo_open_398 : decode b_Mo_open 398 = .ok (.iload 6, 2) := dk_U1 a_Mo_open_398 (dko_21 _) rfl
theorem d_Mo_open_400 : decode b_Mo_open 400 = .ok (.iadd, 1) := dk_0 a_Mo_open_400 (dko_96 _)
theorem d_Mo_open_401 : decode b_Mo_open 401 = .ok (.iload 6, 2) := dk_U1 a_Mo_open_401 (dko_21 _) rfl
theorem d_Mo_open_403 : decode b_Mo_open 403 = .ok (.aload_n 0, 1) := dk_0 a_Mo_open_403 (dko_42 _)
theorem d_Mo_open_404 : decode b_Mo_open 404 = .ok (.getfield 278, 3) := dk_U2 a_Mo_open_404 (dko_180 _) rfl
theorem d_Mo_open_407 : decode b_Mo_open 407 = .ok (.if_icmp .ge 13, 3) := dk_S2 a_Mo_open_407 (dko_162 _) (by decide +kernel)
theorem d_Mo_open_410 : decode b_Mo_open 410 = .ok (.aload_n 0, 1) := dk_0 a_Mo_open_410 (dko_42 _)
theorem d_Mo_open_411 : decode b_Mo_open 411 = .ok (.getfield 116, 3) := dk_U2 a_Mo_open_411 (dko_180 _) rfl
theorem d_Mo_open_414 : decode b_Mo_open 414 = .ok (.iload 6, 2) := dk_U1 a_Mo_open_414 (dko_21 _) rfl
theorem d_Mo_open_416 : decode b_Mo_open 416 = .ok (.iaload, 1) := dk_0 a_Mo_open_416 (dko_46 _)
theorem d_Mo_open_417 : decode b_Mo_open 417 = .ok (.goto 4, 3) := dk_S2 a_Mo_open_417 (dko_167 _) (by decide +kernel)
theorem d_Mo_open_420 : decode b_Mo_open 420 = .ok (.iconst (-1), 1) := dk_0 a_Mo_open_420 (dko_2 _)
theorem d_Mo_open_421 : decode b_Mo_open 421 = .ok (.iastore, 1) := dk_0 a_Mo_open_421 (dko_79 _)
theorem d_Mo_open_422 : decode b_Mo_open 422 = .ok (.iinc 6 1, 3) := dk_US a_Mo_open_422 (dko_132 _) (by decide +kernel)
theorem d_Mo_open_425 : decode b_Mo_open 425 = .ok (.goto (-45), 3) := dk_S2 a_Mo_open_425 (dko_167 _) (by decide +kernel)
theorem d_Mo_open_428 : decode b_Mo_open 428 = .ok (.aload_n 0, 1) := dk_0 a_Mo_open_428 (dko_42 _)
theorem d_Mo_open_429 : decode b_Mo_open 429 = .ok (.dup, 1) := dk_0 a_Mo_open_429 (dko_89 _)
theorem d_Mo_open_430 : decode b_Mo_open 430 = .ok (.getfield 284, 3) := dk_U2 a_Mo_open_430 (dko_180 _) rfl
theorem d_Mo_open_433 : decode b_Mo_open 433 = .ok (.iconst 1, 1) := dk_0 a_Mo_open_433 (dko_4 _)
theorem d_Mo_open_434 : decode b_Mo_open 434 = .ok (.iadd, 1) := dk_0 a_Mo_open_434 (dko_96 _)
theorem d_Mo_open_435 : decode b_Mo_open 435 = .ok (.putfield 284, 3) := dk_U2 a_Mo_open_435 (dko_181 _) rfl
theorem d_Mo_open_438 : decode b_Mo_open 438 = .ok (.iconst 0, 1) := dk_0 a_Mo_open_438 (dko_3 _)
theorem d_Mo_open_439 : decode b_Mo_open 439 = .ok (.ireturn, 1) := dk_0 a_Mo_open_439 (dko_172 _)
set_option maxHeartbeats 4000000 in
set_option maxRecDepth 100000 in
theorem ok_Mo_open (pc : Nat) : OpS mt mi_Mo_open pc (cs_Mo_open pc) := (os_n (os_n (os_n (os_n (os_n (os_n (os_n (os_l (so_aload_n d_Mo_open_0 rfl)) (os_n (os_l (so_iload_n d_Mo_open_1 rfl)) (os_l (so_iload_n d_Mo_open_2 rfl)))) (os_n (os_n (os_l (so_callV (iv := mi_Mo_openWay) rfl rfl rfl mw_2498 mw_2500 sl_167 mw_18 mw_2501 ⟨by decide +kernel, by decide +kernel, by decide +kernel⟩ (by decide) d_Mo_open_3)) (os_l (so_iconst d_Mo_open_6 (by decide)))) (os_n (os_l (so_iceq d_Mo_open_7 (by decide))) (os_l (so_iconst d_Mo_open_10 (by decide)))))) (os_n (os_n (os_l (so_ireturn rfl d_Mo_open_11)) (os_n (os_l (so_aload_n d_Mo_open_12 rfl)) (os_l (so_get (C := R_Mo) (T := F_Mo) (N := 87) (j := 7) in_Mo rfl (by decide) mw_1801 d_Mo_open_13)))) (os_n (os_n (os_l (so_iload_n d_Mo_open_16 rfl)) (os_l (so_iaload d_Mo_open_17))) (os_n (os_l (so_ifne d_Mo_open_18 (by decide))) (os_l (so_iconst d_Mo_open_21 (by decide))))))) (os_n (os_n (os_n (os_l (so_ireturn rfl d_Mo_open_22)) (os_n (os_l (so_aload_n d_Mo_open_23 rfl)) (os_l (so_iload_n d_Mo_open_24 rfl)))) (os_n (os_n (os_l (so_iload_n d_Mo_open_25 rfl)) (os_l (so_callV (iv := mi_Mo_find) rfl rfl rfl mw_2502 mw_2504 sl_168 mw_18 mw_2505 ⟨by decide +kernel, by decide +kernel, by decide +kernel⟩ (by decide) d_Mo_open_26))) (os_n (os_l (so_ifne d_Mo_open_29 (by decide))) (os_l (so_iconst d_Mo_open_32 (by decide)))))) (os_n (os_n (os_n (os_l (so_ireturn rfl d_Mo_open_33)) (os_l (so_aload_n d_Mo_open_34 rfl))) (os_n (os_l (so_get (C := R_Mo) (T := F_Mo) (N := 87) (j := 8) in_Mo rfl (by decide) mw_1802 d_Mo_open_35)) (os_l (so_iload_n d_Mo_open_38 rfl)))) (os_n (os_n (os_l (so_iaload d_Mo_open_39)) (os_l (so_istore d_Mo_open_40 (by decide)))) (os_n (os_l (so_aload_n d_Mo_open_42 rfl)) (os_l (so_iload d_Mo_open_43))))))) (os_n (os_n (os_n (os_n (os_l (so_iload_n d_Mo_open_45 rfl)) (os_n (os_l (so_callV (iv := mi_Mo_mayCome) rfl rfl rfl mw_2445 mw_2447 sl_160 mw_18 mw_2448 ⟨by decide +kernel, by decide +kernel, by decide +kernel⟩ (by decide) d_Mo_open_46)) (os_l (so_istore d_Mo_open_49 (by decide))))) (os_n (os_n (os_l (so_iconst d_Mo_open_51 (by decide))) (os_l (so_istore d_Mo_open_52 (by decide)))) (os_n (os_l (so_iload d_Mo_open_54)) (os_l (so_aload_n d_Mo_open_56 rfl))))) (os_n (os_n (os_n (os_l (so_get (C := R_Mo) (T := F_Mo) (N := 87) (j := 39) in_Mo rfl (by decide) mw_1833 d_Mo_open_57)) (os_l (so_icge d_Mo_open_60 (by decide)))) (os_n (os_l (so_iload d_Mo_open_63)) (os_l (so_ifeq d_Mo_open_65 (by decide))))) (os_n (os_n (os_l (so_aload_n d_Mo_open_68 rfl)) (os_l (so_iload d_Mo_open_69))) (os_n (os_l (so_aload_n d_Mo_open_71 rfl)) (os_l (so_get (C := R_Mo) (T := F_Mo) (N := 87) (j := 4) in_Mo rfl (by decide) mw_1798 d_Mo_open_72)))))) (os_n (os_n (os_n (os_l (so_aload_n d_Mo_open_75 rfl)) (os_n (os_l (so_get (C := R_Mo) (T := F_Mo) (N := 87) (j := 37) in_Mo rfl (by decide) mw_1831 d_Mo_open_76)) (os_l (so_iload d_Mo_open_79)))) (os_n (os_n (os_l (so_iaload d_Mo_open_81)) (os_l (so_iconst d_Mo_open_82 (by decide)))) (os_n (os_l (so_idiv d_Mo_open_83)) (os_l (so_iadd d_Mo_open_84))))) (os_n (os_n (os_n (os_l (so_callV (iv := mi_Mo_mayCome) rfl rfl rfl mw_2445 mw_2447 sl_160 mw_18 mw_2448 ⟨by decide +kernel, by decide +kernel, by decide +kernel⟩ (by decide) d_Mo_open_85)) (os_l (so_ifeq d_Mo_open_88 (by decide)))) (os_n (os_l (so_iconst d_Mo_open_91 (by decide))) (os_l (so_goto d_Mo_open_92 (by decide))))) (os_n (os_n (os_l (so_iconst d_Mo_open_95 (by decide))) (os_l (so_istore d_Mo_open_96 (by decide)))) (os_n (os_l (so_iinc d_Mo_open_98 (by decide) (by decide))) (os_l (so_goto d_Mo_open_101 (by decide))))))))) (os_n (os_n (os_n (os_n (os_n (os_l (so_iload d_Mo_open_104)) (os_n (os_l (so_ifne d_Mo_open_106 (by decide))) (os_l (so_bipush d_Mo_open_109 (by decide))))) (os_n (os_n (os_l (so_ireturn rfl d_Mo_open_111)) (os_l (so_aload_n d_Mo_open_112 rfl))) (os_n (os_l (so_callV (iv := mi_Mo_look) rfl rfl rfl mw_2369 mw_2371 sl_145 mw_18 mw_2372 ⟨by decide +kernel, by decide +kernel, by decide +kernel⟩ (by decide) d_Mo_open_113)) (os_l (so_aload_n d_Mo_open_116 rfl))))) (os_n (os_n (os_n (os_l (so_get (C := R_Mo) (T := F_Mo) (N := 87) (j := 42) in_Mo rfl (by decide) mw_1836 d_Mo_open_117)) (os_l (so_iload_n d_Mo_open_120 rfl))) (os_n (os_l (so_iload d_Mo_open_121)) (os_l (so_iastore d_Mo_open_123)))) (os_n (os_n (os_l (so_iconst d_Mo_open_124 (by decide))) (os_l (so_istore d_Mo_open_125 (by decide)))) (os_n (os_l (so_iload d_Mo_open_127)) (os_l (so_aload_n d_Mo_open_129 rfl)))))) (os_n (os_n (os_n (os_l (so_get (C := R_Mo) (T := F_Mo) (N := 87) (j := 39) in_Mo rfl (by decide) mw_1833 d_Mo_open_130)) (os_n (os_l (so_icge d_Mo_open_133 (by decide))) (os_l (so_aload_n d_Mo_open_136 rfl)))) (os_n (os_n (os_l (so_get (C := R_Mo) (T := F_Mo) (N := 87) (j := 42) in_Mo rfl (by decide) mw_1836 d_Mo_open_137)) (os_l (so_aload_n d_Mo_open_140 rfl))) (os_n (os_l (so_get (C := R_Mo) (T := F_Mo) (N := 87) (j := 4) in_Mo rfl (by decide) mw_1798 d_Mo_open_141)) (os_l (so_aload_n d_Mo_open_144 rfl))))) (os_n (os_n (os_n (os_l (so_get (C := R_Mo) (T := F_Mo) (N := 87) (j := 37) in_Mo rfl (by decide) mw_1831 d_Mo_open_145)) (os_l (so_iload d_Mo_open_148))) (os_n (os_l (so_iaload d_Mo_open_150)) (os_l (so_iconst d_Mo_open_151 (by decide))))) (os_n (os_n (os_l (so_idiv d_Mo_open_152)) (os_l (so_iadd d_Mo_open_153))) (os_n (os_l (so_iload d_Mo_open_154)) (os_l (so_iastore d_Mo_open_156))))))) (os_n (os_n (os_n (os_n (os_l (so_iinc d_Mo_open_157 (by decide) (by decide))) (os_n (os_l (so_goto d_Mo_open_160 (by decide))) (os_l (so_iconst d_Mo_open_163 (by decide))))) (os_n (os_n (os_l (so_istore d_Mo_open_164 (by decide))) (os_l (so_iload d_Mo_open_166))) (os_n (os_l (so_aload_n d_Mo_open_168 rfl)) (os_l (so_get (C := R_Mo) (T := F_Mo) (N := 87) (j := 4) in_Mo rfl (by decide) mw_1798 d_Mo_open_169))))) (os_n (os_n (os_n (os_l (so_icge d_Mo_open_172 (by decide))) (os_l (so_aload_n d_Mo_open_175 rfl))) (os_n (os_l (so_get (C := R_Mo) (T := F_Mo) (N := 87) (j := 36) in_Mo rfl (by decide) mw_1830 d_Mo_open_176)) (os_l (so_iload d_Mo_open_179)))) (os_n (os_n (os_l (so_aload_n d_Mo_open_181 rfl)) (os_l (so_get (C := R_Mo) (T := F_Mo) (N := 87) (j := 9) in_Mo rfl (by decide) mw_1803 d_Mo_open_182))) (os_n (os_l (so_iload d_Mo_open_185)) (os_l (so_iaload d_Mo_open_187)))))) (os_n (os_n (os_n (os_l (so_iastore d_Mo_open_188)) (os_n (os_l (so_aload_n d_Mo_open_189 rfl)) (os_l (so_get (C := R_Mo) (T := F_Mo) (N := 87) (j := 9) in_Mo rfl (by decide) mw_1803 d_Mo_open_190)))) (os_n (os_n (os_l (so_iload d_Mo_open_193)) (os_l (so_aload_n d_Mo_open_195 rfl))) (os_n (os_l (so_get (C := R_Mo) (T := F_Mo) (N := 87) (j := 5) in_Mo rfl (by decide) mw_1799 d_Mo_open_196)) (os_l (so_iload d_Mo_open_199))))) (os_n (os_n (os_n (os_l (so_iaload d_Mo_open_201)) (os_l (so_iconst d_Mo_open_202 (by decide)))) (os_n (os_l (so_iclt d_Mo_open_203 (by decide))) (os_l (so_aload_n d_Mo_open_206 rfl)))) (os_n (os_n (os_l (so_get (C := R_Mo) (T := F_Mo) (N := 87) (j := 38) in_Mo rfl (by decide) mw_1832 d_Mo_open_207)) (os_l (so_iload d_Mo_open_210))) (os_n (os_l (so_iaload d_Mo_open_212)) (os_l (so_iconst d_Mo_open_213 (by decide)))))))))) (os_n (os_n (os_n (os_n (os_n (os_n (os_l (so_iceq d_Mo_open_214 (by decide))) (os_n (os_l (so_aload_n d_Mo_open_217 rfl)) (os_l (so_get (C := R_Mo) (T := F_Mo) (N := 87) (j := 38) in_Mo rfl (by decide) mw_1832 d_Mo_open_218)))) (os_n (os_n (os_l (so_iload d_Mo_open_221)) (os_l (so_iaload d_Mo_open_223))) (os_n (os_l (so_goto d_Mo_open_224 (by decide))) (os_l (so_aload_n d_Mo_open_227 rfl))))) (os_n (os_n (os_n (os_l (so_get (C := R_Mo) (T := F_Mo) (N := 87) (j := 9) in_Mo rfl (by decide) mw_1803 d_Mo_open_228)) (os_l (so_iload d_Mo_open_231))) (os_n (os_l (so_iaload d_Mo_open_233)) (os_l (so_iastore d_Mo_open_234)))) (os_n (os_n (os_l (so_iinc d_Mo_open_235 (by decide) (by decide))) (os_l (so_goto d_Mo_open_238 (by decide)))) (os_n (os_l (so_aload_n d_Mo_open_241 rfl)) (os_l (so_callV (iv := mi_Mo_isSafe) rfl rfl rfl mw_2381 mw_2383 sl_148 mw_18 mw_2384 ⟨by decide +kernel, by decide +kernel, by decide +kernel⟩ (by decide) d_Mo_open_242)))))) (os_n (os_n (os_n (os_l (so_ifne d_Mo_open_245 (by decide))) (os_n (os_l (so_iconst d_Mo_open_248 (by decide))) (os_l (so_istore d_Mo_open_249 (by decide))))) (os_n (os_n (os_l (so_iload d_Mo_open_251)) (os_l (so_aload_n d_Mo_open_253 rfl))) (os_n (os_l (so_get (C := R_Mo) (T := F_Mo) (N := 87) (j := 4) in_Mo rfl (by decide) mw_1798 d_Mo_open_254)) (os_l (so_icge d_Mo_open_257 (by decide)))))) (os_n (os_n (os_n (os_l (so_aload_n d_Mo_open_260 rfl)) (os_l (so_get (C := R_Mo) (T := F_Mo) (N := 87) (j := 9) in_Mo rfl (by decide) mw_1803 d_Mo_open_261))) (os_n (os_l (so_iload d_Mo_open_264)) (os_l (so_aload_n d_Mo_open_266 rfl)))) (os_n (os_n (os_l (so_get (C := R_Mo) (T := F_Mo) (N := 87) (j := 36) in_Mo rfl (by decide) mw_1830 d_Mo_open_267)) (os_l (so_iload d_Mo_open_270))) (os_n (os_l (so_iaload d_Mo_open_272)) (os_l (so_iastore d_Mo_open_273))))))) (os_n (os_n (os_n (os_n (os_l (so_iinc d_Mo_open_274 (by decide) (by decide))) (os_n (os_l (so_goto d_Mo_open_277 (by decide))) (os_l (so_bipush d_Mo_open_280 (by decide))))) (os_n (os_n (os_l (so_ireturn rfl d_Mo_open_282)) (os_l (so_aload_n d_Mo_open_283 rfl))) (os_n (os_l (so_get (C := R_Mo) (T := F_Mo) (N := 87) (j := 27) in_Mo rfl (by decide) mw_1821 d_Mo_open_284)) (os_l (so_aload_n d_Mo_open_287 rfl))))) (os_n (os_n (os_n (os_l (so_get (C := R_Mo) (T := F_Mo) (N := 87) (j := 26) in_Mo rfl (by decide) mw_1820 d_Mo_open_288)) (os_l (so_iload_n d_Mo_open_291 rfl))) (os_n (os_l (so_iastore d_Mo_open_292)) (os_l (so_aload_n d_Mo_open_293 rfl)))) (os_n (os_n (os_l (so_get (C := R_Mo) (T := F_Mo) (N := 87) (j := 28) in_Mo rfl (by decide) mw_1822 d_Mo_open_294)) (os_l (so_aload_n d_Mo_open_297 rfl))) (os_n (os_l (so_get (C := R_Mo) (T := F_Mo) (N := 87) (j := 26) in_Mo rfl (by decide) mw_1820 d_Mo_open_298)) (os_l (so_iload_n d_Mo_open_301 rfl)))))) (os_n (os_n (os_n (os_l (so_iastore d_Mo_open_302)) (os_n (os_l (so_aload_n d_Mo_open_303 rfl)) (os_l (so_get (C := R_Mo) (T := F_Mo) (N := 87) (j := 29) in_Mo rfl (by decide) mw_1823 d_Mo_open_304)))) (os_n (os_n (os_l (so_aload_n d_Mo_open_307 rfl)) (os_l (so_get (C := R_Mo) (T := F_Mo) (N := 87) (j := 26) in_Mo rfl (by decide) mw_1820 d_Mo_open_308))) (os_n (os_l (so_iload d_Mo_open_311)) (os_l (so_iastore d_Mo_open_313))))) (os_n (os_n (os_n (os_l (so_aload_n d_Mo_open_314 rfl)) (os_l (so_get (C := R_Mo) (T := F_Mo) (N := 87) (j := 30) in_Mo rfl (by decide) mw_1824 d_Mo_open_315))) (os_n (os_l (so_aload_n d_Mo_open_318 rfl)) (os_l (so_get (C := R_Mo) (T := F_Mo) (N := 87) (j := 26) in_Mo rfl (by decide) mw_1820 d_Mo_open_319)))) (os_n (os_n (os_l (so_iload_n d_Mo_open_322 rfl)) (os_l (so_iastore d_Mo_open_323))) (os_n (os_l (so_aload_n d_Mo_open_324 rfl)) (os_l (so_get (C := R_Mo) (T := F_Mo) (N := 87) (j := 31) in_Mo rfl (by decide) mw_1825 d_Mo_open_325)))))))) (os_n (os_n (os_n (os_n (os_n (os_l (so_aload_n d_Mo_open_328 rfl)) (os_n (os_l (so_get (C := R_Mo) (T := F_Mo) (N := 87) (j := 26) in_Mo rfl (by decide) mw_1820 d_Mo_open_329)) (os_l (so_aload_n d_Mo_open_332 rfl)))) (os_n (os_n (os_l (so_get (C := R_Mo) (T := F_Mo) (N := 87) (j := 39) in_Mo rfl (by decide) mw_1833 d_Mo_open_333)) (os_l (so_iastore d_Mo_open_336))) (os_n (os_l (so_iconst d_Mo_open_337 (by decide))) (os_l (so_istore d_Mo_open_338 (by decide)))))) (os_n (os_n (os_n (os_l (so_iload d_Mo_open_340)) (os_l (so_aload_n d_Mo_open_342 rfl))) (os_n (os_l (so_get (C := R_Mo) (T := F_Mo) (N := 87) (j := 39) in_Mo rfl (by decide) mw_1833 d_Mo_open_343)) (os_l (so_icge d_Mo_open_346 (by decide))))) (os_n (os_n (os_l (so_aload_n d_Mo_open_349 rfl)) (os_l (so_get (C := R_Mo) (T := F_Mo) (N := 87) (j := 32) in_Mo rfl (by decide) mw_1826 d_Mo_open_350))) (os_n (os_l (so_bipush d_Mo_open_353 (by decide))) (os_l (so_aload_n d_Mo_open_355 rfl)))))) (os_n (os_n (os_n (os_l (so_get (C := R_Mo) (T := F_Mo) (N := 87) (j := 26) in_Mo rfl (by decide) mw_1820 d_Mo_open_356)) (os_n (os_l (so_imul d_Mo_open_359)) (os_l (so_iload d_Mo_open_360)))) (os_n (os_n (os_l (so_iadd d_Mo_open_362)) (os_l (so_aload_n d_Mo_open_363 rfl))) (os_n (os_l (so_get (C := R_Mo) (T := F_Mo) (N := 87) (j := 37) in_Mo rfl (by decide) mw_1831 d_Mo_open_364)) (os_l (so_iload d_Mo_open_367))))) (os_n (os_n (os_n (os_l (so_iaload d_Mo_open_369)) (os_l (so_iastore d_Mo_open_370))) (os_n (os_l (so_iinc d_Mo_open_371 (by decide) (by decide))) (os_l (so_goto d_Mo_open_374 (by decide))))) (os_n (os_n (os_l (so_iconst d_Mo_open_377 (by decide))) (os_l (so_istore d_Mo_open_378 (by decide)))) (os_n (os_l (so_iload d_Mo_open_380)) (os_l (so_bipush d_Mo_open_382 (by decide)))))))) (os_n (os_n (os_n (os_n (os_l (so_icge d_Mo_open_384 (by decide))) (os_n (os_l (so_aload_n d_Mo_open_387 rfl)) (os_l (so_get (C := R_Mo) (T := F_Mo) (N := 87) (j := 33) in_Mo rfl (by decide) mw_1827 d_Mo_open_388)))) (os_n (os_n (os_l (so_bipush d_Mo_open_391 (by decide))) (os_l (so_aload_n d_Mo_open_393 rfl))) (os_n (os_l (so_get (C := R_Mo) (T := F_Mo) (N := 87) (j := 26) in_Mo rfl (by decide) mw_1820 d_Mo_open_394)) (os_l (so_imul d_Mo_open_397))))) (os_n (os_n (os_n (os_l (so_iload d_Mo_open_398)) (os_l (so_iadd d_Mo_open_400))) (os_n (os_l (so_iload d_Mo_open_401)) (os_l (so_aload_n d_Mo_open_403 rfl)))) (os_n (os_n (os_l (so_get (C := R_Mo) (T := F_Mo) (N := 87) (j := 4) in_Mo rfl (by decide) mw_1798 d_Mo_open_404)) (os_l (so_icge d_Mo_open_407 (by decide)))) (os_n (os_l (so_aload_n d_Mo_open_410 rfl)) (os_l (so_get (C := R_Mo) (T := F_Mo) (N := 87) (j := 38) in_Mo rfl (by decide) mw_1832 d_Mo_open_411)))))) (os_n (os_n (os_n (os_l (so_iload d_Mo_open_414)) (os_n (os_l (so_iaload d_Mo_open_416)) (os_l (so_goto d_Mo_open_417 (by decide))))) (os_n (os_n (os_l (so_iconst d_Mo_open_420 (by decide))) (os_l (so_iastore d_Mo_open_421))) (os_n (os_l (so_iinc d_Mo_open_422 (by decide) (by decide))) (os_l (so_goto d_Mo_open_425 (by decide)))))) (os_n (os_n (os_n (os_l (so_aload_n d_Mo_open_428 rfl)) (os_l (so_dup d_Mo_open_429))) (os_n (os_l (so_get (C := R_Mo) (T := F_Mo) (N := 87) (j := 26) in_Mo rfl (by decide) mw_1820 d_Mo_open_430)) (os_l (so_iconst d_Mo_open_433 (by decide))))) (os_n (os_n (os_l (so_iadd d_Mo_open_434)) (os_l (so_putI (C := R_Mo) (T := F_Mo) (N := 87) (j := 26) in_Mo t_Mo_ok n_Mo rfl (by decide) mw_1820 rfl (by decide +kernel) d_Mo_open_435))) (os_n (os_l (so_iconst d_Mo_open_438 (by decide))) (os_l (so_ireturn rfl d_Mo_open_439))))))))))
abbrev t_Mo_close_267 : List UInt8 := 177 :: []
abbrev t_Mo_close_264 : List UInt8 := 181 :: 1 :: 28 :: t_Mo_close_267
abbrev t_Mo_close_263 : List UInt8 := 100 :: t_Mo_close_264
abbrev t_Mo_close_262 : List UInt8 := 4 :: t_Mo_close_263
abbrev t_Mo_close_259 : List UInt8 := 180 :: 1 :: 28 :: t_Mo_close_262
abbrev t_Mo_close_258 : List UInt8 := 89 :: t_Mo_close_259
abbrev t_Mo_close_257 : List UInt8 := 42 :: t_Mo_close_258
abbrev t_Mo_close_254 : List UInt8 := 167 :: 255 :: 97 :: t_Mo_close_257
abbrev t_Mo_close_251 : List UInt8 := 132 :: 2 :: 1 :: t_Mo_close_254
abbrev t_Mo_close_248 : List UInt8 := 167 :: 255 :: 223 :: t_Mo_close_251
abbrev t_Mo_close_245 : List UInt8 := 132 :: 3 :: 1 :: t_Mo_close_248
abbrev t_Mo_close_244 : List UInt8 := 79 :: t_Mo_close_245
abbrev t_Mo_close_243 : List UInt8 := 46 :: t_Mo_close_244
abbrev t_Mo_close_242 : List UInt8 := 96 :: t_Mo_close_243
abbrev t_Mo_close_241 : List UInt8 := 29 :: t_Mo_close_242
abbrev t_Mo_close_240 : List UInt8 := 104 :: t_Mo_close_241
abbrev t_Mo_close_239 : List UInt8 := 96 :: t_Mo_close_240
abbrev t_Mo_close_238 : List UInt8 := 4 :: t_Mo_close_239
abbrev t_Mo_close_237 : List UInt8 := 28 :: t_Mo_close_238
abbrev t_Mo_close_235 : List UInt8 := 16 :: 20 :: t_Mo_close_237
abbrev t_Mo_close_232 : List UInt8 := 180 :: 0 :: 101 :: t_Mo_close_235
abbrev t_Mo_close_231 : List UInt8 := 42 :: t_Mo_close_232
abbrev t_Mo_close_230 : List UInt8 := 96 :: t_Mo_close_231
abbrev t_Mo_close_229 : List UInt8 := 29 :: t_Mo_close_230
abbrev t_Mo_close_228 : List UInt8 := 104 :: t_Mo_close_229
abbrev t_Mo_close_227 : List UInt8 := 28 :: t_Mo_close_228
abbrev t_Mo_close_225 : List UInt8 := 16 :: 20 :: t_Mo_close_227
abbrev t_Mo_close_222 : List UInt8 := 180 :: 0 :: 101 :: t_Mo_close_225
abbrev t_Mo_close_221 : List UInt8 := 42 :: t_Mo_close_222
abbrev t_Mo_close_218 : List UInt8 := 162 :: 0 :: 33 :: t_Mo_close_221
abbrev t_Mo_close_216 : List UInt8 := 16 :: 20 :: t_Mo_close_218
abbrev t_Mo_close_215 : List UInt8 := 29 :: t_Mo_close_216
abbrev t_Mo_close_214 : List UInt8 := 62 :: t_Mo_close_215
abbrev t_Mo_close_213 : List UInt8 := 3 :: t_Mo_close_214
abbrev t_Mo_close_210 : List UInt8 := 167 :: 255 :: 223 :: t_Mo_close_213
abbrev t_Mo_close_207 : List UInt8 := 132 :: 3 :: 1 :: t_Mo_close_210
abbrev t_Mo_close_206 : List UInt8 := 79 :: t_Mo_close_207
abbrev t_Mo_close_205 : List UInt8 := 46 :: t_Mo_close_206
abbrev t_Mo_close_204 : List UInt8 := 96 :: t_Mo_close_205
abbrev t_Mo_close_203 : List UInt8 := 29 :: t_Mo_close_204
abbrev t_Mo_close_202 : List UInt8 := 104 :: t_Mo_close_203
abbrev t_Mo_close_201 : List UInt8 := 96 :: t_Mo_close_202
abbrev t_Mo_close_200 : List UInt8 := 4 :: t_Mo_close_201
abbrev t_Mo_close_199 : List UInt8 := 28 :: t_Mo_close_200
abbrev t_Mo_close_197 : List UInt8 := 16 :: 24 :: t_Mo_close_199
abbrev t_Mo_close_194 : List UInt8 := 180 :: 0 :: 98 :: t_Mo_close_197
abbrev t_Mo_close_193 : List UInt8 := 42 :: t_Mo_close_194
abbrev t_Mo_close_192 : List UInt8 := 96 :: t_Mo_close_193
abbrev t_Mo_close_191 : List UInt8 := 29 :: t_Mo_close_192
abbrev t_Mo_close_190 : List UInt8 := 104 :: t_Mo_close_191
abbrev t_Mo_close_189 : List UInt8 := 28 :: t_Mo_close_190
abbrev t_Mo_close_187 : List UInt8 := 16 :: 24 :: t_Mo_close_189
abbrev t_Mo_close_184 : List UInt8 := 180 :: 0 :: 98 :: t_Mo_close_187
abbrev t_Mo_close_183 : List UInt8 := 42 :: t_Mo_close_184
abbrev t_Mo_close_180 : List UInt8 := 162 :: 0 :: 33 :: t_Mo_close_183
abbrev t_Mo_close_178 : List UInt8 := 16 :: 24 :: t_Mo_close_180
abbrev t_Mo_close_177 : List UInt8 := 29 :: t_Mo_close_178
abbrev t_Mo_close_176 : List UInt8 := 62 :: t_Mo_close_177
abbrev t_Mo_close_175 : List UInt8 := 3 :: t_Mo_close_176
abbrev t_Mo_close_174 : List UInt8 := 79 :: t_Mo_close_175
abbrev t_Mo_close_173 : List UInt8 := 46 :: t_Mo_close_174
abbrev t_Mo_close_172 : List UInt8 := 96 :: t_Mo_close_173
abbrev t_Mo_close_171 : List UInt8 := 4 :: t_Mo_close_172
abbrev t_Mo_close_170 : List UInt8 := 28 :: t_Mo_close_171
abbrev t_Mo_close_167 : List UInt8 := 180 :: 0 :: 95 :: t_Mo_close_170
abbrev t_Mo_close_166 : List UInt8 := 42 :: t_Mo_close_167
abbrev t_Mo_close_165 : List UInt8 := 28 :: t_Mo_close_166
abbrev t_Mo_close_162 : List UInt8 := 180 :: 0 :: 95 :: t_Mo_close_165
abbrev t_Mo_close_161 : List UInt8 := 42 :: t_Mo_close_162
abbrev t_Mo_close_160 : List UInt8 := 79 :: t_Mo_close_161
abbrev t_Mo_close_159 : List UInt8 := 46 :: t_Mo_close_160
abbrev t_Mo_close_158 : List UInt8 := 96 :: t_Mo_close_159
abbrev t_Mo_close_157 : List UInt8 := 4 :: t_Mo_close_158
abbrev t_Mo_close_156 : List UInt8 := 28 :: t_Mo_close_157
abbrev t_Mo_close_153 : List UInt8 := 180 :: 0 :: 92 :: t_Mo_close_156
abbrev t_Mo_close_152 : List UInt8 := 42 :: t_Mo_close_153
abbrev t_Mo_close_151 : List UInt8 := 28 :: t_Mo_close_152
abbrev t_Mo_close_148 : List UInt8 := 180 :: 0 :: 92 :: t_Mo_close_151
abbrev t_Mo_close_147 : List UInt8 := 42 :: t_Mo_close_148
abbrev t_Mo_close_146 : List UInt8 := 79 :: t_Mo_close_147
abbrev t_Mo_close_145 : List UInt8 := 46 :: t_Mo_close_146
abbrev t_Mo_close_144 : List UInt8 := 96 :: t_Mo_close_145
abbrev t_Mo_close_143 : List UInt8 := 4 :: t_Mo_close_144
abbrev t_Mo_close_142 : List UInt8 := 28 :: t_Mo_close_143
abbrev t_Mo_close_139 : List UInt8 := 180 :: 0 :: 89 :: t_Mo_close_142
abbrev t_Mo_close_138 : List UInt8 := 42 :: t_Mo_close_139
abbrev t_Mo_close_137 : List UInt8 := 28 :: t_Mo_close_138
abbrev t_Mo_close_134 : List UInt8 := 180 :: 0 :: 89 :: t_Mo_close_137
abbrev t_Mo_close_133 : List UInt8 := 42 :: t_Mo_close_134
abbrev t_Mo_close_132 : List UInt8 := 79 :: t_Mo_close_133
abbrev t_Mo_close_131 : List UInt8 := 46 :: t_Mo_close_132
abbrev t_Mo_close_130 : List UInt8 := 96 :: t_Mo_close_131
abbrev t_Mo_close_129 : List UInt8 := 4 :: t_Mo_close_130
abbrev t_Mo_close_128 : List UInt8 := 28 :: t_Mo_close_129
abbrev t_Mo_close_125 : List UInt8 := 180 :: 0 :: 86 :: t_Mo_close_128
abbrev t_Mo_close_124 : List UInt8 := 42 :: t_Mo_close_125
abbrev t_Mo_close_123 : List UInt8 := 28 :: t_Mo_close_124
abbrev t_Mo_close_120 : List UInt8 := 180 :: 0 :: 86 :: t_Mo_close_123
abbrev t_Mo_close_119 : List UInt8 := 42 :: t_Mo_close_120
abbrev t_Mo_close_118 : List UInt8 := 79 :: t_Mo_close_119
abbrev t_Mo_close_117 : List UInt8 := 46 :: t_Mo_close_118
abbrev t_Mo_close_116 : List UInt8 := 96 :: t_Mo_close_117
abbrev t_Mo_close_115 : List UInt8 := 4 :: t_Mo_close_116
abbrev t_Mo_close_114 : List UInt8 := 28 :: t_Mo_close_115
abbrev t_Mo_close_111 : List UInt8 := 180 :: 0 :: 83 :: t_Mo_close_114
abbrev t_Mo_close_110 : List UInt8 := 42 :: t_Mo_close_111
abbrev t_Mo_close_109 : List UInt8 := 28 :: t_Mo_close_110
abbrev t_Mo_close_106 : List UInt8 := 180 :: 0 :: 83 :: t_Mo_close_109
abbrev t_Mo_close_105 : List UInt8 := 42 :: t_Mo_close_106
abbrev t_Mo_close_102 : List UInt8 := 162 :: 0 :: 155 :: t_Mo_close_105
abbrev t_Mo_close_99 : List UInt8 := 180 :: 1 :: 28 :: t_Mo_close_102
abbrev t_Mo_close_98 : List UInt8 := 42 :: t_Mo_close_99
abbrev t_Mo_close_97 : List UInt8 := 96 :: t_Mo_close_98
abbrev t_Mo_close_96 : List UInt8 := 4 :: t_Mo_close_97
abbrev t_Mo_close_95 : List UInt8 := 28 :: t_Mo_close_96
abbrev t_Mo_close_94 : List UInt8 := 61 :: t_Mo_close_95
abbrev t_Mo_close_93 : List UInt8 := 27 :: t_Mo_close_94
abbrev t_Mo_close_90 : List UInt8 := 167 :: 255 :: 168 :: t_Mo_close_93
abbrev t_Mo_close_87 : List UInt8 := 132 :: 2 :: 1 :: t_Mo_close_90
abbrev t_Mo_close_86 : List UInt8 := 79 :: t_Mo_close_87
abbrev t_Mo_close_85 : List UInt8 := 3 :: t_Mo_close_86
abbrev t_Mo_close_82 : List UInt8 := 167 :: 0 :: 4 :: t_Mo_close_85
abbrev t_Mo_close_81 : List UInt8 := 5 :: t_Mo_close_82
abbrev t_Mo_close_78 : List UInt8 := 160 :: 0 :: 7 :: t_Mo_close_81
abbrev t_Mo_close_77 : List UInt8 := 6 :: t_Mo_close_78
abbrev t_Mo_close_76 : List UInt8 := 46 :: t_Mo_close_77
abbrev t_Mo_close_75 : List UInt8 := 28 :: t_Mo_close_76
abbrev t_Mo_close_72 : List UInt8 := 180 :: 0 :: 27 :: t_Mo_close_75
abbrev t_Mo_close_71 : List UInt8 := 42 :: t_Mo_close_72
abbrev t_Mo_close_70 : List UInt8 := 28 :: t_Mo_close_71
abbrev t_Mo_close_67 : List UInt8 := 180 :: 0 :: 40 :: t_Mo_close_70
abbrev t_Mo_close_66 : List UInt8 := 42 :: t_Mo_close_67
abbrev t_Mo_close_63 : List UInt8 := 160 :: 0 :: 24 :: t_Mo_close_66
abbrev t_Mo_close_62 : List UInt8 := 2 :: t_Mo_close_63
abbrev t_Mo_close_59 : List UInt8 := 182 :: 1 :: 121 :: t_Mo_close_62
abbrev t_Mo_close_58 : List UInt8 := 28 :: t_Mo_close_59
abbrev t_Mo_close_57 : List UInt8 := 42 :: t_Mo_close_58
abbrev t_Mo_close_54 : List UInt8 := 153 :: 0 :: 33 :: t_Mo_close_57
abbrev t_Mo_close_53 : List UInt8 := 29 :: t_Mo_close_54
abbrev t_Mo_close_52 : List UInt8 := 79 :: t_Mo_close_53
abbrev t_Mo_close_51 : List UInt8 := 2 :: t_Mo_close_52
abbrev t_Mo_close_50 : List UInt8 := 96 :: t_Mo_close_51
abbrev t_Mo_close_49 : List UInt8 := 28 :: t_Mo_close_50
abbrev t_Mo_close_48 : List UInt8 := 104 :: t_Mo_close_49
abbrev t_Mo_close_47 : List UInt8 := 27 :: t_Mo_close_48
abbrev t_Mo_close_45 : List UInt8 := 16 :: 20 :: t_Mo_close_47
abbrev t_Mo_close_42 : List UInt8 := 180 :: 0 :: 101 :: t_Mo_close_45
abbrev t_Mo_close_41 : List UInt8 := 42 :: t_Mo_close_42
abbrev t_Mo_close_40 : List UInt8 := 62 :: t_Mo_close_41
abbrev t_Mo_close_39 : List UInt8 := 3 :: t_Mo_close_40
abbrev t_Mo_close_36 : List UInt8 := 167 :: 0 :: 4 :: t_Mo_close_39
abbrev t_Mo_close_35 : List UInt8 := 4 :: t_Mo_close_36
abbrev t_Mo_close_32 : List UInt8 := 161 :: 0 :: 7 :: t_Mo_close_35
abbrev t_Mo_close_31 : List UInt8 := 5 :: t_Mo_close_32
abbrev t_Mo_close_30 : List UInt8 := 46 :: t_Mo_close_31
abbrev t_Mo_close_29 : List UInt8 := 28 :: t_Mo_close_30
abbrev t_Mo_close_26 : List UInt8 := 180 :: 0 :: 27 :: t_Mo_close_29
abbrev t_Mo_close_25 : List UInt8 := 42 :: t_Mo_close_26
abbrev t_Mo_close_22 : List UInt8 := 159 :: 0 :: 17 :: t_Mo_close_25
abbrev t_Mo_close_21 : List UInt8 := 2 :: t_Mo_close_22
abbrev t_Mo_close_20 : List UInt8 := 46 :: t_Mo_close_21
abbrev t_Mo_close_19 : List UInt8 := 96 :: t_Mo_close_20
abbrev t_Mo_close_18 : List UInt8 := 28 :: t_Mo_close_19
abbrev t_Mo_close_17 : List UInt8 := 104 :: t_Mo_close_18
abbrev t_Mo_close_16 : List UInt8 := 27 :: t_Mo_close_17
abbrev t_Mo_close_14 : List UInt8 := 16 :: 20 :: t_Mo_close_16
abbrev t_Mo_close_11 : List UInt8 := 180 :: 0 :: 101 :: t_Mo_close_14
abbrev t_Mo_close_10 : List UInt8 := 42 :: t_Mo_close_11
abbrev t_Mo_close_7 : List UInt8 := 162 :: 0 :: 86 :: t_Mo_close_10
abbrev t_Mo_close_4 : List UInt8 := 180 :: 1 :: 22 :: t_Mo_close_7
abbrev t_Mo_close_3 : List UInt8 := 42 :: t_Mo_close_4
abbrev t_Mo_close_2 : List UInt8 := 28 :: t_Mo_close_3
abbrev t_Mo_close_1 : List UInt8 := 61 :: t_Mo_close_2
abbrev t_Mo_close_0 : List UInt8 := 3 :: t_Mo_close_1
theorem a_Mo_close_0 : dk_at b_Mo_close 0 t_Mo_close_0 := dk_start (by decide +kernel)
theorem a_Mo_close_1 : dk_at b_Mo_close 1 t_Mo_close_1 := dk_go 1 a_Mo_close_0 rfl
theorem a_Mo_close_2 : dk_at b_Mo_close 2 t_Mo_close_2 := dk_go 1 a_Mo_close_1 rfl
theorem a_Mo_close_3 : dk_at b_Mo_close 3 t_Mo_close_3 := dk_go 1 a_Mo_close_2 rfl
theorem a_Mo_close_4 : dk_at b_Mo_close 4 t_Mo_close_4 := dk_go 1 a_Mo_close_3 rfl
theorem a_Mo_close_7 : dk_at b_Mo_close 7 t_Mo_close_7 := dk_go 3 a_Mo_close_4 rfl
theorem a_Mo_close_10 : dk_at b_Mo_close 10 t_Mo_close_10 := dk_go 3 a_Mo_close_7 rfl
theorem a_Mo_close_11 : dk_at b_Mo_close 11 t_Mo_close_11 := dk_go 1 a_Mo_close_10 rfl
theorem a_Mo_close_14 : dk_at b_Mo_close 14 t_Mo_close_14 := dk_go 3 a_Mo_close_11 rfl
theorem a_Mo_close_16 : dk_at b_Mo_close 16 t_Mo_close_16 := dk_go 2 a_Mo_close_14 rfl
theorem a_Mo_close_17 : dk_at b_Mo_close 17 t_Mo_close_17 := dk_go 1 a_Mo_close_16 rfl
theorem a_Mo_close_18 : dk_at b_Mo_close 18 t_Mo_close_18 := dk_go 1 a_Mo_close_17 rfl
theorem a_Mo_close_19 : dk_at b_Mo_close 19 t_Mo_close_19 := dk_go 1 a_Mo_close_18 rfl
theorem a_Mo_close_20 : dk_at b_Mo_close 20 t_Mo_close_20 := dk_go 1 a_Mo_close_19 rfl
theorem a_Mo_close_21 : dk_at b_Mo_close 21 t_Mo_close_21 := dk_go 1 a_Mo_close_20 rfl
theorem a_Mo_close_22 : dk_at b_Mo_close 22 t_Mo_close_22 := dk_go 1 a_Mo_close_21 rfl
theorem a_Mo_close_25 : dk_at b_Mo_close 25 t_Mo_close_25 := dk_go 3 a_Mo_close_22 rfl
theorem a_Mo_close_26 : dk_at b_Mo_close 26 t_Mo_close_26 := dk_go 1 a_Mo_close_25 rfl
theorem a_Mo_close_29 : dk_at b_Mo_close 29 t_Mo_close_29 := dk_go 3 a_Mo_close_26 rfl
theorem a_Mo_close_30 : dk_at b_Mo_close 30 t_Mo_close_30 := dk_go 1 a_Mo_close_29 rfl
theorem a_Mo_close_31 : dk_at b_Mo_close 31 t_Mo_close_31 := dk_go 1 a_Mo_close_30 rfl
theorem a_Mo_close_32 : dk_at b_Mo_close 32 t_Mo_close_32 := dk_go 1 a_Mo_close_31 rfl
theorem a_Mo_close_35 : dk_at b_Mo_close 35 t_Mo_close_35 := dk_go 3 a_Mo_close_32 rfl
theorem a_Mo_close_36 : dk_at b_Mo_close 36 t_Mo_close_36 := dk_go 1 a_Mo_close_35 rfl
theorem a_Mo_close_39 : dk_at b_Mo_close 39 t_Mo_close_39 := dk_go 3 a_Mo_close_36 rfl
theorem a_Mo_close_40 : dk_at b_Mo_close 40 t_Mo_close_40 := dk_go 1 a_Mo_close_39 rfl
theorem a_Mo_close_41 : dk_at b_Mo_close 41 t_Mo_close_41 := dk_go 1 a_Mo_close_40 rfl
theorem a_Mo_close_42 : dk_at b_Mo_close 42 t_Mo_close_42 := dk_go 1 a_Mo_close_41 rfl
theorem a_Mo_close_45 : dk_at b_Mo_close 45 t_Mo_close_45 := dk_go 3 a_Mo_close_42 rfl
theorem a_Mo_close_47 : dk_at b_Mo_close 47 t_Mo_close_47 := dk_go 2 a_Mo_close_45 rfl
theorem a_Mo_close_48 : dk_at b_Mo_close 48 t_Mo_close_48 := dk_go 1 a_Mo_close_47 rfl
theorem a_Mo_close_49 : dk_at b_Mo_close 49 t_Mo_close_49 := dk_go 1 a_Mo_close_48 rfl
theorem a_Mo_close_50 : dk_at b_Mo_close 50 t_Mo_close_50 := dk_go 1 a_Mo_close_49 rfl
theorem a_Mo_close_51 : dk_at b_Mo_close 51 t_Mo_close_51 := dk_go 1 a_Mo_close_50 rfl
theorem a_Mo_close_52 : dk_at b_Mo_close 52 t_Mo_close_52 := dk_go 1 a_Mo_close_51 rfl
theorem a_Mo_close_53 : dk_at b_Mo_close 53 t_Mo_close_53 := dk_go 1 a_Mo_close_52 rfl
theorem a_Mo_close_54 : dk_at b_Mo_close 54 t_Mo_close_54 := dk_go 1 a_Mo_close_53 rfl
theorem a_Mo_close_57 : dk_at b_Mo_close 57 t_Mo_close_57 := dk_go 3 a_Mo_close_54 rfl
theorem a_Mo_close_58 : dk_at b_Mo_close 58 t_Mo_close_58 := dk_go 1 a_Mo_close_57 rfl
theorem a_Mo_close_59 : dk_at b_Mo_close 59 t_Mo_close_59 := dk_go 1 a_Mo_close_58 rfl
theorem a_Mo_close_62 : dk_at b_Mo_close 62 t_Mo_close_62 := dk_go 3 a_Mo_close_59 rfl
theorem a_Mo_close_63 : dk_at b_Mo_close 63 t_Mo_close_63 := dk_go 1 a_Mo_close_62 rfl
theorem a_Mo_close_66 : dk_at b_Mo_close 66 t_Mo_close_66 := dk_go 3 a_Mo_close_63 rfl
theorem a_Mo_close_67 : dk_at b_Mo_close 67 t_Mo_close_67 := dk_go 1 a_Mo_close_66 rfl
theorem a_Mo_close_70 : dk_at b_Mo_close 70 t_Mo_close_70 := dk_go 3 a_Mo_close_67 rfl
theorem a_Mo_close_71 : dk_at b_Mo_close 71 t_Mo_close_71 := dk_go 1 a_Mo_close_70 rfl
theorem a_Mo_close_72 : dk_at b_Mo_close 72 t_Mo_close_72 := dk_go 1 a_Mo_close_71 rfl
theorem a_Mo_close_75 : dk_at b_Mo_close 75 t_Mo_close_75 := dk_go 3 a_Mo_close_72 rfl
theorem a_Mo_close_76 : dk_at b_Mo_close 76 t_Mo_close_76 := dk_go 1 a_Mo_close_75 rfl
theorem a_Mo_close_77 : dk_at b_Mo_close 77 t_Mo_close_77 := dk_go 1 a_Mo_close_76 rfl
theorem a_Mo_close_78 : dk_at b_Mo_close 78 t_Mo_close_78 := dk_go 1 a_Mo_close_77 rfl
theorem a_Mo_close_81 : dk_at b_Mo_close 81 t_Mo_close_81 := dk_go 3 a_Mo_close_78 rfl
theorem a_Mo_close_82 : dk_at b_Mo_close 82 t_Mo_close_82 := dk_go 1 a_Mo_close_81 rfl
theorem a_Mo_close_85 : dk_at b_Mo_close 85 t_Mo_close_85 := dk_go 3 a_Mo_close_82 rfl
theorem a_Mo_close_86 : dk_at b_Mo_close 86 t_Mo_close_86 := dk_go 1 a_Mo_close_85 rfl
theorem a_Mo_close_87 : dk_at b_Mo_close 87 t_Mo_close_87 := dk_go 1 a_Mo_close_86 rfl
theorem a_Mo_close_90 : dk_at b_Mo_close 90 t_Mo_close_90 := dk_go 3 a_Mo_close_87 rfl
theorem a_Mo_close_93 : dk_at b_Mo_close 93 t_Mo_close_93 := dk_go 3 a_Mo_close_90 rfl
theorem a_Mo_close_94 : dk_at b_Mo_close 94 t_Mo_close_94 := dk_go 1 a_Mo_close_93 rfl
theorem a_Mo_close_95 : dk_at b_Mo_close 95 t_Mo_close_95 := dk_go 1 a_Mo_close_94 rfl
theorem a_Mo_close_96 : dk_at b_Mo_close 96 t_Mo_close_96 := dk_go 1 a_Mo_close_95 rfl
theorem a_Mo_close_97 : dk_at b_Mo_close 97 t_Mo_close_97 := dk_go 1 a_Mo_close_96 rfl
theorem a_Mo_close_98 : dk_at b_Mo_close 98 t_Mo_close_98 := dk_go 1 a_Mo_close_97 rfl
theorem a_Mo_close_99 : dk_at b_Mo_close 99 t_Mo_close_99 := dk_go 1 a_Mo_close_98 rfl
theorem a_Mo_close_102 : dk_at b_Mo_close 102 t_Mo_close_102 := dk_go 3 a_Mo_close_99 rfl
theorem a_Mo_close_105 : dk_at b_Mo_close 105 t_Mo_close_105 := dk_go 3 a_Mo_close_102 rfl
theorem a_Mo_close_106 : dk_at b_Mo_close 106 t_Mo_close_106 := dk_go 1 a_Mo_close_105 rfl
theorem a_Mo_close_109 : dk_at b_Mo_close 109 t_Mo_close_109 := dk_go 3 a_Mo_close_106 rfl
theorem a_Mo_close_110 : dk_at b_Mo_close 110 t_Mo_close_110 := dk_go 1 a_Mo_close_109 rfl
theorem a_Mo_close_111 : dk_at b_Mo_close 111 t_Mo_close_111 := dk_go 1 a_Mo_close_110 rfl
theorem a_Mo_close_114 : dk_at b_Mo_close 114 t_Mo_close_114 := dk_go 3 a_Mo_close_111 rfl
theorem a_Mo_close_115 : dk_at b_Mo_close 115 t_Mo_close_115 := dk_go 1 a_Mo_close_114 rfl
theorem a_Mo_close_116 : dk_at b_Mo_close 116 t_Mo_close_116 := dk_go 1 a_Mo_close_115 rfl
theorem a_Mo_close_117 : dk_at b_Mo_close 117 t_Mo_close_117 := dk_go 1 a_Mo_close_116 rfl
theorem a_Mo_close_118 : dk_at b_Mo_close 118 t_Mo_close_118 := dk_go 1 a_Mo_close_117 rfl
theorem a_Mo_close_119 : dk_at b_Mo_close 119 t_Mo_close_119 := dk_go 1 a_Mo_close_118 rfl
theorem a_Mo_close_120 : dk_at b_Mo_close 120 t_Mo_close_120 := dk_go 1 a_Mo_close_119 rfl
theorem a_Mo_close_123 : dk_at b_Mo_close 123 t_Mo_close_123 := dk_go 3 a_Mo_close_120 rfl
theorem a_Mo_close_124 : dk_at b_Mo_close 124 t_Mo_close_124 := dk_go 1 a_Mo_close_123 rfl
theorem a_Mo_close_125 : dk_at b_Mo_close 125 t_Mo_close_125 := dk_go 1 a_Mo_close_124 rfl
theorem a_Mo_close_128 : dk_at b_Mo_close 128 t_Mo_close_128 := dk_go 3 a_Mo_close_125 rfl
theorem a_Mo_close_129 : dk_at b_Mo_close 129 t_Mo_close_129 := dk_go 1 a_Mo_close_128 rfl
theorem a_Mo_close_130 : dk_at b_Mo_close 130 t_Mo_close_130 := dk_go 1 a_Mo_close_129 rfl
theorem a_Mo_close_131 : dk_at b_Mo_close 131 t_Mo_close_131 := dk_go 1 a_Mo_close_130 rfl
theorem a_Mo_close_132 : dk_at b_Mo_close 132 t_Mo_close_132 := dk_go 1 a_Mo_close_131 rfl
theorem a_Mo_close_133 : dk_at b_Mo_close 133 t_Mo_close_133 := dk_go 1 a_Mo_close_132 rfl
theorem a_Mo_close_134 : dk_at b_Mo_close 134 t_Mo_close_134 := dk_go 1 a_Mo_close_133 rfl
theorem a_Mo_close_137 : dk_at b_Mo_close 137 t_Mo_close_137 := dk_go 3 a_Mo_close_134 rfl
theorem a_Mo_close_138 : dk_at b_Mo_close 138 t_Mo_close_138 := dk_go 1 a_Mo_close_137 rfl
theorem a_Mo_close_139 : dk_at b_Mo_close 139 t_Mo_close_139 := dk_go 1 a_Mo_close_138 rfl
theorem a_Mo_close_142 : dk_at b_Mo_close 142 t_Mo_close_142 := dk_go 3 a_Mo_close_139 rfl
theorem a_Mo_close_143 : dk_at b_Mo_close 143 t_Mo_close_143 := dk_go 1 a_Mo_close_142 rfl
theorem a_Mo_close_144 : dk_at b_Mo_close 144 t_Mo_close_144 := dk_go 1 a_Mo_close_143 rfl
theorem a_Mo_close_145 : dk_at b_Mo_close 145 t_Mo_close_145 := dk_go 1 a_Mo_close_144 rfl
theorem a_Mo_close_146 : dk_at b_Mo_close 146 t_Mo_close_146 := dk_go 1 a_Mo_close_145 rfl
theorem a_Mo_close_147 : dk_at b_Mo_close 147 t_Mo_close_147 := dk_go 1 a_Mo_close_146 rfl
theorem a_Mo_close_148 : dk_at b_Mo_close 148 t_Mo_close_148 := dk_go 1 a_Mo_close_147 rfl
theorem a_Mo_close_151 : dk_at b_Mo_close 151 t_Mo_close_151 := dk_go 3 a_Mo_close_148 rfl
theorem a_Mo_close_152 : dk_at b_Mo_close 152 t_Mo_close_152 := dk_go 1 a_Mo_close_151 rfl
theorem a_Mo_close_153 : dk_at b_Mo_close 153 t_Mo_close_153 := dk_go 1 a_Mo_close_152 rfl
theorem a_Mo_close_156 : dk_at b_Mo_close 156 t_Mo_close_156 := dk_go 3 a_Mo_close_153 rfl
theorem a_Mo_close_157 : dk_at b_Mo_close 157 t_Mo_close_157 := dk_go 1 a_Mo_close_156 rfl
theorem a_Mo_close_158 : dk_at b_Mo_close 158 t_Mo_close_158 := dk_go 1 a_Mo_close_157 rfl
theorem a_Mo_close_159 : dk_at b_Mo_close 159 t_Mo_close_159 := dk_go 1 a_Mo_close_158 rfl
theorem a_Mo_close_160 : dk_at b_Mo_close 160 t_Mo_close_160 := dk_go 1 a_Mo_close_159 rfl
theorem a_Mo_close_161 : dk_at b_Mo_close 161 t_Mo_close_161 := dk_go 1 a_Mo_close_160 rfl
theorem a_Mo_close_162 : dk_at b_Mo_close 162 t_Mo_close_162 := dk_go 1 a_Mo_close_161 rfl
theorem a_Mo_close_165 : dk_at b_Mo_close 165 t_Mo_close_165 := dk_go 3 a_Mo_close_162 rfl
theorem a_Mo_close_166 : dk_at b_Mo_close 166 t_Mo_close_166 := dk_go 1 a_Mo_close_165 rfl
theorem a_Mo_close_167 : dk_at b_Mo_close 167 t_Mo_close_167 := dk_go 1 a_Mo_close_166 rfl
theorem a_Mo_close_170 : dk_at b_Mo_close 170 t_Mo_close_170 := dk_go 3 a_Mo_close_167 rfl
theorem a_Mo_close_171 : dk_at b_Mo_close 171 t_Mo_close_171 := dk_go 1 a_Mo_close_170 rfl
theorem a_Mo_close_172 : dk_at b_Mo_close 172 t_Mo_close_172 := dk_go 1 a_Mo_close_171 rfl
theorem a_Mo_close_173 : dk_at b_Mo_close 173 t_Mo_close_173 := dk_go 1 a_Mo_close_172 rfl
theorem a_Mo_close_174 : dk_at b_Mo_close 174 t_Mo_close_174 := dk_go 1 a_Mo_close_173 rfl
theorem a_Mo_close_175 : dk_at b_Mo_close 175 t_Mo_close_175 := dk_go 1 a_Mo_close_174 rfl
theorem a_Mo_close_176 : dk_at b_Mo_close 176 t_Mo_close_176 := dk_go 1 a_Mo_close_175 rfl
theorem a_Mo_close_177 : dk_at b_Mo_close 177 t_Mo_close_177 := dk_go 1 a_Mo_close_176 rfl
theorem a_Mo_close_178 : dk_at b_Mo_close 178 t_Mo_close_178 := dk_go 1 a_Mo_close_177 rfl
theorem a_Mo_close_180 : dk_at b_Mo_close 180 t_Mo_close_180 := dk_go 2 a_Mo_close_178 rfl
theorem a_Mo_close_183 : dk_at b_Mo_close 183 t_Mo_close_183 := dk_go 3 a_Mo_close_180 rfl
theorem a_Mo_close_184 : dk_at b_Mo_close 184 t_Mo_close_184 := dk_go 1 a_Mo_close_183 rfl
theorem a_Mo_close_187 : dk_at b_Mo_close 187 t_Mo_close_187 := dk_go 3 a_Mo_close_184 rfl
theorem a_Mo_close_189 : dk_at b_Mo_close 189 t_Mo_close_189 := dk_go 2 a_Mo_close_187 rfl
theorem a_Mo_close_190 : dk_at b_Mo_close 190 t_Mo_close_190 := dk_go 1 a_Mo_close_189 rfl
theorem a_Mo_close_191 : dk_at b_Mo_close 191 t_Mo_close_191 := dk_go 1 a_Mo_close_190 rfl
theorem a_Mo_close_192 : dk_at b_Mo_close 192 t_Mo_close_192 := dk_go 1 a_Mo_close_191 rfl
theorem a_Mo_close_193 : dk_at b_Mo_close 193 t_Mo_close_193 := dk_go 1 a_Mo_close_192 rfl
theorem a_Mo_close_194 : dk_at b_Mo_close 194 t_Mo_close_194 := dk_go 1 a_Mo_close_193 rfl
theorem a_Mo_close_197 : dk_at b_Mo_close 197 t_Mo_close_197 := dk_go 3 a_Mo_close_194 rfl
theorem a_Mo_close_199 : dk_at b_Mo_close 199 t_Mo_close_199 := dk_go 2 a_Mo_close_197 rfl
theorem a_Mo_close_200 : dk_at b_Mo_close 200 t_Mo_close_200 := dk_go 1 a_Mo_close_199 rfl
theorem a_Mo_close_201 : dk_at b_Mo_close 201 t_Mo_close_201 := dk_go 1 a_Mo_close_200 rfl
theorem a_Mo_close_202 : dk_at b_Mo_close 202 t_Mo_close_202 := dk_go 1 a_Mo_close_201 rfl
theorem a_Mo_close_203 : dk_at b_Mo_close 203 t_Mo_close_203 := dk_go 1 a_Mo_close_202 rfl
theorem a_Mo_close_204 : dk_at b_Mo_close 204 t_Mo_close_204 := dk_go 1 a_Mo_close_203 rfl
theorem a_Mo_close_205 : dk_at b_Mo_close 205 t_Mo_close_205 := dk_go 1 a_Mo_close_204 rfl
theorem a_Mo_close_206 : dk_at b_Mo_close 206 t_Mo_close_206 := dk_go 1 a_Mo_close_205 rfl
theorem a_Mo_close_207 : dk_at b_Mo_close 207 t_Mo_close_207 := dk_go 1 a_Mo_close_206 rfl
theorem a_Mo_close_210 : dk_at b_Mo_close 210 t_Mo_close_210 := dk_go 3 a_Mo_close_207 rfl
theorem a_Mo_close_213 : dk_at b_Mo_close 213 t_Mo_close_213 := dk_go 3 a_Mo_close_210 rfl
theorem a_Mo_close_214 : dk_at b_Mo_close 214 t_Mo_close_214 := dk_go 1 a_Mo_close_213 rfl
theorem a_Mo_close_215 : dk_at b_Mo_close 215 t_Mo_close_215 := dk_go 1 a_Mo_close_214 rfl
theorem a_Mo_close_216 : dk_at b_Mo_close 216 t_Mo_close_216 := dk_go 1 a_Mo_close_215 rfl
theorem a_Mo_close_218 : dk_at b_Mo_close 218 t_Mo_close_218 := dk_go 2 a_Mo_close_216 rfl
theorem a_Mo_close_221 : dk_at b_Mo_close 221 t_Mo_close_221 := dk_go 3 a_Mo_close_218 rfl
theorem a_Mo_close_222 : dk_at b_Mo_close 222 t_Mo_close_222 := dk_go 1 a_Mo_close_221 rfl
theorem a_Mo_close_225 : dk_at b_Mo_close 225 t_Mo_close_225 := dk_go 3 a_Mo_close_222 rfl
theorem a_Mo_close_227 : dk_at b_Mo_close 227 t_Mo_close_227 := dk_go 2 a_Mo_close_225 rfl
theorem a_Mo_close_228 : dk_at b_Mo_close 228 t_Mo_close_228 := dk_go 1 a_Mo_close_227 rfl
theorem a_Mo_close_229 : dk_at b_Mo_close 229 t_Mo_close_229 := dk_go 1 a_Mo_close_228 rfl
theorem a_Mo_close_230 : dk_at b_Mo_close 230 t_Mo_close_230 := dk_go 1 a_Mo_close_229 rfl
theorem a_Mo_close_231 : dk_at b_Mo_close 231 t_Mo_close_231 := dk_go 1 a_Mo_close_230 rfl
theorem a_Mo_close_232 : dk_at b_Mo_close 232 t_Mo_close_232 := dk_go 1 a_Mo_close_231 rfl
theorem a_Mo_close_235 : dk_at b_Mo_close 235 t_Mo_close_235 := dk_go 3 a_Mo_close_232 rfl
theorem a_Mo_close_237 : dk_at b_Mo_close 237 t_Mo_close_237 := dk_go 2 a_Mo_close_235 rfl
theorem a_Mo_close_238 : dk_at b_Mo_close 238 t_Mo_close_238 := dk_go 1 a_Mo_close_237 rfl
theorem a_Mo_close_239 : dk_at b_Mo_close 239 t_Mo_close_239 := dk_go 1 a_Mo_close_238 rfl
theorem a_Mo_close_240 : dk_at b_Mo_close 240 t_Mo_close_240 := dk_go 1 a_Mo_close_239 rfl
theorem a_Mo_close_241 : dk_at b_Mo_close 241 t_Mo_close_241 := dk_go 1 a_Mo_close_240 rfl
theorem a_Mo_close_242 : dk_at b_Mo_close 242 t_Mo_close_242 := dk_go 1 a_Mo_close_241 rfl
theorem a_Mo_close_243 : dk_at b_Mo_close 243 t_Mo_close_243 := dk_go 1 a_Mo_close_242 rfl
theorem a_Mo_close_244 : dk_at b_Mo_close 244 t_Mo_close_244 := dk_go 1 a_Mo_close_243 rfl
theorem a_Mo_close_245 : dk_at b_Mo_close 245 t_Mo_close_245 := dk_go 1 a_Mo_close_244 rfl
theorem a_Mo_close_248 : dk_at b_Mo_close 248 t_Mo_close_248 := dk_go 3 a_Mo_close_245 rfl
theorem a_Mo_close_251 : dk_at b_Mo_close 251 t_Mo_close_251 := dk_go 3 a_Mo_close_248 rfl
theorem a_Mo_close_254 : dk_at b_Mo_close 254 t_Mo_close_254 := dk_go 3 a_Mo_close_251 rfl
theorem a_Mo_close_257 : dk_at b_Mo_close 257 t_Mo_close_257 := dk_go 3 a_Mo_close_254 rfl
theorem a_Mo_close_258 : dk_at b_Mo_close 258 t_Mo_close_258 := dk_go 1 a_Mo_close_257 rfl
theorem a_Mo_close_259 : dk_at b_Mo_close 259 t_Mo_close_259 := dk_go 1 a_Mo_close_258 rfl
theorem a_Mo_close_262 : dk_at b_Mo_close 262 t_Mo_close_262 := dk_go 3 a_Mo_close_259 rfl
theorem a_Mo_close_263 : dk_at b_Mo_close 263 t_Mo_close_263 := dk_go 1 a_Mo_close_262 rfl
theorem a_Mo_close_264 : dk_at b_Mo_close 264 t_Mo_close_264 := dk_go 1 a_Mo_close_263 rfl
theorem a_Mo_close_267 : dk_at b_Mo_close 267 t_Mo_close_267 := dk_go 3 a_Mo_close_264 rfl
theorem d_Mo_close_0 : decode b_Mo_close 0 = .ok (.iconst 0, 1) := dk_0 a_Mo_close_0 (dko_3 _)
theorem d_Mo_close_1 : decode b_Mo_close 1 = .ok (.istore_n 2, 1) := dk_0 a_Mo_close_1 (dko_61 _)
theorem d_Mo_close_2 : decode b_Mo_close 2 = .ok (.iload_n 2, 1) := dk_0 a_Mo_close_2 (dko_28 _)
theorem d_Mo_close_3 : decode b_Mo_close 3 = .ok (.aload_n 0, 1) := dk_0 a_Mo_close_3 (dko_42 _)
theorem d_Mo_close_4 : decode b_Mo_close 4 = .ok (.getfield 278, 3) := dk_U2 a_Mo_close_4 (dko_180 _) rfl
theorem d_Mo_close_7 : decode b_Mo_close 7 = .ok (.if_icmp .ge 86, 3) := dk_S2 a_Mo_close_7 (dko_162 _) (by decide +kernel)
theorem d_Mo_close_10 : decode b_Mo_close 10 = .ok (.aload_n 0, 1) := dk_0 a_Mo_close_10 (dko_42 _)
theorem d_Mo_close_11 : decode b_Mo_close 11 = .ok (.getfield 101, 3) := dk_U2 a_Mo_close_11 (dko_180 _) rfl
theorem d_Mo_close_14 : decode b_Mo_close 14 = .ok (.bipush 20, 2) := dk_S1 a_Mo_close_14 (dko_16 _) (by decide +kernel)
theorem d_Mo_close_16 : decode b_Mo_close 16 = .ok (.iload_n 1, 1) := dk_0 a_Mo_close_16 (dko_27 _)
theorem d_Mo_close_17 : decode b_Mo_close 17 = .ok (.imul, 1) := dk_0 a_Mo_close_17 (dko_104 _)
theorem d_Mo_close_18 : decode b_Mo_close 18 = .ok (.iload_n 2, 1) := dk_0 a_Mo_close_18 (dko_28 _)
theorem d_Mo_close_19 : decode b_Mo_close 19 = .ok (.iadd, 1) := dk_0 a_Mo_close_19 (dko_96 _)
theorem d_Mo_close_20 : decode b_Mo_close 20 = .ok (.iaload, 1) := dk_0 a_Mo_close_20 (dko_46 _)
theorem d_Mo_close_21 : decode b_Mo_close 21 = .ok (.iconst (-1), 1) := dk_0 a_Mo_close_21 (dko_2 _)
theorem d_Mo_close_22 : decode b_Mo_close 22 = .ok (.if_icmp .eq 17, 3) := dk_S2 a_Mo_close_22 (dko_159 _) (by decide +kernel)
theorem d_Mo_close_25 : decode b_Mo_close 25 = .ok (.aload_n 0, 1) := dk_0 a_Mo_close_25 (dko_42 _)
theorem d_Mo_close_26 : decode b_Mo_close 26 = .ok (.getfield 27, 3) := dk_U2 a_Mo_close_26 (dko_180 _) rfl
theorem d_Mo_close_29 : decode b_Mo_close 29 = .ok (.iload_n 2, 1) := dk_0 a_Mo_close_29 (dko_28 _)
theorem d_Mo_close_30 : decode b_Mo_close 30 = .ok (.iaload, 1) := dk_0 a_Mo_close_30 (dko_46 _)
theorem d_Mo_close_31 : decode b_Mo_close 31 = .ok (.iconst 2, 1) := dk_0 a_Mo_close_31 (dko_5 _)
theorem d_Mo_close_32 : decode b_Mo_close 32 = .ok (.if_icmp .lt 7, 3) := dk_S2 a_Mo_close_32 (dko_161 _) (by decide +kernel)
theorem d_Mo_close_35 : decode b_Mo_close 35 = .ok (.iconst 1, 1) := dk_0 a_Mo_close_35 (dko_4 _)
theorem d_Mo_close_36 : decode b_Mo_close 36 = .ok (.goto 4, 3) := dk_S2 a_Mo_close_36 (dko_167 _) (by decide +kernel)
theorem d_Mo_close_39 : decode b_Mo_close 39 = .ok (.iconst 0, 1) := dk_0 a_Mo_close_39 (dko_3 _)
theorem d_Mo_close_40 : decode b_Mo_close 40 = .ok (.istore_n 3, 1) := dk_0 a_Mo_close_40 (dko_62 _)
theorem d_Mo_close_41 : decode b_Mo_close 41 = .ok (.aload_n 0, 1) := dk_0 a_Mo_close_41 (dko_42 _)
theorem d_Mo_close_42 : decode b_Mo_close 42 = .ok (.getfield 101, 3) := dk_U2 a_Mo_close_42 (dko_180 _) rfl
theorem d_Mo_close_45 : decode b_Mo_close 45 = .ok (.bipush 20, 2) := dk_S1 a_Mo_close_45 (dko_16 _) (by decide +kernel)
theorem d_Mo_close_47 : decode b_Mo_close 47 = .ok (.iload_n 1, 1) := dk_0 a_Mo_close_47 (dko_27 _)
theorem d_Mo_close_48 : decode b_Mo_close 48 = .ok (.imul, 1) := dk_0 a_Mo_close_48 (dko_104 _)
theorem d_Mo_close_49 : decode b_Mo_close 49 = .ok (.iload_n 2, 1) := dk_0 a_Mo_close_49 (dko_28 _)
theorem d_Mo_close_50 : decode b_Mo_close 50 = .ok (.iadd, 1) := dk_0 a_Mo_close_50 (dko_96 _)
theorem d_Mo_close_51 : decode b_Mo_close 51 = .ok (.iconst (-1), 1) := dk_0 a_Mo_close_51 (dko_2 _)
theorem d_Mo_close_52 : decode b_Mo_close 52 = .ok (.iastore, 1) := dk_0 a_Mo_close_52 (dko_79 _)
theorem d_Mo_close_53 : decode b_Mo_close 53 = .ok (.iload_n 3, 1) := dk_0 a_Mo_close_53 (dko_29 _)
theorem d_Mo_close_54 : decode b_Mo_close 54 = .ok (.ifCond .eq 33, 3) := dk_S2 a_Mo_close_54 (dko_153 _) (by decide +kernel)
theorem d_Mo_close_57 : decode b_Mo_close 57 = .ok (.aload_n 0, 1) := dk_0 a_Mo_close_57 (dko_42 _)
theorem d_Mo_close_58 : decode b_Mo_close 58 = .ok (.iload_n 2, 1) := dk_0 a_Mo_close_58 (dko_28 _)
theorem d_Mo_close_59 : decode b_Mo_close 59 = .ok (.invokevirtual 377, 3) := dk_U2 a_Mo_close_59 (dko_182 _) rfl
theorem d_Mo_close_62 : decode b_Mo_close 62 = .ok (.iconst (-1), 1) := dk_0 a_Mo_close_62 (dko_2 _)
theorem d_Mo_close_63 : decode b_Mo_close 63 = .ok (.if_icmp .ne 24, 3) := dk_S2 a_Mo_close_63 (dko_160 _) (by decide +kernel)
theorem d_Mo_close_66 : decode b_Mo_close 66 = .ok (.aload_n 0, 1) := dk_0 a_Mo_close_66 (dko_42 _)
theorem d_Mo_close_67 : decode b_Mo_close 67 = .ok (.getfield 40, 3) := dk_U2 a_Mo_close_67 (dko_180 _) rfl
theorem d_Mo_close_70 : decode b_Mo_close 70 = .ok (.iload_n 2, 1) := dk_0 a_Mo_close_70 (dko_28 _)
theorem d_Mo_close_71 : decode b_Mo_close 71 = .ok (.aload_n 0, 1) := dk_0 a_Mo_close_71 (dko_42 _)
theorem d_Mo_close_72 : decode b_Mo_close 72 = .ok (.getfield 27, 3) := dk_U2 a_Mo_close_72 (dko_180 _) rfl
theorem d_Mo_close_75 : decode b_Mo_close 75 = .ok (.iload_n 2, 1) := dk_0 a_Mo_close_75 (dko_28 _)
theorem d_Mo_close_76 : decode b_Mo_close 76 = .ok (.iaload, 1) := dk_0 a_Mo_close_76 (dko_46 _)
theorem d_Mo_close_77 : decode b_Mo_close 77 = .ok (.iconst 3, 1) := dk_0 a_Mo_close_77 (dko_6 _)
theorem d_Mo_close_78 : decode b_Mo_close 78 = .ok (.if_icmp .ne 7, 3) := dk_S2 a_Mo_close_78 (dko_160 _) (by decide +kernel)
theorem d_Mo_close_81 : decode b_Mo_close 81 = .ok (.iconst 2, 1) := dk_0 a_Mo_close_81 (dko_5 _)
theorem d_Mo_close_82 : decode b_Mo_close 82 = .ok (.goto 4, 3) := dk_S2 a_Mo_close_82 (dko_167 _) (by decide +kernel)
theorem d_Mo_close_85 : decode b_Mo_close 85 = .ok (.iconst 0, 1) := dk_0 a_Mo_close_85 (dko_3 _)
theorem d_Mo_close_86 : decode b_Mo_close 86 = .ok (.iastore, 1) := dk_0 a_Mo_close_86 (dko_79 _)
theorem d_Mo_close_87 : decode b_Mo_close 87 = .ok (.iinc 2 1, 3) := dk_US a_Mo_close_87 (dko_132 _) (by decide +kernel)
theorem d_Mo_close_90 : decode b_Mo_close 90 = .ok (.goto (-88), 3) := dk_S2 a_Mo_close_90 (dko_167 _) (by decide +kernel)
theorem d_Mo_close_93 : decode b_Mo_close 93 = .ok (.iload_n 1, 1) := dk_0 a_Mo_close_93 (dko_27 _)
theorem d_Mo_close_94 : decode b_Mo_close 94 = .ok (.istore_n 2, 1) := dk_0 a_Mo_close_94 (dko_61 _)
theorem d_Mo_close_95 : decode b_Mo_close 95 = .ok (.iload_n 2, 1) := dk_0 a_Mo_close_95 (dko_28 _)
theorem d_Mo_close_96 : decode b_Mo_close 96 = .ok (.iconst 1, 1) := dk_0 a_Mo_close_96 (dko_4 _)
theorem d_Mo_close_97 : decode b_Mo_close 97 = .ok (.iadd, 1) := dk_0 a_Mo_close_97 (dko_96 _)
theorem d_Mo_close_98 : decode b_Mo_close 98 = .ok (.aload_n 0, 1) := dk_0 a_Mo_close_98 (dko_42 _)
theorem d_Mo_close_99 : decode b_Mo_close 99 = .ok (.getfield 284, 3) := dk_U2 a_Mo_close_99 (dko_180 _) rfl
theorem d_Mo_close_102 : decode b_Mo_close 102 = .ok (.if_icmp .ge 155, 3) := dk_S2 a_Mo_close_102 (dko_162 _) (by decide +kernel)
theorem d_Mo_close_105 : decode b_Mo_close 105 = .ok (.aload_n 0, 1) := dk_0 a_Mo_close_105 (dko_42 _)
theorem d_Mo_close_106 : decode b_Mo_close 106 = .ok (.getfield 83, 3) := dk_U2 a_Mo_close_106 (dko_180 _) rfl
theorem d_Mo_close_109 : decode b_Mo_close 109 = .ok (.iload_n 2, 1) := dk_0 a_Mo_close_109 (dko_28 _)
theorem d_Mo_close_110 : decode b_Mo_close 110 = .ok (.aload_n 0, 1) := dk_0 a_Mo_close_110 (dko_42 _)
theorem d_Mo_close_111 : decode b_Mo_close 111 = .ok (.getfield 83, 3) := dk_U2 a_Mo_close_111 (dko_180 _) rfl
theorem d_Mo_close_114 : decode b_Mo_close 114 = .ok (.iload_n 2, 1) := dk_0 a_Mo_close_114 (dko_28 _)
theorem d_Mo_close_115 : decode b_Mo_close 115 = .ok (.iconst 1, 1) := dk_0 a_Mo_close_115 (dko_4 _)
theorem d_Mo_close_116 : decode b_Mo_close 116 = .ok (.iadd, 1) := dk_0 a_Mo_close_116 (dko_96 _)
theorem d_Mo_close_117 : decode b_Mo_close 117 = .ok (.iaload, 1) := dk_0 a_Mo_close_117 (dko_46 _)
theorem d_Mo_close_118 : decode b_Mo_close 118 = .ok (.iastore, 1) := dk_0 a_Mo_close_118 (dko_79 _)
theorem d_Mo_close_119 : decode b_Mo_close 119 = .ok (.aload_n 0, 1) := dk_0 a_Mo_close_119 (dko_42 _)
theorem d_Mo_close_120 : decode b_Mo_close 120 = .ok (.getfield 86, 3) := dk_U2 a_Mo_close_120 (dko_180 _) rfl
theorem d_Mo_close_123 : decode b_Mo_close 123 = .ok (.iload_n 2, 1) := dk_0 a_Mo_close_123 (dko_28 _)
theorem d_Mo_close_124 : decode b_Mo_close 124 = .ok (.aload_n 0, 1) := dk_0 a_Mo_close_124 (dko_42 _)
theorem d_Mo_close_125 : decode b_Mo_close 125 = .ok (.getfield 86, 3) := dk_U2 a_Mo_close_125 (dko_180 _) rfl
theorem d_Mo_close_128 : decode b_Mo_close 128 = .ok (.iload_n 2, 1) := dk_0 a_Mo_close_128 (dko_28 _)
theorem d_Mo_close_129 : decode b_Mo_close 129 = .ok (.iconst 1, 1) := dk_0 a_Mo_close_129 (dko_4 _)
theorem d_Mo_close_130 : decode b_Mo_close 130 = .ok (.iadd, 1) := dk_0 a_Mo_close_130 (dko_96 _)
theorem d_Mo_close_131 : decode b_Mo_close 131 = .ok (.iaload, 1) := dk_0 a_Mo_close_131 (dko_46 _)
theorem d_Mo_close_132 : decode b_Mo_close 132 = .ok (.iastore, 1) := dk_0 a_Mo_close_132 (dko_79 _)
theorem d_Mo_close_133 : decode b_Mo_close 133 = .ok (.aload_n 0, 1) := dk_0 a_Mo_close_133 (dko_42 _)
theorem d_Mo_close_134 : decode b_Mo_close 134 = .ok (.getfield 89, 3) := dk_U2 a_Mo_close_134 (dko_180 _) rfl
theorem d_Mo_close_137 : decode b_Mo_close 137 = .ok (.iload_n 2, 1) := dk_0 a_Mo_close_137 (dko_28 _)
theorem d_Mo_close_138 : decode b_Mo_close 138 = .ok (.aload_n 0, 1) := dk_0 a_Mo_close_138 (dko_42 _)
theorem d_Mo_close_139 : decode b_Mo_close 139 = .ok (.getfield 89, 3) := dk_U2 a_Mo_close_139 (dko_180 _) rfl
theorem d_Mo_close_142 : decode b_Mo_close 142 = .ok (.iload_n 2, 1) := dk_0 a_Mo_close_142 (dko_28 _)
theorem d_Mo_close_143 : decode b_Mo_close 143 = .ok (.iconst 1, 1) := dk_0 a_Mo_close_143 (dko_4 _)
theorem d_Mo_close_144 : decode b_Mo_close 144 = .ok (.iadd, 1) := dk_0 a_Mo_close_144 (dko_96 _)
theorem d_Mo_close_145 : decode b_Mo_close 145 = .ok (.iaload, 1) := dk_0 a_Mo_close_145 (dko_46 _)
theorem d_Mo_close_146 : decode b_Mo_close 146 = .ok (.iastore, 1) := dk_0 a_Mo_close_146 (dko_79 _)
theorem d_Mo_close_147 : decode b_Mo_close 147 = .ok (.aload_n 0, 1) := dk_0 a_Mo_close_147 (dko_42 _)
theorem d_Mo_close_148 : decode b_Mo_close 148 = .ok (.getfield 92, 3) := dk_U2 a_Mo_close_148 (dko_180 _) rfl
theorem d_Mo_close_151 : decode b_Mo_close 151 = .ok (.iload_n 2, 1) := dk_0 a_Mo_close_151 (dko_28 _)
theorem d_Mo_close_152 : decode b_Mo_close 152 = .ok (.aload_n 0, 1) := dk_0 a_Mo_close_152 (dko_42 _)
theorem d_Mo_close_153 : decode b_Mo_close 153 = .ok (.getfield 92, 3) := dk_U2 a_Mo_close_153 (dko_180 _) rfl
theorem d_Mo_close_156 : decode b_Mo_close 156 = .ok (.iload_n 2, 1) := dk_0 a_Mo_close_156 (dko_28 _)
theorem d_Mo_close_157 : decode b_Mo_close 157 = .ok (.iconst 1, 1) := dk_0 a_Mo_close_157 (dko_4 _)
theorem d_Mo_close_158 : decode b_Mo_close 158 = .ok (.iadd, 1) := dk_0 a_Mo_close_158 (dko_96 _)
theorem d_Mo_close_159 : decode b_Mo_close 159 = .ok (.iaload, 1) := dk_0 a_Mo_close_159 (dko_46 _)
theorem d_Mo_close_160 : decode b_Mo_close 160 = .ok (.iastore, 1) := dk_0 a_Mo_close_160 (dko_79 _)
theorem d_Mo_close_161 : decode b_Mo_close 161 = .ok (.aload_n 0, 1) := dk_0 a_Mo_close_161 (dko_42 _)
theorem d_Mo_close_162 : decode b_Mo_close 162 = .ok (.getfield 95, 3) := dk_U2 a_Mo_close_162 (dko_180 _) rfl
theorem d_Mo_close_165 : decode b_Mo_close 165 = .ok (.iload_n 2, 1) := dk_0 a_Mo_close_165 (dko_28 _)
theorem d_Mo_close_166 : decode b_Mo_close 166 = .ok (.aload_n 0, 1) := dk_0 a_Mo_close_166 (dko_42 _)
theorem d_Mo_close_167 : decode b_Mo_close 167 = .ok (.getfield 95, 3) := dk_U2 a_Mo_close_167 (dko_180 _) rfl
theorem d_Mo_close_170 : decode b_Mo_close 170 = .ok (.iload_n 2, 1) := dk_0 a_Mo_close_170 (dko_28 _)
theorem d_Mo_close_171 : decode b_Mo_close 171 = .ok (.iconst 1, 1) := dk_0 a_Mo_close_171 (dko_4 _)
theorem d_Mo_close_172 : decode b_Mo_close 172 = .ok (.iadd, 1) := dk_0 a_Mo_close_172 (dko_96 _)
theorem d_Mo_close_173 : decode b_Mo_close 173 = .ok (.iaload, 1) := dk_0 a_Mo_close_173 (dko_46 _)
theorem d_Mo_close_174 : decode b_Mo_close 174 = .ok (.iastore, 1) := dk_0 a_Mo_close_174 (dko_79 _)
theorem d_Mo_close_175 : decode b_Mo_close 175 = .ok (.iconst 0, 1) := dk_0 a_Mo_close_175 (dko_3 _)
theorem d_Mo_close_176 : decode b_Mo_close 176 = .ok (.istore_n 3, 1) := dk_0 a_Mo_close_176 (dko_62 _)
theorem d_Mo_close_177 : decode b_Mo_close 177 = .ok (.iload_n 3, 1) := dk_0 a_Mo_close_177 (dko_29 _)
theorem d_Mo_close_178 : decode b_Mo_close 178 = .ok (.bipush 24, 2) := dk_S1 a_Mo_close_178 (dko_16 _) (by decide +kernel)
theorem d_Mo_close_180 : decode b_Mo_close 180 = .ok (.if_icmp .ge 33, 3) := dk_S2 a_Mo_close_180 (dko_162 _) (by decide +kernel)
theorem d_Mo_close_183 : decode b_Mo_close 183 = .ok (.aload_n 0, 1) := dk_0 a_Mo_close_183 (dko_42 _)
theorem d_Mo_close_184 : decode b_Mo_close 184 = .ok (.getfield 98, 3) := dk_U2 a_Mo_close_184 (dko_180 _) rfl
theorem d_Mo_close_187 : decode b_Mo_close 187 = .ok (.bipush 24, 2) := dk_S1 a_Mo_close_187 (dko_16 _) (by decide +kernel)
theorem d_Mo_close_189 : decode b_Mo_close 189 = .ok (.iload_n 2, 1) := dk_0 a_Mo_close_189 (dko_28 _)
theorem d_Mo_close_190 : decode b_Mo_close 190 = .ok (.imul, 1) := dk_0 a_Mo_close_190 (dko_104 _)
theorem d_Mo_close_191 : decode b_Mo_close 191 = .ok (.iload_n 3, 1) := dk_0 a_Mo_close_191 (dko_29 _)
theorem d_Mo_close_192 : decode b_Mo_close 192 = .ok (.iadd, 1) := dk_0 a_Mo_close_192 (dko_96 _)
theorem d_Mo_close_193 : decode b_Mo_close 193 = .ok (.aload_n 0, 1) := dk_0 a_Mo_close_193 (dko_42 _)
theorem d_Mo_close_194 : decode b_Mo_close 194 = .ok (.getfield 98, 3) := dk_U2 a_Mo_close_194 (dko_180 _) rfl
theorem d_Mo_close_197 : decode b_Mo_close 197 = .ok (.bipush 24, 2) := dk_S1 a_Mo_close_197 (dko_16 _) (by decide +kernel)
theorem d_Mo_close_199 : decode b_Mo_close 199 = .ok (.iload_n 2, 1) := dk_0 a_Mo_close_199 (dko_28 _)
theorem d_Mo_close_200 : decode b_Mo_close 200 = .ok (.iconst 1, 1) := dk_0 a_Mo_close_200 (dko_4 _)
theorem d_Mo_close_201 : decode b_Mo_close 201 = .ok (.iadd, 1) := dk_0 a_Mo_close_201 (dko_96 _)
theorem d_Mo_close_202 : decode b_Mo_close 202 = .ok (.imul, 1) := dk_0 a_Mo_close_202 (dko_104 _)
theorem d_Mo_close_203 : decode b_Mo_close 203 = .ok (.iload_n 3, 1) := dk_0 a_Mo_close_203 (dko_29 _)
theorem d_Mo_close_204 : decode b_Mo_close 204 = .ok (.iadd, 1) := dk_0 a_Mo_close_204 (dko_96 _)
theorem d_Mo_close_205 : decode b_Mo_close 205 = .ok (.iaload, 1) := dk_0 a_Mo_close_205 (dko_46 _)
theorem d_Mo_close_206 : decode b_Mo_close 206 = .ok (.iastore, 1) := dk_0 a_Mo_close_206 (dko_79 _)
theorem d_Mo_close_207 : decode b_Mo_close 207 = .ok (.iinc 3 1, 3) := dk_US a_Mo_close_207 (dko_132 _) (by decide +kernel)
theorem d_Mo_close_210 : decode b_Mo_close 210 = .ok (.goto (-33), 3) := dk_S2 a_Mo_close_210 (dko_167 _) (by decide +kernel)
theorem d_Mo_close_213 : decode b_Mo_close 213 = .ok (.iconst 0, 1) := dk_0 a_Mo_close_213 (dko_3 _)
theorem d_Mo_close_214 : decode b_Mo_close 214 = .ok (.istore_n 3, 1) := dk_0 a_Mo_close_214 (dko_62 _)
theorem d_Mo_close_215 : decode b_Mo_close 215 = .ok (.iload_n 3, 1) := dk_0 a_Mo_close_215 (dko_29 _)
theorem d_Mo_close_216 : decode b_Mo_close 216 = .ok (.bipush 20, 2) := dk_S1 a_Mo_close_216 (dko_16 _) (by decide +kernel)
theorem d_Mo_close_218 : decode b_Mo_close 218 = .ok (.if_icmp .ge 33, 3) := dk_S2 a_Mo_close_218 (dko_162 _) (by decide +kernel)
theorem d_Mo_close_221 : decode b_Mo_close 221 = .ok (.aload_n 0, 1) := dk_0 a_Mo_close_221 (dko_42 _)
theorem d_Mo_close_222 : decode b_Mo_close 222 = .ok (.getfield 101, 3) := dk_U2 a_Mo_close_222 (dko_180 _) rfl
theorem d_Mo_close_225 : decode b_Mo_close 225 = .ok (.bipush 20, 2) := dk_S1 a_Mo_close_225 (dko_16 _) (by decide +kernel)
theorem d_Mo_close_227 : decode b_Mo_close 227 = .ok (.iload_n 2, 1) := dk_0 a_Mo_close_227 (dko_28 _)
theorem d_Mo_close_228 : decode b_Mo_close 228 = .ok (.imul, 1) := dk_0 a_Mo_close_228 (dko_104 _)
theorem d_Mo_close_229 : decode b_Mo_close 229 = .ok (.iload_n 3, 1) := dk_0 a_Mo_close_229 (dko_29 _)
theorem d_Mo_close_230 : decode b_Mo_close 230 = .ok (.iadd, 1) := dk_0 a_Mo_close_230 (dko_96 _)
theorem d_Mo_close_231 : decode b_Mo_close 231 = .ok (.aload_n 0, 1) := dk_0 a_Mo_close_231 (dko_42 _)
theorem d_Mo_close_232 : decode b_Mo_close 232 = .ok (.getfield 101, 3) := dk_U2 a_Mo_close_232 (dko_180 _) rfl
theorem d_Mo_close_235 : decode b_Mo_close 235 = .ok (.bipush 20, 2) := dk_S1 a_Mo_close_235 (dko_16 _) (by decide +kernel)
theorem d_Mo_close_237 : decode b_Mo_close 237 = .ok (.iload_n 2, 1) := dk_0 a_Mo_close_237 (dko_28 _)
theorem d_Mo_close_238 : decode b_Mo_close 238 = .ok (.iconst 1, 1) := dk_0 a_Mo_close_238 (dko_4 _)
theorem d_Mo_close_239 : decode b_Mo_close 239 = .ok (.iadd, 1) := dk_0 a_Mo_close_239 (dko_96 _)
theorem d_Mo_close_240 : decode b_Mo_close 240 = .ok (.imul, 1) := dk_0 a_Mo_close_240 (dko_104 _)
theorem d_Mo_close_241 : decode b_Mo_close 241 = .ok (.iload_n 3, 1) := dk_0 a_Mo_close_241 (dko_29 _)
theorem d_Mo_close_242 : decode b_Mo_close 242 = .ok (.iadd, 1) := dk_0 a_Mo_close_242 (dko_96 _)
theorem d_Mo_close_243 : decode b_Mo_close 243 = .ok (.iaload, 1) := dk_0 a_Mo_close_243 (dko_46 _)
theorem d_Mo_close_244 : decode b_Mo_close 244 = .ok (.iastore, 1) := dk_0 a_Mo_close_244 (dko_79 _)
theorem d_Mo_close_245 : decode b_Mo_close 245 = .ok (.iinc 3 1, 3) := dk_US a_Mo_close_245 (dko_132 _) (by decide +kernel)
theorem d_Mo_close_248 : decode b_Mo_close 248 = .ok (.goto (-33), 3) := dk_S2 a_Mo_close_248 (dko_167 _) (by decide +kernel)
theorem d_Mo_close_251 : decode b_Mo_close 251 = .ok (.iinc 2 1, 3) := dk_US a_Mo_close_251 (dko_132 _) (by decide +kernel)
theorem d_Mo_close_254 : decode b_Mo_close 254 = .ok (.goto (-159), 3) := dk_S2 a_Mo_close_254 (dko_167 _) (by decide +kernel)
theorem d_Mo_close_257 : decode b_Mo_close 257 = .ok (.aload_n 0, 1) := dk_0 a_Mo_close_257 (dko_42 _)
theorem d_Mo_close_258 : decode b_Mo_close 258 = .ok (.dup, 1) := dk_0 a_Mo_close_258 (dko_89 _)
theorem d_Mo_close_259 : decode b_Mo_close 259 = .ok (.getfield 284, 3) := dk_U2 a_Mo_close_259 (dko_180 _) rfl
theorem d_Mo_close_262 : decode b_Mo_close 262 = .ok (.iconst 1, 1) := dk_0 a_Mo_close_262 (dko_4 _)
theorem d_Mo_close_263 : decode b_Mo_close 263 = .ok (.isub, 1) := dk_0 a_Mo_close_263 (dko_100 _)
theorem d_Mo_close_264 : decode b_Mo_close 264 = .ok (.putfield 284, 3) := dk_U2 a_Mo_close_264 (dko_181 _) rfl
theorem d_Mo_close_267 : decode b_Mo_close 267 = .ok (.return_, 1) := dk_0 a_Mo_close_267 (dko_177 _)
set_option maxHeartbeats 4000000 in
set_option maxRecDepth 100000 in
theorem ok_Mo_close (pc : Nat) : OpS mt mi_Mo_close pc (cs_Mo_close pc) := (os_n (os_n (os_n (os_n (os_n (os_n (os_n (os_l (so_iconst d_Mo_close_0 (by decide))) (os_l (so_istore_n d_Mo_close_1 rfl (by decide)))) (os_n (os_l (so_iload_n d_Mo_close_2 rfl)) (os_n (os_l (so_aload_n d_Mo_close_3 rfl)) (os_l (so_get (C := R_Mo) (T := F_Mo) (N := 87) (j := 4) in_Mo rfl (by decide) mw_1798 d_Mo_close_4))))) (os_n (os_n (os_l (so_icge d_Mo_close_7 (by decide))) (os_l (so_aload_n d_Mo_close_10 rfl))) (os_n (os_l (so_get (C := R_Mo) (T := F_Mo) (N := 87) (j := 33) in_Mo rfl (by decide) mw_1827 d_Mo_close_11)) (os_n (os_l (so_bipush d_Mo_close_14 (by decide))) (os_l (so_iload_n d_Mo_close_16 rfl)))))) (os_n (os_n (os_n (os_l (so_imul d_Mo_close_17)) (os_l (so_iload_n d_Mo_close_18 rfl))) (os_n (os_l (so_iadd d_Mo_close_19)) (os_n (os_l (so_iaload d_Mo_close_20)) (os_l (so_iconst d_Mo_close_21 (by decide)))))) (os_n (os_n (os_l (so_iceq d_Mo_close_22 (by decide))) (os_n (os_l (so_aload_n d_Mo_close_25 rfl)) (os_l (so_get (C := R_Mo) (T := F_Mo) (N := 87) (j := 5) in_Mo rfl (by decide) mw_1799 d_Mo_close_26)))) (os_n (os_l (so_iload_n d_Mo_close_29 rfl)) (os_n (os_l (so_iaload d_Mo_close_30)) (os_l (so_iconst d_Mo_close_31 (by decide)))))))) (os_n (os_n (os_n (os_n (os_l (so_iclt d_Mo_close_32 (by decide))) (os_l (so_iconst d_Mo_close_35 (by decide)))) (os_n (os_l (so_goto d_Mo_close_36 (by decide))) (os_n (os_l (so_iconst d_Mo_close_39 (by decide))) (os_l (so_istore_n d_Mo_close_40 rfl (by decide)))))) (os_n (os_n (os_l (so_aload_n d_Mo_close_41 rfl)) (os_n (os_l (so_get (C := R_Mo) (T := F_Mo) (N := 87) (j := 33) in_Mo rfl (by decide) mw_1827 d_Mo_close_42)) (os_l (so_bipush d_Mo_close_45 (by decide))))) (os_n (os_l (so_iload_n d_Mo_close_47 rfl)) (os_n (os_l (so_imul d_Mo_close_48)) (os_l (so_iload_n d_Mo_close_49 rfl)))))) (os_n (os_n (os_n (os_l (so_iadd d_Mo_close_50)) (os_l (so_iconst d_Mo_close_51 (by decide)))) (os_n (os_l (so_iastore d_Mo_close_52)) (os_n (os_l (so_iload_n d_Mo_close_53 rfl)) (os_l (so_ifeq d_Mo_close_54 (by decide)))))) (os_n (os_n (os_l (so_aload_n d_Mo_close_57 rfl)) (os_n (os_l (so_iload_n d_Mo_close_58 rfl)) (os_l (so_callV (iv := mi_Mo_held) rfl rfl rfl mw_2343 mw_2345 sl_141 mw_18 mw_2346 ⟨by decide +kernel, by decide +kernel, by decide +kernel⟩ (by decide) d_Mo_close_59)))) (os_n (os_l (so_iconst d_Mo_close_62 (by decide))) (os_n (os_l (so_icne d_Mo_close_63 (by decide))) (os_l (so_aload_n d_Mo_close_66 rfl)))))))) (os_n (os_n (os_n (os_n (os_n (os_l (so_get (C := R_Mo) (T := F_Mo) (N := 87) (j := 9) in_Mo rfl (by decide) mw_1803 d_Mo_close_67)) (os_l (so_iload_n d_Mo_close_70 rfl))) (os_n (os_l (so_aload_n d_Mo_close_71 rfl)) (os_n (os_l (so_get (C := R_Mo) (T := F_Mo) (N := 87) (j := 5) in_Mo rfl (by decide) mw_1799 d_Mo_close_72)) (os_l (so_iload_n d_Mo_close_75 rfl))))) (os_n (os_n (os_l (so_iaload d_Mo_close_76)) (os_n (os_l (so_iconst d_Mo_close_77 (by decide))) (os_l (so_icne d_Mo_close_78 (by decide))))) (os_n (os_l (so_iconst d_Mo_close_81 (by decide))) (os_n (os_l (so_goto d_Mo_close_82 (by decide))) (os_l (so_iconst d_Mo_close_85 (by decide))))))) (os_n (os_n (os_n (os_l (so_iastore d_Mo_close_86)) (os_l (so_iinc d_Mo_close_87 (by decide) (by decide)))) (os_n (os_l (so_goto d_Mo_close_90 (by decide))) (os_n (os_l (so_iload_n d_Mo_close_93 rfl)) (os_l (so_istore_n d_Mo_close_94 rfl (by decide)))))) (os_n (os_n (os_l (so_iload_n d_Mo_close_95 rfl)) (os_n (os_l (so_iconst d_Mo_close_96 (by decide))) (os_l (so_iadd d_Mo_close_97)))) (os_n (os_l (so_aload_n d_Mo_close_98 rfl)) (os_n (os_l (so_get (C := R_Mo) (T := F_Mo) (N := 87) (j := 26) in_Mo rfl (by decide) mw_1820 d_Mo_close_99)) (os_l (so_icge d_Mo_close_102 (by decide)))))))) (os_n (os_n (os_n (os_n (os_l (so_aload_n d_Mo_close_105 rfl)) (os_l (so_get (C := R_Mo) (T := F_Mo) (N := 87) (j := 27) in_Mo rfl (by decide) mw_1821 d_Mo_close_106))) (os_n (os_l (so_iload_n d_Mo_close_109 rfl)) (os_n (os_l (so_aload_n d_Mo_close_110 rfl)) (os_l (so_get (C := R_Mo) (T := F_Mo) (N := 87) (j := 27) in_Mo rfl (by decide) mw_1821 d_Mo_close_111))))) (os_n (os_n (os_l (so_iload_n d_Mo_close_114 rfl)) (os_n (os_l (so_iconst d_Mo_close_115 (by decide))) (os_l (so_iadd d_Mo_close_116)))) (os_n (os_l (so_iaload d_Mo_close_117)) (os_n (os_l (so_iastore d_Mo_close_118)) (os_l (so_aload_n d_Mo_close_119 rfl)))))) (os_n (os_n (os_n (os_l (so_get (C := R_Mo) (T := F_Mo) (N := 87) (j := 28) in_Mo rfl (by decide) mw_1822 d_Mo_close_120)) (os_l (so_iload_n d_Mo_close_123 rfl))) (os_n (os_l (so_aload_n d_Mo_close_124 rfl)) (os_n (os_l (so_get (C := R_Mo) (T := F_Mo) (N := 87) (j := 28) in_Mo rfl (by decide) mw_1822 d_Mo_close_125)) (os_l (so_iload_n d_Mo_close_128 rfl))))) (os_n (os_n (os_l (so_iconst d_Mo_close_129 (by decide))) (os_n (os_l (so_iadd d_Mo_close_130)) (os_l (so_iaload d_Mo_close_131)))) (os_n (os_l (so_iastore d_Mo_close_132)) (os_n (os_l (so_aload_n d_Mo_close_133 rfl)) (os_l (so_get (C := R_Mo) (T := F_Mo) (N := 87) (j := 29) in_Mo rfl (by decide) mw_1823 d_Mo_close_134))))))))) (os_n (os_n (os_n (os_n (os_n (os_n (os_l (so_iload_n d_Mo_close_137 rfl)) (os_l (so_aload_n d_Mo_close_138 rfl))) (os_n (os_l (so_get (C := R_Mo) (T := F_Mo) (N := 87) (j := 29) in_Mo rfl (by decide) mw_1823 d_Mo_close_139)) (os_n (os_l (so_iload_n d_Mo_close_142 rfl)) (os_l (so_iconst d_Mo_close_143 (by decide)))))) (os_n (os_n (os_l (so_iadd d_Mo_close_144)) (os_l (so_iaload d_Mo_close_145))) (os_n (os_l (so_iastore d_Mo_close_146)) (os_n (os_l (so_aload_n d_Mo_close_147 rfl)) (os_l (so_get (C := R_Mo) (T := F_Mo) (N := 87) (j := 30) in_Mo rfl (by decide) mw_1824 d_Mo_close_148)))))) (os_n (os_n (os_n (os_l (so_iload_n d_Mo_close_151 rfl)) (os_l (so_aload_n d_Mo_close_152 rfl))) (os_n (os_l (so_get (C := R_Mo) (T := F_Mo) (N := 87) (j := 30) in_Mo rfl (by decide) mw_1824 d_Mo_close_153)) (os_n (os_l (so_iload_n d_Mo_close_156 rfl)) (os_l (so_iconst d_Mo_close_157 (by decide)))))) (os_n (os_n (os_l (so_iadd d_Mo_close_158)) (os_n (os_l (so_iaload d_Mo_close_159)) (os_l (so_iastore d_Mo_close_160)))) (os_n (os_l (so_aload_n d_Mo_close_161 rfl)) (os_n (os_l (so_get (C := R_Mo) (T := F_Mo) (N := 87) (j := 31) in_Mo rfl (by decide) mw_1825 d_Mo_close_162)) (os_l (so_iload_n d_Mo_close_165 rfl))))))) (os_n (os_n (os_n (os_n (os_l (so_aload_n d_Mo_close_166 rfl)) (os_l (so_get (C := R_Mo) (T := F_Mo) (N := 87) (j := 31) in_Mo rfl (by decide) mw_1825 d_Mo_close_167))) (os_n (os_l (so_iload_n d_Mo_close_170 rfl)) (os_n (os_l (so_iconst d_Mo_close_171 (by decide))) (os_l (so_iadd d_Mo_close_172))))) (os_n (os_n (os_l (so_iaload d_Mo_close_173)) (os_n (os_l (so_iastore d_Mo_close_174)) (os_l (so_iconst d_Mo_close_175 (by decide))))) (os_n (os_l (so_istore_n d_Mo_close_176 rfl (by decide))) (os_n (os_l (so_iload_n d_Mo_close_177 rfl)) (os_l (so_bipush d_Mo_close_178 (by decide))))))) (os_n (os_n (os_n (os_l (so_icge d_Mo_close_180 (by decide))) (os_l (so_aload_n d_Mo_close_183 rfl))) (os_n (os_l (so_get (C := R_Mo) (T := F_Mo) (N := 87) (j := 32) in_Mo rfl (by decide) mw_1826 d_Mo_close_184)) (os_n (os_l (so_bipush d_Mo_close_187 (by decide))) (os_l (so_iload_n d_Mo_close_189 rfl))))) (os_n (os_n (os_l (so_imul d_Mo_close_190)) (os_n (os_l (so_iload_n d_Mo_close_191 rfl)) (os_l (so_iadd d_Mo_close_192)))) (os_n (os_l (so_aload_n d_Mo_close_193 rfl)) (os_n (os_l (so_get (C := R_Mo) (T := F_Mo) (N := 87) (j := 32) in_Mo rfl (by decide) mw_1826 d_Mo_close_194)) (os_l (so_bipush d_Mo_close_197 (by decide))))))))) (os_n (os_n (os_n (os_n (os_n (os_l (so_iload_n d_Mo_close_199 rfl)) (os_l (so_iconst d_Mo_close_200 (by decide)))) (os_n (os_l (so_iadd d_Mo_close_201)) (os_n (os_l (so_imul d_Mo_close_202)) (os_l (so_iload_n d_Mo_close_203 rfl))))) (os_n (os_n (os_l (so_iadd d_Mo_close_204)) (os_n (os_l (so_iaload d_Mo_close_205)) (os_l (so_iastore d_Mo_close_206)))) (os_n (os_l (so_iinc d_Mo_close_207 (by decide) (by decide))) (os_n (os_l (so_goto d_Mo_close_210 (by decide))) (os_l (so_iconst d_Mo_close_213 (by decide))))))) (os_n (os_n (os_n (os_l (so_istore_n d_Mo_close_214 rfl (by decide))) (os_l (so_iload_n d_Mo_close_215 rfl))) (os_n (os_l (so_bipush d_Mo_close_216 (by decide))) (os_n (os_l (so_icge d_Mo_close_218 (by decide))) (os_l (so_aload_n d_Mo_close_221 rfl))))) (os_n (os_n (os_l (so_get (C := R_Mo) (T := F_Mo) (N := 87) (j := 33) in_Mo rfl (by decide) mw_1827 d_Mo_close_222)) (os_n (os_l (so_bipush d_Mo_close_225 (by decide))) (os_l (so_iload_n d_Mo_close_227 rfl)))) (os_n (os_l (so_imul d_Mo_close_228)) (os_n (os_l (so_iload_n d_Mo_close_229 rfl)) (os_l (so_iadd d_Mo_close_230))))))) (os_n (os_n (os_n (os_n (os_l (so_aload_n d_Mo_close_231 rfl)) (os_l (so_get (C := R_Mo) (T := F_Mo) (N := 87) (j := 33) in_Mo rfl (by decide) mw_1827 d_Mo_close_232))) (os_n (os_l (so_bipush d_Mo_close_235 (by decide))) (os_n (os_l (so_iload_n d_Mo_close_237 rfl)) (os_l (so_iconst d_Mo_close_238 (by decide)))))) (os_n (os_n (os_l (so_iadd d_Mo_close_239)) (os_n (os_l (so_imul d_Mo_close_240)) (os_l (so_iload_n d_Mo_close_241 rfl)))) (os_n (os_l (so_iadd d_Mo_close_242)) (os_n (os_l (so_iaload d_Mo_close_243)) (os_l (so_iastore d_Mo_close_244)))))) (os_n (os_n (os_n (os_l (so_iinc d_Mo_close_245 (by decide) (by decide))) (os_l (so_goto d_Mo_close_248 (by decide)))) (os_n (os_l (so_iinc d_Mo_close_251 (by decide) (by decide))) (os_n (os_l (so_goto d_Mo_close_254 (by decide))) (os_l (so_aload_n d_Mo_close_257 rfl))))) (os_n (os_n (os_l (so_dup d_Mo_close_258)) (os_n (os_l (so_get (C := R_Mo) (T := F_Mo) (N := 87) (j := 26) in_Mo rfl (by decide) mw_1820 d_Mo_close_259)) (os_l (so_iconst d_Mo_close_262 (by decide))))) (os_n (os_l (so_isub d_Mo_close_263)) (os_n (os_l (so_putI (C := R_Mo) (T := F_Mo) (N := 87) (j := 26) in_Mo t_Mo_ok n_Mo rfl (by decide) mw_1820 rfl (by decide +kernel) d_Mo_close_264)) (os_l (so_return rfl d_Mo_close_267))))))))))
abbrev t_Mo_closeAll_20 : List UInt8 := 177 :: []
abbrev t_Mo_closeAll_17 : List UInt8 := 167 :: 255 :: 239 :: t_Mo_closeAll_20
abbrev t_Mo_closeAll_14 : List UInt8 := 182 :: 1 :: 147 :: t_Mo_closeAll_17
abbrev t_Mo_closeAll_13 : List UInt8 := 100 :: t_Mo_closeAll_14
abbrev t_Mo_closeAll_12 : List UInt8 := 4 :: t_Mo_closeAll_13
abbrev t_Mo_closeAll_9 : List UInt8 := 180 :: 1 :: 28 :: t_Mo_closeAll_12
abbrev t_Mo_closeAll_8 : List UInt8 := 42 :: t_Mo_closeAll_9
abbrev t_Mo_closeAll_7 : List UInt8 := 42 :: t_Mo_closeAll_8
abbrev t_Mo_closeAll_4 : List UInt8 := 158 :: 0 :: 16 :: t_Mo_closeAll_7
abbrev t_Mo_closeAll_1 : List UInt8 := 180 :: 1 :: 28 :: t_Mo_closeAll_4
abbrev t_Mo_closeAll_0 : List UInt8 := 42 :: t_Mo_closeAll_1
theorem a_Mo_closeAll_0 : dk_at b_Mo_closeAll 0 t_Mo_closeAll_0 := dk_start (by decide +kernel)
theorem a_Mo_closeAll_1 : dk_at b_Mo_closeAll 1 t_Mo_closeAll_1 := dk_go 1 a_Mo_closeAll_0 rfl
theorem a_Mo_closeAll_4 : dk_at b_Mo_closeAll 4 t_Mo_closeAll_4 := dk_go 3 a_Mo_closeAll_1 rfl
theorem a_Mo_closeAll_7 : dk_at b_Mo_closeAll 7 t_Mo_closeAll_7 := dk_go 3 a_Mo_closeAll_4 rfl
theorem a_Mo_closeAll_8 : dk_at b_Mo_closeAll 8 t_Mo_closeAll_8 := dk_go 1 a_Mo_closeAll_7 rfl
theorem a_Mo_closeAll_9 : dk_at b_Mo_closeAll 9 t_Mo_closeAll_9 := dk_go 1 a_Mo_closeAll_8 rfl
theorem a_Mo_closeAll_12 : dk_at b_Mo_closeAll 12 t_Mo_closeAll_12 := dk_go 3 a_Mo_closeAll_9 rfl
theorem a_Mo_closeAll_13 : dk_at b_Mo_closeAll 13 t_Mo_closeAll_13 := dk_go 1 a_Mo_closeAll_12 rfl
theorem a_Mo_closeAll_14 : dk_at b_Mo_closeAll 14 t_Mo_closeAll_14 := dk_go 1 a_Mo_closeAll_13 rfl
theorem a_Mo_closeAll_17 : dk_at b_Mo_closeAll 17 t_Mo_closeAll_17 := dk_go 3 a_Mo_closeAll_14 rfl
theorem a_Mo_closeAll_20 : dk_at b_Mo_closeAll 20 t_Mo_closeAll_20 := dk_go 3 a_Mo_closeAll_17 rfl
theorem d_Mo_closeAll_0 : decode b_Mo_closeAll 0 = .ok (.aload_n 0, 1) := dk_0 a_Mo_closeAll_0 (dko_42 _)
theorem d_Mo_closeAll_1 : decode b_Mo_closeAll 1 = .ok (.getfield 284, 3) := dk_U2 a_Mo_closeAll_1 (dko_180 _) rfl
theorem d_Mo_closeAll_4 : decode b_Mo_closeAll 4 = .ok (.ifCond .le 16, 3) := dk_S2 a_Mo_closeAll_4 (dko_158 _) (by decide +kernel)
theorem d_Mo_closeAll_7 : decode b_Mo_closeAll 7 = .ok (.aload_n 0, 1) := dk_0 a_Mo_closeAll_7 (dko_42 _)
theorem d_Mo_closeAll_8 : decode b_Mo_closeAll 8 = .ok (.aload_n 0, 1) := dk_0 a_Mo_closeAll_8 (dko_42 _)
theorem d_Mo_closeAll_9 : decode b_Mo_closeAll 9 = .ok (.getfield 284, 3) := dk_U2 a_Mo_closeAll_9 (dko_180 _) rfl
theorem d_Mo_closeAll_12 : decode b_Mo_closeAll 12 = .ok (.iconst 1, 1) := dk_0 a_Mo_closeAll_12 (dko_4 _)
theorem d_Mo_closeAll_13 : decode b_Mo_closeAll 13 = .ok (.isub, 1) := dk_0 a_Mo_closeAll_13 (dko_100 _)
theorem d_Mo_closeAll_14 : decode b_Mo_closeAll 14 = .ok (.invokevirtual 403, 3) := dk_U2 a_Mo_closeAll_14 (dko_182 _) rfl
theorem d_Mo_closeAll_17 : decode b_Mo_closeAll 17 = .ok (.goto (-17), 3) := dk_S2 a_Mo_closeAll_17 (dko_167 _) (by decide +kernel)
theorem d_Mo_closeAll_20 : decode b_Mo_closeAll 20 = .ok (.return_, 1) := dk_0 a_Mo_closeAll_20 (dko_177 _)
set_option maxHeartbeats 4000000 in
set_option maxRecDepth 100000 in
theorem ok_Mo_closeAll (pc : Nat) : OpS mt mi_Mo_closeAll pc (cs_Mo_closeAll pc) := (os_n (os_n (os_n (os_l (so_aload_n d_Mo_closeAll_0 rfl)) (os_l (so_get (C := R_Mo) (T := F_Mo) (N := 87) (j := 26) in_Mo rfl (by decide) mw_1820 d_Mo_closeAll_1))) (os_n (os_l (so_ifle d_Mo_closeAll_4 (by decide))) (os_n (os_l (so_aload_n d_Mo_closeAll_7 rfl)) (os_l (so_aload_n d_Mo_closeAll_8 rfl))))) (os_n (os_n (os_l (so_get (C := R_Mo) (T := F_Mo) (N := 87) (j := 26) in_Mo rfl (by decide) mw_1820 d_Mo_closeAll_9)) (os_n (os_l (so_iconst d_Mo_closeAll_12 (by decide))) (os_l (so_isub d_Mo_closeAll_13)))) (os_n (os_l (so_callV (iv := mi_Mo_close) rfl rfl rfl mw_2339 mw_2341 sl_140 mw_18 mw_2342 ⟨by decide +kernel, by decide +kernel, by decide +kernel⟩ (by decide) d_Mo_closeAll_14)) (os_n (os_l (so_goto d_Mo_closeAll_17 (by decide))) (os_l (so_return rfl d_Mo_closeAll_20))))))
abbrev t_Mo_isOnWay_81 : List UInt8 := 172 :: []
abbrev t_Mo_isOnWay_80 : List UInt8 := 3 :: t_Mo_isOnWay_81
abbrev t_Mo_isOnWay_77 : List UInt8 := 167 :: 255 :: 181 :: t_Mo_isOnWay_80
abbrev t_Mo_isOnWay_74 : List UInt8 := 132 :: 2 :: 1 :: t_Mo_isOnWay_77
abbrev t_Mo_isOnWay_71 : List UInt8 := 167 :: 255 :: 219 :: t_Mo_isOnWay_74
abbrev t_Mo_isOnWay_68 : List UInt8 := 132 :: 3 :: 1 :: t_Mo_isOnWay_71
abbrev t_Mo_isOnWay_67 : List UInt8 := 172 :: t_Mo_isOnWay_68
abbrev t_Mo_isOnWay_66 : List UInt8 := 4 :: t_Mo_isOnWay_67
abbrev t_Mo_isOnWay_63 : List UInt8 := 160 :: 0 :: 5 :: t_Mo_isOnWay_66
abbrev t_Mo_isOnWay_62 : List UInt8 := 27 :: t_Mo_isOnWay_63
abbrev t_Mo_isOnWay_61 : List UInt8 := 96 :: t_Mo_isOnWay_62
abbrev t_Mo_isOnWay_60 : List UInt8 := 108 :: t_Mo_isOnWay_61
abbrev t_Mo_isOnWay_59 : List UInt8 := 5 :: t_Mo_isOnWay_60
abbrev t_Mo_isOnWay_58 : List UInt8 := 46 :: t_Mo_isOnWay_59
abbrev t_Mo_isOnWay_57 : List UInt8 := 96 :: t_Mo_isOnWay_58
abbrev t_Mo_isOnWay_56 : List UInt8 := 29 :: t_Mo_isOnWay_57
abbrev t_Mo_isOnWay_55 : List UInt8 := 104 :: t_Mo_isOnWay_56
abbrev t_Mo_isOnWay_54 : List UInt8 := 28 :: t_Mo_isOnWay_55
abbrev t_Mo_isOnWay_52 : List UInt8 := 16 :: 24 :: t_Mo_isOnWay_54
abbrev t_Mo_isOnWay_49 : List UInt8 := 180 :: 0 :: 98 :: t_Mo_isOnWay_52
abbrev t_Mo_isOnWay_48 : List UInt8 := 42 :: t_Mo_isOnWay_49
abbrev t_Mo_isOnWay_45 : List UInt8 := 180 :: 1 :: 22 :: t_Mo_isOnWay_48
abbrev t_Mo_isOnWay_44 : List UInt8 := 42 :: t_Mo_isOnWay_45
abbrev t_Mo_isOnWay_41 : List UInt8 := 162 :: 0 :: 33 :: t_Mo_isOnWay_44
abbrev t_Mo_isOnWay_40 : List UInt8 := 46 :: t_Mo_isOnWay_41
abbrev t_Mo_isOnWay_39 : List UInt8 := 28 :: t_Mo_isOnWay_40
abbrev t_Mo_isOnWay_36 : List UInt8 := 180 :: 0 :: 95 :: t_Mo_isOnWay_39
abbrev t_Mo_isOnWay_35 : List UInt8 := 42 :: t_Mo_isOnWay_36
abbrev t_Mo_isOnWay_34 : List UInt8 := 29 :: t_Mo_isOnWay_35
abbrev t_Mo_isOnWay_33 : List UInt8 := 62 :: t_Mo_isOnWay_34
abbrev t_Mo_isOnWay_32 : List UInt8 := 3 :: t_Mo_isOnWay_33
abbrev t_Mo_isOnWay_31 : List UInt8 := 172 :: t_Mo_isOnWay_32
abbrev t_Mo_isOnWay_30 : List UInt8 := 4 :: t_Mo_isOnWay_31
abbrev t_Mo_isOnWay_27 : List UInt8 := 160 :: 0 :: 5 :: t_Mo_isOnWay_30
abbrev t_Mo_isOnWay_26 : List UInt8 := 27 :: t_Mo_isOnWay_27
abbrev t_Mo_isOnWay_25 : List UInt8 := 46 :: t_Mo_isOnWay_26
abbrev t_Mo_isOnWay_24 : List UInt8 := 28 :: t_Mo_isOnWay_25
abbrev t_Mo_isOnWay_21 : List UInt8 := 180 :: 0 :: 86 :: t_Mo_isOnWay_24
abbrev t_Mo_isOnWay_20 : List UInt8 := 42 :: t_Mo_isOnWay_21
abbrev t_Mo_isOnWay_17 : List UInt8 := 159 :: 0 :: 13 :: t_Mo_isOnWay_20
abbrev t_Mo_isOnWay_16 : List UInt8 := 27 :: t_Mo_isOnWay_17
abbrev t_Mo_isOnWay_15 : List UInt8 := 46 :: t_Mo_isOnWay_16
abbrev t_Mo_isOnWay_14 : List UInt8 := 28 :: t_Mo_isOnWay_15
abbrev t_Mo_isOnWay_11 : List UInt8 := 180 :: 0 :: 83 :: t_Mo_isOnWay_14
abbrev t_Mo_isOnWay_10 : List UInt8 := 42 :: t_Mo_isOnWay_11
abbrev t_Mo_isOnWay_7 : List UInt8 := 162 :: 0 :: 73 :: t_Mo_isOnWay_10
abbrev t_Mo_isOnWay_4 : List UInt8 := 180 :: 1 :: 28 :: t_Mo_isOnWay_7
abbrev t_Mo_isOnWay_3 : List UInt8 := 42 :: t_Mo_isOnWay_4
abbrev t_Mo_isOnWay_2 : List UInt8 := 28 :: t_Mo_isOnWay_3
abbrev t_Mo_isOnWay_1 : List UInt8 := 61 :: t_Mo_isOnWay_2
abbrev t_Mo_isOnWay_0 : List UInt8 := 3 :: t_Mo_isOnWay_1
theorem a_Mo_isOnWay_0 : dk_at b_Mo_isOnWay 0 t_Mo_isOnWay_0 := dk_start (by decide +kernel)
theorem a_Mo_isOnWay_1 : dk_at b_Mo_isOnWay 1 t_Mo_isOnWay_1 := dk_go 1 a_Mo_isOnWay_0 rfl
theorem a_Mo_isOnWay_2 : dk_at b_Mo_isOnWay 2 t_Mo_isOnWay_2 := dk_go 1 a_Mo_isOnWay_1 rfl
theorem a_Mo_isOnWay_3 : dk_at b_Mo_isOnWay 3 t_Mo_isOnWay_3 := dk_go 1 a_Mo_isOnWay_2 rfl
theorem a_Mo_isOnWay_4 : dk_at b_Mo_isOnWay 4 t_Mo_isOnWay_4 := dk_go 1 a_Mo_isOnWay_3 rfl
theorem a_Mo_isOnWay_7 : dk_at b_Mo_isOnWay 7 t_Mo_isOnWay_7 := dk_go 3 a_Mo_isOnWay_4 rfl
theorem a_Mo_isOnWay_10 : dk_at b_Mo_isOnWay 10 t_Mo_isOnWay_10 := dk_go 3 a_Mo_isOnWay_7 rfl
theorem a_Mo_isOnWay_11 : dk_at b_Mo_isOnWay 11 t_Mo_isOnWay_11 := dk_go 1 a_Mo_isOnWay_10 rfl
theorem a_Mo_isOnWay_14 : dk_at b_Mo_isOnWay 14 t_Mo_isOnWay_14 := dk_go 3 a_Mo_isOnWay_11 rfl
theorem a_Mo_isOnWay_15 : dk_at b_Mo_isOnWay 15 t_Mo_isOnWay_15 := dk_go 1 a_Mo_isOnWay_14 rfl
theorem a_Mo_isOnWay_16 : dk_at b_Mo_isOnWay 16 t_Mo_isOnWay_16 := dk_go 1 a_Mo_isOnWay_15 rfl
theorem a_Mo_isOnWay_17 : dk_at b_Mo_isOnWay 17 t_Mo_isOnWay_17 := dk_go 1 a_Mo_isOnWay_16 rfl
theorem a_Mo_isOnWay_20 : dk_at b_Mo_isOnWay 20 t_Mo_isOnWay_20 := dk_go 3 a_Mo_isOnWay_17 rfl
theorem a_Mo_isOnWay_21 : dk_at b_Mo_isOnWay 21 t_Mo_isOnWay_21 := dk_go 1 a_Mo_isOnWay_20 rfl
theorem a_Mo_isOnWay_24 : dk_at b_Mo_isOnWay 24 t_Mo_isOnWay_24 := dk_go 3 a_Mo_isOnWay_21 rfl
theorem a_Mo_isOnWay_25 : dk_at b_Mo_isOnWay 25 t_Mo_isOnWay_25 := dk_go 1 a_Mo_isOnWay_24 rfl
theorem a_Mo_isOnWay_26 : dk_at b_Mo_isOnWay 26 t_Mo_isOnWay_26 := dk_go 1 a_Mo_isOnWay_25 rfl
theorem a_Mo_isOnWay_27 : dk_at b_Mo_isOnWay 27 t_Mo_isOnWay_27 := dk_go 1 a_Mo_isOnWay_26 rfl
theorem a_Mo_isOnWay_30 : dk_at b_Mo_isOnWay 30 t_Mo_isOnWay_30 := dk_go 3 a_Mo_isOnWay_27 rfl
theorem a_Mo_isOnWay_31 : dk_at b_Mo_isOnWay 31 t_Mo_isOnWay_31 := dk_go 1 a_Mo_isOnWay_30 rfl
theorem a_Mo_isOnWay_32 : dk_at b_Mo_isOnWay 32 t_Mo_isOnWay_32 := dk_go 1 a_Mo_isOnWay_31 rfl
theorem a_Mo_isOnWay_33 : dk_at b_Mo_isOnWay 33 t_Mo_isOnWay_33 := dk_go 1 a_Mo_isOnWay_32 rfl
theorem a_Mo_isOnWay_34 : dk_at b_Mo_isOnWay 34 t_Mo_isOnWay_34 := dk_go 1 a_Mo_isOnWay_33 rfl
theorem a_Mo_isOnWay_35 : dk_at b_Mo_isOnWay 35 t_Mo_isOnWay_35 := dk_go 1 a_Mo_isOnWay_34 rfl
theorem a_Mo_isOnWay_36 : dk_at b_Mo_isOnWay 36 t_Mo_isOnWay_36 := dk_go 1 a_Mo_isOnWay_35 rfl
theorem a_Mo_isOnWay_39 : dk_at b_Mo_isOnWay 39 t_Mo_isOnWay_39 := dk_go 3 a_Mo_isOnWay_36 rfl
theorem a_Mo_isOnWay_40 : dk_at b_Mo_isOnWay 40 t_Mo_isOnWay_40 := dk_go 1 a_Mo_isOnWay_39 rfl
theorem a_Mo_isOnWay_41 : dk_at b_Mo_isOnWay 41 t_Mo_isOnWay_41 := dk_go 1 a_Mo_isOnWay_40 rfl
theorem a_Mo_isOnWay_44 : dk_at b_Mo_isOnWay 44 t_Mo_isOnWay_44 := dk_go 3 a_Mo_isOnWay_41 rfl
theorem a_Mo_isOnWay_45 : dk_at b_Mo_isOnWay 45 t_Mo_isOnWay_45 := dk_go 1 a_Mo_isOnWay_44 rfl
theorem a_Mo_isOnWay_48 : dk_at b_Mo_isOnWay 48 t_Mo_isOnWay_48 := dk_go 3 a_Mo_isOnWay_45 rfl
theorem a_Mo_isOnWay_49 : dk_at b_Mo_isOnWay 49 t_Mo_isOnWay_49 := dk_go 1 a_Mo_isOnWay_48 rfl
theorem a_Mo_isOnWay_52 : dk_at b_Mo_isOnWay 52 t_Mo_isOnWay_52 := dk_go 3 a_Mo_isOnWay_49 rfl
theorem a_Mo_isOnWay_54 : dk_at b_Mo_isOnWay 54 t_Mo_isOnWay_54 := dk_go 2 a_Mo_isOnWay_52 rfl
theorem a_Mo_isOnWay_55 : dk_at b_Mo_isOnWay 55 t_Mo_isOnWay_55 := dk_go 1 a_Mo_isOnWay_54 rfl
theorem a_Mo_isOnWay_56 : dk_at b_Mo_isOnWay 56 t_Mo_isOnWay_56 := dk_go 1 a_Mo_isOnWay_55 rfl
theorem a_Mo_isOnWay_57 : dk_at b_Mo_isOnWay 57 t_Mo_isOnWay_57 := dk_go 1 a_Mo_isOnWay_56 rfl
theorem a_Mo_isOnWay_58 : dk_at b_Mo_isOnWay 58 t_Mo_isOnWay_58 := dk_go 1 a_Mo_isOnWay_57 rfl
theorem a_Mo_isOnWay_59 : dk_at b_Mo_isOnWay 59 t_Mo_isOnWay_59 := dk_go 1 a_Mo_isOnWay_58 rfl
theorem a_Mo_isOnWay_60 : dk_at b_Mo_isOnWay 60 t_Mo_isOnWay_60 := dk_go 1 a_Mo_isOnWay_59 rfl
theorem a_Mo_isOnWay_61 : dk_at b_Mo_isOnWay 61 t_Mo_isOnWay_61 := dk_go 1 a_Mo_isOnWay_60 rfl
theorem a_Mo_isOnWay_62 : dk_at b_Mo_isOnWay 62 t_Mo_isOnWay_62 := dk_go 1 a_Mo_isOnWay_61 rfl
theorem a_Mo_isOnWay_63 : dk_at b_Mo_isOnWay 63 t_Mo_isOnWay_63 := dk_go 1 a_Mo_isOnWay_62 rfl
theorem a_Mo_isOnWay_66 : dk_at b_Mo_isOnWay 66 t_Mo_isOnWay_66 := dk_go 3 a_Mo_isOnWay_63 rfl
theorem a_Mo_isOnWay_67 : dk_at b_Mo_isOnWay 67 t_Mo_isOnWay_67 := dk_go 1 a_Mo_isOnWay_66 rfl
theorem a_Mo_isOnWay_68 : dk_at b_Mo_isOnWay 68 t_Mo_isOnWay_68 := dk_go 1 a_Mo_isOnWay_67 rfl
theorem a_Mo_isOnWay_71 : dk_at b_Mo_isOnWay 71 t_Mo_isOnWay_71 := dk_go 3 a_Mo_isOnWay_68 rfl
theorem a_Mo_isOnWay_74 : dk_at b_Mo_isOnWay 74 t_Mo_isOnWay_74 := dk_go 3 a_Mo_isOnWay_71 rfl
theorem a_Mo_isOnWay_77 : dk_at b_Mo_isOnWay 77 t_Mo_isOnWay_77 := dk_go 3 a_Mo_isOnWay_74 rfl
theorem a_Mo_isOnWay_80 : dk_at b_Mo_isOnWay 80 t_Mo_isOnWay_80 := dk_go 3 a_Mo_isOnWay_77 rfl
theorem a_Mo_isOnWay_81 : dk_at b_Mo_isOnWay 81 t_Mo_isOnWay_81 := dk_go 1 a_Mo_isOnWay_80 rfl
theorem d_Mo_isOnWay_0 : decode b_Mo_isOnWay 0 = .ok (.iconst 0, 1) := dk_0 a_Mo_isOnWay_0 (dko_3 _)
theorem d_Mo_isOnWay_1 : decode b_Mo_isOnWay 1 = .ok (.istore_n 2, 1) := dk_0 a_Mo_isOnWay_1 (dko_61 _)
theorem d_Mo_isOnWay_2 : decode b_Mo_isOnWay 2 = .ok (.iload_n 2, 1) := dk_0 a_Mo_isOnWay_2 (dko_28 _)
theorem d_Mo_isOnWay_3 : decode b_Mo_isOnWay 3 = .ok (.aload_n 0, 1) := dk_0 a_Mo_isOnWay_3 (dko_42 _)
theorem d_Mo_isOnWay_4 : decode b_Mo_isOnWay 4 = .ok (.getfield 284, 3) := dk_U2 a_Mo_isOnWay_4 (dko_180 _) rfl
theorem d_Mo_isOnWay_7 : decode b_Mo_isOnWay 7 = .ok (.if_icmp .ge 73, 3) := dk_S2 a_Mo_isOnWay_7 (dko_162 _) (by decide +kernel)
theorem d_Mo_isOnWay_10 : decode b_Mo_isOnWay 10 = .ok (.aload_n 0, 1) := dk_0 a_Mo_isOnWay_10 (dko_42 _)
theorem d_Mo_isOnWay_11 : decode b_Mo_isOnWay 11 = .ok (.getfield 83, 3) := dk_U2 a_Mo_isOnWay_11 (dko_180 _) rfl
theorem d_Mo_isOnWay_14 : decode b_Mo_isOnWay 14 = .ok (.iload_n 2, 1) := dk_0 a_Mo_isOnWay_14 (dko_28 _)
theorem d_Mo_isOnWay_15 : decode b_Mo_isOnWay 15 = .ok (.iaload, 1) := dk_0 a_Mo_isOnWay_15 (dko_46 _)
theorem d_Mo_isOnWay_16 : decode b_Mo_isOnWay 16 = .ok (.iload_n 1, 1) := dk_0 a_Mo_isOnWay_16 (dko_27 _)
theorem d_Mo_isOnWay_17 : decode b_Mo_isOnWay 17 = .ok (.if_icmp .eq 13, 3) := dk_S2 a_Mo_isOnWay_17 (dko_159 _) (by decide +kernel)
theorem d_Mo_isOnWay_20 : decode b_Mo_isOnWay 20 = .ok (.aload_n 0, 1) := dk_0 a_Mo_isOnWay_20 (dko_42 _)
theorem d_Mo_isOnWay_21 : decode b_Mo_isOnWay 21 = .ok (.getfield 86, 3) := dk_U2 a_Mo_isOnWay_21 (dko_180 _) rfl
theorem d_Mo_isOnWay_24 : decode b_Mo_isOnWay 24 = .ok (.iload_n 2, 1) := dk_0 a_Mo_isOnWay_24 (dko_28 _)
theorem d_Mo_isOnWay_25 : decode b_Mo_isOnWay 25 = .ok (.iaload, 1) := dk_0 a_Mo_isOnWay_25 (dko_46 _)
theorem d_Mo_isOnWay_26 : decode b_Mo_isOnWay 26 = .ok (.iload_n 1, 1) := dk_0 a_Mo_isOnWay_26 (dko_27 _)
theorem d_Mo_isOnWay_27 : decode b_Mo_isOnWay 27 = .ok (.if_icmp .ne 5, 3) := dk_S2 a_Mo_isOnWay_27 (dko_160 _) (by decide +kernel)
theorem d_Mo_isOnWay_30 : decode b_Mo_isOnWay 30 = .ok (.iconst 1, 1) := dk_0 a_Mo_isOnWay_30 (dko_4 _)
theorem d_Mo_isOnWay_31 : decode b_Mo_isOnWay 31 = .ok (.ireturn, 1) := dk_0 a_Mo_isOnWay_31 (dko_172 _)
theorem d_Mo_isOnWay_32 : decode b_Mo_isOnWay 32 = .ok (.iconst 0, 1) := dk_0 a_Mo_isOnWay_32 (dko_3 _)
theorem d_Mo_isOnWay_33 : decode b_Mo_isOnWay 33 = .ok (.istore_n 3, 1) := dk_0 a_Mo_isOnWay_33 (dko_62 _)
theorem d_Mo_isOnWay_34 : decode b_Mo_isOnWay 34 = .ok (.iload_n 3, 1) := dk_0 a_Mo_isOnWay_34 (dko_29 _)
theorem d_Mo_isOnWay_35 : decode b_Mo_isOnWay 35 = .ok (.aload_n 0, 1) := dk_0 a_Mo_isOnWay_35 (dko_42 _)
theorem d_Mo_isOnWay_36 : decode b_Mo_isOnWay 36 = .ok (.getfield 95, 3) := dk_U2 a_Mo_isOnWay_36 (dko_180 _) rfl
theorem d_Mo_isOnWay_39 : decode b_Mo_isOnWay 39 = .ok (.iload_n 2, 1) := dk_0 a_Mo_isOnWay_39 (dko_28 _)
theorem d_Mo_isOnWay_40 : decode b_Mo_isOnWay 40 = .ok (.iaload, 1) := dk_0 a_Mo_isOnWay_40 (dko_46 _)
theorem d_Mo_isOnWay_41 : decode b_Mo_isOnWay 41 = .ok (.if_icmp .ge 33, 3) := dk_S2 a_Mo_isOnWay_41 (dko_162 _) (by decide +kernel)
theorem d_Mo_isOnWay_44 : decode b_Mo_isOnWay 44 = .ok (.aload_n 0, 1) := dk_0 a_Mo_isOnWay_44 (dko_42 _)
theorem d_Mo_isOnWay_45 : decode b_Mo_isOnWay 45 = .ok (.getfield 278, 3) := dk_U2 a_Mo_isOnWay_45 (dko_180 _) rfl
theorem d_Mo_isOnWay_48 : decode b_Mo_isOnWay 48 = .ok (.aload_n 0, 1) := dk_0 a_Mo_isOnWay_48 (dko_42 _)
theorem d_Mo_isOnWay_49 : decode b_Mo_isOnWay 49 = .ok (.getfield 98, 3) := dk_U2 a_Mo_isOnWay_49 (dko_180 _) rfl
theorem d_Mo_isOnWay_52 : decode b_Mo_isOnWay 52 = .ok (.bipush 24, 2) := dk_S1 a_Mo_isOnWay_52 (dko_16 _) (by decide +kernel)
theorem d_Mo_isOnWay_54 : decode b_Mo_isOnWay 54 = .ok (.iload_n 2, 1) := dk_0 a_Mo_isOnWay_54 (dko_28 _)
theorem d_Mo_isOnWay_55 : decode b_Mo_isOnWay 55 = .ok (.imul, 1) := dk_0 a_Mo_isOnWay_55 (dko_104 _)
theorem d_Mo_isOnWay_56 : decode b_Mo_isOnWay 56 = .ok (.iload_n 3, 1) := dk_0 a_Mo_isOnWay_56 (dko_29 _)
theorem d_Mo_isOnWay_57 : decode b_Mo_isOnWay 57 = .ok (.iadd, 1) := dk_0 a_Mo_isOnWay_57 (dko_96 _)
theorem d_Mo_isOnWay_58 : decode b_Mo_isOnWay 58 = .ok (.iaload, 1) := dk_0 a_Mo_isOnWay_58 (dko_46 _)
theorem d_Mo_isOnWay_59 : decode b_Mo_isOnWay 59 = .ok (.iconst 2, 1) := dk_0 a_Mo_isOnWay_59 (dko_5 _)
theorem d_Mo_isOnWay_60 : decode b_Mo_isOnWay 60 = .ok (.idiv, 1) := dk_0 a_Mo_isOnWay_60 (dko_108 _)
theorem d_Mo_isOnWay_61 : decode b_Mo_isOnWay 61 = .ok (.iadd, 1) := dk_0 a_Mo_isOnWay_61 (dko_96 _)
theorem d_Mo_isOnWay_62 : decode b_Mo_isOnWay 62 = .ok (.iload_n 1, 1) := dk_0 a_Mo_isOnWay_62 (dko_27 _)
theorem d_Mo_isOnWay_63 : decode b_Mo_isOnWay 63 = .ok (.if_icmp .ne 5, 3) := dk_S2 a_Mo_isOnWay_63 (dko_160 _) (by decide +kernel)
theorem d_Mo_isOnWay_66 : decode b_Mo_isOnWay 66 = .ok (.iconst 1, 1) := dk_0 a_Mo_isOnWay_66 (dko_4 _)
theorem d_Mo_isOnWay_67 : decode b_Mo_isOnWay 67 = .ok (.ireturn, 1) := dk_0 a_Mo_isOnWay_67 (dko_172 _)
theorem d_Mo_isOnWay_68 : decode b_Mo_isOnWay 68 = .ok (.iinc 3 1, 3) := dk_US a_Mo_isOnWay_68 (dko_132 _) (by decide +kernel)
theorem d_Mo_isOnWay_71 : decode b_Mo_isOnWay 71 = .ok (.goto (-37), 3) := dk_S2 a_Mo_isOnWay_71 (dko_167 _) (by decide +kernel)
theorem d_Mo_isOnWay_74 : decode b_Mo_isOnWay 74 = .ok (.iinc 2 1, 3) := dk_US a_Mo_isOnWay_74 (dko_132 _) (by decide +kernel)
theorem d_Mo_isOnWay_77 : decode b_Mo_isOnWay 77 = .ok (.goto (-75), 3) := dk_S2 a_Mo_isOnWay_77 (dko_167 _) (by decide +kernel)
theorem d_Mo_isOnWay_80 : decode b_Mo_isOnWay 80 = .ok (.iconst 0, 1) := dk_0 a_Mo_isOnWay_80 (dko_3 _)
theorem d_Mo_isOnWay_81 : decode b_Mo_isOnWay 81 = .ok (.ireturn, 1) := dk_0 a_Mo_isOnWay_81 (dko_172 _)
set_option maxHeartbeats 4000000 in
set_option maxRecDepth 100000 in
theorem ok_Mo_isOnWay (pc : Nat) : OpS mt mi_Mo_isOnWay pc (cs_Mo_isOnWay pc) := (os_n (os_n (os_n (os_n (os_n (os_l (so_iconst d_Mo_isOnWay_0 (by decide))) (os_n (os_l (so_istore_n d_Mo_isOnWay_1 rfl (by decide))) (os_l (so_iload_n d_Mo_isOnWay_2 rfl)))) (os_n (os_l (so_aload_n d_Mo_isOnWay_3 rfl)) (os_n (os_l (so_get (C := R_Mo) (T := F_Mo) (N := 87) (j := 26) in_Mo rfl (by decide) mw_1820 d_Mo_isOnWay_4)) (os_l (so_icge d_Mo_isOnWay_7 (by decide)))))) (os_n (os_n (os_l (so_aload_n d_Mo_isOnWay_10 rfl)) (os_n (os_l (so_get (C := R_Mo) (T := F_Mo) (N := 87) (j := 27) in_Mo rfl (by decide) mw_1821 d_Mo_isOnWay_11)) (os_l (so_iload_n d_Mo_isOnWay_14 rfl)))) (os_n (os_l (so_iaload d_Mo_isOnWay_15)) (os_n (os_l (so_iload_n d_Mo_isOnWay_16 rfl)) (os_l (so_iceq d_Mo_isOnWay_17 (by decide))))))) (os_n (os_n (os_n (os_l (so_aload_n d_Mo_isOnWay_20 rfl)) (os_n (os_l (so_get (C := R_Mo) (T := F_Mo) (N := 87) (j := 28) in_Mo rfl (by decide) mw_1822 d_Mo_isOnWay_21)) (os_l (so_iload_n d_Mo_isOnWay_24 rfl)))) (os_n (os_l (so_iaload d_Mo_isOnWay_25)) (os_n (os_l (so_iload_n d_Mo_isOnWay_26 rfl)) (os_l (so_icne d_Mo_isOnWay_27 (by decide)))))) (os_n (os_n (os_l (so_iconst d_Mo_isOnWay_30 (by decide))) (os_n (os_l (so_zreturn rfl d_Mo_isOnWay_31)) (os_l (so_iconst d_Mo_isOnWay_32 (by decide))))) (os_n (os_n (os_l (so_istore_n d_Mo_isOnWay_33 rfl (by decide))) (os_l (so_iload_n d_Mo_isOnWay_34 rfl))) (os_n (os_l (so_aload_n d_Mo_isOnWay_35 rfl)) (os_l (so_get (C := R_Mo) (T := F_Mo) (N := 87) (j := 31) in_Mo rfl (by decide) mw_1825 d_Mo_isOnWay_36))))))) (os_n (os_n (os_n (os_n (os_l (so_iload_n d_Mo_isOnWay_39 rfl)) (os_n (os_l (so_iaload d_Mo_isOnWay_40)) (os_l (so_icge d_Mo_isOnWay_41 (by decide))))) (os_n (os_l (so_aload_n d_Mo_isOnWay_44 rfl)) (os_n (os_l (so_get (C := R_Mo) (T := F_Mo) (N := 87) (j := 4) in_Mo rfl (by decide) mw_1798 d_Mo_isOnWay_45)) (os_l (so_aload_n d_Mo_isOnWay_48 rfl))))) (os_n (os_n (os_l (so_get (C := R_Mo) (T := F_Mo) (N := 87) (j := 32) in_Mo rfl (by decide) mw_1826 d_Mo_isOnWay_49)) (os_n (os_l (so_bipush d_Mo_isOnWay_52 (by decide))) (os_l (so_iload_n d_Mo_isOnWay_54 rfl)))) (os_n (os_n (os_l (so_imul d_Mo_isOnWay_55)) (os_l (so_iload_n d_Mo_isOnWay_56 rfl))) (os_n (os_l (so_iadd d_Mo_isOnWay_57)) (os_l (so_iaload d_Mo_isOnWay_58)))))) (os_n (os_n (os_n (os_l (so_iconst d_Mo_isOnWay_59 (by decide))) (os_n (os_l (so_idiv d_Mo_isOnWay_60)) (os_l (so_iadd d_Mo_isOnWay_61)))) (os_n (os_l (so_iload_n d_Mo_isOnWay_62 rfl)) (os_n (os_l (so_icne d_Mo_isOnWay_63 (by decide))) (os_l (so_iconst d_Mo_isOnWay_66 (by decide)))))) (os_n (os_n (os_l (so_zreturn rfl d_Mo_isOnWay_67)) (os_n (os_l (so_iinc d_Mo_isOnWay_68 (by decide) (by decide))) (os_l (so_goto d_Mo_isOnWay_71 (by decide))))) (os_n (os_n (os_l (so_iinc d_Mo_isOnWay_74 (by decide) (by decide))) (os_l (so_goto d_Mo_isOnWay_77 (by decide)))) (os_n (os_l (so_iconst d_Mo_isOnWay_80 (by decide))) (os_l (so_zreturn rfl d_Mo_isOnWay_81))))))))
abbrev t_Mo_come_41 : List UInt8 := 177 :: []
abbrev t_Mo_come_40 : List UInt8 := 79 :: t_Mo_come_41
abbrev t_Mo_come_39 : List UInt8 := 96 :: t_Mo_come_40
abbrev t_Mo_come_38 : List UInt8 := 4 :: t_Mo_come_39
abbrev t_Mo_come_37 : List UInt8 := 46 :: t_Mo_come_38
abbrev t_Mo_come_36 : List UInt8 := 92 :: t_Mo_come_37
abbrev t_Mo_come_35 : List UInt8 := 27 :: t_Mo_come_36
abbrev t_Mo_come_32 : List UInt8 := 180 :: 0 :: 34 :: t_Mo_come_35
abbrev t_Mo_come_31 : List UInt8 := 42 :: t_Mo_come_32
abbrev t_Mo_come_30 : List UInt8 := 79 :: t_Mo_come_31
abbrev t_Mo_come_28 : List UInt8 := 16 :: 15 :: t_Mo_come_30
abbrev t_Mo_come_25 : List UInt8 := 167 :: 0 :: 5 :: t_Mo_come_28
abbrev t_Mo_come_24 : List UInt8 := 28 :: t_Mo_come_25
abbrev t_Mo_come_21 : List UInt8 := 160 :: 0 :: 7 :: t_Mo_come_24
abbrev t_Mo_come_20 : List UInt8 := 28 :: t_Mo_come_21
abbrev t_Mo_come_19 : List UInt8 := 46 :: t_Mo_come_20
abbrev t_Mo_come_18 : List UInt8 := 27 :: t_Mo_come_19
abbrev t_Mo_come_15 : List UInt8 := 180 :: 0 :: 37 :: t_Mo_come_18
abbrev t_Mo_come_14 : List UInt8 := 42 :: t_Mo_come_15
abbrev t_Mo_come_11 : List UInt8 := 153 :: 0 :: 13 :: t_Mo_come_14
abbrev t_Mo_come_10 : List UInt8 := 46 :: t_Mo_come_11
abbrev t_Mo_come_9 : List UInt8 := 27 :: t_Mo_come_10
abbrev t_Mo_come_6 : List UInt8 := 180 :: 0 :: 34 :: t_Mo_come_9
abbrev t_Mo_come_5 : List UInt8 := 42 :: t_Mo_come_6
abbrev t_Mo_come_4 : List UInt8 := 27 :: t_Mo_come_5
abbrev t_Mo_come_1 : List UInt8 := 180 :: 0 :: 37 :: t_Mo_come_4
abbrev t_Mo_come_0 : List UInt8 := 42 :: t_Mo_come_1
theorem a_Mo_come_0 : dk_at b_Mo_come 0 t_Mo_come_0 := dk_start (by decide +kernel)
theorem a_Mo_come_1 : dk_at b_Mo_come 1 t_Mo_come_1 := dk_go 1 a_Mo_come_0 rfl
theorem a_Mo_come_4 : dk_at b_Mo_come 4 t_Mo_come_4 := dk_go 3 a_Mo_come_1 rfl
theorem a_Mo_come_5 : dk_at b_Mo_come 5 t_Mo_come_5 := dk_go 1 a_Mo_come_4 rfl
theorem a_Mo_come_6 : dk_at b_Mo_come 6 t_Mo_come_6 := dk_go 1 a_Mo_come_5 rfl
theorem a_Mo_come_9 : dk_at b_Mo_come 9 t_Mo_come_9 := dk_go 3 a_Mo_come_6 rfl
theorem a_Mo_come_10 : dk_at b_Mo_come 10 t_Mo_come_10 := dk_go 1 a_Mo_come_9 rfl
theorem a_Mo_come_11 : dk_at b_Mo_come 11 t_Mo_come_11 := dk_go 1 a_Mo_come_10 rfl
theorem a_Mo_come_14 : dk_at b_Mo_come 14 t_Mo_come_14 := dk_go 3 a_Mo_come_11 rfl
theorem a_Mo_come_15 : dk_at b_Mo_come 15 t_Mo_come_15 := dk_go 1 a_Mo_come_14 rfl
theorem a_Mo_come_18 : dk_at b_Mo_come 18 t_Mo_come_18 := dk_go 3 a_Mo_come_15 rfl
theorem a_Mo_come_19 : dk_at b_Mo_come 19 t_Mo_come_19 := dk_go 1 a_Mo_come_18 rfl
theorem a_Mo_come_20 : dk_at b_Mo_come 20 t_Mo_come_20 := dk_go 1 a_Mo_come_19 rfl
theorem a_Mo_come_21 : dk_at b_Mo_come 21 t_Mo_come_21 := dk_go 1 a_Mo_come_20 rfl
theorem a_Mo_come_24 : dk_at b_Mo_come 24 t_Mo_come_24 := dk_go 3 a_Mo_come_21 rfl
theorem a_Mo_come_25 : dk_at b_Mo_come 25 t_Mo_come_25 := dk_go 1 a_Mo_come_24 rfl
theorem a_Mo_come_28 : dk_at b_Mo_come 28 t_Mo_come_28 := dk_go 3 a_Mo_come_25 rfl
theorem a_Mo_come_30 : dk_at b_Mo_come 30 t_Mo_come_30 := dk_go 2 a_Mo_come_28 rfl
theorem a_Mo_come_31 : dk_at b_Mo_come 31 t_Mo_come_31 := dk_go 1 a_Mo_come_30 rfl
theorem a_Mo_come_32 : dk_at b_Mo_come 32 t_Mo_come_32 := dk_go 1 a_Mo_come_31 rfl
theorem a_Mo_come_35 : dk_at b_Mo_come 35 t_Mo_come_35 := dk_go 3 a_Mo_come_32 rfl
theorem a_Mo_come_36 : dk_at b_Mo_come 36 t_Mo_come_36 := dk_go 1 a_Mo_come_35 rfl
theorem a_Mo_come_37 : dk_at b_Mo_come 37 t_Mo_come_37 := dk_go 1 a_Mo_come_36 rfl
theorem a_Mo_come_38 : dk_at b_Mo_come 38 t_Mo_come_38 := dk_go 1 a_Mo_come_37 rfl
theorem a_Mo_come_39 : dk_at b_Mo_come 39 t_Mo_come_39 := dk_go 1 a_Mo_come_38 rfl
theorem a_Mo_come_40 : dk_at b_Mo_come 40 t_Mo_come_40 := dk_go 1 a_Mo_come_39 rfl
theorem a_Mo_come_41 : dk_at b_Mo_come 41 t_Mo_come_41 := dk_go 1 a_Mo_come_40 rfl
theorem d_Mo_come_0 : decode b_Mo_come 0 = .ok (.aload_n 0, 1) := dk_0 a_Mo_come_0 (dko_42 _)
theorem d_Mo_come_1 : decode b_Mo_come 1 = .ok (.getfield 37, 3) := dk_U2 a_Mo_come_1 (dko_180 _) rfl
theorem d_Mo_come_4 : decode b_Mo_come 4 = .ok (.iload_n 1, 1) := dk_0 a_Mo_come_4 (dko_27 _)
theorem d_Mo_come_5 : decode b_Mo_come 5 = .ok (.aload_n 0, 1) := dk_0 a_Mo_come_5 (dko_42 _)
theorem d_Mo_come_6 : decode b_Mo_come 6 = .ok (.getfield 34, 3) := dk_U2 a_Mo_come_6 (dko_180 _) rfl
theorem d_Mo_come_9 : decode b_Mo_come 9 = .ok (.iload_n 1, 1) := dk_0 a_Mo_come_9 (dko_27 _)
theorem d_Mo_come_10 : decode b_Mo_come 10 = .ok (.iaload, 1) := dk_0 a_Mo_come_10 (dko_46 _)
theorem d_Mo_come_11 : decode b_Mo_come 11 = .ok (.ifCond .eq 13, 3) := dk_S2 a_Mo_come_11 (dko_153 _) (by decide +kernel)
theorem d_Mo_come_14 : decode b_Mo_come 14 = .ok (.aload_n 0, 1) := dk_0 a_Mo_come_14 (dko_42 _)
theorem d_Mo_come_15 : decode b_Mo_come 15 = .ok (.getfield 37, 3) := dk_U2 a_Mo_come_15 (dko_180 _) rfl
theorem d_Mo_come_18 : decode b_Mo_come 18 = .ok (.iload_n 1, 1) := dk_0 a_Mo_come_18 (dko_27 _)
theorem d_Mo_come_19 : decode b_Mo_come 19 = .ok (.iaload, 1) := dk_0 a_Mo_come_19 (dko_46 _)
theorem d_Mo_come_20 : decode b_Mo_come 20 = .ok (.iload_n 2, 1) := dk_0 a_Mo_come_20 (dko_28 _)
theorem d_Mo_come_21 : decode b_Mo_come 21 = .ok (.if_icmp .ne 7, 3) := dk_S2 a_Mo_come_21 (dko_160 _) (by decide +kernel)
theorem d_Mo_come_24 : decode b_Mo_come 24 = .ok (.iload_n 2, 1) := dk_0 a_Mo_come_24 (dko_28 _)
theorem d_Mo_come_25 : decode b_Mo_come 25 = .ok (.goto 5, 3) := dk_S2 a_Mo_come_25 (dko_167 _) (by decide +kernel)
theorem d_Mo_come_28 : decode b_Mo_come 28 = .ok (.bipush 15, 2) := dk_S1 a_Mo_come_28 (dko_16 _) (by decide +kernel)
theorem d_Mo_come_30 : decode b_Mo_come 30 = .ok (.iastore, 1) := dk_0 a_Mo_come_30 (dko_79 _)
theorem d_Mo_come_31 : decode b_Mo_come 31 = .ok (.aload_n 0, 1) := dk_0 a_Mo_come_31 (dko_42 _)
theorem d_Mo_come_32 : decode b_Mo_come 32 = .ok (.getfield 34, 3) := dk_U2 a_Mo_come_32 (dko_180 _) rfl
theorem d_Mo_come_35 : decode b_Mo_come 35 = .ok (.iload_n 1, 1) := dk_0 a_Mo_come_35 (dko_27 _)
theorem d_Mo_come_36 : decode b_Mo_come 36 = .ok (.dup2, 1) := dk_0 a_Mo_come_36 (dko_92 _)
theorem d_Mo_come_37 : decode b_Mo_come 37 = .ok (.iaload, 1) := dk_0 a_Mo_come_37 (dko_46 _)
theorem d_Mo_come_38 : decode b_Mo_come 38 = .ok (.iconst 1, 1) := dk_0 a_Mo_come_38 (dko_4 _)
theorem d_Mo_come_39 : decode b_Mo_come 39 = .ok (.iadd, 1) := dk_0 a_Mo_come_39 (dko_96 _)
theorem d_Mo_come_40 : decode b_Mo_come 40 = .ok (.iastore, 1) := dk_0 a_Mo_come_40 (dko_79 _)
theorem d_Mo_come_41 : decode b_Mo_come 41 = .ok (.return_, 1) := dk_0 a_Mo_come_41 (dko_177 _)
set_option maxHeartbeats 4000000 in
set_option maxRecDepth 100000 in
theorem ok_Mo_come (pc : Nat) : OpS mt mi_Mo_come pc (cs_Mo_come pc) := (os_n (os_n (os_n (os_n (os_l (so_aload_n d_Mo_come_0 rfl)) (os_n (os_l (so_get (C := R_Mo) (T := F_Mo) (N := 87) (j := 8) in_Mo rfl (by decide) mw_1802 d_Mo_come_1)) (os_l (so_iload_n d_Mo_come_4 rfl)))) (os_n (os_l (so_aload_n d_Mo_come_5 rfl)) (os_n (os_l (so_get (C := R_Mo) (T := F_Mo) (N := 87) (j := 7) in_Mo rfl (by decide) mw_1801 d_Mo_come_6)) (os_l (so_iload_n d_Mo_come_9 rfl))))) (os_n (os_n (os_l (so_iaload d_Mo_come_10)) (os_n (os_l (so_ifeq d_Mo_come_11 (by decide))) (os_l (so_aload_n d_Mo_come_14 rfl)))) (os_n (os_n (os_l (so_get (C := R_Mo) (T := F_Mo) (N := 87) (j := 8) in_Mo rfl (by decide) mw_1802 d_Mo_come_15)) (os_l (so_iload_n d_Mo_come_18 rfl))) (os_n (os_l (so_iaload d_Mo_come_19)) (os_l (so_iload_n d_Mo_come_20 rfl)))))) (os_n (os_n (os_n (os_l (so_icne d_Mo_come_21 (by decide))) (os_n (os_l (so_iload_n d_Mo_come_24 rfl)) (os_l (so_goto d_Mo_come_25 (by decide))))) (os_n (os_n (os_l (so_bipush d_Mo_come_28 (by decide))) (os_l (so_iastore d_Mo_come_30))) (os_n (os_l (so_aload_n d_Mo_come_31 rfl)) (os_l (so_get (C := R_Mo) (T := F_Mo) (N := 87) (j := 7) in_Mo rfl (by decide) mw_1801 d_Mo_come_32))))) (os_n (os_n (os_l (so_iload_n d_Mo_come_35 rfl)) (os_n (os_l (so_dup2 d_Mo_come_36)) (os_l (so_iaload d_Mo_come_37)))) (os_n (os_n (os_l (so_iconst d_Mo_come_38 (by decide))) (os_l (so_iadd d_Mo_come_39))) (os_n (os_l (so_iastore d_Mo_come_40)) (os_l (so_return rfl d_Mo_come_41)))))))
abbrev t_Mo_flow_494 : List UInt8 := 177 :: []
abbrev t_Mo_flow_491 : List UInt8 := 167 :: 255 :: 46 :: t_Mo_flow_494
abbrev t_Mo_flow_488 : List UInt8 := 132 :: 8 :: 1 :: t_Mo_flow_491
abbrev t_Mo_flow_485 : List UInt8 := 167 :: 255 :: 171 :: t_Mo_flow_488
abbrev t_Mo_flow_482 : List UInt8 := 132 :: 12 :: 1 :: t_Mo_flow_485
abbrev t_Mo_flow_479 : List UInt8 := 132 :: 7 :: 1 :: t_Mo_flow_482
abbrev t_Mo_flow_478 : List UInt8 := 84 :: t_Mo_flow_479
abbrev t_Mo_flow_477 : List UInt8 := 145 :: t_Mo_flow_478
abbrev t_Mo_flow_475 : List UInt8 := 21 :: 13 :: t_Mo_flow_477
abbrev t_Mo_flow_474 : List UInt8 := 96 :: t_Mo_flow_475
abbrev t_Mo_flow_473 : List UInt8 := 100 :: t_Mo_flow_474
abbrev t_Mo_flow_471 : List UInt8 := 21 :: 12 :: t_Mo_flow_473
abbrev t_Mo_flow_470 : List UInt8 := 100 :: t_Mo_flow_471
abbrev t_Mo_flow_469 : List UInt8 := 4 :: t_Mo_flow_470
abbrev t_Mo_flow_468 : List UInt8 := 46 :: t_Mo_flow_469
abbrev t_Mo_flow_466 : List UInt8 := 21 :: 10 :: t_Mo_flow_468
abbrev t_Mo_flow_463 : List UInt8 := 180 :: 0 :: 46 :: t_Mo_flow_466
abbrev t_Mo_flow_462 : List UInt8 := 42 :: t_Mo_flow_463
abbrev t_Mo_flow_459 : List UInt8 := 167 :: 0 :: 15 :: t_Mo_flow_462
abbrev t_Mo_flow_457 : List UInt8 := 21 :: 12 :: t_Mo_flow_459
abbrev t_Mo_flow_454 : List UInt8 := 154 :: 0 :: 8 :: t_Mo_flow_457
abbrev t_Mo_flow_453 : List UInt8 := 112 :: t_Mo_flow_454
abbrev t_Mo_flow_452 : List UInt8 := 5 :: t_Mo_flow_453
abbrev t_Mo_flow_450 : List UInt8 := 21 :: 9 :: t_Mo_flow_452
abbrev t_Mo_flow_449 : List UInt8 := 104 :: t_Mo_flow_450
abbrev t_Mo_flow_447 : List UInt8 := 21 :: 10 :: t_Mo_flow_449
abbrev t_Mo_flow_444 : List UInt8 := 17 :: 0 :: 200 :: t_Mo_flow_447
abbrev t_Mo_flow_441 : List UInt8 := 180 :: 0 :: 55 :: t_Mo_flow_444
abbrev t_Mo_flow_440 : List UInt8 := 42 :: t_Mo_flow_441
abbrev t_Mo_flow_438 : List UInt8 := 54 :: 13 :: t_Mo_flow_440
abbrev t_Mo_flow_437 : List UInt8 := 51 :: t_Mo_flow_438
abbrev t_Mo_flow_436 : List UInt8 := 100 :: t_Mo_flow_437
abbrev t_Mo_flow_434 : List UInt8 := 21 :: 5 :: t_Mo_flow_436
abbrev t_Mo_flow_432 : List UInt8 := 21 :: 7 :: t_Mo_flow_434
abbrev t_Mo_flow_429 : List UInt8 := 180 :: 0 :: 119 :: t_Mo_flow_432
abbrev t_Mo_flow_428 : List UInt8 := 42 :: t_Mo_flow_429
abbrev t_Mo_flow_425 : List UInt8 := 167 :: 0 :: 13 :: t_Mo_flow_428
abbrev t_Mo_flow_424 : List UInt8 := 46 :: t_Mo_flow_425
abbrev t_Mo_flow_423 : List UInt8 := 27 :: t_Mo_flow_424
abbrev t_Mo_flow_420 : List UInt8 := 180 :: 0 :: 89 :: t_Mo_flow_423
abbrev t_Mo_flow_419 : List UInt8 := 42 :: t_Mo_flow_420
abbrev t_Mo_flow_416 : List UInt8 := 162 :: 0 :: 12 :: t_Mo_flow_419
abbrev t_Mo_flow_414 : List UInt8 := 21 :: 5 :: t_Mo_flow_416
abbrev t_Mo_flow_412 : List UInt8 := 21 :: 7 :: t_Mo_flow_414
abbrev t_Mo_flow_409 : List UInt8 := 162 :: 0 :: 79 :: t_Mo_flow_412
abbrev t_Mo_flow_408 : List UInt8 := 46 :: t_Mo_flow_409
abbrev t_Mo_flow_406 : List UInt8 := 21 :: 10 :: t_Mo_flow_408
abbrev t_Mo_flow_403 : List UInt8 := 180 :: 0 :: 46 :: t_Mo_flow_406
abbrev t_Mo_flow_402 : List UInt8 := 42 :: t_Mo_flow_403
abbrev t_Mo_flow_400 : List UInt8 := 21 :: 12 :: t_Mo_flow_402
abbrev t_Mo_flow_398 : List UInt8 := 54 :: 12 :: t_Mo_flow_400
abbrev t_Mo_flow_397 : List UInt8 := 3 :: t_Mo_flow_398
abbrev t_Mo_flow_394 : List UInt8 := 182 :: 1 :: 35 :: t_Mo_flow_397
abbrev t_Mo_flow_393 : List UInt8 := 96 :: t_Mo_flow_394
abbrev t_Mo_flow_391 : List UInt8 := 21 :: 10 :: t_Mo_flow_393
abbrev t_Mo_flow_388 : List UInt8 := 180 :: 1 :: 22 :: t_Mo_flow_391
abbrev t_Mo_flow_387 : List UInt8 := 42 :: t_Mo_flow_388
abbrev t_Mo_flow_386 : List UInt8 := 42 :: t_Mo_flow_387
abbrev t_Mo_flow_385 : List UInt8 := 79 :: t_Mo_flow_386
abbrev t_Mo_flow_384 : List UInt8 := 46 :: t_Mo_flow_385
abbrev t_Mo_flow_383 : List UInt8 := 27 :: t_Mo_flow_384
abbrev t_Mo_flow_380 : List UInt8 := 180 :: 0 :: 89 :: t_Mo_flow_383
abbrev t_Mo_flow_379 : List UInt8 := 42 :: t_Mo_flow_380
abbrev t_Mo_flow_378 : List UInt8 := 96 :: t_Mo_flow_379
abbrev t_Mo_flow_376 : List UInt8 := 21 :: 10 :: t_Mo_flow_378
abbrev t_Mo_flow_373 : List UInt8 := 180 :: 1 :: 22 :: t_Mo_flow_376
abbrev t_Mo_flow_372 : List UInt8 := 42 :: t_Mo_flow_373
abbrev t_Mo_flow_369 : List UInt8 := 180 :: 0 :: 58 :: t_Mo_flow_372
abbrev t_Mo_flow_368 : List UInt8 := 42 :: t_Mo_flow_369
abbrev t_Mo_flow_365 : List UInt8 := 153 :: 0 :: 32 :: t_Mo_flow_368
abbrev t_Mo_flow_363 : List UInt8 := 21 :: 11 :: t_Mo_flow_365
abbrev t_Mo_flow_360 : List UInt8 := 167 :: 255 :: 214 :: t_Mo_flow_363
abbrev t_Mo_flow_357 : List UInt8 := 132 :: 12 :: 1 :: t_Mo_flow_360
abbrev t_Mo_flow_355 : List UInt8 := 54 :: 11 :: t_Mo_flow_357
abbrev t_Mo_flow_354 : List UInt8 := 3 :: t_Mo_flow_355
abbrev t_Mo_flow_351 : List UInt8 := 167 :: 0 :: 4 :: t_Mo_flow_354
abbrev t_Mo_flow_350 : List UInt8 := 4 :: t_Mo_flow_351
abbrev t_Mo_flow_347 : List UInt8 := 158 :: 0 :: 7 :: t_Mo_flow_350
abbrev t_Mo_flow_346 : List UInt8 := 51 :: t_Mo_flow_347
abbrev t_Mo_flow_345 : List UInt8 := 100 :: t_Mo_flow_346
abbrev t_Mo_flow_343 : List UInt8 := 21 :: 12 :: t_Mo_flow_345
abbrev t_Mo_flow_341 : List UInt8 := 21 :: 7 :: t_Mo_flow_343
abbrev t_Mo_flow_338 : List UInt8 := 180 :: 0 :: 119 :: t_Mo_flow_341
abbrev t_Mo_flow_337 : List UInt8 := 42 :: t_Mo_flow_338
abbrev t_Mo_flow_334 : List UInt8 := 161 :: 0 :: 16 :: t_Mo_flow_337
abbrev t_Mo_flow_332 : List UInt8 := 21 :: 12 :: t_Mo_flow_334
abbrev t_Mo_flow_330 : List UInt8 := 21 :: 7 :: t_Mo_flow_332
abbrev t_Mo_flow_327 : List UInt8 := 154 :: 0 :: 36 :: t_Mo_flow_330
abbrev t_Mo_flow_325 : List UInt8 := 21 :: 11 :: t_Mo_flow_327
abbrev t_Mo_flow_322 : List UInt8 := 163 :: 0 :: 41 :: t_Mo_flow_325
abbrev t_Mo_flow_320 : List UInt8 := 21 :: 5 :: t_Mo_flow_322
abbrev t_Mo_flow_318 : List UInt8 := 21 :: 12 :: t_Mo_flow_320
abbrev t_Mo_flow_316 : List UInt8 := 54 :: 12 :: t_Mo_flow_318
abbrev t_Mo_flow_315 : List UInt8 := 4 :: t_Mo_flow_316
abbrev t_Mo_flow_313 : List UInt8 := 54 :: 11 :: t_Mo_flow_315
abbrev t_Mo_flow_312 : List UInt8 := 3 :: t_Mo_flow_313
abbrev t_Mo_flow_310 : List UInt8 := 54 :: 10 :: t_Mo_flow_312
abbrev t_Mo_flow_309 : List UInt8 := 108 :: t_Mo_flow_310
abbrev t_Mo_flow_308 : List UInt8 := 5 :: t_Mo_flow_309
abbrev t_Mo_flow_306 : List UInt8 := 21 :: 9 :: t_Mo_flow_308
abbrev t_Mo_flow_304 : List UInt8 := 54 :: 9 :: t_Mo_flow_306
abbrev t_Mo_flow_303 : List UInt8 := 46 :: t_Mo_flow_304
abbrev t_Mo_flow_302 : List UInt8 := 96 :: t_Mo_flow_303
abbrev t_Mo_flow_300 : List UInt8 := 21 :: 8 :: t_Mo_flow_302
abbrev t_Mo_flow_299 : List UInt8 := 104 :: t_Mo_flow_300
abbrev t_Mo_flow_298 : List UInt8 := 27 :: t_Mo_flow_299
abbrev t_Mo_flow_296 : List UInt8 := 16 :: 24 :: t_Mo_flow_298
abbrev t_Mo_flow_293 : List UInt8 := 180 :: 0 :: 98 :: t_Mo_flow_296
abbrev t_Mo_flow_292 : List UInt8 := 42 :: t_Mo_flow_293
abbrev t_Mo_flow_289 : List UInt8 := 162 :: 0 :: 205 :: t_Mo_flow_292
abbrev t_Mo_flow_288 : List UInt8 := 46 :: t_Mo_flow_289
abbrev t_Mo_flow_287 : List UInt8 := 27 :: t_Mo_flow_288
abbrev t_Mo_flow_284 : List UInt8 := 180 :: 0 :: 95 :: t_Mo_flow_287
abbrev t_Mo_flow_283 : List UInt8 := 42 :: t_Mo_flow_284
abbrev t_Mo_flow_281 : List UInt8 := 21 :: 8 :: t_Mo_flow_283
abbrev t_Mo_flow_279 : List UInt8 := 54 :: 8 :: t_Mo_flow_281
abbrev t_Mo_flow_278 : List UInt8 := 3 :: t_Mo_flow_279
abbrev t_Mo_flow_276 : List UInt8 := 54 :: 7 :: t_Mo_flow_278
abbrev t_Mo_flow_275 : List UInt8 := 3 :: t_Mo_flow_276
abbrev t_Mo_flow_272 : List UInt8 := 167 :: 255 :: 114 :: t_Mo_flow_275
abbrev t_Mo_flow_269 : List UInt8 := 132 :: 5 :: 1 :: t_Mo_flow_272
abbrev t_Mo_flow_266 : List UInt8 := 182 :: 1 :: 153 :: t_Mo_flow_269
abbrev t_Mo_flow_265 : List UInt8 := 29 :: t_Mo_flow_266
abbrev t_Mo_flow_264 : List UInt8 := 42 :: t_Mo_flow_265
abbrev t_Mo_flow_261 : List UInt8 := 182 :: 1 :: 150 :: t_Mo_flow_264
abbrev t_Mo_flow_259 : List UInt8 := 21 :: 7 :: t_Mo_flow_261
abbrev t_Mo_flow_258 : List UInt8 := 29 :: t_Mo_flow_259
abbrev t_Mo_flow_257 : List UInt8 := 42 :: t_Mo_flow_258
abbrev t_Mo_flow_254 : List UInt8 := 158 :: 0 :: 15 :: t_Mo_flow_257
abbrev t_Mo_flow_252 : List UInt8 := 21 :: 7 :: t_Mo_flow_254
abbrev t_Mo_flow_251 : List UInt8 := 79 :: t_Mo_flow_252
abbrev t_Mo_flow_250 : List UInt8 := 100 :: t_Mo_flow_251
abbrev t_Mo_flow_249 : List UInt8 := 4 :: t_Mo_flow_250
abbrev t_Mo_flow_248 : List UInt8 := 46 :: t_Mo_flow_249
abbrev t_Mo_flow_247 : List UInt8 := 92 :: t_Mo_flow_248
abbrev t_Mo_flow_246 : List UInt8 := 28 :: t_Mo_flow_247
abbrev t_Mo_flow_243 : List UInt8 := 180 :: 0 :: 34 :: t_Mo_flow_246
abbrev t_Mo_flow_242 : List UInt8 := 42 :: t_Mo_flow_243
abbrev t_Mo_flow_239 : List UInt8 := 153 :: 0 :: 33 :: t_Mo_flow_242
abbrev t_Mo_flow_237 : List UInt8 := 21 :: 6 :: t_Mo_flow_239
abbrev t_Mo_flow_235 : List UInt8 := 54 :: 6 :: t_Mo_flow_237
abbrev t_Mo_flow_234 : List UInt8 := 3 :: t_Mo_flow_235
abbrev t_Mo_flow_231 : List UInt8 := 167 :: 0 :: 4 :: t_Mo_flow_234
abbrev t_Mo_flow_230 : List UInt8 := 4 :: t_Mo_flow_231
abbrev t_Mo_flow_227 : List UInt8 := 153 :: 0 :: 7 :: t_Mo_flow_230
abbrev t_Mo_flow_224 : List UInt8 := 182 :: 1 :: 144 :: t_Mo_flow_227
abbrev t_Mo_flow_223 : List UInt8 := 29 :: t_Mo_flow_224
abbrev t_Mo_flow_221 : List UInt8 := 21 :: 7 :: t_Mo_flow_223
abbrev t_Mo_flow_220 : List UInt8 := 42 :: t_Mo_flow_221
abbrev t_Mo_flow_217 : List UInt8 := 162 :: 0 :: 17 :: t_Mo_flow_220
abbrev t_Mo_flow_216 : List UInt8 := 46 :: t_Mo_flow_217
abbrev t_Mo_flow_215 : List UInt8 := 29 :: t_Mo_flow_216
abbrev t_Mo_flow_212 : List UInt8 := 180 :: 0 :: 31 :: t_Mo_flow_215
abbrev t_Mo_flow_211 : List UInt8 := 42 :: t_Mo_flow_212
abbrev t_Mo_flow_210 : List UInt8 := 46 :: t_Mo_flow_211
abbrev t_Mo_flow_209 : List UInt8 := 29 :: t_Mo_flow_210
abbrev t_Mo_flow_206 : List UInt8 := 180 :: 0 :: 34 :: t_Mo_flow_209
abbrev t_Mo_flow_205 : List UInt8 := 42 :: t_Mo_flow_206
abbrev t_Mo_flow_202 : List UInt8 := 153 :: 0 :: 28 :: t_Mo_flow_205
abbrev t_Mo_flow_200 : List UInt8 := 21 :: 7 :: t_Mo_flow_202
abbrev t_Mo_flow_197 : List UInt8 := 160 :: 0 :: 37 :: t_Mo_flow_200
abbrev t_Mo_flow_196 : List UInt8 := 46 :: t_Mo_flow_197
abbrev t_Mo_flow_195 : List UInt8 := 27 :: t_Mo_flow_196
abbrev t_Mo_flow_192 : List UInt8 := 180 :: 0 :: 89 :: t_Mo_flow_195
abbrev t_Mo_flow_191 : List UInt8 := 42 :: t_Mo_flow_192
abbrev t_Mo_flow_190 : List UInt8 := 46 :: t_Mo_flow_191
abbrev t_Mo_flow_189 : List UInt8 := 28 :: t_Mo_flow_190
abbrev t_Mo_flow_186 : List UInt8 := 180 :: 0 :: 37 :: t_Mo_flow_189
abbrev t_Mo_flow_185 : List UInt8 := 42 :: t_Mo_flow_186
abbrev t_Mo_flow_182 : List UInt8 := 158 :: 0 :: 52 :: t_Mo_flow_185
abbrev t_Mo_flow_181 : List UInt8 := 46 :: t_Mo_flow_182
abbrev t_Mo_flow_180 : List UInt8 := 28 :: t_Mo_flow_181
abbrev t_Mo_flow_177 : List UInt8 := 180 :: 0 :: 34 :: t_Mo_flow_180
abbrev t_Mo_flow_176 : List UInt8 := 42 :: t_Mo_flow_177
abbrev t_Mo_flow_174 : List UInt8 := 54 :: 7 :: t_Mo_flow_176
abbrev t_Mo_flow_173 : List UInt8 := 46 :: t_Mo_flow_174
abbrev t_Mo_flow_172 : List UInt8 := 27 :: t_Mo_flow_173
abbrev t_Mo_flow_169 : List UInt8 := 180 :: 0 :: 89 :: t_Mo_flow_172
abbrev t_Mo_flow_168 : List UInt8 := 42 :: t_Mo_flow_169
abbrev t_Mo_flow_165 : List UInt8 := 167 :: 0 :: 9 :: t_Mo_flow_168
abbrev t_Mo_flow_164 : List UInt8 := 51 :: t_Mo_flow_165
abbrev t_Mo_flow_163 : List UInt8 := 100 :: t_Mo_flow_164
abbrev t_Mo_flow_161 : List UInt8 := 21 :: 5 :: t_Mo_flow_163
abbrev t_Mo_flow_160 : List UInt8 := 100 :: t_Mo_flow_161
abbrev t_Mo_flow_159 : List UInt8 := 4 :: t_Mo_flow_160
abbrev t_Mo_flow_157 : List UInt8 := 21 :: 4 :: t_Mo_flow_159
abbrev t_Mo_flow_154 : List UInt8 := 180 :: 0 :: 119 :: t_Mo_flow_157
abbrev t_Mo_flow_153 : List UInt8 := 42 :: t_Mo_flow_154
abbrev t_Mo_flow_150 : List UInt8 := 162 :: 0 :: 18 :: t_Mo_flow_153
abbrev t_Mo_flow_148 : List UInt8 := 21 :: 4 :: t_Mo_flow_150
abbrev t_Mo_flow_146 : List UInt8 := 21 :: 5 :: t_Mo_flow_148
abbrev t_Mo_flow_143 : List UInt8 := 162 :: 0 :: 132 :: t_Mo_flow_146
abbrev t_Mo_flow_142 : List UInt8 := 46 :: t_Mo_flow_143
abbrev t_Mo_flow_141 : List UInt8 := 27 :: t_Mo_flow_142
abbrev t_Mo_flow_138 : List UInt8 := 180 :: 0 :: 92 :: t_Mo_flow_141
abbrev t_Mo_flow_137 : List UInt8 := 42 :: t_Mo_flow_138
abbrev t_Mo_flow_135 : List UInt8 := 21 :: 5 :: t_Mo_flow_137
abbrev t_Mo_flow_132 : List UInt8 := 153 :: 0 :: 143 :: t_Mo_flow_135
abbrev t_Mo_flow_130 : List UInt8 := 21 :: 6 :: t_Mo_flow_132
abbrev t_Mo_flow_128 : List UInt8 := 54 :: 6 :: t_Mo_flow_130
abbrev t_Mo_flow_127 : List UInt8 := 4 :: t_Mo_flow_128
abbrev t_Mo_flow_125 : List UInt8 := 54 :: 5 :: t_Mo_flow_127
abbrev t_Mo_flow_124 : List UInt8 := 3 :: t_Mo_flow_125
abbrev t_Mo_flow_121 : List UInt8 := 167 :: 255 :: 155 :: t_Mo_flow_124
abbrev t_Mo_flow_118 : List UInt8 := 132 :: 5 :: 1 :: t_Mo_flow_121
abbrev t_Mo_flow_115 : List UInt8 := 167 :: 255 :: 195 :: t_Mo_flow_118
abbrev t_Mo_flow_112 : List UInt8 := 132 :: 8 :: 1 :: t_Mo_flow_115
abbrev t_Mo_flow_109 : List UInt8 := 132 :: 4 :: 1 :: t_Mo_flow_112
abbrev t_Mo_flow_108 : List UInt8 := 84 :: t_Mo_flow_109
abbrev t_Mo_flow_107 : List UInt8 := 51 :: t_Mo_flow_108
abbrev t_Mo_flow_106 : List UInt8 := 96 :: t_Mo_flow_107
abbrev t_Mo_flow_105 : List UInt8 := 100 :: t_Mo_flow_106
abbrev t_Mo_flow_103 : List UInt8 := 21 :: 8 :: t_Mo_flow_105
abbrev t_Mo_flow_102 : List UInt8 := 100 :: t_Mo_flow_103
abbrev t_Mo_flow_101 : List UInt8 := 4 :: t_Mo_flow_102
abbrev t_Mo_flow_100 : List UInt8 := 46 :: t_Mo_flow_101
abbrev t_Mo_flow_98 : List UInt8 := 21 :: 7 :: t_Mo_flow_100
abbrev t_Mo_flow_95 : List UInt8 := 180 :: 0 :: 46 :: t_Mo_flow_98
abbrev t_Mo_flow_94 : List UInt8 := 42 :: t_Mo_flow_95
abbrev t_Mo_flow_91 : List UInt8 := 167 :: 0 :: 15 :: t_Mo_flow_94
abbrev t_Mo_flow_89 : List UInt8 := 21 :: 8 :: t_Mo_flow_91
abbrev t_Mo_flow_86 : List UInt8 := 154 :: 0 :: 8 :: t_Mo_flow_89
abbrev t_Mo_flow_85 : List UInt8 := 112 :: t_Mo_flow_86
abbrev t_Mo_flow_84 : List UInt8 := 5 :: t_Mo_flow_85
abbrev t_Mo_flow_82 : List UInt8 := 21 :: 6 :: t_Mo_flow_84
abbrev t_Mo_flow_81 : List UInt8 := 104 :: t_Mo_flow_82
abbrev t_Mo_flow_79 : List UInt8 := 21 :: 7 :: t_Mo_flow_81
abbrev t_Mo_flow_76 : List UInt8 := 17 :: 0 :: 200 :: t_Mo_flow_79
abbrev t_Mo_flow_73 : List UInt8 := 180 :: 0 :: 55 :: t_Mo_flow_76
abbrev t_Mo_flow_72 : List UInt8 := 42 :: t_Mo_flow_73
abbrev t_Mo_flow_70 : List UInt8 := 21 :: 4 :: t_Mo_flow_72
abbrev t_Mo_flow_67 : List UInt8 := 180 :: 0 :: 119 :: t_Mo_flow_70
abbrev t_Mo_flow_66 : List UInt8 := 42 :: t_Mo_flow_67
abbrev t_Mo_flow_63 : List UInt8 := 162 :: 0 :: 55 :: t_Mo_flow_66
abbrev t_Mo_flow_62 : List UInt8 := 46 :: t_Mo_flow_63
abbrev t_Mo_flow_60 : List UInt8 := 21 :: 7 :: t_Mo_flow_62
abbrev t_Mo_flow_57 : List UInt8 := 180 :: 0 :: 46 :: t_Mo_flow_60
abbrev t_Mo_flow_56 : List UInt8 := 42 :: t_Mo_flow_57
abbrev t_Mo_flow_54 : List UInt8 := 21 :: 8 :: t_Mo_flow_56
abbrev t_Mo_flow_52 : List UInt8 := 54 :: 8 :: t_Mo_flow_54
abbrev t_Mo_flow_51 : List UInt8 := 3 :: t_Mo_flow_52
abbrev t_Mo_flow_49 : List UInt8 := 54 :: 7 :: t_Mo_flow_51
abbrev t_Mo_flow_48 : List UInt8 := 108 :: t_Mo_flow_49
abbrev t_Mo_flow_47 : List UInt8 := 5 :: t_Mo_flow_48
abbrev t_Mo_flow_45 : List UInt8 := 21 :: 6 :: t_Mo_flow_47
abbrev t_Mo_flow_43 : List UInt8 := 54 :: 6 :: t_Mo_flow_45
abbrev t_Mo_flow_42 : List UInt8 := 46 :: t_Mo_flow_43
abbrev t_Mo_flow_41 : List UInt8 := 96 :: t_Mo_flow_42
abbrev t_Mo_flow_39 : List UInt8 := 21 :: 5 :: t_Mo_flow_41
abbrev t_Mo_flow_38 : List UInt8 := 104 :: t_Mo_flow_39
abbrev t_Mo_flow_37 : List UInt8 := 27 :: t_Mo_flow_38
abbrev t_Mo_flow_35 : List UInt8 := 16 :: 24 :: t_Mo_flow_37
abbrev t_Mo_flow_32 : List UInt8 := 180 :: 0 :: 98 :: t_Mo_flow_35
abbrev t_Mo_flow_31 : List UInt8 := 42 :: t_Mo_flow_32
abbrev t_Mo_flow_28 : List UInt8 := 162 :: 0 :: 96 :: t_Mo_flow_31
abbrev t_Mo_flow_27 : List UInt8 := 46 :: t_Mo_flow_28
abbrev t_Mo_flow_26 : List UInt8 := 27 :: t_Mo_flow_27
abbrev t_Mo_flow_23 : List UInt8 := 180 :: 0 :: 95 :: t_Mo_flow_26
abbrev t_Mo_flow_22 : List UInt8 := 42 :: t_Mo_flow_23
abbrev t_Mo_flow_20 : List UInt8 := 21 :: 5 :: t_Mo_flow_22
abbrev t_Mo_flow_18 : List UInt8 := 54 :: 5 :: t_Mo_flow_20
abbrev t_Mo_flow_17 : List UInt8 := 3 :: t_Mo_flow_18
abbrev t_Mo_flow_15 : List UInt8 := 54 :: 4 :: t_Mo_flow_17
abbrev t_Mo_flow_14 : List UInt8 := 3 :: t_Mo_flow_15
abbrev t_Mo_flow_13 : List UInt8 := 62 :: t_Mo_flow_14
abbrev t_Mo_flow_12 : List UInt8 := 46 :: t_Mo_flow_13
abbrev t_Mo_flow_11 : List UInt8 := 27 :: t_Mo_flow_12
abbrev t_Mo_flow_8 : List UInt8 := 180 :: 0 :: 86 :: t_Mo_flow_11
abbrev t_Mo_flow_7 : List UInt8 := 42 :: t_Mo_flow_8
abbrev t_Mo_flow_6 : List UInt8 := 61 :: t_Mo_flow_7
abbrev t_Mo_flow_5 : List UInt8 := 46 :: t_Mo_flow_6
abbrev t_Mo_flow_4 : List UInt8 := 27 :: t_Mo_flow_5
abbrev t_Mo_flow_1 : List UInt8 := 180 :: 0 :: 83 :: t_Mo_flow_4
abbrev t_Mo_flow_0 : List UInt8 := 42 :: t_Mo_flow_1
theorem a_Mo_flow_0 : dk_at b_Mo_flow 0 t_Mo_flow_0 := dk_start (by decide +kernel)
theorem a_Mo_flow_1 : dk_at b_Mo_flow 1 t_Mo_flow_1 := dk_go 1 a_Mo_flow_0 rfl
theorem a_Mo_flow_4 : dk_at b_Mo_flow 4 t_Mo_flow_4 := dk_go 3 a_Mo_flow_1 rfl
theorem a_Mo_flow_5 : dk_at b_Mo_flow 5 t_Mo_flow_5 := dk_go 1 a_Mo_flow_4 rfl
theorem a_Mo_flow_6 : dk_at b_Mo_flow 6 t_Mo_flow_6 := dk_go 1 a_Mo_flow_5 rfl
theorem a_Mo_flow_7 : dk_at b_Mo_flow 7 t_Mo_flow_7 := dk_go 1 a_Mo_flow_6 rfl
theorem a_Mo_flow_8 : dk_at b_Mo_flow 8 t_Mo_flow_8 := dk_go 1 a_Mo_flow_7 rfl
theorem a_Mo_flow_11 : dk_at b_Mo_flow 11 t_Mo_flow_11 := dk_go 3 a_Mo_flow_8 rfl
theorem a_Mo_flow_12 : dk_at b_Mo_flow 12 t_Mo_flow_12 := dk_go 1 a_Mo_flow_11 rfl
theorem a_Mo_flow_13 : dk_at b_Mo_flow 13 t_Mo_flow_13 := dk_go 1 a_Mo_flow_12 rfl
theorem a_Mo_flow_14 : dk_at b_Mo_flow 14 t_Mo_flow_14 := dk_go 1 a_Mo_flow_13 rfl
theorem a_Mo_flow_15 : dk_at b_Mo_flow 15 t_Mo_flow_15 := dk_go 1 a_Mo_flow_14 rfl
theorem a_Mo_flow_17 : dk_at b_Mo_flow 17 t_Mo_flow_17 := dk_go 2 a_Mo_flow_15 rfl
theorem a_Mo_flow_18 : dk_at b_Mo_flow 18 t_Mo_flow_18 := dk_go 1 a_Mo_flow_17 rfl
theorem a_Mo_flow_20 : dk_at b_Mo_flow 20 t_Mo_flow_20 := dk_go 2 a_Mo_flow_18 rfl
theorem a_Mo_flow_22 : dk_at b_Mo_flow 22 t_Mo_flow_22 := dk_go 2 a_Mo_flow_20 rfl
theorem a_Mo_flow_23 : dk_at b_Mo_flow 23 t_Mo_flow_23 := dk_go 1 a_Mo_flow_22 rfl
theorem a_Mo_flow_26 : dk_at b_Mo_flow 26 t_Mo_flow_26 := dk_go 3 a_Mo_flow_23 rfl
theorem a_Mo_flow_27 : dk_at b_Mo_flow 27 t_Mo_flow_27 := dk_go 1 a_Mo_flow_26 rfl
theorem a_Mo_flow_28 : dk_at b_Mo_flow 28 t_Mo_flow_28 := dk_go 1 a_Mo_flow_27 rfl
theorem a_Mo_flow_31 : dk_at b_Mo_flow 31 t_Mo_flow_31 := dk_go 3 a_Mo_flow_28 rfl
theorem a_Mo_flow_32 : dk_at b_Mo_flow 32 t_Mo_flow_32 := dk_go 1 a_Mo_flow_31 rfl
theorem a_Mo_flow_35 : dk_at b_Mo_flow 35 t_Mo_flow_35 := dk_go 3 a_Mo_flow_32 rfl
theorem a_Mo_flow_37 : dk_at b_Mo_flow 37 t_Mo_flow_37 := dk_go 2 a_Mo_flow_35 rfl
theorem a_Mo_flow_38 : dk_at b_Mo_flow 38 t_Mo_flow_38 := dk_go 1 a_Mo_flow_37 rfl
theorem a_Mo_flow_39 : dk_at b_Mo_flow 39 t_Mo_flow_39 := dk_go 1 a_Mo_flow_38 rfl
theorem a_Mo_flow_41 : dk_at b_Mo_flow 41 t_Mo_flow_41 := dk_go 2 a_Mo_flow_39 rfl
theorem a_Mo_flow_42 : dk_at b_Mo_flow 42 t_Mo_flow_42 := dk_go 1 a_Mo_flow_41 rfl
theorem a_Mo_flow_43 : dk_at b_Mo_flow 43 t_Mo_flow_43 := dk_go 1 a_Mo_flow_42 rfl
theorem a_Mo_flow_45 : dk_at b_Mo_flow 45 t_Mo_flow_45 := dk_go 2 a_Mo_flow_43 rfl
theorem a_Mo_flow_47 : dk_at b_Mo_flow 47 t_Mo_flow_47 := dk_go 2 a_Mo_flow_45 rfl
theorem a_Mo_flow_48 : dk_at b_Mo_flow 48 t_Mo_flow_48 := dk_go 1 a_Mo_flow_47 rfl
theorem a_Mo_flow_49 : dk_at b_Mo_flow 49 t_Mo_flow_49 := dk_go 1 a_Mo_flow_48 rfl
theorem a_Mo_flow_51 : dk_at b_Mo_flow 51 t_Mo_flow_51 := dk_go 2 a_Mo_flow_49 rfl
theorem a_Mo_flow_52 : dk_at b_Mo_flow 52 t_Mo_flow_52 := dk_go 1 a_Mo_flow_51 rfl
theorem a_Mo_flow_54 : dk_at b_Mo_flow 54 t_Mo_flow_54 := dk_go 2 a_Mo_flow_52 rfl
theorem a_Mo_flow_56 : dk_at b_Mo_flow 56 t_Mo_flow_56 := dk_go 2 a_Mo_flow_54 rfl
theorem a_Mo_flow_57 : dk_at b_Mo_flow 57 t_Mo_flow_57 := dk_go 1 a_Mo_flow_56 rfl
theorem a_Mo_flow_60 : dk_at b_Mo_flow 60 t_Mo_flow_60 := dk_go 3 a_Mo_flow_57 rfl
theorem a_Mo_flow_62 : dk_at b_Mo_flow 62 t_Mo_flow_62 := dk_go 2 a_Mo_flow_60 rfl
theorem a_Mo_flow_63 : dk_at b_Mo_flow 63 t_Mo_flow_63 := dk_go 1 a_Mo_flow_62 rfl
theorem a_Mo_flow_66 : dk_at b_Mo_flow 66 t_Mo_flow_66 := dk_go 3 a_Mo_flow_63 rfl
theorem a_Mo_flow_67 : dk_at b_Mo_flow 67 t_Mo_flow_67 := dk_go 1 a_Mo_flow_66 rfl
theorem a_Mo_flow_70 : dk_at b_Mo_flow 70 t_Mo_flow_70 := dk_go 3 a_Mo_flow_67 rfl
theorem a_Mo_flow_72 : dk_at b_Mo_flow 72 t_Mo_flow_72 := dk_go 2 a_Mo_flow_70 rfl
theorem a_Mo_flow_73 : dk_at b_Mo_flow 73 t_Mo_flow_73 := dk_go 1 a_Mo_flow_72 rfl
theorem a_Mo_flow_76 : dk_at b_Mo_flow 76 t_Mo_flow_76 := dk_go 3 a_Mo_flow_73 rfl
theorem a_Mo_flow_79 : dk_at b_Mo_flow 79 t_Mo_flow_79 := dk_go 3 a_Mo_flow_76 rfl
theorem a_Mo_flow_81 : dk_at b_Mo_flow 81 t_Mo_flow_81 := dk_go 2 a_Mo_flow_79 rfl
theorem a_Mo_flow_82 : dk_at b_Mo_flow 82 t_Mo_flow_82 := dk_go 1 a_Mo_flow_81 rfl
theorem a_Mo_flow_84 : dk_at b_Mo_flow 84 t_Mo_flow_84 := dk_go 2 a_Mo_flow_82 rfl
theorem a_Mo_flow_85 : dk_at b_Mo_flow 85 t_Mo_flow_85 := dk_go 1 a_Mo_flow_84 rfl
theorem a_Mo_flow_86 : dk_at b_Mo_flow 86 t_Mo_flow_86 := dk_go 1 a_Mo_flow_85 rfl
theorem a_Mo_flow_89 : dk_at b_Mo_flow 89 t_Mo_flow_89 := dk_go 3 a_Mo_flow_86 rfl
theorem a_Mo_flow_91 : dk_at b_Mo_flow 91 t_Mo_flow_91 := dk_go 2 a_Mo_flow_89 rfl
theorem a_Mo_flow_94 : dk_at b_Mo_flow 94 t_Mo_flow_94 := dk_go 3 a_Mo_flow_91 rfl
theorem a_Mo_flow_95 : dk_at b_Mo_flow 95 t_Mo_flow_95 := dk_go 1 a_Mo_flow_94 rfl
theorem a_Mo_flow_98 : dk_at b_Mo_flow 98 t_Mo_flow_98 := dk_go 3 a_Mo_flow_95 rfl
theorem a_Mo_flow_100 : dk_at b_Mo_flow 100 t_Mo_flow_100 := dk_go 2 a_Mo_flow_98 rfl
theorem a_Mo_flow_101 : dk_at b_Mo_flow 101 t_Mo_flow_101 := dk_go 1 a_Mo_flow_100 rfl
theorem a_Mo_flow_102 : dk_at b_Mo_flow 102 t_Mo_flow_102 := dk_go 1 a_Mo_flow_101 rfl
theorem a_Mo_flow_103 : dk_at b_Mo_flow 103 t_Mo_flow_103 := dk_go 1 a_Mo_flow_102 rfl
theorem a_Mo_flow_105 : dk_at b_Mo_flow 105 t_Mo_flow_105 := dk_go 2 a_Mo_flow_103 rfl
theorem a_Mo_flow_106 : dk_at b_Mo_flow 106 t_Mo_flow_106 := dk_go 1 a_Mo_flow_105 rfl
theorem a_Mo_flow_107 : dk_at b_Mo_flow 107 t_Mo_flow_107 := dk_go 1 a_Mo_flow_106 rfl
theorem a_Mo_flow_108 : dk_at b_Mo_flow 108 t_Mo_flow_108 := dk_go 1 a_Mo_flow_107 rfl
theorem a_Mo_flow_109 : dk_at b_Mo_flow 109 t_Mo_flow_109 := dk_go 1 a_Mo_flow_108 rfl
theorem a_Mo_flow_112 : dk_at b_Mo_flow 112 t_Mo_flow_112 := dk_go 3 a_Mo_flow_109 rfl
theorem a_Mo_flow_115 : dk_at b_Mo_flow 115 t_Mo_flow_115 := dk_go 3 a_Mo_flow_112 rfl
theorem a_Mo_flow_118 : dk_at b_Mo_flow 118 t_Mo_flow_118 := dk_go 3 a_Mo_flow_115 rfl
theorem a_Mo_flow_121 : dk_at b_Mo_flow 121 t_Mo_flow_121 := dk_go 3 a_Mo_flow_118 rfl
theorem a_Mo_flow_124 : dk_at b_Mo_flow 124 t_Mo_flow_124 := dk_go 3 a_Mo_flow_121 rfl
theorem a_Mo_flow_125 : dk_at b_Mo_flow 125 t_Mo_flow_125 := dk_go 1 a_Mo_flow_124 rfl
theorem a_Mo_flow_127 : dk_at b_Mo_flow 127 t_Mo_flow_127 := dk_go 2 a_Mo_flow_125 rfl
theorem a_Mo_flow_128 : dk_at b_Mo_flow 128 t_Mo_flow_128 := dk_go 1 a_Mo_flow_127 rfl
theorem a_Mo_flow_130 : dk_at b_Mo_flow 130 t_Mo_flow_130 := dk_go 2 a_Mo_flow_128 rfl
theorem a_Mo_flow_132 : dk_at b_Mo_flow 132 t_Mo_flow_132 := dk_go 2 a_Mo_flow_130 rfl
theorem a_Mo_flow_135 : dk_at b_Mo_flow 135 t_Mo_flow_135 := dk_go 3 a_Mo_flow_132 rfl
theorem a_Mo_flow_137 : dk_at b_Mo_flow 137 t_Mo_flow_137 := dk_go 2 a_Mo_flow_135 rfl
theorem a_Mo_flow_138 : dk_at b_Mo_flow 138 t_Mo_flow_138 := dk_go 1 a_Mo_flow_137 rfl
theorem a_Mo_flow_141 : dk_at b_Mo_flow 141 t_Mo_flow_141 := dk_go 3 a_Mo_flow_138 rfl
theorem a_Mo_flow_142 : dk_at b_Mo_flow 142 t_Mo_flow_142 := dk_go 1 a_Mo_flow_141 rfl
theorem a_Mo_flow_143 : dk_at b_Mo_flow 143 t_Mo_flow_143 := dk_go 1 a_Mo_flow_142 rfl
theorem a_Mo_flow_146 : dk_at b_Mo_flow 146 t_Mo_flow_146 := dk_go 3 a_Mo_flow_143 rfl
theorem a_Mo_flow_148 : dk_at b_Mo_flow 148 t_Mo_flow_148 := dk_go 2 a_Mo_flow_146 rfl
theorem a_Mo_flow_150 : dk_at b_Mo_flow 150 t_Mo_flow_150 := dk_go 2 a_Mo_flow_148 rfl
theorem a_Mo_flow_153 : dk_at b_Mo_flow 153 t_Mo_flow_153 := dk_go 3 a_Mo_flow_150 rfl
theorem a_Mo_flow_154 : dk_at b_Mo_flow 154 t_Mo_flow_154 := dk_go 1 a_Mo_flow_153 rfl
theorem a_Mo_flow_157 : dk_at b_Mo_flow 157 t_Mo_flow_157 := dk_go 3 a_Mo_flow_154 rfl
theorem a_Mo_flow_159 : dk_at b_Mo_flow 159 t_Mo_flow_159 := dk_go 2 a_Mo_flow_157 rfl
theorem a_Mo_flow_160 : dk_at b_Mo_flow 160 t_Mo_flow_160 := dk_go 1 a_Mo_flow_159 rfl
theorem a_Mo_flow_161 : dk_at b_Mo_flow 161 t_Mo_flow_161 := dk_go 1 a_Mo_flow_160 rfl
theorem a_Mo_flow_163 : dk_at b_Mo_flow 163 t_Mo_flow_163 := dk_go 2 a_Mo_flow_161 rfl
theorem a_Mo_flow_164 : dk_at b_Mo_flow 164 t_Mo_flow_164 := dk_go 1 a_Mo_flow_163 rfl
theorem a_Mo_flow_165 : dk_at b_Mo_flow 165 t_Mo_flow_165 := dk_go 1 a_Mo_flow_164 rfl
theorem a_Mo_flow_168 : dk_at b_Mo_flow 168 t_Mo_flow_168 := dk_go 3 a_Mo_flow_165 rfl
theorem a_Mo_flow_169 : dk_at b_Mo_flow 169 t_Mo_flow_169 := dk_go 1 a_Mo_flow_168 rfl
theorem a_Mo_flow_172 : dk_at b_Mo_flow 172 t_Mo_flow_172 := dk_go 3 a_Mo_flow_169 rfl
theorem a_Mo_flow_173 : dk_at b_Mo_flow 173 t_Mo_flow_173 := dk_go 1 a_Mo_flow_172 rfl
theorem a_Mo_flow_174 : dk_at b_Mo_flow 174 t_Mo_flow_174 := dk_go 1 a_Mo_flow_173 rfl
theorem a_Mo_flow_176 : dk_at b_Mo_flow 176 t_Mo_flow_176 := dk_go 2 a_Mo_flow_174 rfl
theorem a_Mo_flow_177 : dk_at b_Mo_flow 177 t_Mo_flow_177 := dk_go 1 a_Mo_flow_176 rfl
theorem a_Mo_flow_180 : dk_at b_Mo_flow 180 t_Mo_flow_180 := dk_go 3 a_Mo_flow_177 rfl
theorem a_Mo_flow_181 : dk_at b_Mo_flow 181 t_Mo_flow_181 := dk_go 1 a_Mo_flow_180 rfl
theorem a_Mo_flow_182 : dk_at b_Mo_flow 182 t_Mo_flow_182 := dk_go 1 a_Mo_flow_181 rfl
theorem a_Mo_flow_185 : dk_at b_Mo_flow 185 t_Mo_flow_185 := dk_go 3 a_Mo_flow_182 rfl
theorem a_Mo_flow_186 : dk_at b_Mo_flow 186 t_Mo_flow_186 := dk_go 1 a_Mo_flow_185 rfl
theorem a_Mo_flow_189 : dk_at b_Mo_flow 189 t_Mo_flow_189 := dk_go 3 a_Mo_flow_186 rfl
theorem a_Mo_flow_190 : dk_at b_Mo_flow 190 t_Mo_flow_190 := dk_go 1 a_Mo_flow_189 rfl
theorem a_Mo_flow_191 : dk_at b_Mo_flow 191 t_Mo_flow_191 := dk_go 1 a_Mo_flow_190 rfl
theorem a_Mo_flow_192 : dk_at b_Mo_flow 192 t_Mo_flow_192 := dk_go 1 a_Mo_flow_191 rfl
theorem a_Mo_flow_195 : dk_at b_Mo_flow 195 t_Mo_flow_195 := dk_go 3 a_Mo_flow_192 rfl
theorem a_Mo_flow_196 : dk_at b_Mo_flow 196 t_Mo_flow_196 := dk_go 1 a_Mo_flow_195 rfl
theorem a_Mo_flow_197 : dk_at b_Mo_flow 197 t_Mo_flow_197 := dk_go 1 a_Mo_flow_196 rfl
theorem a_Mo_flow_200 : dk_at b_Mo_flow 200 t_Mo_flow_200 := dk_go 3 a_Mo_flow_197 rfl
theorem a_Mo_flow_202 : dk_at b_Mo_flow 202 t_Mo_flow_202 := dk_go 2 a_Mo_flow_200 rfl
theorem a_Mo_flow_205 : dk_at b_Mo_flow 205 t_Mo_flow_205 := dk_go 3 a_Mo_flow_202 rfl
theorem a_Mo_flow_206 : dk_at b_Mo_flow 206 t_Mo_flow_206 := dk_go 1 a_Mo_flow_205 rfl
theorem a_Mo_flow_209 : dk_at b_Mo_flow 209 t_Mo_flow_209 := dk_go 3 a_Mo_flow_206 rfl
theorem a_Mo_flow_210 : dk_at b_Mo_flow 210 t_Mo_flow_210 := dk_go 1 a_Mo_flow_209 rfl
theorem a_Mo_flow_211 : dk_at b_Mo_flow 211 t_Mo_flow_211 := dk_go 1 a_Mo_flow_210 rfl
theorem a_Mo_flow_212 : dk_at b_Mo_flow 212 t_Mo_flow_212 := dk_go 1 a_Mo_flow_211 rfl
theorem a_Mo_flow_215 : dk_at b_Mo_flow 215 t_Mo_flow_215 := dk_go 3 a_Mo_flow_212 rfl
theorem a_Mo_flow_216 : dk_at b_Mo_flow 216 t_Mo_flow_216 := dk_go 1 a_Mo_flow_215 rfl
theorem a_Mo_flow_217 : dk_at b_Mo_flow 217 t_Mo_flow_217 := dk_go 1 a_Mo_flow_216 rfl
theorem a_Mo_flow_220 : dk_at b_Mo_flow 220 t_Mo_flow_220 := dk_go 3 a_Mo_flow_217 rfl
theorem a_Mo_flow_221 : dk_at b_Mo_flow 221 t_Mo_flow_221 := dk_go 1 a_Mo_flow_220 rfl
theorem a_Mo_flow_223 : dk_at b_Mo_flow 223 t_Mo_flow_223 := dk_go 2 a_Mo_flow_221 rfl
theorem a_Mo_flow_224 : dk_at b_Mo_flow 224 t_Mo_flow_224 := dk_go 1 a_Mo_flow_223 rfl
theorem a_Mo_flow_227 : dk_at b_Mo_flow 227 t_Mo_flow_227 := dk_go 3 a_Mo_flow_224 rfl
theorem a_Mo_flow_230 : dk_at b_Mo_flow 230 t_Mo_flow_230 := dk_go 3 a_Mo_flow_227 rfl
theorem a_Mo_flow_231 : dk_at b_Mo_flow 231 t_Mo_flow_231 := dk_go 1 a_Mo_flow_230 rfl
theorem a_Mo_flow_234 : dk_at b_Mo_flow 234 t_Mo_flow_234 := dk_go 3 a_Mo_flow_231 rfl
theorem a_Mo_flow_235 : dk_at b_Mo_flow 235 t_Mo_flow_235 := dk_go 1 a_Mo_flow_234 rfl
theorem a_Mo_flow_237 : dk_at b_Mo_flow 237 t_Mo_flow_237 := dk_go 2 a_Mo_flow_235 rfl
theorem a_Mo_flow_239 : dk_at b_Mo_flow 239 t_Mo_flow_239 := dk_go 2 a_Mo_flow_237 rfl
theorem a_Mo_flow_242 : dk_at b_Mo_flow 242 t_Mo_flow_242 := dk_go 3 a_Mo_flow_239 rfl
theorem a_Mo_flow_243 : dk_at b_Mo_flow 243 t_Mo_flow_243 := dk_go 1 a_Mo_flow_242 rfl
theorem a_Mo_flow_246 : dk_at b_Mo_flow 246 t_Mo_flow_246 := dk_go 3 a_Mo_flow_243 rfl
theorem a_Mo_flow_247 : dk_at b_Mo_flow 247 t_Mo_flow_247 := dk_go 1 a_Mo_flow_246 rfl
theorem a_Mo_flow_248 : dk_at b_Mo_flow 248 t_Mo_flow_248 := dk_go 1 a_Mo_flow_247 rfl
theorem a_Mo_flow_249 : dk_at b_Mo_flow 249 t_Mo_flow_249 := dk_go 1 a_Mo_flow_248 rfl
theorem a_Mo_flow_250 : dk_at b_Mo_flow 250 t_Mo_flow_250 := dk_go 1 a_Mo_flow_249 rfl
theorem a_Mo_flow_251 : dk_at b_Mo_flow 251 t_Mo_flow_251 := dk_go 1 a_Mo_flow_250 rfl
theorem a_Mo_flow_252 : dk_at b_Mo_flow 252 t_Mo_flow_252 := dk_go 1 a_Mo_flow_251 rfl
theorem a_Mo_flow_254 : dk_at b_Mo_flow 254 t_Mo_flow_254 := dk_go 2 a_Mo_flow_252 rfl
theorem a_Mo_flow_257 : dk_at b_Mo_flow 257 t_Mo_flow_257 := dk_go 3 a_Mo_flow_254 rfl
theorem a_Mo_flow_258 : dk_at b_Mo_flow 258 t_Mo_flow_258 := dk_go 1 a_Mo_flow_257 rfl
theorem a_Mo_flow_259 : dk_at b_Mo_flow 259 t_Mo_flow_259 := dk_go 1 a_Mo_flow_258 rfl
theorem a_Mo_flow_261 : dk_at b_Mo_flow 261 t_Mo_flow_261 := dk_go 2 a_Mo_flow_259 rfl
theorem a_Mo_flow_264 : dk_at b_Mo_flow 264 t_Mo_flow_264 := dk_go 3 a_Mo_flow_261 rfl
theorem a_Mo_flow_265 : dk_at b_Mo_flow 265 t_Mo_flow_265 := dk_go 1 a_Mo_flow_264 rfl
theorem a_Mo_flow_266 : dk_at b_Mo_flow 266 t_Mo_flow_266 := dk_go 1 a_Mo_flow_265 rfl
theorem a_Mo_flow_269 : dk_at b_Mo_flow 269 t_Mo_flow_269 := dk_go 3 a_Mo_flow_266 rfl
theorem a_Mo_flow_272 : dk_at b_Mo_flow 272 t_Mo_flow_272 := dk_go 3 a_Mo_flow_269 rfl
theorem a_Mo_flow_275 : dk_at b_Mo_flow 275 t_Mo_flow_275 := dk_go 3 a_Mo_flow_272 rfl
theorem a_Mo_flow_276 : dk_at b_Mo_flow 276 t_Mo_flow_276 := dk_go 1 a_Mo_flow_275 rfl
theorem a_Mo_flow_278 : dk_at b_Mo_flow 278 t_Mo_flow_278 := dk_go 2 a_Mo_flow_276 rfl
theorem a_Mo_flow_279 : dk_at b_Mo_flow 279 t_Mo_flow_279 := dk_go 1 a_Mo_flow_278 rfl
theorem a_Mo_flow_281 : dk_at b_Mo_flow 281 t_Mo_flow_281 := dk_go 2 a_Mo_flow_279 rfl
theorem a_Mo_flow_283 : dk_at b_Mo_flow 283 t_Mo_flow_283 := dk_go 2 a_Mo_flow_281 rfl
theorem a_Mo_flow_284 : dk_at b_Mo_flow 284 t_Mo_flow_284 := dk_go 1 a_Mo_flow_283 rfl
theorem a_Mo_flow_287 : dk_at b_Mo_flow 287 t_Mo_flow_287 := dk_go 3 a_Mo_flow_284 rfl
theorem a_Mo_flow_288 : dk_at b_Mo_flow 288 t_Mo_flow_288 := dk_go 1 a_Mo_flow_287 rfl
theorem a_Mo_flow_289 : dk_at b_Mo_flow 289 t_Mo_flow_289 := dk_go 1 a_Mo_flow_288 rfl
theorem a_Mo_flow_292 : dk_at b_Mo_flow 292 t_Mo_flow_292 := dk_go 3 a_Mo_flow_289 rfl
theorem a_Mo_flow_293 : dk_at b_Mo_flow 293 t_Mo_flow_293 := dk_go 1 a_Mo_flow_292 rfl
theorem a_Mo_flow_296 : dk_at b_Mo_flow 296 t_Mo_flow_296 := dk_go 3 a_Mo_flow_293 rfl
theorem a_Mo_flow_298 : dk_at b_Mo_flow 298 t_Mo_flow_298 := dk_go 2 a_Mo_flow_296 rfl
theorem a_Mo_flow_299 : dk_at b_Mo_flow 299 t_Mo_flow_299 := dk_go 1 a_Mo_flow_298 rfl
theorem a_Mo_flow_300 : dk_at b_Mo_flow 300 t_Mo_flow_300 := dk_go 1 a_Mo_flow_299 rfl
theorem a_Mo_flow_302 : dk_at b_Mo_flow 302 t_Mo_flow_302 := dk_go 2 a_Mo_flow_300 rfl
theorem a_Mo_flow_303 : dk_at b_Mo_flow 303 t_Mo_flow_303 := dk_go 1 a_Mo_flow_302 rfl
theorem a_Mo_flow_304 : dk_at b_Mo_flow 304 t_Mo_flow_304 := dk_go 1 a_Mo_flow_303 rfl
theorem a_Mo_flow_306 : dk_at b_Mo_flow 306 t_Mo_flow_306 := dk_go 2 a_Mo_flow_304 rfl
theorem a_Mo_flow_308 : dk_at b_Mo_flow 308 t_Mo_flow_308 := dk_go 2 a_Mo_flow_306 rfl
theorem a_Mo_flow_309 : dk_at b_Mo_flow 309 t_Mo_flow_309 := dk_go 1 a_Mo_flow_308 rfl
theorem a_Mo_flow_310 : dk_at b_Mo_flow 310 t_Mo_flow_310 := dk_go 1 a_Mo_flow_309 rfl
theorem a_Mo_flow_312 : dk_at b_Mo_flow 312 t_Mo_flow_312 := dk_go 2 a_Mo_flow_310 rfl
theorem a_Mo_flow_313 : dk_at b_Mo_flow 313 t_Mo_flow_313 := dk_go 1 a_Mo_flow_312 rfl
theorem a_Mo_flow_315 : dk_at b_Mo_flow 315 t_Mo_flow_315 := dk_go 2 a_Mo_flow_313 rfl
theorem a_Mo_flow_316 : dk_at b_Mo_flow 316 t_Mo_flow_316 := dk_go 1 a_Mo_flow_315 rfl
theorem a_Mo_flow_318 : dk_at b_Mo_flow 318 t_Mo_flow_318 := dk_go 2 a_Mo_flow_316 rfl
theorem a_Mo_flow_320 : dk_at b_Mo_flow 320 t_Mo_flow_320 := dk_go 2 a_Mo_flow_318 rfl
theorem a_Mo_flow_322 : dk_at b_Mo_flow 322 t_Mo_flow_322 := dk_go 2 a_Mo_flow_320 rfl
theorem a_Mo_flow_325 : dk_at b_Mo_flow 325 t_Mo_flow_325 := dk_go 3 a_Mo_flow_322 rfl
theorem a_Mo_flow_327 : dk_at b_Mo_flow 327 t_Mo_flow_327 := dk_go 2 a_Mo_flow_325 rfl
theorem a_Mo_flow_330 : dk_at b_Mo_flow 330 t_Mo_flow_330 := dk_go 3 a_Mo_flow_327 rfl
theorem a_Mo_flow_332 : dk_at b_Mo_flow 332 t_Mo_flow_332 := dk_go 2 a_Mo_flow_330 rfl
theorem a_Mo_flow_334 : dk_at b_Mo_flow 334 t_Mo_flow_334 := dk_go 2 a_Mo_flow_332 rfl
theorem a_Mo_flow_337 : dk_at b_Mo_flow 337 t_Mo_flow_337 := dk_go 3 a_Mo_flow_334 rfl
theorem a_Mo_flow_338 : dk_at b_Mo_flow 338 t_Mo_flow_338 := dk_go 1 a_Mo_flow_337 rfl
theorem a_Mo_flow_341 : dk_at b_Mo_flow 341 t_Mo_flow_341 := dk_go 3 a_Mo_flow_338 rfl
theorem a_Mo_flow_343 : dk_at b_Mo_flow 343 t_Mo_flow_343 := dk_go 2 a_Mo_flow_341 rfl
theorem a_Mo_flow_345 : dk_at b_Mo_flow 345 t_Mo_flow_345 := dk_go 2 a_Mo_flow_343 rfl
theorem a_Mo_flow_346 : dk_at b_Mo_flow 346 t_Mo_flow_346 := dk_go 1 a_Mo_flow_345 rfl
theorem a_Mo_flow_347 : dk_at b_Mo_flow 347 t_Mo_flow_347 := dk_go 1 a_Mo_flow_346 rfl
theorem a_Mo_flow_350 : dk_at b_Mo_flow 350 t_Mo_flow_350 := dk_go 3 a_Mo_flow_347 rfl
theorem a_Mo_flow_351 : dk_at b_Mo_flow 351 t_Mo_flow_351 := dk_go 1 a_Mo_flow_350 rfl
theorem a_Mo_flow_354 : dk_at b_Mo_flow 354 t_Mo_flow_354 := dk_go 3 a_Mo_flow_351 rfl
theorem a_Mo_flow_355 : dk_at b_Mo_flow 355 t_Mo_flow_355 := dk_go 1 a_Mo_flow_354 rfl
theorem a_Mo_flow_357 : dk_at b_Mo_flow 357 t_Mo_flow_357 := dk_go 2 a_Mo_flow_355 rfl
theorem a_Mo_flow_360 : dk_at b_Mo_flow 360 t_Mo_flow_360 := dk_go 3 a_Mo_flow_357 rfl
theorem a_Mo_flow_363 : dk_at b_Mo_flow 363 t_Mo_flow_363 := dk_go 3 a_Mo_flow_360 rfl
theorem a_Mo_flow_365 : dk_at b_Mo_flow 365 t_Mo_flow_365 := dk_go 2 a_Mo_flow_363 rfl
theorem a_Mo_flow_368 : dk_at b_Mo_flow 368 t_Mo_flow_368 := dk_go 3 a_Mo_flow_365 rfl
theorem a_Mo_flow_369 : dk_at b_Mo_flow 369 t_Mo_flow_369 := dk_go 1 a_Mo_flow_368 rfl
theorem a_Mo_flow_372 : dk_at b_Mo_flow 372 t_Mo_flow_372 := dk_go 3 a_Mo_flow_369 rfl
theorem a_Mo_flow_373 : dk_at b_Mo_flow 373 t_Mo_flow_373 := dk_go 1 a_Mo_flow_372 rfl
theorem a_Mo_flow_376 : dk_at b_Mo_flow 376 t_Mo_flow_376 := dk_go 3 a_Mo_flow_373 rfl
theorem a_Mo_flow_378 : dk_at b_Mo_flow 378 t_Mo_flow_378 := dk_go 2 a_Mo_flow_376 rfl
theorem a_Mo_flow_379 : dk_at b_Mo_flow 379 t_Mo_flow_379 := dk_go 1 a_Mo_flow_378 rfl
theorem a_Mo_flow_380 : dk_at b_Mo_flow 380 t_Mo_flow_380 := dk_go 1 a_Mo_flow_379 rfl
theorem a_Mo_flow_383 : dk_at b_Mo_flow 383 t_Mo_flow_383 := dk_go 3 a_Mo_flow_380 rfl
theorem a_Mo_flow_384 : dk_at b_Mo_flow 384 t_Mo_flow_384 := dk_go 1 a_Mo_flow_383 rfl
theorem a_Mo_flow_385 : dk_at b_Mo_flow 385 t_Mo_flow_385 := dk_go 1 a_Mo_flow_384 rfl
theorem a_Mo_flow_386 : dk_at b_Mo_flow 386 t_Mo_flow_386 := dk_go 1 a_Mo_flow_385 rfl
theorem a_Mo_flow_387 : dk_at b_Mo_flow 387 t_Mo_flow_387 := dk_go 1 a_Mo_flow_386 rfl
theorem a_Mo_flow_388 : dk_at b_Mo_flow 388 t_Mo_flow_388 := dk_go 1 a_Mo_flow_387 rfl
theorem a_Mo_flow_391 : dk_at b_Mo_flow 391 t_Mo_flow_391 := dk_go 3 a_Mo_flow_388 rfl
theorem a_Mo_flow_393 : dk_at b_Mo_flow 393 t_Mo_flow_393 := dk_go 2 a_Mo_flow_391 rfl
theorem a_Mo_flow_394 : dk_at b_Mo_flow 394 t_Mo_flow_394 := dk_go 1 a_Mo_flow_393 rfl
theorem a_Mo_flow_397 : dk_at b_Mo_flow 397 t_Mo_flow_397 := dk_go 3 a_Mo_flow_394 rfl
theorem a_Mo_flow_398 : dk_at b_Mo_flow 398 t_Mo_flow_398 := dk_go 1 a_Mo_flow_397 rfl
theorem a_Mo_flow_400 : dk_at b_Mo_flow 400 t_Mo_flow_400 := dk_go 2 a_Mo_flow_398 rfl
theorem a_Mo_flow_402 : dk_at b_Mo_flow 402 t_Mo_flow_402 := dk_go 2 a_Mo_flow_400 rfl
theorem a_Mo_flow_403 : dk_at b_Mo_flow 403 t_Mo_flow_403 := dk_go 1 a_Mo_flow_402 rfl
theorem a_Mo_flow_406 : dk_at b_Mo_flow 406 t_Mo_flow_406 := dk_go 3 a_Mo_flow_403 rfl
theorem a_Mo_flow_408 : dk_at b_Mo_flow 408 t_Mo_flow_408 := dk_go 2 a_Mo_flow_406 rfl
theorem a_Mo_flow_409 : dk_at b_Mo_flow 409 t_Mo_flow_409 := dk_go 1 a_Mo_flow_408 rfl
theorem a_Mo_flow_412 : dk_at b_Mo_flow 412 t_Mo_flow_412 := dk_go 3 a_Mo_flow_409 rfl
theorem a_Mo_flow_414 : dk_at b_Mo_flow 414 t_Mo_flow_414 := dk_go 2 a_Mo_flow_412 rfl
theorem a_Mo_flow_416 : dk_at b_Mo_flow 416 t_Mo_flow_416 := dk_go 2 a_Mo_flow_414 rfl
theorem a_Mo_flow_419 : dk_at b_Mo_flow 419 t_Mo_flow_419 := dk_go 3 a_Mo_flow_416 rfl
theorem a_Mo_flow_420 : dk_at b_Mo_flow 420 t_Mo_flow_420 := dk_go 1 a_Mo_flow_419 rfl
theorem a_Mo_flow_423 : dk_at b_Mo_flow 423 t_Mo_flow_423 := dk_go 3 a_Mo_flow_420 rfl
theorem a_Mo_flow_424 : dk_at b_Mo_flow 424 t_Mo_flow_424 := dk_go 1 a_Mo_flow_423 rfl
theorem a_Mo_flow_425 : dk_at b_Mo_flow 425 t_Mo_flow_425 := dk_go 1 a_Mo_flow_424 rfl
theorem a_Mo_flow_428 : dk_at b_Mo_flow 428 t_Mo_flow_428 := dk_go 3 a_Mo_flow_425 rfl
theorem a_Mo_flow_429 : dk_at b_Mo_flow 429 t_Mo_flow_429 := dk_go 1 a_Mo_flow_428 rfl
theorem a_Mo_flow_432 : dk_at b_Mo_flow 432 t_Mo_flow_432 := dk_go 3 a_Mo_flow_429 rfl
theorem a_Mo_flow_434 : dk_at b_Mo_flow 434 t_Mo_flow_434 := dk_go 2 a_Mo_flow_432 rfl
theorem a_Mo_flow_436 : dk_at b_Mo_flow 436 t_Mo_flow_436 := dk_go 2 a_Mo_flow_434 rfl
theorem a_Mo_flow_437 : dk_at b_Mo_flow 437 t_Mo_flow_437 := dk_go 1 a_Mo_flow_436 rfl
theorem a_Mo_flow_438 : dk_at b_Mo_flow 438 t_Mo_flow_438 := dk_go 1 a_Mo_flow_437 rfl
theorem a_Mo_flow_440 : dk_at b_Mo_flow 440 t_Mo_flow_440 := dk_go 2 a_Mo_flow_438 rfl
theorem a_Mo_flow_441 : dk_at b_Mo_flow 441 t_Mo_flow_441 := dk_go 1 a_Mo_flow_440 rfl
theorem a_Mo_flow_444 : dk_at b_Mo_flow 444 t_Mo_flow_444 := dk_go 3 a_Mo_flow_441 rfl
theorem a_Mo_flow_447 : dk_at b_Mo_flow 447 t_Mo_flow_447 := dk_go 3 a_Mo_flow_444 rfl
theorem a_Mo_flow_449 : dk_at b_Mo_flow 449 t_Mo_flow_449 := dk_go 2 a_Mo_flow_447 rfl
theorem a_Mo_flow_450 : dk_at b_Mo_flow 450 t_Mo_flow_450 := dk_go 1 a_Mo_flow_449 rfl
theorem a_Mo_flow_452 : dk_at b_Mo_flow 452 t_Mo_flow_452 := dk_go 2 a_Mo_flow_450 rfl
theorem a_Mo_flow_453 : dk_at b_Mo_flow 453 t_Mo_flow_453 := dk_go 1 a_Mo_flow_452 rfl
theorem a_Mo_flow_454 : dk_at b_Mo_flow 454 t_Mo_flow_454 := dk_go 1 a_Mo_flow_453 rfl
theorem a_Mo_flow_457 : dk_at b_Mo_flow 457 t_Mo_flow_457 := dk_go 3 a_Mo_flow_454 rfl
theorem a_Mo_flow_459 : dk_at b_Mo_flow 459 t_Mo_flow_459 := dk_go 2 a_Mo_flow_457 rfl
theorem a_Mo_flow_462 : dk_at b_Mo_flow 462 t_Mo_flow_462 := dk_go 3 a_Mo_flow_459 rfl
theorem a_Mo_flow_463 : dk_at b_Mo_flow 463 t_Mo_flow_463 := dk_go 1 a_Mo_flow_462 rfl
theorem a_Mo_flow_466 : dk_at b_Mo_flow 466 t_Mo_flow_466 := dk_go 3 a_Mo_flow_463 rfl
theorem a_Mo_flow_468 : dk_at b_Mo_flow 468 t_Mo_flow_468 := dk_go 2 a_Mo_flow_466 rfl
theorem a_Mo_flow_469 : dk_at b_Mo_flow 469 t_Mo_flow_469 := dk_go 1 a_Mo_flow_468 rfl
theorem a_Mo_flow_470 : dk_at b_Mo_flow 470 t_Mo_flow_470 := dk_go 1 a_Mo_flow_469 rfl
theorem a_Mo_flow_471 : dk_at b_Mo_flow 471 t_Mo_flow_471 := dk_go 1 a_Mo_flow_470 rfl
theorem a_Mo_flow_473 : dk_at b_Mo_flow 473 t_Mo_flow_473 := dk_go 2 a_Mo_flow_471 rfl
theorem a_Mo_flow_474 : dk_at b_Mo_flow 474 t_Mo_flow_474 := dk_go 1 a_Mo_flow_473 rfl
theorem a_Mo_flow_475 : dk_at b_Mo_flow 475 t_Mo_flow_475 := dk_go 1 a_Mo_flow_474 rfl
theorem a_Mo_flow_477 : dk_at b_Mo_flow 477 t_Mo_flow_477 := dk_go 2 a_Mo_flow_475 rfl
theorem a_Mo_flow_478 : dk_at b_Mo_flow 478 t_Mo_flow_478 := dk_go 1 a_Mo_flow_477 rfl
theorem a_Mo_flow_479 : dk_at b_Mo_flow 479 t_Mo_flow_479 := dk_go 1 a_Mo_flow_478 rfl
theorem a_Mo_flow_482 : dk_at b_Mo_flow 482 t_Mo_flow_482 := dk_go 3 a_Mo_flow_479 rfl
theorem a_Mo_flow_485 : dk_at b_Mo_flow 485 t_Mo_flow_485 := dk_go 3 a_Mo_flow_482 rfl
theorem a_Mo_flow_488 : dk_at b_Mo_flow 488 t_Mo_flow_488 := dk_go 3 a_Mo_flow_485 rfl
theorem a_Mo_flow_491 : dk_at b_Mo_flow 491 t_Mo_flow_491 := dk_go 3 a_Mo_flow_488 rfl
theorem a_Mo_flow_494 : dk_at b_Mo_flow 494 t_Mo_flow_494 := dk_go 3 a_Mo_flow_491 rfl
theorem d_Mo_flow_0 : decode b_Mo_flow 0 = .ok (.aload_n 0, 1) := dk_0 a_Mo_flow_0 (dko_42 _)
theorem d_Mo_flow_1 : decode b_Mo_flow 1 = .ok (.getfield 83, 3) := dk_U2 a_Mo_flow_1 (dko_180 _) rfl
theorem d_Mo_flow_4 : decode b_Mo_flow 4 = .ok (.iload_n 1, 1) := dk_0 a_Mo_flow_4 (dko_27 _)
theorem d_Mo_flow_5 : decode b_Mo_flow 5 = .ok (.iaload, 1) := dk_0 a_Mo_flow_5 (dko_46 _)
theorem d_Mo_flow_6 : decode b_Mo_flow 6 = .ok (.istore_n 2, 1) := dk_0 a_Mo_flow_6 (dko_61 _)
theorem d_Mo_flow_7 : decode b_Mo_flow 7 = .ok (.aload_n 0, 1) := dk_0 a_Mo_flow_7 (dko_42 _)
theorem d_Mo_flow_8 : decode b_Mo_flow 8 = .ok (.getfield 86, 3) := dk_U2 a_Mo_flow_8 (dko_180 _) rfl
theorem d_Mo_flow_11 : decode b_Mo_flow 11 = .ok (.iload_n 1, 1) := dk_0 a_Mo_flow_11 (dko_27 _)
theorem d_Mo_flow_12 : decode b_Mo_flow 12 = .ok (.iaload, 1) := dk_0 a_Mo_flow_12 (dko_46 _)
theorem d_Mo_flow_13 : decode b_Mo_flow 13 = .ok (.istore_n 3, 1) := dk_0 a_Mo_flow_13 (dko_62 _)
theorem d_Mo_flow_14 : decode b_Mo_flow 14 = .ok (.iconst 0, 1) := dk_0 a_Mo_flow_14 (dko_3 _)
theorem d_Mo_flow_15 : decode b_Mo_flow 15 = .ok (.istore 4, 2) := dk_U1 a_Mo_flow_15 (dko_54 _) rfl
theorem d_Mo_flow_17 : decode b_Mo_flow 17 = .ok (.iconst 0, 1) := dk_0 a_Mo_flow_17 (dko_3 _)
theorem d_Mo_flow_18 : decode b_Mo_flow 18 = .ok (.istore 5, 2) := dk_U1 a_Mo_flow_18 (dko_54 _) rfl
theorem d_Mo_flow_20 : decode b_Mo_flow 20 = .ok (.iload 5, 2) := dk_U1 a_Mo_flow_20 (dko_21 _) rfl
theorem d_Mo_flow_22 : decode b_Mo_flow 22 = .ok (.aload_n 0, 1) := dk_0 a_Mo_flow_22 (dko_42 _)
theorem d_Mo_flow_23 : decode b_Mo_flow 23 = .ok (.getfield 95, 3) := dk_U2 a_Mo_flow_23 (dko_180 _) rfl
theorem d_Mo_flow_26 : decode b_Mo_flow 26 = .ok (.iload_n 1, 1) := dk_0 a_Mo_flow_26 (dko_27 _)
theorem d_Mo_flow_27 : decode b_Mo_flow 27 = .ok (.iaload, 1) := dk_0 a_Mo_flow_27 (dko_46 _)
theorem d_Mo_flow_28 : decode b_Mo_flow 28 = .ok (.if_icmp .ge 96, 3) := dk_S2 a_Mo_flow_28 (dko_162 _) (by decide +kernel)
theorem d_Mo_flow_31 : decode b_Mo_flow 31 = .ok (.aload_n 0, 1) := dk_0 a_Mo_flow_31 (dko_42 _)
theorem d_Mo_flow_32 : decode b_Mo_flow 32 = .ok (.getfield 98, 3) := dk_U2 a_Mo_flow_32 (dko_180 _) rfl
theorem d_Mo_flow_35 : decode b_Mo_flow 35 = .ok (.bipush 24, 2) := dk_S1 a_Mo_flow_35 (dko_16 _) (by decide +kernel)
theorem d_Mo_flow_37 : decode b_Mo_flow 37 = .ok (.iload_n 1, 1) := dk_0 a_Mo_flow_37 (dko_27 _)
theorem d_Mo_flow_38 : decode b_Mo_flow 38 = .ok (.imul, 1) := dk_0 a_Mo_flow_38 (dko_104 _)
theorem d_Mo_flow_39 : decode b_Mo_flow 39 = .ok (.iload 5, 2) := dk_U1 a_Mo_flow_39 (dko_21 _) rfl
theorem d_Mo_flow_41 : decode b_Mo_flow 41 = .ok (.iadd, 1) := dk_0 a_Mo_flow_41 (dko_96 _)
theorem d_Mo_flow_42 : decode b_Mo_flow 42 = .ok (.iaload, 1) := dk_0 a_Mo_flow_42 (dko_46 _)
theorem d_Mo_flow_43 : decode b_Mo_flow 43 = .ok (.istore 6, 2) := dk_U1 a_Mo_flow_43 (dko_54 _) rfl
theorem d_Mo_flow_45 : decode b_Mo_flow 45 = .ok (.iload 6, 2) := dk_U1 a_Mo_flow_45 (dko_21 _) rfl
theorem d_Mo_flow_47 : decode b_Mo_flow 47 = .ok (.iconst 2, 1) := dk_0 a_Mo_flow_47 (dko_5 _)
theorem d_Mo_flow_48 : decode b_Mo_flow 48 = .ok (.idiv, 1) := dk_0 a_Mo_flow_48 (dko_108 _)
theorem d_Mo_flow_49 : decode b_Mo_flow 49 = .ok (.istore 7, 2) := dk_U1 a_Mo_flow_49 (dko_54 _) rfl
theorem d_Mo_flow_51 : decode b_Mo_flow 51 = .ok (.iconst 0, 1) := dk_0 a_Mo_flow_51 (dko_3 _)
theorem d_Mo_flow_52 : decode b_Mo_flow 52 = .ok (.istore 8, 2) := dk_U1 a_Mo_flow_52 (dko_54 _) rfl
theorem d_Mo_flow_54 : decode b_Mo_flow 54 = .ok (.iload 8, 2) := dk_U1 a_Mo_flow_54 (dko_21 _) rfl
theorem d_Mo_flow_56 : decode b_Mo_flow 56 = .ok (.aload_n 0, 1) := dk_0 a_Mo_flow_56 (dko_42 _)
theorem d_Mo_flow_57 : decode b_Mo_flow 57 = .ok (.getfield 46, 3) := dk_U2 a_Mo_flow_57 (dko_180 _) rfl
theorem d_Mo_flow_60 : decode b_Mo_flow 60 = .ok (.iload 7, 2) := dk_U1 a_Mo_flow_60 (dko_21 _) rfl
theorem d_Mo_flow_62 : decode b_Mo_flow 62 = .ok (.iaload, 1) := dk_0 a_Mo_flow_62 (dko_46 _)
theorem d_Mo_flow_63 : decode b_Mo_flow 63 = .ok (.if_icmp .ge 55, 3) := dk_S2 a_Mo_flow_63 (dko_162 _) (by decide +kernel)
theorem d_Mo_flow_66 : decode b_Mo_flow 66 = .ok (.aload_n 0, 1) := dk_0 a_Mo_flow_66 (dko_42 _)
theorem d_Mo_flow_67 : decode b_Mo_flow 67 = .ok (.getfield 119, 3) := dk_U2 a_Mo_flow_67 (dko_180 _) rfl
theorem d_Mo_flow_70 : decode b_Mo_flow 70 = .ok (.iload 4, 2) := dk_U1 a_Mo_flow_70 (dko_21 _) rfl
theorem d_Mo_flow_72 : decode b_Mo_flow 72 = .ok (.aload_n 0, 1) := dk_0 a_Mo_flow_72 (dko_42 _)
theorem d_Mo_flow_73 : decode b_Mo_flow 73 = .ok (.getfield 55, 3) := dk_U2 a_Mo_flow_73 (dko_180 _) rfl
theorem d_Mo_flow_76 : decode b_Mo_flow 76 = .ok (.sipush 200, 3) := dk_S2 a_Mo_flow_76 (dko_17 _) (by decide +kernel)
theorem d_Mo_flow_79 : decode b_Mo_flow 79 = .ok (.iload 7, 2) := dk_U1 a_Mo_flow_79 (dko_21 _) rfl
theorem d_Mo_flow_81 : decode b_Mo_flow 81 = .ok (.imul, 1) := dk_0 a_Mo_flow_81 (dko_104 _)
theorem d_Mo_flow_82 : decode b_Mo_flow 82 = .ok (.iload 6, 2) := dk_U1 a_Mo_flow_82 (dko_21 _) rfl
theorem d_Mo_flow_84 : decode b_Mo_flow 84 = .ok (.iconst 2, 1) := dk_0 a_Mo_flow_84 (dko_5 _)
theorem d_Mo_flow_85 : decode b_Mo_flow 85 = .ok (.irem, 1) := dk_0 a_Mo_flow_85 (dko_112 _)
theorem d_Mo_flow_86 : decode b_Mo_flow 86 = .ok (.ifCond .ne 8, 3) := dk_S2 a_Mo_flow_86 (dko_154 _) (by decide +kernel)
theorem d_Mo_flow_89 : decode b_Mo_flow 89 = .ok (.iload 8, 2) := dk_U1 a_Mo_flow_89 (dko_21 _) rfl
theorem d_Mo_flow_91 : decode b_Mo_flow 91 = .ok (.goto 15, 3) := dk_S2 a_Mo_flow_91 (dko_167 _) (by decide +kernel)
theorem d_Mo_flow_94 : decode b_Mo_flow 94 = .ok (.aload_n 0, 1) := dk_0 a_Mo_flow_94 (dko_42 _)
theorem d_Mo_flow_95 : decode b_Mo_flow 95 = .ok (.getfield 46, 3) := dk_U2 a_Mo_flow_95 (dko_180 _) rfl
theorem d_Mo_flow_98 : decode b_Mo_flow 98 = .ok (.iload 7, 2) := dk_U1 a_Mo_flow_98 (dko_21 _) rfl
theorem d_Mo_flow_100 : decode b_Mo_flow 100 = .ok (.iaload, 1) := dk_0 a_Mo_flow_100 (dko_46 _)
theorem d_Mo_flow_101 : decode b_Mo_flow 101 = .ok (.iconst 1, 1) := dk_0 a_Mo_flow_101 (dko_4 _)
theorem d_Mo_flow_102 : decode b_Mo_flow 102 = .ok (.isub, 1) := dk_0 a_Mo_flow_102 (dko_100 _)
theorem d_Mo_flow_103 : decode b_Mo_flow 103 = .ok (.iload 8, 2) := dk_U1 a_Mo_flow_103 (dko_21 _) rfl
theorem d_Mo_flow_105 : decode b_Mo_flow 105 = .ok (.isub, 1) := dk_0 a_Mo_flow_105 (dko_100 _)
theorem d_Mo_flow_106 : decode b_Mo_flow 106 = .ok (.iadd, 1) := dk_0 a_Mo_flow_106 (dko_96 _)
theorem d_Mo_flow_107 : decode b_Mo_flow 107 = .ok (.baload, 1) := dk_0 a_Mo_flow_107 (dko_51 _)
theorem d_Mo_flow_108 : decode b_Mo_flow 108 = .ok (.bastore, 1) := dk_0 a_Mo_flow_108 (dko_84 _)
theorem d_Mo_flow_109 : decode b_Mo_flow 109 = .ok (.iinc 4 1, 3) := dk_US a_Mo_flow_109 (dko_132 _) (by decide +kernel)
theorem d_Mo_flow_112 : decode b_Mo_flow 112 = .ok (.iinc 8 1, 3) := dk_US a_Mo_flow_112 (dko_132 _) (by decide +kernel)
theorem d_Mo_flow_115 : decode b_Mo_flow 115 = .ok (.goto (-61), 3) := dk_S2 a_Mo_flow_115 (dko_167 _) (by decide +kernel)
theorem d_Mo_flow_118 : decode b_Mo_flow 118 = .ok (.iinc 5 1, 3) := dk_US a_Mo_flow_118 (dko_132 _) (by decide +kernel)
theorem d_Mo_flow_121 : decode b_Mo_flow 121 = .ok (.goto (-101), 3) := dk_S2 a_Mo_flow_121 (dko_167 _) (by decide +kernel)
theorem d_Mo_flow_124 : decode b_Mo_flow 124 = .ok (.iconst 0, 1) := dk_0 a_Mo_flow_124 (dko_3 _)
theorem d_Mo_flow_125 : decode b_Mo_flow 125 = .ok (.istore 5, 2) := dk_U1 a_Mo_flow_125 (dko_54 _) rfl
theorem d_Mo_flow_127 : decode b_Mo_flow 127 = .ok (.iconst 1, 1) := dk_0 a_Mo_flow_127 (dko_4 _)
theorem d_Mo_flow_128 : decode b_Mo_flow 128 = .ok (.istore 6, 2) := dk_U1 a_Mo_flow_128 (dko_54 _) rfl
theorem d_Mo_flow_130 : decode b_Mo_flow 130 = .ok (.iload 6, 2) := dk_U1 a_Mo_flow_130 (dko_21 _) rfl
theorem d_Mo_flow_132 : decode b_Mo_flow 132 = .ok (.ifCond .eq 143, 3) := dk_S2 a_Mo_flow_132 (dko_153 _) (by decide +kernel)
theorem d_Mo_flow_135 : decode b_Mo_flow 135 = .ok (.iload 5, 2) := dk_U1 a_Mo_flow_135 (dko_21 _) rfl
theorem d_Mo_flow_137 : decode b_Mo_flow 137 = .ok (.aload_n 0, 1) := dk_0 a_Mo_flow_137 (dko_42 _)
theorem d_Mo_flow_138 : decode b_Mo_flow 138 = .ok (.getfield 92, 3) := dk_U2 a_Mo_flow_138 (dko_180 _) rfl
theorem d_Mo_flow_141 : decode b_Mo_flow 141 = .ok (.iload_n 1, 1) := dk_0 a_Mo_flow_141 (dko_27 _)
theorem d_Mo_flow_142 : decode b_Mo_flow 142 = .ok (.iaload, 1) := dk_0 a_Mo_flow_142 (dko_46 _)
theorem d_Mo_flow_143 : decode b_Mo_flow 143 = .ok (.if_icmp .ge 132, 3) := dk_S2 a_Mo_flow_143 (dko_162 _) (by decide +kernel)
theorem d_Mo_flow_146 : decode b_Mo_flow 146 = .ok (.iload 5, 2) := dk_U1 a_Mo_flow_146 (dko_21 _) rfl
theorem d_Mo_flow_148 : decode b_Mo_flow 148 = .ok (.iload 4, 2) := dk_U1 a_Mo_flow_148 (dko_21 _) rfl
theorem d_Mo_flow_150 : decode b_Mo_flow 150 = .ok (.if_icmp .ge 18, 3) := dk_S2 a_Mo_flow_150 (dko_162 _) (by decide +kernel)
theorem d_Mo_flow_153 : decode b_Mo_flow 153 = .ok (.aload_n 0, 1) := dk_0 a_Mo_flow_153 (dko_42 _)
theorem d_Mo_flow_154 : decode b_Mo_flow 154 = .ok (.getfield 119, 3) := dk_U2 a_Mo_flow_154 (dko_180 _) rfl
theorem d_Mo_flow_157 : decode b_Mo_flow 157 = .ok (.iload 4, 2) := dk_U1 a_Mo_flow_157 (dko_21 _) rfl
theorem d_Mo_flow_159 : decode b_Mo_flow 159 = .ok (.iconst 1, 1) := dk_0 a_Mo_flow_159 (dko_4 _)
theorem d_Mo_flow_160 : decode b_Mo_flow 160 = .ok (.isub, 1) := dk_0 a_Mo_flow_160 (dko_100 _)
theorem d_Mo_flow_161 : decode b_Mo_flow 161 = .ok (.iload 5, 2) := dk_U1 a_Mo_flow_161 (dko_21 _) rfl
theorem d_Mo_flow_163 : decode b_Mo_flow 163 = .ok (.isub, 1) := dk_0 a_Mo_flow_163 (dko_100 _)
theorem d_Mo_flow_164 : decode b_Mo_flow 164 = .ok (.baload, 1) := dk_0 a_Mo_flow_164 (dko_51 _)
theorem d_Mo_flow_165 : decode b_Mo_flow 165 = .ok (.goto 9, 3) := dk_S2 a_Mo_flow_165 (dko_167 _) (by decide +kernel)
theorem d_Mo_flow_168 : decode b_Mo_flow 168 = .ok (.aload_n 0, 1) := dk_0 a_Mo_flow_168 (dko_42 _)
theorem d_Mo_flow_169 : decode b_Mo_flow 169 = .ok (.getfield 89, 3) := dk_U2 a_Mo_flow_169 (dko_180 _) rfl
theorem d_Mo_flow_172 : decode b_Mo_flow 172 = .ok (.iload_n 1, 1) := dk_0 a_Mo_flow_172 (dko_27 _)
theorem d_Mo_flow_173 : decode b_Mo_flow 173 = .ok (.iaload, 1) := dk_0 a_Mo_flow_173 (dko_46 _)
theorem d_Mo_flow_174 : decode b_Mo_flow 174 = .ok (.istore 7, 2) := dk_U1 a_Mo_flow_174 (dko_54 _) rfl
theorem d_Mo_flow_176 : decode b_Mo_flow 176 = .ok (.aload_n 0, 1) := dk_0 a_Mo_flow_176 (dko_42 _)
theorem d_Mo_flow_177 : decode b_Mo_flow 177 = .ok (.getfield 34, 3) := dk_U2 a_Mo_flow_177 (dko_180 _) rfl
theorem d_Mo_flow_180 : decode b_Mo_flow 180 = .ok (.iload_n 2, 1) := dk_0 a_Mo_flow_180 (dko_28 _)
theorem d_Mo_flow_181 : decode b_Mo_flow 181 = .ok (.iaload, 1) := dk_0 a_Mo_flow_181 (dko_46 _)
theorem d_Mo_flow_182 : decode b_Mo_flow 182 = .ok (.ifCond .le 52, 3) := dk_S2 a_Mo_flow_182 (dko_158 _) (by decide +kernel)
theorem d_Mo_flow_185 : decode b_Mo_flow 185 = .ok (.aload_n 0, 1) := dk_0 a_Mo_flow_185 (dko_42 _)
theorem d_Mo_flow_186 : decode b_Mo_flow 186 = .ok (.getfield 37, 3) := dk_U2 a_Mo_flow_186 (dko_180 _) rfl
theorem d_Mo_flow_189 : decode b_Mo_flow 189 = .ok (.iload_n 2, 1) := dk_0 a_Mo_flow_189 (dko_28 _)
theorem d_Mo_flow_190 : decode b_Mo_flow 190 = .ok (.iaload, 1) := dk_0 a_Mo_flow_190 (dko_46 _)
theorem d_Mo_flow_191 : decode b_Mo_flow 191 = .ok (.aload_n 0, 1) := dk_0 a_Mo_flow_191 (dko_42 _)
theorem d_Mo_flow_192 : decode b_Mo_flow 192 = .ok (.getfield 89, 3) := dk_U2 a_Mo_flow_192 (dko_180 _) rfl
theorem d_Mo_flow_195 : decode b_Mo_flow 195 = .ok (.iload_n 1, 1) := dk_0 a_Mo_flow_195 (dko_27 _)
theorem d_Mo_flow_196 : decode b_Mo_flow 196 = .ok (.iaload, 1) := dk_0 a_Mo_flow_196 (dko_46 _)
theorem d_Mo_flow_197 : decode b_Mo_flow 197 = .ok (.if_icmp .ne 37, 3) := dk_S2 a_Mo_flow_197 (dko_160 _) (by decide +kernel)
theorem d_Mo_flow_200 : decode b_Mo_flow 200 = .ok (.iload 7, 2) := dk_U1 a_Mo_flow_200 (dko_21 _) rfl
theorem d_Mo_flow_202 : decode b_Mo_flow 202 = .ok (.ifCond .eq 28, 3) := dk_S2 a_Mo_flow_202 (dko_153 _) (by decide +kernel)
theorem d_Mo_flow_205 : decode b_Mo_flow 205 = .ok (.aload_n 0, 1) := dk_0 a_Mo_flow_205 (dko_42 _)
theorem d_Mo_flow_206 : decode b_Mo_flow 206 = .ok (.getfield 34, 3) := dk_U2 a_Mo_flow_206 (dko_180 _) rfl
theorem d_Mo_flow_209 : decode b_Mo_flow 209 = .ok (.iload_n 3, 1) := dk_0 a_Mo_flow_209 (dko_29 _)
theorem d_Mo_flow_210 : decode b_Mo_flow 210 = .ok (.iaload, 1) := dk_0 a_Mo_flow_210 (dko_46 _)
theorem d_Mo_flow_211 : decode b_Mo_flow 211 = .ok (.aload_n 0, 1) := dk_0 a_Mo_flow_211 (dko_42 _)
theorem d_Mo_flow_212 : decode b_Mo_flow 212 = .ok (.getfield 31, 3) := dk_U2 a_Mo_flow_212 (dko_180 _) rfl
theorem d_Mo_flow_215 : decode b_Mo_flow 215 = .ok (.iload_n 3, 1) := dk_0 a_Mo_flow_215 (dko_29 _)
theorem d_Mo_flow_216 : decode b_Mo_flow 216 = .ok (.iaload, 1) := dk_0 a_Mo_flow_216 (dko_46 _)
theorem d_Mo_flow_217 : decode b_Mo_flow 217 = .ok (.if_icmp .ge 17, 3) := dk_S2 a_Mo_flow_217 (dko_162 _) (by decide +kernel)
theorem d_Mo_flow_220 : decode b_Mo_flow 220 = .ok (.aload_n 0, 1) := dk_0 a_Mo_flow_220 (dko_42 _)
theorem d_Mo_flow_221 : decode b_Mo_flow 221 = .ok (.iload 7, 2) := dk_U1 a_Mo_flow_221 (dko_21 _) rfl
theorem d_Mo_flow_223 : decode b_Mo_flow 223 = .ok (.iload_n 3, 1) := dk_0 a_Mo_flow_223 (dko_29 _)
theorem d_Mo_flow_224 : decode b_Mo_flow 224 = .ok (.invokevirtual 400, 3) := dk_U2 a_Mo_flow_224 (dko_182 _) rfl
theorem d_Mo_flow_227 : decode b_Mo_flow 227 = .ok (.ifCond .eq 7, 3) := dk_S2 a_Mo_flow_227 (dko_153 _) (by decide +kernel)
theorem d_Mo_flow_230 : decode b_Mo_flow 230 = .ok (.iconst 1, 1) := dk_0 a_Mo_flow_230 (dko_4 _)
theorem d_Mo_flow_231 : decode b_Mo_flow 231 = .ok (.goto 4, 3) := dk_S2 a_Mo_flow_231 (dko_167 _) (by decide +kernel)
theorem d_Mo_flow_234 : decode b_Mo_flow 234 = .ok (.iconst 0, 1) := dk_0 a_Mo_flow_234 (dko_3 _)
theorem d_Mo_flow_235 : decode b_Mo_flow 235 = .ok (.istore 6, 2) := dk_U1 a_Mo_flow_235 (dko_54 _) rfl
theorem d_Mo_flow_237 : decode b_Mo_flow 237 = .ok (.iload 6, 2) := dk_U1 a_Mo_flow_237 (dko_21 _) rfl
theorem d_Mo_flow_239 : decode b_Mo_flow 239 = .ok (.ifCond .eq 33, 3) := dk_S2 a_Mo_flow_239 (dko_153 _) (by decide +kernel)
theorem d_Mo_flow_242 : decode b_Mo_flow 242 = .ok (.aload_n 0, 1) := dk_0 a_Mo_flow_242 (dko_42 _)
theorem d_Mo_flow_243 : decode b_Mo_flow 243 = .ok (.getfield 34, 3) := dk_U2 a_Mo_flow_243 (dko_180 _) rfl
theorem d_Mo_flow_246 : decode b_Mo_flow 246 = .ok (.iload_n 2, 1) := dk_0 a_Mo_flow_246 (dko_28 _)
theorem d_Mo_flow_247 : decode b_Mo_flow 247 = .ok (.dup2, 1) := dk_0 a_Mo_flow_247 (dko_92 _)
theorem d_Mo_flow_248 : decode b_Mo_flow 248 = .ok (.iaload, 1) := dk_0 a_Mo_flow_248 (dko_46 _)
theorem d_Mo_flow_249 : decode b_Mo_flow 249 = .ok (.iconst 1, 1) := dk_0 a_Mo_flow_249 (dko_4 _)
theorem d_Mo_flow_250 : decode b_Mo_flow 250 = .ok (.isub, 1) := dk_0 a_Mo_flow_250 (dko_100 _)
theorem d_Mo_flow_251 : decode b_Mo_flow 251 = .ok (.iastore, 1) := dk_0 a_Mo_flow_251 (dko_79 _)
theorem d_Mo_flow_252 : decode b_Mo_flow 252 = .ok (.iload 7, 2) := dk_U1 a_Mo_flow_252 (dko_21 _) rfl
theorem d_Mo_flow_254 : decode b_Mo_flow 254 = .ok (.ifCond .le 15, 3) := dk_S2 a_Mo_flow_254 (dko_158 _) (by decide +kernel)
theorem d_Mo_flow_257 : decode b_Mo_flow 257 = .ok (.aload_n 0, 1) := dk_0 a_Mo_flow_257 (dko_42 _)
theorem d_Mo_flow_258 : decode b_Mo_flow 258 = .ok (.iload_n 3, 1) := dk_0 a_Mo_flow_258 (dko_29 _)
theorem d_Mo_flow_259 : decode b_Mo_flow 259 = .ok (.iload 7, 2) := dk_U1 a_Mo_flow_259 (dko_21 _) rfl
theorem d_Mo_flow_261 : decode b_Mo_flow 261 = .ok (.invokevirtual 406, 3) := dk_U2 a_Mo_flow_261 (dko_182 _) rfl
theorem d_Mo_flow_264 : decode b_Mo_flow 264 = .ok (.aload_n 0, 1) := dk_0 a_Mo_flow_264 (dko_42 _)
theorem d_Mo_flow_265 : decode b_Mo_flow 265 = .ok (.iload_n 3, 1) := dk_0 a_Mo_flow_265 (dko_29 _)
theorem d_Mo_flow_266 : decode b_Mo_flow 266 = .ok (.invokevirtual 409, 3) := dk_U2 a_Mo_flow_266 (dko_182 _) rfl
theorem d_Mo_flow_269 : decode b_Mo_flow 269 = .ok (.iinc 5 1, 3) := dk_US a_Mo_flow_269 (dko_132 _) (by decide +kernel)
theorem d_Mo_flow_272 : decode b_Mo_flow 272 = .ok (.goto (-142), 3) := dk_S2 a_Mo_flow_272 (dko_167 _) (by decide +kernel)
theorem d_Mo_flow_275 : decode b_Mo_flow 275 = .ok (.iconst 0, 1) := dk_0 a_Mo_flow_275 (dko_3 _)
theorem d_Mo_flow_276 : decode b_Mo_flow 276 = .ok (.istore 7, 2) := dk_U1 a_Mo_flow_276 (dko_54 _) rfl
theorem d_Mo_flow_278 : decode b_Mo_flow 278 = .ok (.iconst 0, 1) := dk_0 a_Mo_flow_278 (dko_3 _)
theorem d_Mo_flow_279 : decode b_Mo_flow 279 = .ok (.istore 8, 2) := dk_U1 a_Mo_flow_279 (dko_54 _) rfl
theorem d_Mo_flow_281 : decode b_Mo_flow 281 = .ok (.iload 8, 2) := dk_U1 a_Mo_flow_281 (dko_21 _) rfl
theorem d_Mo_flow_283 : decode b_Mo_flow 283 = .ok (.aload_n 0, 1) := dk_0 a_Mo_flow_283 (dko_42 _)
theorem d_Mo_flow_284 : decode b_Mo_flow 284 = .ok (.getfield 95, 3) := dk_U2 a_Mo_flow_284 (dko_180 _) rfl
theorem d_Mo_flow_287 : decode b_Mo_flow 287 = .ok (.iload_n 1, 1) := dk_0 a_Mo_flow_287 (dko_27 _)
theorem d_Mo_flow_288 : decode b_Mo_flow 288 = .ok (.iaload, 1) := dk_0 a_Mo_flow_288 (dko_46 _)
theorem d_Mo_flow_289 : decode b_Mo_flow 289 = .ok (.if_icmp .ge 205, 3) := dk_S2 a_Mo_flow_289 (dko_162 _) (by decide +kernel)
theorem d_Mo_flow_292 : decode b_Mo_flow 292 = .ok (.aload_n 0, 1) := dk_0 a_Mo_flow_292 (dko_42 _)
theorem d_Mo_flow_293 : decode b_Mo_flow 293 = .ok (.getfield 98, 3) := dk_U2 a_Mo_flow_293 (dko_180 _) rfl
theorem d_Mo_flow_296 : decode b_Mo_flow 296 = .ok (.bipush 24, 2) := dk_S1 a_Mo_flow_296 (dko_16 _) (by decide +kernel)
theorem d_Mo_flow_298 : decode b_Mo_flow 298 = .ok (.iload_n 1, 1) := dk_0 a_Mo_flow_298 (dko_27 _)
theorem d_Mo_flow_299 : decode b_Mo_flow 299 = .ok (.imul, 1) := dk_0 a_Mo_flow_299 (dko_104 _)
theorem d_Mo_flow_300 : decode b_Mo_flow 300 = .ok (.iload 8, 2) := dk_U1 a_Mo_flow_300 (dko_21 _) rfl
theorem d_Mo_flow_302 : decode b_Mo_flow 302 = .ok (.iadd, 1) := dk_0 a_Mo_flow_302 (dko_96 _)
theorem d_Mo_flow_303 : decode b_Mo_flow 303 = .ok (.iaload, 1) := dk_0 a_Mo_flow_303 (dko_46 _)
theorem d_Mo_flow_304 : decode b_Mo_flow 304 = .ok (.istore 9, 2) := dk_U1 a_Mo_flow_304 (dko_54 _) rfl
theorem d_Mo_flow_306 : decode b_Mo_flow 306 = .ok (.iload 9, 2) := dk_U1 a_Mo_flow_306 (dko_21 _) rfl
theorem d_Mo_flow_308 : decode b_Mo_flow 308 = .ok (.iconst 2, 1) := dk_0 a_Mo_flow_308 (dko_5 _)
theorem d_Mo_flow_309 : decode b_Mo_flow 309 = .ok (.idiv, 1) := dk_0 a_Mo_flow_309 (dko_108 _)
theorem d_Mo_flow_310 : decode b_Mo_flow 310 = .ok (.istore 10, 2) := dk_U1 a_Mo_flow_310 (dko_54 _) rfl
theorem d_Mo_flow_312 : decode b_Mo_flow 312 = .ok (.iconst 0, 1) := dk_0 a_Mo_flow_312 (dko_3 _)
theorem d_Mo_flow_313 : decode b_Mo_flow 313 = .ok (.istore 11, 2) := dk_U1 a_Mo_flow_313 (dko_54 _) rfl
theorem d_Mo_flow_315 : decode b_Mo_flow 315 = .ok (.iconst 1, 1) := dk_0 a_Mo_flow_315 (dko_4 _)
theorem d_Mo_flow_316 : decode b_Mo_flow 316 = .ok (.istore 12, 2) := dk_U1 a_Mo_flow_316 (dko_54 _) rfl
theorem d_Mo_flow_318 : decode b_Mo_flow 318 = .ok (.iload 12, 2) := dk_U1 a_Mo_flow_318 (dko_21 _) rfl
theorem d_Mo_flow_320 : decode b_Mo_flow 320 = .ok (.iload 5, 2) := dk_U1 a_Mo_flow_320 (dko_21 _) rfl
theorem d_Mo_flow_322 : decode b_Mo_flow 322 = .ok (.if_icmp .gt 41, 3) := dk_S2 a_Mo_flow_322 (dko_163 _) (by decide +kernel)
theorem d_Mo_flow_325 : decode b_Mo_flow 325 = .ok (.iload 11, 2) := dk_U1 a_Mo_flow_325 (dko_21 _) rfl
theorem d_Mo_flow_327 : decode b_Mo_flow 327 = .ok (.ifCond .ne 36, 3) := dk_S2 a_Mo_flow_327 (dko_154 _) (by decide +kernel)
theorem d_Mo_flow_330 : decode b_Mo_flow 330 = .ok (.iload 7, 2) := dk_U1 a_Mo_flow_330 (dko_21 _) rfl
theorem d_Mo_flow_332 : decode b_Mo_flow 332 = .ok (.iload 12, 2) := dk_U1 a_Mo_flow_332 (dko_21 _) rfl
theorem d_Mo_flow_334 : decode b_Mo_flow 334 = .ok (.if_icmp .lt 16, 3) := dk_S2 a_Mo_flow_334 (dko_161 _) (by decide +kernel)
theorem d_Mo_flow_337 : decode b_Mo_flow 337 = .ok (.aload_n 0, 1) := dk_0 a_Mo_flow_337 (dko_42 _)
theorem d_Mo_flow_338 : decode b_Mo_flow 338 = .ok (.getfield 119, 3) := dk_U2 a_Mo_flow_338 (dko_180 _) rfl
theorem d_Mo_flow_341 : decode b_Mo_flow 341 = .ok (.iload 7, 2) := dk_U1 a_Mo_flow_341 (dko_21 _) rfl
theorem d_Mo_flow_343 : decode b_Mo_flow 343 = .ok (.iload 12, 2) := dk_U1 a_Mo_flow_343 (dko_21 _) rfl
theorem d_Mo_flow_345 : decode b_Mo_flow 345 = .ok (.isub, 1) := dk_0 a_Mo_flow_345 (dko_100 _)
theorem d_Mo_flow_346 : decode b_Mo_flow 346 = .ok (.baload, 1) := dk_0 a_Mo_flow_346 (dko_51 _)
theorem d_Mo_flow_347 : decode b_Mo_flow 347 = .ok (.ifCond .le 7, 3) := dk_S2 a_Mo_flow_347 (dko_158 _) (by decide +kernel)
theorem d_Mo_flow_350 : decode b_Mo_flow 350 = .ok (.iconst 1, 1) := dk_0 a_Mo_flow_350 (dko_4 _)
theorem d_Mo_flow_351 : decode b_Mo_flow 351 = .ok (.goto 4, 3) := dk_S2 a_Mo_flow_351 (dko_167 _) (by decide +kernel)
theorem d_Mo_flow_354 : decode b_Mo_flow 354 = .ok (.iconst 0, 1) := dk_0 a_Mo_flow_354 (dko_3 _)
theorem d_Mo_flow_355 : decode b_Mo_flow 355 = .ok (.istore 11, 2) := dk_U1 a_Mo_flow_355 (dko_54 _) rfl
theorem d_Mo_flow_357 : decode b_Mo_flow 357 = .ok (.iinc 12 1, 3) := dk_US a_Mo_flow_357 (dko_132 _) (by decide +kernel)
theorem d_Mo_flow_360 : decode b_Mo_flow 360 = .ok (.goto (-42), 3) := dk_S2 a_Mo_flow_360 (dko_167 _) (by decide +kernel)
theorem d_Mo_flow_363 : decode b_Mo_flow 363 = .ok (.iload 11, 2) := dk_U1 a_Mo_flow_363 (dko_21 _) rfl
theorem d_Mo_flow_365 : decode b_Mo_flow 365 = .ok (.ifCond .eq 32, 3) := dk_S2 a_Mo_flow_365 (dko_153 _) (by decide +kernel)
theorem d_Mo_flow_368 : decode b_Mo_flow 368 = .ok (.aload_n 0, 1) := dk_0 a_Mo_flow_368 (dko_42 _)
theorem d_Mo_flow_369 : decode b_Mo_flow 369 = .ok (.getfield 58, 3) := dk_U2 a_Mo_flow_369 (dko_180 _) rfl
theorem d_Mo_flow_372 : decode b_Mo_flow 372 = .ok (.aload_n 0, 1) := dk_0 a_Mo_flow_372 (dko_42 _)
theorem d_Mo_flow_373 : decode b_Mo_flow 373 = .ok (.getfield 278, 3) := dk_U2 a_Mo_flow_373 (dko_180 _) rfl
theorem d_Mo_flow_376 : decode b_Mo_flow 376 = .ok (.iload 10, 2) := dk_U1 a_Mo_flow_376 (dko_21 _) rfl
theorem d_Mo_flow_378 : decode b_Mo_flow 378 = .ok (.iadd, 1) := dk_0 a_Mo_flow_378 (dko_96 _)
theorem d_Mo_flow_379 : decode b_Mo_flow 379 = .ok (.aload_n 0, 1) := dk_0 a_Mo_flow_379 (dko_42 _)
theorem d_Mo_flow_380 : decode b_Mo_flow 380 = .ok (.getfield 89, 3) := dk_U2 a_Mo_flow_380 (dko_180 _) rfl
theorem d_Mo_flow_383 : decode b_Mo_flow 383 = .ok (.iload_n 1, 1) := dk_0 a_Mo_flow_383 (dko_27 _)
theorem d_Mo_flow_384 : decode b_Mo_flow 384 = .ok (.iaload, 1) := dk_0 a_Mo_flow_384 (dko_46 _)
theorem d_Mo_flow_385 : decode b_Mo_flow 385 = .ok (.iastore, 1) := dk_0 a_Mo_flow_385 (dko_79 _)
theorem d_Mo_flow_386 : decode b_Mo_flow 386 = .ok (.aload_n 0, 1) := dk_0 a_Mo_flow_386 (dko_42 _)
theorem d_Mo_flow_387 : decode b_Mo_flow 387 = .ok (.aload_n 0, 1) := dk_0 a_Mo_flow_387 (dko_42 _)
theorem d_Mo_flow_388 : decode b_Mo_flow 388 = .ok (.getfield 278, 3) := dk_U2 a_Mo_flow_388 (dko_180 _) rfl
theorem d_Mo_flow_391 : decode b_Mo_flow 391 = .ok (.iload 10, 2) := dk_U1 a_Mo_flow_391 (dko_21 _) rfl
theorem d_Mo_flow_393 : decode b_Mo_flow 393 = .ok (.iadd, 1) := dk_0 a_Mo_flow_393 (dko_96 _)
theorem d_Mo_flow_394 : decode b_Mo_flow 394 = .ok (.invokevirtual 291, 3) := dk_U2 a_Mo_flow_394 (dko_182 _) rfl
theorem d_Mo_flow_397 : decode b_Mo_flow 397 = .ok (.iconst 0, 1) := dk_0 a_Mo_flow_397 (dko_3 _)
theorem d_Mo_flow_398 : decode b_Mo_flow 398 = .ok (.istore 12, 2) := dk_U1 a_Mo_flow_398 (dko_54 _) rfl
theorem d_Mo_flow_400 : decode b_Mo_flow 400 = .ok (.iload 12, 2) := dk_U1 a_Mo_flow_400 (dko_21 _) rfl
theorem d_Mo_flow_402 : decode b_Mo_flow 402 = .ok (.aload_n 0, 1) := dk_0 a_Mo_flow_402 (dko_42 _)
theorem d_Mo_flow_403 : decode b_Mo_flow 403 = .ok (.getfield 46, 3) := dk_U2 a_Mo_flow_403 (dko_180 _) rfl
theorem d_Mo_flow_406 : decode b_Mo_flow 406 = .ok (.iload 10, 2) := dk_U1 a_Mo_flow_406 (dko_21 _) rfl
theorem d_Mo_flow_408 : decode b_Mo_flow 408 = .ok (.iaload, 1) := dk_0 a_Mo_flow_408 (dko_46 _)
theorem d_Mo_flow_409 : decode b_Mo_flow 409 = .ok (.if_icmp .ge 79, 3) := dk_S2 a_Mo_flow_409 (dko_162 _) (by decide +kernel)
theorem d_Mo_flow_412 : decode b_Mo_flow 412 = .ok (.iload 7, 2) := dk_U1 a_Mo_flow_412 (dko_21 _) rfl
theorem d_Mo_flow_414 : decode b_Mo_flow 414 = .ok (.iload 5, 2) := dk_U1 a_Mo_flow_414 (dko_21 _) rfl
theorem d_Mo_flow_416 : decode b_Mo_flow 416 = .ok (.if_icmp .ge 12, 3) := dk_S2 a_Mo_flow_416 (dko_162 _) (by decide +kernel)
theorem d_Mo_flow_419 : decode b_Mo_flow 419 = .ok (.aload_n 0, 1) := dk_0 a_Mo_flow_419 (dko_42 _)
theorem d_Mo_flow_420 : decode b_Mo_flow 420 = .ok (.getfield 89, 3) := dk_U2 a_Mo_flow_420 (dko_180 _) rfl
theorem d_Mo_flow_423 : decode b_Mo_flow 423 = .ok (.iload_n 1, 1) := dk_0 a_Mo_flow_423 (dko_27 _)
theorem d_Mo_flow_424 : decode b_Mo_flow 424 = .ok (.iaload, 1) := dk_0 a_Mo_flow_424 (dko_46 _)
theorem d_Mo_flow_425 : decode b_Mo_flow 425 = .ok (.goto 13, 3) := dk_S2 a_Mo_flow_425 (dko_167 _) (by decide +kernel)
theorem d_Mo_flow_428 : decode b_Mo_flow 428 = .ok (.aload_n 0, 1) := dk_0 a_Mo_flow_428 (dko_42 _)
theorem d_Mo_flow_429 : decode b_Mo_flow 429 = .ok (.getfield 119, 3) := dk_U2 a_Mo_flow_429 (dko_180 _) rfl
theorem d_Mo_flow_432 : decode b_Mo_flow 432 = .ok (.iload 7, 2) := dk_U1 a_Mo_flow_432 (dko_21 _) rfl
theorem d_Mo_flow_434 : decode b_Mo_flow 434 = .ok (.iload 5, 2) := dk_U1 a_Mo_flow_434 (dko_21 _) rfl
theorem d_Mo_flow_436 : decode b_Mo_flow 436 = .ok (.isub, 1) := dk_0 a_Mo_flow_436 (dko_100 _)
theorem d_Mo_flow_437 : decode b_Mo_flow 437 = .ok (.baload, 1) := dk_0 a_Mo_flow_437 (dko_51 _)
theorem d_Mo_flow_438 : decode b_Mo_flow 438 = .ok (.istore 13, 2) := dk_U1 a_Mo_flow_438 (dko_54 _) rfl
theorem d_Mo_flow_440 : decode b_Mo_flow 440 = .ok (.aload_n 0, 1) := dk_0 a_Mo_flow_440 (dko_42 _)
theorem d_Mo_flow_441 : decode b_Mo_flow 441 = .ok (.getfield 55, 3) := dk_U2 a_Mo_flow_441 (dko_180 _) rfl
theorem d_Mo_flow_444 : decode b_Mo_flow 444 = .ok (.sipush 200, 3) := dk_S2 a_Mo_flow_444 (dko_17 _) (by decide +kernel)
theorem d_Mo_flow_447 : decode b_Mo_flow 447 = .ok (.iload 10, 2) := dk_U1 a_Mo_flow_447 (dko_21 _) rfl
theorem d_Mo_flow_449 : decode b_Mo_flow 449 = .ok (.imul, 1) := dk_0 a_Mo_flow_449 (dko_104 _)
theorem d_Mo_flow_450 : decode b_Mo_flow 450 = .ok (.iload 9, 2) := dk_U1 a_Mo_flow_450 (dko_21 _) rfl
theorem d_Mo_flow_452 : decode b_Mo_flow 452 = .ok (.iconst 2, 1) := dk_0 a_Mo_flow_452 (dko_5 _)
theorem d_Mo_flow_453 : decode b_Mo_flow 453 = .ok (.irem, 1) := dk_0 a_Mo_flow_453 (dko_112 _)
theorem d_Mo_flow_454 : decode b_Mo_flow 454 = .ok (.ifCond .ne 8, 3) := dk_S2 a_Mo_flow_454 (dko_154 _) (by decide +kernel)
theorem d_Mo_flow_457 : decode b_Mo_flow 457 = .ok (.iload 12, 2) := dk_U1 a_Mo_flow_457 (dko_21 _) rfl
theorem d_Mo_flow_459 : decode b_Mo_flow 459 = .ok (.goto 15, 3) := dk_S2 a_Mo_flow_459 (dko_167 _) (by decide +kernel)
theorem d_Mo_flow_462 : decode b_Mo_flow 462 = .ok (.aload_n 0, 1) := dk_0 a_Mo_flow_462 (dko_42 _)
theorem d_Mo_flow_463 : decode b_Mo_flow 463 = .ok (.getfield 46, 3) := dk_U2 a_Mo_flow_463 (dko_180 _) rfl
theorem d_Mo_flow_466 : decode b_Mo_flow 466 = .ok (.iload 10, 2) := dk_U1 a_Mo_flow_466 (dko_21 _) rfl
theorem d_Mo_flow_468 : decode b_Mo_flow 468 = .ok (.iaload, 1) := dk_0 a_Mo_flow_468 (dko_46 _)
theorem d_Mo_flow_469 : decode b_Mo_flow 469 = .ok (.iconst 1, 1) := dk_0 a_Mo_flow_469 (dko_4 _)
theorem d_Mo_flow_470 : decode b_Mo_flow 470 = .ok (.isub, 1) := dk_0 a_Mo_flow_470 (dko_100 _)
theorem d_Mo_flow_471 : decode b_Mo_flow 471 = .ok (.iload 12, 2) := dk_U1 a_Mo_flow_471 (dko_21 _) rfl
theorem d_Mo_flow_473 : decode b_Mo_flow 473 = .ok (.isub, 1) := dk_0 a_Mo_flow_473 (dko_100 _)
theorem d_Mo_flow_474 : decode b_Mo_flow 474 = .ok (.iadd, 1) := dk_0 a_Mo_flow_474 (dko_96 _)
theorem d_Mo_flow_475 : decode b_Mo_flow 475 = .ok (.iload 13, 2) := dk_U1 a_Mo_flow_475 (dko_21 _) rfl
theorem d_Mo_flow_477 : decode b_Mo_flow 477 = .ok (.i2b, 1) := dk_0 a_Mo_flow_477 (dko_145 _)
theorem d_Mo_flow_478 : decode b_Mo_flow 478 = .ok (.bastore, 1) := dk_0 a_Mo_flow_478 (dko_84 _)
theorem d_Mo_flow_479 : decode b_Mo_flow 479 = .ok (.iinc 7 1, 3) := dk_US a_Mo_flow_479 (dko_132 _) (by decide +kernel)
theorem d_Mo_flow_482 : decode b_Mo_flow 482 = .ok (.iinc 12 1, 3) := dk_US a_Mo_flow_482 (dko_132 _) (by decide +kernel)
theorem d_Mo_flow_485 : decode b_Mo_flow 485 = .ok (.goto (-85), 3) := dk_S2 a_Mo_flow_485 (dko_167 _) (by decide +kernel)
theorem d_Mo_flow_488 : decode b_Mo_flow 488 = .ok (.iinc 8 1, 3) := dk_US a_Mo_flow_488 (dko_132 _) (by decide +kernel)
theorem d_Mo_flow_491 : decode b_Mo_flow 491 = .ok (.goto (-210), 3) := dk_S2 a_Mo_flow_491 (dko_167 _) (by decide +kernel)
theorem d_Mo_flow_494 : decode b_Mo_flow 494 = .ok (.return_, 1) := dk_0 a_Mo_flow_494 (dko_177 _)
set_option maxHeartbeats 4000000 in
set_option maxRecDepth 100000 in
theorem ok_Mo_flow (pc : Nat) : OpS mt mi_Mo_flow pc (cs_Mo_flow pc) := (os_n (os_n (os_n (os_n (os_n (os_n (os_n (os_n (os_l (so_aload_n d_Mo_flow_0 rfl)) (os_l (so_get (C := R_Mo) (T := F_Mo) (N := 87) (j := 27) in_Mo rfl (by decide) mw_1821 d_Mo_flow_1))) (os_n (os_l (so_iload_n d_Mo_flow_4 rfl)) (os_l (so_iaload d_Mo_flow_5)))) (os_n (os_n (os_l (so_istore_n d_Mo_flow_6 rfl (by decide))) (os_l (so_aload_n d_Mo_flow_7 rfl))) (os_n (os_l (so_get (C := R_Mo) (T := F_Mo) (N := 87) (j := 28) in_Mo rfl (by decide) mw_1822 d_Mo_flow_8)) (os_l (so_iload_n d_Mo_flow_11 rfl))))) (os_n (os_n (os_n (os_l (so_iaload d_Mo_flow_12)) (os_l (so_istore_n d_Mo_flow_13 rfl (by decide)))) (os_n (os_l (so_iconst d_Mo_flow_14 (by decide))) (os_l (so_istore d_Mo_flow_15 (by decide))))) (os_n (os_n (os_l (so_iconst d_Mo_flow_17 (by decide))) (os_l (so_istore d_Mo_flow_18 (by decide)))) (os_n (os_l (so_iload d_Mo_flow_20)) (os_n (os_l (so_aload_n d_Mo_flow_22 rfl)) (os_l (so_get (C := R_Mo) (T := F_Mo) (N := 87) (j := 31) in_Mo rfl (by decide) mw_1825 d_Mo_flow_23))))))) (os_n (os_n (os_n (os_n (os_l (so_iload_n d_Mo_flow_26 rfl)) (os_l (so_iaload d_Mo_flow_27))) (os_n (os_l (so_icge d_Mo_flow_28 (by decide))) (os_l (so_aload_n d_Mo_flow_31 rfl)))) (os_n (os_n (os_l (so_get (C := R_Mo) (T := F_Mo) (N := 87) (j := 32) in_Mo rfl (by decide) mw_1826 d_Mo_flow_32)) (os_l (so_bipush d_Mo_flow_35 (by decide)))) (os_n (os_l (so_iload_n d_Mo_flow_37 rfl)) (os_l (so_imul d_Mo_flow_38))))) (os_n (os_n (os_n (os_l (so_iload d_Mo_flow_39)) (os_l (so_iadd d_Mo_flow_41))) (os_n (os_l (so_iaload d_Mo_flow_42)) (os_l (so_istore d_Mo_flow_43 (by decide))))) (os_n (os_n (os_l (so_iload d_Mo_flow_45)) (os_l (so_iconst d_Mo_flow_47 (by decide)))) (os_n (os_l (so_idiv d_Mo_flow_48)) (os_n (os_l (so_istore d_Mo_flow_49 (by decide))) (os_l (so_iconst d_Mo_flow_51 (by decide))))))))) (os_n (os_n (os_n (os_n (os_n (os_l (so_istore d_Mo_flow_52 (by decide))) (os_l (so_iload d_Mo_flow_54))) (os_n (os_l (so_aload_n d_Mo_flow_56 rfl)) (os_l (so_get (C := R_Mo) (T := F_Mo) (N := 87) (j := 12) in_Mo rfl (by decide) mw_1806 d_Mo_flow_57)))) (os_n (os_n (os_l (so_iload d_Mo_flow_60)) (os_l (so_iaload d_Mo_flow_62))) (os_n (os_l (so_icge d_Mo_flow_63 (by decide))) (os_l (so_aload_n d_Mo_flow_66 rfl))))) (os_n (os_n (os_n (os_l (so_get (C := R_Mo) (T := F_Mo) (N := 87) (j := 41) in_Mo rfl (by decide) mw_1835 d_Mo_flow_67)) (os_l (so_iload d_Mo_flow_70))) (os_n (os_l (so_aload_n d_Mo_flow_72 rfl)) (os_l (so_get (C := R_Mo) (T := F_Mo) (N := 87) (j := 15) in_Mo rfl (by decide) mw_1809 d_Mo_flow_73)))) (os_n (os_n (os_l (so_sipush d_Mo_flow_76 (by decide))) (os_l (so_iload d_Mo_flow_79))) (os_n (os_l (so_imul d_Mo_flow_81)) (os_n (os_l (so_iload d_Mo_flow_82)) (os_l (so_iconst d_Mo_flow_84 (by decide)))))))) (os_n (os_n (os_n (os_n (os_l (so_irem d_Mo_flow_85)) (os_l (so_ifne d_Mo_flow_86 (by decide)))) (os_n (os_l (so_iload d_Mo_flow_89)) (os_l (so_goto d_Mo_flow_91 (by decide))))) (os_n (os_n (os_l (so_aload_n d_Mo_flow_94 rfl)) (os_l (so_get (C := R_Mo) (T := F_Mo) (N := 87) (j := 12) in_Mo rfl (by decide) mw_1806 d_Mo_flow_95))) (os_n (os_l (so_iload d_Mo_flow_98)) (os_l (so_iaload d_Mo_flow_100))))) (os_n (os_n (os_n (os_l (so_iconst d_Mo_flow_101 (by decide))) (os_l (so_isub d_Mo_flow_102))) (os_n (os_l (so_iload d_Mo_flow_103)) (os_l (so_isub d_Mo_flow_105)))) (os_n (os_n (os_l (so_iadd d_Mo_flow_106)) (os_l (so_baload d_Mo_flow_107))) (os_n (os_l (so_bastore d_Mo_flow_108)) (os_n (os_l (so_iinc d_Mo_flow_109 (by decide) (by decide))) (os_l (so_iinc d_Mo_flow_112 (by decide) (by decide)))))))))) (os_n (os_n (os_n (os_n (os_n (os_n (os_l (so_goto d_Mo_flow_115 (by decide))) (os_l (so_iinc d_Mo_flow_118 (by decide) (by decide)))) (os_n (os_l (so_goto d_Mo_flow_121 (by decide))) (os_l (so_iconst d_Mo_flow_124 (by decide))))) (os_n (os_n (os_l (so_istore d_Mo_flow_125 (by decide))) (os_l (so_iconst d_Mo_flow_127 (by decide)))) (os_n (os_l (so_istore d_Mo_flow_128 (by decide))) (os_l (so_iload d_Mo_flow_130))))) (os_n (os_n (os_n (os_l (so_ifeq d_Mo_flow_132 (by decide))) (os_l (so_iload d_Mo_flow_135))) (os_n (os_l (so_aload_n d_Mo_flow_137 rfl)) (os_l (so_get (C := R_Mo) (T := F_Mo) (N := 87) (j := 30) in_Mo rfl (by decide) mw_1824 d_Mo_flow_138)))) (os_n (os_n (os_l (so_iload_n d_Mo_flow_141 rfl)) (os_l (so_iaload d_Mo_flow_142))) (os_n (os_l (so_icge d_Mo_flow_143 (by decide))) (os_n (os_l (so_iload d_Mo_flow_146)) (os_l (so_iload d_Mo_flow_148))))))) (os_n (os_n (os_n (os_n (os_l (so_icge d_Mo_flow_150 (by decide))) (os_l (so_aload_n d_Mo_flow_153 rfl))) (os_n (os_l (so_get (C := R_Mo) (T := F_Mo) (N := 87) (j := 41) in_Mo rfl (by decide) mw_1835 d_Mo_flow_154)) (os_l (so_iload d_Mo_flow_157)))) (os_n (os_n (os_l (so_iconst d_Mo_flow_159 (by decide))) (os_l (so_isub d_Mo_flow_160))) (os_n (os_l (so_iload d_Mo_flow_161)) (os_l (so_isub d_Mo_flow_163))))) (os_n (os_n (os_n (os_l (so_baload d_Mo_flow_164)) (os_l (so_goto d_Mo_flow_165 (by decide)))) (os_n (os_l (so_aload_n d_Mo_flow_168 rfl)) (os_l (so_get (C := R_Mo) (T := F_Mo) (N := 87) (j := 29) in_Mo rfl (by decide) mw_1823 d_Mo_flow_169)))) (os_n (os_n (os_l (so_iload_n d_Mo_flow_172 rfl)) (os_l (so_iaload d_Mo_flow_173))) (os_n (os_l (so_istore d_Mo_flow_174 (by decide))) (os_n (os_l (so_aload_n d_Mo_flow_176 rfl)) (os_l (so_get (C := R_Mo) (T := F_Mo) (N := 87) (j := 7) in_Mo rfl (by decide) mw_1801 d_Mo_flow_177)))))))) (os_n (os_n (os_n (os_n (os_n (os_l (so_iload_n d_Mo_flow_180 rfl)) (os_l (so_iaload d_Mo_flow_181))) (os_n (os_l (so_ifle d_Mo_flow_182 (by decide))) (os_l (so_aload_n d_Mo_flow_185 rfl)))) (os_n (os_n (os_l (so_get (C := R_Mo) (T := F_Mo) (N := 87) (j := 8) in_Mo rfl (by decide) mw_1802 d_Mo_flow_186)) (os_l (so_iload_n d_Mo_flow_189 rfl))) (os_n (os_l (so_iaload d_Mo_flow_190)) (os_l (so_aload_n d_Mo_flow_191 rfl))))) (os_n (os_n (os_n (os_l (so_get (C := R_Mo) (T := F_Mo) (N := 87) (j := 29) in_Mo rfl (by decide) mw_1823 d_Mo_flow_192)) (os_l (so_iload_n d_Mo_flow_195 rfl))) (os_n (os_l (so_iaload d_Mo_flow_196)) (os_l (so_icne d_Mo_flow_197 (by decide))))) (os_n (os_n (os_l (so_iload d_Mo_flow_200)) (os_l (so_ifeq d_Mo_flow_202 (by decide)))) (os_n (os_l (so_aload_n d_Mo_flow_205 rfl)) (os_n (os_l (so_get (C := R_Mo) (T := F_Mo) (N := 87) (j := 7) in_Mo rfl (by decide) mw_1801 d_Mo_flow_206)) (os_l (so_iload_n d_Mo_flow_209 rfl))))))) (os_n (os_n (os_n (os_n (os_l (so_iaload d_Mo_flow_210)) (os_l (so_aload_n d_Mo_flow_211 rfl))) (os_n (os_l (so_get (C := R_Mo) (T := F_Mo) (N := 87) (j := 6) in_Mo rfl (by decide) mw_1800 d_Mo_flow_212)) (os_l (so_iload_n d_Mo_flow_215 rfl)))) (os_n (os_n (os_l (so_iaload d_Mo_flow_216)) (os_l (so_icge d_Mo_flow_217 (by decide)))) (os_n (os_l (so_aload_n d_Mo_flow_220 rfl)) (os_n (os_l (so_iload d_Mo_flow_221)) (os_l (so_iload_n d_Mo_flow_223 rfl)))))) (os_n (os_n (os_n (os_l (so_callV (iv := mi_Mo_mayCome) rfl rfl rfl mw_2445 mw_2447 sl_160 mw_18 mw_2448 ⟨by decide +kernel, by decide +kernel, by decide +kernel⟩ (by decide) d_Mo_flow_224)) (os_l (so_ifeq d_Mo_flow_227 (by decide)))) (os_n (os_l (so_iconst d_Mo_flow_230 (by decide))) (os_l (so_goto d_Mo_flow_231 (by decide))))) (os_n (os_n (os_l (so_iconst d_Mo_flow_234 (by decide))) (os_l (so_istore d_Mo_flow_235 (by decide)))) (os_n (os_l (so_iload d_Mo_flow_237)) (os_n (os_l (so_ifeq d_Mo_flow_239 (by decide))) (os_l (so_aload_n d_Mo_flow_242 rfl)))))))))) (os_n (os_n (os_n (os_n (os_n (os_n (os_n (os_l (so_get (C := R_Mo) (T := F_Mo) (N := 87) (j := 7) in_Mo rfl (by decide) mw_1801 d_Mo_flow_243)) (os_l (so_iload_n d_Mo_flow_246 rfl))) (os_n (os_l (so_dup2 d_Mo_flow_247)) (os_l (so_iaload d_Mo_flow_248)))) (os_n (os_n (os_l (so_iconst d_Mo_flow_249 (by decide))) (os_l (so_isub d_Mo_flow_250))) (os_n (os_l (so_iastore d_Mo_flow_251)) (os_l (so_iload d_Mo_flow_252))))) (os_n (os_n (os_n (os_l (so_ifle d_Mo_flow_254 (by decide))) (os_l (so_aload_n d_Mo_flow_257 rfl))) (os_n (os_l (so_iload_n d_Mo_flow_258 rfl)) (os_l (so_iload d_Mo_flow_259)))) (os_n (os_n (os_l (so_callV (iv := mi_Mo_come) rfl rfl rfl mw_2663 mw_2665 sl_193 mw_18 mw_2666 ⟨by decide +kernel, by decide +kernel, by decide +kernel⟩ (by decide) d_Mo_flow_261)) (os_l (so_aload_n d_Mo_flow_264 rfl))) (os_n (os_l (so_iload_n d_Mo_flow_265 rfl)) (os_n (os_l (so_callV (iv := mi_Mo_note) rfl rfl rfl mw_2449 mw_2451 sl_161 mw_18 mw_2452 ⟨by decide +kernel, by decide +kernel, by decide +kernel⟩ (by decide) d_Mo_flow_266)) (os_l (so_iinc d_Mo_flow_269 (by decide) (by decide)))))))) (os_n (os_n (os_n (os_n (os_l (so_goto d_Mo_flow_272 (by decide))) (os_l (so_iconst d_Mo_flow_275 (by decide)))) (os_n (os_l (so_istore d_Mo_flow_276 (by decide))) (os_l (so_iconst d_Mo_flow_278 (by decide))))) (os_n (os_n (os_l (so_istore d_Mo_flow_279 (by decide))) (os_l (so_iload d_Mo_flow_281))) (os_n (os_l (so_aload_n d_Mo_flow_283 rfl)) (os_l (so_get (C := R_Mo) (T := F_Mo) (N := 87) (j := 31) in_Mo rfl (by decide) mw_1825 d_Mo_flow_284))))) (os_n (os_n (os_n (os_l (so_iload_n d_Mo_flow_287 rfl)) (os_l (so_iaload d_Mo_flow_288))) (os_n (os_l (so_icge d_Mo_flow_289 (by decide))) (os_l (so_aload_n d_Mo_flow_292 rfl)))) (os_n (os_n (os_l (so_get (C := R_Mo) (T := F_Mo) (N := 87) (j := 32) in_Mo rfl (by decide) mw_1826 d_Mo_flow_293)) (os_l (so_bipush d_Mo_flow_296 (by decide)))) (os_n (os_l (so_iload_n d_Mo_flow_298 rfl)) (os_n (os_l (so_imul d_Mo_flow_299)) (os_l (so_iload d_Mo_flow_300)))))))) (os_n (os_n (os_n (os_n (os_n (os_l (so_iadd d_Mo_flow_302)) (os_l (so_iaload d_Mo_flow_303))) (os_n (os_l (so_istore d_Mo_flow_304 (by decide))) (os_l (so_iload d_Mo_flow_306)))) (os_n (os_n (os_l (so_iconst d_Mo_flow_308 (by decide))) (os_l (so_idiv d_Mo_flow_309))) (os_n (os_l (so_istore d_Mo_flow_310 (by decide))) (os_l (so_iconst d_Mo_flow_312 (by decide)))))) (os_n (os_n (os_n (os_l (so_istore d_Mo_flow_313 (by decide))) (os_l (so_iconst d_Mo_flow_315 (by decide)))) (os_n (os_l (so_istore d_Mo_flow_316 (by decide))) (os_l (so_iload d_Mo_flow_318)))) (os_n (os_n (os_l (so_iload d_Mo_flow_320)) (os_l (so_icgt d_Mo_flow_322 (by decide)))) (os_n (os_l (so_iload d_Mo_flow_325)) (os_n (os_l (so_ifne d_Mo_flow_327 (by decide))) (os_l (so_iload d_Mo_flow_330))))))) (os_n (os_n (os_n (os_n (os_l (so_iload d_Mo_flow_332)) (os_l (so_iclt d_Mo_flow_334 (by decide)))) (os_n (os_l (so_aload_n d_Mo_flow_337 rfl)) (os_l (so_get (C := R_Mo) (T := F_Mo) (N := 87) (j := 41) in_Mo rfl (by decide) mw_1835 d_Mo_flow_338)))) (os_n (os_n (os_l (so_iload d_Mo_flow_341)) (os_l (so_iload d_Mo_flow_343))) (os_n (os_l (so_isub d_Mo_flow_345)) (os_l (so_baload d_Mo_flow_346))))) (os_n (os_n (os_n (os_l (so_ifle d_Mo_flow_347 (by decide))) (os_l (so_iconst d_Mo_flow_350 (by decide)))) (os_n (os_l (so_goto d_Mo_flow_351 (by decide))) (os_l (so_iconst d_Mo_flow_354 (by decide))))) (os_n (os_n (os_l (so_istore d_Mo_flow_355 (by decide))) (os_l (so_iinc d_Mo_flow_357 (by decide) (by decide)))) (os_n (os_l (so_goto d_Mo_flow_360 (by decide))) (os_n (os_l (so_iload d_Mo_flow_363)) (os_l (so_ifeq d_Mo_flow_365 (by decide)))))))))) (os_n (os_n (os_n (os_n (os_n (os_n (os_l (so_aload_n d_Mo_flow_368 rfl)) (os_l (so_get (C := R_Mo) (T := F_Mo) (N := 87) (j := 16) in_Mo rfl (by decide) mw_1810 d_Mo_flow_369))) (os_n (os_l (so_aload_n d_Mo_flow_372 rfl)) (os_l (so_get (C := R_Mo) (T := F_Mo) (N := 87) (j := 4) in_Mo rfl (by decide) mw_1798 d_Mo_flow_373)))) (os_n (os_n (os_l (so_iload d_Mo_flow_376)) (os_l (so_iadd d_Mo_flow_378))) (os_n (os_l (so_aload_n d_Mo_flow_379 rfl)) (os_l (so_get (C := R_Mo) (T := F_Mo) (N := 87) (j := 29) in_Mo rfl (by decide) mw_1823 d_Mo_flow_380))))) (os_n (os_n (os_n (os_l (so_iload_n d_Mo_flow_383 rfl)) (os_l (so_iaload d_Mo_flow_384))) (os_n (os_l (so_iastore d_Mo_flow_385)) (os_l (so_aload_n d_Mo_flow_386 rfl)))) (os_n (os_n (os_l (so_aload_n d_Mo_flow_387 rfl)) (os_l (so_get (C := R_Mo) (T := F_Mo) (N := 87) (j := 4) in_Mo rfl (by decide) mw_1798 d_Mo_flow_388))) (os_n (os_l (so_iload d_Mo_flow_391)) (os_n (os_l (so_iadd d_Mo_flow_393)) (os_l (so_callV (iv := mi_Mo_forget) rfl rfl rfl mw_2103 mw_2105 sl_96 mw_18 mw_2106 ⟨by decide +kernel, by decide +kernel, by decide +kernel⟩ (by decide) d_Mo_flow_394))))))) (os_n (os_n (os_n (os_n (os_l (so_iconst d_Mo_flow_397 (by decide))) (os_l (so_istore d_Mo_flow_398 (by decide)))) (os_n (os_l (so_iload d_Mo_flow_400)) (os_l (so_aload_n d_Mo_flow_402 rfl)))) (os_n (os_n (os_l (so_get (C := R_Mo) (T := F_Mo) (N := 87) (j := 12) in_Mo rfl (by decide) mw_1806 d_Mo_flow_403)) (os_l (so_iload d_Mo_flow_406))) (os_n (os_l (so_iaload d_Mo_flow_408)) (os_l (so_icge d_Mo_flow_409 (by decide)))))) (os_n (os_n (os_n (os_l (so_iload d_Mo_flow_412)) (os_l (so_iload d_Mo_flow_414))) (os_n (os_l (so_icge d_Mo_flow_416 (by decide))) (os_l (so_aload_n d_Mo_flow_419 rfl)))) (os_n (os_n (os_l (so_get (C := R_Mo) (T := F_Mo) (N := 87) (j := 29) in_Mo rfl (by decide) mw_1823 d_Mo_flow_420)) (os_l (so_iload_n d_Mo_flow_423 rfl))) (os_n (os_l (so_iaload d_Mo_flow_424)) (os_n (os_l (so_goto d_Mo_flow_425 (by decide))) (os_l (so_aload_n d_Mo_flow_428 rfl)))))))) (os_n (os_n (os_n (os_n (os_n (os_l (so_get (C := R_Mo) (T := F_Mo) (N := 87) (j := 41) in_Mo rfl (by decide) mw_1835 d_Mo_flow_429)) (os_l (so_iload d_Mo_flow_432))) (os_n (os_l (so_iload d_Mo_flow_434)) (os_l (so_isub d_Mo_flow_436)))) (os_n (os_n (os_l (so_baload d_Mo_flow_437)) (os_l (so_istore d_Mo_flow_438 (by decide)))) (os_n (os_l (so_aload_n d_Mo_flow_440 rfl)) (os_l (so_get (C := R_Mo) (T := F_Mo) (N := 87) (j := 15) in_Mo rfl (by decide) mw_1809 d_Mo_flow_441))))) (os_n (os_n (os_n (os_l (so_sipush d_Mo_flow_444 (by decide))) (os_l (so_iload d_Mo_flow_447))) (os_n (os_l (so_imul d_Mo_flow_449)) (os_l (so_iload d_Mo_flow_450)))) (os_n (os_n (os_l (so_iconst d_Mo_flow_452 (by decide))) (os_l (so_irem d_Mo_flow_453))) (os_n (os_l (so_ifne d_Mo_flow_454 (by decide))) (os_n (os_l (so_iload d_Mo_flow_457)) (os_l (so_goto d_Mo_flow_459 (by decide)))))))) (os_n (os_n (os_n (os_n (os_l (so_aload_n d_Mo_flow_462 rfl)) (os_l (so_get (C := R_Mo) (T := F_Mo) (N := 87) (j := 12) in_Mo rfl (by decide) mw_1806 d_Mo_flow_463))) (os_n (os_l (so_iload d_Mo_flow_466)) (os_l (so_iaload d_Mo_flow_468)))) (os_n (os_n (os_l (so_iconst d_Mo_flow_469 (by decide))) (os_l (so_isub d_Mo_flow_470))) (os_n (os_l (so_iload d_Mo_flow_471)) (os_n (os_l (so_isub d_Mo_flow_473)) (os_l (so_iadd d_Mo_flow_474)))))) (os_n (os_n (os_n (os_l (so_iload d_Mo_flow_475)) (os_l (so_i2b d_Mo_flow_477))) (os_n (os_l (so_bastore d_Mo_flow_478)) (os_l (so_iinc d_Mo_flow_479 (by decide) (by decide))))) (os_n (os_n (os_l (so_iinc d_Mo_flow_482 (by decide) (by decide))) (os_l (so_goto d_Mo_flow_485 (by decide)))) (os_n (os_l (so_iinc d_Mo_flow_488 (by decide) (by decide))) (os_n (os_l (so_goto d_Mo_flow_491 (by decide))) (os_l (so_return rfl d_Mo_flow_494)))))))))))
abbrev t_Mo_way_86 : List UInt8 := 172 :: []
abbrev t_Mo_way_85 : List UInt8 := 108 :: t_Mo_way_86
abbrev t_Mo_way_84 : List UInt8 := 5 :: t_Mo_way_85
abbrev t_Mo_way_83 : List UInt8 := 46 :: t_Mo_way_84
abbrev t_Mo_way_82 : List UInt8 := 100 :: t_Mo_way_83
abbrev t_Mo_way_81 : List UInt8 := 6 :: t_Mo_way_82
abbrev t_Mo_way_80 : List UInt8 := 96 :: t_Mo_way_81
abbrev t_Mo_way_79 : List UInt8 := 28 :: t_Mo_way_80
abbrev t_Mo_way_78 : List UInt8 := 104 :: t_Mo_way_79
abbrev t_Mo_way_77 : List UInt8 := 27 :: t_Mo_way_78
abbrev t_Mo_way_75 : List UInt8 := 16 :: 24 :: t_Mo_way_77
abbrev t_Mo_way_72 : List UInt8 := 180 :: 0 :: 98 :: t_Mo_way_75
abbrev t_Mo_way_71 : List UInt8 := 42 :: t_Mo_way_72
abbrev t_Mo_way_68 : List UInt8 := 167 :: 0 :: 18 :: t_Mo_way_71
abbrev t_Mo_way_67 : List UInt8 := 46 :: t_Mo_way_68
abbrev t_Mo_way_66 : List UInt8 := 27 :: t_Mo_way_67
abbrev t_Mo_way_63 : List UInt8 := 180 :: 0 :: 95 :: t_Mo_way_66
abbrev t_Mo_way_62 : List UInt8 := 42 :: t_Mo_way_63
abbrev t_Mo_way_59 : List UInt8 := 160 :: 0 :: 12 :: t_Mo_way_62
abbrev t_Mo_way_58 : List UInt8 := 5 :: t_Mo_way_59
abbrev t_Mo_way_57 : List UInt8 := 28 :: t_Mo_way_58
abbrev t_Mo_way_54 : List UInt8 := 167 :: 0 :: 32 :: t_Mo_way_57
abbrev t_Mo_way_53 : List UInt8 := 46 :: t_Mo_way_54
abbrev t_Mo_way_52 : List UInt8 := 27 :: t_Mo_way_53
abbrev t_Mo_way_49 : List UInt8 := 180 :: 0 :: 86 :: t_Mo_way_52
abbrev t_Mo_way_48 : List UInt8 := 42 :: t_Mo_way_49
abbrev t_Mo_way_45 : List UInt8 := 160 :: 0 :: 12 :: t_Mo_way_48
abbrev t_Mo_way_44 : List UInt8 := 4 :: t_Mo_way_45
abbrev t_Mo_way_43 : List UInt8 := 28 :: t_Mo_way_44
abbrev t_Mo_way_40 : List UInt8 := 167 :: 0 :: 46 :: t_Mo_way_43
abbrev t_Mo_way_39 : List UInt8 := 46 :: t_Mo_way_40
abbrev t_Mo_way_38 : List UInt8 := 27 :: t_Mo_way_39
abbrev t_Mo_way_35 : List UInt8 := 180 :: 0 :: 83 :: t_Mo_way_38
abbrev t_Mo_way_34 : List UInt8 := 42 :: t_Mo_way_35
abbrev t_Mo_way_31 : List UInt8 := 154 :: 0 :: 12 :: t_Mo_way_34
abbrev t_Mo_way_30 : List UInt8 := 28 :: t_Mo_way_31
abbrev t_Mo_way_29 : List UInt8 := 172 :: t_Mo_way_30
abbrev t_Mo_way_28 : List UInt8 := 2 :: t_Mo_way_29
abbrev t_Mo_way_25 : List UInt8 := 164 :: 0 :: 5 :: t_Mo_way_28
abbrev t_Mo_way_24 : List UInt8 := 96 :: t_Mo_way_25
abbrev t_Mo_way_23 : List UInt8 := 46 :: t_Mo_way_24
abbrev t_Mo_way_22 : List UInt8 := 27 :: t_Mo_way_23
abbrev t_Mo_way_19 : List UInt8 := 180 :: 0 :: 95 :: t_Mo_way_22
abbrev t_Mo_way_18 : List UInt8 := 42 :: t_Mo_way_19
abbrev t_Mo_way_17 : List UInt8 := 5 :: t_Mo_way_18
abbrev t_Mo_way_16 : List UInt8 := 28 :: t_Mo_way_17
abbrev t_Mo_way_13 : List UInt8 := 155 :: 0 :: 15 :: t_Mo_way_16
abbrev t_Mo_way_12 : List UInt8 := 28 :: t_Mo_way_13
abbrev t_Mo_way_9 : List UInt8 := 162 :: 0 :: 19 :: t_Mo_way_12
abbrev t_Mo_way_6 : List UInt8 := 180 :: 1 :: 28 :: t_Mo_way_9
abbrev t_Mo_way_5 : List UInt8 := 42 :: t_Mo_way_6
abbrev t_Mo_way_4 : List UInt8 := 27 :: t_Mo_way_5
abbrev t_Mo_way_1 : List UInt8 := 155 :: 0 :: 27 :: t_Mo_way_4
abbrev t_Mo_way_0 : List UInt8 := 27 :: t_Mo_way_1
theorem a_Mo_way_0 : dk_at b_Mo_way 0 t_Mo_way_0 := dk_start (by decide +kernel)
theorem a_Mo_way_1 : dk_at b_Mo_way 1 t_Mo_way_1 := dk_go 1 a_Mo_way_0 rfl
theorem a_Mo_way_4 : dk_at b_Mo_way 4 t_Mo_way_4 := dk_go 3 a_Mo_way_1 rfl
theorem a_Mo_way_5 : dk_at b_Mo_way 5 t_Mo_way_5 := dk_go 1 a_Mo_way_4 rfl
theorem a_Mo_way_6 : dk_at b_Mo_way 6 t_Mo_way_6 := dk_go 1 a_Mo_way_5 rfl
theorem a_Mo_way_9 : dk_at b_Mo_way 9 t_Mo_way_9 := dk_go 3 a_Mo_way_6 rfl
theorem a_Mo_way_12 : dk_at b_Mo_way 12 t_Mo_way_12 := dk_go 3 a_Mo_way_9 rfl
theorem a_Mo_way_13 : dk_at b_Mo_way 13 t_Mo_way_13 := dk_go 1 a_Mo_way_12 rfl
theorem a_Mo_way_16 : dk_at b_Mo_way 16 t_Mo_way_16 := dk_go 3 a_Mo_way_13 rfl
theorem a_Mo_way_17 : dk_at b_Mo_way 17 t_Mo_way_17 := dk_go 1 a_Mo_way_16 rfl
theorem a_Mo_way_18 : dk_at b_Mo_way 18 t_Mo_way_18 := dk_go 1 a_Mo_way_17 rfl
theorem a_Mo_way_19 : dk_at b_Mo_way 19 t_Mo_way_19 := dk_go 1 a_Mo_way_18 rfl
theorem a_Mo_way_22 : dk_at b_Mo_way 22 t_Mo_way_22 := dk_go 3 a_Mo_way_19 rfl
theorem a_Mo_way_23 : dk_at b_Mo_way 23 t_Mo_way_23 := dk_go 1 a_Mo_way_22 rfl
theorem a_Mo_way_24 : dk_at b_Mo_way 24 t_Mo_way_24 := dk_go 1 a_Mo_way_23 rfl
theorem a_Mo_way_25 : dk_at b_Mo_way 25 t_Mo_way_25 := dk_go 1 a_Mo_way_24 rfl
theorem a_Mo_way_28 : dk_at b_Mo_way 28 t_Mo_way_28 := dk_go 3 a_Mo_way_25 rfl
theorem a_Mo_way_29 : dk_at b_Mo_way 29 t_Mo_way_29 := dk_go 1 a_Mo_way_28 rfl
theorem a_Mo_way_30 : dk_at b_Mo_way 30 t_Mo_way_30 := dk_go 1 a_Mo_way_29 rfl
theorem a_Mo_way_31 : dk_at b_Mo_way 31 t_Mo_way_31 := dk_go 1 a_Mo_way_30 rfl
theorem a_Mo_way_34 : dk_at b_Mo_way 34 t_Mo_way_34 := dk_go 3 a_Mo_way_31 rfl
theorem a_Mo_way_35 : dk_at b_Mo_way 35 t_Mo_way_35 := dk_go 1 a_Mo_way_34 rfl
theorem a_Mo_way_38 : dk_at b_Mo_way 38 t_Mo_way_38 := dk_go 3 a_Mo_way_35 rfl
theorem a_Mo_way_39 : dk_at b_Mo_way 39 t_Mo_way_39 := dk_go 1 a_Mo_way_38 rfl
theorem a_Mo_way_40 : dk_at b_Mo_way 40 t_Mo_way_40 := dk_go 1 a_Mo_way_39 rfl
theorem a_Mo_way_43 : dk_at b_Mo_way 43 t_Mo_way_43 := dk_go 3 a_Mo_way_40 rfl
theorem a_Mo_way_44 : dk_at b_Mo_way 44 t_Mo_way_44 := dk_go 1 a_Mo_way_43 rfl
theorem a_Mo_way_45 : dk_at b_Mo_way 45 t_Mo_way_45 := dk_go 1 a_Mo_way_44 rfl
theorem a_Mo_way_48 : dk_at b_Mo_way 48 t_Mo_way_48 := dk_go 3 a_Mo_way_45 rfl
theorem a_Mo_way_49 : dk_at b_Mo_way 49 t_Mo_way_49 := dk_go 1 a_Mo_way_48 rfl
theorem a_Mo_way_52 : dk_at b_Mo_way 52 t_Mo_way_52 := dk_go 3 a_Mo_way_49 rfl
theorem a_Mo_way_53 : dk_at b_Mo_way 53 t_Mo_way_53 := dk_go 1 a_Mo_way_52 rfl
theorem a_Mo_way_54 : dk_at b_Mo_way 54 t_Mo_way_54 := dk_go 1 a_Mo_way_53 rfl
theorem a_Mo_way_57 : dk_at b_Mo_way 57 t_Mo_way_57 := dk_go 3 a_Mo_way_54 rfl
theorem a_Mo_way_58 : dk_at b_Mo_way 58 t_Mo_way_58 := dk_go 1 a_Mo_way_57 rfl
theorem a_Mo_way_59 : dk_at b_Mo_way 59 t_Mo_way_59 := dk_go 1 a_Mo_way_58 rfl
theorem a_Mo_way_62 : dk_at b_Mo_way 62 t_Mo_way_62 := dk_go 3 a_Mo_way_59 rfl
theorem a_Mo_way_63 : dk_at b_Mo_way 63 t_Mo_way_63 := dk_go 1 a_Mo_way_62 rfl
theorem a_Mo_way_66 : dk_at b_Mo_way 66 t_Mo_way_66 := dk_go 3 a_Mo_way_63 rfl
theorem a_Mo_way_67 : dk_at b_Mo_way 67 t_Mo_way_67 := dk_go 1 a_Mo_way_66 rfl
theorem a_Mo_way_68 : dk_at b_Mo_way 68 t_Mo_way_68 := dk_go 1 a_Mo_way_67 rfl
theorem a_Mo_way_71 : dk_at b_Mo_way 71 t_Mo_way_71 := dk_go 3 a_Mo_way_68 rfl
theorem a_Mo_way_72 : dk_at b_Mo_way 72 t_Mo_way_72 := dk_go 1 a_Mo_way_71 rfl
theorem a_Mo_way_75 : dk_at b_Mo_way 75 t_Mo_way_75 := dk_go 3 a_Mo_way_72 rfl
theorem a_Mo_way_77 : dk_at b_Mo_way 77 t_Mo_way_77 := dk_go 2 a_Mo_way_75 rfl
theorem a_Mo_way_78 : dk_at b_Mo_way 78 t_Mo_way_78 := dk_go 1 a_Mo_way_77 rfl
theorem a_Mo_way_79 : dk_at b_Mo_way 79 t_Mo_way_79 := dk_go 1 a_Mo_way_78 rfl
theorem a_Mo_way_80 : dk_at b_Mo_way 80 t_Mo_way_80 := dk_go 1 a_Mo_way_79 rfl
theorem a_Mo_way_81 : dk_at b_Mo_way 81 t_Mo_way_81 := dk_go 1 a_Mo_way_80 rfl
theorem a_Mo_way_82 : dk_at b_Mo_way 82 t_Mo_way_82 := dk_go 1 a_Mo_way_81 rfl
theorem a_Mo_way_83 : dk_at b_Mo_way 83 t_Mo_way_83 := dk_go 1 a_Mo_way_82 rfl
theorem a_Mo_way_84 : dk_at b_Mo_way 84 t_Mo_way_84 := dk_go 1 a_Mo_way_83 rfl
theorem a_Mo_way_85 : dk_at b_Mo_way 85 t_Mo_way_85 := dk_go 1 a_Mo_way_84 rfl
theorem a_Mo_way_86 : dk_at b_Mo_way 86 t_Mo_way_86 := dk_go 1 a_Mo_way_85 rfl
theorem d_Mo_way_0 : decode b_Mo_way 0 = .ok (.iload_n 1, 1) := dk_0 a_Mo_way_0 (dko_27 _)
theorem d_Mo_way_1 : decode b_Mo_way 1 = .ok (.ifCond .lt 27, 3) := dk_S2 a_Mo_way_1 (dko_155 _) (by decide +kernel)
theorem d_Mo_way_4 : decode b_Mo_way 4 = .ok (.iload_n 1, 1) := dk_0 a_Mo_way_4 (dko_27 _)
theorem d_Mo_way_5 : decode b_Mo_way 5 = .ok (.aload_n 0, 1) := dk_0 a_Mo_way_5 (dko_42 _)
theorem d_Mo_way_6 : decode b_Mo_way 6 = .ok (.getfield 284, 3) := dk_U2 a_Mo_way_6 (dko_180 _) rfl
theorem d_Mo_way_9 : decode b_Mo_way 9 = .ok (.if_icmp .ge 19, 3) := dk_S2 a_Mo_way_9 (dko_162 _) (by decide +kernel)
theorem d_Mo_way_12 : decode b_Mo_way 12 = .ok (.iload_n 2, 1) := dk_0 a_Mo_way_12 (dko_28 _)
theorem d_Mo_way_13 : decode b_Mo_way 13 = .ok (.ifCond .lt 15, 3) := dk_S2 a_Mo_way_13 (dko_155 _) (by decide +kernel)
theorem d_Mo_way_16 : decode b_Mo_way 16 = .ok (.iload_n 2, 1) := dk_0 a_Mo_way_16 (dko_28 _)
theorem d_Mo_way_17 : decode b_Mo_way 17 = .ok (.iconst 2, 1) := dk_0 a_Mo_way_17 (dko_5 _)
theorem d_Mo_way_18 : decode b_Mo_way 18 = .ok (.aload_n 0, 1) := dk_0 a_Mo_way_18 (dko_42 _)
theorem d_Mo_way_19 : decode b_Mo_way 19 = .ok (.getfield 95, 3) := dk_U2 a_Mo_way_19 (dko_180 _) rfl
theorem d_Mo_way_22 : decode b_Mo_way 22 = .ok (.iload_n 1, 1) := dk_0 a_Mo_way_22 (dko_27 _)
theorem d_Mo_way_23 : decode b_Mo_way 23 = .ok (.iaload, 1) := dk_0 a_Mo_way_23 (dko_46 _)
theorem d_Mo_way_24 : decode b_Mo_way 24 = .ok (.iadd, 1) := dk_0 a_Mo_way_24 (dko_96 _)
theorem d_Mo_way_25 : decode b_Mo_way 25 = .ok (.if_icmp .le 5, 3) := dk_S2 a_Mo_way_25 (dko_164 _) (by decide +kernel)
theorem d_Mo_way_28 : decode b_Mo_way 28 = .ok (.iconst (-1), 1) := dk_0 a_Mo_way_28 (dko_2 _)
theorem d_Mo_way_29 : decode b_Mo_way 29 = .ok (.ireturn, 1) := dk_0 a_Mo_way_29 (dko_172 _)
theorem d_Mo_way_30 : decode b_Mo_way 30 = .ok (.iload_n 2, 1) := dk_0 a_Mo_way_30 (dko_28 _)
theorem d_Mo_way_31 : decode b_Mo_way 31 = .ok (.ifCond .ne 12, 3) := dk_S2 a_Mo_way_31 (dko_154 _) (by decide +kernel)
theorem d_Mo_way_34 : decode b_Mo_way 34 = .ok (.aload_n 0, 1) := dk_0 a_Mo_way_34 (dko_42 _)
theorem d_Mo_way_35 : decode b_Mo_way 35 = .ok (.getfield 83, 3) := dk_U2 a_Mo_way_35 (dko_180 _) rfl
theorem d_Mo_way_38 : decode b_Mo_way 38 = .ok (.iload_n 1, 1) := dk_0 a_Mo_way_38 (dko_27 _)
theorem d_Mo_way_39 : decode b_Mo_way 39 = .ok (.iaload, 1) := dk_0 a_Mo_way_39 (dko_46 _)
theorem d_Mo_way_40 : decode b_Mo_way 40 = .ok (.goto 46, 3) := dk_S2 a_Mo_way_40 (dko_167 _) (by decide +kernel)
theorem d_Mo_way_43 : decode b_Mo_way 43 = .ok (.iload_n 2, 1) := dk_0 a_Mo_way_43 (dko_28 _)
theorem d_Mo_way_44 : decode b_Mo_way 44 = .ok (.iconst 1, 1) := dk_0 a_Mo_way_44 (dko_4 _)
theorem d_Mo_way_45 : decode b_Mo_way 45 = .ok (.if_icmp .ne 12, 3) := dk_S2 a_Mo_way_45 (dko_160 _) (by decide +kernel)
theorem d_Mo_way_48 : decode b_Mo_way 48 = .ok (.aload_n 0, 1) := dk_0 a_Mo_way_48 (dko_42 _)
theorem d_Mo_way_49 : decode b_Mo_way 49 = .ok (.getfield 86, 3) := dk_U2 a_Mo_way_49 (dko_180 _) rfl
theorem d_Mo_way_52 : decode b_Mo_way 52 = .ok (.iload_n 1, 1) := dk_0 a_Mo_way_52 (dko_27 _)
theorem d_Mo_way_53 : decode b_Mo_way 53 = .ok (.iaload, 1) := dk_0 a_Mo_way_53 (dko_46 _)
theorem d_Mo_way_54 : decode b_Mo_way 54 = .ok (.goto 32, 3) := dk_S2 a_Mo_way_54 (dko_167 _) (by decide +kernel)
theorem d_Mo_way_57 : decode b_Mo_way 57 = .ok (.iload_n 2, 1) := dk_0 a_Mo_way_57 (dko_28 _)
theorem d_Mo_way_58 : decode b_Mo_way 58 = .ok (.iconst 2, 1) := dk_0 a_Mo_way_58 (dko_5 _)
theorem d_Mo_way_59 : decode b_Mo_way 59 = .ok (.if_icmp .ne 12, 3) := dk_S2 a_Mo_way_59 (dko_160 _) (by decide +kernel)
theorem d_Mo_way_62 : decode b_Mo_way 62 = .ok (.aload_n 0, 1) := dk_0 a_Mo_way_62 (dko_42 _)
theorem d_Mo_way_63 : decode b_Mo_way 63 = .ok (.getfield 95, 3) := dk_U2 a_Mo_way_63 (dko_180 _) rfl
theorem d_Mo_way_66 : decode b_Mo_way 66 = .ok (.iload_n 1, 1) := dk_0 a_Mo_way_66 (dko_27 _)
theorem d_Mo_way_67 : decode b_Mo_way 67 = .ok (.iaload, 1) := dk_0 a_Mo_way_67 (dko_46 _)
theorem d_Mo_way_68 : decode b_Mo_way 68 = .ok (.goto 18, 3) := dk_S2 a_Mo_way_68 (dko_167 _) (by decide +kernel)
theorem d_Mo_way_71 : decode b_Mo_way 71 = .ok (.aload_n 0, 1) := dk_0 a_Mo_way_71 (dko_42 _)
theorem d_Mo_way_72 : decode b_Mo_way 72 = .ok (.getfield 98, 3) := dk_U2 a_Mo_way_72 (dko_180 _) rfl
theorem d_Mo_way_75 : decode b_Mo_way 75 = .ok (.bipush 24, 2) := dk_S1 a_Mo_way_75 (dko_16 _) (by decide +kernel)
theorem d_Mo_way_77 : decode b_Mo_way 77 = .ok (.iload_n 1, 1) := dk_0 a_Mo_way_77 (dko_27 _)
theorem d_Mo_way_78 : decode b_Mo_way 78 = .ok (.imul, 1) := dk_0 a_Mo_way_78 (dko_104 _)
theorem d_Mo_way_79 : decode b_Mo_way 79 = .ok (.iload_n 2, 1) := dk_0 a_Mo_way_79 (dko_28 _)
theorem d_Mo_way_80 : decode b_Mo_way 80 = .ok (.iadd, 1) := dk_0 a_Mo_way_80 (dko_96 _)
theorem d_Mo_way_81 : decode b_Mo_way 81 = .ok (.iconst 3, 1) := dk_0 a_Mo_way_81 (dko_6 _)
theorem d_Mo_way_82 : decode b_Mo_way 82 = .ok (.isub, 1) := dk_0 a_Mo_way_82 (dko_100 _)
theorem d_Mo_way_83 : decode b_Mo_way 83 = .ok (.iaload, 1) := dk_0 a_Mo_way_83 (dko_46 _)
theorem d_Mo_way_84 : decode b_Mo_way 84 = .ok (.iconst 2, 1) := dk_0 a_Mo_way_84 (dko_5 _)
theorem d_Mo_way_85 : decode b_Mo_way 85 = .ok (.idiv, 1) := dk_0 a_Mo_way_85 (dko_108 _)
theorem d_Mo_way_86 : decode b_Mo_way 86 = .ok (.ireturn, 1) := dk_0 a_Mo_way_86 (dko_172 _)
set_option maxHeartbeats 4000000 in
set_option maxRecDepth 100000 in
theorem ok_Mo_way (pc : Nat) : OpS mt mi_Mo_way pc (cs_Mo_way pc) := (os_n (os_n (os_n (os_n (os_n (os_l (so_iload_n d_Mo_way_0 rfl)) (os_n (os_l (so_iflt d_Mo_way_1 (by decide))) (os_l (so_iload_n d_Mo_way_4 rfl)))) (os_n (os_l (so_aload_n d_Mo_way_5 rfl)) (os_n (os_l (so_get (C := R_Mo) (T := F_Mo) (N := 87) (j := 26) in_Mo rfl (by decide) mw_1820 d_Mo_way_6)) (os_l (so_icge d_Mo_way_9 (by decide)))))) (os_n (os_n (os_l (so_iload_n d_Mo_way_12 rfl)) (os_n (os_l (so_iflt d_Mo_way_13 (by decide))) (os_l (so_iload_n d_Mo_way_16 rfl)))) (os_n (os_n (os_l (so_iconst d_Mo_way_17 (by decide))) (os_l (so_aload_n d_Mo_way_18 rfl))) (os_n (os_l (so_get (C := R_Mo) (T := F_Mo) (N := 87) (j := 31) in_Mo rfl (by decide) mw_1825 d_Mo_way_19)) (os_l (so_iload_n d_Mo_way_22 rfl)))))) (os_n (os_n (os_n (os_l (so_iaload d_Mo_way_23)) (os_n (os_l (so_iadd d_Mo_way_24)) (os_l (so_icle d_Mo_way_25 (by decide))))) (os_n (os_n (os_l (so_iconst d_Mo_way_28 (by decide))) (os_l (so_ireturn rfl d_Mo_way_29))) (os_n (os_l (so_iload_n d_Mo_way_30 rfl)) (os_l (so_ifne d_Mo_way_31 (by decide)))))) (os_n (os_n (os_l (so_aload_n d_Mo_way_34 rfl)) (os_n (os_l (so_get (C := R_Mo) (T := F_Mo) (N := 87) (j := 27) in_Mo rfl (by decide) mw_1821 d_Mo_way_35)) (os_l (so_iload_n d_Mo_way_38 rfl)))) (os_n (os_n (os_l (so_iaload d_Mo_way_39)) (os_l (so_goto d_Mo_way_40 (by decide)))) (os_n (os_l (so_iload_n d_Mo_way_43 rfl)) (os_l (so_iconst d_Mo_way_44 (by decide)))))))) (os_n (os_n (os_n (os_n (os_l (so_icne d_Mo_way_45 (by decide))) (os_n (os_l (so_aload_n d_Mo_way_48 rfl)) (os_l (so_get (C := R_Mo) (T := F_Mo) (N := 87) (j := 28) in_Mo rfl (by decide) mw_1822 d_Mo_way_49)))) (os_n (os_l (so_iload_n d_Mo_way_52 rfl)) (os_n (os_l (so_iaload d_Mo_way_53)) (os_l (so_goto d_Mo_way_54 (by decide)))))) (os_n (os_n (os_l (so_iload_n d_Mo_way_57 rfl)) (os_n (os_l (so_iconst d_Mo_way_58 (by decide))) (os_l (so_icne d_Mo_way_59 (by decide))))) (os_n (os_n (os_l (so_aload_n d_Mo_way_62 rfl)) (os_l (so_get (C := R_Mo) (T := F_Mo) (N := 87) (j := 31) in_Mo rfl (by decide) mw_1825 d_Mo_way_63))) (os_n (os_l (so_iload_n d_Mo_way_66 rfl)) (os_l (so_iaload d_Mo_way_67)))))) (os_n (os_n (os_n (os_l (so_goto d_Mo_way_68 (by decide))) (os_n (os_l (so_aload_n d_Mo_way_71 rfl)) (os_l (so_get (C := R_Mo) (T := F_Mo) (N := 87) (j := 32) in_Mo rfl (by decide) mw_1826 d_Mo_way_72)))) (os_n (os_n (os_l (so_bipush d_Mo_way_75 (by decide))) (os_l (so_iload_n d_Mo_way_77 rfl))) (os_n (os_l (so_imul d_Mo_way_78)) (os_l (so_iload_n d_Mo_way_79 rfl))))) (os_n (os_n (os_l (so_iadd d_Mo_way_80)) (os_n (os_l (so_iconst d_Mo_way_81 (by decide))) (os_l (so_isub d_Mo_way_82)))) (os_n (os_n (os_l (so_iaload d_Mo_way_83)) (os_l (so_iconst d_Mo_way_84 (by decide)))) (os_n (os_l (so_idiv d_Mo_way_85)) (os_l (so_ireturn rfl d_Mo_way_86))))))))
abbrev t_Mo_space_87 : List UInt8 := 172 :: []
abbrev t_Mo_space_84 : List UInt8 := 182 :: 1 :: 73 :: t_Mo_space_87
abbrev t_Mo_space_83 : List UInt8 := 27 :: t_Mo_space_84
abbrev t_Mo_space_82 : List UInt8 := 42 :: t_Mo_space_83
abbrev t_Mo_space_79 : List UInt8 := 167 :: 0 :: 8 :: t_Mo_space_82
abbrev t_Mo_space_78 : List UInt8 := 46 :: t_Mo_space_79
abbrev t_Mo_space_77 : List UInt8 := 27 :: t_Mo_space_78
abbrev t_Mo_space_74 : List UInt8 := 180 :: 0 :: 58 :: t_Mo_space_77
abbrev t_Mo_space_73 : List UInt8 := 42 :: t_Mo_space_74
abbrev t_Mo_space_70 : List UInt8 := 160 :: 0 :: 12 :: t_Mo_space_73
abbrev t_Mo_space_69 : List UInt8 := 5 :: t_Mo_space_70
abbrev t_Mo_space_68 : List UInt8 := 28 :: t_Mo_space_69
abbrev t_Mo_space_65 : List UInt8 := 167 :: 0 :: 22 :: t_Mo_space_68
abbrev t_Mo_space_62 : List UInt8 := 182 :: 1 :: 162 :: t_Mo_space_65
abbrev t_Mo_space_61 : List UInt8 := 27 :: t_Mo_space_62
abbrev t_Mo_space_60 : List UInt8 := 42 :: t_Mo_space_61
abbrev t_Mo_space_57 : List UInt8 := 160 :: 0 :: 11 :: t_Mo_space_60
abbrev t_Mo_space_56 : List UInt8 := 4 :: t_Mo_space_57
abbrev t_Mo_space_55 : List UInt8 := 28 :: t_Mo_space_56
abbrev t_Mo_space_52 : List UInt8 := 167 :: 0 :: 35 :: t_Mo_space_55
abbrev t_Mo_space_49 : List UInt8 := 182 :: 1 :: 67 :: t_Mo_space_52
abbrev t_Mo_space_48 : List UInt8 := 27 :: t_Mo_space_49
abbrev t_Mo_space_47 : List UInt8 := 42 :: t_Mo_space_48
abbrev t_Mo_space_44 : List UInt8 := 154 :: 0 :: 11 :: t_Mo_space_47
abbrev t_Mo_space_43 : List UInt8 := 28 :: t_Mo_space_44
abbrev t_Mo_space_42 : List UInt8 := 172 :: t_Mo_space_43
abbrev t_Mo_space_41 : List UInt8 := 2 :: t_Mo_space_42
abbrev t_Mo_space_38 : List UInt8 := 164 :: 0 :: 5 :: t_Mo_space_41
abbrev t_Mo_space_37 : List UInt8 := 6 :: t_Mo_space_38
abbrev t_Mo_space_36 : List UInt8 := 28 :: t_Mo_space_37
abbrev t_Mo_space_33 : List UInt8 := 155 :: 0 :: 8 :: t_Mo_space_36
abbrev t_Mo_space_32 : List UInt8 := 28 :: t_Mo_space_33
abbrev t_Mo_space_29 : List UInt8 := 153 :: 0 :: 12 :: t_Mo_space_32
abbrev t_Mo_space_26 : List UInt8 := 182 :: 1 :: 159 :: t_Mo_space_29
abbrev t_Mo_space_25 : List UInt8 := 27 :: t_Mo_space_26
abbrev t_Mo_space_24 : List UInt8 := 42 :: t_Mo_space_25
abbrev t_Mo_space_23 : List UInt8 := 172 :: t_Mo_space_24
abbrev t_Mo_space_22 : List UInt8 := 2 :: t_Mo_space_23
abbrev t_Mo_space_19 : List UInt8 := 167 :: 0 :: 4 :: t_Mo_space_22
abbrev t_Mo_space_18 : List UInt8 := 46 :: t_Mo_space_19
abbrev t_Mo_space_17 : List UInt8 := 27 :: t_Mo_space_18
abbrev t_Mo_space_14 : List UInt8 := 180 :: 0 :: 40 :: t_Mo_space_17
abbrev t_Mo_space_13 : List UInt8 := 42 :: t_Mo_space_14
abbrev t_Mo_space_10 : List UInt8 := 153 :: 0 :: 12 :: t_Mo_space_13
abbrev t_Mo_space_7 : List UInt8 := 182 :: 1 :: 156 :: t_Mo_space_10
abbrev t_Mo_space_6 : List UInt8 := 27 :: t_Mo_space_7
abbrev t_Mo_space_5 : List UInt8 := 42 :: t_Mo_space_6
abbrev t_Mo_space_2 : List UInt8 := 160 :: 0 :: 22 :: t_Mo_space_5
abbrev t_Mo_space_1 : List UInt8 := 7 :: t_Mo_space_2
abbrev t_Mo_space_0 : List UInt8 := 28 :: t_Mo_space_1
theorem a_Mo_space_0 : dk_at b_Mo_space 0 t_Mo_space_0 := dk_start (by decide +kernel)
theorem a_Mo_space_1 : dk_at b_Mo_space 1 t_Mo_space_1 := dk_go 1 a_Mo_space_0 rfl
theorem a_Mo_space_2 : dk_at b_Mo_space 2 t_Mo_space_2 := dk_go 1 a_Mo_space_1 rfl
theorem a_Mo_space_5 : dk_at b_Mo_space 5 t_Mo_space_5 := dk_go 3 a_Mo_space_2 rfl
theorem a_Mo_space_6 : dk_at b_Mo_space 6 t_Mo_space_6 := dk_go 1 a_Mo_space_5 rfl
theorem a_Mo_space_7 : dk_at b_Mo_space 7 t_Mo_space_7 := dk_go 1 a_Mo_space_6 rfl
theorem a_Mo_space_10 : dk_at b_Mo_space 10 t_Mo_space_10 := dk_go 3 a_Mo_space_7 rfl
theorem a_Mo_space_13 : dk_at b_Mo_space 13 t_Mo_space_13 := dk_go 3 a_Mo_space_10 rfl
theorem a_Mo_space_14 : dk_at b_Mo_space 14 t_Mo_space_14 := dk_go 1 a_Mo_space_13 rfl
theorem a_Mo_space_17 : dk_at b_Mo_space 17 t_Mo_space_17 := dk_go 3 a_Mo_space_14 rfl
theorem a_Mo_space_18 : dk_at b_Mo_space 18 t_Mo_space_18 := dk_go 1 a_Mo_space_17 rfl
theorem a_Mo_space_19 : dk_at b_Mo_space 19 t_Mo_space_19 := dk_go 1 a_Mo_space_18 rfl
theorem a_Mo_space_22 : dk_at b_Mo_space 22 t_Mo_space_22 := dk_go 3 a_Mo_space_19 rfl
theorem a_Mo_space_23 : dk_at b_Mo_space 23 t_Mo_space_23 := dk_go 1 a_Mo_space_22 rfl
theorem a_Mo_space_24 : dk_at b_Mo_space 24 t_Mo_space_24 := dk_go 1 a_Mo_space_23 rfl
theorem a_Mo_space_25 : dk_at b_Mo_space 25 t_Mo_space_25 := dk_go 1 a_Mo_space_24 rfl
theorem a_Mo_space_26 : dk_at b_Mo_space 26 t_Mo_space_26 := dk_go 1 a_Mo_space_25 rfl
theorem a_Mo_space_29 : dk_at b_Mo_space 29 t_Mo_space_29 := dk_go 3 a_Mo_space_26 rfl
theorem a_Mo_space_32 : dk_at b_Mo_space 32 t_Mo_space_32 := dk_go 3 a_Mo_space_29 rfl
theorem a_Mo_space_33 : dk_at b_Mo_space 33 t_Mo_space_33 := dk_go 1 a_Mo_space_32 rfl
theorem a_Mo_space_36 : dk_at b_Mo_space 36 t_Mo_space_36 := dk_go 3 a_Mo_space_33 rfl
theorem a_Mo_space_37 : dk_at b_Mo_space 37 t_Mo_space_37 := dk_go 1 a_Mo_space_36 rfl
theorem a_Mo_space_38 : dk_at b_Mo_space 38 t_Mo_space_38 := dk_go 1 a_Mo_space_37 rfl
theorem a_Mo_space_41 : dk_at b_Mo_space 41 t_Mo_space_41 := dk_go 3 a_Mo_space_38 rfl
theorem a_Mo_space_42 : dk_at b_Mo_space 42 t_Mo_space_42 := dk_go 1 a_Mo_space_41 rfl
theorem a_Mo_space_43 : dk_at b_Mo_space 43 t_Mo_space_43 := dk_go 1 a_Mo_space_42 rfl
theorem a_Mo_space_44 : dk_at b_Mo_space 44 t_Mo_space_44 := dk_go 1 a_Mo_space_43 rfl
theorem a_Mo_space_47 : dk_at b_Mo_space 47 t_Mo_space_47 := dk_go 3 a_Mo_space_44 rfl
theorem a_Mo_space_48 : dk_at b_Mo_space 48 t_Mo_space_48 := dk_go 1 a_Mo_space_47 rfl
theorem a_Mo_space_49 : dk_at b_Mo_space 49 t_Mo_space_49 := dk_go 1 a_Mo_space_48 rfl
theorem a_Mo_space_52 : dk_at b_Mo_space 52 t_Mo_space_52 := dk_go 3 a_Mo_space_49 rfl
theorem a_Mo_space_55 : dk_at b_Mo_space 55 t_Mo_space_55 := dk_go 3 a_Mo_space_52 rfl
theorem a_Mo_space_56 : dk_at b_Mo_space 56 t_Mo_space_56 := dk_go 1 a_Mo_space_55 rfl
theorem a_Mo_space_57 : dk_at b_Mo_space 57 t_Mo_space_57 := dk_go 1 a_Mo_space_56 rfl
theorem a_Mo_space_60 : dk_at b_Mo_space 60 t_Mo_space_60 := dk_go 3 a_Mo_space_57 rfl
theorem a_Mo_space_61 : dk_at b_Mo_space 61 t_Mo_space_61 := dk_go 1 a_Mo_space_60 rfl
theorem a_Mo_space_62 : dk_at b_Mo_space 62 t_Mo_space_62 := dk_go 1 a_Mo_space_61 rfl
theorem a_Mo_space_65 : dk_at b_Mo_space 65 t_Mo_space_65 := dk_go 3 a_Mo_space_62 rfl
theorem a_Mo_space_68 : dk_at b_Mo_space 68 t_Mo_space_68 := dk_go 3 a_Mo_space_65 rfl
theorem a_Mo_space_69 : dk_at b_Mo_space 69 t_Mo_space_69 := dk_go 1 a_Mo_space_68 rfl
theorem a_Mo_space_70 : dk_at b_Mo_space 70 t_Mo_space_70 := dk_go 1 a_Mo_space_69 rfl
theorem a_Mo_space_73 : dk_at b_Mo_space 73 t_Mo_space_73 := dk_go 3 a_Mo_space_70 rfl
theorem a_Mo_space_74 : dk_at b_Mo_space 74 t_Mo_space_74 := dk_go 1 a_Mo_space_73 rfl
theorem a_Mo_space_77 : dk_at b_Mo_space 77 t_Mo_space_77 := dk_go 3 a_Mo_space_74 rfl
theorem a_Mo_space_78 : dk_at b_Mo_space 78 t_Mo_space_78 := dk_go 1 a_Mo_space_77 rfl
theorem a_Mo_space_79 : dk_at b_Mo_space 79 t_Mo_space_79 := dk_go 1 a_Mo_space_78 rfl
theorem a_Mo_space_82 : dk_at b_Mo_space 82 t_Mo_space_82 := dk_go 3 a_Mo_space_79 rfl
theorem a_Mo_space_83 : dk_at b_Mo_space 83 t_Mo_space_83 := dk_go 1 a_Mo_space_82 rfl
theorem a_Mo_space_84 : dk_at b_Mo_space 84 t_Mo_space_84 := dk_go 1 a_Mo_space_83 rfl
theorem a_Mo_space_87 : dk_at b_Mo_space 87 t_Mo_space_87 := dk_go 3 a_Mo_space_84 rfl
theorem d_Mo_space_0 : decode b_Mo_space 0 = .ok (.iload_n 2, 1) := dk_0 a_Mo_space_0 (dko_28 _)
theorem d_Mo_space_1 : decode b_Mo_space 1 = .ok (.iconst 4, 1) := dk_0 a_Mo_space_1 (dko_7 _)
theorem d_Mo_space_2 : decode b_Mo_space 2 = .ok (.if_icmp .ne 22, 3) := dk_S2 a_Mo_space_2 (dko_160 _) (by decide +kernel)
theorem d_Mo_space_5 : decode b_Mo_space 5 = .ok (.aload_n 0, 1) := dk_0 a_Mo_space_5 (dko_42 _)
theorem d_Mo_space_6 : decode b_Mo_space 6 = .ok (.iload_n 1, 1) := dk_0 a_Mo_space_6 (dko_27 _)
theorem d_Mo_space_7 : decode b_Mo_space 7 = .ok (.invokevirtual 412, 3) := dk_U2 a_Mo_space_7 (dko_182 _) rfl
theorem d_Mo_space_10 : decode b_Mo_space 10 = .ok (.ifCond .eq 12, 3) := dk_S2 a_Mo_space_10 (dko_153 _) (by decide +kernel)
theorem d_Mo_space_13 : decode b_Mo_space 13 = .ok (.aload_n 0, 1) := dk_0 a_Mo_space_13 (dko_42 _)
theorem d_Mo_space_14 : decode b_Mo_space 14 = .ok (.getfield 40, 3) := dk_U2 a_Mo_space_14 (dko_180 _) rfl
theorem d_Mo_space_17 : decode b_Mo_space 17 = .ok (.iload_n 1, 1) := dk_0 a_Mo_space_17 (dko_27 _)
theorem d_Mo_space_18 : decode b_Mo_space 18 = .ok (.iaload, 1) := dk_0 a_Mo_space_18 (dko_46 _)
theorem d_Mo_space_19 : decode b_Mo_space 19 = .ok (.goto 4, 3) := dk_S2 a_Mo_space_19 (dko_167 _) (by decide +kernel)
theorem d_Mo_space_22 : decode b_Mo_space 22 = .ok (.iconst (-1), 1) := dk_0 a_Mo_space_22 (dko_2 _)
theorem d_Mo_space_23 : decode b_Mo_space 23 = .ok (.ireturn, 1) := dk_0 a_Mo_space_23 (dko_172 _)
theorem d_Mo_space_24 : decode b_Mo_space 24 = .ok (.aload_n 0, 1) := dk_0 a_Mo_space_24 (dko_42 _)
theorem d_Mo_space_25 : decode b_Mo_space 25 = .ok (.iload_n 1, 1) := dk_0 a_Mo_space_25 (dko_27 _)
theorem d_Mo_space_26 : decode b_Mo_space 26 = .ok (.invokevirtual 415, 3) := dk_U2 a_Mo_space_26 (dko_182 _) rfl
theorem d_Mo_space_29 : decode b_Mo_space 29 = .ok (.ifCond .eq 12, 3) := dk_S2 a_Mo_space_29 (dko_153 _) (by decide +kernel)
theorem d_Mo_space_32 : decode b_Mo_space 32 = .ok (.iload_n 2, 1) := dk_0 a_Mo_space_32 (dko_28 _)
theorem d_Mo_space_33 : decode b_Mo_space 33 = .ok (.ifCond .lt 8, 3) := dk_S2 a_Mo_space_33 (dko_155 _) (by decide +kernel)
theorem d_Mo_space_36 : decode b_Mo_space 36 = .ok (.iload_n 2, 1) := dk_0 a_Mo_space_36 (dko_28 _)
theorem d_Mo_space_37 : decode b_Mo_space 37 = .ok (.iconst 3, 1) := dk_0 a_Mo_space_37 (dko_6 _)
theorem d_Mo_space_38 : decode b_Mo_space 38 = .ok (.if_icmp .le 5, 3) := dk_S2 a_Mo_space_38 (dko_164 _) (by decide +kernel)
theorem d_Mo_space_41 : decode b_Mo_space 41 = .ok (.iconst (-1), 1) := dk_0 a_Mo_space_41 (dko_2 _)
theorem d_Mo_space_42 : decode b_Mo_space 42 = .ok (.ireturn, 1) := dk_0 a_Mo_space_42 (dko_172 _)
theorem d_Mo_space_43 : decode b_Mo_space 43 = .ok (.iload_n 2, 1) := dk_0 a_Mo_space_43 (dko_28 _)
theorem d_Mo_space_44 : decode b_Mo_space 44 = .ok (.ifCond .ne 11, 3) := dk_S2 a_Mo_space_44 (dko_154 _) (by decide +kernel)
theorem d_Mo_space_47 : decode b_Mo_space 47 = .ok (.aload_n 0, 1) := dk_0 a_Mo_space_47 (dko_42 _)
theorem d_Mo_space_48 : decode b_Mo_space 48 = .ok (.iload_n 1, 1) := dk_0 a_Mo_space_48 (dko_27 _)
theorem d_Mo_space_49 : decode b_Mo_space 49 = .ok (.invokevirtual 323, 3) := dk_U2 a_Mo_space_49 (dko_182 _) rfl
theorem d_Mo_space_52 : decode b_Mo_space 52 = .ok (.goto 35, 3) := dk_S2 a_Mo_space_52 (dko_167 _) (by decide +kernel)
theorem d_Mo_space_55 : decode b_Mo_space 55 = .ok (.iload_n 2, 1) := dk_0 a_Mo_space_55 (dko_28 _)
theorem d_Mo_space_56 : decode b_Mo_space 56 = .ok (.iconst 1, 1) := dk_0 a_Mo_space_56 (dko_4 _)
theorem d_Mo_space_57 : decode b_Mo_space 57 = .ok (.if_icmp .ne 11, 3) := dk_S2 a_Mo_space_57 (dko_160 _) (by decide +kernel)
theorem d_Mo_space_60 : decode b_Mo_space 60 = .ok (.aload_n 0, 1) := dk_0 a_Mo_space_60 (dko_42 _)
theorem d_Mo_space_61 : decode b_Mo_space 61 = .ok (.iload_n 1, 1) := dk_0 a_Mo_space_61 (dko_27 _)
theorem d_Mo_space_62 : decode b_Mo_space 62 = .ok (.invokevirtual 418, 3) := dk_U2 a_Mo_space_62 (dko_182 _) rfl
theorem d_Mo_space_65 : decode b_Mo_space 65 = .ok (.goto 22, 3) := dk_S2 a_Mo_space_65 (dko_167 _) (by decide +kernel)
theorem d_Mo_space_68 : decode b_Mo_space 68 = .ok (.iload_n 2, 1) := dk_0 a_Mo_space_68 (dko_28 _)
theorem d_Mo_space_69 : decode b_Mo_space 69 = .ok (.iconst 2, 1) := dk_0 a_Mo_space_69 (dko_5 _)
theorem d_Mo_space_70 : decode b_Mo_space 70 = .ok (.if_icmp .ne 12, 3) := dk_S2 a_Mo_space_70 (dko_160 _) (by decide +kernel)
theorem d_Mo_space_73 : decode b_Mo_space 73 = .ok (.aload_n 0, 1) := dk_0 a_Mo_space_73 (dko_42 _)
theorem d_Mo_space_74 : decode b_Mo_space 74 = .ok (.getfield 58, 3) := dk_U2 a_Mo_space_74 (dko_180 _) rfl
theorem d_Mo_space_77 : decode b_Mo_space 77 = .ok (.iload_n 1, 1) := dk_0 a_Mo_space_77 (dko_27 _)
theorem d_Mo_space_78 : decode b_Mo_space 78 = .ok (.iaload, 1) := dk_0 a_Mo_space_78 (dko_46 _)
theorem d_Mo_space_79 : decode b_Mo_space 79 = .ok (.goto 8, 3) := dk_S2 a_Mo_space_79 (dko_167 _) (by decide +kernel)
theorem d_Mo_space_82 : decode b_Mo_space 82 = .ok (.aload_n 0, 1) := dk_0 a_Mo_space_82 (dko_42 _)
theorem d_Mo_space_83 : decode b_Mo_space 83 = .ok (.iload_n 1, 1) := dk_0 a_Mo_space_83 (dko_27 _)
theorem d_Mo_space_84 : decode b_Mo_space 84 = .ok (.invokevirtual 329, 3) := dk_U2 a_Mo_space_84 (dko_182 _) rfl
theorem d_Mo_space_87 : decode b_Mo_space 87 = .ok (.ireturn, 1) := dk_0 a_Mo_space_87 (dko_172 _)
set_option maxHeartbeats 4000000 in
set_option maxRecDepth 100000 in
theorem ok_Mo_space (pc : Nat) : OpS mt mi_Mo_space pc (cs_Mo_space pc) := (os_n (os_n (os_n (os_n (os_n (os_l (so_iload_n d_Mo_space_0 rfl)) (os_n (os_l (so_iconst d_Mo_space_1 (by decide))) (os_l (so_icne d_Mo_space_2 (by decide))))) (os_n (os_l (so_aload_n d_Mo_space_5 rfl)) (os_n (os_l (so_iload_n d_Mo_space_6 rfl)) (os_l (so_callV (iv := mi_Mo_isValve) rfl rfl rfl mw_2412 mw_2414 sl_153 mw_18 mw_2415 ⟨by decide +kernel, by decide +kernel, by decide +kernel⟩ (by decide) d_Mo_space_7))))) (os_n (os_n (os_l (so_ifeq d_Mo_space_10 (by decide))) (os_n (os_l (so_aload_n d_Mo_space_13 rfl)) (os_l (so_get (C := R_Mo) (T := F_Mo) (N := 87) (j := 9) in_Mo rfl (by decide) mw_1803 d_Mo_space_14)))) (os_n (os_l (so_iload_n d_Mo_space_17 rfl)) (os_n (os_l (so_iaload d_Mo_space_18)) (os_l (so_goto d_Mo_space_19 (by decide))))))) (os_n (os_n (os_n (os_l (so_iconst d_Mo_space_22 (by decide))) (os_n (os_l (so_ireturn rfl d_Mo_space_23)) (os_l (so_aload_n d_Mo_space_24 rfl)))) (os_n (os_l (so_iload_n d_Mo_space_25 rfl)) (os_n (os_l (so_callV (iv := mi_Mo_holdsLiquid) rfl rfl rfl mw_2420 mw_2422 sl_155 mw_18 mw_2423 ⟨by decide +kernel, by decide +kernel, by decide +kernel⟩ (by decide) d_Mo_space_26)) (os_l (so_ifeq d_Mo_space_29 (by decide)))))) (os_n (os_n (os_l (so_iload_n d_Mo_space_32 rfl)) (os_n (os_l (so_iflt d_Mo_space_33 (by decide))) (os_l (so_iload_n d_Mo_space_36 rfl)))) (os_n (os_n (os_l (so_iconst d_Mo_space_37 (by decide))) (os_l (so_icle d_Mo_space_38 (by decide)))) (os_n (os_l (so_iconst d_Mo_space_41 (by decide))) (os_l (so_ireturn rfl d_Mo_space_42))))))) (os_n (os_n (os_n (os_n (os_l (so_iload_n d_Mo_space_43 rfl)) (os_n (os_l (so_ifne d_Mo_space_44 (by decide))) (os_l (so_aload_n d_Mo_space_47 rfl)))) (os_n (os_l (so_iload_n d_Mo_space_48 rfl)) (os_n (os_l (so_callV (iv := mi_Mo_liquidIn) rfl rfl rfl mw_2373 mw_2375 sl_146 mw_18 mw_2376 ⟨by decide +kernel, by decide +kernel, by decide +kernel⟩ (by decide) d_Mo_space_49)) (os_l (so_goto d_Mo_space_52 (by decide)))))) (os_n (os_n (os_l (so_iload_n d_Mo_space_55 rfl)) (os_n (os_l (so_iconst d_Mo_space_56 (by decide))) (os_l (so_icne d_Mo_space_57 (by decide))))) (os_n (os_l (so_aload_n d_Mo_space_60 rfl)) (os_n (os_l (so_iload_n d_Mo_space_61 rfl)) (os_l (so_callV (iv := mi_Mo_litresIn) rfl rfl rfl mw_2432 mw_2434 sl_158 mw_18 mw_2435 ⟨by decide +kernel, by decide +kernel, by decide +kernel⟩ (by decide) d_Mo_space_62)))))) (os_n (os_n (os_n (os_l (so_goto d_Mo_space_65 (by decide))) (os_n (os_l (so_iload_n d_Mo_space_68 rfl)) (os_l (so_iconst d_Mo_space_69 (by decide))))) (os_n (os_l (so_icne d_Mo_space_70 (by decide))) (os_n (os_l (so_aload_n d_Mo_space_73 rfl)) (os_l (so_get (C := R_Mo) (T := F_Mo) (N := 87) (j := 16) in_Mo rfl (by decide) mw_1810 d_Mo_space_74))))) (os_n (os_n (os_l (so_iload_n d_Mo_space_77 rfl)) (os_n (os_l (so_iaload d_Mo_space_78)) (os_l (so_goto d_Mo_space_79 (by decide))))) (os_n (os_n (os_l (so_aload_n d_Mo_space_82 rfl)) (os_l (so_iload_n d_Mo_space_83 rfl))) (os_n (os_l (so_callV (iv := mi_Mo_level) rfl rfl rfl mw_2436 mw_2438 sl_159 mw_18 mw_2439 ⟨by decide +kernel, by decide +kernel, by decide +kernel⟩ (by decide) d_Mo_space_84)) (os_l (so_ireturn rfl d_Mo_space_87))))))))
abbrev t_Mo_fill_108 : List UInt8 := 172 :: []
abbrev t_Mo_fill_107 : List UInt8 := 4 :: t_Mo_fill_108
abbrev t_Mo_fill_104 : List UInt8 := 182 :: 1 :: 153 :: t_Mo_fill_107
abbrev t_Mo_fill_103 : List UInt8 := 27 :: t_Mo_fill_104
abbrev t_Mo_fill_102 : List UInt8 := 42 :: t_Mo_fill_103
abbrev t_Mo_fill_101 : List UInt8 := 79 :: t_Mo_fill_102
abbrev t_Mo_fill_100 : List UInt8 := 96 :: t_Mo_fill_101
abbrev t_Mo_fill_99 : List UInt8 := 136 :: t_Mo_fill_100
abbrev t_Mo_fill_98 : List UInt8 := 33 :: t_Mo_fill_99
abbrev t_Mo_fill_97 : List UInt8 := 46 :: t_Mo_fill_98
abbrev t_Mo_fill_96 : List UInt8 := 92 :: t_Mo_fill_97
abbrev t_Mo_fill_95 : List UInt8 := 27 :: t_Mo_fill_96
abbrev t_Mo_fill_92 : List UInt8 := 180 :: 0 :: 34 :: t_Mo_fill_95
abbrev t_Mo_fill_91 : List UInt8 := 42 :: t_Mo_fill_92
abbrev t_Mo_fill_90 : List UInt8 := 79 :: t_Mo_fill_91
abbrev t_Mo_fill_89 : List UInt8 := 28 :: t_Mo_fill_90
abbrev t_Mo_fill_88 : List UInt8 := 27 :: t_Mo_fill_89
abbrev t_Mo_fill_85 : List UInt8 := 180 :: 0 :: 37 :: t_Mo_fill_88
abbrev t_Mo_fill_84 : List UInt8 := 42 :: t_Mo_fill_85
abbrev t_Mo_fill_83 : List UInt8 := 172 :: t_Mo_fill_84
abbrev t_Mo_fill_82 : List UInt8 := 3 :: t_Mo_fill_83
abbrev t_Mo_fill_79 : List UInt8 := 154 :: 0 :: 5 :: t_Mo_fill_82
abbrev t_Mo_fill_76 : List UInt8 := 182 :: 1 :: 113 :: t_Mo_fill_79
abbrev t_Mo_fill_75 : List UInt8 := 42 :: t_Mo_fill_76
abbrev t_Mo_fill_74 : List UInt8 := 79 :: t_Mo_fill_75
abbrev t_Mo_fill_73 : List UInt8 := 28 :: t_Mo_fill_74
abbrev t_Mo_fill_72 : List UInt8 := 27 :: t_Mo_fill_73
abbrev t_Mo_fill_69 : List UInt8 := 180 :: 0 :: 122 :: t_Mo_fill_72
abbrev t_Mo_fill_68 : List UInt8 := 42 :: t_Mo_fill_69
abbrev t_Mo_fill_65 : List UInt8 := 182 :: 1 :: 110 :: t_Mo_fill_68
abbrev t_Mo_fill_64 : List UInt8 := 42 :: t_Mo_fill_65
abbrev t_Mo_fill_63 : List UInt8 := 172 :: t_Mo_fill_64
abbrev t_Mo_fill_62 : List UInt8 := 3 :: t_Mo_fill_63
abbrev t_Mo_fill_59 : List UInt8 := 154 :: 0 :: 5 :: t_Mo_fill_62
abbrev t_Mo_fill_56 : List UInt8 := 182 :: 1 :: 144 :: t_Mo_fill_59
abbrev t_Mo_fill_55 : List UInt8 := 27 :: t_Mo_fill_56
abbrev t_Mo_fill_54 : List UInt8 := 28 :: t_Mo_fill_55
abbrev t_Mo_fill_53 : List UInt8 := 42 :: t_Mo_fill_54
abbrev t_Mo_fill_50 : List UInt8 := 157 :: 0 :: 12 :: t_Mo_fill_53
abbrev t_Mo_fill_49 : List UInt8 := 148 :: t_Mo_fill_50
abbrev t_Mo_fill_48 : List UInt8 := 133 :: t_Mo_fill_49
abbrev t_Mo_fill_47 : List UInt8 := 46 :: t_Mo_fill_48
abbrev t_Mo_fill_46 : List UInt8 := 27 :: t_Mo_fill_47
abbrev t_Mo_fill_43 : List UInt8 := 180 :: 0 :: 31 :: t_Mo_fill_46
abbrev t_Mo_fill_42 : List UInt8 := 42 :: t_Mo_fill_43
abbrev t_Mo_fill_41 : List UInt8 := 97 :: t_Mo_fill_42
abbrev t_Mo_fill_40 : List UInt8 := 33 :: t_Mo_fill_41
abbrev t_Mo_fill_39 : List UInt8 := 133 :: t_Mo_fill_40
abbrev t_Mo_fill_38 : List UInt8 := 46 :: t_Mo_fill_39
abbrev t_Mo_fill_37 : List UInt8 := 27 :: t_Mo_fill_38
abbrev t_Mo_fill_34 : List UInt8 := 180 :: 0 :: 34 :: t_Mo_fill_37
abbrev t_Mo_fill_33 : List UInt8 := 42 :: t_Mo_fill_34
abbrev t_Mo_fill_30 : List UInt8 := 157 :: 0 :: 32 :: t_Mo_fill_33
abbrev t_Mo_fill_29 : List UInt8 := 148 :: t_Mo_fill_30
abbrev t_Mo_fill_26 : List UInt8 := 20 :: 1 :: 165 :: t_Mo_fill_29
abbrev t_Mo_fill_25 : List UInt8 := 33 :: t_Mo_fill_26
abbrev t_Mo_fill_22 : List UInt8 := 155 :: 0 :: 40 :: t_Mo_fill_25
abbrev t_Mo_fill_21 : List UInt8 := 148 :: t_Mo_fill_22
abbrev t_Mo_fill_20 : List UInt8 := 10 :: t_Mo_fill_21
abbrev t_Mo_fill_19 : List UInt8 := 33 :: t_Mo_fill_20
abbrev t_Mo_fill_16 : List UInt8 := 163 :: 0 :: 46 :: t_Mo_fill_19
abbrev t_Mo_fill_14 : List UInt8 := 16 :: 14 :: t_Mo_fill_16
abbrev t_Mo_fill_13 : List UInt8 := 28 :: t_Mo_fill_14
abbrev t_Mo_fill_10 : List UInt8 := 161 :: 0 :: 52 :: t_Mo_fill_13
abbrev t_Mo_fill_9 : List UInt8 := 4 :: t_Mo_fill_10
abbrev t_Mo_fill_8 : List UInt8 := 28 :: t_Mo_fill_9
abbrev t_Mo_fill_5 : List UInt8 := 153 :: 0 :: 57 :: t_Mo_fill_8
abbrev t_Mo_fill_2 : List UInt8 := 182 :: 1 :: 61 :: t_Mo_fill_5
abbrev t_Mo_fill_1 : List UInt8 := 27 :: t_Mo_fill_2
abbrev t_Mo_fill_0 : List UInt8 := 42 :: t_Mo_fill_1
theorem a_Mo_fill_0 : dk_at b_Mo_fill 0 t_Mo_fill_0 := dk_start (by decide +kernel)
theorem a_Mo_fill_1 : dk_at b_Mo_fill 1 t_Mo_fill_1 := dk_go 1 a_Mo_fill_0 rfl
theorem a_Mo_fill_2 : dk_at b_Mo_fill 2 t_Mo_fill_2 := dk_go 1 a_Mo_fill_1 rfl
theorem a_Mo_fill_5 : dk_at b_Mo_fill 5 t_Mo_fill_5 := dk_go 3 a_Mo_fill_2 rfl
theorem a_Mo_fill_8 : dk_at b_Mo_fill 8 t_Mo_fill_8 := dk_go 3 a_Mo_fill_5 rfl
theorem a_Mo_fill_9 : dk_at b_Mo_fill 9 t_Mo_fill_9 := dk_go 1 a_Mo_fill_8 rfl
theorem a_Mo_fill_10 : dk_at b_Mo_fill 10 t_Mo_fill_10 := dk_go 1 a_Mo_fill_9 rfl
theorem a_Mo_fill_13 : dk_at b_Mo_fill 13 t_Mo_fill_13 := dk_go 3 a_Mo_fill_10 rfl
theorem a_Mo_fill_14 : dk_at b_Mo_fill 14 t_Mo_fill_14 := dk_go 1 a_Mo_fill_13 rfl
theorem a_Mo_fill_16 : dk_at b_Mo_fill 16 t_Mo_fill_16 := dk_go 2 a_Mo_fill_14 rfl
theorem a_Mo_fill_19 : dk_at b_Mo_fill 19 t_Mo_fill_19 := dk_go 3 a_Mo_fill_16 rfl
theorem a_Mo_fill_20 : dk_at b_Mo_fill 20 t_Mo_fill_20 := dk_go 1 a_Mo_fill_19 rfl
theorem a_Mo_fill_21 : dk_at b_Mo_fill 21 t_Mo_fill_21 := dk_go 1 a_Mo_fill_20 rfl
theorem a_Mo_fill_22 : dk_at b_Mo_fill 22 t_Mo_fill_22 := dk_go 1 a_Mo_fill_21 rfl
theorem a_Mo_fill_25 : dk_at b_Mo_fill 25 t_Mo_fill_25 := dk_go 3 a_Mo_fill_22 rfl
theorem a_Mo_fill_26 : dk_at b_Mo_fill 26 t_Mo_fill_26 := dk_go 1 a_Mo_fill_25 rfl
theorem a_Mo_fill_29 : dk_at b_Mo_fill 29 t_Mo_fill_29 := dk_go 3 a_Mo_fill_26 rfl
theorem a_Mo_fill_30 : dk_at b_Mo_fill 30 t_Mo_fill_30 := dk_go 1 a_Mo_fill_29 rfl
theorem a_Mo_fill_33 : dk_at b_Mo_fill 33 t_Mo_fill_33 := dk_go 3 a_Mo_fill_30 rfl
theorem a_Mo_fill_34 : dk_at b_Mo_fill 34 t_Mo_fill_34 := dk_go 1 a_Mo_fill_33 rfl
theorem a_Mo_fill_37 : dk_at b_Mo_fill 37 t_Mo_fill_37 := dk_go 3 a_Mo_fill_34 rfl
theorem a_Mo_fill_38 : dk_at b_Mo_fill 38 t_Mo_fill_38 := dk_go 1 a_Mo_fill_37 rfl
theorem a_Mo_fill_39 : dk_at b_Mo_fill 39 t_Mo_fill_39 := dk_go 1 a_Mo_fill_38 rfl
theorem a_Mo_fill_40 : dk_at b_Mo_fill 40 t_Mo_fill_40 := dk_go 1 a_Mo_fill_39 rfl
theorem a_Mo_fill_41 : dk_at b_Mo_fill 41 t_Mo_fill_41 := dk_go 1 a_Mo_fill_40 rfl
theorem a_Mo_fill_42 : dk_at b_Mo_fill 42 t_Mo_fill_42 := dk_go 1 a_Mo_fill_41 rfl
theorem a_Mo_fill_43 : dk_at b_Mo_fill 43 t_Mo_fill_43 := dk_go 1 a_Mo_fill_42 rfl
theorem a_Mo_fill_46 : dk_at b_Mo_fill 46 t_Mo_fill_46 := dk_go 3 a_Mo_fill_43 rfl
theorem a_Mo_fill_47 : dk_at b_Mo_fill 47 t_Mo_fill_47 := dk_go 1 a_Mo_fill_46 rfl
theorem a_Mo_fill_48 : dk_at b_Mo_fill 48 t_Mo_fill_48 := dk_go 1 a_Mo_fill_47 rfl
theorem a_Mo_fill_49 : dk_at b_Mo_fill 49 t_Mo_fill_49 := dk_go 1 a_Mo_fill_48 rfl
theorem a_Mo_fill_50 : dk_at b_Mo_fill 50 t_Mo_fill_50 := dk_go 1 a_Mo_fill_49 rfl
theorem a_Mo_fill_53 : dk_at b_Mo_fill 53 t_Mo_fill_53 := dk_go 3 a_Mo_fill_50 rfl
theorem a_Mo_fill_54 : dk_at b_Mo_fill 54 t_Mo_fill_54 := dk_go 1 a_Mo_fill_53 rfl
theorem a_Mo_fill_55 : dk_at b_Mo_fill 55 t_Mo_fill_55 := dk_go 1 a_Mo_fill_54 rfl
theorem a_Mo_fill_56 : dk_at b_Mo_fill 56 t_Mo_fill_56 := dk_go 1 a_Mo_fill_55 rfl
theorem a_Mo_fill_59 : dk_at b_Mo_fill 59 t_Mo_fill_59 := dk_go 3 a_Mo_fill_56 rfl
theorem a_Mo_fill_62 : dk_at b_Mo_fill 62 t_Mo_fill_62 := dk_go 3 a_Mo_fill_59 rfl
theorem a_Mo_fill_63 : dk_at b_Mo_fill 63 t_Mo_fill_63 := dk_go 1 a_Mo_fill_62 rfl
theorem a_Mo_fill_64 : dk_at b_Mo_fill 64 t_Mo_fill_64 := dk_go 1 a_Mo_fill_63 rfl
theorem a_Mo_fill_65 : dk_at b_Mo_fill 65 t_Mo_fill_65 := dk_go 1 a_Mo_fill_64 rfl
theorem a_Mo_fill_68 : dk_at b_Mo_fill 68 t_Mo_fill_68 := dk_go 3 a_Mo_fill_65 rfl
theorem a_Mo_fill_69 : dk_at b_Mo_fill 69 t_Mo_fill_69 := dk_go 1 a_Mo_fill_68 rfl
theorem a_Mo_fill_72 : dk_at b_Mo_fill 72 t_Mo_fill_72 := dk_go 3 a_Mo_fill_69 rfl
theorem a_Mo_fill_73 : dk_at b_Mo_fill 73 t_Mo_fill_73 := dk_go 1 a_Mo_fill_72 rfl
theorem a_Mo_fill_74 : dk_at b_Mo_fill 74 t_Mo_fill_74 := dk_go 1 a_Mo_fill_73 rfl
theorem a_Mo_fill_75 : dk_at b_Mo_fill 75 t_Mo_fill_75 := dk_go 1 a_Mo_fill_74 rfl
theorem a_Mo_fill_76 : dk_at b_Mo_fill 76 t_Mo_fill_76 := dk_go 1 a_Mo_fill_75 rfl
theorem a_Mo_fill_79 : dk_at b_Mo_fill 79 t_Mo_fill_79 := dk_go 3 a_Mo_fill_76 rfl
theorem a_Mo_fill_82 : dk_at b_Mo_fill 82 t_Mo_fill_82 := dk_go 3 a_Mo_fill_79 rfl
theorem a_Mo_fill_83 : dk_at b_Mo_fill 83 t_Mo_fill_83 := dk_go 1 a_Mo_fill_82 rfl
theorem a_Mo_fill_84 : dk_at b_Mo_fill 84 t_Mo_fill_84 := dk_go 1 a_Mo_fill_83 rfl
theorem a_Mo_fill_85 : dk_at b_Mo_fill 85 t_Mo_fill_85 := dk_go 1 a_Mo_fill_84 rfl
theorem a_Mo_fill_88 : dk_at b_Mo_fill 88 t_Mo_fill_88 := dk_go 3 a_Mo_fill_85 rfl
theorem a_Mo_fill_89 : dk_at b_Mo_fill 89 t_Mo_fill_89 := dk_go 1 a_Mo_fill_88 rfl
theorem a_Mo_fill_90 : dk_at b_Mo_fill 90 t_Mo_fill_90 := dk_go 1 a_Mo_fill_89 rfl
theorem a_Mo_fill_91 : dk_at b_Mo_fill 91 t_Mo_fill_91 := dk_go 1 a_Mo_fill_90 rfl
theorem a_Mo_fill_92 : dk_at b_Mo_fill 92 t_Mo_fill_92 := dk_go 1 a_Mo_fill_91 rfl
theorem a_Mo_fill_95 : dk_at b_Mo_fill 95 t_Mo_fill_95 := dk_go 3 a_Mo_fill_92 rfl
theorem a_Mo_fill_96 : dk_at b_Mo_fill 96 t_Mo_fill_96 := dk_go 1 a_Mo_fill_95 rfl
theorem a_Mo_fill_97 : dk_at b_Mo_fill 97 t_Mo_fill_97 := dk_go 1 a_Mo_fill_96 rfl
theorem a_Mo_fill_98 : dk_at b_Mo_fill 98 t_Mo_fill_98 := dk_go 1 a_Mo_fill_97 rfl
theorem a_Mo_fill_99 : dk_at b_Mo_fill 99 t_Mo_fill_99 := dk_go 1 a_Mo_fill_98 rfl
theorem a_Mo_fill_100 : dk_at b_Mo_fill 100 t_Mo_fill_100 := dk_go 1 a_Mo_fill_99 rfl
theorem a_Mo_fill_101 : dk_at b_Mo_fill 101 t_Mo_fill_101 := dk_go 1 a_Mo_fill_100 rfl
theorem a_Mo_fill_102 : dk_at b_Mo_fill 102 t_Mo_fill_102 := dk_go 1 a_Mo_fill_101 rfl
theorem a_Mo_fill_103 : dk_at b_Mo_fill 103 t_Mo_fill_103 := dk_go 1 a_Mo_fill_102 rfl
theorem a_Mo_fill_104 : dk_at b_Mo_fill 104 t_Mo_fill_104 := dk_go 1 a_Mo_fill_103 rfl
theorem a_Mo_fill_107 : dk_at b_Mo_fill 107 t_Mo_fill_107 := dk_go 3 a_Mo_fill_104 rfl
theorem a_Mo_fill_108 : dk_at b_Mo_fill 108 t_Mo_fill_108 := dk_go 1 a_Mo_fill_107 rfl
theorem d_Mo_fill_0 : decode b_Mo_fill 0 = .ok (.aload_n 0, 1) := dk_0 a_Mo_fill_0 (dko_42 _)
theorem d_Mo_fill_1 : decode b_Mo_fill 1 = .ok (.iload_n 1, 1) := dk_0 a_Mo_fill_1 (dko_27 _)
theorem d_Mo_fill_2 : decode b_Mo_fill 2 = .ok (.invokevirtual 317, 3) := dk_U2 a_Mo_fill_2 (dko_182 _) rfl
theorem d_Mo_fill_5 : decode b_Mo_fill 5 = .ok (.ifCond .eq 57, 3) := dk_S2 a_Mo_fill_5 (dko_153 _) (by decide +kernel)
theorem d_Mo_fill_8 : decode b_Mo_fill 8 = .ok (.iload_n 2, 1) := dk_0 a_Mo_fill_8 (dko_28 _)
theorem d_Mo_fill_9 : decode b_Mo_fill 9 = .ok (.iconst 1, 1) := dk_0 a_Mo_fill_9 (dko_4 _)
theorem d_Mo_fill_10 : decode b_Mo_fill 10 = .ok (.if_icmp .lt 52, 3) := dk_S2 a_Mo_fill_10 (dko_161 _) (by decide +kernel)
theorem d_Mo_fill_13 : decode b_Mo_fill 13 = .ok (.iload_n 2, 1) := dk_0 a_Mo_fill_13 (dko_28 _)
theorem d_Mo_fill_14 : decode b_Mo_fill 14 = .ok (.bipush 14, 2) := dk_S1 a_Mo_fill_14 (dko_16 _) (by decide +kernel)
theorem d_Mo_fill_16 : decode b_Mo_fill 16 = .ok (.if_icmp .gt 46, 3) := dk_S2 a_Mo_fill_16 (dko_163 _) (by decide +kernel)
theorem d_Mo_fill_19 : decode b_Mo_fill 19 = .ok (.lload_n 3, 1) := dk_0 a_Mo_fill_19 (dko_33 _)
theorem d_Mo_fill_20 : decode b_Mo_fill 20 = .ok (.lconst 1, 1) := dk_0 a_Mo_fill_20 (dko_10 _)
theorem d_Mo_fill_21 : decode b_Mo_fill 21 = .ok (.lcmp, 1) := dk_0 a_Mo_fill_21 (dko_148 _)
theorem d_Mo_fill_22 : decode b_Mo_fill 22 = .ok (.ifCond .lt 40, 3) := dk_S2 a_Mo_fill_22 (dko_155 _) (by decide +kernel)
theorem d_Mo_fill_25 : decode b_Mo_fill 25 = .ok (.lload_n 3, 1) := dk_0 a_Mo_fill_25 (dko_33 _)
theorem d_Mo_fill_26 : decode b_Mo_fill 26 = .ok (.ldc2_w 421, 3) := dk_U2 a_Mo_fill_26 (dko_20 _) rfl
theorem d_Mo_fill_29 : decode b_Mo_fill 29 = .ok (.lcmp, 1) := dk_0 a_Mo_fill_29 (dko_148 _)
theorem d_Mo_fill_30 : decode b_Mo_fill 30 = .ok (.ifCond .gt 32, 3) := dk_S2 a_Mo_fill_30 (dko_157 _) (by decide +kernel)
theorem d_Mo_fill_33 : decode b_Mo_fill 33 = .ok (.aload_n 0, 1) := dk_0 a_Mo_fill_33 (dko_42 _)
theorem d_Mo_fill_34 : decode b_Mo_fill 34 = .ok (.getfield 34, 3) := dk_U2 a_Mo_fill_34 (dko_180 _) rfl
theorem d_Mo_fill_37 : decode b_Mo_fill 37 = .ok (.iload_n 1, 1) := dk_0 a_Mo_fill_37 (dko_27 _)
theorem d_Mo_fill_38 : decode b_Mo_fill 38 = .ok (.iaload, 1) := dk_0 a_Mo_fill_38 (dko_46 _)
theorem d_Mo_fill_39 : decode b_Mo_fill 39 = .ok (.i2l, 1) := dk_0 a_Mo_fill_39 (dko_133 _)
theorem d_Mo_fill_40 : decode b_Mo_fill 40 = .ok (.lload_n 3, 1) := dk_0 a_Mo_fill_40 (dko_33 _)
theorem d_Mo_fill_41 : decode b_Mo_fill 41 = .ok (.ladd, 1) := dk_0 a_Mo_fill_41 (dko_97 _)
theorem d_Mo_fill_42 : decode b_Mo_fill 42 = .ok (.aload_n 0, 1) := dk_0 a_Mo_fill_42 (dko_42 _)
theorem d_Mo_fill_43 : decode b_Mo_fill 43 = .ok (.getfield 31, 3) := dk_U2 a_Mo_fill_43 (dko_180 _) rfl
theorem d_Mo_fill_46 : decode b_Mo_fill 46 = .ok (.iload_n 1, 1) := dk_0 a_Mo_fill_46 (dko_27 _)
theorem d_Mo_fill_47 : decode b_Mo_fill 47 = .ok (.iaload, 1) := dk_0 a_Mo_fill_47 (dko_46 _)
theorem d_Mo_fill_48 : decode b_Mo_fill 48 = .ok (.i2l, 1) := dk_0 a_Mo_fill_48 (dko_133 _)
theorem d_Mo_fill_49 : decode b_Mo_fill 49 = .ok (.lcmp, 1) := dk_0 a_Mo_fill_49 (dko_148 _)
theorem d_Mo_fill_50 : decode b_Mo_fill 50 = .ok (.ifCond .gt 12, 3) := dk_S2 a_Mo_fill_50 (dko_157 _) (by decide +kernel)
theorem d_Mo_fill_53 : decode b_Mo_fill 53 = .ok (.aload_n 0, 1) := dk_0 a_Mo_fill_53 (dko_42 _)
theorem d_Mo_fill_54 : decode b_Mo_fill 54 = .ok (.iload_n 2, 1) := dk_0 a_Mo_fill_54 (dko_28 _)
theorem d_Mo_fill_55 : decode b_Mo_fill 55 = .ok (.iload_n 1, 1) := dk_0 a_Mo_fill_55 (dko_27 _)
theorem d_Mo_fill_56 : decode b_Mo_fill 56 = .ok (.invokevirtual 400, 3) := dk_U2 a_Mo_fill_56 (dko_182 _) rfl
theorem d_Mo_fill_59 : decode b_Mo_fill 59 = .ok (.ifCond .ne 5, 3) := dk_S2 a_Mo_fill_59 (dko_154 _) (by decide +kernel)
theorem d_Mo_fill_62 : decode b_Mo_fill 62 = .ok (.iconst 0, 1) := dk_0 a_Mo_fill_62 (dko_3 _)
theorem d_Mo_fill_63 : decode b_Mo_fill 63 = .ok (.ireturn, 1) := dk_0 a_Mo_fill_63 (dko_172 _)
theorem d_Mo_fill_64 : decode b_Mo_fill 64 = .ok (.aload_n 0, 1) := dk_0 a_Mo_fill_64 (dko_42 _)
theorem d_Mo_fill_65 : decode b_Mo_fill 65 = .ok (.invokevirtual 366, 3) := dk_U2 a_Mo_fill_65 (dko_182 _) rfl
theorem d_Mo_fill_68 : decode b_Mo_fill 68 = .ok (.aload_n 0, 1) := dk_0 a_Mo_fill_68 (dko_42 _)
theorem d_Mo_fill_69 : decode b_Mo_fill 69 = .ok (.getfield 122, 3) := dk_U2 a_Mo_fill_69 (dko_180 _) rfl
theorem d_Mo_fill_72 : decode b_Mo_fill 72 = .ok (.iload_n 1, 1) := dk_0 a_Mo_fill_72 (dko_27 _)
theorem d_Mo_fill_73 : decode b_Mo_fill 73 = .ok (.iload_n 2, 1) := dk_0 a_Mo_fill_73 (dko_28 _)
theorem d_Mo_fill_74 : decode b_Mo_fill 74 = .ok (.iastore, 1) := dk_0 a_Mo_fill_74 (dko_79 _)
theorem d_Mo_fill_75 : decode b_Mo_fill 75 = .ok (.aload_n 0, 1) := dk_0 a_Mo_fill_75 (dko_42 _)
theorem d_Mo_fill_76 : decode b_Mo_fill 76 = .ok (.invokevirtual 369, 3) := dk_U2 a_Mo_fill_76 (dko_182 _) rfl
theorem d_Mo_fill_79 : decode b_Mo_fill 79 = .ok (.ifCond .ne 5, 3) := dk_S2 a_Mo_fill_79 (dko_154 _) (by decide +kernel)
theorem d_Mo_fill_82 : decode b_Mo_fill 82 = .ok (.iconst 0, 1) := dk_0 a_Mo_fill_82 (dko_3 _)
theorem d_Mo_fill_83 : decode b_Mo_fill 83 = .ok (.ireturn, 1) := dk_0 a_Mo_fill_83 (dko_172 _)
theorem d_Mo_fill_84 : decode b_Mo_fill 84 = .ok (.aload_n 0, 1) := dk_0 a_Mo_fill_84 (dko_42 _)
theorem d_Mo_fill_85 : decode b_Mo_fill 85 = .ok (.getfield 37, 3) := dk_U2 a_Mo_fill_85 (dko_180 _) rfl
theorem d_Mo_fill_88 : decode b_Mo_fill 88 = .ok (.iload_n 1, 1) := dk_0 a_Mo_fill_88 (dko_27 _)
theorem d_Mo_fill_89 : decode b_Mo_fill 89 = .ok (.iload_n 2, 1) := dk_0 a_Mo_fill_89 (dko_28 _)
theorem d_Mo_fill_90 : decode b_Mo_fill 90 = .ok (.iastore, 1) := dk_0 a_Mo_fill_90 (dko_79 _)
theorem d_Mo_fill_91 : decode b_Mo_fill 91 = .ok (.aload_n 0, 1) := dk_0 a_Mo_fill_91 (dko_42 _)
theorem d_Mo_fill_92 : decode b_Mo_fill 92 = .ok (.getfield 34, 3) := dk_U2 a_Mo_fill_92 (dko_180 _) rfl
theorem d_Mo_fill_95 : decode b_Mo_fill 95 = .ok (.iload_n 1, 1) := dk_0 a_Mo_fill_95 (dko_27 _)
theorem d_Mo_fill_96 : decode b_Mo_fill 96 = .ok (.dup2, 1) := dk_0 a_Mo_fill_96 (dko_92 _)
theorem d_Mo_fill_97 : decode b_Mo_fill 97 = .ok (.iaload, 1) := dk_0 a_Mo_fill_97 (dko_46 _)
theorem d_Mo_fill_98 : decode b_Mo_fill 98 = .ok (.lload_n 3, 1) := dk_0 a_Mo_fill_98 (dko_33 _)
theorem d_Mo_fill_99 : decode b_Mo_fill 99 = .ok (.l2i, 1) := dk_0 a_Mo_fill_99 (dko_136 _)
theorem d_Mo_fill_100 : decode b_Mo_fill 100 = .ok (.iadd, 1) := dk_0 a_Mo_fill_100 (dko_96 _)
theorem d_Mo_fill_101 : decode b_Mo_fill 101 = .ok (.iastore, 1) := dk_0 a_Mo_fill_101 (dko_79 _)
theorem d_Mo_fill_102 : decode b_Mo_fill 102 = .ok (.aload_n 0, 1) := dk_0 a_Mo_fill_102 (dko_42 _)
theorem d_Mo_fill_103 : decode b_Mo_fill 103 = .ok (.iload_n 1, 1) := dk_0 a_Mo_fill_103 (dko_27 _)
theorem d_Mo_fill_104 : decode b_Mo_fill 104 = .ok (.invokevirtual 409, 3) := dk_U2 a_Mo_fill_104 (dko_182 _) rfl
theorem d_Mo_fill_107 : decode b_Mo_fill 107 = .ok (.iconst 1, 1) := dk_0 a_Mo_fill_107 (dko_4 _)
theorem d_Mo_fill_108 : decode b_Mo_fill 108 = .ok (.ireturn, 1) := dk_0 a_Mo_fill_108 (dko_172 _)
set_option maxHeartbeats 4000000 in
set_option maxRecDepth 100000 in
theorem ok_Mo_fill (pc : Nat) : OpS mt mi_Mo_fill pc (cs_Mo_fill pc) := (os_n (os_n (os_n (os_n (os_n (os_n (os_l (so_aload_n d_Mo_fill_0 rfl)) (os_l (so_iload_n d_Mo_fill_1 rfl))) (os_n (os_l (so_callV (iv := mi_Mo_isTank) rfl rfl rfl mw_2424 mw_2426 sl_156 mw_18 mw_2427 ⟨by decide +kernel, by decide +kernel, by decide +kernel⟩ (by decide) d_Mo_fill_2)) (os_l (so_ifeq d_Mo_fill_5 (by decide))))) (os_n (os_n (os_l (so_iload_n d_Mo_fill_8 rfl)) (os_l (so_iconst d_Mo_fill_9 (by decide)))) (os_n (os_l (so_iclt d_Mo_fill_10 (by decide))) (os_l (so_iload_n d_Mo_fill_13 rfl))))) (os_n (os_n (os_n (os_l (so_bipush d_Mo_fill_14 (by decide))) (os_l (so_icgt d_Mo_fill_16 (by decide)))) (os_n (os_l (so_lload_n d_Mo_fill_19 rfl)) (os_l (so_lconst d_Mo_fill_20 (by decide))))) (os_n (os_n (os_l (so_lcmp d_Mo_fill_21)) (os_l (so_iflt d_Mo_fill_22 (by decide)))) (os_n (os_l (so_lload_n d_Mo_fill_25 rfl)) (os_n (os_l (so_ldc2 mw_2444 d_Mo_fill_26)) (os_l (so_lcmp d_Mo_fill_29))))))) (os_n (os_n (os_n (os_n (os_l (so_ifgt d_Mo_fill_30 (by decide))) (os_l (so_aload_n d_Mo_fill_33 rfl))) (os_n (os_l (so_get (C := R_Mo) (T := F_Mo) (N := 87) (j := 7) in_Mo rfl (by decide) mw_1801 d_Mo_fill_34)) (os_l (so_iload_n d_Mo_fill_37 rfl)))) (os_n (os_n (os_l (so_iaload d_Mo_fill_38)) (os_l (so_i2l d_Mo_fill_39))) (os_n (os_l (so_lload_n d_Mo_fill_40 rfl)) (os_n (os_l (so_ladd d_Mo_fill_41)) (os_l (so_aload_n d_Mo_fill_42 rfl)))))) (os_n (os_n (os_n (os_l (so_get (C := R_Mo) (T := F_Mo) (N := 87) (j := 6) in_Mo rfl (by decide) mw_1800 d_Mo_fill_43)) (os_l (so_iload_n d_Mo_fill_46 rfl))) (os_n (os_l (so_iaload d_Mo_fill_47)) (os_l (so_i2l d_Mo_fill_48)))) (os_n (os_n (os_l (so_lcmp d_Mo_fill_49)) (os_l (so_ifgt d_Mo_fill_50 (by decide)))) (os_n (os_l (so_aload_n d_Mo_fill_53 rfl)) (os_n (os_l (so_iload_n d_Mo_fill_54 rfl)) (os_l (so_iload_n d_Mo_fill_55 rfl)))))))) (os_n (os_n (os_n (os_n (os_n (os_l (so_callV (iv := mi_Mo_mayCome) rfl rfl rfl mw_2445 mw_2447 sl_160 mw_18 mw_2448 ⟨by decide +kernel, by decide +kernel, by decide +kernel⟩ (by decide) d_Mo_fill_56)) (os_l (so_ifne d_Mo_fill_59 (by decide)))) (os_n (os_l (so_iconst d_Mo_fill_62 (by decide))) (os_l (so_zreturn rfl d_Mo_fill_63)))) (os_n (os_n (os_l (so_aload_n d_Mo_fill_64 rfl)) (os_l (so_callV (iv := mi_Mo_look) rfl rfl rfl mw_2369 mw_2371 sl_145 mw_18 mw_2372 ⟨by decide +kernel, by decide +kernel, by decide +kernel⟩ (by decide) d_Mo_fill_65))) (os_n (os_l (so_aload_n d_Mo_fill_68 rfl)) (os_l (so_get (C := R_Mo) (T := F_Mo) (N := 87) (j := 42) in_Mo rfl (by decide) mw_1836 d_Mo_fill_69))))) (os_n (os_n (os_n (os_l (so_iload_n d_Mo_fill_72 rfl)) (os_l (so_iload_n d_Mo_fill_73 rfl))) (os_n (os_l (so_iastore d_Mo_fill_74)) (os_l (so_aload_n d_Mo_fill_75 rfl)))) (os_n (os_n (os_l (so_callV (iv := mi_Mo_isSafe) rfl rfl rfl mw_2381 mw_2383 sl_148 mw_18 mw_2384 ⟨by decide +kernel, by decide +kernel, by decide +kernel⟩ (by decide) d_Mo_fill_76)) (os_l (so_ifne d_Mo_fill_79 (by decide)))) (os_n (os_l (so_iconst d_Mo_fill_82 (by decide))) (os_n (os_l (so_zreturn rfl d_Mo_fill_83)) (os_l (so_aload_n d_Mo_fill_84 rfl))))))) (os_n (os_n (os_n (os_n (os_l (so_get (C := R_Mo) (T := F_Mo) (N := 87) (j := 8) in_Mo rfl (by decide) mw_1802 d_Mo_fill_85)) (os_l (so_iload_n d_Mo_fill_88 rfl))) (os_n (os_l (so_iload_n d_Mo_fill_89 rfl)) (os_l (so_iastore d_Mo_fill_90)))) (os_n (os_n (os_l (so_aload_n d_Mo_fill_91 rfl)) (os_l (so_get (C := R_Mo) (T := F_Mo) (N := 87) (j := 7) in_Mo rfl (by decide) mw_1801 d_Mo_fill_92))) (os_n (os_l (so_iload_n d_Mo_fill_95 rfl)) (os_n (os_l (so_dup2 d_Mo_fill_96)) (os_l (so_iaload d_Mo_fill_97)))))) (os_n (os_n (os_n (os_l (so_lload_n d_Mo_fill_98 rfl)) (os_l (so_l2i d_Mo_fill_99))) (os_n (os_l (so_iadd d_Mo_fill_100)) (os_l (so_iastore d_Mo_fill_101)))) (os_n (os_n (os_l (so_aload_n d_Mo_fill_102 rfl)) (os_l (so_iload_n d_Mo_fill_103 rfl))) (os_n (os_l (so_callV (iv := mi_Mo_note) rfl rfl rfl mw_2449 mw_2451 sl_161 mw_18 mw_2452 ⟨by decide +kernel, by decide +kernel, by decide +kernel⟩ (by decide) d_Mo_fill_104)) (os_n (os_l (so_iconst d_Mo_fill_107 (by decide))) (os_l (so_zreturn rfl d_Mo_fill_108)))))))))
abbrev t_Mo_may_76 : List UInt8 := 172 :: []
abbrev t_Mo_may_75 : List UInt8 := 29 :: t_Mo_may_76
abbrev t_Mo_may_74 : List UInt8 := 84 :: t_Mo_may_75
abbrev t_Mo_may_73 : List UInt8 := 4 :: t_Mo_may_74
abbrev t_Mo_may_72 : List UInt8 := 96 :: t_Mo_may_73
abbrev t_Mo_may_71 : List UInt8 := 27 :: t_Mo_may_72
abbrev t_Mo_may_70 : List UInt8 := 104 :: t_Mo_may_71
abbrev t_Mo_may_69 : List UInt8 := 28 :: t_Mo_may_70
abbrev t_Mo_may_67 : List UInt8 := 16 :: 16 :: t_Mo_may_69
abbrev t_Mo_may_64 : List UInt8 := 180 :: 0 :: 64 :: t_Mo_may_67
abbrev t_Mo_may_63 : List UInt8 := 42 :: t_Mo_may_64
abbrev t_Mo_may_62 : List UInt8 := 84 :: t_Mo_may_63
abbrev t_Mo_may_61 : List UInt8 := 4 :: t_Mo_may_62
abbrev t_Mo_may_60 : List UInt8 := 96 :: t_Mo_may_61
abbrev t_Mo_may_59 : List UInt8 := 28 :: t_Mo_may_60
abbrev t_Mo_may_58 : List UInt8 := 104 :: t_Mo_may_59
abbrev t_Mo_may_57 : List UInt8 := 27 :: t_Mo_may_58
abbrev t_Mo_may_55 : List UInt8 := 16 :: 16 :: t_Mo_may_57
abbrev t_Mo_may_52 : List UInt8 := 180 :: 0 :: 64 :: t_Mo_may_55
abbrev t_Mo_may_51 : List UInt8 := 42 :: t_Mo_may_52
abbrev t_Mo_may_48 : List UInt8 := 153 :: 0 :: 27 :: t_Mo_may_51
abbrev t_Mo_may_47 : List UInt8 := 29 :: t_Mo_may_48
abbrev t_Mo_may_46 : List UInt8 := 62 :: t_Mo_may_47
abbrev t_Mo_may_45 : List UInt8 := 3 :: t_Mo_may_46
abbrev t_Mo_may_42 : List UInt8 := 167 :: 0 :: 4 :: t_Mo_may_45
abbrev t_Mo_may_41 : List UInt8 := 4 :: t_Mo_may_42
abbrev t_Mo_may_38 : List UInt8 := 154 :: 0 :: 7 :: t_Mo_may_41
abbrev t_Mo_may_37 : List UInt8 := 51 :: t_Mo_may_38
abbrev t_Mo_may_36 : List UInt8 := 96 :: t_Mo_may_37
abbrev t_Mo_may_35 : List UInt8 := 28 :: t_Mo_may_36
abbrev t_Mo_may_34 : List UInt8 := 104 :: t_Mo_may_35
abbrev t_Mo_may_33 : List UInt8 := 27 :: t_Mo_may_34
abbrev t_Mo_may_31 : List UInt8 := 16 :: 16 :: t_Mo_may_33
abbrev t_Mo_may_28 : List UInt8 := 180 :: 0 :: 64 :: t_Mo_may_31
abbrev t_Mo_may_27 : List UInt8 := 42 :: t_Mo_may_28
abbrev t_Mo_may_24 : List UInt8 := 159 :: 0 :: 21 :: t_Mo_may_27
abbrev t_Mo_may_23 : List UInt8 := 28 :: t_Mo_may_24
abbrev t_Mo_may_22 : List UInt8 := 27 :: t_Mo_may_23
abbrev t_Mo_may_19 : List UInt8 := 163 :: 0 :: 26 :: t_Mo_may_22
abbrev t_Mo_may_17 : List UInt8 := 16 :: 14 :: t_Mo_may_19
abbrev t_Mo_may_16 : List UInt8 := 28 :: t_Mo_may_17
abbrev t_Mo_may_13 : List UInt8 := 161 :: 0 :: 32 :: t_Mo_may_16
abbrev t_Mo_may_12 : List UInt8 := 4 :: t_Mo_may_13
abbrev t_Mo_may_11 : List UInt8 := 28 :: t_Mo_may_12
abbrev t_Mo_may_8 : List UInt8 := 163 :: 0 :: 37 :: t_Mo_may_11
abbrev t_Mo_may_6 : List UInt8 := 16 :: 14 :: t_Mo_may_8
abbrev t_Mo_may_5 : List UInt8 := 27 :: t_Mo_may_6
abbrev t_Mo_may_2 : List UInt8 := 161 :: 0 :: 43 :: t_Mo_may_5
abbrev t_Mo_may_1 : List UInt8 := 4 :: t_Mo_may_2
abbrev t_Mo_may_0 : List UInt8 := 27 :: t_Mo_may_1
theorem a_Mo_may_0 : dk_at b_Mo_may 0 t_Mo_may_0 := dk_start (by decide +kernel)
theorem a_Mo_may_1 : dk_at b_Mo_may 1 t_Mo_may_1 := dk_go 1 a_Mo_may_0 rfl
theorem a_Mo_may_2 : dk_at b_Mo_may 2 t_Mo_may_2 := dk_go 1 a_Mo_may_1 rfl
theorem a_Mo_may_5 : dk_at b_Mo_may 5 t_Mo_may_5 := dk_go 3 a_Mo_may_2 rfl
theorem a_Mo_may_6 : dk_at b_Mo_may 6 t_Mo_may_6 := dk_go 1 a_Mo_may_5 rfl
theorem a_Mo_may_8 : dk_at b_Mo_may 8 t_Mo_may_8 := dk_go 2 a_Mo_may_6 rfl
theorem a_Mo_may_11 : dk_at b_Mo_may 11 t_Mo_may_11 := dk_go 3 a_Mo_may_8 rfl
theorem a_Mo_may_12 : dk_at b_Mo_may 12 t_Mo_may_12 := dk_go 1 a_Mo_may_11 rfl
theorem a_Mo_may_13 : dk_at b_Mo_may 13 t_Mo_may_13 := dk_go 1 a_Mo_may_12 rfl
theorem a_Mo_may_16 : dk_at b_Mo_may 16 t_Mo_may_16 := dk_go 3 a_Mo_may_13 rfl
theorem a_Mo_may_17 : dk_at b_Mo_may 17 t_Mo_may_17 := dk_go 1 a_Mo_may_16 rfl
theorem a_Mo_may_19 : dk_at b_Mo_may 19 t_Mo_may_19 := dk_go 2 a_Mo_may_17 rfl
theorem a_Mo_may_22 : dk_at b_Mo_may 22 t_Mo_may_22 := dk_go 3 a_Mo_may_19 rfl
theorem a_Mo_may_23 : dk_at b_Mo_may 23 t_Mo_may_23 := dk_go 1 a_Mo_may_22 rfl
theorem a_Mo_may_24 : dk_at b_Mo_may 24 t_Mo_may_24 := dk_go 1 a_Mo_may_23 rfl
theorem a_Mo_may_27 : dk_at b_Mo_may 27 t_Mo_may_27 := dk_go 3 a_Mo_may_24 rfl
theorem a_Mo_may_28 : dk_at b_Mo_may 28 t_Mo_may_28 := dk_go 1 a_Mo_may_27 rfl
theorem a_Mo_may_31 : dk_at b_Mo_may 31 t_Mo_may_31 := dk_go 3 a_Mo_may_28 rfl
theorem a_Mo_may_33 : dk_at b_Mo_may 33 t_Mo_may_33 := dk_go 2 a_Mo_may_31 rfl
theorem a_Mo_may_34 : dk_at b_Mo_may 34 t_Mo_may_34 := dk_go 1 a_Mo_may_33 rfl
theorem a_Mo_may_35 : dk_at b_Mo_may 35 t_Mo_may_35 := dk_go 1 a_Mo_may_34 rfl
theorem a_Mo_may_36 : dk_at b_Mo_may 36 t_Mo_may_36 := dk_go 1 a_Mo_may_35 rfl
theorem a_Mo_may_37 : dk_at b_Mo_may 37 t_Mo_may_37 := dk_go 1 a_Mo_may_36 rfl
theorem a_Mo_may_38 : dk_at b_Mo_may 38 t_Mo_may_38 := dk_go 1 a_Mo_may_37 rfl
theorem a_Mo_may_41 : dk_at b_Mo_may 41 t_Mo_may_41 := dk_go 3 a_Mo_may_38 rfl
theorem a_Mo_may_42 : dk_at b_Mo_may 42 t_Mo_may_42 := dk_go 1 a_Mo_may_41 rfl
theorem a_Mo_may_45 : dk_at b_Mo_may 45 t_Mo_may_45 := dk_go 3 a_Mo_may_42 rfl
theorem a_Mo_may_46 : dk_at b_Mo_may 46 t_Mo_may_46 := dk_go 1 a_Mo_may_45 rfl
theorem a_Mo_may_47 : dk_at b_Mo_may 47 t_Mo_may_47 := dk_go 1 a_Mo_may_46 rfl
theorem a_Mo_may_48 : dk_at b_Mo_may 48 t_Mo_may_48 := dk_go 1 a_Mo_may_47 rfl
theorem a_Mo_may_51 : dk_at b_Mo_may 51 t_Mo_may_51 := dk_go 3 a_Mo_may_48 rfl
theorem a_Mo_may_52 : dk_at b_Mo_may 52 t_Mo_may_52 := dk_go 1 a_Mo_may_51 rfl
theorem a_Mo_may_55 : dk_at b_Mo_may 55 t_Mo_may_55 := dk_go 3 a_Mo_may_52 rfl
theorem a_Mo_may_57 : dk_at b_Mo_may 57 t_Mo_may_57 := dk_go 2 a_Mo_may_55 rfl
theorem a_Mo_may_58 : dk_at b_Mo_may 58 t_Mo_may_58 := dk_go 1 a_Mo_may_57 rfl
theorem a_Mo_may_59 : dk_at b_Mo_may 59 t_Mo_may_59 := dk_go 1 a_Mo_may_58 rfl
theorem a_Mo_may_60 : dk_at b_Mo_may 60 t_Mo_may_60 := dk_go 1 a_Mo_may_59 rfl
theorem a_Mo_may_61 : dk_at b_Mo_may 61 t_Mo_may_61 := dk_go 1 a_Mo_may_60 rfl
theorem a_Mo_may_62 : dk_at b_Mo_may 62 t_Mo_may_62 := dk_go 1 a_Mo_may_61 rfl
theorem a_Mo_may_63 : dk_at b_Mo_may 63 t_Mo_may_63 := dk_go 1 a_Mo_may_62 rfl
theorem a_Mo_may_64 : dk_at b_Mo_may 64 t_Mo_may_64 := dk_go 1 a_Mo_may_63 rfl
theorem a_Mo_may_67 : dk_at b_Mo_may 67 t_Mo_may_67 := dk_go 3 a_Mo_may_64 rfl
theorem a_Mo_may_69 : dk_at b_Mo_may 69 t_Mo_may_69 := dk_go 2 a_Mo_may_67 rfl
theorem a_Mo_may_70 : dk_at b_Mo_may 70 t_Mo_may_70 := dk_go 1 a_Mo_may_69 rfl
theorem a_Mo_may_71 : dk_at b_Mo_may 71 t_Mo_may_71 := dk_go 1 a_Mo_may_70 rfl
theorem a_Mo_may_72 : dk_at b_Mo_may 72 t_Mo_may_72 := dk_go 1 a_Mo_may_71 rfl
theorem a_Mo_may_73 : dk_at b_Mo_may 73 t_Mo_may_73 := dk_go 1 a_Mo_may_72 rfl
theorem a_Mo_may_74 : dk_at b_Mo_may 74 t_Mo_may_74 := dk_go 1 a_Mo_may_73 rfl
theorem a_Mo_may_75 : dk_at b_Mo_may 75 t_Mo_may_75 := dk_go 1 a_Mo_may_74 rfl
theorem a_Mo_may_76 : dk_at b_Mo_may 76 t_Mo_may_76 := dk_go 1 a_Mo_may_75 rfl
theorem d_Mo_may_0 : decode b_Mo_may 0 = .ok (.iload_n 1, 1) := dk_0 a_Mo_may_0 (dko_27 _)
theorem d_Mo_may_1 : decode b_Mo_may 1 = .ok (.iconst 1, 1) := dk_0 a_Mo_may_1 (dko_4 _)
theorem d_Mo_may_2 : decode b_Mo_may 2 = .ok (.if_icmp .lt 43, 3) := dk_S2 a_Mo_may_2 (dko_161 _) (by decide +kernel)
theorem d_Mo_may_5 : decode b_Mo_may 5 = .ok (.iload_n 1, 1) := dk_0 a_Mo_may_5 (dko_27 _)
theorem d_Mo_may_6 : decode b_Mo_may 6 = .ok (.bipush 14, 2) := dk_S1 a_Mo_may_6 (dko_16 _) (by decide +kernel)
theorem d_Mo_may_8 : decode b_Mo_may 8 = .ok (.if_icmp .gt 37, 3) := dk_S2 a_Mo_may_8 (dko_163 _) (by decide +kernel)
theorem d_Mo_may_11 : decode b_Mo_may 11 = .ok (.iload_n 2, 1) := dk_0 a_Mo_may_11 (dko_28 _)
theorem d_Mo_may_12 : decode b_Mo_may 12 = .ok (.iconst 1, 1) := dk_0 a_Mo_may_12 (dko_4 _)
theorem d_Mo_may_13 : decode b_Mo_may 13 = .ok (.if_icmp .lt 32, 3) := dk_S2 a_Mo_may_13 (dko_161 _) (by decide +kernel)
theorem d_Mo_may_16 : decode b_Mo_may 16 = .ok (.iload_n 2, 1) := dk_0 a_Mo_may_16 (dko_28 _)
theorem d_Mo_may_17 : decode b_Mo_may 17 = .ok (.bipush 14, 2) := dk_S1 a_Mo_may_17 (dko_16 _) (by decide +kernel)
theorem d_Mo_may_19 : decode b_Mo_may 19 = .ok (.if_icmp .gt 26, 3) := dk_S2 a_Mo_may_19 (dko_163 _) (by decide +kernel)
theorem d_Mo_may_22 : decode b_Mo_may 22 = .ok (.iload_n 1, 1) := dk_0 a_Mo_may_22 (dko_27 _)
theorem d_Mo_may_23 : decode b_Mo_may 23 = .ok (.iload_n 2, 1) := dk_0 a_Mo_may_23 (dko_28 _)
theorem d_Mo_may_24 : decode b_Mo_may 24 = .ok (.if_icmp .eq 21, 3) := dk_S2 a_Mo_may_24 (dko_159 _) (by decide +kernel)
theorem d_Mo_may_27 : decode b_Mo_may 27 = .ok (.aload_n 0, 1) := dk_0 a_Mo_may_27 (dko_42 _)
theorem d_Mo_may_28 : decode b_Mo_may 28 = .ok (.getfield 64, 3) := dk_U2 a_Mo_may_28 (dko_180 _) rfl
theorem d_Mo_may_31 : decode b_Mo_may 31 = .ok (.bipush 16, 2) := dk_S1 a_Mo_may_31 (dko_16 _) (by decide +kernel)
theorem d_Mo_may_33 : decode b_Mo_may 33 = .ok (.iload_n 1, 1) := dk_0 a_Mo_may_33 (dko_27 _)
theorem d_Mo_may_34 : decode b_Mo_may 34 = .ok (.imul, 1) := dk_0 a_Mo_may_34 (dko_104 _)
theorem d_Mo_may_35 : decode b_Mo_may 35 = .ok (.iload_n 2, 1) := dk_0 a_Mo_may_35 (dko_28 _)
theorem d_Mo_may_36 : decode b_Mo_may 36 = .ok (.iadd, 1) := dk_0 a_Mo_may_36 (dko_96 _)
theorem d_Mo_may_37 : decode b_Mo_may 37 = .ok (.baload, 1) := dk_0 a_Mo_may_37 (dko_51 _)
theorem d_Mo_may_38 : decode b_Mo_may 38 = .ok (.ifCond .ne 7, 3) := dk_S2 a_Mo_may_38 (dko_154 _) (by decide +kernel)
theorem d_Mo_may_41 : decode b_Mo_may 41 = .ok (.iconst 1, 1) := dk_0 a_Mo_may_41 (dko_4 _)
theorem d_Mo_may_42 : decode b_Mo_may 42 = .ok (.goto 4, 3) := dk_S2 a_Mo_may_42 (dko_167 _) (by decide +kernel)
theorem d_Mo_may_45 : decode b_Mo_may 45 = .ok (.iconst 0, 1) := dk_0 a_Mo_may_45 (dko_3 _)
theorem d_Mo_may_46 : decode b_Mo_may 46 = .ok (.istore_n 3, 1) := dk_0 a_Mo_may_46 (dko_62 _)
theorem d_Mo_may_47 : decode b_Mo_may 47 = .ok (.iload_n 3, 1) := dk_0 a_Mo_may_47 (dko_29 _)
theorem d_Mo_may_48 : decode b_Mo_may 48 = .ok (.ifCond .eq 27, 3) := dk_S2 a_Mo_may_48 (dko_153 _) (by decide +kernel)
theorem d_Mo_may_51 : decode b_Mo_may 51 = .ok (.aload_n 0, 1) := dk_0 a_Mo_may_51 (dko_42 _)
theorem d_Mo_may_52 : decode b_Mo_may 52 = .ok (.getfield 64, 3) := dk_U2 a_Mo_may_52 (dko_180 _) rfl
theorem d_Mo_may_55 : decode b_Mo_may 55 = .ok (.bipush 16, 2) := dk_S1 a_Mo_may_55 (dko_16 _) (by decide +kernel)
theorem d_Mo_may_57 : decode b_Mo_may 57 = .ok (.iload_n 1, 1) := dk_0 a_Mo_may_57 (dko_27 _)
theorem d_Mo_may_58 : decode b_Mo_may 58 = .ok (.imul, 1) := dk_0 a_Mo_may_58 (dko_104 _)
theorem d_Mo_may_59 : decode b_Mo_may 59 = .ok (.iload_n 2, 1) := dk_0 a_Mo_may_59 (dko_28 _)
theorem d_Mo_may_60 : decode b_Mo_may 60 = .ok (.iadd, 1) := dk_0 a_Mo_may_60 (dko_96 _)
theorem d_Mo_may_61 : decode b_Mo_may 61 = .ok (.iconst 1, 1) := dk_0 a_Mo_may_61 (dko_4 _)
theorem d_Mo_may_62 : decode b_Mo_may 62 = .ok (.bastore, 1) := dk_0 a_Mo_may_62 (dko_84 _)
theorem d_Mo_may_63 : decode b_Mo_may 63 = .ok (.aload_n 0, 1) := dk_0 a_Mo_may_63 (dko_42 _)
theorem d_Mo_may_64 : decode b_Mo_may 64 = .ok (.getfield 64, 3) := dk_U2 a_Mo_may_64 (dko_180 _) rfl
theorem d_Mo_may_67 : decode b_Mo_may 67 = .ok (.bipush 16, 2) := dk_S1 a_Mo_may_67 (dko_16 _) (by decide +kernel)
theorem d_Mo_may_69 : decode b_Mo_may 69 = .ok (.iload_n 2, 1) := dk_0 a_Mo_may_69 (dko_28 _)
theorem d_Mo_may_70 : decode b_Mo_may 70 = .ok (.imul, 1) := dk_0 a_Mo_may_70 (dko_104 _)
theorem d_Mo_may_71 : decode b_Mo_may 71 = .ok (.iload_n 1, 1) := dk_0 a_Mo_may_71 (dko_27 _)
theorem d_Mo_may_72 : decode b_Mo_may 72 = .ok (.iadd, 1) := dk_0 a_Mo_may_72 (dko_96 _)
theorem d_Mo_may_73 : decode b_Mo_may 73 = .ok (.iconst 1, 1) := dk_0 a_Mo_may_73 (dko_4 _)
theorem d_Mo_may_74 : decode b_Mo_may 74 = .ok (.bastore, 1) := dk_0 a_Mo_may_74 (dko_84 _)
theorem d_Mo_may_75 : decode b_Mo_may 75 = .ok (.iload_n 3, 1) := dk_0 a_Mo_may_75 (dko_29 _)
theorem d_Mo_may_76 : decode b_Mo_may 76 = .ok (.ireturn, 1) := dk_0 a_Mo_may_76 (dko_172 _)
set_option maxHeartbeats 4000000 in
set_option maxRecDepth 100000 in
theorem ok_Mo_may (pc : Nat) : OpS mt mi_Mo_may pc (cs_Mo_may pc) := (os_n (os_n (os_n (os_n (os_n (os_l (so_iload_n d_Mo_may_0 rfl)) (os_n (os_l (so_iconst d_Mo_may_1 (by decide))) (os_l (so_iclt d_Mo_may_2 (by decide))))) (os_n (os_l (so_iload_n d_Mo_may_5 rfl)) (os_n (os_l (so_bipush d_Mo_may_6 (by decide))) (os_l (so_icgt d_Mo_may_8 (by decide)))))) (os_n (os_n (os_l (so_iload_n d_Mo_may_11 rfl)) (os_n (os_l (so_iconst d_Mo_may_12 (by decide))) (os_l (so_iclt d_Mo_may_13 (by decide))))) (os_n (os_l (so_iload_n d_Mo_may_16 rfl)) (os_n (os_l (so_bipush d_Mo_may_17 (by decide))) (os_l (so_icgt d_Mo_may_19 (by decide))))))) (os_n (os_n (os_n (os_l (so_iload_n d_Mo_may_22 rfl)) (os_n (os_l (so_iload_n d_Mo_may_23 rfl)) (os_l (so_iceq d_Mo_may_24 (by decide))))) (os_n (os_l (so_aload_n d_Mo_may_27 rfl)) (os_n (os_l (so_get (C := R_Mo) (T := F_Mo) (N := 87) (j := 18) in_Mo rfl (by decide) mw_1812 d_Mo_may_28)) (os_l (so_bipush d_Mo_may_31 (by decide)))))) (os_n (os_n (os_l (so_iload_n d_Mo_may_33 rfl)) (os_n (os_l (so_imul d_Mo_may_34)) (os_l (so_iload_n d_Mo_may_35 rfl)))) (os_n (os_n (os_l (so_iadd d_Mo_may_36)) (os_l (so_baload d_Mo_may_37))) (os_n (os_l (so_ifne d_Mo_may_38 (by decide))) (os_l (so_iconst d_Mo_may_41 (by decide)))))))) (os_n (os_n (os_n (os_n (os_l (so_goto d_Mo_may_42 (by decide))) (os_n (os_l (so_iconst d_Mo_may_45 (by decide))) (os_l (so_istore_n d_Mo_may_46 rfl (by decide))))) (os_n (os_l (so_iload_n d_Mo_may_47 rfl)) (os_n (os_l (so_ifeq d_Mo_may_48 (by decide))) (os_l (so_aload_n d_Mo_may_51 rfl))))) (os_n (os_n (os_l (so_get (C := R_Mo) (T := F_Mo) (N := 87) (j := 18) in_Mo rfl (by decide) mw_1812 d_Mo_may_52)) (os_n (os_l (so_bipush d_Mo_may_55 (by decide))) (os_l (so_iload_n d_Mo_may_57 rfl)))) (os_n (os_l (so_imul d_Mo_may_58)) (os_n (os_l (so_iload_n d_Mo_may_59 rfl)) (os_l (so_iadd d_Mo_may_60)))))) (os_n (os_n (os_n (os_l (so_iconst d_Mo_may_61 (by decide))) (os_n (os_l (so_bastore d_Mo_may_62)) (os_l (so_aload_n d_Mo_may_63 rfl)))) (os_n (os_l (so_get (C := R_Mo) (T := F_Mo) (N := 87) (j := 18) in_Mo rfl (by decide) mw_1812 d_Mo_may_64)) (os_n (os_l (so_bipush d_Mo_may_67 (by decide))) (os_l (so_iload_n d_Mo_may_69 rfl))))) (os_n (os_n (os_l (so_imul d_Mo_may_70)) (os_n (os_l (so_iload_n d_Mo_may_71 rfl)) (os_l (so_iadd d_Mo_may_72)))) (os_n (os_n (os_l (so_iconst d_Mo_may_73 (by decide))) (os_l (so_bastore d_Mo_may_74))) (os_n (os_l (so_iload_n d_Mo_may_75 rfl)) (os_l (so_zreturn rfl d_Mo_may_76))))))))
abbrev t_Mo_need_46 : List UInt8 := 172 :: []
abbrev t_Mo_need_45 : List UInt8 := 4 :: t_Mo_need_46
abbrev t_Mo_need_44 : List UInt8 := 79 :: t_Mo_need_45
abbrev t_Mo_need_43 : List UInt8 := 29 :: t_Mo_need_44
abbrev t_Mo_need_42 : List UInt8 := 96 :: t_Mo_need_43
abbrev t_Mo_need_41 : List UInt8 := 28 :: t_Mo_need_42
abbrev t_Mo_need_40 : List UInt8 := 104 :: t_Mo_need_41
abbrev t_Mo_need_39 : List UInt8 := 27 :: t_Mo_need_40
abbrev t_Mo_need_37 : List UInt8 := 16 :: 16 :: t_Mo_need_39
abbrev t_Mo_need_34 : List UInt8 := 180 :: 0 :: 68 :: t_Mo_need_37
abbrev t_Mo_need_33 : List UInt8 := 42 :: t_Mo_need_34
abbrev t_Mo_need_32 : List UInt8 := 172 :: t_Mo_need_33
abbrev t_Mo_need_31 : List UInt8 := 3 :: t_Mo_need_32
abbrev t_Mo_need_28 : List UInt8 := 164 :: 0 :: 5 :: t_Mo_need_31
abbrev t_Mo_need_27 : List UInt8 := 8 :: t_Mo_need_28
abbrev t_Mo_need_26 : List UInt8 := 29 :: t_Mo_need_27
abbrev t_Mo_need_23 : List UInt8 := 155 :: 0 :: 8 :: t_Mo_need_26
abbrev t_Mo_need_22 : List UInt8 := 29 :: t_Mo_need_23
abbrev t_Mo_need_19 : List UInt8 := 163 :: 0 :: 12 :: t_Mo_need_22
abbrev t_Mo_need_17 : List UInt8 := 16 :: 14 :: t_Mo_need_19
abbrev t_Mo_need_16 : List UInt8 := 28 :: t_Mo_need_17
abbrev t_Mo_need_13 : List UInt8 := 161 :: 0 :: 18 :: t_Mo_need_16
abbrev t_Mo_need_12 : List UInt8 := 4 :: t_Mo_need_13
abbrev t_Mo_need_11 : List UInt8 := 28 :: t_Mo_need_12
abbrev t_Mo_need_8 : List UInt8 := 163 :: 0 :: 23 :: t_Mo_need_11
abbrev t_Mo_need_6 : List UInt8 := 16 :: 14 :: t_Mo_need_8
abbrev t_Mo_need_5 : List UInt8 := 27 :: t_Mo_need_6
abbrev t_Mo_need_2 : List UInt8 := 161 :: 0 :: 29 :: t_Mo_need_5
abbrev t_Mo_need_1 : List UInt8 := 4 :: t_Mo_need_2
abbrev t_Mo_need_0 : List UInt8 := 27 :: t_Mo_need_1
theorem a_Mo_need_0 : dk_at b_Mo_need 0 t_Mo_need_0 := dk_start (by decide +kernel)
theorem a_Mo_need_1 : dk_at b_Mo_need 1 t_Mo_need_1 := dk_go 1 a_Mo_need_0 rfl
theorem a_Mo_need_2 : dk_at b_Mo_need 2 t_Mo_need_2 := dk_go 1 a_Mo_need_1 rfl
theorem a_Mo_need_5 : dk_at b_Mo_need 5 t_Mo_need_5 := dk_go 3 a_Mo_need_2 rfl
theorem a_Mo_need_6 : dk_at b_Mo_need 6 t_Mo_need_6 := dk_go 1 a_Mo_need_5 rfl
theorem a_Mo_need_8 : dk_at b_Mo_need 8 t_Mo_need_8 := dk_go 2 a_Mo_need_6 rfl
theorem a_Mo_need_11 : dk_at b_Mo_need 11 t_Mo_need_11 := dk_go 3 a_Mo_need_8 rfl
theorem a_Mo_need_12 : dk_at b_Mo_need 12 t_Mo_need_12 := dk_go 1 a_Mo_need_11 rfl
theorem a_Mo_need_13 : dk_at b_Mo_need 13 t_Mo_need_13 := dk_go 1 a_Mo_need_12 rfl
theorem a_Mo_need_16 : dk_at b_Mo_need 16 t_Mo_need_16 := dk_go 3 a_Mo_need_13 rfl
theorem a_Mo_need_17 : dk_at b_Mo_need 17 t_Mo_need_17 := dk_go 1 a_Mo_need_16 rfl
theorem a_Mo_need_19 : dk_at b_Mo_need 19 t_Mo_need_19 := dk_go 2 a_Mo_need_17 rfl
theorem a_Mo_need_22 : dk_at b_Mo_need 22 t_Mo_need_22 := dk_go 3 a_Mo_need_19 rfl
theorem a_Mo_need_23 : dk_at b_Mo_need 23 t_Mo_need_23 := dk_go 1 a_Mo_need_22 rfl
theorem a_Mo_need_26 : dk_at b_Mo_need 26 t_Mo_need_26 := dk_go 3 a_Mo_need_23 rfl
theorem a_Mo_need_27 : dk_at b_Mo_need 27 t_Mo_need_27 := dk_go 1 a_Mo_need_26 rfl
theorem a_Mo_need_28 : dk_at b_Mo_need 28 t_Mo_need_28 := dk_go 1 a_Mo_need_27 rfl
theorem a_Mo_need_31 : dk_at b_Mo_need 31 t_Mo_need_31 := dk_go 3 a_Mo_need_28 rfl
theorem a_Mo_need_32 : dk_at b_Mo_need 32 t_Mo_need_32 := dk_go 1 a_Mo_need_31 rfl
theorem a_Mo_need_33 : dk_at b_Mo_need 33 t_Mo_need_33 := dk_go 1 a_Mo_need_32 rfl
theorem a_Mo_need_34 : dk_at b_Mo_need 34 t_Mo_need_34 := dk_go 1 a_Mo_need_33 rfl
theorem a_Mo_need_37 : dk_at b_Mo_need 37 t_Mo_need_37 := dk_go 3 a_Mo_need_34 rfl
theorem a_Mo_need_39 : dk_at b_Mo_need 39 t_Mo_need_39 := dk_go 2 a_Mo_need_37 rfl
theorem a_Mo_need_40 : dk_at b_Mo_need 40 t_Mo_need_40 := dk_go 1 a_Mo_need_39 rfl
theorem a_Mo_need_41 : dk_at b_Mo_need 41 t_Mo_need_41 := dk_go 1 a_Mo_need_40 rfl
theorem a_Mo_need_42 : dk_at b_Mo_need 42 t_Mo_need_42 := dk_go 1 a_Mo_need_41 rfl
theorem a_Mo_need_43 : dk_at b_Mo_need 43 t_Mo_need_43 := dk_go 1 a_Mo_need_42 rfl
theorem a_Mo_need_44 : dk_at b_Mo_need 44 t_Mo_need_44 := dk_go 1 a_Mo_need_43 rfl
theorem a_Mo_need_45 : dk_at b_Mo_need 45 t_Mo_need_45 := dk_go 1 a_Mo_need_44 rfl
theorem a_Mo_need_46 : dk_at b_Mo_need 46 t_Mo_need_46 := dk_go 1 a_Mo_need_45 rfl
theorem d_Mo_need_0 : decode b_Mo_need 0 = .ok (.iload_n 1, 1) := dk_0 a_Mo_need_0 (dko_27 _)
theorem d_Mo_need_1 : decode b_Mo_need 1 = .ok (.iconst 1, 1) := dk_0 a_Mo_need_1 (dko_4 _)
theorem d_Mo_need_2 : decode b_Mo_need 2 = .ok (.if_icmp .lt 29, 3) := dk_S2 a_Mo_need_2 (dko_161 _) (by decide +kernel)
theorem d_Mo_need_5 : decode b_Mo_need 5 = .ok (.iload_n 1, 1) := dk_0 a_Mo_need_5 (dko_27 _)
theorem d_Mo_need_6 : decode b_Mo_need 6 = .ok (.bipush 14, 2) := dk_S1 a_Mo_need_6 (dko_16 _) (by decide +kernel)
theorem d_Mo_need_8 : decode b_Mo_need 8 = .ok (.if_icmp .gt 23, 3) := dk_S2 a_Mo_need_8 (dko_163 _) (by decide +kernel)
theorem d_Mo_need_11 : decode b_Mo_need 11 = .ok (.iload_n 2, 1) := dk_0 a_Mo_need_11 (dko_28 _)
theorem d_Mo_need_12 : decode b_Mo_need 12 = .ok (.iconst 1, 1) := dk_0 a_Mo_need_12 (dko_4 _)
theorem d_Mo_need_13 : decode b_Mo_need 13 = .ok (.if_icmp .lt 18, 3) := dk_S2 a_Mo_need_13 (dko_161 _) (by decide +kernel)
theorem d_Mo_need_16 : decode b_Mo_need 16 = .ok (.iload_n 2, 1) := dk_0 a_Mo_need_16 (dko_28 _)
theorem d_Mo_need_17 : decode b_Mo_need 17 = .ok (.bipush 14, 2) := dk_S1 a_Mo_need_17 (dko_16 _) (by decide +kernel)
theorem d_Mo_need_19 : decode b_Mo_need 19 = .ok (.if_icmp .gt 12, 3) := dk_S2 a_Mo_need_19 (dko_163 _) (by decide +kernel)
theorem d_Mo_need_22 : decode b_Mo_need 22 = .ok (.iload_n 3, 1) := dk_0 a_Mo_need_22 (dko_29 _)
theorem d_Mo_need_23 : decode b_Mo_need 23 = .ok (.ifCond .lt 8, 3) := dk_S2 a_Mo_need_23 (dko_155 _) (by decide +kernel)
theorem d_Mo_need_26 : decode b_Mo_need 26 = .ok (.iload_n 3, 1) := dk_0 a_Mo_need_26 (dko_29 _)
theorem d_Mo_need_27 : decode b_Mo_need 27 = .ok (.iconst 5, 1) := dk_0 a_Mo_need_27 (dko_8 _)
theorem d_Mo_need_28 : decode b_Mo_need 28 = .ok (.if_icmp .le 5, 3) := dk_S2 a_Mo_need_28 (dko_164 _) (by decide +kernel)
theorem d_Mo_need_31 : decode b_Mo_need 31 = .ok (.iconst 0, 1) := dk_0 a_Mo_need_31 (dko_3 _)
theorem d_Mo_need_32 : decode b_Mo_need 32 = .ok (.ireturn, 1) := dk_0 a_Mo_need_32 (dko_172 _)
theorem d_Mo_need_33 : decode b_Mo_need 33 = .ok (.aload_n 0, 1) := dk_0 a_Mo_need_33 (dko_42 _)
theorem d_Mo_need_34 : decode b_Mo_need 34 = .ok (.getfield 68, 3) := dk_U2 a_Mo_need_34 (dko_180 _) rfl
theorem d_Mo_need_37 : decode b_Mo_need 37 = .ok (.bipush 16, 2) := dk_S1 a_Mo_need_37 (dko_16 _) (by decide +kernel)
theorem d_Mo_need_39 : decode b_Mo_need 39 = .ok (.iload_n 1, 1) := dk_0 a_Mo_need_39 (dko_27 _)
theorem d_Mo_need_40 : decode b_Mo_need 40 = .ok (.imul, 1) := dk_0 a_Mo_need_40 (dko_104 _)
theorem d_Mo_need_41 : decode b_Mo_need 41 = .ok (.iload_n 2, 1) := dk_0 a_Mo_need_41 (dko_28 _)
theorem d_Mo_need_42 : decode b_Mo_need 42 = .ok (.iadd, 1) := dk_0 a_Mo_need_42 (dko_96 _)
theorem d_Mo_need_43 : decode b_Mo_need 43 = .ok (.iload_n 3, 1) := dk_0 a_Mo_need_43 (dko_29 _)
theorem d_Mo_need_44 : decode b_Mo_need 44 = .ok (.iastore, 1) := dk_0 a_Mo_need_44 (dko_79 _)
theorem d_Mo_need_45 : decode b_Mo_need 45 = .ok (.iconst 1, 1) := dk_0 a_Mo_need_45 (dko_4 _)
theorem d_Mo_need_46 : decode b_Mo_need 46 = .ok (.ireturn, 1) := dk_0 a_Mo_need_46 (dko_172 _)
set_option maxHeartbeats 4000000 in
set_option maxRecDepth 100000 in
theorem ok_Mo_need (pc : Nat) : OpS mt mi_Mo_need pc (cs_Mo_need pc) := (os_n (os_n (os_n (os_n (os_l (so_iload_n d_Mo_need_0 rfl)) (os_n (os_l (so_iconst d_Mo_need_1 (by decide))) (os_l (so_iclt d_Mo_need_2 (by decide))))) (os_n (os_n (os_l (so_iload_n d_Mo_need_5 rfl)) (os_l (so_bipush d_Mo_need_6 (by decide)))) (os_n (os_l (so_icgt d_Mo_need_8 (by decide))) (os_l (so_iload_n d_Mo_need_11 rfl))))) (os_n (os_n (os_n (os_l (so_iconst d_Mo_need_12 (by decide))) (os_l (so_iclt d_Mo_need_13 (by decide)))) (os_n (os_l (so_iload_n d_Mo_need_16 rfl)) (os_l (so_bipush d_Mo_need_17 (by decide))))) (os_n (os_n (os_l (so_icgt d_Mo_need_19 (by decide))) (os_l (so_iload_n d_Mo_need_22 rfl))) (os_n (os_l (so_iflt d_Mo_need_23 (by decide))) (os_l (so_iload_n d_Mo_need_26 rfl)))))) (os_n (os_n (os_n (os_l (so_iconst d_Mo_need_27 (by decide))) (os_n (os_l (so_icle d_Mo_need_28 (by decide))) (os_l (so_iconst d_Mo_need_31 (by decide))))) (os_n (os_n (os_l (so_zreturn rfl d_Mo_need_32)) (os_l (so_aload_n d_Mo_need_33 rfl))) (os_n (os_l (so_get (C := R_Mo) (T := F_Mo) (N := 87) (j := 19) in_Mo rfl (by decide) mw_1813 d_Mo_need_34)) (os_l (so_bipush d_Mo_need_37 (by decide)))))) (os_n (os_n (os_n (os_l (so_iload_n d_Mo_need_39 rfl)) (os_l (so_imul d_Mo_need_40))) (os_n (os_l (so_iload_n d_Mo_need_41 rfl)) (os_l (so_iadd d_Mo_need_42)))) (os_n (os_n (os_l (so_iload_n d_Mo_need_43 rfl)) (os_l (so_iastore d_Mo_need_44))) (os_n (os_l (so_iconst d_Mo_need_45 (by decide))) (os_l (so_zreturn rfl d_Mo_need_46)))))))
abbrev t_Mo_lasts_31 : List UInt8 := 172 :: []
abbrev t_Mo_lasts_30 : List UInt8 := 4 :: t_Mo_lasts_31
abbrev t_Mo_lasts_29 : List UInt8 := 79 :: t_Mo_lasts_30
abbrev t_Mo_lasts_28 : List UInt8 := 28 :: t_Mo_lasts_29
abbrev t_Mo_lasts_27 : List UInt8 := 27 :: t_Mo_lasts_28
abbrev t_Mo_lasts_24 : List UInt8 := 180 :: 0 :: 71 :: t_Mo_lasts_27
abbrev t_Mo_lasts_23 : List UInt8 := 42 :: t_Mo_lasts_24
abbrev t_Mo_lasts_22 : List UInt8 := 172 :: t_Mo_lasts_23
abbrev t_Mo_lasts_21 : List UInt8 := 3 :: t_Mo_lasts_22
abbrev t_Mo_lasts_18 : List UInt8 := 164 :: 0 :: 5 :: t_Mo_lasts_21
abbrev t_Mo_lasts_15 : List UInt8 := 19 :: 1 :: 167 :: t_Mo_lasts_18
abbrev t_Mo_lasts_14 : List UInt8 := 28 :: t_Mo_lasts_15
abbrev t_Mo_lasts_11 : List UInt8 := 155 :: 0 :: 10 :: t_Mo_lasts_14
abbrev t_Mo_lasts_10 : List UInt8 := 28 :: t_Mo_lasts_11
abbrev t_Mo_lasts_7 : List UInt8 := 163 :: 0 :: 14 :: t_Mo_lasts_10
abbrev t_Mo_lasts_6 : List UInt8 := 8 :: t_Mo_lasts_7
abbrev t_Mo_lasts_5 : List UInt8 := 27 :: t_Mo_lasts_6
abbrev t_Mo_lasts_2 : List UInt8 := 161 :: 0 :: 19 :: t_Mo_lasts_5
abbrev t_Mo_lasts_1 : List UInt8 := 4 :: t_Mo_lasts_2
abbrev t_Mo_lasts_0 : List UInt8 := 27 :: t_Mo_lasts_1
theorem a_Mo_lasts_0 : dk_at b_Mo_lasts 0 t_Mo_lasts_0 := dk_start (by decide +kernel)
theorem a_Mo_lasts_1 : dk_at b_Mo_lasts 1 t_Mo_lasts_1 := dk_go 1 a_Mo_lasts_0 rfl
theorem a_Mo_lasts_2 : dk_at b_Mo_lasts 2 t_Mo_lasts_2 := dk_go 1 a_Mo_lasts_1 rfl
theorem a_Mo_lasts_5 : dk_at b_Mo_lasts 5 t_Mo_lasts_5 := dk_go 3 a_Mo_lasts_2 rfl
theorem a_Mo_lasts_6 : dk_at b_Mo_lasts 6 t_Mo_lasts_6 := dk_go 1 a_Mo_lasts_5 rfl
theorem a_Mo_lasts_7 : dk_at b_Mo_lasts 7 t_Mo_lasts_7 := dk_go 1 a_Mo_lasts_6 rfl
theorem a_Mo_lasts_10 : dk_at b_Mo_lasts 10 t_Mo_lasts_10 := dk_go 3 a_Mo_lasts_7 rfl
theorem a_Mo_lasts_11 : dk_at b_Mo_lasts 11 t_Mo_lasts_11 := dk_go 1 a_Mo_lasts_10 rfl
theorem a_Mo_lasts_14 : dk_at b_Mo_lasts 14 t_Mo_lasts_14 := dk_go 3 a_Mo_lasts_11 rfl
theorem a_Mo_lasts_15 : dk_at b_Mo_lasts 15 t_Mo_lasts_15 := dk_go 1 a_Mo_lasts_14 rfl
theorem a_Mo_lasts_18 : dk_at b_Mo_lasts 18 t_Mo_lasts_18 := dk_go 3 a_Mo_lasts_15 rfl
theorem a_Mo_lasts_21 : dk_at b_Mo_lasts 21 t_Mo_lasts_21 := dk_go 3 a_Mo_lasts_18 rfl
theorem a_Mo_lasts_22 : dk_at b_Mo_lasts 22 t_Mo_lasts_22 := dk_go 1 a_Mo_lasts_21 rfl
theorem a_Mo_lasts_23 : dk_at b_Mo_lasts 23 t_Mo_lasts_23 := dk_go 1 a_Mo_lasts_22 rfl
theorem a_Mo_lasts_24 : dk_at b_Mo_lasts 24 t_Mo_lasts_24 := dk_go 1 a_Mo_lasts_23 rfl
theorem a_Mo_lasts_27 : dk_at b_Mo_lasts 27 t_Mo_lasts_27 := dk_go 3 a_Mo_lasts_24 rfl
theorem a_Mo_lasts_28 : dk_at b_Mo_lasts 28 t_Mo_lasts_28 := dk_go 1 a_Mo_lasts_27 rfl
theorem a_Mo_lasts_29 : dk_at b_Mo_lasts 29 t_Mo_lasts_29 := dk_go 1 a_Mo_lasts_28 rfl
theorem a_Mo_lasts_30 : dk_at b_Mo_lasts 30 t_Mo_lasts_30 := dk_go 1 a_Mo_lasts_29 rfl
theorem a_Mo_lasts_31 : dk_at b_Mo_lasts 31 t_Mo_lasts_31 := dk_go 1 a_Mo_lasts_30 rfl
theorem d_Mo_lasts_0 : decode b_Mo_lasts 0 = .ok (.iload_n 1, 1) := dk_0 a_Mo_lasts_0 (dko_27 _)
theorem d_Mo_lasts_1 : decode b_Mo_lasts 1 = .ok (.iconst 1, 1) := dk_0 a_Mo_lasts_1 (dko_4 _)
theorem d_Mo_lasts_2 : decode b_Mo_lasts 2 = .ok (.if_icmp .lt 19, 3) := dk_S2 a_Mo_lasts_2 (dko_161 _) (by decide +kernel)
theorem d_Mo_lasts_5 : decode b_Mo_lasts 5 = .ok (.iload_n 1, 1) := dk_0 a_Mo_lasts_5 (dko_27 _)
theorem d_Mo_lasts_6 : decode b_Mo_lasts 6 = .ok (.iconst 5, 1) := dk_0 a_Mo_lasts_6 (dko_8 _)
theorem d_Mo_lasts_7 : decode b_Mo_lasts 7 = .ok (.if_icmp .gt 14, 3) := dk_S2 a_Mo_lasts_7 (dko_163 _) (by decide +kernel)
theorem d_Mo_lasts_10 : decode b_Mo_lasts 10 = .ok (.iload_n 2, 1) := dk_0 a_Mo_lasts_10 (dko_28 _)
theorem d_Mo_lasts_11 : decode b_Mo_lasts 11 = .ok (.ifCond .lt 10, 3) := dk_S2 a_Mo_lasts_11 (dko_155 _) (by decide +kernel)
theorem d_Mo_lasts_14 : decode b_Mo_lasts 14 = .ok (.iload_n 2, 1) := dk_0 a_Mo_lasts_14 (dko_28 _)
theorem d_Mo_lasts_15 : decode b_Mo_lasts 15 = .ok (.ldc_w 423, 3) := dk_U2 a_Mo_lasts_15 (dko_19 _) rfl
theorem d_Mo_lasts_18 : decode b_Mo_lasts 18 = .ok (.if_icmp .le 5, 3) := dk_S2 a_Mo_lasts_18 (dko_164 _) (by decide +kernel)
theorem d_Mo_lasts_21 : decode b_Mo_lasts 21 = .ok (.iconst 0, 1) := dk_0 a_Mo_lasts_21 (dko_3 _)
theorem d_Mo_lasts_22 : decode b_Mo_lasts 22 = .ok (.ireturn, 1) := dk_0 a_Mo_lasts_22 (dko_172 _)
theorem d_Mo_lasts_23 : decode b_Mo_lasts 23 = .ok (.aload_n 0, 1) := dk_0 a_Mo_lasts_23 (dko_42 _)
theorem d_Mo_lasts_24 : decode b_Mo_lasts 24 = .ok (.getfield 71, 3) := dk_U2 a_Mo_lasts_24 (dko_180 _) rfl
theorem d_Mo_lasts_27 : decode b_Mo_lasts 27 = .ok (.iload_n 1, 1) := dk_0 a_Mo_lasts_27 (dko_27 _)
theorem d_Mo_lasts_28 : decode b_Mo_lasts 28 = .ok (.iload_n 2, 1) := dk_0 a_Mo_lasts_28 (dko_28 _)
theorem d_Mo_lasts_29 : decode b_Mo_lasts 29 = .ok (.iastore, 1) := dk_0 a_Mo_lasts_29 (dko_79 _)
theorem d_Mo_lasts_30 : decode b_Mo_lasts 30 = .ok (.iconst 1, 1) := dk_0 a_Mo_lasts_30 (dko_4 _)
theorem d_Mo_lasts_31 : decode b_Mo_lasts 31 = .ok (.ireturn, 1) := dk_0 a_Mo_lasts_31 (dko_172 _)
set_option maxHeartbeats 4000000 in
set_option maxRecDepth 100000 in
theorem ok_Mo_lasts (pc : Nat) : OpS mt mi_Mo_lasts pc (cs_Mo_lasts pc) := (os_n (os_n (os_n (os_n (os_l (so_iload_n d_Mo_lasts_0 rfl)) (os_l (so_iconst d_Mo_lasts_1 (by decide)))) (os_n (os_l (so_iclt d_Mo_lasts_2 (by decide))) (os_n (os_l (so_iload_n d_Mo_lasts_5 rfl)) (os_l (so_iconst d_Mo_lasts_6 (by decide)))))) (os_n (os_n (os_l (so_icgt d_Mo_lasts_7 (by decide))) (os_l (so_iload_n d_Mo_lasts_10 rfl))) (os_n (os_l (so_iflt d_Mo_lasts_11 (by decide))) (os_n (os_l (so_iload_n d_Mo_lasts_14 rfl)) (os_l (so_ldcw mw_2465 d_Mo_lasts_15)))))) (os_n (os_n (os_n (os_l (so_icle d_Mo_lasts_18 (by decide))) (os_l (so_iconst d_Mo_lasts_21 (by decide)))) (os_n (os_l (so_zreturn rfl d_Mo_lasts_22)) (os_n (os_l (so_aload_n d_Mo_lasts_23 rfl)) (os_l (so_get (C := R_Mo) (T := F_Mo) (N := 87) (j := 20) in_Mo rfl (by decide) mw_1814 d_Mo_lasts_24))))) (os_n (os_n (os_l (so_iload_n d_Mo_lasts_27 rfl)) (os_l (so_iload_n d_Mo_lasts_28 rfl))) (os_n (os_l (so_iastore d_Mo_lasts_29)) (os_n (os_l (so_iconst d_Mo_lasts_30 (by decide))) (os_l (so_zreturn rfl d_Mo_lasts_31)))))))
abbrev t_Mo_bind_103 : List UInt8 := 172 :: []
abbrev t_Mo_bind_102 : List UInt8 := 4 :: t_Mo_bind_103
abbrev t_Mo_bind_101 : List UInt8 := 79 :: t_Mo_bind_102
abbrev t_Mo_bind_99 : List UInt8 := 21 :: 5 :: t_Mo_bind_101
abbrev t_Mo_bind_98 : List UInt8 := 27 :: t_Mo_bind_99
abbrev t_Mo_bind_95 : List UInt8 := 180 :: 0 :: 141 :: t_Mo_bind_98
abbrev t_Mo_bind_94 : List UInt8 := 42 :: t_Mo_bind_95
abbrev t_Mo_bind_93 : List UInt8 := 79 :: t_Mo_bind_94
abbrev t_Mo_bind_91 : List UInt8 := 21 :: 4 :: t_Mo_bind_93
abbrev t_Mo_bind_90 : List UInt8 := 27 :: t_Mo_bind_91
abbrev t_Mo_bind_87 : List UInt8 := 180 :: 0 :: 138 :: t_Mo_bind_90
abbrev t_Mo_bind_86 : List UInt8 := 42 :: t_Mo_bind_87
abbrev t_Mo_bind_85 : List UInt8 := 79 :: t_Mo_bind_86
abbrev t_Mo_bind_84 : List UInt8 := 29 :: t_Mo_bind_85
abbrev t_Mo_bind_83 : List UInt8 := 27 :: t_Mo_bind_84
abbrev t_Mo_bind_80 : List UInt8 := 180 :: 0 :: 135 :: t_Mo_bind_83
abbrev t_Mo_bind_79 : List UInt8 := 42 :: t_Mo_bind_80
abbrev t_Mo_bind_78 : List UInt8 := 79 :: t_Mo_bind_79
abbrev t_Mo_bind_77 : List UInt8 := 28 :: t_Mo_bind_78
abbrev t_Mo_bind_76 : List UInt8 := 27 :: t_Mo_bind_77
abbrev t_Mo_bind_73 : List UInt8 := 180 :: 0 :: 132 :: t_Mo_bind_76
abbrev t_Mo_bind_72 : List UInt8 := 42 :: t_Mo_bind_73
abbrev t_Mo_bind_71 : List UInt8 := 172 :: t_Mo_bind_72
abbrev t_Mo_bind_70 : List UInt8 := 3 :: t_Mo_bind_71
abbrev t_Mo_bind_67 : List UInt8 := 164 :: 0 :: 5 :: t_Mo_bind_70
abbrev t_Mo_bind_66 : List UInt8 := 8 :: t_Mo_bind_67
abbrev t_Mo_bind_64 : List UInt8 := 21 :: 4 :: t_Mo_bind_66
abbrev t_Mo_bind_61 : List UInt8 := 161 :: 0 :: 9 :: t_Mo_bind_64
abbrev t_Mo_bind_60 : List UInt8 := 4 :: t_Mo_bind_61
abbrev t_Mo_bind_58 : List UInt8 := 21 :: 4 :: t_Mo_bind_60
abbrev t_Mo_bind_55 : List UInt8 := 160 :: 0 :: 17 :: t_Mo_bind_58
abbrev t_Mo_bind_54 : List UInt8 := 6 :: t_Mo_bind_55
abbrev t_Mo_bind_53 : List UInt8 := 28 :: t_Mo_bind_54
abbrev t_Mo_bind_50 : List UInt8 := 163 :: 0 :: 20 :: t_Mo_bind_53
abbrev t_Mo_bind_48 : List UInt8 := 16 :: 9 :: t_Mo_bind_50
abbrev t_Mo_bind_46 : List UInt8 := 21 :: 4 :: t_Mo_bind_48
abbrev t_Mo_bind_43 : List UInt8 := 155 :: 0 :: 27 :: t_Mo_bind_46
abbrev t_Mo_bind_41 : List UInt8 := 21 :: 4 :: t_Mo_bind_43
abbrev t_Mo_bind_38 : List UInt8 := 160 :: 0 :: 15 :: t_Mo_bind_41
abbrev t_Mo_bind_37 : List UInt8 := 5 :: t_Mo_bind_38
abbrev t_Mo_bind_36 : List UInt8 := 28 :: t_Mo_bind_37
abbrev t_Mo_bind_33 : List UInt8 := 163 :: 0 :: 37 :: t_Mo_bind_36
abbrev t_Mo_bind_31 : List UInt8 := 16 :: 100 :: t_Mo_bind_33
abbrev t_Mo_bind_29 : List UInt8 := 21 :: 5 :: t_Mo_bind_31
abbrev t_Mo_bind_26 : List UInt8 := 161 :: 0 :: 44 :: t_Mo_bind_29
abbrev t_Mo_bind_25 : List UInt8 := 4 :: t_Mo_bind_26
abbrev t_Mo_bind_23 : List UInt8 := 21 :: 5 :: t_Mo_bind_25
abbrev t_Mo_bind_20 : List UInt8 := 154 :: 0 :: 16 :: t_Mo_bind_23
abbrev t_Mo_bind_19 : List UInt8 := 28 :: t_Mo_bind_20
abbrev t_Mo_bind_16 : List UInt8 := 163 :: 0 :: 54 :: t_Mo_bind_19
abbrev t_Mo_bind_15 : List UInt8 := 7 :: t_Mo_bind_16
abbrev t_Mo_bind_14 : List UInt8 := 28 :: t_Mo_bind_15
abbrev t_Mo_bind_11 : List UInt8 := 155 :: 0 :: 59 :: t_Mo_bind_14
abbrev t_Mo_bind_10 : List UInt8 := 28 :: t_Mo_bind_11
abbrev t_Mo_bind_7 : List UInt8 := 163 :: 0 :: 63 :: t_Mo_bind_10
abbrev t_Mo_bind_5 : List UInt8 := 16 :: 31 :: t_Mo_bind_7
abbrev t_Mo_bind_4 : List UInt8 := 27 :: t_Mo_bind_5
abbrev t_Mo_bind_1 : List UInt8 := 155 :: 0 :: 69 :: t_Mo_bind_4
abbrev t_Mo_bind_0 : List UInt8 := 27 :: t_Mo_bind_1
theorem a_Mo_bind_0 : dk_at b_Mo_bind 0 t_Mo_bind_0 := dk_start (by decide +kernel)
theorem a_Mo_bind_1 : dk_at b_Mo_bind 1 t_Mo_bind_1 := dk_go 1 a_Mo_bind_0 rfl
theorem a_Mo_bind_4 : dk_at b_Mo_bind 4 t_Mo_bind_4 := dk_go 3 a_Mo_bind_1 rfl
theorem a_Mo_bind_5 : dk_at b_Mo_bind 5 t_Mo_bind_5 := dk_go 1 a_Mo_bind_4 rfl
theorem a_Mo_bind_7 : dk_at b_Mo_bind 7 t_Mo_bind_7 := dk_go 2 a_Mo_bind_5 rfl
theorem a_Mo_bind_10 : dk_at b_Mo_bind 10 t_Mo_bind_10 := dk_go 3 a_Mo_bind_7 rfl
theorem a_Mo_bind_11 : dk_at b_Mo_bind 11 t_Mo_bind_11 := dk_go 1 a_Mo_bind_10 rfl
theorem a_Mo_bind_14 : dk_at b_Mo_bind 14 t_Mo_bind_14 := dk_go 3 a_Mo_bind_11 rfl
theorem a_Mo_bind_15 : dk_at b_Mo_bind 15 t_Mo_bind_15 := dk_go 1 a_Mo_bind_14 rfl
theorem a_Mo_bind_16 : dk_at b_Mo_bind 16 t_Mo_bind_16 := dk_go 1 a_Mo_bind_15 rfl
theorem a_Mo_bind_19 : dk_at b_Mo_bind 19 t_Mo_bind_19 := dk_go 3 a_Mo_bind_16 rfl
theorem a_Mo_bind_20 : dk_at b_Mo_bind 20 t_Mo_bind_20 := dk_go 1 a_Mo_bind_19 rfl
theorem a_Mo_bind_23 : dk_at b_Mo_bind 23 t_Mo_bind_23 := dk_go 3 a_Mo_bind_20 rfl
theorem a_Mo_bind_25 : dk_at b_Mo_bind 25 t_Mo_bind_25 := dk_go 2 a_Mo_bind_23 rfl
theorem a_Mo_bind_26 : dk_at b_Mo_bind 26 t_Mo_bind_26 := dk_go 1 a_Mo_bind_25 rfl
theorem a_Mo_bind_29 : dk_at b_Mo_bind 29 t_Mo_bind_29 := dk_go 3 a_Mo_bind_26 rfl
theorem a_Mo_bind_31 : dk_at b_Mo_bind 31 t_Mo_bind_31 := dk_go 2 a_Mo_bind_29 rfl
theorem a_Mo_bind_33 : dk_at b_Mo_bind 33 t_Mo_bind_33 := dk_go 2 a_Mo_bind_31 rfl
theorem a_Mo_bind_36 : dk_at b_Mo_bind 36 t_Mo_bind_36 := dk_go 3 a_Mo_bind_33 rfl
theorem a_Mo_bind_37 : dk_at b_Mo_bind 37 t_Mo_bind_37 := dk_go 1 a_Mo_bind_36 rfl
theorem a_Mo_bind_38 : dk_at b_Mo_bind 38 t_Mo_bind_38 := dk_go 1 a_Mo_bind_37 rfl
theorem a_Mo_bind_41 : dk_at b_Mo_bind 41 t_Mo_bind_41 := dk_go 3 a_Mo_bind_38 rfl
theorem a_Mo_bind_43 : dk_at b_Mo_bind 43 t_Mo_bind_43 := dk_go 2 a_Mo_bind_41 rfl
theorem a_Mo_bind_46 : dk_at b_Mo_bind 46 t_Mo_bind_46 := dk_go 3 a_Mo_bind_43 rfl
theorem a_Mo_bind_48 : dk_at b_Mo_bind 48 t_Mo_bind_48 := dk_go 2 a_Mo_bind_46 rfl
theorem a_Mo_bind_50 : dk_at b_Mo_bind 50 t_Mo_bind_50 := dk_go 2 a_Mo_bind_48 rfl
theorem a_Mo_bind_53 : dk_at b_Mo_bind 53 t_Mo_bind_53 := dk_go 3 a_Mo_bind_50 rfl
theorem a_Mo_bind_54 : dk_at b_Mo_bind 54 t_Mo_bind_54 := dk_go 1 a_Mo_bind_53 rfl
theorem a_Mo_bind_55 : dk_at b_Mo_bind 55 t_Mo_bind_55 := dk_go 1 a_Mo_bind_54 rfl
theorem a_Mo_bind_58 : dk_at b_Mo_bind 58 t_Mo_bind_58 := dk_go 3 a_Mo_bind_55 rfl
theorem a_Mo_bind_60 : dk_at b_Mo_bind 60 t_Mo_bind_60 := dk_go 2 a_Mo_bind_58 rfl
theorem a_Mo_bind_61 : dk_at b_Mo_bind 61 t_Mo_bind_61 := dk_go 1 a_Mo_bind_60 rfl
theorem a_Mo_bind_64 : dk_at b_Mo_bind 64 t_Mo_bind_64 := dk_go 3 a_Mo_bind_61 rfl
theorem a_Mo_bind_66 : dk_at b_Mo_bind 66 t_Mo_bind_66 := dk_go 2 a_Mo_bind_64 rfl
theorem a_Mo_bind_67 : dk_at b_Mo_bind 67 t_Mo_bind_67 := dk_go 1 a_Mo_bind_66 rfl
theorem a_Mo_bind_70 : dk_at b_Mo_bind 70 t_Mo_bind_70 := dk_go 3 a_Mo_bind_67 rfl
theorem a_Mo_bind_71 : dk_at b_Mo_bind 71 t_Mo_bind_71 := dk_go 1 a_Mo_bind_70 rfl
theorem a_Mo_bind_72 : dk_at b_Mo_bind 72 t_Mo_bind_72 := dk_go 1 a_Mo_bind_71 rfl
theorem a_Mo_bind_73 : dk_at b_Mo_bind 73 t_Mo_bind_73 := dk_go 1 a_Mo_bind_72 rfl
theorem a_Mo_bind_76 : dk_at b_Mo_bind 76 t_Mo_bind_76 := dk_go 3 a_Mo_bind_73 rfl
theorem a_Mo_bind_77 : dk_at b_Mo_bind 77 t_Mo_bind_77 := dk_go 1 a_Mo_bind_76 rfl
theorem a_Mo_bind_78 : dk_at b_Mo_bind 78 t_Mo_bind_78 := dk_go 1 a_Mo_bind_77 rfl
theorem a_Mo_bind_79 : dk_at b_Mo_bind 79 t_Mo_bind_79 := dk_go 1 a_Mo_bind_78 rfl
theorem a_Mo_bind_80 : dk_at b_Mo_bind 80 t_Mo_bind_80 := dk_go 1 a_Mo_bind_79 rfl
theorem a_Mo_bind_83 : dk_at b_Mo_bind 83 t_Mo_bind_83 := dk_go 3 a_Mo_bind_80 rfl
theorem a_Mo_bind_84 : dk_at b_Mo_bind 84 t_Mo_bind_84 := dk_go 1 a_Mo_bind_83 rfl
theorem a_Mo_bind_85 : dk_at b_Mo_bind 85 t_Mo_bind_85 := dk_go 1 a_Mo_bind_84 rfl
theorem a_Mo_bind_86 : dk_at b_Mo_bind 86 t_Mo_bind_86 := dk_go 1 a_Mo_bind_85 rfl
theorem a_Mo_bind_87 : dk_at b_Mo_bind 87 t_Mo_bind_87 := dk_go 1 a_Mo_bind_86 rfl
theorem a_Mo_bind_90 : dk_at b_Mo_bind 90 t_Mo_bind_90 := dk_go 3 a_Mo_bind_87 rfl
theorem a_Mo_bind_91 : dk_at b_Mo_bind 91 t_Mo_bind_91 := dk_go 1 a_Mo_bind_90 rfl
theorem a_Mo_bind_93 : dk_at b_Mo_bind 93 t_Mo_bind_93 := dk_go 2 a_Mo_bind_91 rfl
theorem a_Mo_bind_94 : dk_at b_Mo_bind 94 t_Mo_bind_94 := dk_go 1 a_Mo_bind_93 rfl
theorem a_Mo_bind_95 : dk_at b_Mo_bind 95 t_Mo_bind_95 := dk_go 1 a_Mo_bind_94 rfl
theorem a_Mo_bind_98 : dk_at b_Mo_bind 98 t_Mo_bind_98 := dk_go 3 a_Mo_bind_95 rfl
theorem a_Mo_bind_99 : dk_at b_Mo_bind 99 t_Mo_bind_99 := dk_go 1 a_Mo_bind_98 rfl
theorem a_Mo_bind_101 : dk_at b_Mo_bind 101 t_Mo_bind_101 := dk_go 2 a_Mo_bind_99 rfl
theorem a_Mo_bind_102 : dk_at b_Mo_bind 102 t_Mo_bind_102 := dk_go 1 a_Mo_bind_101 rfl
theorem a_Mo_bind_103 : dk_at b_Mo_bind 103 t_Mo_bind_103 := dk_go 1 a_Mo_bind_102 rfl
theorem d_Mo_bind_0 : decode b_Mo_bind 0 = .ok (.iload_n 1, 1) := dk_0 a_Mo_bind_0 (dko_27 _)
theorem d_Mo_bind_1 : decode b_Mo_bind 1 = .ok (.ifCond .lt 69, 3) := dk_S2 a_Mo_bind_1 (dko_155 _) (by decide +kernel)
theorem d_Mo_bind_4 : decode b_Mo_bind 4 = .ok (.iload_n 1, 1) := dk_0 a_Mo_bind_4 (dko_27 _)
theorem d_Mo_bind_5 : decode b_Mo_bind 5 = .ok (.bipush 31, 2) := dk_S1 a_Mo_bind_5 (dko_16 _) (by decide +kernel)
theorem d_Mo_bind_7 : decode b_Mo_bind 7 = .ok (.if_icmp .gt 63, 3) := dk_S2 a_Mo_bind_7 (dko_163 _) (by decide +kernel)
theorem d_Mo_bind_10 : decode b_Mo_bind 10 = .ok (.iload_n 2, 1) := dk_0 a_Mo_bind_10 (dko_28 _)
theorem d_Mo_bind_11 : decode b_Mo_bind 11 = .ok (.ifCond .lt 59, 3) := dk_S2 a_Mo_bind_11 (dko_155 _) (by decide +kernel)
theorem d_Mo_bind_14 : decode b_Mo_bind 14 = .ok (.iload_n 2, 1) := dk_0 a_Mo_bind_14 (dko_28 _)
theorem d_Mo_bind_15 : decode b_Mo_bind 15 = .ok (.iconst 4, 1) := dk_0 a_Mo_bind_15 (dko_7 _)
theorem d_Mo_bind_16 : decode b_Mo_bind 16 = .ok (.if_icmp .gt 54, 3) := dk_S2 a_Mo_bind_16 (dko_163 _) (by decide +kernel)
theorem d_Mo_bind_19 : decode b_Mo_bind 19 = .ok (.iload_n 2, 1) := dk_0 a_Mo_bind_19 (dko_28 _)
theorem d_Mo_bind_20 : decode b_Mo_bind 20 = .ok (.ifCond .ne 16, 3) := dk_S2 a_Mo_bind_20 (dko_154 _) (by decide +kernel)
theorem d_Mo_bind_23 : decode b_Mo_bind 23 = .ok (.iload 5, 2) := dk_U1 a_Mo_bind_23 (dko_21 _) rfl
theorem d_Mo_bind_25 : decode b_Mo_bind 25 = .ok (.iconst 1, 1) := dk_0 a_Mo_bind_25 (dko_4 _)
theorem d_Mo_bind_26 : decode b_Mo_bind 26 = .ok (.if_icmp .lt 44, 3) := dk_S2 a_Mo_bind_26 (dko_161 _) (by decide +kernel)
theorem d_Mo_bind_29 : decode b_Mo_bind 29 = .ok (.iload 5, 2) := dk_U1 a_Mo_bind_29 (dko_21 _) rfl
theorem d_Mo_bind_31 : decode b_Mo_bind 31 = .ok (.bipush 100, 2) := dk_S1 a_Mo_bind_31 (dko_16 _) (by decide +kernel)
theorem d_Mo_bind_33 : decode b_Mo_bind 33 = .ok (.if_icmp .gt 37, 3) := dk_S2 a_Mo_bind_33 (dko_163 _) (by decide +kernel)
theorem d_Mo_bind_36 : decode b_Mo_bind 36 = .ok (.iload_n 2, 1) := dk_0 a_Mo_bind_36 (dko_28 _)
theorem d_Mo_bind_37 : decode b_Mo_bind 37 = .ok (.iconst 2, 1) := dk_0 a_Mo_bind_37 (dko_5 _)
theorem d_Mo_bind_38 : decode b_Mo_bind 38 = .ok (.if_icmp .ne 15, 3) := dk_S2 a_Mo_bind_38 (dko_160 _) (by decide +kernel)
theorem d_Mo_bind_41 : decode b_Mo_bind 41 = .ok (.iload 4, 2) := dk_U1 a_Mo_bind_41 (dko_21 _) rfl
theorem d_Mo_bind_43 : decode b_Mo_bind 43 = .ok (.ifCond .lt 27, 3) := dk_S2 a_Mo_bind_43 (dko_155 _) (by decide +kernel)
theorem d_Mo_bind_46 : decode b_Mo_bind 46 = .ok (.iload 4, 2) := dk_U1 a_Mo_bind_46 (dko_21 _) rfl
theorem d_Mo_bind_48 : decode b_Mo_bind 48 = .ok (.bipush 9, 2) := dk_S1 a_Mo_bind_48 (dko_16 _) (by decide +kernel)
theorem d_Mo_bind_50 : decode b_Mo_bind 50 = .ok (.if_icmp .gt 20, 3) := dk_S2 a_Mo_bind_50 (dko_163 _) (by decide +kernel)
theorem d_Mo_bind_53 : decode b_Mo_bind 53 = .ok (.iload_n 2, 1) := dk_0 a_Mo_bind_53 (dko_28 _)
theorem d_Mo_bind_54 : decode b_Mo_bind 54 = .ok (.iconst 3, 1) := dk_0 a_Mo_bind_54 (dko_6 _)
theorem d_Mo_bind_55 : decode b_Mo_bind 55 = .ok (.if_icmp .ne 17, 3) := dk_S2 a_Mo_bind_55 (dko_160 _) (by decide +kernel)
theorem d_Mo_bind_58 : decode b_Mo_bind 58 = .ok (.iload 4, 2) := dk_U1 a_Mo_bind_58 (dko_21 _) rfl
theorem d_Mo_bind_60 : decode b_Mo_bind 60 = .ok (.iconst 1, 1) := dk_0 a_Mo_bind_60 (dko_4 _)
theorem d_Mo_bind_61 : decode b_Mo_bind 61 = .ok (.if_icmp .lt 9, 3) := dk_S2 a_Mo_bind_61 (dko_161 _) (by decide +kernel)
theorem d_Mo_bind_64 : decode b_Mo_bind 64 = .ok (.iload 4, 2) := dk_U1 a_Mo_bind_64 (dko_21 _) rfl
theorem d_Mo_bind_66 : decode b_Mo_bind 66 = .ok (.iconst 5, 1) := dk_0 a_Mo_bind_66 (dko_8 _)
theorem d_Mo_bind_67 : decode b_Mo_bind 67 = .ok (.if_icmp .le 5, 3) := dk_S2 a_Mo_bind_67 (dko_164 _) (by decide +kernel)
theorem d_Mo_bind_70 : decode b_Mo_bind 70 = .ok (.iconst 0, 1) := dk_0 a_Mo_bind_70 (dko_3 _)
theorem d_Mo_bind_71 : decode b_Mo_bind 71 = .ok (.ireturn, 1) := dk_0 a_Mo_bind_71 (dko_172 _)
theorem d_Mo_bind_72 : decode b_Mo_bind 72 = .ok (.aload_n 0, 1) := dk_0 a_Mo_bind_72 (dko_42 _)
theorem d_Mo_bind_73 : decode b_Mo_bind 73 = .ok (.getfield 132, 3) := dk_U2 a_Mo_bind_73 (dko_180 _) rfl
theorem d_Mo_bind_76 : decode b_Mo_bind 76 = .ok (.iload_n 1, 1) := dk_0 a_Mo_bind_76 (dko_27 _)
theorem d_Mo_bind_77 : decode b_Mo_bind 77 = .ok (.iload_n 2, 1) := dk_0 a_Mo_bind_77 (dko_28 _)
theorem d_Mo_bind_78 : decode b_Mo_bind 78 = .ok (.iastore, 1) := dk_0 a_Mo_bind_78 (dko_79 _)
theorem d_Mo_bind_79 : decode b_Mo_bind 79 = .ok (.aload_n 0, 1) := dk_0 a_Mo_bind_79 (dko_42 _)
theorem d_Mo_bind_80 : decode b_Mo_bind 80 = .ok (.getfield 135, 3) := dk_U2 a_Mo_bind_80 (dko_180 _) rfl
theorem d_Mo_bind_83 : decode b_Mo_bind 83 = .ok (.iload_n 1, 1) := dk_0 a_Mo_bind_83 (dko_27 _)
theorem d_Mo_bind_84 : decode b_Mo_bind 84 = .ok (.iload_n 3, 1) := dk_0 a_Mo_bind_84 (dko_29 _)
theorem d_Mo_bind_85 : decode b_Mo_bind 85 = .ok (.iastore, 1) := dk_0 a_Mo_bind_85 (dko_79 _)
theorem d_Mo_bind_86 : decode b_Mo_bind 86 = .ok (.aload_n 0, 1) := dk_0 a_Mo_bind_86 (dko_42 _)
theorem d_Mo_bind_87 : decode b_Mo_bind 87 = .ok (.getfield 138, 3) := dk_U2 a_Mo_bind_87 (dko_180 _) rfl
theorem d_Mo_bind_90 : decode b_Mo_bind 90 = .ok (.iload_n 1, 1) := dk_0 a_Mo_bind_90 (dko_27 _)
theorem d_Mo_bind_91 : decode b_Mo_bind 91 = .ok (.iload 4, 2) := dk_U1 a_Mo_bind_91 (dko_21 _) rfl
theorem d_Mo_bind_93 : decode b_Mo_bind 93 = .ok (.iastore, 1) := dk_0 a_Mo_bind_93 (dko_79 _)
theorem d_Mo_bind_94 : decode b_Mo_bind 94 = .ok (.aload_n 0, 1) := dk_0 a_Mo_bind_94 (dko_42 _)
theorem d_Mo_bind_95 : decode b_Mo_bind 95 = .ok (.getfield 141, 3) := dk_U2 a_Mo_bind_95 (dko_180 _) rfl
theorem d_Mo_bind_98 : decode b_Mo_bind 98 = .ok (.iload_n 1, 1) := dk_0 a_Mo_bind_98 (dko_27 _)
theorem d_Mo_bind_99 : decode b_Mo_bind 99 = .ok (.iload 5, 2) := dk_U1 a_Mo_bind_99 (dko_21 _) rfl
theorem d_Mo_bind_101 : decode b_Mo_bind 101 = .ok (.iastore, 1) := dk_0 a_Mo_bind_101 (dko_79 _)
theorem d_Mo_bind_102 : decode b_Mo_bind 102 = .ok (.iconst 1, 1) := dk_0 a_Mo_bind_102 (dko_4 _)
theorem d_Mo_bind_103 : decode b_Mo_bind 103 = .ok (.ireturn, 1) := dk_0 a_Mo_bind_103 (dko_172 _)
set_option maxHeartbeats 4000000 in
set_option maxRecDepth 100000 in
theorem ok_Mo_bind (pc : Nat) : OpS mt mi_Mo_bind pc (cs_Mo_bind pc) := (os_n (os_n (os_n (os_n (os_n (os_l (so_iload_n d_Mo_bind_0 rfl)) (os_n (os_l (so_iflt d_Mo_bind_1 (by decide))) (os_l (so_iload_n d_Mo_bind_4 rfl)))) (os_n (os_n (os_l (so_bipush d_Mo_bind_5 (by decide))) (os_l (so_icgt d_Mo_bind_7 (by decide)))) (os_n (os_l (so_iload_n d_Mo_bind_10 rfl)) (os_l (so_iflt d_Mo_bind_11 (by decide)))))) (os_n (os_n (os_l (so_iload_n d_Mo_bind_14 rfl)) (os_n (os_l (so_iconst d_Mo_bind_15 (by decide))) (os_l (so_icgt d_Mo_bind_16 (by decide))))) (os_n (os_n (os_l (so_iload_n d_Mo_bind_19 rfl)) (os_l (so_ifne d_Mo_bind_20 (by decide)))) (os_n (os_l (so_iload d_Mo_bind_23)) (os_l (so_iconst d_Mo_bind_25 (by decide))))))) (os_n (os_n (os_n (os_l (so_iclt d_Mo_bind_26 (by decide))) (os_n (os_l (so_iload d_Mo_bind_29)) (os_l (so_bipush d_Mo_bind_31 (by decide))))) (os_n (os_n (os_l (so_icgt d_Mo_bind_33 (by decide))) (os_l (so_iload_n d_Mo_bind_36 rfl))) (os_n (os_l (so_iconst d_Mo_bind_37 (by decide))) (os_l (so_icne d_Mo_bind_38 (by decide)))))) (os_n (os_n (os_n (os_l (so_iload d_Mo_bind_41)) (os_l (so_iflt d_Mo_bind_43 (by decide)))) (os_n (os_l (so_iload d_Mo_bind_46)) (os_l (so_bipush d_Mo_bind_48 (by decide))))) (os_n (os_n (os_l (so_icgt d_Mo_bind_50 (by decide))) (os_l (so_iload_n d_Mo_bind_53 rfl))) (os_n (os_l (so_iconst d_Mo_bind_54 (by decide))) (os_l (so_icne d_Mo_bind_55 (by decide)))))))) (os_n (os_n (os_n (os_n (os_l (so_iload d_Mo_bind_58)) (os_n (os_l (so_iconst d_Mo_bind_60 (by decide))) (os_l (so_iclt d_Mo_bind_61 (by decide))))) (os_n (os_n (os_l (so_iload d_Mo_bind_64)) (os_l (so_iconst d_Mo_bind_66 (by decide)))) (os_n (os_l (so_icle d_Mo_bind_67 (by decide))) (os_l (so_iconst d_Mo_bind_70 (by decide)))))) (os_n (os_n (os_n (os_l (so_zreturn rfl d_Mo_bind_71)) (os_l (so_aload_n d_Mo_bind_72 rfl))) (os_n (os_l (so_get (C := R_Mo) (T := F_Mo) (N := 87) (j := 49) in_Mo rfl (by decide) mw_1843 d_Mo_bind_73)) (os_l (so_iload_n d_Mo_bind_76 rfl)))) (os_n (os_n (os_l (so_iload_n d_Mo_bind_77 rfl)) (os_l (so_iastore d_Mo_bind_78))) (os_n (os_l (so_aload_n d_Mo_bind_79 rfl)) (os_l (so_get (C := R_Mo) (T := F_Mo) (N := 87) (j := 50) in_Mo rfl (by decide) mw_1844 d_Mo_bind_80)))))) (os_n (os_n (os_n (os_l (so_iload_n d_Mo_bind_83 rfl)) (os_n (os_l (so_iload_n d_Mo_bind_84 rfl)) (os_l (so_iastore d_Mo_bind_85)))) (os_n (os_n (os_l (so_aload_n d_Mo_bind_86 rfl)) (os_l (so_get (C := R_Mo) (T := F_Mo) (N := 87) (j := 51) in_Mo rfl (by decide) mw_1845 d_Mo_bind_87))) (os_n (os_l (so_iload_n d_Mo_bind_90 rfl)) (os_l (so_iload d_Mo_bind_91))))) (os_n (os_n (os_n (os_l (so_iastore d_Mo_bind_93)) (os_l (so_aload_n d_Mo_bind_94 rfl))) (os_n (os_l (so_get (C := R_Mo) (T := F_Mo) (N := 87) (j := 52) in_Mo rfl (by decide) mw_1846 d_Mo_bind_95)) (os_l (so_iload_n d_Mo_bind_98 rfl)))) (os_n (os_n (os_l (so_iload d_Mo_bind_99)) (os_l (so_iastore d_Mo_bind_101))) (os_n (os_l (so_iconst d_Mo_bind_102 (by decide))) (os_l (so_zreturn rfl d_Mo_bind_103))))))))
abbrev t_Mo_perform_330 : List UInt8 := 172 :: []
abbrev t_Mo_perform_329 : List UInt8 := 3 :: t_Mo_perform_330
abbrev t_Mo_perform_326 : List UInt8 := 167 :: 255 :: 226 :: t_Mo_perform_329
abbrev t_Mo_perform_323 : List UInt8 := 132 :: 6 :: 1 :: t_Mo_perform_326
abbrev t_Mo_perform_322 : List UInt8 := 84 :: t_Mo_perform_323
abbrev t_Mo_perform_321 : List UInt8 := 3 :: t_Mo_perform_322
abbrev t_Mo_perform_320 : List UInt8 := 96 :: t_Mo_perform_321
abbrev t_Mo_perform_318 : List UInt8 := 21 :: 6 :: t_Mo_perform_320
abbrev t_Mo_perform_317 : List UInt8 := 104 :: t_Mo_perform_318
abbrev t_Mo_perform_316 : List UInt8 := 100 :: t_Mo_perform_317
abbrev t_Mo_perform_313 : List UInt8 := 180 :: 1 :: 22 :: t_Mo_perform_316
abbrev t_Mo_perform_312 : List UInt8 := 42 :: t_Mo_perform_313
abbrev t_Mo_perform_311 : List UInt8 := 28 :: t_Mo_perform_312
abbrev t_Mo_perform_308 : List UInt8 := 17 :: 0 :: 200 :: t_Mo_perform_311
abbrev t_Mo_perform_305 : List UInt8 := 180 :: 0 :: 55 :: t_Mo_perform_308
abbrev t_Mo_perform_304 : List UInt8 := 42 :: t_Mo_perform_305
abbrev t_Mo_perform_301 : List UInt8 := 162 :: 0 :: 28 :: t_Mo_perform_304
abbrev t_Mo_perform_298 : List UInt8 := 17 :: 0 :: 200 :: t_Mo_perform_301
abbrev t_Mo_perform_296 : List UInt8 := 21 :: 6 :: t_Mo_perform_298
abbrev t_Mo_perform_294 : List UInt8 := 54 :: 6 :: t_Mo_perform_296
abbrev t_Mo_perform_293 : List UInt8 := 3 :: t_Mo_perform_294
abbrev t_Mo_perform_290 : List UInt8 := 167 :: 0 :: 39 :: t_Mo_perform_293
abbrev t_Mo_perform_289 : List UInt8 := 79 :: t_Mo_perform_290
abbrev t_Mo_perform_288 : List UInt8 := 3 :: t_Mo_perform_289
abbrev t_Mo_perform_287 : List UInt8 := 28 :: t_Mo_perform_288
abbrev t_Mo_perform_284 : List UInt8 := 180 :: 0 :: 37 :: t_Mo_perform_287
abbrev t_Mo_perform_283 : List UInt8 := 42 :: t_Mo_perform_284
abbrev t_Mo_perform_282 : List UInt8 := 79 :: t_Mo_perform_283
abbrev t_Mo_perform_281 : List UInt8 := 3 :: t_Mo_perform_282
abbrev t_Mo_perform_280 : List UInt8 := 28 :: t_Mo_perform_281
abbrev t_Mo_perform_277 : List UInt8 := 180 :: 0 :: 34 :: t_Mo_perform_280
abbrev t_Mo_perform_276 : List UInt8 := 42 :: t_Mo_perform_277
abbrev t_Mo_perform_273 : List UInt8 := 162 :: 0 :: 20 :: t_Mo_perform_276
abbrev t_Mo_perform_270 : List UInt8 := 180 :: 1 :: 22 :: t_Mo_perform_273
abbrev t_Mo_perform_269 : List UInt8 := 42 :: t_Mo_perform_270
abbrev t_Mo_perform_268 : List UInt8 := 28 :: t_Mo_perform_269
abbrev t_Mo_perform_267 : List UInt8 := 172 :: t_Mo_perform_268
abbrev t_Mo_perform_266 : List UInt8 := 3 :: t_Mo_perform_267
abbrev t_Mo_perform_265 : List UInt8 := 79 :: t_Mo_perform_266
abbrev t_Mo_perform_262 : List UInt8 := 180 :: 1 :: 70 :: t_Mo_perform_265
abbrev t_Mo_perform_261 : List UInt8 := 42 :: t_Mo_perform_262
abbrev t_Mo_perform_260 : List UInt8 := 96 :: t_Mo_perform_261
abbrev t_Mo_perform_259 : List UInt8 := 29 :: t_Mo_perform_260
abbrev t_Mo_perform_258 : List UInt8 := 104 :: t_Mo_perform_259
abbrev t_Mo_perform_257 : List UInt8 := 28 :: t_Mo_perform_258
abbrev t_Mo_perform_255 : List UInt8 := 16 :: 6 :: t_Mo_perform_257
abbrev t_Mo_perform_252 : List UInt8 := 180 :: 0 :: 61 :: t_Mo_perform_255
abbrev t_Mo_perform_251 : List UInt8 := 42 :: t_Mo_perform_252
abbrev t_Mo_perform_248 : List UInt8 := 160 :: 0 :: 20 :: t_Mo_perform_251
abbrev t_Mo_perform_247 : List UInt8 := 6 :: t_Mo_perform_248
abbrev t_Mo_perform_245 : List UInt8 := 21 :: 4 :: t_Mo_perform_247
abbrev t_Mo_perform_244 : List UInt8 := 172 :: t_Mo_perform_245
abbrev t_Mo_perform_243 : List UInt8 := 6 :: t_Mo_perform_244
abbrev t_Mo_perform_240 : List UInt8 := 158 :: 0 :: 5 :: t_Mo_perform_243
abbrev t_Mo_perform_237 : List UInt8 := 182 :: 1 :: 67 :: t_Mo_perform_240
abbrev t_Mo_perform_236 : List UInt8 := 28 :: t_Mo_perform_237
abbrev t_Mo_perform_235 : List UInt8 := 42 :: t_Mo_perform_236
abbrev t_Mo_perform_232 : List UInt8 := 160 :: 0 :: 13 :: t_Mo_perform_235
abbrev t_Mo_perform_231 : List UInt8 := 6 :: t_Mo_perform_232
abbrev t_Mo_perform_229 : List UInt8 := 21 :: 4 :: t_Mo_perform_231
abbrev t_Mo_perform_226 : List UInt8 := 154 :: 0 :: 17 :: t_Mo_perform_229
abbrev t_Mo_perform_223 : List UInt8 := 182 :: 1 :: 174 :: t_Mo_perform_226
abbrev t_Mo_perform_222 : List UInt8 := 28 :: t_Mo_perform_223
abbrev t_Mo_perform_221 : List UInt8 := 42 :: t_Mo_perform_222
abbrev t_Mo_perform_220 : List UInt8 := 172 :: t_Mo_perform_221
abbrev t_Mo_perform_219 : List UInt8 := 3 :: t_Mo_perform_220
abbrev t_Mo_perform_218 : List UInt8 := 172 :: t_Mo_perform_219
abbrev t_Mo_perform_216 : List UInt8 := 16 :: 7 :: t_Mo_perform_218
abbrev t_Mo_perform_215 : List UInt8 := 79 :: t_Mo_perform_216
abbrev t_Mo_perform_213 : List UInt8 := 21 :: 6 :: t_Mo_perform_215
abbrev t_Mo_perform_212 : List UInt8 := 28 :: t_Mo_perform_213
abbrev t_Mo_perform_209 : List UInt8 := 180 :: 0 :: 40 :: t_Mo_perform_212
abbrev t_Mo_perform_208 : List UInt8 := 42 :: t_Mo_perform_209
abbrev t_Mo_perform_205 : List UInt8 := 154 :: 0 :: 14 :: t_Mo_perform_208
abbrev t_Mo_perform_202 : List UInt8 := 182 :: 1 :: 113 :: t_Mo_perform_205
abbrev t_Mo_perform_201 : List UInt8 := 42 :: t_Mo_perform_202
abbrev t_Mo_perform_198 : List UInt8 := 182 :: 1 :: 110 :: t_Mo_perform_201
abbrev t_Mo_perform_197 : List UInt8 := 42 :: t_Mo_perform_198
abbrev t_Mo_perform_196 : List UInt8 := 79 :: t_Mo_perform_197
abbrev t_Mo_perform_195 : List UInt8 := 29 :: t_Mo_perform_196
abbrev t_Mo_perform_194 : List UInt8 := 28 :: t_Mo_perform_195
abbrev t_Mo_perform_191 : List UInt8 := 180 :: 0 :: 40 :: t_Mo_perform_194
abbrev t_Mo_perform_190 : List UInt8 := 42 :: t_Mo_perform_191
abbrev t_Mo_perform_188 : List UInt8 := 54 :: 6 :: t_Mo_perform_190
abbrev t_Mo_perform_187 : List UInt8 := 46 :: t_Mo_perform_188
abbrev t_Mo_perform_186 : List UInt8 := 28 :: t_Mo_perform_187
abbrev t_Mo_perform_183 : List UInt8 := 180 :: 0 :: 40 :: t_Mo_perform_186
abbrev t_Mo_perform_182 : List UInt8 := 42 :: t_Mo_perform_183
abbrev t_Mo_perform_181 : List UInt8 := 172 :: t_Mo_perform_182
abbrev t_Mo_perform_180 : List UInt8 := 6 :: t_Mo_perform_181
abbrev t_Mo_perform_177 : List UInt8 := 159 :: 0 :: 5 :: t_Mo_perform_180
abbrev t_Mo_perform_176 : List UInt8 := 2 :: t_Mo_perform_177
abbrev t_Mo_perform_173 : List UInt8 := 182 :: 1 :: 121 :: t_Mo_perform_176
abbrev t_Mo_perform_172 : List UInt8 := 28 :: t_Mo_perform_173
abbrev t_Mo_perform_171 : List UInt8 := 42 :: t_Mo_perform_172
abbrev t_Mo_perform_168 : List UInt8 := 160 :: 0 :: 53 :: t_Mo_perform_171
abbrev t_Mo_perform_167 : List UInt8 := 5 :: t_Mo_perform_168
abbrev t_Mo_perform_165 : List UInt8 := 21 :: 4 :: t_Mo_perform_167
abbrev t_Mo_perform_164 : List UInt8 := 172 :: t_Mo_perform_165
abbrev t_Mo_perform_163 : List UInt8 := 3 :: t_Mo_perform_164
abbrev t_Mo_perform_160 : List UInt8 := 182 :: 1 :: 147 :: t_Mo_perform_163
abbrev t_Mo_perform_158 : List UInt8 := 21 :: 6 :: t_Mo_perform_160
abbrev t_Mo_perform_157 : List UInt8 := 42 :: t_Mo_perform_158
abbrev t_Mo_perform_156 : List UInt8 := 172 :: t_Mo_perform_157
abbrev t_Mo_perform_155 : List UInt8 := 6 :: t_Mo_perform_156
abbrev t_Mo_perform_152 : List UInt8 := 160 :: 0 :: 5 :: t_Mo_perform_155
abbrev t_Mo_perform_151 : List UInt8 := 2 :: t_Mo_perform_152
abbrev t_Mo_perform_149 : List UInt8 := 21 :: 6 :: t_Mo_perform_151
abbrev t_Mo_perform_147 : List UInt8 := 54 :: 6 :: t_Mo_perform_149
abbrev t_Mo_perform_144 : List UInt8 := 182 :: 1 :: 138 :: t_Mo_perform_147
abbrev t_Mo_perform_143 : List UInt8 := 29 :: t_Mo_perform_144
abbrev t_Mo_perform_142 : List UInt8 := 28 :: t_Mo_perform_143
abbrev t_Mo_perform_141 : List UInt8 := 42 :: t_Mo_perform_142
abbrev t_Mo_perform_138 : List UInt8 := 160 :: 0 :: 27 :: t_Mo_perform_141
abbrev t_Mo_perform_137 : List UInt8 := 4 :: t_Mo_perform_138
abbrev t_Mo_perform_135 : List UInt8 := 21 :: 4 :: t_Mo_perform_137
abbrev t_Mo_perform_134 : List UInt8 := 172 :: t_Mo_perform_135
abbrev t_Mo_perform_131 : List UInt8 := 182 :: 1 :: 171 :: t_Mo_perform_134
abbrev t_Mo_perform_130 : List UInt8 := 46 :: t_Mo_perform_131
abbrev t_Mo_perform_129 : List UInt8 := 27 :: t_Mo_perform_130
abbrev t_Mo_perform_126 : List UInt8 := 180 :: 0 :: 141 :: t_Mo_perform_129
abbrev t_Mo_perform_125 : List UInt8 := 42 :: t_Mo_perform_126
abbrev t_Mo_perform_124 : List UInt8 := 29 :: t_Mo_perform_125
abbrev t_Mo_perform_123 : List UInt8 := 28 :: t_Mo_perform_124
abbrev t_Mo_perform_122 : List UInt8 := 42 :: t_Mo_perform_123
abbrev t_Mo_perform_119 : List UInt8 := 154 :: 0 :: 16 :: t_Mo_perform_122
abbrev t_Mo_perform_117 : List UInt8 := 21 :: 4 :: t_Mo_perform_119
abbrev t_Mo_perform_116 : List UInt8 := 172 :: t_Mo_perform_117
abbrev t_Mo_perform_115 : List UInt8 := 5 :: t_Mo_perform_116
abbrev t_Mo_perform_112 : List UInt8 := 158 :: 0 :: 5 :: t_Mo_perform_115
abbrev t_Mo_perform_109 : List UInt8 := 182 :: 1 :: 168 :: t_Mo_perform_112
abbrev t_Mo_perform_108 : List UInt8 := 27 :: t_Mo_perform_109
abbrev t_Mo_perform_105 : List UInt8 := 180 :: 0 :: 23 :: t_Mo_perform_108
abbrev t_Mo_perform_104 : List UInt8 := 42 :: t_Mo_perform_105
abbrev t_Mo_perform_103 : List UInt8 := 172 :: t_Mo_perform_104
abbrev t_Mo_perform_102 : List UInt8 := 4 :: t_Mo_perform_103
abbrev t_Mo_perform_99 : List UInt8 := 154 :: 0 :: 5 :: t_Mo_perform_102
abbrev t_Mo_perform_97 : List UInt8 := 21 :: 5 :: t_Mo_perform_99
abbrev t_Mo_perform_95 : List UInt8 := 54 :: 5 :: t_Mo_perform_97
abbrev t_Mo_perform_94 : List UInt8 := 3 :: t_Mo_perform_95
abbrev t_Mo_perform_91 : List UInt8 := 167 :: 0 :: 4 :: t_Mo_perform_94
abbrev t_Mo_perform_90 : List UInt8 := 4 :: t_Mo_perform_91
abbrev t_Mo_perform_87 : List UInt8 := 153 :: 0 :: 7 :: t_Mo_perform_90
abbrev t_Mo_perform_84 : List UInt8 := 182 :: 1 :: 159 :: t_Mo_perform_87
abbrev t_Mo_perform_83 : List UInt8 := 28 :: t_Mo_perform_84
abbrev t_Mo_perform_82 : List UInt8 := 42 :: t_Mo_perform_83
abbrev t_Mo_perform_79 : List UInt8 := 159 :: 0 :: 15 :: t_Mo_perform_82
abbrev t_Mo_perform_78 : List UInt8 := 2 :: t_Mo_perform_79
abbrev t_Mo_perform_76 : List UInt8 := 21 :: 4 :: t_Mo_perform_78
abbrev t_Mo_perform_73 : List UInt8 := 167 :: 0 :: 22 :: t_Mo_perform_76
abbrev t_Mo_perform_70 : List UInt8 := 182 :: 1 :: 156 :: t_Mo_perform_73
abbrev t_Mo_perform_69 : List UInt8 := 28 :: t_Mo_perform_70
abbrev t_Mo_perform_68 : List UInt8 := 42 :: t_Mo_perform_69
abbrev t_Mo_perform_65 : List UInt8 := 160 :: 0 :: 11 :: t_Mo_perform_68
abbrev t_Mo_perform_64 : List UInt8 := 5 :: t_Mo_perform_65
abbrev t_Mo_perform_62 : List UInt8 := 21 :: 4 :: t_Mo_perform_64
abbrev t_Mo_perform_59 : List UInt8 := 167 :: 0 :: 36 :: t_Mo_perform_62
abbrev t_Mo_perform_58 : List UInt8 := 3 :: t_Mo_perform_59
abbrev t_Mo_perform_55 : List UInt8 := 167 :: 0 :: 40 :: t_Mo_perform_58
abbrev t_Mo_perform_54 : List UInt8 := 4 :: t_Mo_perform_55
abbrev t_Mo_perform_51 : List UInt8 := 159 :: 0 :: 7 :: t_Mo_perform_54
abbrev t_Mo_perform_50 : List UInt8 := 29 :: t_Mo_perform_51
abbrev t_Mo_perform_49 : List UInt8 := 28 :: t_Mo_perform_50
abbrev t_Mo_perform_46 : List UInt8 := 153 :: 0 :: 12 :: t_Mo_perform_49
abbrev t_Mo_perform_43 : List UInt8 := 182 :: 1 :: 61 :: t_Mo_perform_46
abbrev t_Mo_perform_42 : List UInt8 := 29 :: t_Mo_perform_43
abbrev t_Mo_perform_41 : List UInt8 := 42 :: t_Mo_perform_42
abbrev t_Mo_perform_38 : List UInt8 := 153 :: 0 :: 20 :: t_Mo_perform_41
abbrev t_Mo_perform_35 : List UInt8 := 182 :: 1 :: 61 :: t_Mo_perform_38
abbrev t_Mo_perform_34 : List UInt8 := 28 :: t_Mo_perform_35
abbrev t_Mo_perform_33 : List UInt8 := 42 :: t_Mo_perform_34
abbrev t_Mo_perform_30 : List UInt8 := 160 :: 0 :: 32 :: t_Mo_perform_33
abbrev t_Mo_perform_29 : List UInt8 := 4 :: t_Mo_perform_30
abbrev t_Mo_perform_27 : List UInt8 := 21 :: 4 :: t_Mo_perform_29
abbrev t_Mo_perform_24 : List UInt8 := 153 :: 0 :: 9 :: t_Mo_perform_27
abbrev t_Mo_perform_22 : List UInt8 := 21 :: 4 :: t_Mo_perform_24
abbrev t_Mo_perform_20 : List UInt8 := 54 :: 4 :: t_Mo_perform_22
abbrev t_Mo_perform_19 : List UInt8 := 46 :: t_Mo_perform_20
abbrev t_Mo_perform_18 : List UInt8 := 27 :: t_Mo_perform_19
abbrev t_Mo_perform_15 : List UInt8 := 180 :: 0 :: 132 :: t_Mo_perform_18
abbrev t_Mo_perform_14 : List UInt8 := 42 :: t_Mo_perform_15
abbrev t_Mo_perform_13 : List UInt8 := 62 :: t_Mo_perform_14
abbrev t_Mo_perform_12 : List UInt8 := 46 :: t_Mo_perform_13
abbrev t_Mo_perform_11 : List UInt8 := 27 :: t_Mo_perform_12
abbrev t_Mo_perform_8 : List UInt8 := 180 :: 0 :: 138 :: t_Mo_perform_11
abbrev t_Mo_perform_7 : List UInt8 := 42 :: t_Mo_perform_8
abbrev t_Mo_perform_6 : List UInt8 := 61 :: t_Mo_perform_7
abbrev t_Mo_perform_5 : List UInt8 := 46 :: t_Mo_perform_6
abbrev t_Mo_perform_4 : List UInt8 := 27 :: t_Mo_perform_5
abbrev t_Mo_perform_1 : List UInt8 := 180 :: 0 :: 135 :: t_Mo_perform_4
abbrev t_Mo_perform_0 : List UInt8 := 42 :: t_Mo_perform_1
theorem a_Mo_perform_0 : dk_at b_Mo_perform 0 t_Mo_perform_0 := dk_start (by decide +kernel)
theorem a_Mo_perform_1 : dk_at b_Mo_perform 1 t_Mo_perform_1 := dk_go 1 a_Mo_perform_0 rfl
theorem a_Mo_perform_4 : dk_at b_Mo_perform 4 t_Mo_perform_4 := dk_go 3 a_Mo_perform_1 rfl
theorem a_Mo_perform_5 : dk_at b_Mo_perform 5 t_Mo_perform_5 := dk_go 1 a_Mo_perform_4 rfl
theorem a_Mo_perform_6 : dk_at b_Mo_perform 6 t_Mo_perform_6 := dk_go 1 a_Mo_perform_5 rfl
theorem a_Mo_perform_7 : dk_at b_Mo_perform 7 t_Mo_perform_7 := dk_go 1 a_Mo_perform_6 rfl
theorem a_Mo_perform_8 : dk_at b_Mo_perform 8 t_Mo_perform_8 := dk_go 1 a_Mo_perform_7 rfl
theorem a_Mo_perform_11 : dk_at b_Mo_perform 11 t_Mo_perform_11 := dk_go 3 a_Mo_perform_8 rfl
theorem a_Mo_perform_12 : dk_at b_Mo_perform 12 t_Mo_perform_12 := dk_go 1 a_Mo_perform_11 rfl
theorem a_Mo_perform_13 : dk_at b_Mo_perform 13 t_Mo_perform_13 := dk_go 1 a_Mo_perform_12 rfl
theorem a_Mo_perform_14 : dk_at b_Mo_perform 14 t_Mo_perform_14 := dk_go 1 a_Mo_perform_13 rfl
theorem a_Mo_perform_15 : dk_at b_Mo_perform 15 t_Mo_perform_15 := dk_go 1 a_Mo_perform_14 rfl
theorem a_Mo_perform_18 : dk_at b_Mo_perform 18 t_Mo_perform_18 := dk_go 3 a_Mo_perform_15 rfl
theorem a_Mo_perform_19 : dk_at b_Mo_perform 19 t_Mo_perform_19 := dk_go 1 a_Mo_perform_18 rfl
theorem a_Mo_perform_20 : dk_at b_Mo_perform 20 t_Mo_perform_20 := dk_go 1 a_Mo_perform_19 rfl
theorem a_Mo_perform_22 : dk_at b_Mo_perform 22 t_Mo_perform_22 := dk_go 2 a_Mo_perform_20 rfl
theorem a_Mo_perform_24 : dk_at b_Mo_perform 24 t_Mo_perform_24 := dk_go 2 a_Mo_perform_22 rfl
theorem a_Mo_perform_27 : dk_at b_Mo_perform 27 t_Mo_perform_27 := dk_go 3 a_Mo_perform_24 rfl
theorem a_Mo_perform_29 : dk_at b_Mo_perform 29 t_Mo_perform_29 := dk_go 2 a_Mo_perform_27 rfl
theorem a_Mo_perform_30 : dk_at b_Mo_perform 30 t_Mo_perform_30 := dk_go 1 a_Mo_perform_29 rfl
theorem a_Mo_perform_33 : dk_at b_Mo_perform 33 t_Mo_perform_33 := dk_go 3 a_Mo_perform_30 rfl
theorem a_Mo_perform_34 : dk_at b_Mo_perform 34 t_Mo_perform_34 := dk_go 1 a_Mo_perform_33 rfl
theorem a_Mo_perform_35 : dk_at b_Mo_perform 35 t_Mo_perform_35 := dk_go 1 a_Mo_perform_34 rfl
theorem a_Mo_perform_38 : dk_at b_Mo_perform 38 t_Mo_perform_38 := dk_go 3 a_Mo_perform_35 rfl
theorem a_Mo_perform_41 : dk_at b_Mo_perform 41 t_Mo_perform_41 := dk_go 3 a_Mo_perform_38 rfl
theorem a_Mo_perform_42 : dk_at b_Mo_perform 42 t_Mo_perform_42 := dk_go 1 a_Mo_perform_41 rfl
theorem a_Mo_perform_43 : dk_at b_Mo_perform 43 t_Mo_perform_43 := dk_go 1 a_Mo_perform_42 rfl
theorem a_Mo_perform_46 : dk_at b_Mo_perform 46 t_Mo_perform_46 := dk_go 3 a_Mo_perform_43 rfl
theorem a_Mo_perform_49 : dk_at b_Mo_perform 49 t_Mo_perform_49 := dk_go 3 a_Mo_perform_46 rfl
theorem a_Mo_perform_50 : dk_at b_Mo_perform 50 t_Mo_perform_50 := dk_go 1 a_Mo_perform_49 rfl
theorem a_Mo_perform_51 : dk_at b_Mo_perform 51 t_Mo_perform_51 := dk_go 1 a_Mo_perform_50 rfl
theorem a_Mo_perform_54 : dk_at b_Mo_perform 54 t_Mo_perform_54 := dk_go 3 a_Mo_perform_51 rfl
theorem a_Mo_perform_55 : dk_at b_Mo_perform 55 t_Mo_perform_55 := dk_go 1 a_Mo_perform_54 rfl
theorem a_Mo_perform_58 : dk_at b_Mo_perform 58 t_Mo_perform_58 := dk_go 3 a_Mo_perform_55 rfl
theorem a_Mo_perform_59 : dk_at b_Mo_perform 59 t_Mo_perform_59 := dk_go 1 a_Mo_perform_58 rfl
theorem a_Mo_perform_62 : dk_at b_Mo_perform 62 t_Mo_perform_62 := dk_go 3 a_Mo_perform_59 rfl
theorem a_Mo_perform_64 : dk_at b_Mo_perform 64 t_Mo_perform_64 := dk_go 2 a_Mo_perform_62 rfl
theorem a_Mo_perform_65 : dk_at b_Mo_perform 65 t_Mo_perform_65 := dk_go 1 a_Mo_perform_64 rfl
theorem a_Mo_perform_68 : dk_at b_Mo_perform 68 t_Mo_perform_68 := dk_go 3 a_Mo_perform_65 rfl
theorem a_Mo_perform_69 : dk_at b_Mo_perform 69 t_Mo_perform_69 := dk_go 1 a_Mo_perform_68 rfl
theorem a_Mo_perform_70 : dk_at b_Mo_perform 70 t_Mo_perform_70 := dk_go 1 a_Mo_perform_69 rfl
theorem a_Mo_perform_73 : dk_at b_Mo_perform 73 t_Mo_perform_73 := dk_go 3 a_Mo_perform_70 rfl
theorem a_Mo_perform_76 : dk_at b_Mo_perform 76 t_Mo_perform_76 := dk_go 3 a_Mo_perform_73 rfl
theorem a_Mo_perform_78 : dk_at b_Mo_perform 78 t_Mo_perform_78 := dk_go 2 a_Mo_perform_76 rfl
theorem a_Mo_perform_79 : dk_at b_Mo_perform 79 t_Mo_perform_79 := dk_go 1 a_Mo_perform_78 rfl
theorem a_Mo_perform_82 : dk_at b_Mo_perform 82 t_Mo_perform_82 := dk_go 3 a_Mo_perform_79 rfl
theorem a_Mo_perform_83 : dk_at b_Mo_perform 83 t_Mo_perform_83 := dk_go 1 a_Mo_perform_82 rfl
theorem a_Mo_perform_84 : dk_at b_Mo_perform 84 t_Mo_perform_84 := dk_go 1 a_Mo_perform_83 rfl
theorem a_Mo_perform_87 : dk_at b_Mo_perform 87 t_Mo_perform_87 := dk_go 3 a_Mo_perform_84 rfl
theorem a_Mo_perform_90 : dk_at b_Mo_perform 90 t_Mo_perform_90 := dk_go 3 a_Mo_perform_87 rfl
theorem a_Mo_perform_91 : dk_at b_Mo_perform 91 t_Mo_perform_91 := dk_go 1 a_Mo_perform_90 rfl
theorem a_Mo_perform_94 : dk_at b_Mo_perform 94 t_Mo_perform_94 := dk_go 3 a_Mo_perform_91 rfl
theorem a_Mo_perform_95 : dk_at b_Mo_perform 95 t_Mo_perform_95 := dk_go 1 a_Mo_perform_94 rfl
theorem a_Mo_perform_97 : dk_at b_Mo_perform 97 t_Mo_perform_97 := dk_go 2 a_Mo_perform_95 rfl
theorem a_Mo_perform_99 : dk_at b_Mo_perform 99 t_Mo_perform_99 := dk_go 2 a_Mo_perform_97 rfl
theorem a_Mo_perform_102 : dk_at b_Mo_perform 102 t_Mo_perform_102 := dk_go 3 a_Mo_perform_99 rfl
theorem a_Mo_perform_103 : dk_at b_Mo_perform 103 t_Mo_perform_103 := dk_go 1 a_Mo_perform_102 rfl
theorem a_Mo_perform_104 : dk_at b_Mo_perform 104 t_Mo_perform_104 := dk_go 1 a_Mo_perform_103 rfl
theorem a_Mo_perform_105 : dk_at b_Mo_perform 105 t_Mo_perform_105 := dk_go 1 a_Mo_perform_104 rfl
theorem a_Mo_perform_108 : dk_at b_Mo_perform 108 t_Mo_perform_108 := dk_go 3 a_Mo_perform_105 rfl
theorem a_Mo_perform_109 : dk_at b_Mo_perform 109 t_Mo_perform_109 := dk_go 1 a_Mo_perform_108 rfl
theorem a_Mo_perform_112 : dk_at b_Mo_perform 112 t_Mo_perform_112 := dk_go 3 a_Mo_perform_109 rfl
theorem a_Mo_perform_115 : dk_at b_Mo_perform 115 t_Mo_perform_115 := dk_go 3 a_Mo_perform_112 rfl
theorem a_Mo_perform_116 : dk_at b_Mo_perform 116 t_Mo_perform_116 := dk_go 1 a_Mo_perform_115 rfl
theorem a_Mo_perform_117 : dk_at b_Mo_perform 117 t_Mo_perform_117 := dk_go 1 a_Mo_perform_116 rfl
theorem a_Mo_perform_119 : dk_at b_Mo_perform 119 t_Mo_perform_119 := dk_go 2 a_Mo_perform_117 rfl
theorem a_Mo_perform_122 : dk_at b_Mo_perform 122 t_Mo_perform_122 := dk_go 3 a_Mo_perform_119 rfl
theorem a_Mo_perform_123 : dk_at b_Mo_perform 123 t_Mo_perform_123 := dk_go 1 a_Mo_perform_122 rfl
theorem a_Mo_perform_124 : dk_at b_Mo_perform 124 t_Mo_perform_124 := dk_go 1 a_Mo_perform_123 rfl
theorem a_Mo_perform_125 : dk_at b_Mo_perform 125 t_Mo_perform_125 := dk_go 1 a_Mo_perform_124 rfl
theorem a_Mo_perform_126 : dk_at b_Mo_perform 126 t_Mo_perform_126 := dk_go 1 a_Mo_perform_125 rfl
theorem a_Mo_perform_129 : dk_at b_Mo_perform 129 t_Mo_perform_129 := dk_go 3 a_Mo_perform_126 rfl
theorem a_Mo_perform_130 : dk_at b_Mo_perform 130 t_Mo_perform_130 := dk_go 1 a_Mo_perform_129 rfl
theorem a_Mo_perform_131 : dk_at b_Mo_perform 131 t_Mo_perform_131 := dk_go 1 a_Mo_perform_130 rfl
theorem a_Mo_perform_134 : dk_at b_Mo_perform 134 t_Mo_perform_134 := dk_go 3 a_Mo_perform_131 rfl
theorem a_Mo_perform_135 : dk_at b_Mo_perform 135 t_Mo_perform_135 := dk_go 1 a_Mo_perform_134 rfl
theorem a_Mo_perform_137 : dk_at b_Mo_perform 137 t_Mo_perform_137 := dk_go 2 a_Mo_perform_135 rfl
theorem a_Mo_perform_138 : dk_at b_Mo_perform 138 t_Mo_perform_138 := dk_go 1 a_Mo_perform_137 rfl
theorem a_Mo_perform_141 : dk_at b_Mo_perform 141 t_Mo_perform_141 := dk_go 3 a_Mo_perform_138 rfl
theorem a_Mo_perform_142 : dk_at b_Mo_perform 142 t_Mo_perform_142 := dk_go 1 a_Mo_perform_141 rfl
theorem a_Mo_perform_143 : dk_at b_Mo_perform 143 t_Mo_perform_143 := dk_go 1 a_Mo_perform_142 rfl
theorem a_Mo_perform_144 : dk_at b_Mo_perform 144 t_Mo_perform_144 := dk_go 1 a_Mo_perform_143 rfl
theorem a_Mo_perform_147 : dk_at b_Mo_perform 147 t_Mo_perform_147 := dk_go 3 a_Mo_perform_144 rfl
theorem a_Mo_perform_149 : dk_at b_Mo_perform 149 t_Mo_perform_149 := dk_go 2 a_Mo_perform_147 rfl
theorem a_Mo_perform_151 : dk_at b_Mo_perform 151 t_Mo_perform_151 := dk_go 2 a_Mo_perform_149 rfl
theorem a_Mo_perform_152 : dk_at b_Mo_perform 152 t_Mo_perform_152 := dk_go 1 a_Mo_perform_151 rfl
theorem a_Mo_perform_155 : dk_at b_Mo_perform 155 t_Mo_perform_155 := dk_go 3 a_Mo_perform_152 rfl
theorem a_Mo_perform_156 : dk_at b_Mo_perform 156 t_Mo_perform_156 := dk_go 1 a_Mo_perform_155 rfl
theorem a_Mo_perform_157 : dk_at b_Mo_perform 157 t_Mo_perform_157 := dk_go 1 a_Mo_perform_156 rfl
theorem a_Mo_perform_158 : dk_at b_Mo_perform 158 t_Mo_perform_158 := dk_go 1 a_Mo_perform_157 rfl
theorem a_Mo_perform_160 : dk_at b_Mo_perform 160 t_Mo_perform_160 := dk_go 2 a_Mo_perform_158 rfl
theorem a_Mo_perform_163 : dk_at b_Mo_perform 163 t_Mo_perform_163 := dk_go 3 a_Mo_perform_160 rfl
theorem a_Mo_perform_164 : dk_at b_Mo_perform 164 t_Mo_perform_164 := dk_go 1 a_Mo_perform_163 rfl
theorem a_Mo_perform_165 : dk_at b_Mo_perform 165 t_Mo_perform_165 := dk_go 1 a_Mo_perform_164 rfl
theorem a_Mo_perform_167 : dk_at b_Mo_perform 167 t_Mo_perform_167 := dk_go 2 a_Mo_perform_165 rfl
theorem a_Mo_perform_168 : dk_at b_Mo_perform 168 t_Mo_perform_168 := dk_go 1 a_Mo_perform_167 rfl
theorem a_Mo_perform_171 : dk_at b_Mo_perform 171 t_Mo_perform_171 := dk_go 3 a_Mo_perform_168 rfl
theorem a_Mo_perform_172 : dk_at b_Mo_perform 172 t_Mo_perform_172 := dk_go 1 a_Mo_perform_171 rfl
theorem a_Mo_perform_173 : dk_at b_Mo_perform 173 t_Mo_perform_173 := dk_go 1 a_Mo_perform_172 rfl
theorem a_Mo_perform_176 : dk_at b_Mo_perform 176 t_Mo_perform_176 := dk_go 3 a_Mo_perform_173 rfl
theorem a_Mo_perform_177 : dk_at b_Mo_perform 177 t_Mo_perform_177 := dk_go 1 a_Mo_perform_176 rfl
theorem a_Mo_perform_180 : dk_at b_Mo_perform 180 t_Mo_perform_180 := dk_go 3 a_Mo_perform_177 rfl
theorem a_Mo_perform_181 : dk_at b_Mo_perform 181 t_Mo_perform_181 := dk_go 1 a_Mo_perform_180 rfl
theorem a_Mo_perform_182 : dk_at b_Mo_perform 182 t_Mo_perform_182 := dk_go 1 a_Mo_perform_181 rfl
theorem a_Mo_perform_183 : dk_at b_Mo_perform 183 t_Mo_perform_183 := dk_go 1 a_Mo_perform_182 rfl
theorem a_Mo_perform_186 : dk_at b_Mo_perform 186 t_Mo_perform_186 := dk_go 3 a_Mo_perform_183 rfl
theorem a_Mo_perform_187 : dk_at b_Mo_perform 187 t_Mo_perform_187 := dk_go 1 a_Mo_perform_186 rfl
theorem a_Mo_perform_188 : dk_at b_Mo_perform 188 t_Mo_perform_188 := dk_go 1 a_Mo_perform_187 rfl
theorem a_Mo_perform_190 : dk_at b_Mo_perform 190 t_Mo_perform_190 := dk_go 2 a_Mo_perform_188 rfl
theorem a_Mo_perform_191 : dk_at b_Mo_perform 191 t_Mo_perform_191 := dk_go 1 a_Mo_perform_190 rfl
theorem a_Mo_perform_194 : dk_at b_Mo_perform 194 t_Mo_perform_194 := dk_go 3 a_Mo_perform_191 rfl
theorem a_Mo_perform_195 : dk_at b_Mo_perform 195 t_Mo_perform_195 := dk_go 1 a_Mo_perform_194 rfl
theorem a_Mo_perform_196 : dk_at b_Mo_perform 196 t_Mo_perform_196 := dk_go 1 a_Mo_perform_195 rfl
theorem a_Mo_perform_197 : dk_at b_Mo_perform 197 t_Mo_perform_197 := dk_go 1 a_Mo_perform_196 rfl
theorem a_Mo_perform_198 : dk_at b_Mo_perform 198 t_Mo_perform_198 := dk_go 1 a_Mo_perform_197 rfl
theorem a_Mo_perform_201 : dk_at b_Mo_perform 201 t_Mo_perform_201 := dk_go 3 a_Mo_perform_198 rfl
theorem a_Mo_perform_202 : dk_at b_Mo_perform 202 t_Mo_perform_202 := dk_go 1 a_Mo_perform_201 rfl
theorem a_Mo_perform_205 : dk_at b_Mo_perform 205 t_Mo_perform_205 := dk_go 3 a_Mo_perform_202 rfl
theorem a_Mo_perform_208 : dk_at b_Mo_perform 208 t_Mo_perform_208 := dk_go 3 a_Mo_perform_205 rfl
theorem a_Mo_perform_209 : dk_at b_Mo_perform 209 t_Mo_perform_209 := dk_go 1 a_Mo_perform_208 rfl
theorem a_Mo_perform_212 : dk_at b_Mo_perform 212 t_Mo_perform_212 := dk_go 3 a_Mo_perform_209 rfl
theorem a_Mo_perform_213 : dk_at b_Mo_perform 213 t_Mo_perform_213 := dk_go 1 a_Mo_perform_212 rfl
theorem a_Mo_perform_215 : dk_at b_Mo_perform 215 t_Mo_perform_215 := dk_go 2 a_Mo_perform_213 rfl
theorem a_Mo_perform_216 : dk_at b_Mo_perform 216 t_Mo_perform_216 := dk_go 1 a_Mo_perform_215 rfl
theorem a_Mo_perform_218 : dk_at b_Mo_perform 218 t_Mo_perform_218 := dk_go 2 a_Mo_perform_216 rfl
theorem a_Mo_perform_219 : dk_at b_Mo_perform 219 t_Mo_perform_219 := dk_go 1 a_Mo_perform_218 rfl
theorem a_Mo_perform_220 : dk_at b_Mo_perform 220 t_Mo_perform_220 := dk_go 1 a_Mo_perform_219 rfl
theorem a_Mo_perform_221 : dk_at b_Mo_perform 221 t_Mo_perform_221 := dk_go 1 a_Mo_perform_220 rfl
theorem a_Mo_perform_222 : dk_at b_Mo_perform 222 t_Mo_perform_222 := dk_go 1 a_Mo_perform_221 rfl
theorem a_Mo_perform_223 : dk_at b_Mo_perform 223 t_Mo_perform_223 := dk_go 1 a_Mo_perform_222 rfl
theorem a_Mo_perform_226 : dk_at b_Mo_perform 226 t_Mo_perform_226 := dk_go 3 a_Mo_perform_223 rfl
theorem a_Mo_perform_229 : dk_at b_Mo_perform 229 t_Mo_perform_229 := dk_go 3 a_Mo_perform_226 rfl
theorem a_Mo_perform_231 : dk_at b_Mo_perform 231 t_Mo_perform_231 := dk_go 2 a_Mo_perform_229 rfl
theorem a_Mo_perform_232 : dk_at b_Mo_perform 232 t_Mo_perform_232 := dk_go 1 a_Mo_perform_231 rfl
theorem a_Mo_perform_235 : dk_at b_Mo_perform 235 t_Mo_perform_235 := dk_go 3 a_Mo_perform_232 rfl
theorem a_Mo_perform_236 : dk_at b_Mo_perform 236 t_Mo_perform_236 := dk_go 1 a_Mo_perform_235 rfl
theorem a_Mo_perform_237 : dk_at b_Mo_perform 237 t_Mo_perform_237 := dk_go 1 a_Mo_perform_236 rfl
theorem a_Mo_perform_240 : dk_at b_Mo_perform 240 t_Mo_perform_240 := dk_go 3 a_Mo_perform_237 rfl
theorem a_Mo_perform_243 : dk_at b_Mo_perform 243 t_Mo_perform_243 := dk_go 3 a_Mo_perform_240 rfl
theorem a_Mo_perform_244 : dk_at b_Mo_perform 244 t_Mo_perform_244 := dk_go 1 a_Mo_perform_243 rfl
theorem a_Mo_perform_245 : dk_at b_Mo_perform 245 t_Mo_perform_245 := dk_go 1 a_Mo_perform_244 rfl
theorem a_Mo_perform_247 : dk_at b_Mo_perform 247 t_Mo_perform_247 := dk_go 2 a_Mo_perform_245 rfl
theorem a_Mo_perform_248 : dk_at b_Mo_perform 248 t_Mo_perform_248 := dk_go 1 a_Mo_perform_247 rfl
theorem a_Mo_perform_251 : dk_at b_Mo_perform 251 t_Mo_perform_251 := dk_go 3 a_Mo_perform_248 rfl
theorem a_Mo_perform_252 : dk_at b_Mo_perform 252 t_Mo_perform_252 := dk_go 1 a_Mo_perform_251 rfl
theorem a_Mo_perform_255 : dk_at b_Mo_perform 255 t_Mo_perform_255 := dk_go 3 a_Mo_perform_252 rfl
theorem a_Mo_perform_257 : dk_at b_Mo_perform 257 t_Mo_perform_257 := dk_go 2 a_Mo_perform_255 rfl
theorem a_Mo_perform_258 : dk_at b_Mo_perform 258 t_Mo_perform_258 := dk_go 1 a_Mo_perform_257 rfl
theorem a_Mo_perform_259 : dk_at b_Mo_perform 259 t_Mo_perform_259 := dk_go 1 a_Mo_perform_258 rfl
theorem a_Mo_perform_260 : dk_at b_Mo_perform 260 t_Mo_perform_260 := dk_go 1 a_Mo_perform_259 rfl
theorem a_Mo_perform_261 : dk_at b_Mo_perform 261 t_Mo_perform_261 := dk_go 1 a_Mo_perform_260 rfl
theorem a_Mo_perform_262 : dk_at b_Mo_perform 262 t_Mo_perform_262 := dk_go 1 a_Mo_perform_261 rfl
theorem a_Mo_perform_265 : dk_at b_Mo_perform 265 t_Mo_perform_265 := dk_go 3 a_Mo_perform_262 rfl
theorem a_Mo_perform_266 : dk_at b_Mo_perform 266 t_Mo_perform_266 := dk_go 1 a_Mo_perform_265 rfl
theorem a_Mo_perform_267 : dk_at b_Mo_perform 267 t_Mo_perform_267 := dk_go 1 a_Mo_perform_266 rfl
theorem a_Mo_perform_268 : dk_at b_Mo_perform 268 t_Mo_perform_268 := dk_go 1 a_Mo_perform_267 rfl
theorem a_Mo_perform_269 : dk_at b_Mo_perform 269 t_Mo_perform_269 := dk_go 1 a_Mo_perform_268 rfl
theorem a_Mo_perform_270 : dk_at b_Mo_perform 270 t_Mo_perform_270 := dk_go 1 a_Mo_perform_269 rfl
theorem a_Mo_perform_273 : dk_at b_Mo_perform 273 t_Mo_perform_273 := dk_go 3 a_Mo_perform_270 rfl
theorem a_Mo_perform_276 : dk_at b_Mo_perform 276 t_Mo_perform_276 := dk_go 3 a_Mo_perform_273 rfl
theorem a_Mo_perform_277 : dk_at b_Mo_perform 277 t_Mo_perform_277 := dk_go 1 a_Mo_perform_276 rfl
theorem a_Mo_perform_280 : dk_at b_Mo_perform 280 t_Mo_perform_280 := dk_go 3 a_Mo_perform_277 rfl
theorem a_Mo_perform_281 : dk_at b_Mo_perform 281 t_Mo_perform_281 := dk_go 1 a_Mo_perform_280 rfl
theorem a_Mo_perform_282 : dk_at b_Mo_perform 282 t_Mo_perform_282 := dk_go 1 a_Mo_perform_281 rfl
theorem a_Mo_perform_283 : dk_at b_Mo_perform 283 t_Mo_perform_283 := dk_go 1 a_Mo_perform_282 rfl
theorem a_Mo_perform_284 : dk_at b_Mo_perform 284 t_Mo_perform_284 := dk_go 1 a_Mo_perform_283 rfl
theorem a_Mo_perform_287 : dk_at b_Mo_perform 287 t_Mo_perform_287 := dk_go 3 a_Mo_perform_284 rfl
theorem a_Mo_perform_288 : dk_at b_Mo_perform 288 t_Mo_perform_288 := dk_go 1 a_Mo_perform_287 rfl
theorem a_Mo_perform_289 : dk_at b_Mo_perform 289 t_Mo_perform_289 := dk_go 1 a_Mo_perform_288 rfl
theorem a_Mo_perform_290 : dk_at b_Mo_perform 290 t_Mo_perform_290 := dk_go 1 a_Mo_perform_289 rfl
theorem a_Mo_perform_293 : dk_at b_Mo_perform 293 t_Mo_perform_293 := dk_go 3 a_Mo_perform_290 rfl
theorem a_Mo_perform_294 : dk_at b_Mo_perform 294 t_Mo_perform_294 := dk_go 1 a_Mo_perform_293 rfl
theorem a_Mo_perform_296 : dk_at b_Mo_perform 296 t_Mo_perform_296 := dk_go 2 a_Mo_perform_294 rfl
theorem a_Mo_perform_298 : dk_at b_Mo_perform 298 t_Mo_perform_298 := dk_go 2 a_Mo_perform_296 rfl
theorem a_Mo_perform_301 : dk_at b_Mo_perform 301 t_Mo_perform_301 := dk_go 3 a_Mo_perform_298 rfl
theorem a_Mo_perform_304 : dk_at b_Mo_perform 304 t_Mo_perform_304 := dk_go 3 a_Mo_perform_301 rfl
theorem a_Mo_perform_305 : dk_at b_Mo_perform 305 t_Mo_perform_305 := dk_go 1 a_Mo_perform_304 rfl
theorem a_Mo_perform_308 : dk_at b_Mo_perform 308 t_Mo_perform_308 := dk_go 3 a_Mo_perform_305 rfl
theorem a_Mo_perform_311 : dk_at b_Mo_perform 311 t_Mo_perform_311 := dk_go 3 a_Mo_perform_308 rfl
theorem a_Mo_perform_312 : dk_at b_Mo_perform 312 t_Mo_perform_312 := dk_go 1 a_Mo_perform_311 rfl
theorem a_Mo_perform_313 : dk_at b_Mo_perform 313 t_Mo_perform_313 := dk_go 1 a_Mo_perform_312 rfl
theorem a_Mo_perform_316 : dk_at b_Mo_perform 316 t_Mo_perform_316 := dk_go 3 a_Mo_perform_313 rfl
theorem a_Mo_perform_317 : dk_at b_Mo_perform 317 t_Mo_perform_317 := dk_go 1 a_Mo_perform_316 rfl
theorem a_Mo_perform_318 : dk_at b_Mo_perform 318 t_Mo_perform_318 := dk_go 1 a_Mo_perform_317 rfl
theorem a_Mo_perform_320 : dk_at b_Mo_perform 320 t_Mo_perform_320 := dk_go 2 a_Mo_perform_318 rfl
theorem a_Mo_perform_321 : dk_at b_Mo_perform 321 t_Mo_perform_321 := dk_go 1 a_Mo_perform_320 rfl
theorem a_Mo_perform_322 : dk_at b_Mo_perform 322 t_Mo_perform_322 := dk_go 1 a_Mo_perform_321 rfl
theorem a_Mo_perform_323 : dk_at b_Mo_perform 323 t_Mo_perform_323 := dk_go 1 a_Mo_perform_322 rfl
theorem a_Mo_perform_326 : dk_at b_Mo_perform 326 t_Mo_perform_326 := dk_go 3 a_Mo_perform_323 rfl
theorem a_Mo_perform_329 : dk_at b_Mo_perform 329 t_Mo_perform_329 := dk_go 3 a_Mo_perform_326 rfl
theorem a_Mo_perform_330 : dk_at b_Mo_perform 330 t_Mo_perform_330 := dk_go 1 a_Mo_perform_329 rfl
theorem d_Mo_perform_0 : decode b_Mo_perform 0 = .ok (.aload_n 0, 1) := dk_0 a_Mo_perform_0 (dko_42 _)
theorem d_Mo_perform_1 : decode b_Mo_perform 1 = .ok (.getfield 135, 3) := dk_U2 a_Mo_perform_1 (dko_180 _) rfl
theorem d_Mo_perform_4 : decode b_Mo_perform 4 = .ok (.iload_n 1, 1) := dk_0 a_Mo_perform_4 (dko_27 _)
theorem d_Mo_perform_5 : decode b_Mo_perform 5 = .ok (.iaload, 1) := dk_0 a_Mo_perform_5 (dko_46 _)
theorem d_Mo_perform_6 : decode b_Mo_perform 6 = .ok (.istore_n 2, 1) := dk_0 a_Mo_perform_6 (dko_61 _)
theorem d_Mo_perform_7 : decode b_Mo_perform 7 = .ok (.aload_n 0, 1) := dk_0 a_Mo_perform_7 (dko_42 _)
theorem d_Mo_perform_8 : decode b_Mo_perform 8 = .ok (.getfield 138, 3) := dk_U2 a_Mo_perform_8 (dko_180 _) rfl
theorem d_Mo_perform_11 : decode b_Mo_perform 11 = .ok (.iload_n 1, 1) := dk_0 a_Mo_perform_11 (dko_27 _)
theorem d_Mo_perform_12 : decode b_Mo_perform 12 = .ok (.iaload, 1) := dk_0 a_Mo_perform_12 (dko_46 _)
theorem d_Mo_perform_13 : decode b_Mo_perform 13 = .ok (.istore_n 3, 1) := dk_0 a_Mo_perform_13 (dko_62 _)
theorem d_Mo_perform_14 : decode b_Mo_perform 14 = .ok (.aload_n 0, 1) := dk_0 a_Mo_perform_14 (dko_42 _)
theorem d_Mo_perform_15 : decode b_Mo_perform 15 = .ok (.getfield 132, 3) := dk_U2 a_Mo_perform_15 (dko_180 _) rfl
theorem d_Mo_perform_18 : decode b_Mo_perform 18 = .ok (.iload_n 1, 1) := dk_0 a_Mo_perform_18 (dko_27 _)
theorem d_Mo_perform_19 : decode b_Mo_perform 19 = .ok (.iaload, 1) := dk_0 a_Mo_perform_19 (dko_46 _)
theorem d_Mo_perform_20 : decode b_Mo_perform 20 = .ok (.istore 4, 2) := dk_U1 a_Mo_perform_20 (dko_54 _) rfl
theorem d_Mo_perform_22 : decode b_Mo_perform 22 = .ok (.iload 4, 2) := dk_U1 a_Mo_perform_22 (dko_21 _) rfl
theorem d_Mo_perform_24 : decode b_Mo_perform 24 = .ok (.ifCond .eq 9, 3) := dk_S2 a_Mo_perform_24 (dko_153 _) (by decide +kernel)
theorem d_Mo_perform_27 : decode b_Mo_perform 27 = .ok (.iload 4, 2) := dk_U1 a_Mo_perform_27 (dko_21 _) rfl
theorem d_Mo_perform_29 : decode b_Mo_perform 29 = .ok (.iconst 1, 1) := dk_0 a_Mo_perform_29 (dko_4 _)
theorem d_Mo_perform_30 : decode b_Mo_perform 30 = .ok (.if_icmp .ne 32, 3) := dk_S2 a_Mo_perform_30 (dko_160 _) (by decide +kernel)
theorem d_Mo_perform_33 : decode b_Mo_perform 33 = .ok (.aload_n 0, 1) := dk_0 a_Mo_perform_33 (dko_42 _)
theorem d_Mo_perform_34 : decode b_Mo_perform 34 = .ok (.iload_n 2, 1) := dk_0 a_Mo_perform_34 (dko_28 _)
theorem d_Mo_perform_35 : decode b_Mo_perform 35 = .ok (.invokevirtual 317, 3) := dk_U2 a_Mo_perform_35 (dko_182 _) rfl
theorem d_Mo_perform_38 : decode b_Mo_perform 38 = .ok (.ifCond .eq 20, 3) := dk_S2 a_Mo_perform_38 (dko_153 _) (by decide +kernel)
theorem d_Mo_perform_41 : decode b_Mo_perform 41 = .ok (.aload_n 0, 1) := dk_0 a_Mo_perform_41 (dko_42 _)
theorem d_Mo_perform_42 : decode b_Mo_perform 42 = .ok (.iload_n 3, 1) := dk_0 a_Mo_perform_42 (dko_29 _)
theorem d_Mo_perform_43 : decode b_Mo_perform 43 = .ok (.invokevirtual 317, 3) := dk_U2 a_Mo_perform_43 (dko_182 _) rfl
theorem d_Mo_perform_46 : decode b_Mo_perform 46 = .ok (.ifCond .eq 12, 3) := dk_S2 a_Mo_perform_46 (dko_153 _) (by decide +kernel)
theorem d_Mo_perform_49 : decode b_Mo_perform 49 = .ok (.iload_n 2, 1) := dk_0 a_Mo_perform_49 (dko_28 _)
theorem d_Mo_perform_50 : decode b_Mo_perform 50 = .ok (.iload_n 3, 1) := dk_0 a_Mo_perform_50 (dko_29 _)
theorem d_Mo_perform_51 : decode b_Mo_perform 51 = .ok (.if_icmp .eq 7, 3) := dk_S2 a_Mo_perform_51 (dko_159 _) (by decide +kernel)
theorem d_Mo_perform_54 : decode b_Mo_perform 54 = .ok (.iconst 1, 1) := dk_0 a_Mo_perform_54 (dko_4 _)
theorem d_Mo_perform_55 : decode b_Mo_perform 55 = .ok (.goto 40, 3) := dk_S2 a_Mo_perform_55 (dko_167 _) (by decide +kernel)
theorem d_Mo_perform_58 : decode b_Mo_perform 58 = .ok (.iconst 0, 1) := dk_0 a_Mo_perform_58 (dko_3 _)
theorem d_Mo_perform_59 : decode b_Mo_perform 59 = .ok (.goto 36, 3) := dk_S2 a_Mo_perform_59 (dko_167 _) (by decide +kernel)
theorem d_Mo_perform_62 : decode b_Mo_perform 62 = .ok (.iload 4, 2) := dk_U1 a_Mo_perform_62 (dko_21 _) rfl
theorem d_Mo_perform_64 : decode b_Mo_perform 64 = .ok (.iconst 2, 1) := dk_0 a_Mo_perform_64 (dko_5 _)
theorem d_Mo_perform_65 : decode b_Mo_perform 65 = .ok (.if_icmp .ne 11, 3) := dk_S2 a_Mo_perform_65 (dko_160 _) (by decide +kernel)
theorem d_Mo_perform_68 : decode b_Mo_perform 68 = .ok (.aload_n 0, 1) := dk_0 a_Mo_perform_68 (dko_42 _)
theorem d_Mo_perform_69 : decode b_Mo_perform 69 = .ok (.iload_n 2, 1) := dk_0 a_Mo_perform_69 (dko_28 _)
theorem d_Mo_perform_70 : decode b_Mo_perform 70 = .ok (.invokevirtual 412, 3) := dk_U2 a_Mo_perform_70 (dko_182 _) rfl
theorem d_Mo_perform_73 : decode b_Mo_perform 73 = .ok (.goto 22, 3) := dk_S2 a_Mo_perform_73 (dko_167 _) (by decide +kernel)
theorem d_Mo_perform_76 : decode b_Mo_perform 76 = .ok (.iload 4, 2) := dk_U1 a_Mo_perform_76 (dko_21 _) rfl
theorem d_Mo_perform_78 : decode b_Mo_perform 78 = .ok (.iconst (-1), 1) := dk_0 a_Mo_perform_78 (dko_2 _)
theorem d_Mo_perform_79 : decode b_Mo_perform 79 = .ok (.if_icmp .eq 15, 3) := dk_S2 a_Mo_perform_79 (dko_159 _) (by decide +kernel)
theorem d_Mo_perform_82 : decode b_Mo_perform 82 = .ok (.aload_n 0, 1) := dk_0 a_Mo_perform_82 (dko_42 _)
theorem d_Mo_perform_83 : decode b_Mo_perform 83 = .ok (.iload_n 2, 1) := dk_0 a_Mo_perform_83 (dko_28 _)
theorem d_Mo_perform_84 : decode b_Mo_perform 84 = .ok (.invokevirtual 415, 3) := dk_U2 a_Mo_perform_84 (dko_182 _) rfl
theorem d_Mo_perform_87 : decode b_Mo_perform 87 = .ok (.ifCond .eq 7, 3) := dk_S2 a_Mo_perform_87 (dko_153 _) (by decide +kernel)
theorem d_Mo_perform_90 : decode b_Mo_perform 90 = .ok (.iconst 1, 1) := dk_0 a_Mo_perform_90 (dko_4 _)
theorem d_Mo_perform_91 : decode b_Mo_perform 91 = .ok (.goto 4, 3) := dk_S2 a_Mo_perform_91 (dko_167 _) (by decide +kernel)
theorem d_Mo_perform_94 : decode b_Mo_perform 94 = .ok (.iconst 0, 1) := dk_0 a_Mo_perform_94 (dko_3 _)
theorem d_Mo_perform_95 : decode b_Mo_perform 95 = .ok (.istore 5, 2) := dk_U1 a_Mo_perform_95 (dko_54 _) rfl
theorem d_Mo_perform_97 : decode b_Mo_perform 97 = .ok (.iload 5, 2) := dk_U1 a_Mo_perform_97 (dko_21 _) rfl
theorem d_Mo_perform_99 : decode b_Mo_perform 99 = .ok (.ifCond .ne 5, 3) := dk_S2 a_Mo_perform_99 (dko_154 _) (by decide +kernel)
theorem d_Mo_perform_102 : decode b_Mo_perform 102 = .ok (.iconst 1, 1) := dk_0 a_Mo_perform_102 (dko_4 _)
theorem d_Mo_perform_103 : decode b_Mo_perform 103 = .ok (.ireturn, 1) := dk_0 a_Mo_perform_103 (dko_172 _)
theorem d_Mo_perform_104 : decode b_Mo_perform 104 = .ok (.aload_n 0, 1) := dk_0 a_Mo_perform_104 (dko_42 _)
theorem d_Mo_perform_105 : decode b_Mo_perform 105 = .ok (.getfield 23, 3) := dk_U2 a_Mo_perform_105 (dko_180 _) rfl
theorem d_Mo_perform_108 : decode b_Mo_perform 108 = .ok (.iload_n 1, 1) := dk_0 a_Mo_perform_108 (dko_27 _)
theorem d_Mo_perform_109 : decode b_Mo_perform 109 = .ok (.invokevirtual 424, 3) := dk_U2 a_Mo_perform_109 (dko_182 _) rfl
theorem d_Mo_perform_112 : decode b_Mo_perform 112 = .ok (.ifCond .le 5, 3) := dk_S2 a_Mo_perform_112 (dko_158 _) (by decide +kernel)
theorem d_Mo_perform_115 : decode b_Mo_perform 115 = .ok (.iconst 2, 1) := dk_0 a_Mo_perform_115 (dko_5 _)
theorem d_Mo_perform_116 : decode b_Mo_perform 116 = .ok (.ireturn, 1) := dk_0 a_Mo_perform_116 (dko_172 _)
theorem d_Mo_perform_117 : decode b_Mo_perform 117 = .ok (.iload 4, 2) := dk_U1 a_Mo_perform_117 (dko_21 _) rfl
theorem d_Mo_perform_119 : decode b_Mo_perform 119 = .ok (.ifCond .ne 16, 3) := dk_S2 a_Mo_perform_119 (dko_154 _) (by decide +kernel)
theorem d_Mo_perform_122 : decode b_Mo_perform 122 = .ok (.aload_n 0, 1) := dk_0 a_Mo_perform_122 (dko_42 _)
theorem d_Mo_perform_123 : decode b_Mo_perform 123 = .ok (.iload_n 2, 1) := dk_0 a_Mo_perform_123 (dko_28 _)
theorem d_Mo_perform_124 : decode b_Mo_perform 124 = .ok (.iload_n 3, 1) := dk_0 a_Mo_perform_124 (dko_29 _)
theorem d_Mo_perform_125 : decode b_Mo_perform 125 = .ok (.aload_n 0, 1) := dk_0 a_Mo_perform_125 (dko_42 _)
theorem d_Mo_perform_126 : decode b_Mo_perform 126 = .ok (.getfield 141, 3) := dk_U2 a_Mo_perform_126 (dko_180 _) rfl
theorem d_Mo_perform_129 : decode b_Mo_perform 129 = .ok (.iload_n 1, 1) := dk_0 a_Mo_perform_129 (dko_27 _)
theorem d_Mo_perform_130 : decode b_Mo_perform 130 = .ok (.iaload, 1) := dk_0 a_Mo_perform_130 (dko_46 _)
theorem d_Mo_perform_131 : decode b_Mo_perform 131 = .ok (.invokevirtual 427, 3) := dk_U2 a_Mo_perform_131 (dko_182 _) rfl
theorem d_Mo_perform_134 : decode b_Mo_perform 134 = .ok (.ireturn, 1) := dk_0 a_Mo_perform_134 (dko_172 _)
theorem d_Mo_perform_135 : decode b_Mo_perform 135 = .ok (.iload 4, 2) := dk_U1 a_Mo_perform_135 (dko_21 _) rfl
theorem d_Mo_perform_137 : decode b_Mo_perform 137 = .ok (.iconst 1, 1) := dk_0 a_Mo_perform_137 (dko_4 _)
theorem d_Mo_perform_138 : decode b_Mo_perform 138 = .ok (.if_icmp .ne 27, 3) := dk_S2 a_Mo_perform_138 (dko_160 _) (by decide +kernel)
theorem d_Mo_perform_141 : decode b_Mo_perform 141 = .ok (.aload_n 0, 1) := dk_0 a_Mo_perform_141 (dko_42 _)
theorem d_Mo_perform_142 : decode b_Mo_perform 142 = .ok (.iload_n 2, 1) := dk_0 a_Mo_perform_142 (dko_28 _)
theorem d_Mo_perform_143 : decode b_Mo_perform 143 = .ok (.iload_n 3, 1) := dk_0 a_Mo_perform_143 (dko_29 _)
theorem d_Mo_perform_144 : decode b_Mo_perform 144 = .ok (.invokevirtual 394, 3) := dk_U2 a_Mo_perform_144 (dko_182 _) rfl
theorem d_Mo_perform_147 : decode b_Mo_perform 147 = .ok (.istore 6, 2) := dk_U1 a_Mo_perform_147 (dko_54 _) rfl
theorem d_Mo_perform_149 : decode b_Mo_perform 149 = .ok (.iload 6, 2) := dk_U1 a_Mo_perform_149 (dko_21 _) rfl
theorem d_Mo_perform_151 : decode b_Mo_perform 151 = .ok (.iconst (-1), 1) := dk_0 a_Mo_perform_151 (dko_2 _)
theorem d_Mo_perform_152 : decode b_Mo_perform 152 = .ok (.if_icmp .ne 5, 3) := dk_S2 a_Mo_perform_152 (dko_160 _) (by decide +kernel)
theorem d_Mo_perform_155 : decode b_Mo_perform 155 = .ok (.iconst 3, 1) := dk_0 a_Mo_perform_155 (dko_6 _)
theorem d_Mo_perform_156 : decode b_Mo_perform 156 = .ok (.ireturn, 1) := dk_0 a_Mo_perform_156 (dko_172 _)
theorem d_Mo_perform_157 : decode b_Mo_perform 157 = .ok (.aload_n 0, 1) := dk_0 a_Mo_perform_157 (dko_42 _)
theorem d_Mo_perform_158 : decode b_Mo_perform 158 = .ok (.iload 6, 2) := dk_U1 a_Mo_perform_158 (dko_21 _) rfl
theorem d_Mo_perform_160 : decode b_Mo_perform 160 = .ok (.invokevirtual 403, 3) := dk_U2 a_Mo_perform_160 (dko_182 _) rfl
theorem d_Mo_perform_163 : decode b_Mo_perform 163 = .ok (.iconst 0, 1) := dk_0 a_Mo_perform_163 (dko_3 _)
theorem d_Mo_perform_164 : decode b_Mo_perform 164 = .ok (.ireturn, 1) := dk_0 a_Mo_perform_164 (dko_172 _)
theorem d_Mo_perform_165 : decode b_Mo_perform 165 = .ok (.iload 4, 2) := dk_U1 a_Mo_perform_165 (dko_21 _) rfl
theorem d_Mo_perform_167 : decode b_Mo_perform 167 = .ok (.iconst 2, 1) := dk_0 a_Mo_perform_167 (dko_5 _)
theorem d_Mo_perform_168 : decode b_Mo_perform 168 = .ok (.if_icmp .ne 53, 3) := dk_S2 a_Mo_perform_168 (dko_160 _) (by decide +kernel)
theorem d_Mo_perform_171 : decode b_Mo_perform 171 = .ok (.aload_n 0, 1) := dk_0 a_Mo_perform_171 (dko_42 _)
theorem d_Mo_perform_172 : decode b_Mo_perform 172 = .ok (.iload_n 2, 1) := dk_0 a_Mo_perform_172 (dko_28 _)
theorem d_Mo_perform_173 : decode b_Mo_perform 173 = .ok (.invokevirtual 377, 3) := dk_U2 a_Mo_perform_173 (dko_182 _) rfl
theorem d_Mo_perform_176 : decode b_Mo_perform 176 = .ok (.iconst (-1), 1) := dk_0 a_Mo_perform_176 (dko_2 _)
theorem d_Mo_perform_177 : decode b_Mo_perform 177 = .ok (.if_icmp .eq 5, 3) := dk_S2 a_Mo_perform_177 (dko_159 _) (by decide +kernel)
theorem d_Mo_perform_180 : decode b_Mo_perform 180 = .ok (.iconst 3, 1) := dk_0 a_Mo_perform_180 (dko_6 _)
theorem d_Mo_perform_181 : decode b_Mo_perform 181 = .ok (.ireturn, 1) := dk_0 a_Mo_perform_181 (dko_172 _)
theorem d_Mo_perform_182 : decode b_Mo_perform 182 = .ok (.aload_n 0, 1) := dk_0 a_Mo_perform_182 (dko_42 _)
theorem d_Mo_perform_183 : decode b_Mo_perform 183 = .ok (.getfield 40, 3) := dk_U2 a_Mo_perform_183 (dko_180 _) rfl
theorem d_Mo_perform_186 : decode b_Mo_perform 186 = .ok (.iload_n 2, 1) := dk_0 a_Mo_perform_186 (dko_28 _)
theorem d_Mo_perform_187 : decode b_Mo_perform 187 = .ok (.iaload, 1) := dk_0 a_Mo_perform_187 (dko_46 _)
theorem d_Mo_perform_188 : decode b_Mo_perform 188 = .ok (.istore 6, 2) := dk_U1 a_Mo_perform_188 (dko_54 _) rfl
theorem d_Mo_perform_190 : decode b_Mo_perform 190 = .ok (.aload_n 0, 1) := dk_0 a_Mo_perform_190 (dko_42 _)
theorem d_Mo_perform_191 : decode b_Mo_perform 191 = .ok (.getfield 40, 3) := dk_U2 a_Mo_perform_191 (dko_180 _) rfl
theorem d_Mo_perform_194 : decode b_Mo_perform 194 = .ok (.iload_n 2, 1) := dk_0 a_Mo_perform_194 (dko_28 _)
theorem d_Mo_perform_195 : decode b_Mo_perform 195 = .ok (.iload_n 3, 1) := dk_0 a_Mo_perform_195 (dko_29 _)
theorem d_Mo_perform_196 : decode b_Mo_perform 196 = .ok (.iastore, 1) := dk_0 a_Mo_perform_196 (dko_79 _)
theorem d_Mo_perform_197 : decode b_Mo_perform 197 = .ok (.aload_n 0, 1) := dk_0 a_Mo_perform_197 (dko_42 _)
theorem d_Mo_perform_198 : decode b_Mo_perform 198 = .ok (.invokevirtual 366, 3) := dk_U2 a_Mo_perform_198 (dko_182 _) rfl
theorem d_Mo_perform_201 : decode b_Mo_perform 201 = .ok (.aload_n 0, 1) := dk_0 a_Mo_perform_201 (dko_42 _)
theorem d_Mo_perform_202 : decode b_Mo_perform 202 = .ok (.invokevirtual 369, 3) := dk_U2 a_Mo_perform_202 (dko_182 _) rfl
theorem d_Mo_perform_205 : decode b_Mo_perform 205 = .ok (.ifCond .ne 14, 3) := dk_S2 a_Mo_perform_205 (dko_154 _) (by decide +kernel)
theorem d_Mo_perform_208 : decode b_Mo_perform 208 = .ok (.aload_n 0, 1) := dk_0 a_Mo_perform_208 (dko_42 _)
theorem d_Mo_perform_209 : decode b_Mo_perform 209 = .ok (.getfield 40, 3) := dk_U2 a_Mo_perform_209 (dko_180 _) rfl
theorem d_Mo_perform_212 : decode b_Mo_perform 212 = .ok (.iload_n 2, 1) := dk_0 a_Mo_perform_212 (dko_28 _)
theorem d_Mo_perform_213 : decode b_Mo_perform 213 = .ok (.iload 6, 2) := dk_U1 a_Mo_perform_213 (dko_21 _) rfl
theorem d_Mo_perform_215 : decode b_Mo_perform 215 = .ok (.iastore, 1) := dk_0 a_Mo_perform_215 (dko_79 _)
theorem d_Mo_perform_216 : decode b_Mo_perform 216 = .ok (.bipush 7, 2) := dk_S1 a_Mo_perform_216 (dko_16 _) (by decide +kernel)
theorem d_Mo_perform_218 : decode b_Mo_perform 218 = .ok (.ireturn, 1) := dk_0 a_Mo_perform_218 (dko_172 _)
theorem d_Mo_perform_219 : decode b_Mo_perform 219 = .ok (.iconst 0, 1) := dk_0 a_Mo_perform_219 (dko_3 _)
theorem d_Mo_perform_220 : decode b_Mo_perform 220 = .ok (.ireturn, 1) := dk_0 a_Mo_perform_220 (dko_172 _)
theorem d_Mo_perform_221 : decode b_Mo_perform 221 = .ok (.aload_n 0, 1) := dk_0 a_Mo_perform_221 (dko_42 _)
theorem d_Mo_perform_222 : decode b_Mo_perform 222 = .ok (.iload_n 2, 1) := dk_0 a_Mo_perform_222 (dko_28 _)
theorem d_Mo_perform_223 : decode b_Mo_perform 223 = .ok (.invokevirtual 430, 3) := dk_U2 a_Mo_perform_223 (dko_182 _) rfl
theorem d_Mo_perform_226 : decode b_Mo_perform 226 = .ok (.ifCond .ne 17, 3) := dk_S2 a_Mo_perform_226 (dko_154 _) (by decide +kernel)
theorem d_Mo_perform_229 : decode b_Mo_perform 229 = .ok (.iload 4, 2) := dk_U1 a_Mo_perform_229 (dko_21 _) rfl
theorem d_Mo_perform_231 : decode b_Mo_perform 231 = .ok (.iconst 3, 1) := dk_0 a_Mo_perform_231 (dko_6 _)
theorem d_Mo_perform_232 : decode b_Mo_perform 232 = .ok (.if_icmp .ne 13, 3) := dk_S2 a_Mo_perform_232 (dko_160 _) (by decide +kernel)
theorem d_Mo_perform_235 : decode b_Mo_perform 235 = .ok (.aload_n 0, 1) := dk_0 a_Mo_perform_235 (dko_42 _)
theorem d_Mo_perform_236 : decode b_Mo_perform 236 = .ok (.iload_n 2, 1) := dk_0 a_Mo_perform_236 (dko_28 _)
theorem d_Mo_perform_237 : decode b_Mo_perform 237 = .ok (.invokevirtual 323, 3) := dk_U2 a_Mo_perform_237 (dko_182 _) rfl
theorem d_Mo_perform_240 : decode b_Mo_perform 240 = .ok (.ifCond .le 5, 3) := dk_S2 a_Mo_perform_240 (dko_158 _) (by decide +kernel)
theorem d_Mo_perform_243 : decode b_Mo_perform 243 = .ok (.iconst 3, 1) := dk_0 a_Mo_perform_243 (dko_6 _)
theorem d_Mo_perform_244 : decode b_Mo_perform 244 = .ok (.ireturn, 1) := dk_0 a_Mo_perform_244 (dko_172 _)
theorem d_Mo_perform_245 : decode b_Mo_perform 245 = .ok (.iload 4, 2) := dk_U1 a_Mo_perform_245 (dko_21 _) rfl
theorem d_Mo_perform_247 : decode b_Mo_perform 247 = .ok (.iconst 3, 1) := dk_0 a_Mo_perform_247 (dko_6 _)
theorem d_Mo_perform_248 : decode b_Mo_perform 248 = .ok (.if_icmp .ne 20, 3) := dk_S2 a_Mo_perform_248 (dko_160 _) (by decide +kernel)
theorem d_Mo_perform_251 : decode b_Mo_perform 251 = .ok (.aload_n 0, 1) := dk_0 a_Mo_perform_251 (dko_42 _)
theorem d_Mo_perform_252 : decode b_Mo_perform 252 = .ok (.getfield 61, 3) := dk_U2 a_Mo_perform_252 (dko_180 _) rfl
theorem d_Mo_perform_255 : decode b_Mo_perform 255 = .ok (.bipush 6, 2) := dk_S1 a_Mo_perform_255 (dko_16 _) (by decide +kernel)
theorem d_Mo_perform_257 : decode b_Mo_perform 257 = .ok (.iload_n 2, 1) := dk_0 a_Mo_perform_257 (dko_28 _)
theorem d_Mo_perform_258 : decode b_Mo_perform 258 = .ok (.imul, 1) := dk_0 a_Mo_perform_258 (dko_104 _)
theorem d_Mo_perform_259 : decode b_Mo_perform 259 = .ok (.iload_n 3, 1) := dk_0 a_Mo_perform_259 (dko_29 _)
theorem d_Mo_perform_260 : decode b_Mo_perform 260 = .ok (.iadd, 1) := dk_0 a_Mo_perform_260 (dko_96 _)
theorem d_Mo_perform_261 : decode b_Mo_perform 261 = .ok (.aload_n 0, 1) := dk_0 a_Mo_perform_261 (dko_42 _)
theorem d_Mo_perform_262 : decode b_Mo_perform 262 = .ok (.getfield 326, 3) := dk_U2 a_Mo_perform_262 (dko_180 _) rfl
theorem d_Mo_perform_265 : decode b_Mo_perform 265 = .ok (.iastore, 1) := dk_0 a_Mo_perform_265 (dko_79 _)
theorem d_Mo_perform_266 : decode b_Mo_perform 266 = .ok (.iconst 0, 1) := dk_0 a_Mo_perform_266 (dko_3 _)
theorem d_Mo_perform_267 : decode b_Mo_perform 267 = .ok (.ireturn, 1) := dk_0 a_Mo_perform_267 (dko_172 _)
theorem d_Mo_perform_268 : decode b_Mo_perform 268 = .ok (.iload_n 2, 1) := dk_0 a_Mo_perform_268 (dko_28 _)
theorem d_Mo_perform_269 : decode b_Mo_perform 269 = .ok (.aload_n 0, 1) := dk_0 a_Mo_perform_269 (dko_42 _)
theorem d_Mo_perform_270 : decode b_Mo_perform 270 = .ok (.getfield 278, 3) := dk_U2 a_Mo_perform_270 (dko_180 _) rfl
theorem d_Mo_perform_273 : decode b_Mo_perform 273 = .ok (.if_icmp .ge 20, 3) := dk_S2 a_Mo_perform_273 (dko_162 _) (by decide +kernel)
theorem d_Mo_perform_276 : decode b_Mo_perform 276 = .ok (.aload_n 0, 1) := dk_0 a_Mo_perform_276 (dko_42 _)
theorem d_Mo_perform_277 : decode b_Mo_perform 277 = .ok (.getfield 34, 3) := dk_U2 a_Mo_perform_277 (dko_180 _) rfl
theorem d_Mo_perform_280 : decode b_Mo_perform 280 = .ok (.iload_n 2, 1) := dk_0 a_Mo_perform_280 (dko_28 _)
theorem d_Mo_perform_281 : decode b_Mo_perform 281 = .ok (.iconst 0, 1) := dk_0 a_Mo_perform_281 (dko_3 _)
theorem d_Mo_perform_282 : decode b_Mo_perform 282 = .ok (.iastore, 1) := dk_0 a_Mo_perform_282 (dko_79 _)
theorem d_Mo_perform_283 : decode b_Mo_perform 283 = .ok (.aload_n 0, 1) := dk_0 a_Mo_perform_283 (dko_42 _)
theorem d_Mo_perform_284 : decode b_Mo_perform 284 = .ok (.getfield 37, 3) := dk_U2 a_Mo_perform_284 (dko_180 _) rfl
theorem d_Mo_perform_287 : decode b_Mo_perform 287 = .ok (.iload_n 2, 1) := dk_0 a_Mo_perform_287 (dko_28 _)
theorem d_Mo_perform_288 : decode b_Mo_perform 288 = .ok (.iconst 0, 1) := dk_0 a_Mo_perform_288 (dko_3 _)
theorem d_Mo_perform_289 : decode b_Mo_perform 289 = .ok (.iastore, 1) := dk_0 a_Mo_perform_289 (dko_79 _)
theorem d_Mo_perform_290 : decode b_Mo_perform 290 = .ok (.goto 39, 3) := dk_S2 a_Mo_perform_290 (dko_167 _) (by decide +kernel)
theorem d_Mo_perform_293 : decode b_Mo_perform 293 = .ok (.iconst 0, 1) := dk_0 a_Mo_perform_293 (dko_3 _)
theorem d_Mo_perform_294 : decode b_Mo_perform 294 = .ok (.istore 6, 2) := dk_U1 a_Mo_perform_294 (dko_54 _) rfl
theorem d_Mo_perform_296 : decode b_Mo_perform 296 = .ok (.iload 6, 2) := dk_U1 a_Mo_perform_296 (dko_21 _) rfl
theorem d_Mo_perform_298 : decode b_Mo_perform 298 = .ok (.sipush 200, 3) := dk_S2 a_Mo_perform_298 (dko_17 _) (by decide +kernel)
theorem d_Mo_perform_301 : decode b_Mo_perform 301 = .ok (.if_icmp .ge 28, 3) := dk_S2 a_Mo_perform_301 (dko_162 _) (by decide +kernel)
theorem d_Mo_perform_304 : decode b_Mo_perform 304 = .ok (.aload_n 0, 1) := dk_0 a_Mo_perform_304 (dko_42 _)
theorem d_Mo_perform_305 : decode b_Mo_perform 305 = .ok (.getfield 55, 3) := dk_U2 a_Mo_perform_305 (dko_180 _) rfl
theorem d_Mo_perform_308 : decode b_Mo_perform 308 = .ok (.sipush 200, 3) := dk_S2 a_Mo_perform_308 (dko_17 _) (by decide +kernel)
theorem d_Mo_perform_311 : decode b_Mo_perform 311 = .ok (.iload_n 2, 1) := dk_0 a_Mo_perform_311 (dko_28 _)
theorem d_Mo_perform_312 : decode b_Mo_perform 312 = .ok (.aload_n 0, 1) := dk_0 a_Mo_perform_312 (dko_42 _)
theorem d_Mo_perform_313 : decode b_Mo_perform 313 = .ok (.getfield 278, 3) := dk_U2 a_Mo_perform_313 (dko_180 _) rfl
theorem d_Mo_perform_316 : decode b_Mo_perform 316 = .ok (.isub, 1) := dk_0 a_Mo_perform_316 (dko_100 _)
theorem d_Mo_perform_317 : decode b_Mo_perform 317 = .ok (.imul, 1) := dk_0 a_Mo_perform_317 (dko_104 _)
theorem d_Mo_perform_318 : decode b_Mo_perform 318 = .ok (.iload 6, 2) := dk_U1 a_Mo_perform_318 (dko_21 _) rfl
theorem d_Mo_perform_320 : decode b_Mo_perform 320 = .ok (.iadd, 1) := dk_0 a_Mo_perform_320 (dko_96 _)
theorem d_Mo_perform_321 : decode b_Mo_perform 321 = .ok (.iconst 0, 1) := dk_0 a_Mo_perform_321 (dko_3 _)
theorem d_Mo_perform_322 : decode b_Mo_perform 322 = .ok (.bastore, 1) := dk_0 a_Mo_perform_322 (dko_84 _)
theorem d_Mo_perform_323 : decode b_Mo_perform 323 = .ok (.iinc 6 1, 3) := dk_US a_Mo_perform_323 (dko_132 _) (by decide +kernel)
theorem d_Mo_perform_326 : decode b_Mo_perform 326 = .ok (.goto (-30), 3) := dk_S2 a_Mo_perform_326 (dko_167 _) (by decide +kernel)
theorem d_Mo_perform_329 : decode b_Mo_perform 329 = .ok (.iconst 0, 1) := dk_0 a_Mo_perform_329 (dko_3 _)
theorem d_Mo_perform_330 : decode b_Mo_perform 330 = .ok (.ireturn, 1) := dk_0 a_Mo_perform_330 (dko_172 _)
set_option maxHeartbeats 4000000 in
set_option maxRecDepth 100000 in
theorem ok_Mo_perform (pc : Nat) : OpS mt mi_Mo_perform pc (cs_Mo_perform pc) := (os_n (os_n (os_n (os_n (os_n (os_n (os_n (os_l (so_aload_n d_Mo_perform_0 rfl)) (os_l (so_get (C := R_Mo) (T := F_Mo) (N := 87) (j := 50) in_Mo rfl (by decide) mw_1844 d_Mo_perform_1))) (os_n (os_l (so_iload_n d_Mo_perform_4 rfl)) (os_n (os_l (so_iaload d_Mo_perform_5)) (os_l (so_istore_n d_Mo_perform_6 rfl (by decide)))))) (os_n (os_n (os_l (so_aload_n d_Mo_perform_7 rfl)) (os_n (os_l (so_get (C := R_Mo) (T := F_Mo) (N := 87) (j := 51) in_Mo rfl (by decide) mw_1845 d_Mo_perform_8)) (os_l (so_iload_n d_Mo_perform_11 rfl)))) (os_n (os_l (so_iaload d_Mo_perform_12)) (os_n (os_l (so_istore_n d_Mo_perform_13 rfl (by decide))) (os_l (so_aload_n d_Mo_perform_14 rfl)))))) (os_n (os_n (os_n (os_l (so_get (C := R_Mo) (T := F_Mo) (N := 87) (j := 49) in_Mo rfl (by decide) mw_1843 d_Mo_perform_15)) (os_n (os_l (so_iload_n d_Mo_perform_18 rfl)) (os_l (so_iaload d_Mo_perform_19)))) (os_n (os_l (so_istore d_Mo_perform_20 (by decide))) (os_n (os_l (so_iload d_Mo_perform_22)) (os_l (so_ifeq d_Mo_perform_24 (by decide)))))) (os_n (os_n (os_l (so_iload d_Mo_perform_27)) (os_n (os_l (so_iconst d_Mo_perform_29 (by decide))) (os_l (so_icne d_Mo_perform_30 (by decide))))) (os_n (os_l (so_aload_n d_Mo_perform_33 rfl)) (os_n (os_l (so_iload_n d_Mo_perform_34 rfl)) (os_l (so_callV (iv := mi_Mo_isTank) rfl rfl rfl mw_2424 mw_2426 sl_156 mw_18 mw_2427 ⟨by decide +kernel, by decide +kernel, by decide +kernel⟩ (by decide) d_Mo_perform_35))))))) (os_n (os_n (os_n (os_n (os_l (so_ifeq d_Mo_perform_38 (by decide))) (os_n (os_l (so_aload_n d_Mo_perform_41 rfl)) (os_l (so_iload_n d_Mo_perform_42 rfl)))) (os_n (os_l (so_callV (iv := mi_Mo_isTank) rfl rfl rfl mw_2424 mw_2426 sl_156 mw_18 mw_2427 ⟨by decide +kernel, by decide +kernel, by decide +kernel⟩ (by decide) d_Mo_perform_43)) (os_n (os_l (so_ifeq d_Mo_perform_46 (by decide))) (os_l (so_iload_n d_Mo_perform_49 rfl))))) (os_n (os_n (os_l (so_iload_n d_Mo_perform_50 rfl)) (os_n (os_l (so_iceq d_Mo_perform_51 (by decide))) (os_l (so_iconst d_Mo_perform_54 (by decide))))) (os_n (os_l (so_goto d_Mo_perform_55 (by decide))) (os_n (os_l (so_iconst d_Mo_perform_58 (by decide))) (os_l (so_goto d_Mo_perform_59 (by decide))))))) (os_n (os_n (os_n (os_l (so_iload d_Mo_perform_62)) (os_n (os_l (so_iconst d_Mo_perform_64 (by decide))) (os_l (so_icne d_Mo_perform_65 (by decide))))) (os_n (os_l (so_aload_n d_Mo_perform_68 rfl)) (os_n (os_l (so_iload_n d_Mo_perform_69 rfl)) (os_l (so_callV (iv := mi_Mo_isValve) rfl rfl rfl mw_2412 mw_2414 sl_153 mw_18 mw_2415 ⟨by decide +kernel, by decide +kernel, by decide +kernel⟩ (by decide) d_Mo_perform_70))))) (os_n (os_n (os_l (so_goto d_Mo_perform_73 (by decide))) (os_n (os_l (so_iload d_Mo_perform_76)) (os_l (so_iconst d_Mo_perform_78 (by decide))))) (os_n (os_l (so_iceq d_Mo_perform_79 (by decide))) (os_n (os_l (so_aload_n d_Mo_perform_82 rfl)) (os_l (so_iload_n d_Mo_perform_83 rfl)))))))) (os_n (os_n (os_n (os_n (os_n (os_l (so_callV (iv := mi_Mo_holdsLiquid) rfl rfl rfl mw_2420 mw_2422 sl_155 mw_18 mw_2423 ⟨by decide +kernel, by decide +kernel, by decide +kernel⟩ (by decide) d_Mo_perform_84)) (os_n (os_l (so_ifeq d_Mo_perform_87 (by decide))) (os_l (so_iconst d_Mo_perform_90 (by decide))))) (os_n (os_l (so_goto d_Mo_perform_91 (by decide))) (os_n (os_l (so_iconst d_Mo_perform_94 (by decide))) (os_l (so_istore d_Mo_perform_95 (by decide)))))) (os_n (os_n (os_l (so_iload d_Mo_perform_97)) (os_n (os_l (so_ifne d_Mo_perform_99 (by decide))) (os_l (so_iconst d_Mo_perform_102 (by decide))))) (os_n (os_l (so_ireturn rfl d_Mo_perform_103)) (os_n (os_l (so_aload_n d_Mo_perform_104 rfl)) (os_l (so_get (C := R_Mo) (T := F_Mo) (N := 87) (j := 3) in_Mo rfl (by decide) mw_1797 d_Mo_perform_105)))))) (os_n (os_n (os_n (os_l (so_iload_n d_Mo_perform_108 rfl)) (os_n (os_l (so_callV (iv := mi_Mr_act1) rfl rfl rfl mw_2478 mw_2479 mw_2480 mw_20 mw_2481 ⟨by decide +kernel, by decide +kernel, by decide +kernel⟩ (by decide) d_Mo_perform_109)) (os_l (so_ifle d_Mo_perform_112 (by decide))))) (os_n (os_l (so_iconst d_Mo_perform_115 (by decide))) (os_n (os_l (so_ireturn rfl d_Mo_perform_116)) (os_l (so_iload d_Mo_perform_117))))) (os_n (os_n (os_l (so_ifne d_Mo_perform_119 (by decide))) (os_n (os_l (so_aload_n d_Mo_perform_122 rfl)) (os_l (so_iload_n d_Mo_perform_123 rfl)))) (os_n (os_l (so_iload_n d_Mo_perform_124 rfl)) (os_n (os_l (so_aload_n d_Mo_perform_125 rfl)) (os_l (so_get (C := R_Mo) (T := F_Mo) (N := 87) (j := 52) in_Mo rfl (by decide) mw_1846 d_Mo_perform_126))))))) (os_n (os_n (os_n (os_n (os_l (so_iload_n d_Mo_perform_129 rfl)) (os_n (os_l (so_iaload d_Mo_perform_130)) (os_l (so_callV (iv := mi_Mo_open) rfl rfl rfl mw_2494 mw_2496 sl_166 mw_18 mw_2497 ⟨by decide +kernel, by decide +kernel, by decide +kernel⟩ (by decide) d_Mo_perform_131)))) (os_n (os_l (so_ireturn rfl d_Mo_perform_134)) (os_n (os_l (so_iload d_Mo_perform_135)) (os_l (so_iconst d_Mo_perform_137 (by decide)))))) (os_n (os_n (os_l (so_icne d_Mo_perform_138 (by decide))) (os_n (os_l (so_aload_n d_Mo_perform_141 rfl)) (os_l (so_iload_n d_Mo_perform_142 rfl)))) (os_n (os_l (so_iload_n d_Mo_perform_143 rfl)) (os_n (os_l (so_callV (iv := mi_Mo_openWay) rfl rfl rfl mw_2498 mw_2500 sl_167 mw_18 mw_2501 ⟨by decide +kernel, by decide +kernel, by decide +kernel⟩ (by decide) d_Mo_perform_144)) (os_l (so_istore d_Mo_perform_147 (by decide))))))) (os_n (os_n (os_n (os_l (so_iload d_Mo_perform_149)) (os_n (os_l (so_iconst d_Mo_perform_151 (by decide))) (os_l (so_icne d_Mo_perform_152 (by decide))))) (os_n (os_l (so_iconst d_Mo_perform_155 (by decide))) (os_n (os_l (so_ireturn rfl d_Mo_perform_156)) (os_l (so_aload_n d_Mo_perform_157 rfl))))) (os_n (os_n (os_l (so_iload d_Mo_perform_158)) (os_n (os_l (so_callV (iv := mi_Mo_close) rfl rfl rfl mw_2339 mw_2341 sl_140 mw_18 mw_2342 ⟨by decide +kernel, by decide +kernel, by decide +kernel⟩ (by decide) d_Mo_perform_160)) (os_l (so_iconst d_Mo_perform_163 (by decide))))) (os_n (os_l (so_ireturn rfl d_Mo_perform_164)) (os_n (os_l (so_iload d_Mo_perform_165)) (os_l (so_iconst d_Mo_perform_167 (by decide)))))))))) (os_n (os_n (os_n (os_n (os_n (os_n (os_l (so_icne d_Mo_perform_168 (by decide))) (os_n (os_l (so_aload_n d_Mo_perform_171 rfl)) (os_l (so_iload_n d_Mo_perform_172 rfl)))) (os_n (os_l (so_callV (iv := mi_Mo_held) rfl rfl rfl mw_2343 mw_2345 sl_141 mw_18 mw_2346 ⟨by decide +kernel, by decide +kernel, by decide +kernel⟩ (by decide) d_Mo_perform_173)) (os_n (os_l (so_iconst d_Mo_perform_176 (by decide))) (os_l (so_iceq d_Mo_perform_177 (by decide)))))) (os_n (os_n (os_l (so_iconst d_Mo_perform_180 (by decide))) (os_n (os_l (so_ireturn rfl d_Mo_perform_181)) (os_l (so_aload_n d_Mo_perform_182 rfl)))) (os_n (os_l (so_get (C := R_Mo) (T := F_Mo) (N := 87) (j := 9) in_Mo rfl (by decide) mw_1803 d_Mo_perform_183)) (os_n (os_l (so_iload_n d_Mo_perform_186 rfl)) (os_l (so_iaload d_Mo_perform_187)))))) (os_n (os_n (os_n (os_l (so_istore d_Mo_perform_188 (by decide))) (os_n (os_l (so_aload_n d_Mo_perform_190 rfl)) (os_l (so_get (C := R_Mo) (T := F_Mo) (N := 87) (j := 9) in_Mo rfl (by decide) mw_1803 d_Mo_perform_191)))) (os_n (os_l (so_iload_n d_Mo_perform_194 rfl)) (os_n (os_l (so_iload_n d_Mo_perform_195 rfl)) (os_l (so_iastore d_Mo_perform_196))))) (os_n (os_n (os_l (so_aload_n d_Mo_perform_197 rfl)) (os_n (os_l (so_callV (iv := mi_Mo_look) rfl rfl rfl mw_2369 mw_2371 sl_145 mw_18 mw_2372 ⟨by decide +kernel, by decide +kernel, by decide +kernel⟩ (by decide) d_Mo_perform_198)) (os_l (so_aload_n d_Mo_perform_201 rfl)))) (os_n (os_l (so_callV (iv := mi_Mo_isSafe) rfl rfl rfl mw_2381 mw_2383 sl_148 mw_18 mw_2384 ⟨by decide +kernel, by decide +kernel, by decide +kernel⟩ (by decide) d_Mo_perform_202)) (os_n (os_l (so_ifne d_Mo_perform_205 (by decide))) (os_l (so_aload_n d_Mo_perform_208 rfl))))))) (os_n (os_n (os_n (os_n (os_l (so_get (C := R_Mo) (T := F_Mo) (N := 87) (j := 9) in_Mo rfl (by decide) mw_1803 d_Mo_perform_209)) (os_n (os_l (so_iload_n d_Mo_perform_212 rfl)) (os_l (so_iload d_Mo_perform_213)))) (os_n (os_l (so_iastore d_Mo_perform_215)) (os_n (os_l (so_bipush d_Mo_perform_216 (by decide))) (os_l (so_ireturn rfl d_Mo_perform_218))))) (os_n (os_n (os_l (so_iconst d_Mo_perform_219 (by decide))) (os_n (os_l (so_ireturn rfl d_Mo_perform_220)) (os_l (so_aload_n d_Mo_perform_221 rfl)))) (os_n (os_l (so_iload_n d_Mo_perform_222 rfl)) (os_n (os_l (so_callV (iv := mi_Mo_isOnWay) rfl rfl rfl mw_2517 mw_2519 sl_171 mw_18 mw_2520 ⟨by decide +kernel, by decide +kernel, by decide +kernel⟩ (by decide) d_Mo_perform_223)) (os_l (so_ifne d_Mo_perform_226 (by decide))))))) (os_n (os_n (os_n (os_l (so_iload d_Mo_perform_229)) (os_n (os_l (so_iconst d_Mo_perform_231 (by decide))) (os_l (so_icne d_Mo_perform_232 (by decide))))) (os_n (os_l (so_aload_n d_Mo_perform_235 rfl)) (os_n (os_l (so_iload_n d_Mo_perform_236 rfl)) (os_l (so_callV (iv := mi_Mo_liquidIn) rfl rfl rfl mw_2373 mw_2375 sl_146 mw_18 mw_2376 ⟨by decide +kernel, by decide +kernel, by decide +kernel⟩ (by decide) d_Mo_perform_237))))) (os_n (os_n (os_l (so_ifle d_Mo_perform_240 (by decide))) (os_n (os_l (so_iconst d_Mo_perform_243 (by decide))) (os_l (so_ireturn rfl d_Mo_perform_244)))) (os_n (os_l (so_iload d_Mo_perform_245)) (os_n (os_l (so_iconst d_Mo_perform_247 (by decide))) (os_l (so_icne d_Mo_perform_248 (by decide))))))))) (os_n (os_n (os_n (os_n (os_n (os_l (so_aload_n d_Mo_perform_251 rfl)) (os_n (os_l (so_get (C := R_Mo) (T := F_Mo) (N := 87) (j := 17) in_Mo rfl (by decide) mw_1811 d_Mo_perform_252)) (os_l (so_bipush d_Mo_perform_255 (by decide))))) (os_n (os_l (so_iload_n d_Mo_perform_257 rfl)) (os_n (os_l (so_imul d_Mo_perform_258)) (os_l (so_iload_n d_Mo_perform_259 rfl))))) (os_n (os_n (os_l (so_iadd d_Mo_perform_260)) (os_n (os_l (so_aload_n d_Mo_perform_261 rfl)) (os_l (so_get (C := R_Mo) (T := F_Mo) (N := 87) (j := 78) in_Mo rfl (by decide) mw_1872 d_Mo_perform_262)))) (os_n (os_l (so_iastore d_Mo_perform_265)) (os_n (os_l (so_iconst d_Mo_perform_266 (by decide))) (os_l (so_ireturn rfl d_Mo_perform_267)))))) (os_n (os_n (os_n (os_l (so_iload_n d_Mo_perform_268 rfl)) (os_n (os_l (so_aload_n d_Mo_perform_269 rfl)) (os_l (so_get (C := R_Mo) (T := F_Mo) (N := 87) (j := 4) in_Mo rfl (by decide) mw_1798 d_Mo_perform_270)))) (os_n (os_l (so_icge d_Mo_perform_273 (by decide))) (os_n (os_l (so_aload_n d_Mo_perform_276 rfl)) (os_l (so_get (C := R_Mo) (T := F_Mo) (N := 87) (j := 7) in_Mo rfl (by decide) mw_1801 d_Mo_perform_277))))) (os_n (os_n (os_l (so_iload_n d_Mo_perform_280 rfl)) (os_n (os_l (so_iconst d_Mo_perform_281 (by decide))) (os_l (so_iastore d_Mo_perform_282)))) (os_n (os_l (so_aload_n d_Mo_perform_283 rfl)) (os_n (os_l (so_get (C := R_Mo) (T := F_Mo) (N := 87) (j := 8) in_Mo rfl (by decide) mw_1802 d_Mo_perform_284)) (os_l (so_iload_n d_Mo_perform_287 rfl))))))) (os_n (os_n (os_n (os_n (os_l (so_iconst d_Mo_perform_288 (by decide))) (os_n (os_l (so_iastore d_Mo_perform_289)) (os_l (so_goto d_Mo_perform_290 (by decide))))) (os_n (os_l (so_iconst d_Mo_perform_293 (by decide))) (os_n (os_l (so_istore d_Mo_perform_294 (by decide))) (os_l (so_iload d_Mo_perform_296))))) (os_n (os_n (os_l (so_sipush d_Mo_perform_298 (by decide))) (os_n (os_l (so_icge d_Mo_perform_301 (by decide))) (os_l (so_aload_n d_Mo_perform_304 rfl)))) (os_n (os_l (so_get (C := R_Mo) (T := F_Mo) (N := 87) (j := 15) in_Mo rfl (by decide) mw_1809 d_Mo_perform_305)) (os_n (os_l (so_sipush d_Mo_perform_308 (by decide))) (os_l (so_iload_n d_Mo_perform_311 rfl)))))) (os_n (os_n (os_n (os_l (so_aload_n d_Mo_perform_312 rfl)) (os_n (os_l (so_get (C := R_Mo) (T := F_Mo) (N := 87) (j := 4) in_Mo rfl (by decide) mw_1798 d_Mo_perform_313)) (os_l (so_isub d_Mo_perform_316)))) (os_n (os_l (so_imul d_Mo_perform_317)) (os_n (os_l (so_iload d_Mo_perform_318)) (os_l (so_iadd d_Mo_perform_320))))) (os_n (os_n (os_l (so_iconst d_Mo_perform_321 (by decide))) (os_n (os_l (so_bastore d_Mo_perform_322)) (os_l (so_iinc d_Mo_perform_323 (by decide) (by decide))))) (os_n (os_l (so_goto d_Mo_perform_326 (by decide))) (os_n (os_l (so_iconst d_Mo_perform_329 (by decide))) (os_l (so_ireturn rfl d_Mo_perform_330))))))))))
abbrev t_Mo_raise_53 : List UInt8 := 177 :: []
abbrev t_Mo_raise_50 : List UInt8 := 181 :: 1 :: 177 :: t_Mo_raise_53
abbrev t_Mo_raise_49 : List UInt8 := 96 :: t_Mo_raise_50
abbrev t_Mo_raise_48 : List UInt8 := 4 :: t_Mo_raise_49
abbrev t_Mo_raise_45 : List UInt8 := 180 :: 1 :: 177 :: t_Mo_raise_48
abbrev t_Mo_raise_44 : List UInt8 := 89 :: t_Mo_raise_45
abbrev t_Mo_raise_43 : List UInt8 := 42 :: t_Mo_raise_44
abbrev t_Mo_raise_42 : List UInt8 := 79 :: t_Mo_raise_43
abbrev t_Mo_raise_41 : List UInt8 := 28 :: t_Mo_raise_42
abbrev t_Mo_raise_38 : List UInt8 := 180 :: 1 :: 177 :: t_Mo_raise_41
abbrev t_Mo_raise_37 : List UInt8 := 42 :: t_Mo_raise_38
abbrev t_Mo_raise_34 : List UInt8 := 180 :: 0 :: 208 :: t_Mo_raise_37
abbrev t_Mo_raise_33 : List UInt8 := 42 :: t_Mo_raise_34
abbrev t_Mo_raise_32 : List UInt8 := 79 :: t_Mo_raise_33
abbrev t_Mo_raise_31 : List UInt8 := 27 :: t_Mo_raise_32
abbrev t_Mo_raise_28 : List UInt8 := 180 :: 1 :: 177 :: t_Mo_raise_31
abbrev t_Mo_raise_27 : List UInt8 := 42 :: t_Mo_raise_28
abbrev t_Mo_raise_24 : List UInt8 := 180 :: 0 :: 205 :: t_Mo_raise_27
abbrev t_Mo_raise_23 : List UInt8 := 42 :: t_Mo_raise_24
abbrev t_Mo_raise_22 : List UInt8 := 79 :: t_Mo_raise_23
abbrev t_Mo_raise_19 : List UInt8 := 180 :: 1 :: 70 :: t_Mo_raise_22
abbrev t_Mo_raise_18 : List UInt8 := 42 :: t_Mo_raise_19
abbrev t_Mo_raise_15 : List UInt8 := 180 :: 1 :: 177 :: t_Mo_raise_18
abbrev t_Mo_raise_14 : List UInt8 := 42 :: t_Mo_raise_15
abbrev t_Mo_raise_11 : List UInt8 := 180 :: 0 :: 202 :: t_Mo_raise_14
abbrev t_Mo_raise_10 : List UInt8 := 42 :: t_Mo_raise_11
abbrev t_Mo_raise_7 : List UInt8 := 162 :: 0 :: 46 :: t_Mo_raise_10
abbrev t_Mo_raise_4 : List UInt8 := 17 :: 0 :: 200 :: t_Mo_raise_7
abbrev t_Mo_raise_1 : List UInt8 := 180 :: 1 :: 177 :: t_Mo_raise_4
abbrev t_Mo_raise_0 : List UInt8 := 42 :: t_Mo_raise_1
theorem a_Mo_raise_0 : dk_at b_Mo_raise 0 t_Mo_raise_0 := dk_start (by decide +kernel)
theorem a_Mo_raise_1 : dk_at b_Mo_raise 1 t_Mo_raise_1 := dk_go 1 a_Mo_raise_0 rfl
theorem a_Mo_raise_4 : dk_at b_Mo_raise 4 t_Mo_raise_4 := dk_go 3 a_Mo_raise_1 rfl
theorem a_Mo_raise_7 : dk_at b_Mo_raise 7 t_Mo_raise_7 := dk_go 3 a_Mo_raise_4 rfl
theorem a_Mo_raise_10 : dk_at b_Mo_raise 10 t_Mo_raise_10 := dk_go 3 a_Mo_raise_7 rfl
theorem a_Mo_raise_11 : dk_at b_Mo_raise 11 t_Mo_raise_11 := dk_go 1 a_Mo_raise_10 rfl
theorem a_Mo_raise_14 : dk_at b_Mo_raise 14 t_Mo_raise_14 := dk_go 3 a_Mo_raise_11 rfl
theorem a_Mo_raise_15 : dk_at b_Mo_raise 15 t_Mo_raise_15 := dk_go 1 a_Mo_raise_14 rfl
theorem a_Mo_raise_18 : dk_at b_Mo_raise 18 t_Mo_raise_18 := dk_go 3 a_Mo_raise_15 rfl
theorem a_Mo_raise_19 : dk_at b_Mo_raise 19 t_Mo_raise_19 := dk_go 1 a_Mo_raise_18 rfl
theorem a_Mo_raise_22 : dk_at b_Mo_raise 22 t_Mo_raise_22 := dk_go 3 a_Mo_raise_19 rfl
theorem a_Mo_raise_23 : dk_at b_Mo_raise 23 t_Mo_raise_23 := dk_go 1 a_Mo_raise_22 rfl
theorem a_Mo_raise_24 : dk_at b_Mo_raise 24 t_Mo_raise_24 := dk_go 1 a_Mo_raise_23 rfl
theorem a_Mo_raise_27 : dk_at b_Mo_raise 27 t_Mo_raise_27 := dk_go 3 a_Mo_raise_24 rfl
theorem a_Mo_raise_28 : dk_at b_Mo_raise 28 t_Mo_raise_28 := dk_go 1 a_Mo_raise_27 rfl
theorem a_Mo_raise_31 : dk_at b_Mo_raise 31 t_Mo_raise_31 := dk_go 3 a_Mo_raise_28 rfl
theorem a_Mo_raise_32 : dk_at b_Mo_raise 32 t_Mo_raise_32 := dk_go 1 a_Mo_raise_31 rfl
theorem a_Mo_raise_33 : dk_at b_Mo_raise 33 t_Mo_raise_33 := dk_go 1 a_Mo_raise_32 rfl
theorem a_Mo_raise_34 : dk_at b_Mo_raise 34 t_Mo_raise_34 := dk_go 1 a_Mo_raise_33 rfl
theorem a_Mo_raise_37 : dk_at b_Mo_raise 37 t_Mo_raise_37 := dk_go 3 a_Mo_raise_34 rfl
theorem a_Mo_raise_38 : dk_at b_Mo_raise 38 t_Mo_raise_38 := dk_go 1 a_Mo_raise_37 rfl
theorem a_Mo_raise_41 : dk_at b_Mo_raise 41 t_Mo_raise_41 := dk_go 3 a_Mo_raise_38 rfl
theorem a_Mo_raise_42 : dk_at b_Mo_raise 42 t_Mo_raise_42 := dk_go 1 a_Mo_raise_41 rfl
theorem a_Mo_raise_43 : dk_at b_Mo_raise 43 t_Mo_raise_43 := dk_go 1 a_Mo_raise_42 rfl
theorem a_Mo_raise_44 : dk_at b_Mo_raise 44 t_Mo_raise_44 := dk_go 1 a_Mo_raise_43 rfl
theorem a_Mo_raise_45 : dk_at b_Mo_raise 45 t_Mo_raise_45 := dk_go 1 a_Mo_raise_44 rfl
theorem a_Mo_raise_48 : dk_at b_Mo_raise 48 t_Mo_raise_48 := dk_go 3 a_Mo_raise_45 rfl
theorem a_Mo_raise_49 : dk_at b_Mo_raise 49 t_Mo_raise_49 := dk_go 1 a_Mo_raise_48 rfl
theorem a_Mo_raise_50 : dk_at b_Mo_raise 50 t_Mo_raise_50 := dk_go 1 a_Mo_raise_49 rfl
theorem a_Mo_raise_53 : dk_at b_Mo_raise 53 t_Mo_raise_53 := dk_go 3 a_Mo_raise_50 rfl
theorem d_Mo_raise_0 : decode b_Mo_raise 0 = .ok (.aload_n 0, 1) := dk_0 a_Mo_raise_0 (dko_42 _)
theorem d_Mo_raise_1 : decode b_Mo_raise 1 = .ok (.getfield 433, 3) := dk_U2 a_Mo_raise_1 (dko_180 _) rfl
theorem d_Mo_raise_4 : decode b_Mo_raise 4 = .ok (.sipush 200, 3) := dk_S2 a_Mo_raise_4 (dko_17 _) (by decide +kernel)
theorem d_Mo_raise_7 : decode b_Mo_raise 7 = .ok (.if_icmp .ge 46, 3) := dk_S2 a_Mo_raise_7 (dko_162 _) (by decide +kernel)
theorem d_Mo_raise_10 : decode b_Mo_raise 10 = .ok (.aload_n 0, 1) := dk_0 a_Mo_raise_10 (dko_42 _)
theorem d_Mo_raise_11 : decode b_Mo_raise 11 = .ok (.getfield 202, 3) := dk_U2 a_Mo_raise_11 (dko_180 _) rfl
theorem d_Mo_raise_14 : decode b_Mo_raise 14 = .ok (.aload_n 0, 1) := dk_0 a_Mo_raise_14 (dko_42 _)
theorem d_Mo_raise_15 : decode b_Mo_raise 15 = .ok (.getfield 433, 3) := dk_U2 a_Mo_raise_15 (dko_180 _) rfl
theorem d_Mo_raise_18 : decode b_Mo_raise 18 = .ok (.aload_n 0, 1) := dk_0 a_Mo_raise_18 (dko_42 _)
theorem d_Mo_raise_19 : decode b_Mo_raise 19 = .ok (.getfield 326, 3) := dk_U2 a_Mo_raise_19 (dko_180 _) rfl
theorem d_Mo_raise_22 : decode b_Mo_raise 22 = .ok (.iastore, 1) := dk_0 a_Mo_raise_22 (dko_79 _)
theorem d_Mo_raise_23 : decode b_Mo_raise 23 = .ok (.aload_n 0, 1) := dk_0 a_Mo_raise_23 (dko_42 _)
theorem d_Mo_raise_24 : decode b_Mo_raise 24 = .ok (.getfield 205, 3) := dk_U2 a_Mo_raise_24 (dko_180 _) rfl
theorem d_Mo_raise_27 : decode b_Mo_raise 27 = .ok (.aload_n 0, 1) := dk_0 a_Mo_raise_27 (dko_42 _)
theorem d_Mo_raise_28 : decode b_Mo_raise 28 = .ok (.getfield 433, 3) := dk_U2 a_Mo_raise_28 (dko_180 _) rfl
theorem d_Mo_raise_31 : decode b_Mo_raise 31 = .ok (.iload_n 1, 1) := dk_0 a_Mo_raise_31 (dko_27 _)
theorem d_Mo_raise_32 : decode b_Mo_raise 32 = .ok (.iastore, 1) := dk_0 a_Mo_raise_32 (dko_79 _)
theorem d_Mo_raise_33 : decode b_Mo_raise 33 = .ok (.aload_n 0, 1) := dk_0 a_Mo_raise_33 (dko_42 _)
theorem d_Mo_raise_34 : decode b_Mo_raise 34 = .ok (.getfield 208, 3) := dk_U2 a_Mo_raise_34 (dko_180 _) rfl
theorem d_Mo_raise_37 : decode b_Mo_raise 37 = .ok (.aload_n 0, 1) := dk_0 a_Mo_raise_37 (dko_42 _)
theorem d_Mo_raise_38 : decode b_Mo_raise 38 = .ok (.getfield 433, 3) := dk_U2 a_Mo_raise_38 (dko_180 _) rfl
theorem d_Mo_raise_41 : decode b_Mo_raise 41 = .ok (.iload_n 2, 1) := dk_0 a_Mo_raise_41 (dko_28 _)
theorem d_Mo_raise_42 : decode b_Mo_raise 42 = .ok (.iastore, 1) := dk_0 a_Mo_raise_42 (dko_79 _)
theorem d_Mo_raise_43 : decode b_Mo_raise 43 = .ok (.aload_n 0, 1) := dk_0 a_Mo_raise_43 (dko_42 _)
theorem d_Mo_raise_44 : decode b_Mo_raise 44 = .ok (.dup, 1) := dk_0 a_Mo_raise_44 (dko_89 _)
theorem d_Mo_raise_45 : decode b_Mo_raise 45 = .ok (.getfield 433, 3) := dk_U2 a_Mo_raise_45 (dko_180 _) rfl
theorem d_Mo_raise_48 : decode b_Mo_raise 48 = .ok (.iconst 1, 1) := dk_0 a_Mo_raise_48 (dko_4 _)
theorem d_Mo_raise_49 : decode b_Mo_raise 49 = .ok (.iadd, 1) := dk_0 a_Mo_raise_49 (dko_96 _)
theorem d_Mo_raise_50 : decode b_Mo_raise 50 = .ok (.putfield 433, 3) := dk_U2 a_Mo_raise_50 (dko_181 _) rfl
theorem d_Mo_raise_53 : decode b_Mo_raise 53 = .ok (.return_, 1) := dk_0 a_Mo_raise_53 (dko_177 _)
set_option maxHeartbeats 4000000 in
set_option maxRecDepth 100000 in
theorem ok_Mo_raise (pc : Nat) : OpS mt mi_Mo_raise pc (cs_Mo_raise pc) := (os_n (os_n (os_n (os_n (os_l (so_aload_n d_Mo_raise_0 rfl)) (os_n (os_l (so_get (C := R_Mo) (T := F_Mo) (N := 87) (j := 79) in_Mo rfl (by decide) mw_1873 d_Mo_raise_1)) (os_l (so_sipush d_Mo_raise_4 (by decide))))) (os_n (os_n (os_l (so_icge d_Mo_raise_7 (by decide))) (os_l (so_aload_n d_Mo_raise_10 rfl))) (os_n (os_l (so_get (C := R_Mo) (T := F_Mo) (N := 87) (j := 80) in_Mo rfl (by decide) mw_1874 d_Mo_raise_11)) (os_l (so_aload_n d_Mo_raise_14 rfl))))) (os_n (os_n (os_n (os_l (so_get (C := R_Mo) (T := F_Mo) (N := 87) (j := 79) in_Mo rfl (by decide) mw_1873 d_Mo_raise_15)) (os_l (so_aload_n d_Mo_raise_18 rfl))) (os_n (os_l (so_get (C := R_Mo) (T := F_Mo) (N := 87) (j := 78) in_Mo rfl (by decide) mw_1872 d_Mo_raise_19)) (os_l (so_iastore d_Mo_raise_22)))) (os_n (os_n (os_l (so_aload_n d_Mo_raise_23 rfl)) (os_l (so_get (C := R_Mo) (T := F_Mo) (N := 87) (j := 81) in_Mo rfl (by decide) mw_1875 d_Mo_raise_24))) (os_n (os_l (so_aload_n d_Mo_raise_27 rfl)) (os_l (so_get (C := R_Mo) (T := F_Mo) (N := 87) (j := 79) in_Mo rfl (by decide) mw_1873 d_Mo_raise_28)))))) (os_n (os_n (os_n (os_l (so_iload_n d_Mo_raise_31 rfl)) (os_n (os_l (so_iastore d_Mo_raise_32)) (os_l (so_aload_n d_Mo_raise_33 rfl)))) (os_n (os_n (os_l (so_get (C := R_Mo) (T := F_Mo) (N := 87) (j := 82) in_Mo rfl (by decide) mw_1876 d_Mo_raise_34)) (os_l (so_aload_n d_Mo_raise_37 rfl))) (os_n (os_l (so_get (C := R_Mo) (T := F_Mo) (N := 87) (j := 79) in_Mo rfl (by decide) mw_1873 d_Mo_raise_38)) (os_l (so_iload_n d_Mo_raise_41 rfl))))) (os_n (os_n (os_n (os_l (so_iastore d_Mo_raise_42)) (os_l (so_aload_n d_Mo_raise_43 rfl))) (os_n (os_l (so_dup d_Mo_raise_44)) (os_l (so_get (C := R_Mo) (T := F_Mo) (N := 87) (j := 79) in_Mo rfl (by decide) mw_1873 d_Mo_raise_45)))) (os_n (os_n (os_l (so_iconst d_Mo_raise_48 (by decide))) (os_l (so_iadd d_Mo_raise_49))) (os_n (os_l (so_putI (C := R_Mo) (T := F_Mo) (N := 87) (j := 79) in_Mo t_Mo_ok n_Mo rfl (by decide) mw_1873 rfl (by decide +kernel) d_Mo_raise_50)) (os_l (so_return rfl d_Mo_raise_53)))))))
abbrev t_Mo_act_32 : List UInt8 := 172 :: []
abbrev t_Mo_act_31 : List UInt8 := 28 :: t_Mo_act_32
abbrev t_Mo_act_28 : List UInt8 := 182 :: 1 :: 183 :: t_Mo_act_31
abbrev t_Mo_act_27 : List UInt8 := 96 :: t_Mo_act_28
abbrev t_Mo_act_26 : List UInt8 := 28 :: t_Mo_act_27
abbrev t_Mo_act_24 : List UInt8 := 16 :: 10 :: t_Mo_act_26
abbrev t_Mo_act_23 : List UInt8 := 2 :: t_Mo_act_24
abbrev t_Mo_act_22 : List UInt8 := 42 :: t_Mo_act_23
abbrev t_Mo_act_19 : List UInt8 := 158 :: 0 :: 12 :: t_Mo_act_22
abbrev t_Mo_act_18 : List UInt8 := 28 :: t_Mo_act_19
abbrev t_Mo_act_17 : List UInt8 := 61 :: t_Mo_act_18
abbrev t_Mo_act_14 : List UInt8 := 182 :: 1 :: 180 :: t_Mo_act_17
abbrev t_Mo_act_13 : List UInt8 := 27 :: t_Mo_act_14
abbrev t_Mo_act_12 : List UInt8 := 42 :: t_Mo_act_13
abbrev t_Mo_act_11 : List UInt8 := 172 :: t_Mo_act_12
abbrev t_Mo_act_10 : List UInt8 := 2 :: t_Mo_act_11
abbrev t_Mo_act_7 : List UInt8 := 164 :: 0 :: 5 :: t_Mo_act_10
abbrev t_Mo_act_5 : List UInt8 := 16 :: 31 :: t_Mo_act_7
abbrev t_Mo_act_4 : List UInt8 := 27 :: t_Mo_act_5
abbrev t_Mo_act_1 : List UInt8 := 155 :: 0 :: 9 :: t_Mo_act_4
abbrev t_Mo_act_0 : List UInt8 := 27 :: t_Mo_act_1
theorem a_Mo_act_0 : dk_at b_Mo_act 0 t_Mo_act_0 := dk_start (by decide +kernel)
theorem a_Mo_act_1 : dk_at b_Mo_act 1 t_Mo_act_1 := dk_go 1 a_Mo_act_0 rfl
theorem a_Mo_act_4 : dk_at b_Mo_act 4 t_Mo_act_4 := dk_go 3 a_Mo_act_1 rfl
theorem a_Mo_act_5 : dk_at b_Mo_act 5 t_Mo_act_5 := dk_go 1 a_Mo_act_4 rfl
theorem a_Mo_act_7 : dk_at b_Mo_act 7 t_Mo_act_7 := dk_go 2 a_Mo_act_5 rfl
theorem a_Mo_act_10 : dk_at b_Mo_act 10 t_Mo_act_10 := dk_go 3 a_Mo_act_7 rfl
theorem a_Mo_act_11 : dk_at b_Mo_act 11 t_Mo_act_11 := dk_go 1 a_Mo_act_10 rfl
theorem a_Mo_act_12 : dk_at b_Mo_act 12 t_Mo_act_12 := dk_go 1 a_Mo_act_11 rfl
theorem a_Mo_act_13 : dk_at b_Mo_act 13 t_Mo_act_13 := dk_go 1 a_Mo_act_12 rfl
theorem a_Mo_act_14 : dk_at b_Mo_act 14 t_Mo_act_14 := dk_go 1 a_Mo_act_13 rfl
theorem a_Mo_act_17 : dk_at b_Mo_act 17 t_Mo_act_17 := dk_go 3 a_Mo_act_14 rfl
theorem a_Mo_act_18 : dk_at b_Mo_act 18 t_Mo_act_18 := dk_go 1 a_Mo_act_17 rfl
theorem a_Mo_act_19 : dk_at b_Mo_act 19 t_Mo_act_19 := dk_go 1 a_Mo_act_18 rfl
theorem a_Mo_act_22 : dk_at b_Mo_act 22 t_Mo_act_22 := dk_go 3 a_Mo_act_19 rfl
theorem a_Mo_act_23 : dk_at b_Mo_act 23 t_Mo_act_23 := dk_go 1 a_Mo_act_22 rfl
theorem a_Mo_act_24 : dk_at b_Mo_act 24 t_Mo_act_24 := dk_go 1 a_Mo_act_23 rfl
theorem a_Mo_act_26 : dk_at b_Mo_act 26 t_Mo_act_26 := dk_go 2 a_Mo_act_24 rfl
theorem a_Mo_act_27 : dk_at b_Mo_act 27 t_Mo_act_27 := dk_go 1 a_Mo_act_26 rfl
theorem a_Mo_act_28 : dk_at b_Mo_act 28 t_Mo_act_28 := dk_go 1 a_Mo_act_27 rfl
theorem a_Mo_act_31 : dk_at b_Mo_act 31 t_Mo_act_31 := dk_go 3 a_Mo_act_28 rfl
theorem a_Mo_act_32 : dk_at b_Mo_act 32 t_Mo_act_32 := dk_go 1 a_Mo_act_31 rfl
theorem d_Mo_act_0 : decode b_Mo_act 0 = .ok (.iload_n 1, 1) := dk_0 a_Mo_act_0 (dko_27 _)
theorem d_Mo_act_1 : decode b_Mo_act 1 = .ok (.ifCond .lt 9, 3) := dk_S2 a_Mo_act_1 (dko_155 _) (by decide +kernel)
theorem d_Mo_act_4 : decode b_Mo_act 4 = .ok (.iload_n 1, 1) := dk_0 a_Mo_act_4 (dko_27 _)
theorem d_Mo_act_5 : decode b_Mo_act 5 = .ok (.bipush 31, 2) := dk_S1 a_Mo_act_5 (dko_16 _) (by decide +kernel)
theorem d_Mo_act_7 : decode b_Mo_act 7 = .ok (.if_icmp .le 5, 3) := dk_S2 a_Mo_act_7 (dko_164 _) (by decide +kernel)
theorem d_Mo_act_10 : decode b_Mo_act 10 = .ok (.iconst (-1), 1) := dk_0 a_Mo_act_10 (dko_2 _)
theorem d_Mo_act_11 : decode b_Mo_act 11 = .ok (.ireturn, 1) := dk_0 a_Mo_act_11 (dko_172 _)
theorem d_Mo_act_12 : decode b_Mo_act 12 = .ok (.aload_n 0, 1) := dk_0 a_Mo_act_12 (dko_42 _)
theorem d_Mo_act_13 : decode b_Mo_act 13 = .ok (.iload_n 1, 1) := dk_0 a_Mo_act_13 (dko_27 _)
theorem d_Mo_act_14 : decode b_Mo_act 14 = .ok (.invokevirtual 436, 3) := dk_U2 a_Mo_act_14 (dko_182 _) rfl
theorem d_Mo_act_17 : decode b_Mo_act 17 = .ok (.istore_n 2, 1) := dk_0 a_Mo_act_17 (dko_61 _)
theorem d_Mo_act_18 : decode b_Mo_act 18 = .ok (.iload_n 2, 1) := dk_0 a_Mo_act_18 (dko_28 _)
theorem d_Mo_act_19 : decode b_Mo_act 19 = .ok (.ifCond .le 12, 3) := dk_S2 a_Mo_act_19 (dko_158 _) (by decide +kernel)
theorem d_Mo_act_22 : decode b_Mo_act 22 = .ok (.aload_n 0, 1) := dk_0 a_Mo_act_22 (dko_42 _)
theorem d_Mo_act_23 : decode b_Mo_act 23 = .ok (.iconst (-1), 1) := dk_0 a_Mo_act_23 (dko_2 _)
theorem d_Mo_act_24 : decode b_Mo_act 24 = .ok (.bipush 10, 2) := dk_S1 a_Mo_act_24 (dko_16 _) (by decide +kernel)
theorem d_Mo_act_26 : decode b_Mo_act 26 = .ok (.iload_n 2, 1) := dk_0 a_Mo_act_26 (dko_28 _)
theorem d_Mo_act_27 : decode b_Mo_act 27 = .ok (.iadd, 1) := dk_0 a_Mo_act_27 (dko_96 _)
theorem d_Mo_act_28 : decode b_Mo_act 28 = .ok (.invokevirtual 439, 3) := dk_U2 a_Mo_act_28 (dko_182 _) rfl
theorem d_Mo_act_31 : decode b_Mo_act 31 = .ok (.iload_n 2, 1) := dk_0 a_Mo_act_31 (dko_28 _)
theorem d_Mo_act_32 : decode b_Mo_act 32 = .ok (.ireturn, 1) := dk_0 a_Mo_act_32 (dko_172 _)
set_option maxHeartbeats 4000000 in
set_option maxRecDepth 100000 in
theorem ok_Mo_act (pc : Nat) : OpS mt mi_Mo_act pc (cs_Mo_act pc) := (os_n (os_n (os_n (os_n (os_l (so_iload_n d_Mo_act_0 rfl)) (os_l (so_iflt d_Mo_act_1 (by decide)))) (os_n (os_l (so_iload_n d_Mo_act_4 rfl)) (os_n (os_l (so_bipush d_Mo_act_5 (by decide))) (os_l (so_icle d_Mo_act_7 (by decide)))))) (os_n (os_n (os_l (so_iconst d_Mo_act_10 (by decide))) (os_l (so_ireturn rfl d_Mo_act_11))) (os_n (os_l (so_aload_n d_Mo_act_12 rfl)) (os_n (os_l (so_iload_n d_Mo_act_13 rfl)) (os_l (so_callV (iv := mi_Mo_perform) rfl rfl rfl mw_2474 mw_2476 sl_162 mw_18 mw_2477 ⟨by decide +kernel, by decide +kernel, by decide +kernel⟩ (by decide) d_Mo_act_14)))))) (os_n (os_n (os_n (os_l (so_istore_n d_Mo_act_17 rfl (by decide))) (os_l (so_iload_n d_Mo_act_18 rfl))) (os_n (os_l (so_ifle d_Mo_act_19 (by decide))) (os_n (os_l (so_aload_n d_Mo_act_22 rfl)) (os_l (so_iconst d_Mo_act_23 (by decide)))))) (os_n (os_n (os_l (so_bipush d_Mo_act_24 (by decide))) (os_n (os_l (so_iload_n d_Mo_act_26 rfl)) (os_l (so_iadd d_Mo_act_27)))) (os_n (os_l (so_callV (iv := mi_Mo_raise) rfl rfl rfl mw_2521 mw_2523 sl_172 mw_18 mw_2524 ⟨by decide +kernel, by decide +kernel, by decide +kernel⟩ (by decide) d_Mo_act_28)) (os_n (os_l (so_iload_n d_Mo_act_31 rfl)) (os_l (so_ireturn rfl d_Mo_act_32)))))))
abbrev t_Mo_isRole_44 : List UInt8 := 172 :: []
abbrev t_Mo_isRole_43 : List UInt8 := 3 :: t_Mo_isRole_44
abbrev t_Mo_isRole_40 : List UInt8 := 167 :: 0 :: 4 :: t_Mo_isRole_43
abbrev t_Mo_isRole_39 : List UInt8 := 4 :: t_Mo_isRole_40
abbrev t_Mo_isRole_36 : List UInt8 := 160 :: 0 :: 7 :: t_Mo_isRole_39
abbrev t_Mo_isRole_35 : List UInt8 := 28 :: t_Mo_isRole_36
abbrev t_Mo_isRole_34 : List UInt8 := 46 :: t_Mo_isRole_35
abbrev t_Mo_isRole_33 : List UInt8 := 96 :: t_Mo_isRole_34
abbrev t_Mo_isRole_32 : List UInt8 := 27 :: t_Mo_isRole_33
abbrev t_Mo_isRole_31 : List UInt8 := 104 :: t_Mo_isRole_32
abbrev t_Mo_isRole_28 : List UInt8 := 180 :: 1 :: 192 :: t_Mo_isRole_31
abbrev t_Mo_isRole_25 : List UInt8 := 180 :: 0 :: 16 :: t_Mo_isRole_28
abbrev t_Mo_isRole_24 : List UInt8 := 42 :: t_Mo_isRole_25
abbrev t_Mo_isRole_22 : List UInt8 := 16 :: 40 :: t_Mo_isRole_24
abbrev t_Mo_isRole_19 : List UInt8 := 180 :: 1 :: 189 :: t_Mo_isRole_22
abbrev t_Mo_isRole_16 : List UInt8 := 180 :: 0 :: 16 :: t_Mo_isRole_19
abbrev t_Mo_isRole_15 : List UInt8 := 42 :: t_Mo_isRole_16
abbrev t_Mo_isRole_12 : List UInt8 := 162 :: 0 :: 31 :: t_Mo_isRole_15
abbrev t_Mo_isRole_9 : List UInt8 := 180 :: 1 :: 186 :: t_Mo_isRole_12
abbrev t_Mo_isRole_6 : List UInt8 := 180 :: 0 :: 16 :: t_Mo_isRole_9
abbrev t_Mo_isRole_5 : List UInt8 := 42 :: t_Mo_isRole_6
abbrev t_Mo_isRole_4 : List UInt8 := 27 :: t_Mo_isRole_5
abbrev t_Mo_isRole_1 : List UInt8 := 155 :: 0 :: 42 :: t_Mo_isRole_4
abbrev t_Mo_isRole_0 : List UInt8 := 27 :: t_Mo_isRole_1
theorem a_Mo_isRole_0 : dk_at b_Mo_isRole 0 t_Mo_isRole_0 := dk_start (by decide +kernel)
theorem a_Mo_isRole_1 : dk_at b_Mo_isRole 1 t_Mo_isRole_1 := dk_go 1 a_Mo_isRole_0 rfl
theorem a_Mo_isRole_4 : dk_at b_Mo_isRole 4 t_Mo_isRole_4 := dk_go 3 a_Mo_isRole_1 rfl
theorem a_Mo_isRole_5 : dk_at b_Mo_isRole 5 t_Mo_isRole_5 := dk_go 1 a_Mo_isRole_4 rfl
theorem a_Mo_isRole_6 : dk_at b_Mo_isRole 6 t_Mo_isRole_6 := dk_go 1 a_Mo_isRole_5 rfl
theorem a_Mo_isRole_9 : dk_at b_Mo_isRole 9 t_Mo_isRole_9 := dk_go 3 a_Mo_isRole_6 rfl
theorem a_Mo_isRole_12 : dk_at b_Mo_isRole 12 t_Mo_isRole_12 := dk_go 3 a_Mo_isRole_9 rfl
theorem a_Mo_isRole_15 : dk_at b_Mo_isRole 15 t_Mo_isRole_15 := dk_go 3 a_Mo_isRole_12 rfl
theorem a_Mo_isRole_16 : dk_at b_Mo_isRole 16 t_Mo_isRole_16 := dk_go 1 a_Mo_isRole_15 rfl
theorem a_Mo_isRole_19 : dk_at b_Mo_isRole 19 t_Mo_isRole_19 := dk_go 3 a_Mo_isRole_16 rfl
theorem a_Mo_isRole_22 : dk_at b_Mo_isRole 22 t_Mo_isRole_22 := dk_go 3 a_Mo_isRole_19 rfl
theorem a_Mo_isRole_24 : dk_at b_Mo_isRole 24 t_Mo_isRole_24 := dk_go 2 a_Mo_isRole_22 rfl
theorem a_Mo_isRole_25 : dk_at b_Mo_isRole 25 t_Mo_isRole_25 := dk_go 1 a_Mo_isRole_24 rfl
theorem a_Mo_isRole_28 : dk_at b_Mo_isRole 28 t_Mo_isRole_28 := dk_go 3 a_Mo_isRole_25 rfl
theorem a_Mo_isRole_31 : dk_at b_Mo_isRole 31 t_Mo_isRole_31 := dk_go 3 a_Mo_isRole_28 rfl
theorem a_Mo_isRole_32 : dk_at b_Mo_isRole 32 t_Mo_isRole_32 := dk_go 1 a_Mo_isRole_31 rfl
theorem a_Mo_isRole_33 : dk_at b_Mo_isRole 33 t_Mo_isRole_33 := dk_go 1 a_Mo_isRole_32 rfl
theorem a_Mo_isRole_34 : dk_at b_Mo_isRole 34 t_Mo_isRole_34 := dk_go 1 a_Mo_isRole_33 rfl
theorem a_Mo_isRole_35 : dk_at b_Mo_isRole 35 t_Mo_isRole_35 := dk_go 1 a_Mo_isRole_34 rfl
theorem a_Mo_isRole_36 : dk_at b_Mo_isRole 36 t_Mo_isRole_36 := dk_go 1 a_Mo_isRole_35 rfl
theorem a_Mo_isRole_39 : dk_at b_Mo_isRole 39 t_Mo_isRole_39 := dk_go 3 a_Mo_isRole_36 rfl
theorem a_Mo_isRole_40 : dk_at b_Mo_isRole 40 t_Mo_isRole_40 := dk_go 1 a_Mo_isRole_39 rfl
theorem a_Mo_isRole_43 : dk_at b_Mo_isRole 43 t_Mo_isRole_43 := dk_go 3 a_Mo_isRole_40 rfl
theorem a_Mo_isRole_44 : dk_at b_Mo_isRole 44 t_Mo_isRole_44 := dk_go 1 a_Mo_isRole_43 rfl
theorem d_Mo_isRole_0 : decode b_Mo_isRole 0 = .ok (.iload_n 1, 1) := dk_0 a_Mo_isRole_0 (dko_27 _)
theorem d_Mo_isRole_1 : decode b_Mo_isRole 1 = .ok (.ifCond .lt 42, 3) := dk_S2 a_Mo_isRole_1 (dko_155 _) (by decide +kernel)
theorem d_Mo_isRole_4 : decode b_Mo_isRole 4 = .ok (.iload_n 1, 1) := dk_0 a_Mo_isRole_4 (dko_27 _)
theorem d_Mo_isRole_5 : decode b_Mo_isRole 5 = .ok (.aload_n 0, 1) := dk_0 a_Mo_isRole_5 (dko_42 _)
theorem d_Mo_isRole_6 : decode b_Mo_isRole 6 = .ok (.getfield 16, 3) := dk_U2 a_Mo_isRole_6 (dko_180 _) rfl
theorem d_Mo_isRole_9 : decode b_Mo_isRole 9 = .ok (.getfield 442, 3) := dk_U2 a_Mo_isRole_9 (dko_180 _) rfl
theorem d_Mo_isRole_12 : decode b_Mo_isRole 12 = .ok (.if_icmp .ge 31, 3) := dk_S2 a_Mo_isRole_12 (dko_162 _) (by decide +kernel)
theorem d_Mo_isRole_15 : decode b_Mo_isRole 15 = .ok (.aload_n 0, 1) := dk_0 a_Mo_isRole_15 (dko_42 _)
theorem d_Mo_isRole_16 : decode b_Mo_isRole 16 = .ok (.getfield 16, 3) := dk_U2 a_Mo_isRole_16 (dko_180 _) rfl
theorem d_Mo_isRole_19 : decode b_Mo_isRole 19 = .ok (.getfield 445, 3) := dk_U2 a_Mo_isRole_19 (dko_180 _) rfl
theorem d_Mo_isRole_22 : decode b_Mo_isRole 22 = .ok (.bipush 40, 2) := dk_S1 a_Mo_isRole_22 (dko_16 _) (by decide +kernel)
theorem d_Mo_isRole_24 : decode b_Mo_isRole 24 = .ok (.aload_n 0, 1) := dk_0 a_Mo_isRole_24 (dko_42 _)
theorem d_Mo_isRole_25 : decode b_Mo_isRole 25 = .ok (.getfield 16, 3) := dk_U2 a_Mo_isRole_25 (dko_180 _) rfl
theorem d_Mo_isRole_28 : decode b_Mo_isRole 28 = .ok (.getfield 448, 3) := dk_U2 a_Mo_isRole_28 (dko_180 _) rfl
theorem d_Mo_isRole_31 : decode b_Mo_isRole 31 = .ok (.imul, 1) := dk_0 a_Mo_isRole_31 (dko_104 _)
theorem d_Mo_isRole_32 : decode b_Mo_isRole 32 = .ok (.iload_n 1, 1) := dk_0 a_Mo_isRole_32 (dko_27 _)
theorem d_Mo_isRole_33 : decode b_Mo_isRole 33 = .ok (.iadd, 1) := dk_0 a_Mo_isRole_33 (dko_96 _)
theorem d_Mo_isRole_34 : decode b_Mo_isRole 34 = .ok (.iaload, 1) := dk_0 a_Mo_isRole_34 (dko_46 _)
theorem d_Mo_isRole_35 : decode b_Mo_isRole 35 = .ok (.iload_n 2, 1) := dk_0 a_Mo_isRole_35 (dko_28 _)
theorem d_Mo_isRole_36 : decode b_Mo_isRole 36 = .ok (.if_icmp .ne 7, 3) := dk_S2 a_Mo_isRole_36 (dko_160 _) (by decide +kernel)
theorem d_Mo_isRole_39 : decode b_Mo_isRole 39 = .ok (.iconst 1, 1) := dk_0 a_Mo_isRole_39 (dko_4 _)
theorem d_Mo_isRole_40 : decode b_Mo_isRole 40 = .ok (.goto 4, 3) := dk_S2 a_Mo_isRole_40 (dko_167 _) (by decide +kernel)
theorem d_Mo_isRole_43 : decode b_Mo_isRole 43 = .ok (.iconst 0, 1) := dk_0 a_Mo_isRole_43 (dko_3 _)
theorem d_Mo_isRole_44 : decode b_Mo_isRole 44 = .ok (.ireturn, 1) := dk_0 a_Mo_isRole_44 (dko_172 _)
set_option maxHeartbeats 4000000 in
set_option maxRecDepth 100000 in
theorem ok_Mo_isRole (pc : Nat) : OpS mt mi_Mo_isRole pc (cs_Mo_isRole pc) := (os_n (os_n (os_n (os_n (os_l (so_iload_n d_Mo_isRole_0 rfl)) (os_n (os_l (so_iflt d_Mo_isRole_1 (by decide))) (os_l (so_iload_n d_Mo_isRole_4 rfl)))) (os_n (os_l (so_aload_n d_Mo_isRole_5 rfl)) (os_n (os_l (so_get (C := R_Mo) (T := F_Mo) (N := 87) (j := 2) in_Mo rfl (by decide) mw_1796 d_Mo_isRole_6)) (os_l (so_getN (C := R_Tx) (T := F_Tx) (N := 39) (j := 32) in_Tx rfl (by decide) nw_1620 d_Mo_isRole_9))))) (os_n (os_n (os_l (so_icge d_Mo_isRole_12 (by decide))) (os_n (os_l (so_aload_n d_Mo_isRole_15 rfl)) (os_l (so_get (C := R_Mo) (T := F_Mo) (N := 87) (j := 2) in_Mo rfl (by decide) mw_1796 d_Mo_isRole_16)))) (os_n (os_l (so_getN (C := R_Tx) (T := F_Tx) (N := 39) (j := 27) in_Tx rfl (by decide) nw_1612 d_Mo_isRole_19)) (os_n (os_l (so_bipush d_Mo_isRole_22 (by decide))) (os_l (so_aload_n d_Mo_isRole_24 rfl)))))) (os_n (os_n (os_n (os_l (so_get (C := R_Mo) (T := F_Mo) (N := 87) (j := 2) in_Mo rfl (by decide) mw_1796 d_Mo_isRole_25)) (os_n (os_l (so_getN (C := R_Tx) (T := F_Tx) (N := 39) (j := 12) in_Tx rfl (by decide) nw_1592 d_Mo_isRole_28)) (os_l (so_imul d_Mo_isRole_31)))) (os_n (os_l (so_iload_n d_Mo_isRole_32 rfl)) (os_n (os_l (so_iadd d_Mo_isRole_33)) (os_l (so_iaload d_Mo_isRole_34))))) (os_n (os_n (os_l (so_iload_n d_Mo_isRole_35 rfl)) (os_n (os_l (so_icne d_Mo_isRole_36 (by decide))) (os_l (so_iconst d_Mo_isRole_39 (by decide))))) (os_n (os_l (so_goto d_Mo_isRole_40 (by decide))) (os_n (os_l (so_iconst d_Mo_isRole_43 (by decide))) (os_l (so_zreturn rfl d_Mo_isRole_44)))))))
abbrev t_Mo_sense_36 : List UInt8 := 172 :: []
abbrev t_Mo_sense_35 : List UInt8 := 4 :: t_Mo_sense_36
abbrev t_Mo_sense_34 : List UInt8 := 79 :: t_Mo_sense_35
abbrev t_Mo_sense_33 : List UInt8 := 29 :: t_Mo_sense_34
abbrev t_Mo_sense_32 : List UInt8 := 27 :: t_Mo_sense_33
abbrev t_Mo_sense_29 : List UInt8 := 180 :: 0 :: 147 :: t_Mo_sense_32
abbrev t_Mo_sense_28 : List UInt8 := 42 :: t_Mo_sense_29
abbrev t_Mo_sense_27 : List UInt8 := 79 :: t_Mo_sense_28
abbrev t_Mo_sense_26 : List UInt8 := 28 :: t_Mo_sense_27
abbrev t_Mo_sense_25 : List UInt8 := 27 :: t_Mo_sense_26
abbrev t_Mo_sense_22 : List UInt8 := 180 :: 0 :: 144 :: t_Mo_sense_25
abbrev t_Mo_sense_21 : List UInt8 := 42 :: t_Mo_sense_22
abbrev t_Mo_sense_20 : List UInt8 := 172 :: t_Mo_sense_21
abbrev t_Mo_sense_19 : List UInt8 := 3 :: t_Mo_sense_20
abbrev t_Mo_sense_16 : List UInt8 := 164 :: 0 :: 5 :: t_Mo_sense_19
abbrev t_Mo_sense_15 : List UInt8 := 8 :: t_Mo_sense_16
abbrev t_Mo_sense_14 : List UInt8 := 28 :: t_Mo_sense_15
abbrev t_Mo_sense_11 : List UInt8 := 155 :: 0 :: 8 :: t_Mo_sense_14
abbrev t_Mo_sense_10 : List UInt8 := 28 :: t_Mo_sense_11
abbrev t_Mo_sense_7 : List UInt8 := 153 :: 0 :: 12 :: t_Mo_sense_10
abbrev t_Mo_sense_4 : List UInt8 := 182 :: 1 :: 195 :: t_Mo_sense_7
abbrev t_Mo_sense_2 : List UInt8 := 16 :: 30 :: t_Mo_sense_4
abbrev t_Mo_sense_1 : List UInt8 := 27 :: t_Mo_sense_2
abbrev t_Mo_sense_0 : List UInt8 := 42 :: t_Mo_sense_1
theorem a_Mo_sense_0 : dk_at b_Mo_sense 0 t_Mo_sense_0 := dk_start (by decide +kernel)
theorem a_Mo_sense_1 : dk_at b_Mo_sense 1 t_Mo_sense_1 := dk_go 1 a_Mo_sense_0 rfl
theorem a_Mo_sense_2 : dk_at b_Mo_sense 2 t_Mo_sense_2 := dk_go 1 a_Mo_sense_1 rfl
theorem a_Mo_sense_4 : dk_at b_Mo_sense 4 t_Mo_sense_4 := dk_go 2 a_Mo_sense_2 rfl
theorem a_Mo_sense_7 : dk_at b_Mo_sense 7 t_Mo_sense_7 := dk_go 3 a_Mo_sense_4 rfl
theorem a_Mo_sense_10 : dk_at b_Mo_sense 10 t_Mo_sense_10 := dk_go 3 a_Mo_sense_7 rfl
theorem a_Mo_sense_11 : dk_at b_Mo_sense 11 t_Mo_sense_11 := dk_go 1 a_Mo_sense_10 rfl
theorem a_Mo_sense_14 : dk_at b_Mo_sense 14 t_Mo_sense_14 := dk_go 3 a_Mo_sense_11 rfl
theorem a_Mo_sense_15 : dk_at b_Mo_sense 15 t_Mo_sense_15 := dk_go 1 a_Mo_sense_14 rfl
theorem a_Mo_sense_16 : dk_at b_Mo_sense 16 t_Mo_sense_16 := dk_go 1 a_Mo_sense_15 rfl
theorem a_Mo_sense_19 : dk_at b_Mo_sense 19 t_Mo_sense_19 := dk_go 3 a_Mo_sense_16 rfl
theorem a_Mo_sense_20 : dk_at b_Mo_sense 20 t_Mo_sense_20 := dk_go 1 a_Mo_sense_19 rfl
theorem a_Mo_sense_21 : dk_at b_Mo_sense 21 t_Mo_sense_21 := dk_go 1 a_Mo_sense_20 rfl
theorem a_Mo_sense_22 : dk_at b_Mo_sense 22 t_Mo_sense_22 := dk_go 1 a_Mo_sense_21 rfl
theorem a_Mo_sense_25 : dk_at b_Mo_sense 25 t_Mo_sense_25 := dk_go 3 a_Mo_sense_22 rfl
theorem a_Mo_sense_26 : dk_at b_Mo_sense 26 t_Mo_sense_26 := dk_go 1 a_Mo_sense_25 rfl
theorem a_Mo_sense_27 : dk_at b_Mo_sense 27 t_Mo_sense_27 := dk_go 1 a_Mo_sense_26 rfl
theorem a_Mo_sense_28 : dk_at b_Mo_sense 28 t_Mo_sense_28 := dk_go 1 a_Mo_sense_27 rfl
theorem a_Mo_sense_29 : dk_at b_Mo_sense 29 t_Mo_sense_29 := dk_go 1 a_Mo_sense_28 rfl
theorem a_Mo_sense_32 : dk_at b_Mo_sense 32 t_Mo_sense_32 := dk_go 3 a_Mo_sense_29 rfl
theorem a_Mo_sense_33 : dk_at b_Mo_sense 33 t_Mo_sense_33 := dk_go 1 a_Mo_sense_32 rfl
theorem a_Mo_sense_34 : dk_at b_Mo_sense 34 t_Mo_sense_34 := dk_go 1 a_Mo_sense_33 rfl
theorem a_Mo_sense_35 : dk_at b_Mo_sense 35 t_Mo_sense_35 := dk_go 1 a_Mo_sense_34 rfl
theorem a_Mo_sense_36 : dk_at b_Mo_sense 36 t_Mo_sense_36 := dk_go 1 a_Mo_sense_35 rfl
theorem d_Mo_sense_0 : decode b_Mo_sense 0 = .ok (.aload_n 0, 1) := dk_0 a_Mo_sense_0 (dko_42 _)
theorem d_Mo_sense_1 : decode b_Mo_sense 1 = .ok (.iload_n 1, 1) := dk_0 a_Mo_sense_1 (dko_27 _)
theorem d_Mo_sense_2 : decode b_Mo_sense 2 = .ok (.bipush 30, 2) := dk_S1 a_Mo_sense_2 (dko_16 _) (by decide +kernel)
theorem d_Mo_sense_4 : decode b_Mo_sense 4 = .ok (.invokevirtual 451, 3) := dk_U2 a_Mo_sense_4 (dko_182 _) rfl
theorem d_Mo_sense_7 : decode b_Mo_sense 7 = .ok (.ifCond .eq 12, 3) := dk_S2 a_Mo_sense_7 (dko_153 _) (by decide +kernel)
theorem d_Mo_sense_10 : decode b_Mo_sense 10 = .ok (.iload_n 2, 1) := dk_0 a_Mo_sense_10 (dko_28 _)
theorem d_Mo_sense_11 : decode b_Mo_sense 11 = .ok (.ifCond .lt 8, 3) := dk_S2 a_Mo_sense_11 (dko_155 _) (by decide +kernel)
theorem d_Mo_sense_14 : decode b_Mo_sense 14 = .ok (.iload_n 2, 1) := dk_0 a_Mo_sense_14 (dko_28 _)
theorem d_Mo_sense_15 : decode b_Mo_sense 15 = .ok (.iconst 5, 1) := dk_0 a_Mo_sense_15 (dko_8 _)
theorem d_Mo_sense_16 : decode b_Mo_sense 16 = .ok (.if_icmp .le 5, 3) := dk_S2 a_Mo_sense_16 (dko_164 _) (by decide +kernel)
theorem d_Mo_sense_19 : decode b_Mo_sense 19 = .ok (.iconst 0, 1) := dk_0 a_Mo_sense_19 (dko_3 _)
theorem d_Mo_sense_20 : decode b_Mo_sense 20 = .ok (.ireturn, 1) := dk_0 a_Mo_sense_20 (dko_172 _)
theorem d_Mo_sense_21 : decode b_Mo_sense 21 = .ok (.aload_n 0, 1) := dk_0 a_Mo_sense_21 (dko_42 _)
theorem d_Mo_sense_22 : decode b_Mo_sense 22 = .ok (.getfield 144, 3) := dk_U2 a_Mo_sense_22 (dko_180 _) rfl
theorem d_Mo_sense_25 : decode b_Mo_sense 25 = .ok (.iload_n 1, 1) := dk_0 a_Mo_sense_25 (dko_27 _)
theorem d_Mo_sense_26 : decode b_Mo_sense 26 = .ok (.iload_n 2, 1) := dk_0 a_Mo_sense_26 (dko_28 _)
theorem d_Mo_sense_27 : decode b_Mo_sense 27 = .ok (.iastore, 1) := dk_0 a_Mo_sense_27 (dko_79 _)
theorem d_Mo_sense_28 : decode b_Mo_sense 28 = .ok (.aload_n 0, 1) := dk_0 a_Mo_sense_28 (dko_42 _)
theorem d_Mo_sense_29 : decode b_Mo_sense 29 = .ok (.getfield 147, 3) := dk_U2 a_Mo_sense_29 (dko_180 _) rfl
theorem d_Mo_sense_32 : decode b_Mo_sense 32 = .ok (.iload_n 1, 1) := dk_0 a_Mo_sense_32 (dko_27 _)
theorem d_Mo_sense_33 : decode b_Mo_sense 33 = .ok (.iload_n 3, 1) := dk_0 a_Mo_sense_33 (dko_29 _)
theorem d_Mo_sense_34 : decode b_Mo_sense 34 = .ok (.iastore, 1) := dk_0 a_Mo_sense_34 (dko_79 _)
theorem d_Mo_sense_35 : decode b_Mo_sense 35 = .ok (.iconst 1, 1) := dk_0 a_Mo_sense_35 (dko_4 _)
theorem d_Mo_sense_36 : decode b_Mo_sense 36 = .ok (.ireturn, 1) := dk_0 a_Mo_sense_36 (dko_172 _)
set_option maxHeartbeats 4000000 in
set_option maxRecDepth 100000 in
theorem ok_Mo_sense (pc : Nat) : OpS mt mi_Mo_sense pc (cs_Mo_sense pc) := (os_n (os_n (os_n (os_n (os_l (so_aload_n d_Mo_sense_0 rfl)) (os_n (os_l (so_iload_n d_Mo_sense_1 rfl)) (os_l (so_bipush d_Mo_sense_2 (by decide))))) (os_n (os_l (so_callV (iv := mi_Mo_isRole) rfl rfl rfl mw_2529 mw_2531 sl_173 mw_18 mw_2532 ⟨by decide +kernel, by decide +kernel, by decide +kernel⟩ (by decide) d_Mo_sense_4)) (os_n (os_l (so_ifeq d_Mo_sense_7 (by decide))) (os_l (so_iload_n d_Mo_sense_10 rfl))))) (os_n (os_n (os_l (so_iflt d_Mo_sense_11 (by decide))) (os_n (os_l (so_iload_n d_Mo_sense_14 rfl)) (os_l (so_iconst d_Mo_sense_15 (by decide))))) (os_n (os_l (so_icle d_Mo_sense_16 (by decide))) (os_n (os_l (so_iconst d_Mo_sense_19 (by decide))) (os_l (so_zreturn rfl d_Mo_sense_20)))))) (os_n (os_n (os_n (os_l (so_aload_n d_Mo_sense_21 rfl)) (os_n (os_l (so_get (C := R_Mo) (T := F_Mo) (N := 87) (j := 53) in_Mo rfl (by decide) mw_1847 d_Mo_sense_22)) (os_l (so_iload_n d_Mo_sense_25 rfl)))) (os_n (os_l (so_iload_n d_Mo_sense_26 rfl)) (os_n (os_l (so_iastore d_Mo_sense_27)) (os_l (so_aload_n d_Mo_sense_28 rfl))))) (os_n (os_n (os_l (so_get (C := R_Mo) (T := F_Mo) (N := 87) (j := 54) in_Mo rfl (by decide) mw_1848 d_Mo_sense_29)) (os_n (os_l (so_iload_n d_Mo_sense_32 rfl)) (os_l (so_iload_n d_Mo_sense_33 rfl)))) (os_n (os_l (so_iastore d_Mo_sense_34)) (os_n (os_l (so_iconst d_Mo_sense_35 (by decide))) (os_l (so_zreturn rfl d_Mo_sense_36)))))))
abbrev t_Mo_watch_44 : List UInt8 := 172 :: []
abbrev t_Mo_watch_43 : List UInt8 := 4 :: t_Mo_watch_44
abbrev t_Mo_watch_42 : List UInt8 := 80 :: t_Mo_watch_43
abbrev t_Mo_watch_40 : List UInt8 := 22 :: 4 :: t_Mo_watch_42
abbrev t_Mo_watch_39 : List UInt8 := 27 :: t_Mo_watch_40
abbrev t_Mo_watch_36 : List UInt8 := 180 :: 0 :: 156 :: t_Mo_watch_39
abbrev t_Mo_watch_35 : List UInt8 := 42 :: t_Mo_watch_36
abbrev t_Mo_watch_34 : List UInt8 := 79 :: t_Mo_watch_35
abbrev t_Mo_watch_33 : List UInt8 := 29 :: t_Mo_watch_34
abbrev t_Mo_watch_32 : List UInt8 := 27 :: t_Mo_watch_33
abbrev t_Mo_watch_29 : List UInt8 := 180 :: 0 :: 153 :: t_Mo_watch_32
abbrev t_Mo_watch_28 : List UInt8 := 42 :: t_Mo_watch_29
abbrev t_Mo_watch_27 : List UInt8 := 79 :: t_Mo_watch_28
abbrev t_Mo_watch_26 : List UInt8 := 28 :: t_Mo_watch_27
abbrev t_Mo_watch_25 : List UInt8 := 27 :: t_Mo_watch_26
abbrev t_Mo_watch_22 : List UInt8 := 180 :: 0 :: 150 :: t_Mo_watch_25
abbrev t_Mo_watch_21 : List UInt8 := 42 :: t_Mo_watch_22
abbrev t_Mo_watch_20 : List UInt8 := 172 :: t_Mo_watch_21
abbrev t_Mo_watch_19 : List UInt8 := 3 :: t_Mo_watch_20
abbrev t_Mo_watch_16 : List UInt8 := 164 :: 0 :: 5 :: t_Mo_watch_19
abbrev t_Mo_watch_15 : List UInt8 := 8 :: t_Mo_watch_16
abbrev t_Mo_watch_14 : List UInt8 := 28 :: t_Mo_watch_15
abbrev t_Mo_watch_11 : List UInt8 := 155 :: 0 :: 8 :: t_Mo_watch_14
abbrev t_Mo_watch_10 : List UInt8 := 28 :: t_Mo_watch_11
abbrev t_Mo_watch_7 : List UInt8 := 163 :: 0 :: 12 :: t_Mo_watch_10
abbrev t_Mo_watch_5 : List UInt8 := 16 :: 15 :: t_Mo_watch_7
abbrev t_Mo_watch_4 : List UInt8 := 27 :: t_Mo_watch_5
abbrev t_Mo_watch_1 : List UInt8 := 155 :: 0 :: 18 :: t_Mo_watch_4
abbrev t_Mo_watch_0 : List UInt8 := 27 :: t_Mo_watch_1
theorem a_Mo_watch_0 : dk_at b_Mo_watch 0 t_Mo_watch_0 := dk_start (by decide +kernel)
theorem a_Mo_watch_1 : dk_at b_Mo_watch 1 t_Mo_watch_1 := dk_go 1 a_Mo_watch_0 rfl
theorem a_Mo_watch_4 : dk_at b_Mo_watch 4 t_Mo_watch_4 := dk_go 3 a_Mo_watch_1 rfl
theorem a_Mo_watch_5 : dk_at b_Mo_watch 5 t_Mo_watch_5 := dk_go 1 a_Mo_watch_4 rfl
theorem a_Mo_watch_7 : dk_at b_Mo_watch 7 t_Mo_watch_7 := dk_go 2 a_Mo_watch_5 rfl
theorem a_Mo_watch_10 : dk_at b_Mo_watch 10 t_Mo_watch_10 := dk_go 3 a_Mo_watch_7 rfl
theorem a_Mo_watch_11 : dk_at b_Mo_watch 11 t_Mo_watch_11 := dk_go 1 a_Mo_watch_10 rfl
theorem a_Mo_watch_14 : dk_at b_Mo_watch 14 t_Mo_watch_14 := dk_go 3 a_Mo_watch_11 rfl
theorem a_Mo_watch_15 : dk_at b_Mo_watch 15 t_Mo_watch_15 := dk_go 1 a_Mo_watch_14 rfl
theorem a_Mo_watch_16 : dk_at b_Mo_watch 16 t_Mo_watch_16 := dk_go 1 a_Mo_watch_15 rfl
theorem a_Mo_watch_19 : dk_at b_Mo_watch 19 t_Mo_watch_19 := dk_go 3 a_Mo_watch_16 rfl
theorem a_Mo_watch_20 : dk_at b_Mo_watch 20 t_Mo_watch_20 := dk_go 1 a_Mo_watch_19 rfl
theorem a_Mo_watch_21 : dk_at b_Mo_watch 21 t_Mo_watch_21 := dk_go 1 a_Mo_watch_20 rfl
theorem a_Mo_watch_22 : dk_at b_Mo_watch 22 t_Mo_watch_22 := dk_go 1 a_Mo_watch_21 rfl
theorem a_Mo_watch_25 : dk_at b_Mo_watch 25 t_Mo_watch_25 := dk_go 3 a_Mo_watch_22 rfl
theorem a_Mo_watch_26 : dk_at b_Mo_watch 26 t_Mo_watch_26 := dk_go 1 a_Mo_watch_25 rfl
theorem a_Mo_watch_27 : dk_at b_Mo_watch 27 t_Mo_watch_27 := dk_go 1 a_Mo_watch_26 rfl
theorem a_Mo_watch_28 : dk_at b_Mo_watch 28 t_Mo_watch_28 := dk_go 1 a_Mo_watch_27 rfl
theorem a_Mo_watch_29 : dk_at b_Mo_watch 29 t_Mo_watch_29 := dk_go 1 a_Mo_watch_28 rfl
theorem a_Mo_watch_32 : dk_at b_Mo_watch 32 t_Mo_watch_32 := dk_go 3 a_Mo_watch_29 rfl
theorem a_Mo_watch_33 : dk_at b_Mo_watch 33 t_Mo_watch_33 := dk_go 1 a_Mo_watch_32 rfl
theorem a_Mo_watch_34 : dk_at b_Mo_watch 34 t_Mo_watch_34 := dk_go 1 a_Mo_watch_33 rfl
theorem a_Mo_watch_35 : dk_at b_Mo_watch 35 t_Mo_watch_35 := dk_go 1 a_Mo_watch_34 rfl
theorem a_Mo_watch_36 : dk_at b_Mo_watch 36 t_Mo_watch_36 := dk_go 1 a_Mo_watch_35 rfl
theorem a_Mo_watch_39 : dk_at b_Mo_watch 39 t_Mo_watch_39 := dk_go 3 a_Mo_watch_36 rfl
theorem a_Mo_watch_40 : dk_at b_Mo_watch 40 t_Mo_watch_40 := dk_go 1 a_Mo_watch_39 rfl
theorem a_Mo_watch_42 : dk_at b_Mo_watch 42 t_Mo_watch_42 := dk_go 2 a_Mo_watch_40 rfl
theorem a_Mo_watch_43 : dk_at b_Mo_watch 43 t_Mo_watch_43 := dk_go 1 a_Mo_watch_42 rfl
theorem a_Mo_watch_44 : dk_at b_Mo_watch 44 t_Mo_watch_44 := dk_go 1 a_Mo_watch_43 rfl
theorem d_Mo_watch_0 : decode b_Mo_watch 0 = .ok (.iload_n 1, 1) := dk_0 a_Mo_watch_0 (dko_27 _)
theorem d_Mo_watch_1 : decode b_Mo_watch 1 = .ok (.ifCond .lt 18, 3) := dk_S2 a_Mo_watch_1 (dko_155 _) (by decide +kernel)
theorem d_Mo_watch_4 : decode b_Mo_watch 4 = .ok (.iload_n 1, 1) := dk_0 a_Mo_watch_4 (dko_27 _)
theorem d_Mo_watch_5 : decode b_Mo_watch 5 = .ok (.bipush 15, 2) := dk_S1 a_Mo_watch_5 (dko_16 _) (by decide +kernel)
theorem d_Mo_watch_7 : decode b_Mo_watch 7 = .ok (.if_icmp .gt 12, 3) := dk_S2 a_Mo_watch_7 (dko_163 _) (by decide +kernel)
theorem d_Mo_watch_10 : decode b_Mo_watch 10 = .ok (.iload_n 2, 1) := dk_0 a_Mo_watch_10 (dko_28 _)
theorem d_Mo_watch_11 : decode b_Mo_watch 11 = .ok (.ifCond .lt 8, 3) := dk_S2 a_Mo_watch_11 (dko_155 _) (by decide +kernel)
theorem d_Mo_watch_14 : decode b_Mo_watch 14 = .ok (.iload_n 2, 1) := dk_0 a_Mo_watch_14 (dko_28 _)
theorem d_Mo_watch_15 : decode b_Mo_watch 15 = .ok (.iconst 5, 1) := dk_0 a_Mo_watch_15 (dko_8 _)
theorem d_Mo_watch_16 : decode b_Mo_watch 16 = .ok (.if_icmp .le 5, 3) := dk_S2 a_Mo_watch_16 (dko_164 _) (by decide +kernel)
theorem d_Mo_watch_19 : decode b_Mo_watch 19 = .ok (.iconst 0, 1) := dk_0 a_Mo_watch_19 (dko_3 _)
theorem d_Mo_watch_20 : decode b_Mo_watch 20 = .ok (.ireturn, 1) := dk_0 a_Mo_watch_20 (dko_172 _)
theorem d_Mo_watch_21 : decode b_Mo_watch 21 = .ok (.aload_n 0, 1) := dk_0 a_Mo_watch_21 (dko_42 _)
theorem d_Mo_watch_22 : decode b_Mo_watch 22 = .ok (.getfield 150, 3) := dk_U2 a_Mo_watch_22 (dko_180 _) rfl
theorem d_Mo_watch_25 : decode b_Mo_watch 25 = .ok (.iload_n 1, 1) := dk_0 a_Mo_watch_25 (dko_27 _)
theorem d_Mo_watch_26 : decode b_Mo_watch 26 = .ok (.iload_n 2, 1) := dk_0 a_Mo_watch_26 (dko_28 _)
theorem d_Mo_watch_27 : decode b_Mo_watch 27 = .ok (.iastore, 1) := dk_0 a_Mo_watch_27 (dko_79 _)
theorem d_Mo_watch_28 : decode b_Mo_watch 28 = .ok (.aload_n 0, 1) := dk_0 a_Mo_watch_28 (dko_42 _)
theorem d_Mo_watch_29 : decode b_Mo_watch 29 = .ok (.getfield 153, 3) := dk_U2 a_Mo_watch_29 (dko_180 _) rfl
theorem d_Mo_watch_32 : decode b_Mo_watch 32 = .ok (.iload_n 1, 1) := dk_0 a_Mo_watch_32 (dko_27 _)
theorem d_Mo_watch_33 : decode b_Mo_watch 33 = .ok (.iload_n 3, 1) := dk_0 a_Mo_watch_33 (dko_29 _)
theorem d_Mo_watch_34 : decode b_Mo_watch 34 = .ok (.iastore, 1) := dk_0 a_Mo_watch_34 (dko_79 _)
theorem d_Mo_watch_35 : decode b_Mo_watch 35 = .ok (.aload_n 0, 1) := dk_0 a_Mo_watch_35 (dko_42 _)
theorem d_Mo_watch_36 : decode b_Mo_watch 36 = .ok (.getfield 156, 3) := dk_U2 a_Mo_watch_36 (dko_180 _) rfl
theorem d_Mo_watch_39 : decode b_Mo_watch 39 = .ok (.iload_n 1, 1) := dk_0 a_Mo_watch_39 (dko_27 _)
theorem d_Mo_watch_40 : decode b_Mo_watch 40 = .ok (.lload 4, 2) := dk_U1 a_Mo_watch_40 (dko_22 _) rfl
theorem d_Mo_watch_42 : decode b_Mo_watch 42 = .ok (.lastore, 1) := dk_0 a_Mo_watch_42 (dko_80 _)
theorem d_Mo_watch_43 : decode b_Mo_watch 43 = .ok (.iconst 1, 1) := dk_0 a_Mo_watch_43 (dko_4 _)
theorem d_Mo_watch_44 : decode b_Mo_watch 44 = .ok (.ireturn, 1) := dk_0 a_Mo_watch_44 (dko_172 _)
set_option maxHeartbeats 4000000 in
set_option maxRecDepth 100000 in
theorem ok_Mo_watch (pc : Nat) : OpS mt mi_Mo_watch pc (cs_Mo_watch pc) := (os_n (os_n (os_n (os_n (os_l (so_iload_n d_Mo_watch_0 rfl)) (os_n (os_l (so_iflt d_Mo_watch_1 (by decide))) (os_l (so_iload_n d_Mo_watch_4 rfl)))) (os_n (os_n (os_l (so_bipush d_Mo_watch_5 (by decide))) (os_l (so_icgt d_Mo_watch_7 (by decide)))) (os_n (os_l (so_iload_n d_Mo_watch_10 rfl)) (os_l (so_iflt d_Mo_watch_11 (by decide)))))) (os_n (os_n (os_l (so_iload_n d_Mo_watch_14 rfl)) (os_n (os_l (so_iconst d_Mo_watch_15 (by decide))) (os_l (so_icle d_Mo_watch_16 (by decide))))) (os_n (os_n (os_l (so_iconst d_Mo_watch_19 (by decide))) (os_l (so_zreturn rfl d_Mo_watch_20))) (os_n (os_l (so_aload_n d_Mo_watch_21 rfl)) (os_l (so_get (C := R_Mo) (T := F_Mo) (N := 87) (j := 55) in_Mo rfl (by decide) mw_1849 d_Mo_watch_22)))))) (os_n (os_n (os_n (os_l (so_iload_n d_Mo_watch_25 rfl)) (os_n (os_l (so_iload_n d_Mo_watch_26 rfl)) (os_l (so_iastore d_Mo_watch_27)))) (os_n (os_n (os_l (so_aload_n d_Mo_watch_28 rfl)) (os_l (so_get (C := R_Mo) (T := F_Mo) (N := 87) (j := 56) in_Mo rfl (by decide) mw_1850 d_Mo_watch_29))) (os_n (os_l (so_iload_n d_Mo_watch_32 rfl)) (os_l (so_iload_n d_Mo_watch_33 rfl))))) (os_n (os_n (os_n (os_l (so_iastore d_Mo_watch_34)) (os_l (so_aload_n d_Mo_watch_35 rfl))) (os_n (os_l (so_get (C := R_Mo) (T := F_Mo) (N := 87) (j := 57) in_Mo rfl (by decide) mw_1851 d_Mo_watch_36)) (os_l (so_iload_n d_Mo_watch_39 rfl)))) (os_n (os_n (os_l (so_lload d_Mo_watch_40)) (os_l (so_lastore d_Mo_watch_42))) (os_n (os_l (so_iconst d_Mo_watch_43 (by decide))) (os_l (so_zreturn rfl d_Mo_watch_44)))))))
abbrev t_Mo_signal_20 : List UInt8 := 172 :: []
abbrev t_Mo_signal_19 : List UInt8 := 4 :: t_Mo_signal_20
abbrev t_Mo_signal_18 : List UInt8 := 80 :: t_Mo_signal_19
abbrev t_Mo_signal_17 : List UInt8 := 32 :: t_Mo_signal_18
abbrev t_Mo_signal_16 : List UInt8 := 27 :: t_Mo_signal_17
abbrev t_Mo_signal_13 : List UInt8 := 180 :: 0 :: 159 :: t_Mo_signal_16
abbrev t_Mo_signal_12 : List UInt8 := 42 :: t_Mo_signal_13
abbrev t_Mo_signal_11 : List UInt8 := 172 :: t_Mo_signal_12
abbrev t_Mo_signal_10 : List UInt8 := 3 :: t_Mo_signal_11
abbrev t_Mo_signal_7 : List UInt8 := 154 :: 0 :: 5 :: t_Mo_signal_10
abbrev t_Mo_signal_4 : List UInt8 := 182 :: 1 :: 195 :: t_Mo_signal_7
abbrev t_Mo_signal_2 : List UInt8 := 16 :: 30 :: t_Mo_signal_4
abbrev t_Mo_signal_1 : List UInt8 := 27 :: t_Mo_signal_2
abbrev t_Mo_signal_0 : List UInt8 := 42 :: t_Mo_signal_1
theorem a_Mo_signal_0 : dk_at b_Mo_signal 0 t_Mo_signal_0 := dk_start (by decide +kernel)
theorem a_Mo_signal_1 : dk_at b_Mo_signal 1 t_Mo_signal_1 := dk_go 1 a_Mo_signal_0 rfl
theorem a_Mo_signal_2 : dk_at b_Mo_signal 2 t_Mo_signal_2 := dk_go 1 a_Mo_signal_1 rfl
theorem a_Mo_signal_4 : dk_at b_Mo_signal 4 t_Mo_signal_4 := dk_go 2 a_Mo_signal_2 rfl
theorem a_Mo_signal_7 : dk_at b_Mo_signal 7 t_Mo_signal_7 := dk_go 3 a_Mo_signal_4 rfl
theorem a_Mo_signal_10 : dk_at b_Mo_signal 10 t_Mo_signal_10 := dk_go 3 a_Mo_signal_7 rfl
theorem a_Mo_signal_11 : dk_at b_Mo_signal 11 t_Mo_signal_11 := dk_go 1 a_Mo_signal_10 rfl
theorem a_Mo_signal_12 : dk_at b_Mo_signal 12 t_Mo_signal_12 := dk_go 1 a_Mo_signal_11 rfl
theorem a_Mo_signal_13 : dk_at b_Mo_signal 13 t_Mo_signal_13 := dk_go 1 a_Mo_signal_12 rfl
theorem a_Mo_signal_16 : dk_at b_Mo_signal 16 t_Mo_signal_16 := dk_go 3 a_Mo_signal_13 rfl
theorem a_Mo_signal_17 : dk_at b_Mo_signal 17 t_Mo_signal_17 := dk_go 1 a_Mo_signal_16 rfl
theorem a_Mo_signal_18 : dk_at b_Mo_signal 18 t_Mo_signal_18 := dk_go 1 a_Mo_signal_17 rfl
theorem a_Mo_signal_19 : dk_at b_Mo_signal 19 t_Mo_signal_19 := dk_go 1 a_Mo_signal_18 rfl
theorem a_Mo_signal_20 : dk_at b_Mo_signal 20 t_Mo_signal_20 := dk_go 1 a_Mo_signal_19 rfl
theorem d_Mo_signal_0 : decode b_Mo_signal 0 = .ok (.aload_n 0, 1) := dk_0 a_Mo_signal_0 (dko_42 _)
theorem d_Mo_signal_1 : decode b_Mo_signal 1 = .ok (.iload_n 1, 1) := dk_0 a_Mo_signal_1 (dko_27 _)
theorem d_Mo_signal_2 : decode b_Mo_signal 2 = .ok (.bipush 30, 2) := dk_S1 a_Mo_signal_2 (dko_16 _) (by decide +kernel)
theorem d_Mo_signal_4 : decode b_Mo_signal 4 = .ok (.invokevirtual 451, 3) := dk_U2 a_Mo_signal_4 (dko_182 _) rfl
theorem d_Mo_signal_7 : decode b_Mo_signal 7 = .ok (.ifCond .ne 5, 3) := dk_S2 a_Mo_signal_7 (dko_154 _) (by decide +kernel)
theorem d_Mo_signal_10 : decode b_Mo_signal 10 = .ok (.iconst 0, 1) := dk_0 a_Mo_signal_10 (dko_3 _)
theorem d_Mo_signal_11 : decode b_Mo_signal 11 = .ok (.ireturn, 1) := dk_0 a_Mo_signal_11 (dko_172 _)
theorem d_Mo_signal_12 : decode b_Mo_signal 12 = .ok (.aload_n 0, 1) := dk_0 a_Mo_signal_12 (dko_42 _)
theorem d_Mo_signal_13 : decode b_Mo_signal 13 = .ok (.getfield 159, 3) := dk_U2 a_Mo_signal_13 (dko_180 _) rfl
theorem d_Mo_signal_16 : decode b_Mo_signal 16 = .ok (.iload_n 1, 1) := dk_0 a_Mo_signal_16 (dko_27 _)
theorem d_Mo_signal_17 : decode b_Mo_signal 17 = .ok (.lload_n 2, 1) := dk_0 a_Mo_signal_17 (dko_32 _)
theorem d_Mo_signal_18 : decode b_Mo_signal 18 = .ok (.lastore, 1) := dk_0 a_Mo_signal_18 (dko_80 _)
theorem d_Mo_signal_19 : decode b_Mo_signal 19 = .ok (.iconst 1, 1) := dk_0 a_Mo_signal_19 (dko_4 _)
theorem d_Mo_signal_20 : decode b_Mo_signal 20 = .ok (.ireturn, 1) := dk_0 a_Mo_signal_20 (dko_172 _)
set_option maxHeartbeats 4000000 in
set_option maxRecDepth 100000 in
theorem ok_Mo_signal (pc : Nat) : OpS mt mi_Mo_signal pc (cs_Mo_signal pc) := (os_n (os_n (os_n (os_l (so_aload_n d_Mo_signal_0 rfl)) (os_n (os_l (so_iload_n d_Mo_signal_1 rfl)) (os_l (so_bipush d_Mo_signal_2 (by decide))))) (os_n (os_n (os_l (so_callV (iv := mi_Mo_isRole) rfl rfl rfl mw_2529 mw_2531 sl_173 mw_18 mw_2532 ⟨by decide +kernel, by decide +kernel, by decide +kernel⟩ (by decide) d_Mo_signal_4)) (os_l (so_ifne d_Mo_signal_7 (by decide)))) (os_n (os_l (so_iconst d_Mo_signal_10 (by decide))) (os_l (so_zreturn rfl d_Mo_signal_11))))) (os_n (os_n (os_l (so_aload_n d_Mo_signal_12 rfl)) (os_n (os_l (so_get (C := R_Mo) (T := F_Mo) (N := 87) (j := 58) in_Mo rfl (by decide) mw_1852 d_Mo_signal_13)) (os_l (so_iload_n d_Mo_signal_16 rfl)))) (os_n (os_n (os_l (so_lload_n d_Mo_signal_17 rfl)) (os_l (so_lastore d_Mo_signal_18))) (os_n (os_l (so_iconst d_Mo_signal_19 (by decide))) (os_l (so_zreturn rfl d_Mo_signal_20))))))
abbrev t_Mo_value_30 : List UInt8 := 173 :: []
abbrev t_Mo_value_29 : List UInt8 := 9 :: t_Mo_value_30
abbrev t_Mo_value_26 : List UInt8 := 167 :: 0 :: 4 :: t_Mo_value_29
abbrev t_Mo_value_25 : List UInt8 := 47 :: t_Mo_value_26
abbrev t_Mo_value_24 : List UInt8 := 27 :: t_Mo_value_25
abbrev t_Mo_value_21 : List UInt8 := 180 :: 0 :: 159 :: t_Mo_value_24
abbrev t_Mo_value_20 : List UInt8 := 42 :: t_Mo_value_21
abbrev t_Mo_value_17 : List UInt8 := 153 :: 0 :: 12 :: t_Mo_value_20
abbrev t_Mo_value_14 : List UInt8 := 182 :: 1 :: 195 :: t_Mo_value_17
abbrev t_Mo_value_12 : List UInt8 := 16 :: 31 :: t_Mo_value_14
abbrev t_Mo_value_11 : List UInt8 := 27 :: t_Mo_value_12
abbrev t_Mo_value_10 : List UInt8 := 42 :: t_Mo_value_11
abbrev t_Mo_value_7 : List UInt8 := 154 :: 0 :: 13 :: t_Mo_value_10
abbrev t_Mo_value_4 : List UInt8 := 182 :: 1 :: 195 :: t_Mo_value_7
abbrev t_Mo_value_2 : List UInt8 := 16 :: 30 :: t_Mo_value_4
abbrev t_Mo_value_1 : List UInt8 := 27 :: t_Mo_value_2
abbrev t_Mo_value_0 : List UInt8 := 42 :: t_Mo_value_1
theorem a_Mo_value_0 : dk_at b_Mo_value 0 t_Mo_value_0 := dk_start (by decide +kernel)
theorem a_Mo_value_1 : dk_at b_Mo_value 1 t_Mo_value_1 := dk_go 1 a_Mo_value_0 rfl
theorem a_Mo_value_2 : dk_at b_Mo_value 2 t_Mo_value_2 := dk_go 1 a_Mo_value_1 rfl
theorem a_Mo_value_4 : dk_at b_Mo_value 4 t_Mo_value_4 := dk_go 2 a_Mo_value_2 rfl
theorem a_Mo_value_7 : dk_at b_Mo_value 7 t_Mo_value_7 := dk_go 3 a_Mo_value_4 rfl
theorem a_Mo_value_10 : dk_at b_Mo_value 10 t_Mo_value_10 := dk_go 3 a_Mo_value_7 rfl
theorem a_Mo_value_11 : dk_at b_Mo_value 11 t_Mo_value_11 := dk_go 1 a_Mo_value_10 rfl
theorem a_Mo_value_12 : dk_at b_Mo_value 12 t_Mo_value_12 := dk_go 1 a_Mo_value_11 rfl
theorem a_Mo_value_14 : dk_at b_Mo_value 14 t_Mo_value_14 := dk_go 2 a_Mo_value_12 rfl
theorem a_Mo_value_17 : dk_at b_Mo_value 17 t_Mo_value_17 := dk_go 3 a_Mo_value_14 rfl
theorem a_Mo_value_20 : dk_at b_Mo_value 20 t_Mo_value_20 := dk_go 3 a_Mo_value_17 rfl
theorem a_Mo_value_21 : dk_at b_Mo_value 21 t_Mo_value_21 := dk_go 1 a_Mo_value_20 rfl
theorem a_Mo_value_24 : dk_at b_Mo_value 24 t_Mo_value_24 := dk_go 3 a_Mo_value_21 rfl
theorem a_Mo_value_25 : dk_at b_Mo_value 25 t_Mo_value_25 := dk_go 1 a_Mo_value_24 rfl
theorem a_Mo_value_26 : dk_at b_Mo_value 26 t_Mo_value_26 := dk_go 1 a_Mo_value_25 rfl
theorem a_Mo_value_29 : dk_at b_Mo_value 29 t_Mo_value_29 := dk_go 3 a_Mo_value_26 rfl
theorem a_Mo_value_30 : dk_at b_Mo_value 30 t_Mo_value_30 := dk_go 1 a_Mo_value_29 rfl
theorem d_Mo_value_0 : decode b_Mo_value 0 = .ok (.aload_n 0, 1) := dk_0 a_Mo_value_0 (dko_42 _)
theorem d_Mo_value_1 : decode b_Mo_value 1 = .ok (.iload_n 1, 1) := dk_0 a_Mo_value_1 (dko_27 _)
theorem d_Mo_value_2 : decode b_Mo_value 2 = .ok (.bipush 30, 2) := dk_S1 a_Mo_value_2 (dko_16 _) (by decide +kernel)
theorem d_Mo_value_4 : decode b_Mo_value 4 = .ok (.invokevirtual 451, 3) := dk_U2 a_Mo_value_4 (dko_182 _) rfl
theorem d_Mo_value_7 : decode b_Mo_value 7 = .ok (.ifCond .ne 13, 3) := dk_S2 a_Mo_value_7 (dko_154 _) (by decide +kernel)
theorem d_Mo_value_10 : decode b_Mo_value 10 = .ok (.aload_n 0, 1) := dk_0 a_Mo_value_10 (dko_42 _)
theorem d_Mo_value_11 : decode b_Mo_value 11 = .ok (.iload_n 1, 1) := dk_0 a_Mo_value_11 (dko_27 _)
theorem d_Mo_value_12 : decode b_Mo_value 12 = .ok (.bipush 31, 2) := dk_S1 a_Mo_value_12 (dko_16 _) (by decide +kernel)
theorem d_Mo_value_14 : decode b_Mo_value 14 = .ok (.invokevirtual 451, 3) := dk_U2 a_Mo_value_14 (dko_182 _) rfl
theorem d_Mo_value_17 : decode b_Mo_value 17 = .ok (.ifCond .eq 12, 3) := dk_S2 a_Mo_value_17 (dko_153 _) (by decide +kernel)
theorem d_Mo_value_20 : decode b_Mo_value 20 = .ok (.aload_n 0, 1) := dk_0 a_Mo_value_20 (dko_42 _)
theorem d_Mo_value_21 : decode b_Mo_value 21 = .ok (.getfield 159, 3) := dk_U2 a_Mo_value_21 (dko_180 _) rfl
theorem d_Mo_value_24 : decode b_Mo_value 24 = .ok (.iload_n 1, 1) := dk_0 a_Mo_value_24 (dko_27 _)
theorem d_Mo_value_25 : decode b_Mo_value 25 = .ok (.laload, 1) := dk_0 a_Mo_value_25 (dko_47 _)
theorem d_Mo_value_26 : decode b_Mo_value 26 = .ok (.goto 4, 3) := dk_S2 a_Mo_value_26 (dko_167 _) (by decide +kernel)
theorem d_Mo_value_29 : decode b_Mo_value 29 = .ok (.lconst 0, 1) := dk_0 a_Mo_value_29 (dko_9 _)
theorem d_Mo_value_30 : decode b_Mo_value 30 = .ok (.lreturn, 1) := dk_0 a_Mo_value_30 (dko_173 _)
set_option maxHeartbeats 4000000 in
set_option maxRecDepth 100000 in
theorem ok_Mo_value (pc : Nat) : OpS mt mi_Mo_value pc (cs_Mo_value pc) := (os_n (os_n (os_n (os_n (os_l (so_aload_n d_Mo_value_0 rfl)) (os_l (so_iload_n d_Mo_value_1 rfl))) (os_n (os_l (so_bipush d_Mo_value_2 (by decide))) (os_l (so_callV (iv := mi_Mo_isRole) rfl rfl rfl mw_2529 mw_2531 sl_173 mw_18 mw_2532 ⟨by decide +kernel, by decide +kernel, by decide +kernel⟩ (by decide) d_Mo_value_4)))) (os_n (os_n (os_l (so_ifne d_Mo_value_7 (by decide))) (os_l (so_aload_n d_Mo_value_10 rfl))) (os_n (os_l (so_iload_n d_Mo_value_11 rfl)) (os_l (so_bipush d_Mo_value_12 (by decide)))))) (os_n (os_n (os_n (os_l (so_callV (iv := mi_Mo_isRole) rfl rfl rfl mw_2529 mw_2531 sl_173 mw_18 mw_2532 ⟨by decide +kernel, by decide +kernel, by decide +kernel⟩ (by decide) d_Mo_value_14)) (os_l (so_ifeq d_Mo_value_17 (by decide)))) (os_n (os_l (so_aload_n d_Mo_value_20 rfl)) (os_l (so_get (C := R_Mo) (T := F_Mo) (N := 87) (j := 58) in_Mo rfl (by decide) mw_1852 d_Mo_value_21)))) (os_n (os_n (os_l (so_iload_n d_Mo_value_24 rfl)) (os_l (so_laload d_Mo_value_25))) (os_n (os_l (so_goto d_Mo_value_26 (by decide))) (os_n (os_l (so_lconst d_Mo_value_29 (by decide))) (os_l (so_lreturn rfl d_Mo_value_30)))))))
abbrev t_Mo_sensed_128 : List UInt8 := 173 :: []
abbrev t_Mo_sensed_127 : List UInt8 := 105 :: t_Mo_sensed_128
abbrev t_Mo_sensed_126 : List UInt8 := 133 :: t_Mo_sensed_127
abbrev t_Mo_sensed_123 : List UInt8 := 180 :: 1 :: 70 :: t_Mo_sensed_126
abbrev t_Mo_sensed_122 : List UInt8 := 42 :: t_Mo_sensed_123
abbrev t_Mo_sensed_119 : List UInt8 := 20 :: 1 :: 198 :: t_Mo_sensed_122
abbrev t_Mo_sensed_118 : List UInt8 := 173 :: t_Mo_sensed_119
abbrev t_Mo_sensed_117 : List UInt8 := 105 :: t_Mo_sensed_118
abbrev t_Mo_sensed_116 : List UInt8 := 133 :: t_Mo_sensed_117
abbrev t_Mo_sensed_113 : List UInt8 := 180 :: 1 :: 28 :: t_Mo_sensed_116
abbrev t_Mo_sensed_112 : List UInt8 := 42 :: t_Mo_sensed_113
abbrev t_Mo_sensed_109 : List UInt8 := 20 :: 1 :: 198 :: t_Mo_sensed_112
abbrev t_Mo_sensed_108 : List UInt8 := 173 :: t_Mo_sensed_109
abbrev t_Mo_sensed_105 : List UInt8 := 20 :: 1 :: 200 :: t_Mo_sensed_108
abbrev t_Mo_sensed_102 : List UInt8 := 167 :: 0 :: 6 :: t_Mo_sensed_105
abbrev t_Mo_sensed_101 : List UInt8 := 105 :: t_Mo_sensed_102
abbrev t_Mo_sensed_100 : List UInt8 := 133 :: t_Mo_sensed_101
abbrev t_Mo_sensed_99 : List UInt8 := 46 :: t_Mo_sensed_100
abbrev t_Mo_sensed_98 : List UInt8 := 28 :: t_Mo_sensed_99
abbrev t_Mo_sensed_95 : List UInt8 := 180 :: 0 :: 40 :: t_Mo_sensed_98
abbrev t_Mo_sensed_94 : List UInt8 := 42 :: t_Mo_sensed_95
abbrev t_Mo_sensed_91 : List UInt8 := 20 :: 1 :: 198 :: t_Mo_sensed_94
abbrev t_Mo_sensed_88 : List UInt8 := 153 :: 0 :: 17 :: t_Mo_sensed_91
abbrev t_Mo_sensed_85 : List UInt8 := 182 :: 1 :: 156 :: t_Mo_sensed_88
abbrev t_Mo_sensed_84 : List UInt8 := 28 :: t_Mo_sensed_85
abbrev t_Mo_sensed_83 : List UInt8 := 42 :: t_Mo_sensed_84
abbrev t_Mo_sensed_82 : List UInt8 := 173 :: t_Mo_sensed_83
abbrev t_Mo_sensed_79 : List UInt8 := 20 :: 1 :: 200 :: t_Mo_sensed_82
abbrev t_Mo_sensed_76 : List UInt8 := 167 :: 0 :: 6 :: t_Mo_sensed_79
abbrev t_Mo_sensed_75 : List UInt8 := 105 :: t_Mo_sensed_76
abbrev t_Mo_sensed_74 : List UInt8 := 133 :: t_Mo_sensed_75
abbrev t_Mo_sensed_71 : List UInt8 := 182 :: 1 :: 67 :: t_Mo_sensed_74
abbrev t_Mo_sensed_70 : List UInt8 := 28 :: t_Mo_sensed_71
abbrev t_Mo_sensed_69 : List UInt8 := 42 :: t_Mo_sensed_70
abbrev t_Mo_sensed_66 : List UInt8 := 20 :: 1 :: 198 :: t_Mo_sensed_69
abbrev t_Mo_sensed_63 : List UInt8 := 153 :: 0 :: 16 :: t_Mo_sensed_66
abbrev t_Mo_sensed_60 : List UInt8 := 182 :: 1 :: 159 :: t_Mo_sensed_63
abbrev t_Mo_sensed_59 : List UInt8 := 28 :: t_Mo_sensed_60
abbrev t_Mo_sensed_58 : List UInt8 := 42 :: t_Mo_sensed_59
abbrev t_Mo_sensed_57 : List UInt8 := 173 :: t_Mo_sensed_58
abbrev t_Mo_sensed_54 : List UInt8 := 20 :: 1 :: 200 :: t_Mo_sensed_57
abbrev t_Mo_sensed_51 : List UInt8 := 167 :: 0 :: 6 :: t_Mo_sensed_54
abbrev t_Mo_sensed_50 : List UInt8 := 105 :: t_Mo_sensed_51
abbrev t_Mo_sensed_49 : List UInt8 := 133 :: t_Mo_sensed_50
abbrev t_Mo_sensed_48 : List UInt8 := 46 :: t_Mo_sensed_49
abbrev t_Mo_sensed_47 : List UInt8 := 28 :: t_Mo_sensed_48
abbrev t_Mo_sensed_44 : List UInt8 := 180 :: 0 :: 34 :: t_Mo_sensed_47
abbrev t_Mo_sensed_43 : List UInt8 := 42 :: t_Mo_sensed_44
abbrev t_Mo_sensed_40 : List UInt8 := 20 :: 1 :: 198 :: t_Mo_sensed_43
abbrev t_Mo_sensed_37 : List UInt8 := 153 :: 0 :: 17 :: t_Mo_sensed_40
abbrev t_Mo_sensed_34 : List UInt8 := 182 :: 1 :: 61 :: t_Mo_sensed_37
abbrev t_Mo_sensed_33 : List UInt8 := 28 :: t_Mo_sensed_34
abbrev t_Mo_sensed_32 : List UInt8 := 42 :: t_Mo_sensed_33
abbrev t_Mo_sensed_1 : List UInt8 := 170 :: 0 :: 0 :: 0 :: 0 :: 0 :: 118 :: 0 :: 0 :: 0 :: 0 :: 0 :: 0 :: 0 :: 3 :: 0 :: 0 :: 0 :: 31 :: 0 :: 0 :: 0 :: 57 :: 0 :: 0 :: 0 :: 82 :: 0 :: 0 :: 0 :: 108 :: t_Mo_sensed_32
abbrev t_Mo_sensed_0 : List UInt8 := 27 :: t_Mo_sensed_1
theorem a_Mo_sensed_0 : dk_at b_Mo_sensed 0 t_Mo_sensed_0 := dk_start (by decide +kernel)
theorem a_Mo_sensed_1 : dk_at b_Mo_sensed 1 t_Mo_sensed_1 := dk_go 1 a_Mo_sensed_0 rfl
theorem a_Mo_sensed_32 : dk_at b_Mo_sensed 32 t_Mo_sensed_32 := dk_go 31 a_Mo_sensed_1 rfl
theorem a_Mo_sensed_33 : dk_at b_Mo_sensed 33 t_Mo_sensed_33 := dk_go 1 a_Mo_sensed_32 rfl
theorem a_Mo_sensed_34 : dk_at b_Mo_sensed 34 t_Mo_sensed_34 := dk_go 1 a_Mo_sensed_33 rfl
theorem a_Mo_sensed_37 : dk_at b_Mo_sensed 37 t_Mo_sensed_37 := dk_go 3 a_Mo_sensed_34 rfl
theorem a_Mo_sensed_40 : dk_at b_Mo_sensed 40 t_Mo_sensed_40 := dk_go 3 a_Mo_sensed_37 rfl
theorem a_Mo_sensed_43 : dk_at b_Mo_sensed 43 t_Mo_sensed_43 := dk_go 3 a_Mo_sensed_40 rfl
theorem a_Mo_sensed_44 : dk_at b_Mo_sensed 44 t_Mo_sensed_44 := dk_go 1 a_Mo_sensed_43 rfl
theorem a_Mo_sensed_47 : dk_at b_Mo_sensed 47 t_Mo_sensed_47 := dk_go 3 a_Mo_sensed_44 rfl
theorem a_Mo_sensed_48 : dk_at b_Mo_sensed 48 t_Mo_sensed_48 := dk_go 1 a_Mo_sensed_47 rfl
theorem a_Mo_sensed_49 : dk_at b_Mo_sensed 49 t_Mo_sensed_49 := dk_go 1 a_Mo_sensed_48 rfl
theorem a_Mo_sensed_50 : dk_at b_Mo_sensed 50 t_Mo_sensed_50 := dk_go 1 a_Mo_sensed_49 rfl
theorem a_Mo_sensed_51 : dk_at b_Mo_sensed 51 t_Mo_sensed_51 := dk_go 1 a_Mo_sensed_50 rfl
theorem a_Mo_sensed_54 : dk_at b_Mo_sensed 54 t_Mo_sensed_54 := dk_go 3 a_Mo_sensed_51 rfl
theorem a_Mo_sensed_57 : dk_at b_Mo_sensed 57 t_Mo_sensed_57 := dk_go 3 a_Mo_sensed_54 rfl
theorem a_Mo_sensed_58 : dk_at b_Mo_sensed 58 t_Mo_sensed_58 := dk_go 1 a_Mo_sensed_57 rfl
theorem a_Mo_sensed_59 : dk_at b_Mo_sensed 59 t_Mo_sensed_59 := dk_go 1 a_Mo_sensed_58 rfl
theorem a_Mo_sensed_60 : dk_at b_Mo_sensed 60 t_Mo_sensed_60 := dk_go 1 a_Mo_sensed_59 rfl
theorem a_Mo_sensed_63 : dk_at b_Mo_sensed 63 t_Mo_sensed_63 := dk_go 3 a_Mo_sensed_60 rfl
theorem a_Mo_sensed_66 : dk_at b_Mo_sensed 66 t_Mo_sensed_66 := dk_go 3 a_Mo_sensed_63 rfl
theorem a_Mo_sensed_69 : dk_at b_Mo_sensed 69 t_Mo_sensed_69 := dk_go 3 a_Mo_sensed_66 rfl
theorem a_Mo_sensed_70 : dk_at b_Mo_sensed 70 t_Mo_sensed_70 := dk_go 1 a_Mo_sensed_69 rfl
theorem a_Mo_sensed_71 : dk_at b_Mo_sensed 71 t_Mo_sensed_71 := dk_go 1 a_Mo_sensed_70 rfl
theorem a_Mo_sensed_74 : dk_at b_Mo_sensed 74 t_Mo_sensed_74 := dk_go 3 a_Mo_sensed_71 rfl
theorem a_Mo_sensed_75 : dk_at b_Mo_sensed 75 t_Mo_sensed_75 := dk_go 1 a_Mo_sensed_74 rfl
theorem a_Mo_sensed_76 : dk_at b_Mo_sensed 76 t_Mo_sensed_76 := dk_go 1 a_Mo_sensed_75 rfl
theorem a_Mo_sensed_79 : dk_at b_Mo_sensed 79 t_Mo_sensed_79 := dk_go 3 a_Mo_sensed_76 rfl
theorem a_Mo_sensed_82 : dk_at b_Mo_sensed 82 t_Mo_sensed_82 := dk_go 3 a_Mo_sensed_79 rfl
theorem a_Mo_sensed_83 : dk_at b_Mo_sensed 83 t_Mo_sensed_83 := dk_go 1 a_Mo_sensed_82 rfl
theorem a_Mo_sensed_84 : dk_at b_Mo_sensed 84 t_Mo_sensed_84 := dk_go 1 a_Mo_sensed_83 rfl
theorem a_Mo_sensed_85 : dk_at b_Mo_sensed 85 t_Mo_sensed_85 := dk_go 1 a_Mo_sensed_84 rfl
theorem a_Mo_sensed_88 : dk_at b_Mo_sensed 88 t_Mo_sensed_88 := dk_go 3 a_Mo_sensed_85 rfl
theorem a_Mo_sensed_91 : dk_at b_Mo_sensed 91 t_Mo_sensed_91 := dk_go 3 a_Mo_sensed_88 rfl
theorem a_Mo_sensed_94 : dk_at b_Mo_sensed 94 t_Mo_sensed_94 := dk_go 3 a_Mo_sensed_91 rfl
theorem a_Mo_sensed_95 : dk_at b_Mo_sensed 95 t_Mo_sensed_95 := dk_go 1 a_Mo_sensed_94 rfl
theorem a_Mo_sensed_98 : dk_at b_Mo_sensed 98 t_Mo_sensed_98 := dk_go 3 a_Mo_sensed_95 rfl
theorem a_Mo_sensed_99 : dk_at b_Mo_sensed 99 t_Mo_sensed_99 := dk_go 1 a_Mo_sensed_98 rfl
theorem a_Mo_sensed_100 : dk_at b_Mo_sensed 100 t_Mo_sensed_100 := dk_go 1 a_Mo_sensed_99 rfl
theorem a_Mo_sensed_101 : dk_at b_Mo_sensed 101 t_Mo_sensed_101 := dk_go 1 a_Mo_sensed_100 rfl
theorem a_Mo_sensed_102 : dk_at b_Mo_sensed 102 t_Mo_sensed_102 := dk_go 1 a_Mo_sensed_101 rfl
theorem a_Mo_sensed_105 : dk_at b_Mo_sensed 105 t_Mo_sensed_105 := dk_go 3 a_Mo_sensed_102 rfl
theorem a_Mo_sensed_108 : dk_at b_Mo_sensed 108 t_Mo_sensed_108 := dk_go 3 a_Mo_sensed_105 rfl
theorem a_Mo_sensed_109 : dk_at b_Mo_sensed 109 t_Mo_sensed_109 := dk_go 1 a_Mo_sensed_108 rfl
theorem a_Mo_sensed_112 : dk_at b_Mo_sensed 112 t_Mo_sensed_112 := dk_go 3 a_Mo_sensed_109 rfl
theorem a_Mo_sensed_113 : dk_at b_Mo_sensed 113 t_Mo_sensed_113 := dk_go 1 a_Mo_sensed_112 rfl
theorem a_Mo_sensed_116 : dk_at b_Mo_sensed 116 t_Mo_sensed_116 := dk_go 3 a_Mo_sensed_113 rfl
theorem a_Mo_sensed_117 : dk_at b_Mo_sensed 117 t_Mo_sensed_117 := dk_go 1 a_Mo_sensed_116 rfl
theorem a_Mo_sensed_118 : dk_at b_Mo_sensed 118 t_Mo_sensed_118 := dk_go 1 a_Mo_sensed_117 rfl
theorem a_Mo_sensed_119 : dk_at b_Mo_sensed 119 t_Mo_sensed_119 := dk_go 1 a_Mo_sensed_118 rfl
theorem a_Mo_sensed_122 : dk_at b_Mo_sensed 122 t_Mo_sensed_122 := dk_go 3 a_Mo_sensed_119 rfl
theorem a_Mo_sensed_123 : dk_at b_Mo_sensed 123 t_Mo_sensed_123 := dk_go 1 a_Mo_sensed_122 rfl
theorem a_Mo_sensed_126 : dk_at b_Mo_sensed 126 t_Mo_sensed_126 := dk_go 3 a_Mo_sensed_123 rfl
theorem a_Mo_sensed_127 : dk_at b_Mo_sensed 127 t_Mo_sensed_127 := dk_go 1 a_Mo_sensed_126 rfl
theorem a_Mo_sensed_128 : dk_at b_Mo_sensed 128 t_Mo_sensed_128 := dk_go 1 a_Mo_sensed_127 rfl
theorem d_Mo_sensed_0 : decode b_Mo_sensed 0 = .ok (.iload_n 1, 1) := dk_0 a_Mo_sensed_0 (dko_27 _)
theorem d_Mo_sensed_1 : decode b_Mo_sensed 1 = .ok (.tableswitch 118 0 3 #[31, 57, 82, 108], 31) := by decide +kernel
theorem d_Mo_sensed_32 : decode b_Mo_sensed 32 = .ok (.aload_n 0, 1) := dk_0 a_Mo_sensed_32 (dko_42 _)
theorem d_Mo_sensed_33 : decode b_Mo_sensed 33 = .ok (.iload_n 2, 1) := dk_0 a_Mo_sensed_33 (dko_28 _)
theorem d_Mo_sensed_34 : decode b_Mo_sensed 34 = .ok (.invokevirtual 317, 3) := dk_U2 a_Mo_sensed_34 (dko_182 _) rfl
theorem d_Mo_sensed_37 : decode b_Mo_sensed 37 = .ok (.ifCond .eq 17, 3) := dk_S2 a_Mo_sensed_37 (dko_153 _) (by decide +kernel)
theorem d_Mo_sensed_40 : decode b_Mo_sensed 40 = .ok (.ldc2_w 454, 3) := dk_U2 a_Mo_sensed_40 (dko_20 _) rfl
theorem d_Mo_sensed_43 : decode b_Mo_sensed 43 = .ok (.aload_n 0, 1) := dk_0 a_Mo_sensed_43 (dko_42 _)
theorem d_Mo_sensed_44 : decode b_Mo_sensed 44 = .ok (.getfield 34, 3) := dk_U2 a_Mo_sensed_44 (dko_180 _) rfl
theorem d_Mo_sensed_47 : decode b_Mo_sensed 47 = .ok (.iload_n 2, 1) := dk_0 a_Mo_sensed_47 (dko_28 _)
theorem d_Mo_sensed_48 : decode b_Mo_sensed 48 = .ok (.iaload, 1) := dk_0 a_Mo_sensed_48 (dko_46 _)
theorem d_Mo_sensed_49 : decode b_Mo_sensed 49 = .ok (.i2l, 1) := dk_0 a_Mo_sensed_49 (dko_133 _)
theorem d_Mo_sensed_50 : decode b_Mo_sensed 50 = .ok (.lmul, 1) := dk_0 a_Mo_sensed_50 (dko_105 _)
theorem d_Mo_sensed_51 : decode b_Mo_sensed 51 = .ok (.goto 6, 3) := dk_S2 a_Mo_sensed_51 (dko_167 _) (by decide +kernel)
theorem d_Mo_sensed_54 : decode b_Mo_sensed 54 = .ok (.ldc2_w 456, 3) := dk_U2 a_Mo_sensed_54 (dko_20 _) rfl
theorem d_Mo_sensed_57 : decode b_Mo_sensed 57 = .ok (.lreturn, 1) := dk_0 a_Mo_sensed_57 (dko_173 _)
theorem d_Mo_sensed_58 : decode b_Mo_sensed 58 = .ok (.aload_n 0, 1) := dk_0 a_Mo_sensed_58 (dko_42 _)
theorem d_Mo_sensed_59 : decode b_Mo_sensed 59 = .ok (.iload_n 2, 1) := dk_0 a_Mo_sensed_59 (dko_28 _)
theorem d_Mo_sensed_60 : decode b_Mo_sensed 60 = .ok (.invokevirtual 415, 3) := dk_U2 a_Mo_sensed_60 (dko_182 _) rfl
theorem d_Mo_sensed_63 : decode b_Mo_sensed 63 = .ok (.ifCond .eq 16, 3) := dk_S2 a_Mo_sensed_63 (dko_153 _) (by decide +kernel)
theorem d_Mo_sensed_66 : decode b_Mo_sensed 66 = .ok (.ldc2_w 454, 3) := dk_U2 a_Mo_sensed_66 (dko_20 _) rfl
theorem d_Mo_sensed_69 : decode b_Mo_sensed 69 = .ok (.aload_n 0, 1) := dk_0 a_Mo_sensed_69 (dko_42 _)
theorem d_Mo_sensed_70 : decode b_Mo_sensed 70 = .ok (.iload_n 2, 1) := dk_0 a_Mo_sensed_70 (dko_28 _)
theorem d_Mo_sensed_71 : decode b_Mo_sensed 71 = .ok (.invokevirtual 323, 3) := dk_U2 a_Mo_sensed_71 (dko_182 _) rfl
theorem d_Mo_sensed_74 : decode b_Mo_sensed 74 = .ok (.i2l, 1) := dk_0 a_Mo_sensed_74 (dko_133 _)
theorem d_Mo_sensed_75 : decode b_Mo_sensed 75 = .ok (.lmul, 1) := dk_0 a_Mo_sensed_75 (dko_105 _)
theorem d_Mo_sensed_76 : decode b_Mo_sensed 76 = .ok (.goto 6, 3) := dk_S2 a_Mo_sensed_76 (dko_167 _) (by decide +kernel)
theorem d_Mo_sensed_79 : decode b_Mo_sensed 79 = .ok (.ldc2_w 456, 3) := dk_U2 a_Mo_sensed_79 (dko_20 _) rfl
theorem d_Mo_sensed_82 : decode b_Mo_sensed 82 = .ok (.lreturn, 1) := dk_0 a_Mo_sensed_82 (dko_173 _)
theorem d_Mo_sensed_83 : decode b_Mo_sensed 83 = .ok (.aload_n 0, 1) := dk_0 a_Mo_sensed_83 (dko_42 _)
theorem d_Mo_sensed_84 : decode b_Mo_sensed 84 = .ok (.iload_n 2, 1) := dk_0 a_Mo_sensed_84 (dko_28 _)
theorem d_Mo_sensed_85 : decode b_Mo_sensed 85 = .ok (.invokevirtual 412, 3) := dk_U2 a_Mo_sensed_85 (dko_182 _) rfl
theorem d_Mo_sensed_88 : decode b_Mo_sensed 88 = .ok (.ifCond .eq 17, 3) := dk_S2 a_Mo_sensed_88 (dko_153 _) (by decide +kernel)
theorem d_Mo_sensed_91 : decode b_Mo_sensed 91 = .ok (.ldc2_w 454, 3) := dk_U2 a_Mo_sensed_91 (dko_20 _) rfl
theorem d_Mo_sensed_94 : decode b_Mo_sensed 94 = .ok (.aload_n 0, 1) := dk_0 a_Mo_sensed_94 (dko_42 _)
theorem d_Mo_sensed_95 : decode b_Mo_sensed 95 = .ok (.getfield 40, 3) := dk_U2 a_Mo_sensed_95 (dko_180 _) rfl
theorem d_Mo_sensed_98 : decode b_Mo_sensed 98 = .ok (.iload_n 2, 1) := dk_0 a_Mo_sensed_98 (dko_28 _)
theorem d_Mo_sensed_99 : decode b_Mo_sensed 99 = .ok (.iaload, 1) := dk_0 a_Mo_sensed_99 (dko_46 _)
theorem d_Mo_sensed_100 : decode b_Mo_sensed 100 = .ok (.i2l, 1) := dk_0 a_Mo_sensed_100 (dko_133 _)
theorem d_Mo_sensed_101 : decode b_Mo_sensed 101 = .ok (.lmul, 1) := dk_0 a_Mo_sensed_101 (dko_105 _)
theorem d_Mo_sensed_102 : decode b_Mo_sensed 102 = .ok (.goto 6, 3) := dk_S2 a_Mo_sensed_102 (dko_167 _) (by decide +kernel)
theorem d_Mo_sensed_105 : decode b_Mo_sensed 105 = .ok (.ldc2_w 456, 3) := dk_U2 a_Mo_sensed_105 (dko_20 _) rfl
theorem d_Mo_sensed_108 : decode b_Mo_sensed 108 = .ok (.lreturn, 1) := dk_0 a_Mo_sensed_108 (dko_173 _)
theorem d_Mo_sensed_109 : decode b_Mo_sensed 109 = .ok (.ldc2_w 454, 3) := dk_U2 a_Mo_sensed_109 (dko_20 _) rfl
theorem d_Mo_sensed_112 : decode b_Mo_sensed 112 = .ok (.aload_n 0, 1) := dk_0 a_Mo_sensed_112 (dko_42 _)
theorem d_Mo_sensed_113 : decode b_Mo_sensed 113 = .ok (.getfield 284, 3) := dk_U2 a_Mo_sensed_113 (dko_180 _) rfl
theorem d_Mo_sensed_116 : decode b_Mo_sensed 116 = .ok (.i2l, 1) := dk_0 a_Mo_sensed_116 (dko_133 _)
theorem d_Mo_sensed_117 : decode b_Mo_sensed 117 = .ok (.lmul, 1) := dk_0 a_Mo_sensed_117 (dko_105 _)
theorem d_Mo_sensed_118 : decode b_Mo_sensed 118 = .ok (.lreturn, 1) := dk_0 a_Mo_sensed_118 (dko_173 _)
theorem d_Mo_sensed_119 : decode b_Mo_sensed 119 = .ok (.ldc2_w 454, 3) := dk_U2 a_Mo_sensed_119 (dko_20 _) rfl
theorem d_Mo_sensed_122 : decode b_Mo_sensed 122 = .ok (.aload_n 0, 1) := dk_0 a_Mo_sensed_122 (dko_42 _)
theorem d_Mo_sensed_123 : decode b_Mo_sensed 123 = .ok (.getfield 326, 3) := dk_U2 a_Mo_sensed_123 (dko_180 _) rfl
theorem d_Mo_sensed_126 : decode b_Mo_sensed 126 = .ok (.i2l, 1) := dk_0 a_Mo_sensed_126 (dko_133 _)
theorem d_Mo_sensed_127 : decode b_Mo_sensed 127 = .ok (.lmul, 1) := dk_0 a_Mo_sensed_127 (dko_105 _)
theorem d_Mo_sensed_128 : decode b_Mo_sensed 128 = .ok (.lreturn, 1) := dk_0 a_Mo_sensed_128 (dko_173 _)
set_option maxHeartbeats 4000000 in
set_option maxRecDepth 100000 in
theorem ok_Mo_sensed (pc : Nat) : OpS mt mi_Mo_sensed pc (cs_Mo_sensed pc) := (os_n (os_n (os_n (os_n (os_n (os_l (so_iload_n d_Mo_sensed_0 rfl)) (os_n (os_l (so_tab d_Mo_sensed_1 (by decide) (by decide) (by decide))) (os_l (so_aload_n d_Mo_sensed_32 rfl)))) (os_n (os_l (so_iload_n d_Mo_sensed_33 rfl)) (os_n (os_l (so_callV (iv := mi_Mo_isTank) rfl rfl rfl mw_2424 mw_2426 sl_156 mw_18 mw_2427 ⟨by decide +kernel, by decide +kernel, by decide +kernel⟩ (by decide) d_Mo_sensed_34)) (os_l (so_ifeq d_Mo_sensed_37 (by decide)))))) (os_n (os_n (os_l (so_ldc2 mw_2611 d_Mo_sensed_40)) (os_n (os_l (so_aload_n d_Mo_sensed_43 rfl)) (os_l (so_get (C := R_Mo) (T := F_Mo) (N := 87) (j := 7) in_Mo rfl (by decide) mw_1801 d_Mo_sensed_44)))) (os_n (os_n (os_l (so_iload_n d_Mo_sensed_47 rfl)) (os_l (so_iaload d_Mo_sensed_48))) (os_n (os_l (so_i2l d_Mo_sensed_49)) (os_l (so_lmul d_Mo_sensed_50)))))) (os_n (os_n (os_n (os_l (so_goto d_Mo_sensed_51 (by decide))) (os_n (os_l (so_ldc2 mw_2612 d_Mo_sensed_54)) (os_l (so_lreturn rfl d_Mo_sensed_57)))) (os_n (os_n (os_l (so_aload_n d_Mo_sensed_58 rfl)) (os_l (so_iload_n d_Mo_sensed_59 rfl))) (os_n (os_l (so_callV (iv := mi_Mo_holdsLiquid) rfl rfl rfl mw_2420 mw_2422 sl_155 mw_18 mw_2423 ⟨by decide +kernel, by decide +kernel, by decide +kernel⟩ (by decide) d_Mo_sensed_60)) (os_l (so_ifeq d_Mo_sensed_63 (by decide)))))) (os_n (os_n (os_l (so_ldc2 mw_2611 d_Mo_sensed_66)) (os_n (os_l (so_aload_n d_Mo_sensed_69 rfl)) (os_l (so_iload_n d_Mo_sensed_70 rfl)))) (os_n (os_n (os_l (so_callV (iv := mi_Mo_liquidIn) rfl rfl rfl mw_2373 mw_2375 sl_146 mw_18 mw_2376 ⟨by decide +kernel, by decide +kernel, by decide +kernel⟩ (by decide) d_Mo_sensed_71)) (os_l (so_i2l d_Mo_sensed_74))) (os_n (os_l (so_lmul d_Mo_sensed_75)) (os_l (so_goto d_Mo_sensed_76 (by decide)))))))) (os_n (os_n (os_n (os_n (os_l (so_ldc2 mw_2612 d_Mo_sensed_79)) (os_n (os_l (so_lreturn rfl d_Mo_sensed_82)) (os_l (so_aload_n d_Mo_sensed_83 rfl)))) (os_n (os_n (os_l (so_iload_n d_Mo_sensed_84 rfl)) (os_l (so_callV (iv := mi_Mo_isValve) rfl rfl rfl mw_2412 mw_2414 sl_153 mw_18 mw_2415 ⟨by decide +kernel, by decide +kernel, by decide +kernel⟩ (by decide) d_Mo_sensed_85))) (os_n (os_l (so_ifeq d_Mo_sensed_88 (by decide))) (os_l (so_ldc2 mw_2611 d_Mo_sensed_91))))) (os_n (os_n (os_l (so_aload_n d_Mo_sensed_94 rfl)) (os_n (os_l (so_get (C := R_Mo) (T := F_Mo) (N := 87) (j := 9) in_Mo rfl (by decide) mw_1803 d_Mo_sensed_95)) (os_l (so_iload_n d_Mo_sensed_98 rfl)))) (os_n (os_n (os_l (so_iaload d_Mo_sensed_99)) (os_l (so_i2l d_Mo_sensed_100))) (os_n (os_l (so_lmul d_Mo_sensed_101)) (os_l (so_goto d_Mo_sensed_102 (by decide))))))) (os_n (os_n (os_n (os_l (so_ldc2 mw_2612 d_Mo_sensed_105)) (os_n (os_l (so_lreturn rfl d_Mo_sensed_108)) (os_l (so_ldc2 mw_2611 d_Mo_sensed_109)))) (os_n (os_n (os_l (so_aload_n d_Mo_sensed_112 rfl)) (os_l (so_get (C := R_Mo) (T := F_Mo) (N := 87) (j := 26) in_Mo rfl (by decide) mw_1820 d_Mo_sensed_113))) (os_n (os_l (so_i2l d_Mo_sensed_116)) (os_l (so_lmul d_Mo_sensed_117))))) (os_n (os_n (os_l (so_lreturn rfl d_Mo_sensed_118)) (os_n (os_l (so_ldc2 mw_2611 d_Mo_sensed_119)) (os_l (so_aload_n d_Mo_sensed_122 rfl)))) (os_n (os_n (os_l (so_get (C := R_Mo) (T := F_Mo) (N := 87) (j := 78) in_Mo rfl (by decide) mw_1872 d_Mo_sensed_123)) (os_l (so_i2l d_Mo_sensed_126))) (os_n (os_l (so_lmul d_Mo_sensed_127)) (os_l (so_lreturn rfl d_Mo_sensed_128))))))))
abbrev t_Mo_senseAll_193 : List UInt8 := 177 :: []
abbrev t_Mo_senseAll_190 : List UInt8 := 167 :: 255 :: 129 :: t_Mo_senseAll_193
abbrev t_Mo_senseAll_187 : List UInt8 := 132 :: 1 :: 1 :: t_Mo_senseAll_190
abbrev t_Mo_senseAll_184 : List UInt8 := 181 :: 1 :: 206 :: t_Mo_senseAll_187
abbrev t_Mo_senseAll_183 : List UInt8 := 126 :: t_Mo_senseAll_184
abbrev t_Mo_senseAll_182 : List UInt8 := 130 :: t_Mo_senseAll_183
abbrev t_Mo_senseAll_181 : List UInt8 := 2 :: t_Mo_senseAll_182
abbrev t_Mo_senseAll_180 : List UInt8 := 120 :: t_Mo_senseAll_181
abbrev t_Mo_senseAll_179 : List UInt8 := 27 :: t_Mo_senseAll_180
abbrev t_Mo_senseAll_178 : List UInt8 := 4 :: t_Mo_senseAll_179
abbrev t_Mo_senseAll_175 : List UInt8 := 180 :: 1 :: 206 :: t_Mo_senseAll_178
abbrev t_Mo_senseAll_172 : List UInt8 := 180 :: 0 :: 23 :: t_Mo_senseAll_175
abbrev t_Mo_senseAll_171 : List UInt8 := 42 :: t_Mo_senseAll_172
abbrev t_Mo_senseAll_168 : List UInt8 := 167 :: 0 :: 16 :: t_Mo_senseAll_171
abbrev t_Mo_senseAll_167 : List UInt8 := 128 :: t_Mo_senseAll_168
abbrev t_Mo_senseAll_166 : List UInt8 := 120 :: t_Mo_senseAll_167
abbrev t_Mo_senseAll_165 : List UInt8 := 27 :: t_Mo_senseAll_166
abbrev t_Mo_senseAll_164 : List UInt8 := 4 :: t_Mo_senseAll_165
abbrev t_Mo_senseAll_161 : List UInt8 := 180 :: 1 :: 206 :: t_Mo_senseAll_164
abbrev t_Mo_senseAll_158 : List UInt8 := 180 :: 0 :: 23 :: t_Mo_senseAll_161
abbrev t_Mo_senseAll_157 : List UInt8 := 42 :: t_Mo_senseAll_158
abbrev t_Mo_senseAll_154 : List UInt8 := 153 :: 0 :: 17 :: t_Mo_senseAll_157
abbrev t_Mo_senseAll_152 : List UInt8 := 21 :: 4 :: t_Mo_senseAll_154
abbrev t_Mo_senseAll_149 : List UInt8 := 180 :: 0 :: 23 :: t_Mo_senseAll_152
abbrev t_Mo_senseAll_148 : List UInt8 := 42 :: t_Mo_senseAll_149
abbrev t_Mo_senseAll_146 : List UInt8 := 54 :: 4 :: t_Mo_senseAll_148
abbrev t_Mo_senseAll_145 : List UInt8 := 3 :: t_Mo_senseAll_146
abbrev t_Mo_senseAll_142 : List UInt8 := 167 :: 0 :: 4 :: t_Mo_senseAll_145
abbrev t_Mo_senseAll_141 : List UInt8 := 4 :: t_Mo_senseAll_142
abbrev t_Mo_senseAll_138 : List UInt8 := 155 :: 0 :: 7 :: t_Mo_senseAll_141
abbrev t_Mo_senseAll_137 : List UInt8 := 148 :: t_Mo_senseAll_138
abbrev t_Mo_senseAll_136 : List UInt8 := 47 :: t_Mo_senseAll_137
abbrev t_Mo_senseAll_135 : List UInt8 := 27 :: t_Mo_senseAll_136
abbrev t_Mo_senseAll_132 : List UInt8 := 180 :: 0 :: 156 :: t_Mo_senseAll_135
abbrev t_Mo_senseAll_131 : List UInt8 := 42 :: t_Mo_senseAll_132
abbrev t_Mo_senseAll_130 : List UInt8 := 109 :: t_Mo_senseAll_131
abbrev t_Mo_senseAll_127 : List UInt8 := 20 :: 1 :: 198 :: t_Mo_senseAll_130
abbrev t_Mo_senseAll_126 : List UInt8 := 32 :: t_Mo_senseAll_127
abbrev t_Mo_senseAll_123 : List UInt8 := 155 :: 0 :: 22 :: t_Mo_senseAll_126
abbrev t_Mo_senseAll_122 : List UInt8 := 148 :: t_Mo_senseAll_123
abbrev t_Mo_senseAll_121 : List UInt8 := 9 :: t_Mo_senseAll_122
abbrev t_Mo_senseAll_120 : List UInt8 := 32 :: t_Mo_senseAll_121
abbrev t_Mo_senseAll_117 : List UInt8 := 162 :: 0 :: 28 :: t_Mo_senseAll_120
abbrev t_Mo_senseAll_116 : List UInt8 := 8 :: t_Mo_senseAll_117
abbrev t_Mo_senseAll_115 : List UInt8 := 46 :: t_Mo_senseAll_116
abbrev t_Mo_senseAll_114 : List UInt8 := 27 :: t_Mo_senseAll_115
abbrev t_Mo_senseAll_111 : List UInt8 := 180 :: 0 :: 150 :: t_Mo_senseAll_114
abbrev t_Mo_senseAll_110 : List UInt8 := 42 :: t_Mo_senseAll_111
abbrev t_Mo_senseAll_109 : List UInt8 := 65 :: t_Mo_senseAll_110
abbrev t_Mo_senseAll_108 : List UInt8 := 9 :: t_Mo_senseAll_109
abbrev t_Mo_senseAll_105 : List UInt8 := 167 :: 0 :: 4 :: t_Mo_senseAll_108
abbrev t_Mo_senseAll_102 : List UInt8 := 182 :: 1 :: 202 :: t_Mo_senseAll_105
abbrev t_Mo_senseAll_101 : List UInt8 := 46 :: t_Mo_senseAll_102
abbrev t_Mo_senseAll_100 : List UInt8 := 27 :: t_Mo_senseAll_101
abbrev t_Mo_senseAll_97 : List UInt8 := 180 :: 0 :: 153 :: t_Mo_senseAll_100
abbrev t_Mo_senseAll_96 : List UInt8 := 42 :: t_Mo_senseAll_97
abbrev t_Mo_senseAll_95 : List UInt8 := 46 :: t_Mo_senseAll_96
abbrev t_Mo_senseAll_94 : List UInt8 := 27 :: t_Mo_senseAll_95
abbrev t_Mo_senseAll_91 : List UInt8 := 180 :: 0 :: 150 :: t_Mo_senseAll_94
abbrev t_Mo_senseAll_90 : List UInt8 := 42 :: t_Mo_senseAll_91
abbrev t_Mo_senseAll_89 : List UInt8 := 42 :: t_Mo_senseAll_90
abbrev t_Mo_senseAll_86 : List UInt8 := 162 :: 0 :: 22 :: t_Mo_senseAll_89
abbrev t_Mo_senseAll_85 : List UInt8 := 8 :: t_Mo_senseAll_86
abbrev t_Mo_senseAll_84 : List UInt8 := 46 :: t_Mo_senseAll_85
abbrev t_Mo_senseAll_83 : List UInt8 := 27 :: t_Mo_senseAll_84
abbrev t_Mo_senseAll_80 : List UInt8 := 180 :: 0 :: 150 :: t_Mo_senseAll_83
abbrev t_Mo_senseAll_79 : List UInt8 := 42 :: t_Mo_senseAll_80
abbrev t_Mo_senseAll_76 : List UInt8 := 159 :: 0 :: 111 :: t_Mo_senseAll_79
abbrev t_Mo_senseAll_75 : List UInt8 := 2 :: t_Mo_senseAll_76
abbrev t_Mo_senseAll_74 : List UInt8 := 46 :: t_Mo_senseAll_75
abbrev t_Mo_senseAll_73 : List UInt8 := 27 :: t_Mo_senseAll_74
abbrev t_Mo_senseAll_70 : List UInt8 := 180 :: 0 :: 150 :: t_Mo_senseAll_73
abbrev t_Mo_senseAll_69 : List UInt8 := 42 :: t_Mo_senseAll_70
abbrev t_Mo_senseAll_66 : List UInt8 := 162 :: 0 :: 127 :: t_Mo_senseAll_69
abbrev t_Mo_senseAll_64 : List UInt8 := 16 :: 16 :: t_Mo_senseAll_66
abbrev t_Mo_senseAll_63 : List UInt8 := 27 :: t_Mo_senseAll_64
abbrev t_Mo_senseAll_62 : List UInt8 := 60 :: t_Mo_senseAll_63
abbrev t_Mo_senseAll_61 : List UInt8 := 3 :: t_Mo_senseAll_62
abbrev t_Mo_senseAll_58 : List UInt8 := 167 :: 255 :: 200 :: t_Mo_senseAll_61
abbrev t_Mo_senseAll_55 : List UInt8 := 132 :: 1 :: 1 :: t_Mo_senseAll_58
abbrev t_Mo_senseAll_54 : List UInt8 := 80 :: t_Mo_senseAll_55
abbrev t_Mo_senseAll_51 : List UInt8 := 182 :: 1 :: 202 :: t_Mo_senseAll_54
abbrev t_Mo_senseAll_50 : List UInt8 := 46 :: t_Mo_senseAll_51
abbrev t_Mo_senseAll_49 : List UInt8 := 27 :: t_Mo_senseAll_50
abbrev t_Mo_senseAll_46 : List UInt8 := 180 :: 0 :: 147 :: t_Mo_senseAll_49
abbrev t_Mo_senseAll_45 : List UInt8 := 42 :: t_Mo_senseAll_46
abbrev t_Mo_senseAll_44 : List UInt8 := 46 :: t_Mo_senseAll_45
abbrev t_Mo_senseAll_43 : List UInt8 := 27 :: t_Mo_senseAll_44
abbrev t_Mo_senseAll_40 : List UInt8 := 180 :: 0 :: 144 :: t_Mo_senseAll_43
abbrev t_Mo_senseAll_39 : List UInt8 := 42 :: t_Mo_senseAll_40
abbrev t_Mo_senseAll_38 : List UInt8 := 42 :: t_Mo_senseAll_39
abbrev t_Mo_senseAll_37 : List UInt8 := 27 :: t_Mo_senseAll_38
abbrev t_Mo_senseAll_34 : List UInt8 := 180 :: 0 :: 159 :: t_Mo_senseAll_37
abbrev t_Mo_senseAll_33 : List UInt8 := 42 :: t_Mo_senseAll_34
abbrev t_Mo_senseAll_30 : List UInt8 := 162 :: 0 :: 25 :: t_Mo_senseAll_33
abbrev t_Mo_senseAll_29 : List UInt8 := 8 :: t_Mo_senseAll_30
abbrev t_Mo_senseAll_28 : List UInt8 := 46 :: t_Mo_senseAll_29
abbrev t_Mo_senseAll_27 : List UInt8 := 27 :: t_Mo_senseAll_28
abbrev t_Mo_senseAll_24 : List UInt8 := 180 :: 0 :: 144 :: t_Mo_senseAll_27
abbrev t_Mo_senseAll_23 : List UInt8 := 42 :: t_Mo_senseAll_24
abbrev t_Mo_senseAll_20 : List UInt8 := 159 :: 0 :: 35 :: t_Mo_senseAll_23
abbrev t_Mo_senseAll_19 : List UInt8 := 2 :: t_Mo_senseAll_20
abbrev t_Mo_senseAll_18 : List UInt8 := 46 :: t_Mo_senseAll_19
abbrev t_Mo_senseAll_17 : List UInt8 := 27 :: t_Mo_senseAll_18
abbrev t_Mo_senseAll_14 : List UInt8 := 180 :: 0 :: 144 :: t_Mo_senseAll_17
abbrev t_Mo_senseAll_13 : List UInt8 := 42 :: t_Mo_senseAll_14
abbrev t_Mo_senseAll_10 : List UInt8 := 162 :: 0 :: 51 :: t_Mo_senseAll_13
abbrev t_Mo_senseAll_7 : List UInt8 := 180 :: 1 :: 186 :: t_Mo_senseAll_10
abbrev t_Mo_senseAll_4 : List UInt8 := 180 :: 0 :: 16 :: t_Mo_senseAll_7
abbrev t_Mo_senseAll_3 : List UInt8 := 42 :: t_Mo_senseAll_4
abbrev t_Mo_senseAll_2 : List UInt8 := 27 :: t_Mo_senseAll_3
abbrev t_Mo_senseAll_1 : List UInt8 := 60 :: t_Mo_senseAll_2
abbrev t_Mo_senseAll_0 : List UInt8 := 3 :: t_Mo_senseAll_1
theorem a_Mo_senseAll_0 : dk_at b_Mo_senseAll 0 t_Mo_senseAll_0 := dk_start (by decide +kernel)
theorem a_Mo_senseAll_1 : dk_at b_Mo_senseAll 1 t_Mo_senseAll_1 := dk_go 1 a_Mo_senseAll_0 rfl
theorem a_Mo_senseAll_2 : dk_at b_Mo_senseAll 2 t_Mo_senseAll_2 := dk_go 1 a_Mo_senseAll_1 rfl
theorem a_Mo_senseAll_3 : dk_at b_Mo_senseAll 3 t_Mo_senseAll_3 := dk_go 1 a_Mo_senseAll_2 rfl
theorem a_Mo_senseAll_4 : dk_at b_Mo_senseAll 4 t_Mo_senseAll_4 := dk_go 1 a_Mo_senseAll_3 rfl
theorem a_Mo_senseAll_7 : dk_at b_Mo_senseAll 7 t_Mo_senseAll_7 := dk_go 3 a_Mo_senseAll_4 rfl
theorem a_Mo_senseAll_10 : dk_at b_Mo_senseAll 10 t_Mo_senseAll_10 := dk_go 3 a_Mo_senseAll_7 rfl
theorem a_Mo_senseAll_13 : dk_at b_Mo_senseAll 13 t_Mo_senseAll_13 := dk_go 3 a_Mo_senseAll_10 rfl
theorem a_Mo_senseAll_14 : dk_at b_Mo_senseAll 14 t_Mo_senseAll_14 := dk_go 1 a_Mo_senseAll_13 rfl
theorem a_Mo_senseAll_17 : dk_at b_Mo_senseAll 17 t_Mo_senseAll_17 := dk_go 3 a_Mo_senseAll_14 rfl
theorem a_Mo_senseAll_18 : dk_at b_Mo_senseAll 18 t_Mo_senseAll_18 := dk_go 1 a_Mo_senseAll_17 rfl
theorem a_Mo_senseAll_19 : dk_at b_Mo_senseAll 19 t_Mo_senseAll_19 := dk_go 1 a_Mo_senseAll_18 rfl
theorem a_Mo_senseAll_20 : dk_at b_Mo_senseAll 20 t_Mo_senseAll_20 := dk_go 1 a_Mo_senseAll_19 rfl
theorem a_Mo_senseAll_23 : dk_at b_Mo_senseAll 23 t_Mo_senseAll_23 := dk_go 3 a_Mo_senseAll_20 rfl
theorem a_Mo_senseAll_24 : dk_at b_Mo_senseAll 24 t_Mo_senseAll_24 := dk_go 1 a_Mo_senseAll_23 rfl
theorem a_Mo_senseAll_27 : dk_at b_Mo_senseAll 27 t_Mo_senseAll_27 := dk_go 3 a_Mo_senseAll_24 rfl
theorem a_Mo_senseAll_28 : dk_at b_Mo_senseAll 28 t_Mo_senseAll_28 := dk_go 1 a_Mo_senseAll_27 rfl
theorem a_Mo_senseAll_29 : dk_at b_Mo_senseAll 29 t_Mo_senseAll_29 := dk_go 1 a_Mo_senseAll_28 rfl
theorem a_Mo_senseAll_30 : dk_at b_Mo_senseAll 30 t_Mo_senseAll_30 := dk_go 1 a_Mo_senseAll_29 rfl
theorem a_Mo_senseAll_33 : dk_at b_Mo_senseAll 33 t_Mo_senseAll_33 := dk_go 3 a_Mo_senseAll_30 rfl
theorem a_Mo_senseAll_34 : dk_at b_Mo_senseAll 34 t_Mo_senseAll_34 := dk_go 1 a_Mo_senseAll_33 rfl
theorem a_Mo_senseAll_37 : dk_at b_Mo_senseAll 37 t_Mo_senseAll_37 := dk_go 3 a_Mo_senseAll_34 rfl
theorem a_Mo_senseAll_38 : dk_at b_Mo_senseAll 38 t_Mo_senseAll_38 := dk_go 1 a_Mo_senseAll_37 rfl
theorem a_Mo_senseAll_39 : dk_at b_Mo_senseAll 39 t_Mo_senseAll_39 := dk_go 1 a_Mo_senseAll_38 rfl
theorem a_Mo_senseAll_40 : dk_at b_Mo_senseAll 40 t_Mo_senseAll_40 := dk_go 1 a_Mo_senseAll_39 rfl
theorem a_Mo_senseAll_43 : dk_at b_Mo_senseAll 43 t_Mo_senseAll_43 := dk_go 3 a_Mo_senseAll_40 rfl
theorem a_Mo_senseAll_44 : dk_at b_Mo_senseAll 44 t_Mo_senseAll_44 := dk_go 1 a_Mo_senseAll_43 rfl
theorem a_Mo_senseAll_45 : dk_at b_Mo_senseAll 45 t_Mo_senseAll_45 := dk_go 1 a_Mo_senseAll_44 rfl
theorem a_Mo_senseAll_46 : dk_at b_Mo_senseAll 46 t_Mo_senseAll_46 := dk_go 1 a_Mo_senseAll_45 rfl
theorem a_Mo_senseAll_49 : dk_at b_Mo_senseAll 49 t_Mo_senseAll_49 := dk_go 3 a_Mo_senseAll_46 rfl
theorem a_Mo_senseAll_50 : dk_at b_Mo_senseAll 50 t_Mo_senseAll_50 := dk_go 1 a_Mo_senseAll_49 rfl
theorem a_Mo_senseAll_51 : dk_at b_Mo_senseAll 51 t_Mo_senseAll_51 := dk_go 1 a_Mo_senseAll_50 rfl
theorem a_Mo_senseAll_54 : dk_at b_Mo_senseAll 54 t_Mo_senseAll_54 := dk_go 3 a_Mo_senseAll_51 rfl
theorem a_Mo_senseAll_55 : dk_at b_Mo_senseAll 55 t_Mo_senseAll_55 := dk_go 1 a_Mo_senseAll_54 rfl
theorem a_Mo_senseAll_58 : dk_at b_Mo_senseAll 58 t_Mo_senseAll_58 := dk_go 3 a_Mo_senseAll_55 rfl
theorem a_Mo_senseAll_61 : dk_at b_Mo_senseAll 61 t_Mo_senseAll_61 := dk_go 3 a_Mo_senseAll_58 rfl
theorem a_Mo_senseAll_62 : dk_at b_Mo_senseAll 62 t_Mo_senseAll_62 := dk_go 1 a_Mo_senseAll_61 rfl
theorem a_Mo_senseAll_63 : dk_at b_Mo_senseAll 63 t_Mo_senseAll_63 := dk_go 1 a_Mo_senseAll_62 rfl
theorem a_Mo_senseAll_64 : dk_at b_Mo_senseAll 64 t_Mo_senseAll_64 := dk_go 1 a_Mo_senseAll_63 rfl
theorem a_Mo_senseAll_66 : dk_at b_Mo_senseAll 66 t_Mo_senseAll_66 := dk_go 2 a_Mo_senseAll_64 rfl
theorem a_Mo_senseAll_69 : dk_at b_Mo_senseAll 69 t_Mo_senseAll_69 := dk_go 3 a_Mo_senseAll_66 rfl
theorem a_Mo_senseAll_70 : dk_at b_Mo_senseAll 70 t_Mo_senseAll_70 := dk_go 1 a_Mo_senseAll_69 rfl
theorem a_Mo_senseAll_73 : dk_at b_Mo_senseAll 73 t_Mo_senseAll_73 := dk_go 3 a_Mo_senseAll_70 rfl
theorem a_Mo_senseAll_74 : dk_at b_Mo_senseAll 74 t_Mo_senseAll_74 := dk_go 1 a_Mo_senseAll_73 rfl
theorem a_Mo_senseAll_75 : dk_at b_Mo_senseAll 75 t_Mo_senseAll_75 := dk_go 1 a_Mo_senseAll_74 rfl
theorem a_Mo_senseAll_76 : dk_at b_Mo_senseAll 76 t_Mo_senseAll_76 := dk_go 1 a_Mo_senseAll_75 rfl
theorem a_Mo_senseAll_79 : dk_at b_Mo_senseAll 79 t_Mo_senseAll_79 := dk_go 3 a_Mo_senseAll_76 rfl
theorem a_Mo_senseAll_80 : dk_at b_Mo_senseAll 80 t_Mo_senseAll_80 := dk_go 1 a_Mo_senseAll_79 rfl
theorem a_Mo_senseAll_83 : dk_at b_Mo_senseAll 83 t_Mo_senseAll_83 := dk_go 3 a_Mo_senseAll_80 rfl
theorem a_Mo_senseAll_84 : dk_at b_Mo_senseAll 84 t_Mo_senseAll_84 := dk_go 1 a_Mo_senseAll_83 rfl
theorem a_Mo_senseAll_85 : dk_at b_Mo_senseAll 85 t_Mo_senseAll_85 := dk_go 1 a_Mo_senseAll_84 rfl
theorem a_Mo_senseAll_86 : dk_at b_Mo_senseAll 86 t_Mo_senseAll_86 := dk_go 1 a_Mo_senseAll_85 rfl
theorem a_Mo_senseAll_89 : dk_at b_Mo_senseAll 89 t_Mo_senseAll_89 := dk_go 3 a_Mo_senseAll_86 rfl
theorem a_Mo_senseAll_90 : dk_at b_Mo_senseAll 90 t_Mo_senseAll_90 := dk_go 1 a_Mo_senseAll_89 rfl
theorem a_Mo_senseAll_91 : dk_at b_Mo_senseAll 91 t_Mo_senseAll_91 := dk_go 1 a_Mo_senseAll_90 rfl
theorem a_Mo_senseAll_94 : dk_at b_Mo_senseAll 94 t_Mo_senseAll_94 := dk_go 3 a_Mo_senseAll_91 rfl
theorem a_Mo_senseAll_95 : dk_at b_Mo_senseAll 95 t_Mo_senseAll_95 := dk_go 1 a_Mo_senseAll_94 rfl
theorem a_Mo_senseAll_96 : dk_at b_Mo_senseAll 96 t_Mo_senseAll_96 := dk_go 1 a_Mo_senseAll_95 rfl
theorem a_Mo_senseAll_97 : dk_at b_Mo_senseAll 97 t_Mo_senseAll_97 := dk_go 1 a_Mo_senseAll_96 rfl
theorem a_Mo_senseAll_100 : dk_at b_Mo_senseAll 100 t_Mo_senseAll_100 := dk_go 3 a_Mo_senseAll_97 rfl
theorem a_Mo_senseAll_101 : dk_at b_Mo_senseAll 101 t_Mo_senseAll_101 := dk_go 1 a_Mo_senseAll_100 rfl
theorem a_Mo_senseAll_102 : dk_at b_Mo_senseAll 102 t_Mo_senseAll_102 := dk_go 1 a_Mo_senseAll_101 rfl
theorem a_Mo_senseAll_105 : dk_at b_Mo_senseAll 105 t_Mo_senseAll_105 := dk_go 3 a_Mo_senseAll_102 rfl
theorem a_Mo_senseAll_108 : dk_at b_Mo_senseAll 108 t_Mo_senseAll_108 := dk_go 3 a_Mo_senseAll_105 rfl
theorem a_Mo_senseAll_109 : dk_at b_Mo_senseAll 109 t_Mo_senseAll_109 := dk_go 1 a_Mo_senseAll_108 rfl
theorem a_Mo_senseAll_110 : dk_at b_Mo_senseAll 110 t_Mo_senseAll_110 := dk_go 1 a_Mo_senseAll_109 rfl
theorem a_Mo_senseAll_111 : dk_at b_Mo_senseAll 111 t_Mo_senseAll_111 := dk_go 1 a_Mo_senseAll_110 rfl
theorem a_Mo_senseAll_114 : dk_at b_Mo_senseAll 114 t_Mo_senseAll_114 := dk_go 3 a_Mo_senseAll_111 rfl
theorem a_Mo_senseAll_115 : dk_at b_Mo_senseAll 115 t_Mo_senseAll_115 := dk_go 1 a_Mo_senseAll_114 rfl
theorem a_Mo_senseAll_116 : dk_at b_Mo_senseAll 116 t_Mo_senseAll_116 := dk_go 1 a_Mo_senseAll_115 rfl
theorem a_Mo_senseAll_117 : dk_at b_Mo_senseAll 117 t_Mo_senseAll_117 := dk_go 1 a_Mo_senseAll_116 rfl
theorem a_Mo_senseAll_120 : dk_at b_Mo_senseAll 120 t_Mo_senseAll_120 := dk_go 3 a_Mo_senseAll_117 rfl
theorem a_Mo_senseAll_121 : dk_at b_Mo_senseAll 121 t_Mo_senseAll_121 := dk_go 1 a_Mo_senseAll_120 rfl
theorem a_Mo_senseAll_122 : dk_at b_Mo_senseAll 122 t_Mo_senseAll_122 := dk_go 1 a_Mo_senseAll_121 rfl
theorem a_Mo_senseAll_123 : dk_at b_Mo_senseAll 123 t_Mo_senseAll_123 := dk_go 1 a_Mo_senseAll_122 rfl
theorem a_Mo_senseAll_126 : dk_at b_Mo_senseAll 126 t_Mo_senseAll_126 := dk_go 3 a_Mo_senseAll_123 rfl
theorem a_Mo_senseAll_127 : dk_at b_Mo_senseAll 127 t_Mo_senseAll_127 := dk_go 1 a_Mo_senseAll_126 rfl
theorem a_Mo_senseAll_130 : dk_at b_Mo_senseAll 130 t_Mo_senseAll_130 := dk_go 3 a_Mo_senseAll_127 rfl
theorem a_Mo_senseAll_131 : dk_at b_Mo_senseAll 131 t_Mo_senseAll_131 := dk_go 1 a_Mo_senseAll_130 rfl
theorem a_Mo_senseAll_132 : dk_at b_Mo_senseAll 132 t_Mo_senseAll_132 := dk_go 1 a_Mo_senseAll_131 rfl
theorem a_Mo_senseAll_135 : dk_at b_Mo_senseAll 135 t_Mo_senseAll_135 := dk_go 3 a_Mo_senseAll_132 rfl
theorem a_Mo_senseAll_136 : dk_at b_Mo_senseAll 136 t_Mo_senseAll_136 := dk_go 1 a_Mo_senseAll_135 rfl
theorem a_Mo_senseAll_137 : dk_at b_Mo_senseAll 137 t_Mo_senseAll_137 := dk_go 1 a_Mo_senseAll_136 rfl
theorem a_Mo_senseAll_138 : dk_at b_Mo_senseAll 138 t_Mo_senseAll_138 := dk_go 1 a_Mo_senseAll_137 rfl
theorem a_Mo_senseAll_141 : dk_at b_Mo_senseAll 141 t_Mo_senseAll_141 := dk_go 3 a_Mo_senseAll_138 rfl
theorem a_Mo_senseAll_142 : dk_at b_Mo_senseAll 142 t_Mo_senseAll_142 := dk_go 1 a_Mo_senseAll_141 rfl
theorem a_Mo_senseAll_145 : dk_at b_Mo_senseAll 145 t_Mo_senseAll_145 := dk_go 3 a_Mo_senseAll_142 rfl
theorem a_Mo_senseAll_146 : dk_at b_Mo_senseAll 146 t_Mo_senseAll_146 := dk_go 1 a_Mo_senseAll_145 rfl
theorem a_Mo_senseAll_148 : dk_at b_Mo_senseAll 148 t_Mo_senseAll_148 := dk_go 2 a_Mo_senseAll_146 rfl
theorem a_Mo_senseAll_149 : dk_at b_Mo_senseAll 149 t_Mo_senseAll_149 := dk_go 1 a_Mo_senseAll_148 rfl
theorem a_Mo_senseAll_152 : dk_at b_Mo_senseAll 152 t_Mo_senseAll_152 := dk_go 3 a_Mo_senseAll_149 rfl
theorem a_Mo_senseAll_154 : dk_at b_Mo_senseAll 154 t_Mo_senseAll_154 := dk_go 2 a_Mo_senseAll_152 rfl
theorem a_Mo_senseAll_157 : dk_at b_Mo_senseAll 157 t_Mo_senseAll_157 := dk_go 3 a_Mo_senseAll_154 rfl
theorem a_Mo_senseAll_158 : dk_at b_Mo_senseAll 158 t_Mo_senseAll_158 := dk_go 1 a_Mo_senseAll_157 rfl
theorem a_Mo_senseAll_161 : dk_at b_Mo_senseAll 161 t_Mo_senseAll_161 := dk_go 3 a_Mo_senseAll_158 rfl
theorem a_Mo_senseAll_164 : dk_at b_Mo_senseAll 164 t_Mo_senseAll_164 := dk_go 3 a_Mo_senseAll_161 rfl
theorem a_Mo_senseAll_165 : dk_at b_Mo_senseAll 165 t_Mo_senseAll_165 := dk_go 1 a_Mo_senseAll_164 rfl
theorem a_Mo_senseAll_166 : dk_at b_Mo_senseAll 166 t_Mo_senseAll_166 := dk_go 1 a_Mo_senseAll_165 rfl
theorem a_Mo_senseAll_167 : dk_at b_Mo_senseAll 167 t_Mo_senseAll_167 := dk_go 1 a_Mo_senseAll_166 rfl
theorem a_Mo_senseAll_168 : dk_at b_Mo_senseAll 168 t_Mo_senseAll_168 := dk_go 1 a_Mo_senseAll_167 rfl
theorem a_Mo_senseAll_171 : dk_at b_Mo_senseAll 171 t_Mo_senseAll_171 := dk_go 3 a_Mo_senseAll_168 rfl
theorem a_Mo_senseAll_172 : dk_at b_Mo_senseAll 172 t_Mo_senseAll_172 := dk_go 1 a_Mo_senseAll_171 rfl
theorem a_Mo_senseAll_175 : dk_at b_Mo_senseAll 175 t_Mo_senseAll_175 := dk_go 3 a_Mo_senseAll_172 rfl
theorem a_Mo_senseAll_178 : dk_at b_Mo_senseAll 178 t_Mo_senseAll_178 := dk_go 3 a_Mo_senseAll_175 rfl
theorem a_Mo_senseAll_179 : dk_at b_Mo_senseAll 179 t_Mo_senseAll_179 := dk_go 1 a_Mo_senseAll_178 rfl
theorem a_Mo_senseAll_180 : dk_at b_Mo_senseAll 180 t_Mo_senseAll_180 := dk_go 1 a_Mo_senseAll_179 rfl
theorem a_Mo_senseAll_181 : dk_at b_Mo_senseAll 181 t_Mo_senseAll_181 := dk_go 1 a_Mo_senseAll_180 rfl
theorem a_Mo_senseAll_182 : dk_at b_Mo_senseAll 182 t_Mo_senseAll_182 := dk_go 1 a_Mo_senseAll_181 rfl
theorem a_Mo_senseAll_183 : dk_at b_Mo_senseAll 183 t_Mo_senseAll_183 := dk_go 1 a_Mo_senseAll_182 rfl
theorem a_Mo_senseAll_184 : dk_at b_Mo_senseAll 184 t_Mo_senseAll_184 := dk_go 1 a_Mo_senseAll_183 rfl
theorem a_Mo_senseAll_187 : dk_at b_Mo_senseAll 187 t_Mo_senseAll_187 := dk_go 3 a_Mo_senseAll_184 rfl
theorem a_Mo_senseAll_190 : dk_at b_Mo_senseAll 190 t_Mo_senseAll_190 := dk_go 3 a_Mo_senseAll_187 rfl
theorem a_Mo_senseAll_193 : dk_at b_Mo_senseAll 193 t_Mo_senseAll_193 := dk_go 3 a_Mo_senseAll_190 rfl
theorem d_Mo_senseAll_0 : decode b_Mo_senseAll 0 = .ok (.iconst 0, 1) := dk_0 a_Mo_senseAll_0 (dko_3 _)
theorem d_Mo_senseAll_1 : decode b_Mo_senseAll 1 = .ok (.istore_n 1, 1) := dk_0 a_Mo_senseAll_1 (dko_60 _)
theorem d_Mo_senseAll_2 : decode b_Mo_senseAll 2 = .ok (.iload_n 1, 1) := dk_0 a_Mo_senseAll_2 (dko_27 _)
theorem d_Mo_senseAll_3 : decode b_Mo_senseAll 3 = .ok (.aload_n 0, 1) := dk_0 a_Mo_senseAll_3 (dko_42 _)
theorem d_Mo_senseAll_4 : decode b_Mo_senseAll 4 = .ok (.getfield 16, 3) := dk_U2 a_Mo_senseAll_4 (dko_180 _) rfl
theorem d_Mo_senseAll_7 : decode b_Mo_senseAll 7 = .ok (.getfield 442, 3) := dk_U2 a_Mo_senseAll_7 (dko_180 _) rfl
theorem d_Mo_senseAll_10 : decode b_Mo_senseAll 10 = .ok (.if_icmp .ge 51, 3) := dk_S2 a_Mo_senseAll_10 (dko_162 _) (by decide +kernel)
theorem d_Mo_senseAll_13 : decode b_Mo_senseAll 13 = .ok (.aload_n 0, 1) := dk_0 a_Mo_senseAll_13 (dko_42 _)
theorem d_Mo_senseAll_14 : decode b_Mo_senseAll 14 = .ok (.getfield 144, 3) := dk_U2 a_Mo_senseAll_14 (dko_180 _) rfl
theorem d_Mo_senseAll_17 : decode b_Mo_senseAll 17 = .ok (.iload_n 1, 1) := dk_0 a_Mo_senseAll_17 (dko_27 _)
theorem d_Mo_senseAll_18 : decode b_Mo_senseAll 18 = .ok (.iaload, 1) := dk_0 a_Mo_senseAll_18 (dko_46 _)
theorem d_Mo_senseAll_19 : decode b_Mo_senseAll 19 = .ok (.iconst (-1), 1) := dk_0 a_Mo_senseAll_19 (dko_2 _)
theorem d_Mo_senseAll_20 : decode b_Mo_senseAll 20 = .ok (.if_icmp .eq 35, 3) := dk_S2 a_Mo_senseAll_20 (dko_159 _) (by decide +kernel)
theorem d_Mo_senseAll_23 : decode b_Mo_senseAll 23 = .ok (.aload_n 0, 1) := dk_0 a_Mo_senseAll_23 (dko_42 _)
theorem d_Mo_senseAll_24 : decode b_Mo_senseAll 24 = .ok (.getfield 144, 3) := dk_U2 a_Mo_senseAll_24 (dko_180 _) rfl
theorem d_Mo_senseAll_27 : decode b_Mo_senseAll 27 = .ok (.iload_n 1, 1) := dk_0 a_Mo_senseAll_27 (dko_27 _)
theorem d_Mo_senseAll_28 : decode b_Mo_senseAll 28 = .ok (.iaload, 1) := dk_0 a_Mo_senseAll_28 (dko_46 _)
theorem d_Mo_senseAll_29 : decode b_Mo_senseAll 29 = .ok (.iconst 5, 1) := dk_0 a_Mo_senseAll_29 (dko_8 _)
theorem d_Mo_senseAll_30 : decode b_Mo_senseAll 30 = .ok (.if_icmp .ge 25, 3) := dk_S2 a_Mo_senseAll_30 (dko_162 _) (by decide +kernel)
theorem d_Mo_senseAll_33 : decode b_Mo_senseAll 33 = .ok (.aload_n 0, 1) := dk_0 a_Mo_senseAll_33 (dko_42 _)
theorem d_Mo_senseAll_34 : decode b_Mo_senseAll 34 = .ok (.getfield 159, 3) := dk_U2 a_Mo_senseAll_34 (dko_180 _) rfl
theorem d_Mo_senseAll_37 : decode b_Mo_senseAll 37 = .ok (.iload_n 1, 1) := dk_0 a_Mo_senseAll_37 (dko_27 _)
theorem d_Mo_senseAll_38 : decode b_Mo_senseAll 38 = .ok (.aload_n 0, 1) := dk_0 a_Mo_senseAll_38 (dko_42 _)
theorem d_Mo_senseAll_39 : decode b_Mo_senseAll 39 = .ok (.aload_n 0, 1) := dk_0 a_Mo_senseAll_39 (dko_42 _)
theorem d_Mo_senseAll_40 : decode b_Mo_senseAll 40 = .ok (.getfield 144, 3) := dk_U2 a_Mo_senseAll_40 (dko_180 _) rfl
theorem d_Mo_senseAll_43 : decode b_Mo_senseAll 43 = .ok (.iload_n 1, 1) := dk_0 a_Mo_senseAll_43 (dko_27 _)
theorem d_Mo_senseAll_44 : decode b_Mo_senseAll 44 = .ok (.iaload, 1) := dk_0 a_Mo_senseAll_44 (dko_46 _)
theorem d_Mo_senseAll_45 : decode b_Mo_senseAll 45 = .ok (.aload_n 0, 1) := dk_0 a_Mo_senseAll_45 (dko_42 _)
theorem d_Mo_senseAll_46 : decode b_Mo_senseAll 46 = .ok (.getfield 147, 3) := dk_U2 a_Mo_senseAll_46 (dko_180 _) rfl
theorem d_Mo_senseAll_49 : decode b_Mo_senseAll 49 = .ok (.iload_n 1, 1) := dk_0 a_Mo_senseAll_49 (dko_27 _)
theorem d_Mo_senseAll_50 : decode b_Mo_senseAll 50 = .ok (.iaload, 1) := dk_0 a_Mo_senseAll_50 (dko_46 _)
theorem d_Mo_senseAll_51 : decode b_Mo_senseAll 51 = .ok (.invokevirtual 458, 3) := dk_U2 a_Mo_senseAll_51 (dko_182 _) rfl
theorem d_Mo_senseAll_54 : decode b_Mo_senseAll 54 = .ok (.lastore, 1) := dk_0 a_Mo_senseAll_54 (dko_80 _)
theorem d_Mo_senseAll_55 : decode b_Mo_senseAll 55 = .ok (.iinc 1 1, 3) := dk_US a_Mo_senseAll_55 (dko_132 _) (by decide +kernel)
theorem d_Mo_senseAll_58 : decode b_Mo_senseAll 58 = .ok (.goto (-56), 3) := dk_S2 a_Mo_senseAll_58 (dko_167 _) (by decide +kernel)
theorem d_Mo_senseAll_61 : decode b_Mo_senseAll 61 = .ok (.iconst 0, 1) := dk_0 a_Mo_senseAll_61 (dko_3 _)
theorem d_Mo_senseAll_62 : decode b_Mo_senseAll 62 = .ok (.istore_n 1, 1) := dk_0 a_Mo_senseAll_62 (dko_60 _)
theorem d_Mo_senseAll_63 : decode b_Mo_senseAll 63 = .ok (.iload_n 1, 1) := dk_0 a_Mo_senseAll_63 (dko_27 _)
theorem d_Mo_senseAll_64 : decode b_Mo_senseAll 64 = .ok (.bipush 16, 2) := dk_S1 a_Mo_senseAll_64 (dko_16 _) (by decide +kernel)
theorem d_Mo_senseAll_66 : decode b_Mo_senseAll 66 = .ok (.if_icmp .ge 127, 3) := dk_S2 a_Mo_senseAll_66 (dko_162 _) (by decide +kernel)
theorem d_Mo_senseAll_69 : decode b_Mo_senseAll 69 = .ok (.aload_n 0, 1) := dk_0 a_Mo_senseAll_69 (dko_42 _)
theorem d_Mo_senseAll_70 : decode b_Mo_senseAll 70 = .ok (.getfield 150, 3) := dk_U2 a_Mo_senseAll_70 (dko_180 _) rfl
theorem d_Mo_senseAll_73 : decode b_Mo_senseAll 73 = .ok (.iload_n 1, 1) := dk_0 a_Mo_senseAll_73 (dko_27 _)
theorem d_Mo_senseAll_74 : decode b_Mo_senseAll 74 = .ok (.iaload, 1) := dk_0 a_Mo_senseAll_74 (dko_46 _)
theorem d_Mo_senseAll_75 : decode b_Mo_senseAll 75 = .ok (.iconst (-1), 1) := dk_0 a_Mo_senseAll_75 (dko_2 _)
theorem d_Mo_senseAll_76 : decode b_Mo_senseAll 76 = .ok (.if_icmp .eq 111, 3) := dk_S2 a_Mo_senseAll_76 (dko_159 _) (by decide +kernel)
theorem d_Mo_senseAll_79 : decode b_Mo_senseAll 79 = .ok (.aload_n 0, 1) := dk_0 a_Mo_senseAll_79 (dko_42 _)
theorem d_Mo_senseAll_80 : decode b_Mo_senseAll 80 = .ok (.getfield 150, 3) := dk_U2 a_Mo_senseAll_80 (dko_180 _) rfl
theorem d_Mo_senseAll_83 : decode b_Mo_senseAll 83 = .ok (.iload_n 1, 1) := dk_0 a_Mo_senseAll_83 (dko_27 _)
theorem d_Mo_senseAll_84 : decode b_Mo_senseAll 84 = .ok (.iaload, 1) := dk_0 a_Mo_senseAll_84 (dko_46 _)
theorem d_Mo_senseAll_85 : decode b_Mo_senseAll 85 = .ok (.iconst 5, 1) := dk_0 a_Mo_senseAll_85 (dko_8 _)
theorem d_Mo_senseAll_86 : decode b_Mo_senseAll 86 = .ok (.if_icmp .ge 22, 3) := dk_S2 a_Mo_senseAll_86 (dko_162 _) (by decide +kernel)
theorem d_Mo_senseAll_89 : decode b_Mo_senseAll 89 = .ok (.aload_n 0, 1) := dk_0 a_Mo_senseAll_89 (dko_42 _)
theorem d_Mo_senseAll_90 : decode b_Mo_senseAll 90 = .ok (.aload_n 0, 1) := dk_0 a_Mo_senseAll_90 (dko_42 _)
theorem d_Mo_senseAll_91 : decode b_Mo_senseAll 91 = .ok (.getfield 150, 3) := dk_U2 a_Mo_senseAll_91 (dko_180 _) rfl
theorem d_Mo_senseAll_94 : decode b_Mo_senseAll 94 = .ok (.iload_n 1, 1) := dk_0 a_Mo_senseAll_94 (dko_27 _)
theorem d_Mo_senseAll_95 : decode b_Mo_senseAll 95 = .ok (.iaload, 1) := dk_0 a_Mo_senseAll_95 (dko_46 _)
theorem d_Mo_senseAll_96 : decode b_Mo_senseAll 96 = .ok (.aload_n 0, 1) := dk_0 a_Mo_senseAll_96 (dko_42 _)
theorem d_Mo_senseAll_97 : decode b_Mo_senseAll 97 = .ok (.getfield 153, 3) := dk_U2 a_Mo_senseAll_97 (dko_180 _) rfl
theorem d_Mo_senseAll_100 : decode b_Mo_senseAll 100 = .ok (.iload_n 1, 1) := dk_0 a_Mo_senseAll_100 (dko_27 _)
theorem d_Mo_senseAll_101 : decode b_Mo_senseAll 101 = .ok (.iaload, 1) := dk_0 a_Mo_senseAll_101 (dko_46 _)
theorem d_Mo_senseAll_102 : decode b_Mo_senseAll 102 = .ok (.invokevirtual 458, 3) := dk_U2 a_Mo_senseAll_102 (dko_182 _) rfl
theorem d_Mo_senseAll_105 : decode b_Mo_senseAll 105 = .ok (.goto 4, 3) := dk_S2 a_Mo_senseAll_105 (dko_167 _) (by decide +kernel)
theorem d_Mo_senseAll_108 : decode b_Mo_senseAll 108 = .ok (.lconst 0, 1) := dk_0 a_Mo_senseAll_108 (dko_9 _)
theorem d_Mo_senseAll_109 : decode b_Mo_senseAll 109 = .ok (.lstore_n 2, 1) := dk_0 a_Mo_senseAll_109 (dko_65 _)
theorem d_Mo_senseAll_110 : decode b_Mo_senseAll 110 = .ok (.aload_n 0, 1) := dk_0 a_Mo_senseAll_110 (dko_42 _)
theorem d_Mo_senseAll_111 : decode b_Mo_senseAll 111 = .ok (.getfield 150, 3) := dk_U2 a_Mo_senseAll_111 (dko_180 _) rfl
theorem d_Mo_senseAll_114 : decode b_Mo_senseAll 114 = .ok (.iload_n 1, 1) := dk_0 a_Mo_senseAll_114 (dko_27 _)
theorem d_Mo_senseAll_115 : decode b_Mo_senseAll 115 = .ok (.iaload, 1) := dk_0 a_Mo_senseAll_115 (dko_46 _)
theorem d_Mo_senseAll_116 : decode b_Mo_senseAll 116 = .ok (.iconst 5, 1) := dk_0 a_Mo_senseAll_116 (dko_8 _)
theorem d_Mo_senseAll_117 : decode b_Mo_senseAll 117 = .ok (.if_icmp .ge 28, 3) := dk_S2 a_Mo_senseAll_117 (dko_162 _) (by decide +kernel)
theorem d_Mo_senseAll_120 : decode b_Mo_senseAll 120 = .ok (.lload_n 2, 1) := dk_0 a_Mo_senseAll_120 (dko_32 _)
theorem d_Mo_senseAll_121 : decode b_Mo_senseAll 121 = .ok (.lconst 0, 1) := dk_0 a_Mo_senseAll_121 (dko_9 _)
theorem d_Mo_senseAll_122 : decode b_Mo_senseAll 122 = .ok (.lcmp, 1) := dk_0 a_Mo_senseAll_122 (dko_148 _)
theorem d_Mo_senseAll_123 : decode b_Mo_senseAll 123 = .ok (.ifCond .lt 22, 3) := dk_S2 a_Mo_senseAll_123 (dko_155 _) (by decide +kernel)
theorem d_Mo_senseAll_126 : decode b_Mo_senseAll 126 = .ok (.lload_n 2, 1) := dk_0 a_Mo_senseAll_126 (dko_32 _)
theorem d_Mo_senseAll_127 : decode b_Mo_senseAll 127 = .ok (.ldc2_w 454, 3) := dk_U2 a_Mo_senseAll_127 (dko_20 _) rfl
theorem d_Mo_senseAll_130 : decode b_Mo_senseAll 130 = .ok (.ldiv, 1) := dk_0 a_Mo_senseAll_130 (dko_109 _)
theorem d_Mo_senseAll_131 : decode b_Mo_senseAll 131 = .ok (.aload_n 0, 1) := dk_0 a_Mo_senseAll_131 (dko_42 _)
theorem d_Mo_senseAll_132 : decode b_Mo_senseAll 132 = .ok (.getfield 156, 3) := dk_U2 a_Mo_senseAll_132 (dko_180 _) rfl
theorem d_Mo_senseAll_135 : decode b_Mo_senseAll 135 = .ok (.iload_n 1, 1) := dk_0 a_Mo_senseAll_135 (dko_27 _)
theorem d_Mo_senseAll_136 : decode b_Mo_senseAll 136 = .ok (.laload, 1) := dk_0 a_Mo_senseAll_136 (dko_47 _)
theorem d_Mo_senseAll_137 : decode b_Mo_senseAll 137 = .ok (.lcmp, 1) := dk_0 a_Mo_senseAll_137 (dko_148 _)
theorem d_Mo_senseAll_138 : decode b_Mo_senseAll 138 = .ok (.ifCond .lt 7, 3) := dk_S2 a_Mo_senseAll_138 (dko_155 _) (by decide +kernel)
theorem d_Mo_senseAll_141 : decode b_Mo_senseAll 141 = .ok (.iconst 1, 1) := dk_0 a_Mo_senseAll_141 (dko_4 _)
theorem d_Mo_senseAll_142 : decode b_Mo_senseAll 142 = .ok (.goto 4, 3) := dk_S2 a_Mo_senseAll_142 (dko_167 _) (by decide +kernel)
theorem d_Mo_senseAll_145 : decode b_Mo_senseAll 145 = .ok (.iconst 0, 1) := dk_0 a_Mo_senseAll_145 (dko_3 _)
theorem d_Mo_senseAll_146 : decode b_Mo_senseAll 146 = .ok (.istore 4, 2) := dk_U1 a_Mo_senseAll_146 (dko_54 _) rfl
theorem d_Mo_senseAll_148 : decode b_Mo_senseAll 148 = .ok (.aload_n 0, 1) := dk_0 a_Mo_senseAll_148 (dko_42 _)
theorem d_Mo_senseAll_149 : decode b_Mo_senseAll 149 = .ok (.getfield 23, 3) := dk_U2 a_Mo_senseAll_149 (dko_180 _) rfl
theorem d_Mo_senseAll_152 : decode b_Mo_senseAll 152 = .ok (.iload 4, 2) := dk_U1 a_Mo_senseAll_152 (dko_21 _) rfl
theorem d_Mo_senseAll_154 : decode b_Mo_senseAll 154 = .ok (.ifCond .eq 17, 3) := dk_S2 a_Mo_senseAll_154 (dko_153 _) (by decide +kernel)
theorem d_Mo_senseAll_157 : decode b_Mo_senseAll 157 = .ok (.aload_n 0, 1) := dk_0 a_Mo_senseAll_157 (dko_42 _)
theorem d_Mo_senseAll_158 : decode b_Mo_senseAll 158 = .ok (.getfield 23, 3) := dk_U2 a_Mo_senseAll_158 (dko_180 _) rfl
theorem d_Mo_senseAll_161 : decode b_Mo_senseAll 161 = .ok (.getfield 462, 3) := dk_U2 a_Mo_senseAll_161 (dko_180 _) rfl
theorem d_Mo_senseAll_164 : decode b_Mo_senseAll 164 = .ok (.iconst 1, 1) := dk_0 a_Mo_senseAll_164 (dko_4 _)
theorem d_Mo_senseAll_165 : decode b_Mo_senseAll 165 = .ok (.iload_n 1, 1) := dk_0 a_Mo_senseAll_165 (dko_27 _)
theorem d_Mo_senseAll_166 : decode b_Mo_senseAll 166 = .ok (.ishl, 1) := dk_0 a_Mo_senseAll_166 (dko_120 _)
theorem d_Mo_senseAll_167 : decode b_Mo_senseAll 167 = .ok (.ior, 1) := dk_0 a_Mo_senseAll_167 (dko_128 _)
theorem d_Mo_senseAll_168 : decode b_Mo_senseAll 168 = .ok (.goto 16, 3) := dk_S2 a_Mo_senseAll_168 (dko_167 _) (by decide +kernel)
theorem d_Mo_senseAll_171 : decode b_Mo_senseAll 171 = .ok (.aload_n 0, 1) := dk_0 a_Mo_senseAll_171 (dko_42 _)
theorem d_Mo_senseAll_172 : decode b_Mo_senseAll 172 = .ok (.getfield 23, 3) := dk_U2 a_Mo_senseAll_172 (dko_180 _) rfl
theorem d_Mo_senseAll_175 : decode b_Mo_senseAll 175 = .ok (.getfield 462, 3) := dk_U2 a_Mo_senseAll_175 (dko_180 _) rfl
theorem d_Mo_senseAll_178 : decode b_Mo_senseAll 178 = .ok (.iconst 1, 1) := dk_0 a_Mo_senseAll_178 (dko_4 _)
theorem d_Mo_senseAll_179 : decode b_Mo_senseAll 179 = .ok (.iload_n 1, 1) := dk_0 a_Mo_senseAll_179 (dko_27 _)
theorem d_Mo_senseAll_180 : decode b_Mo_senseAll 180 = .ok (.ishl, 1) := dk_0 a_Mo_senseAll_180 (dko_120 _)
theorem d_Mo_senseAll_181 : decode b_Mo_senseAll 181 = .ok (.iconst (-1), 1) := dk_0 a_Mo_senseAll_181 (dko_2 _)
theorem d_Mo_senseAll_182 : decode b_Mo_senseAll 182 = .ok (.ixor, 1) := dk_0 a_Mo_senseAll_182 (dko_130 _)
theorem d_Mo_senseAll_183 : decode b_Mo_senseAll 183 = .ok (.iand, 1) := dk_0 a_Mo_senseAll_183 (dko_126 _)
theorem d_Mo_senseAll_184 : decode b_Mo_senseAll 184 = .ok (.putfield 462, 3) := dk_U2 a_Mo_senseAll_184 (dko_181 _) rfl
theorem d_Mo_senseAll_187 : decode b_Mo_senseAll 187 = .ok (.iinc 1 1, 3) := dk_US a_Mo_senseAll_187 (dko_132 _) (by decide +kernel)
theorem d_Mo_senseAll_190 : decode b_Mo_senseAll 190 = .ok (.goto (-127), 3) := dk_S2 a_Mo_senseAll_190 (dko_167 _) (by decide +kernel)
theorem d_Mo_senseAll_193 : decode b_Mo_senseAll 193 = .ok (.return_, 1) := dk_0 a_Mo_senseAll_193 (dko_177 _)
set_option maxHeartbeats 4000000 in
set_option maxRecDepth 100000 in
theorem ok_Mo_senseAll (pc : Nat) : OpS mt mi_Mo_senseAll pc (cs_Mo_senseAll pc) := (os_n (os_n (os_n (os_n (os_n (os_n (os_l (so_iconst d_Mo_senseAll_0 (by decide))) (os_n (os_l (so_istore_n d_Mo_senseAll_1 rfl (by decide))) (os_l (so_iload_n d_Mo_senseAll_2 rfl)))) (os_n (os_n (os_l (so_aload_n d_Mo_senseAll_3 rfl)) (os_l (so_get (C := R_Mo) (T := F_Mo) (N := 87) (j := 2) in_Mo rfl (by decide) mw_1796 d_Mo_senseAll_4))) (os_n (os_l (so_getN (C := R_Tx) (T := F_Tx) (N := 39) (j := 32) in_Tx rfl (by decide) nw_1620 d_Mo_senseAll_7)) (os_l (so_icge d_Mo_senseAll_10 (by decide)))))) (os_n (os_n (os_l (so_aload_n d_Mo_senseAll_13 rfl)) (os_n (os_l (so_get (C := R_Mo) (T := F_Mo) (N := 87) (j := 53) in_Mo rfl (by decide) mw_1847 d_Mo_senseAll_14)) (os_l (so_iload_n d_Mo_senseAll_17 rfl)))) (os_n (os_n (os_l (so_iaload d_Mo_senseAll_18)) (os_l (so_iconst d_Mo_senseAll_19 (by decide)))) (os_n (os_l (so_iceq d_Mo_senseAll_20 (by decide))) (os_l (so_aload_n d_Mo_senseAll_23 rfl)))))) (os_n (os_n (os_n (os_l (so_get (C := R_Mo) (T := F_Mo) (N := 87) (j := 53) in_Mo rfl (by decide) mw_1847 d_Mo_senseAll_24)) (os_n (os_l (so_iload_n d_Mo_senseAll_27 rfl)) (os_l (so_iaload d_Mo_senseAll_28)))) (os_n (os_n (os_l (so_iconst d_Mo_senseAll_29 (by decide))) (os_l (so_icge d_Mo_senseAll_30 (by decide)))) (os_n (os_l (so_aload_n d_Mo_senseAll_33 rfl)) (os_l (so_get (C := R_Mo) (T := F_Mo) (N := 87) (j := 58) in_Mo rfl (by decide) mw_1852 d_Mo_senseAll_34))))) (os_n (os_n (os_l (so_iload_n d_Mo_senseAll_37 rfl)) (os_n (os_l (so_aload_n d_Mo_senseAll_38 rfl)) (os_l (so_aload_n d_Mo_senseAll_39 rfl)))) (os_n (os_n (os_l (so_get (C := R_Mo) (T := F_Mo) (N := 87) (j := 53) in_Mo rfl (by decide) mw_1847 d_Mo_senseAll_40)) (os_l (so_iload_n d_Mo_senseAll_43 rfl))) (os_n (os_l (so_iaload d_Mo_senseAll_44)) (os_l (so_aload_n d_Mo_senseAll_45 rfl))))))) (os_n (os_n (os_n (os_n (os_l (so_get (C := R_Mo) (T := F_Mo) (N := 87) (j := 54) in_Mo rfl (by decide) mw_1848 d_Mo_senseAll_46)) (os_n (os_l (so_iload_n d_Mo_senseAll_49 rfl)) (os_l (so_iaload d_Mo_senseAll_50)))) (os_n (os_n (os_l (so_callV (iv := mi_Mo_sensed) rfl rfl rfl mw_2607 mw_2609 sl_181 mw_18 mw_2610 ⟨by decide +kernel, by decide +kernel, by decide +kernel⟩ (by decide) d_Mo_senseAll_51)) (os_l (so_lastore d_Mo_senseAll_54))) (os_n (os_l (so_iinc d_Mo_senseAll_55 (by decide) (by decide))) (os_l (so_goto d_Mo_senseAll_58 (by decide)))))) (os_n (os_n (os_l (so_iconst d_Mo_senseAll_61 (by decide))) (os_n (os_l (so_istore_n d_Mo_senseAll_62 rfl (by decide))) (os_l (so_iload_n d_Mo_senseAll_63 rfl)))) (os_n (os_n (os_l (so_bipush d_Mo_senseAll_64 (by decide))) (os_l (so_icge d_Mo_senseAll_66 (by decide)))) (os_n (os_l (so_aload_n d_Mo_senseAll_69 rfl)) (os_l (so_get (C := R_Mo) (T := F_Mo) (N := 87) (j := 55) in_Mo rfl (by decide) mw_1849 d_Mo_senseAll_70)))))) (os_n (os_n (os_n (os_l (so_iload_n d_Mo_senseAll_73 rfl)) (os_n (os_l (so_iaload d_Mo_senseAll_74)) (os_l (so_iconst d_Mo_senseAll_75 (by decide))))) (os_n (os_n (os_l (so_iceq d_Mo_senseAll_76 (by decide))) (os_l (so_aload_n d_Mo_senseAll_79 rfl))) (os_n (os_l (so_get (C := R_Mo) (T := F_Mo) (N := 87) (j := 55) in_Mo rfl (by decide) mw_1849 d_Mo_senseAll_80)) (os_l (so_iload_n d_Mo_senseAll_83 rfl))))) (os_n (os_n (os_l (so_iaload d_Mo_senseAll_84)) (os_n (os_l (so_iconst d_Mo_senseAll_85 (by decide))) (os_l (so_icge d_Mo_senseAll_86 (by decide))))) (os_n (os_n (os_l (so_aload_n d_Mo_senseAll_89 rfl)) (os_l (so_aload_n d_Mo_senseAll_90 rfl))) (os_n (os_l (so_get (C := R_Mo) (T := F_Mo) (N := 87) (j := 55) in_Mo rfl (by decide) mw_1849 d_Mo_senseAll_91)) (os_l (so_iload_n d_Mo_senseAll_94 rfl)))))))) (os_n (os_n (os_n (os_n (os_n (os_l (so_iaload d_Mo_senseAll_95)) (os_n (os_l (so_aload_n d_Mo_senseAll_96 rfl)) (os_l (so_get (C := R_Mo) (T := F_Mo) (N := 87) (j := 56) in_Mo rfl (by decide) mw_1850 d_Mo_senseAll_97)))) (os_n (os_n (os_l (so_iload_n d_Mo_senseAll_100 rfl)) (os_l (so_iaload d_Mo_senseAll_101))) (os_n (os_l (so_callV (iv := mi_Mo_sensed) rfl rfl rfl mw_2607 mw_2609 sl_181 mw_18 mw_2610 ⟨by decide +kernel, by decide +kernel, by decide +kernel⟩ (by decide) d_Mo_senseAll_102)) (os_l (so_goto d_Mo_senseAll_105 (by decide)))))) (os_n (os_n (os_l (so_lconst d_Mo_senseAll_108 (by decide))) (os_n (os_l (so_lstore_n d_Mo_senseAll_109 rfl (by decide))) (os_l (so_aload_n d_Mo_senseAll_110 rfl)))) (os_n (os_n (os_l (so_get (C := R_Mo) (T := F_Mo) (N := 87) (j := 55) in_Mo rfl (by decide) mw_1849 d_Mo_senseAll_111)) (os_l (so_iload_n d_Mo_senseAll_114 rfl))) (os_n (os_l (so_iaload d_Mo_senseAll_115)) (os_l (so_iconst d_Mo_senseAll_116 (by decide))))))) (os_n (os_n (os_n (os_l (so_icge d_Mo_senseAll_117 (by decide))) (os_n (os_l (so_lload_n d_Mo_senseAll_120 rfl)) (os_l (so_lconst d_Mo_senseAll_121 (by decide))))) (os_n (os_n (os_l (so_lcmp d_Mo_senseAll_122)) (os_l (so_iflt d_Mo_senseAll_123 (by decide)))) (os_n (os_l (so_lload_n d_Mo_senseAll_126 rfl)) (os_l (so_ldc2 mw_2611 d_Mo_senseAll_127))))) (os_n (os_n (os_l (so_ldiv d_Mo_senseAll_130)) (os_n (os_l (so_aload_n d_Mo_senseAll_131 rfl)) (os_l (so_get (C := R_Mo) (T := F_Mo) (N := 87) (j := 57) in_Mo rfl (by decide) mw_1851 d_Mo_senseAll_132)))) (os_n (os_n (os_l (so_iload_n d_Mo_senseAll_135 rfl)) (os_l (so_laload d_Mo_senseAll_136))) (os_n (os_l (so_lcmp d_Mo_senseAll_137)) (os_l (so_iflt d_Mo_senseAll_138 (by decide)))))))) (os_n (os_n (os_n (os_n (os_l (so_iconst d_Mo_senseAll_141 (by decide))) (os_n (os_l (so_goto d_Mo_senseAll_142 (by decide))) (os_l (so_iconst d_Mo_senseAll_145 (by decide))))) (os_n (os_n (os_l (so_istore d_Mo_senseAll_146 (by decide))) (os_l (so_aload_n d_Mo_senseAll_148 rfl))) (os_n (os_l (so_get (C := R_Mo) (T := F_Mo) (N := 87) (j := 3) in_Mo rfl (by decide) mw_1797 d_Mo_senseAll_149)) (os_l (so_iload d_Mo_senseAll_152))))) (os_n (os_n (os_l (so_ifeq d_Mo_senseAll_154 (by decide))) (os_n (os_l (so_aload_n d_Mo_senseAll_157 rfl)) (os_l (so_get (C := R_Mo) (T := F_Mo) (N := 87) (j := 3) in_Mo rfl (by decide) mw_1797 d_Mo_senseAll_158)))) (os_n (os_n (os_l (so_getN (C := R_Mr) (T := F_Mr) (N := 25) (j := 24) in_Mr rfl (by decide) nw_1741 d_Mo_senseAll_161)) (os_l (so_iconst d_Mo_senseAll_164 (by decide)))) (os_n (os_l (so_iload_n d_Mo_senseAll_165 rfl)) (os_l (so_ishl d_Mo_senseAll_166)))))) (os_n (os_n (os_n (os_l (so_ior d_Mo_senseAll_167)) (os_n (os_l (so_goto d_Mo_senseAll_168 (by decide))) (os_l (so_aload_n d_Mo_senseAll_171 rfl)))) (os_n (os_n (os_l (so_get (C := R_Mo) (T := F_Mo) (N := 87) (j := 3) in_Mo rfl (by decide) mw_1797 d_Mo_senseAll_172)) (os_l (so_getN (C := R_Mr) (T := F_Mr) (N := 25) (j := 24) in_Mr rfl (by decide) nw_1741 d_Mo_senseAll_175))) (os_n (os_l (so_iconst d_Mo_senseAll_178 (by decide))) (os_l (so_iload_n d_Mo_senseAll_179 rfl))))) (os_n (os_n (os_n (os_l (so_ishl d_Mo_senseAll_180)) (os_l (so_iconst d_Mo_senseAll_181 (by decide)))) (os_n (os_l (so_ixor d_Mo_senseAll_182)) (os_l (so_iand d_Mo_senseAll_183)))) (os_n (os_n (os_l (so_putIN (C := R_Mr) (T := F_Mr) (N := 25) (j := 24) in_Mr t_Mr_ok n_Mr rfl (by decide) nw_1741 rfl (by decide +kernel) d_Mo_senseAll_184)) (os_l (so_iinc d_Mo_senseAll_187 (by decide) (by decide)))) (os_n (os_l (so_goto d_Mo_senseAll_190 (by decide))) (os_l (so_return rfl d_Mo_senseAll_193)))))))))
abbrev t_Mo_pass_12 : List UInt8 := 172 :: []
abbrev t_Mo_pass_9 : List UInt8 := 182 :: 1 :: 207 :: t_Mo_pass_12
abbrev t_Mo_pass_7 : List UInt8 := 21 :: 4 :: t_Mo_pass_9
abbrev t_Mo_pass_6 : List UInt8 := 29 :: t_Mo_pass_7
abbrev t_Mo_pass_5 : List UInt8 := 28 :: t_Mo_pass_6
abbrev t_Mo_pass_4 : List UInt8 := 27 :: t_Mo_pass_5
abbrev t_Mo_pass_1 : List UInt8 := 180 :: 0 :: 23 :: t_Mo_pass_4
abbrev t_Mo_pass_0 : List UInt8 := 42 :: t_Mo_pass_1
theorem a_Mo_pass_0 : dk_at b_Mo_pass 0 t_Mo_pass_0 := dk_start (by decide +kernel)
theorem a_Mo_pass_1 : dk_at b_Mo_pass 1 t_Mo_pass_1 := dk_go 1 a_Mo_pass_0 rfl
theorem a_Mo_pass_4 : dk_at b_Mo_pass 4 t_Mo_pass_4 := dk_go 3 a_Mo_pass_1 rfl
theorem a_Mo_pass_5 : dk_at b_Mo_pass 5 t_Mo_pass_5 := dk_go 1 a_Mo_pass_4 rfl
theorem a_Mo_pass_6 : dk_at b_Mo_pass 6 t_Mo_pass_6 := dk_go 1 a_Mo_pass_5 rfl
theorem a_Mo_pass_7 : dk_at b_Mo_pass 7 t_Mo_pass_7 := dk_go 1 a_Mo_pass_6 rfl
theorem a_Mo_pass_9 : dk_at b_Mo_pass 9 t_Mo_pass_9 := dk_go 2 a_Mo_pass_7 rfl
theorem a_Mo_pass_12 : dk_at b_Mo_pass 12 t_Mo_pass_12 := dk_go 3 a_Mo_pass_9 rfl
theorem d_Mo_pass_0 : decode b_Mo_pass 0 = .ok (.aload_n 0, 1) := dk_0 a_Mo_pass_0 (dko_42 _)
theorem d_Mo_pass_1 : decode b_Mo_pass 1 = .ok (.getfield 23, 3) := dk_U2 a_Mo_pass_1 (dko_180 _) rfl
theorem d_Mo_pass_4 : decode b_Mo_pass 4 = .ok (.iload_n 1, 1) := dk_0 a_Mo_pass_4 (dko_27 _)
theorem d_Mo_pass_5 : decode b_Mo_pass 5 = .ok (.iload_n 2, 1) := dk_0 a_Mo_pass_5 (dko_28 _)
theorem d_Mo_pass_6 : decode b_Mo_pass 6 = .ok (.iload_n 3, 1) := dk_0 a_Mo_pass_6 (dko_29 _)
theorem d_Mo_pass_7 : decode b_Mo_pass 7 = .ok (.iload 4, 2) := dk_U1 a_Mo_pass_7 (dko_21 _) rfl
theorem d_Mo_pass_9 : decode b_Mo_pass 9 = .ok (.invokevirtual 463, 3) := dk_U2 a_Mo_pass_9 (dko_182 _) rfl
theorem d_Mo_pass_12 : decode b_Mo_pass 12 = .ok (.ireturn, 1) := dk_0 a_Mo_pass_12 (dko_172 _)
set_option maxHeartbeats 4000000 in
set_option maxRecDepth 100000 in
theorem ok_Mo_pass (pc : Nat) : OpS mt mi_Mo_pass pc (cs_Mo_pass pc) := (os_n (os_n (os_n (os_l (so_aload_n d_Mo_pass_0 rfl)) (os_l (so_get (C := R_Mo) (T := F_Mo) (N := 87) (j := 3) in_Mo rfl (by decide) mw_1797 d_Mo_pass_1))) (os_n (os_l (so_iload_n d_Mo_pass_4 rfl)) (os_l (so_iload_n d_Mo_pass_5 rfl)))) (os_n (os_n (os_l (so_iload_n d_Mo_pass_6 rfl)) (os_l (so_iload d_Mo_pass_7))) (os_n (os_l (so_callV (iv := mi_Mr_pass) rfl rfl rfl mw_2549 mw_2550 mw_2551 mw_20 mw_2552 ⟨by decide +kernel, by decide +kernel, by decide +kernel⟩ (by decide) d_Mo_pass_9)) (os_l (so_ireturn rfl d_Mo_pass_12)))))
abbrev t_Mo_reset_8 : List UInt8 := 172 :: []
abbrev t_Mo_reset_5 : List UInt8 := 182 :: 1 :: 211 :: t_Mo_reset_8
abbrev t_Mo_reset_4 : List UInt8 := 27 :: t_Mo_reset_5
abbrev t_Mo_reset_1 : List UInt8 := 180 :: 0 :: 23 :: t_Mo_reset_4
abbrev t_Mo_reset_0 : List UInt8 := 42 :: t_Mo_reset_1
theorem a_Mo_reset_0 : dk_at b_Mo_reset 0 t_Mo_reset_0 := dk_start (by decide +kernel)
theorem a_Mo_reset_1 : dk_at b_Mo_reset 1 t_Mo_reset_1 := dk_go 1 a_Mo_reset_0 rfl
theorem a_Mo_reset_4 : dk_at b_Mo_reset 4 t_Mo_reset_4 := dk_go 3 a_Mo_reset_1 rfl
theorem a_Mo_reset_5 : dk_at b_Mo_reset 5 t_Mo_reset_5 := dk_go 1 a_Mo_reset_4 rfl
theorem a_Mo_reset_8 : dk_at b_Mo_reset 8 t_Mo_reset_8 := dk_go 3 a_Mo_reset_5 rfl
theorem d_Mo_reset_0 : decode b_Mo_reset 0 = .ok (.aload_n 0, 1) := dk_0 a_Mo_reset_0 (dko_42 _)
theorem d_Mo_reset_1 : decode b_Mo_reset 1 = .ok (.getfield 23, 3) := dk_U2 a_Mo_reset_1 (dko_180 _) rfl
theorem d_Mo_reset_4 : decode b_Mo_reset 4 = .ok (.iload_n 1, 1) := dk_0 a_Mo_reset_4 (dko_27 _)
theorem d_Mo_reset_5 : decode b_Mo_reset 5 = .ok (.invokevirtual 467, 3) := dk_U2 a_Mo_reset_5 (dko_182 _) rfl
theorem d_Mo_reset_8 : decode b_Mo_reset 8 = .ok (.ireturn, 1) := dk_0 a_Mo_reset_8 (dko_172 _)
set_option maxHeartbeats 4000000 in
set_option maxRecDepth 100000 in
theorem ok_Mo_reset (pc : Nat) : OpS mt mi_Mo_reset pc (cs_Mo_reset pc) := (os_n (os_n (os_l (so_aload_n d_Mo_reset_0 rfl)) (os_l (so_get (C := R_Mo) (T := F_Mo) (N := 87) (j := 3) in_Mo rfl (by decide) mw_1797 d_Mo_reset_1))) (os_n (os_l (so_iload_n d_Mo_reset_4 rfl)) (os_n (os_l (so_callV (iv := mi_Mr_reset) rfl rfl rfl mw_2561 mw_2562 mw_2563 mw_20 mw_2564 ⟨by decide +kernel, by decide +kernel, by decide +kernel⟩ (by decide) d_Mo_reset_5)) (os_l (so_zreturn rfl d_Mo_reset_8)))))
abbrev t_Mo_bars_8 : List UInt8 := 172 :: []
abbrev t_Mo_bars_5 : List UInt8 := 182 :: 1 :: 168 :: t_Mo_bars_8
abbrev t_Mo_bars_4 : List UInt8 := 27 :: t_Mo_bars_5
abbrev t_Mo_bars_1 : List UInt8 := 180 :: 0 :: 23 :: t_Mo_bars_4
abbrev t_Mo_bars_0 : List UInt8 := 42 :: t_Mo_bars_1
theorem a_Mo_bars_0 : dk_at b_Mo_bars 0 t_Mo_bars_0 := dk_start (by decide +kernel)
theorem a_Mo_bars_1 : dk_at b_Mo_bars 1 t_Mo_bars_1 := dk_go 1 a_Mo_bars_0 rfl
theorem a_Mo_bars_4 : dk_at b_Mo_bars 4 t_Mo_bars_4 := dk_go 3 a_Mo_bars_1 rfl
theorem a_Mo_bars_5 : dk_at b_Mo_bars 5 t_Mo_bars_5 := dk_go 1 a_Mo_bars_4 rfl
theorem a_Mo_bars_8 : dk_at b_Mo_bars 8 t_Mo_bars_8 := dk_go 3 a_Mo_bars_5 rfl
theorem d_Mo_bars_0 : decode b_Mo_bars 0 = .ok (.aload_n 0, 1) := dk_0 a_Mo_bars_0 (dko_42 _)
theorem d_Mo_bars_1 : decode b_Mo_bars 1 = .ok (.getfield 23, 3) := dk_U2 a_Mo_bars_1 (dko_180 _) rfl
theorem d_Mo_bars_4 : decode b_Mo_bars 4 = .ok (.iload_n 1, 1) := dk_0 a_Mo_bars_4 (dko_27 _)
theorem d_Mo_bars_5 : decode b_Mo_bars 5 = .ok (.invokevirtual 424, 3) := dk_U2 a_Mo_bars_5 (dko_182 _) rfl
theorem d_Mo_bars_8 : decode b_Mo_bars 8 = .ok (.ireturn, 1) := dk_0 a_Mo_bars_8 (dko_172 _)
set_option maxHeartbeats 4000000 in
set_option maxRecDepth 100000 in
theorem ok_Mo_bars (pc : Nat) : OpS mt mi_Mo_bars pc (cs_Mo_bars pc) := (os_n (os_n (os_l (so_aload_n d_Mo_bars_0 rfl)) (os_l (so_get (C := R_Mo) (T := F_Mo) (N := 87) (j := 3) in_Mo rfl (by decide) mw_1797 d_Mo_bars_1))) (os_n (os_l (so_iload_n d_Mo_bars_4 rfl)) (os_n (os_l (so_callV (iv := mi_Mr_act1) rfl rfl rfl mw_2478 mw_2479 mw_2480 mw_20 mw_2481 ⟨by decide +kernel, by decide +kernel, by decide +kernel⟩ (by decide) d_Mo_bars_5)) (os_l (so_ireturn rfl d_Mo_bars_8)))))
abbrev t_Mo_row_109 : List UInt8 := 172 :: []
abbrev t_Mo_row_108 : List UInt8 := 3 :: t_Mo_row_109
abbrev t_Mo_row_105 : List UInt8 := 167 :: 0 :: 4 :: t_Mo_row_108
abbrev t_Mo_row_104 : List UInt8 := 4 :: t_Mo_row_105
abbrev t_Mo_row_101 : List UInt8 := 153 :: 0 :: 7 :: t_Mo_row_104
abbrev t_Mo_row_98 : List UInt8 := 182 :: 1 :: 225 :: t_Mo_row_101
abbrev t_Mo_row_97 : List UInt8 := 100 :: t_Mo_row_98
abbrev t_Mo_row_96 : List UInt8 := 4 :: t_Mo_row_97
abbrev t_Mo_row_95 : List UInt8 := 27 :: t_Mo_row_96
abbrev t_Mo_row_92 : List UInt8 := 180 :: 0 :: 23 :: t_Mo_row_95
abbrev t_Mo_row_91 : List UInt8 := 42 :: t_Mo_row_92
abbrev t_Mo_row_88 : List UInt8 := 167 :: 0 :: 21 :: t_Mo_row_91
abbrev t_Mo_row_87 : List UInt8 := 46 :: t_Mo_row_88
abbrev t_Mo_row_86 : List UInt8 := 100 :: t_Mo_row_87
abbrev t_Mo_row_85 : List UInt8 := 4 :: t_Mo_row_86
abbrev t_Mo_row_84 : List UInt8 := 27 :: t_Mo_row_85
abbrev t_Mo_row_81 : List UInt8 := 180 :: 1 :: 223 :: t_Mo_row_84
abbrev t_Mo_row_78 : List UInt8 := 180 :: 0 :: 23 :: t_Mo_row_81
abbrev t_Mo_row_77 : List UInt8 := 42 :: t_Mo_row_78
abbrev t_Mo_row_74 : List UInt8 := 160 :: 0 :: 17 :: t_Mo_row_77
abbrev t_Mo_row_73 : List UInt8 := 5 :: t_Mo_row_74
abbrev t_Mo_row_72 : List UInt8 := 28 :: t_Mo_row_73
abbrev t_Mo_row_69 : List UInt8 := 167 :: 0 :: 40 :: t_Mo_row_72
abbrev t_Mo_row_68 : List UInt8 := 3 :: t_Mo_row_69
abbrev t_Mo_row_65 : List UInt8 := 167 :: 0 :: 44 :: t_Mo_row_68
abbrev t_Mo_row_64 : List UInt8 := 4 :: t_Mo_row_65
abbrev t_Mo_row_61 : List UInt8 := 153 :: 0 :: 7 :: t_Mo_row_64
abbrev t_Mo_row_60 : List UInt8 := 51 :: t_Mo_row_61
abbrev t_Mo_row_59 : List UInt8 := 100 :: t_Mo_row_60
abbrev t_Mo_row_58 : List UInt8 := 4 :: t_Mo_row_59
abbrev t_Mo_row_57 : List UInt8 := 27 :: t_Mo_row_58
abbrev t_Mo_row_54 : List UInt8 := 180 :: 1 :: 220 :: t_Mo_row_57
abbrev t_Mo_row_51 : List UInt8 := 180 :: 0 :: 23 :: t_Mo_row_54
abbrev t_Mo_row_50 : List UInt8 := 42 :: t_Mo_row_51
abbrev t_Mo_row_47 : List UInt8 := 160 :: 0 :: 25 :: t_Mo_row_50
abbrev t_Mo_row_46 : List UInt8 := 4 :: t_Mo_row_47
abbrev t_Mo_row_45 : List UInt8 := 28 :: t_Mo_row_46
abbrev t_Mo_row_42 : List UInt8 := 167 :: 0 :: 67 :: t_Mo_row_45
abbrev t_Mo_row_41 : List UInt8 := 46 :: t_Mo_row_42
abbrev t_Mo_row_40 : List UInt8 := 100 :: t_Mo_row_41
abbrev t_Mo_row_39 : List UInt8 := 4 :: t_Mo_row_40
abbrev t_Mo_row_38 : List UInt8 := 27 :: t_Mo_row_39
abbrev t_Mo_row_35 : List UInt8 := 180 :: 1 :: 217 :: t_Mo_row_38
abbrev t_Mo_row_32 : List UInt8 := 180 :: 0 :: 23 :: t_Mo_row_35
abbrev t_Mo_row_31 : List UInt8 := 42 :: t_Mo_row_32
abbrev t_Mo_row_28 : List UInt8 := 154 :: 0 :: 17 :: t_Mo_row_31
abbrev t_Mo_row_27 : List UInt8 := 28 :: t_Mo_row_28
abbrev t_Mo_row_26 : List UInt8 := 172 :: t_Mo_row_27
abbrev t_Mo_row_25 : List UInt8 := 2 :: t_Mo_row_26
abbrev t_Mo_row_22 : List UInt8 := 164 :: 0 :: 5 :: t_Mo_row_25
abbrev t_Mo_row_21 : List UInt8 := 6 :: t_Mo_row_22
abbrev t_Mo_row_20 : List UInt8 := 28 :: t_Mo_row_21
abbrev t_Mo_row_17 : List UInt8 := 155 :: 0 :: 8 :: t_Mo_row_20
abbrev t_Mo_row_16 : List UInt8 := 28 :: t_Mo_row_17
abbrev t_Mo_row_13 : List UInt8 := 163 :: 0 :: 12 :: t_Mo_row_16
abbrev t_Mo_row_10 : List UInt8 := 180 :: 1 :: 214 :: t_Mo_row_13
abbrev t_Mo_row_7 : List UInt8 := 180 :: 0 :: 23 :: t_Mo_row_10
abbrev t_Mo_row_6 : List UInt8 := 42 :: t_Mo_row_7
abbrev t_Mo_row_5 : List UInt8 := 27 :: t_Mo_row_6
abbrev t_Mo_row_2 : List UInt8 := 161 :: 0 :: 23 :: t_Mo_row_5
abbrev t_Mo_row_1 : List UInt8 := 4 :: t_Mo_row_2
abbrev t_Mo_row_0 : List UInt8 := 27 :: t_Mo_row_1
theorem a_Mo_row_0 : dk_at b_Mo_row 0 t_Mo_row_0 := dk_start (by decide +kernel)
theorem a_Mo_row_1 : dk_at b_Mo_row 1 t_Mo_row_1 := dk_go 1 a_Mo_row_0 rfl
theorem a_Mo_row_2 : dk_at b_Mo_row 2 t_Mo_row_2 := dk_go 1 a_Mo_row_1 rfl
theorem a_Mo_row_5 : dk_at b_Mo_row 5 t_Mo_row_5 := dk_go 3 a_Mo_row_2 rfl
theorem a_Mo_row_6 : dk_at b_Mo_row 6 t_Mo_row_6 := dk_go 1 a_Mo_row_5 rfl
theorem a_Mo_row_7 : dk_at b_Mo_row 7 t_Mo_row_7 := dk_go 1 a_Mo_row_6 rfl
theorem a_Mo_row_10 : dk_at b_Mo_row 10 t_Mo_row_10 := dk_go 3 a_Mo_row_7 rfl
theorem a_Mo_row_13 : dk_at b_Mo_row 13 t_Mo_row_13 := dk_go 3 a_Mo_row_10 rfl
theorem a_Mo_row_16 : dk_at b_Mo_row 16 t_Mo_row_16 := dk_go 3 a_Mo_row_13 rfl
theorem a_Mo_row_17 : dk_at b_Mo_row 17 t_Mo_row_17 := dk_go 1 a_Mo_row_16 rfl
theorem a_Mo_row_20 : dk_at b_Mo_row 20 t_Mo_row_20 := dk_go 3 a_Mo_row_17 rfl
theorem a_Mo_row_21 : dk_at b_Mo_row 21 t_Mo_row_21 := dk_go 1 a_Mo_row_20 rfl
theorem a_Mo_row_22 : dk_at b_Mo_row 22 t_Mo_row_22 := dk_go 1 a_Mo_row_21 rfl
theorem a_Mo_row_25 : dk_at b_Mo_row 25 t_Mo_row_25 := dk_go 3 a_Mo_row_22 rfl
theorem a_Mo_row_26 : dk_at b_Mo_row 26 t_Mo_row_26 := dk_go 1 a_Mo_row_25 rfl
theorem a_Mo_row_27 : dk_at b_Mo_row 27 t_Mo_row_27 := dk_go 1 a_Mo_row_26 rfl
theorem a_Mo_row_28 : dk_at b_Mo_row 28 t_Mo_row_28 := dk_go 1 a_Mo_row_27 rfl
theorem a_Mo_row_31 : dk_at b_Mo_row 31 t_Mo_row_31 := dk_go 3 a_Mo_row_28 rfl
theorem a_Mo_row_32 : dk_at b_Mo_row 32 t_Mo_row_32 := dk_go 1 a_Mo_row_31 rfl
theorem a_Mo_row_35 : dk_at b_Mo_row 35 t_Mo_row_35 := dk_go 3 a_Mo_row_32 rfl
theorem a_Mo_row_38 : dk_at b_Mo_row 38 t_Mo_row_38 := dk_go 3 a_Mo_row_35 rfl
theorem a_Mo_row_39 : dk_at b_Mo_row 39 t_Mo_row_39 := dk_go 1 a_Mo_row_38 rfl
theorem a_Mo_row_40 : dk_at b_Mo_row 40 t_Mo_row_40 := dk_go 1 a_Mo_row_39 rfl
theorem a_Mo_row_41 : dk_at b_Mo_row 41 t_Mo_row_41 := dk_go 1 a_Mo_row_40 rfl
theorem a_Mo_row_42 : dk_at b_Mo_row 42 t_Mo_row_42 := dk_go 1 a_Mo_row_41 rfl
theorem a_Mo_row_45 : dk_at b_Mo_row 45 t_Mo_row_45 := dk_go 3 a_Mo_row_42 rfl
theorem a_Mo_row_46 : dk_at b_Mo_row 46 t_Mo_row_46 := dk_go 1 a_Mo_row_45 rfl
theorem a_Mo_row_47 : dk_at b_Mo_row 47 t_Mo_row_47 := dk_go 1 a_Mo_row_46 rfl
theorem a_Mo_row_50 : dk_at b_Mo_row 50 t_Mo_row_50 := dk_go 3 a_Mo_row_47 rfl
theorem a_Mo_row_51 : dk_at b_Mo_row 51 t_Mo_row_51 := dk_go 1 a_Mo_row_50 rfl
theorem a_Mo_row_54 : dk_at b_Mo_row 54 t_Mo_row_54 := dk_go 3 a_Mo_row_51 rfl
theorem a_Mo_row_57 : dk_at b_Mo_row 57 t_Mo_row_57 := dk_go 3 a_Mo_row_54 rfl
theorem a_Mo_row_58 : dk_at b_Mo_row 58 t_Mo_row_58 := dk_go 1 a_Mo_row_57 rfl
theorem a_Mo_row_59 : dk_at b_Mo_row 59 t_Mo_row_59 := dk_go 1 a_Mo_row_58 rfl
theorem a_Mo_row_60 : dk_at b_Mo_row 60 t_Mo_row_60 := dk_go 1 a_Mo_row_59 rfl
theorem a_Mo_row_61 : dk_at b_Mo_row 61 t_Mo_row_61 := dk_go 1 a_Mo_row_60 rfl
theorem a_Mo_row_64 : dk_at b_Mo_row 64 t_Mo_row_64 := dk_go 3 a_Mo_row_61 rfl
theorem a_Mo_row_65 : dk_at b_Mo_row 65 t_Mo_row_65 := dk_go 1 a_Mo_row_64 rfl
theorem a_Mo_row_68 : dk_at b_Mo_row 68 t_Mo_row_68 := dk_go 3 a_Mo_row_65 rfl
theorem a_Mo_row_69 : dk_at b_Mo_row 69 t_Mo_row_69 := dk_go 1 a_Mo_row_68 rfl
theorem a_Mo_row_72 : dk_at b_Mo_row 72 t_Mo_row_72 := dk_go 3 a_Mo_row_69 rfl
theorem a_Mo_row_73 : dk_at b_Mo_row 73 t_Mo_row_73 := dk_go 1 a_Mo_row_72 rfl
theorem a_Mo_row_74 : dk_at b_Mo_row 74 t_Mo_row_74 := dk_go 1 a_Mo_row_73 rfl
theorem a_Mo_row_77 : dk_at b_Mo_row 77 t_Mo_row_77 := dk_go 3 a_Mo_row_74 rfl
theorem a_Mo_row_78 : dk_at b_Mo_row 78 t_Mo_row_78 := dk_go 1 a_Mo_row_77 rfl
theorem a_Mo_row_81 : dk_at b_Mo_row 81 t_Mo_row_81 := dk_go 3 a_Mo_row_78 rfl
theorem a_Mo_row_84 : dk_at b_Mo_row 84 t_Mo_row_84 := dk_go 3 a_Mo_row_81 rfl
theorem a_Mo_row_85 : dk_at b_Mo_row 85 t_Mo_row_85 := dk_go 1 a_Mo_row_84 rfl
theorem a_Mo_row_86 : dk_at b_Mo_row 86 t_Mo_row_86 := dk_go 1 a_Mo_row_85 rfl
theorem a_Mo_row_87 : dk_at b_Mo_row 87 t_Mo_row_87 := dk_go 1 a_Mo_row_86 rfl
theorem a_Mo_row_88 : dk_at b_Mo_row 88 t_Mo_row_88 := dk_go 1 a_Mo_row_87 rfl
theorem a_Mo_row_91 : dk_at b_Mo_row 91 t_Mo_row_91 := dk_go 3 a_Mo_row_88 rfl
theorem a_Mo_row_92 : dk_at b_Mo_row 92 t_Mo_row_92 := dk_go 1 a_Mo_row_91 rfl
theorem a_Mo_row_95 : dk_at b_Mo_row 95 t_Mo_row_95 := dk_go 3 a_Mo_row_92 rfl
theorem a_Mo_row_96 : dk_at b_Mo_row 96 t_Mo_row_96 := dk_go 1 a_Mo_row_95 rfl
theorem a_Mo_row_97 : dk_at b_Mo_row 97 t_Mo_row_97 := dk_go 1 a_Mo_row_96 rfl
theorem a_Mo_row_98 : dk_at b_Mo_row 98 t_Mo_row_98 := dk_go 1 a_Mo_row_97 rfl
theorem a_Mo_row_101 : dk_at b_Mo_row 101 t_Mo_row_101 := dk_go 3 a_Mo_row_98 rfl
theorem a_Mo_row_104 : dk_at b_Mo_row 104 t_Mo_row_104 := dk_go 3 a_Mo_row_101 rfl
theorem a_Mo_row_105 : dk_at b_Mo_row 105 t_Mo_row_105 := dk_go 1 a_Mo_row_104 rfl
theorem a_Mo_row_108 : dk_at b_Mo_row 108 t_Mo_row_108 := dk_go 3 a_Mo_row_105 rfl
theorem a_Mo_row_109 : dk_at b_Mo_row 109 t_Mo_row_109 := dk_go 1 a_Mo_row_108 rfl
theorem d_Mo_row_0 : decode b_Mo_row 0 = .ok (.iload_n 1, 1) := dk_0 a_Mo_row_0 (dko_27 _)
theorem d_Mo_row_1 : decode b_Mo_row 1 = .ok (.iconst 1, 1) := dk_0 a_Mo_row_1 (dko_4 _)
theorem d_Mo_row_2 : decode b_Mo_row 2 = .ok (.if_icmp .lt 23, 3) := dk_S2 a_Mo_row_2 (dko_161 _) (by decide +kernel)
theorem d_Mo_row_5 : decode b_Mo_row 5 = .ok (.iload_n 1, 1) := dk_0 a_Mo_row_5 (dko_27 _)
theorem d_Mo_row_6 : decode b_Mo_row 6 = .ok (.aload_n 0, 1) := dk_0 a_Mo_row_6 (dko_42 _)
theorem d_Mo_row_7 : decode b_Mo_row 7 = .ok (.getfield 23, 3) := dk_U2 a_Mo_row_7 (dko_180 _) rfl
theorem d_Mo_row_10 : decode b_Mo_row 10 = .ok (.getfield 470, 3) := dk_U2 a_Mo_row_10 (dko_180 _) rfl
theorem d_Mo_row_13 : decode b_Mo_row 13 = .ok (.if_icmp .gt 12, 3) := dk_S2 a_Mo_row_13 (dko_163 _) (by decide +kernel)
theorem d_Mo_row_16 : decode b_Mo_row 16 = .ok (.iload_n 2, 1) := dk_0 a_Mo_row_16 (dko_28 _)
theorem d_Mo_row_17 : decode b_Mo_row 17 = .ok (.ifCond .lt 8, 3) := dk_S2 a_Mo_row_17 (dko_155 _) (by decide +kernel)
theorem d_Mo_row_20 : decode b_Mo_row 20 = .ok (.iload_n 2, 1) := dk_0 a_Mo_row_20 (dko_28 _)
theorem d_Mo_row_21 : decode b_Mo_row 21 = .ok (.iconst 3, 1) := dk_0 a_Mo_row_21 (dko_6 _)
theorem d_Mo_row_22 : decode b_Mo_row 22 = .ok (.if_icmp .le 5, 3) := dk_S2 a_Mo_row_22 (dko_164 _) (by decide +kernel)
theorem d_Mo_row_25 : decode b_Mo_row 25 = .ok (.iconst (-1), 1) := dk_0 a_Mo_row_25 (dko_2 _)
theorem d_Mo_row_26 : decode b_Mo_row 26 = .ok (.ireturn, 1) := dk_0 a_Mo_row_26 (dko_172 _)
theorem d_Mo_row_27 : decode b_Mo_row 27 = .ok (.iload_n 2, 1) := dk_0 a_Mo_row_27 (dko_28 _)
theorem d_Mo_row_28 : decode b_Mo_row 28 = .ok (.ifCond .ne 17, 3) := dk_S2 a_Mo_row_28 (dko_154 _) (by decide +kernel)
theorem d_Mo_row_31 : decode b_Mo_row 31 = .ok (.aload_n 0, 1) := dk_0 a_Mo_row_31 (dko_42 _)
theorem d_Mo_row_32 : decode b_Mo_row 32 = .ok (.getfield 23, 3) := dk_U2 a_Mo_row_32 (dko_180 _) rfl
theorem d_Mo_row_35 : decode b_Mo_row 35 = .ok (.getfield 473, 3) := dk_U2 a_Mo_row_35 (dko_180 _) rfl
theorem d_Mo_row_38 : decode b_Mo_row 38 = .ok (.iload_n 1, 1) := dk_0 a_Mo_row_38 (dko_27 _)
theorem d_Mo_row_39 : decode b_Mo_row 39 = .ok (.iconst 1, 1) := dk_0 a_Mo_row_39 (dko_4 _)
theorem d_Mo_row_40 : decode b_Mo_row 40 = .ok (.isub, 1) := dk_0 a_Mo_row_40 (dko_100 _)
theorem d_Mo_row_41 : decode b_Mo_row 41 = .ok (.iaload, 1) := dk_0 a_Mo_row_41 (dko_46 _)
theorem d_Mo_row_42 : decode b_Mo_row 42 = .ok (.goto 67, 3) := dk_S2 a_Mo_row_42 (dko_167 _) (by decide +kernel)
theorem d_Mo_row_45 : decode b_Mo_row 45 = .ok (.iload_n 2, 1) := dk_0 a_Mo_row_45 (dko_28 _)
theorem d_Mo_row_46 : decode b_Mo_row 46 = .ok (.iconst 1, 1) := dk_0 a_Mo_row_46 (dko_4 _)
theorem d_Mo_row_47 : decode b_Mo_row 47 = .ok (.if_icmp .ne 25, 3) := dk_S2 a_Mo_row_47 (dko_160 _) (by decide +kernel)
theorem d_Mo_row_50 : decode b_Mo_row 50 = .ok (.aload_n 0, 1) := dk_0 a_Mo_row_50 (dko_42 _)
theorem d_Mo_row_51 : decode b_Mo_row 51 = .ok (.getfield 23, 3) := dk_U2 a_Mo_row_51 (dko_180 _) rfl
theorem d_Mo_row_54 : decode b_Mo_row 54 = .ok (.getfield 476, 3) := dk_U2 a_Mo_row_54 (dko_180 _) rfl
theorem d_Mo_row_57 : decode b_Mo_row 57 = .ok (.iload_n 1, 1) := dk_0 a_Mo_row_57 (dko_27 _)
theorem d_Mo_row_58 : decode b_Mo_row 58 = .ok (.iconst 1, 1) := dk_0 a_Mo_row_58 (dko_4 _)
theorem d_Mo_row_59 : decode b_Mo_row 59 = .ok (.isub, 1) := dk_0 a_Mo_row_59 (dko_100 _)
theorem d_Mo_row_60 : decode b_Mo_row 60 = .ok (.baload, 1) := dk_0 a_Mo_row_60 (dko_51 _)
theorem d_Mo_row_61 : decode b_Mo_row 61 = .ok (.ifCond .eq 7, 3) := dk_S2 a_Mo_row_61 (dko_153 _) (by decide +kernel)
theorem d_Mo_row_64 : decode b_Mo_row 64 = .ok (.iconst 1, 1) := dk_0 a_Mo_row_64 (dko_4 _)
theorem d_Mo_row_65 : decode b_Mo_row 65 = .ok (.goto 44, 3) := dk_S2 a_Mo_row_65 (dko_167 _) (by decide +kernel)
theorem d_Mo_row_68 : decode b_Mo_row 68 = .ok (.iconst 0, 1) := dk_0 a_Mo_row_68 (dko_3 _)
theorem d_Mo_row_69 : decode b_Mo_row 69 = .ok (.goto 40, 3) := dk_S2 a_Mo_row_69 (dko_167 _) (by decide +kernel)
theorem d_Mo_row_72 : decode b_Mo_row 72 = .ok (.iload_n 2, 1) := dk_0 a_Mo_row_72 (dko_28 _)
theorem d_Mo_row_73 : decode b_Mo_row 73 = .ok (.iconst 2, 1) := dk_0 a_Mo_row_73 (dko_5 _)
theorem d_Mo_row_74 : decode b_Mo_row 74 = .ok (.if_icmp .ne 17, 3) := dk_S2 a_Mo_row_74 (dko_160 _) (by decide +kernel)
theorem d_Mo_row_77 : decode b_Mo_row 77 = .ok (.aload_n 0, 1) := dk_0 a_Mo_row_77 (dko_42 _)
theorem d_Mo_row_78 : decode b_Mo_row 78 = .ok (.getfield 23, 3) := dk_U2 a_Mo_row_78 (dko_180 _) rfl
theorem d_Mo_row_81 : decode b_Mo_row 81 = .ok (.getfield 479, 3) := dk_U2 a_Mo_row_81 (dko_180 _) rfl
theorem d_Mo_row_84 : decode b_Mo_row 84 = .ok (.iload_n 1, 1) := dk_0 a_Mo_row_84 (dko_27 _)
theorem d_Mo_row_85 : decode b_Mo_row 85 = .ok (.iconst 1, 1) := dk_0 a_Mo_row_85 (dko_4 _)
theorem d_Mo_row_86 : decode b_Mo_row 86 = .ok (.isub, 1) := dk_0 a_Mo_row_86 (dko_100 _)
theorem d_Mo_row_87 : decode b_Mo_row 87 = .ok (.iaload, 1) := dk_0 a_Mo_row_87 (dko_46 _)
theorem d_Mo_row_88 : decode b_Mo_row 88 = .ok (.goto 21, 3) := dk_S2 a_Mo_row_88 (dko_167 _) (by decide +kernel)
theorem d_Mo_row_91 : decode b_Mo_row 91 = .ok (.aload_n 0, 1) := dk_0 a_Mo_row_91 (dko_42 _)
theorem d_Mo_row_92 : decode b_Mo_row 92 = .ok (.getfield 23, 3) := dk_U2 a_Mo_row_92 (dko_180 _) rfl
theorem d_Mo_row_95 : decode b_Mo_row 95 = .ok (.iload_n 1, 1) := dk_0 a_Mo_row_95 (dko_27 _)
theorem d_Mo_row_96 : decode b_Mo_row 96 = .ok (.iconst 1, 1) := dk_0 a_Mo_row_96 (dko_4 _)
theorem d_Mo_row_97 : decode b_Mo_row 97 = .ok (.isub, 1) := dk_0 a_Mo_row_97 (dko_100 _)
theorem d_Mo_row_98 : decode b_Mo_row 98 = .ok (.invokevirtual 481, 3) := dk_U2 a_Mo_row_98 (dko_182 _) rfl
theorem d_Mo_row_101 : decode b_Mo_row 101 = .ok (.ifCond .eq 7, 3) := dk_S2 a_Mo_row_101 (dko_153 _) (by decide +kernel)
theorem d_Mo_row_104 : decode b_Mo_row 104 = .ok (.iconst 1, 1) := dk_0 a_Mo_row_104 (dko_4 _)
theorem d_Mo_row_105 : decode b_Mo_row 105 = .ok (.goto 4, 3) := dk_S2 a_Mo_row_105 (dko_167 _) (by decide +kernel)
theorem d_Mo_row_108 : decode b_Mo_row 108 = .ok (.iconst 0, 1) := dk_0 a_Mo_row_108 (dko_3 _)
theorem d_Mo_row_109 : decode b_Mo_row 109 = .ok (.ireturn, 1) := dk_0 a_Mo_row_109 (dko_172 _)
set_option maxHeartbeats 4000000 in
set_option maxRecDepth 100000 in
theorem ok_Mo_row (pc : Nat) : OpS mt mi_Mo_row pc (cs_Mo_row pc) := (os_n (os_n (os_n (os_n (os_n (os_l (so_iload_n d_Mo_row_0 rfl)) (os_n (os_l (so_iconst d_Mo_row_1 (by decide))) (os_l (so_iclt d_Mo_row_2 (by decide))))) (os_n (os_n (os_l (so_iload_n d_Mo_row_5 rfl)) (os_l (so_aload_n d_Mo_row_6 rfl))) (os_n (os_l (so_get (C := R_Mo) (T := F_Mo) (N := 87) (j := 3) in_Mo rfl (by decide) mw_1797 d_Mo_row_7)) (os_l (so_getN (C := R_Mr) (T := F_Mr) (N := 25) (j := 20) in_Mr rfl (by decide) nw_1733 d_Mo_row_10))))) (os_n (os_n (os_n (os_l (so_icgt d_Mo_row_13 (by decide))) (os_l (so_iload_n d_Mo_row_16 rfl))) (os_n (os_l (so_iflt d_Mo_row_17 (by decide))) (os_l (so_iload_n d_Mo_row_20 rfl)))) (os_n (os_n (os_l (so_iconst d_Mo_row_21 (by decide))) (os_l (so_icle d_Mo_row_22 (by decide)))) (os_n (os_l (so_iconst d_Mo_row_25 (by decide))) (os_l (so_ireturn rfl d_Mo_row_26)))))) (os_n (os_n (os_n (os_n (os_l (so_iload_n d_Mo_row_27 rfl)) (os_l (so_ifne d_Mo_row_28 (by decide)))) (os_n (os_l (so_aload_n d_Mo_row_31 rfl)) (os_l (so_get (C := R_Mo) (T := F_Mo) (N := 87) (j := 3) in_Mo rfl (by decide) mw_1797 d_Mo_row_32)))) (os_n (os_n (os_l (so_getN (C := R_Mr) (T := F_Mr) (N := 25) (j := 21) in_Mr rfl (by decide) nw_1735 d_Mo_row_35)) (os_l (so_iload_n d_Mo_row_38 rfl))) (os_n (os_l (so_iconst d_Mo_row_39 (by decide))) (os_l (so_isub d_Mo_row_40))))) (os_n (os_n (os_n (os_l (so_iaload d_Mo_row_41)) (os_l (so_goto d_Mo_row_42 (by decide)))) (os_n (os_l (so_iload_n d_Mo_row_45 rfl)) (os_l (so_iconst d_Mo_row_46 (by decide))))) (os_n (os_n (os_l (so_icne d_Mo_row_47 (by decide))) (os_l (so_aload_n d_Mo_row_50 rfl))) (os_n (os_l (so_get (C := R_Mo) (T := F_Mo) (N := 87) (j := 3) in_Mo rfl (by decide) mw_1797 d_Mo_row_51)) (os_l (so_getN (C := R_Mr) (T := F_Mr) (N := 25) (j := 22) in_Mr rfl (by decide) nw_1737 d_Mo_row_54))))))) (os_n (os_n (os_n (os_n (os_l (so_iload_n d_Mo_row_57 rfl)) (os_n (os_l (so_iconst d_Mo_row_58 (by decide))) (os_l (so_isub d_Mo_row_59)))) (os_n (os_n (os_l (so_baload d_Mo_row_60)) (os_l (so_ifeq d_Mo_row_61 (by decide)))) (os_n (os_l (so_iconst d_Mo_row_64 (by decide))) (os_l (so_goto d_Mo_row_65 (by decide)))))) (os_n (os_n (os_n (os_l (so_iconst d_Mo_row_68 (by decide))) (os_l (so_goto d_Mo_row_69 (by decide)))) (os_n (os_l (so_iload_n d_Mo_row_72 rfl)) (os_l (so_iconst d_Mo_row_73 (by decide))))) (os_n (os_n (os_l (so_icne d_Mo_row_74 (by decide))) (os_l (so_aload_n d_Mo_row_77 rfl))) (os_n (os_l (so_get (C := R_Mo) (T := F_Mo) (N := 87) (j := 3) in_Mo rfl (by decide) mw_1797 d_Mo_row_78)) (os_l (so_getN (C := R_Mr) (T := F_Mr) (N := 25) (j := 23) in_Mr rfl (by decide) nw_1739 d_Mo_row_81)))))) (os_n (os_n (os_n (os_n (os_l (so_iload_n d_Mo_row_84 rfl)) (os_l (so_iconst d_Mo_row_85 (by decide)))) (os_n (os_l (so_isub d_Mo_row_86)) (os_l (so_iaload d_Mo_row_87)))) (os_n (os_n (os_l (so_goto d_Mo_row_88 (by decide))) (os_l (so_aload_n d_Mo_row_91 rfl))) (os_n (os_l (so_get (C := R_Mo) (T := F_Mo) (N := 87) (j := 3) in_Mo rfl (by decide) mw_1797 d_Mo_row_92)) (os_l (so_iload_n d_Mo_row_95 rfl))))) (os_n (os_n (os_n (os_l (so_iconst d_Mo_row_96 (by decide))) (os_l (so_isub d_Mo_row_97))) (os_n (os_l (so_callVN (iv := mi_Mr_isOn) rfl rfl rfl nw_2573 mw_2484 sl_163 mw_20 mw_2485 ⟨by decide +kernel, by decide +kernel, by decide +kernel⟩ (by decide) d_Mo_row_98)) (os_l (so_ifeq d_Mo_row_101 (by decide))))) (os_n (os_n (os_l (so_iconst d_Mo_row_104 (by decide))) (os_l (so_goto d_Mo_row_105 (by decide)))) (os_n (os_l (so_iconst d_Mo_row_108 (by decide))) (os_l (so_ireturn rfl d_Mo_row_109))))))))
