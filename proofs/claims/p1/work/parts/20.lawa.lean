theorem dL_law_297 : decode code 297 = .ok (.aload_n 1, 1) := by decide +kernel
theorem dL_law_298 : decode code 298 = .ok (.aload_n 0, 1) := by decide +kernel
theorem dL_law_299 : decode code 299 = .ok (.iload 4, 2) := by decide +kernel
theorem dL_law_301 : decode code 301 = .ok (.iconst 1, 1) := by decide +kernel
theorem dL_law_302 : decode code 302 = .ok (.iadd, 1) := by decide +kernel
theorem dL_law_303 : decode code 303 = .ok (.iaload, 1) := by decide +kernel
theorem dL_law_304 : decode code 304 = .ok (.aload_n 3, 1) := by decide +kernel
theorem dL_law_305 : decode code 305 = .ok (.invokestatic 112, 3) := by decide +kernel
theorem wv_1091 : Cond.codeWith (⟨"CellForgeLaw", "graph", "(LCellForge;I[J)I"⟩ : MethodName) method_6_code 4 (Option.some Jvm.ClassFile.FieldType.int) [((0 : Nat), (9 : Nat), (12 : Nat), (28 : Nat)), ((0 : Nat), (9 : Nat), (15 : Nat), (13 : Nat))] ∈ cfB := cf_in 1091 (by decide +kernel) rfl
theorem wv_156 : Cond.initialized "CellForgeLaw" ∈ cfB := cf_in 156 (by decide +kernel) rfl
theorem wv_1089 : Cond.methodLink "CellForgeLaw" 112 (⟨"CellForgeLaw", "graph", "(LCellForge;I[J)I"⟩ : MethodName) ∈ cfB := cf_in 1089 (by decide +kernel) rfl
theorem wv_1090 : Cond.static (⟨"CellForgeLaw", "graph", "(LCellForge;I[J)I"⟩ : MethodName) ∈ cfB := cf_in 1090 (by decide +kernel) rfl
theorem dL_law_308 : decode code 308 = .ok (.istore 5, 2) := by decide +kernel
theorem dL_law_310 : decode code 310 = .ok (.aload_n 2, 1) := by decide +kernel
theorem dL_law_311 : decode code 311 = .ok (.aload_n 0, 1) := by decide +kernel
theorem dL_law_312 : decode code 312 = .ok (.iload 4, 2) := by decide +kernel
theorem dL_law_314 : decode code 314 = .ok (.iconst 1, 1) := by decide +kernel
theorem dL_law_315 : decode code 315 = .ok (.iadd, 1) := by decide +kernel
theorem dL_law_316 : decode code 316 = .ok (.iaload, 1) := by decide +kernel
theorem dL_law_317 : decode code 317 = .ok (.invokevirtual 114, 3) := by decide +kernel
theorem wv_2403 : Cond.code (⟨"CellForgeModel", "graph", "(I)I"⟩ : MethodName) prog_14_method_34_code 4 (Option.some Jvm.ClassFile.FieldType.int) ∈ cfB := cf_in 2403 (by decide +kernel) rfl
theorem wv_2400 : Cond.methodLink "CellForgeLaw" 114 (⟨"CellForgeModel", "graph", "(I)I"⟩ : MethodName) ∈ cfB := cf_in 2400 (by decide +kernel) rfl
theorem wv_2401 : Cond.instanceMethod (⟨"CellForgeModel", "graph", "(I)I"⟩ : MethodName) ∈ cfB := cf_in 2401 (by decide +kernel) rfl
theorem wv_2402 : Cond.selects "CellForgeModel" (⟨"CellForgeModel", "graph", "(I)I"⟩ : MethodName) (⟨"CellForgeModel", "graph", "(I)I"⟩ : MethodName) ∈ cfB := cf_in 2402 (by decide +kernel) rfl
theorem dL_law_320 : decode code 320 = .ok (.istore 6, 2) := by decide +kernel
theorem dL_law_322 : decode code 322 = .ok (.aload_n 2, 1) := by decide +kernel
theorem dL_law_323 : decode code 323 = .ok (.invokevirtual 97, 3) := by decide +kernel
theorem wv_2283 : Cond.code (⟨"CellForgeModel", "thrown", "()I"⟩ : MethodName) prog_14_method_2_code 1 (Option.some Jvm.ClassFile.FieldType.int) ∈ cfB := cf_in 2283 (by decide +kernel) rfl
theorem wv_2280 : Cond.methodLink "CellForgeLaw" 97 (⟨"CellForgeModel", "thrown", "()I"⟩ : MethodName) ∈ cfB := cf_in 2280 (by decide +kernel) rfl
theorem wv_2281 : Cond.instanceMethod (⟨"CellForgeModel", "thrown", "()I"⟩ : MethodName) ∈ cfB := cf_in 2281 (by decide +kernel) rfl
theorem wv_2282 : Cond.selects "CellForgeModel" (⟨"CellForgeModel", "thrown", "()I"⟩ : MethodName) (⟨"CellForgeModel", "thrown", "()I"⟩ : MethodName) ∈ cfB := cf_in 2282 (by decide +kernel) rfl
theorem dL_law_326 : decode code 326 = .ok (.iload 5, 2) := by decide +kernel
theorem dL_law_328 : decode code 328 = .ok (.if_icmp .eq 5, 3) := by decide +kernel
theorem dL_law_333 : decode code 333 = .ok (.iload 5, 2) := by decide +kernel
theorem dL_law_335 : decode code 335 = .ok (.ifCond .ne 15, 3) := by decide +kernel
theorem dL_law_350 : decode code 350 = .ok (.goto 1036, 3) := by decide +kernel
theorem dL_law_353 : decode code 353 = .ok (.aload_n 1, 1) := by decide +kernel
theorem dL_law_354 : decode code 354 = .ok (.aload_n 0, 1) := by decide +kernel
theorem dL_law_355 : decode code 355 = .ok (.iload 4, 2) := by decide +kernel
theorem dL_law_357 : decode code 357 = .ok (.iconst 1, 1) := by decide +kernel
theorem dL_law_358 : decode code 358 = .ok (.iadd, 1) := by decide +kernel
theorem dL_law_359 : decode code 359 = .ok (.iaload, 1) := by decide +kernel
theorem dL_law_360 : decode code 360 = .ok (.aload_n 0, 1) := by decide +kernel
theorem dL_law_361 : decode code 361 = .ok (.iload 4, 2) := by decide +kernel
theorem dL_law_363 : decode code 363 = .ok (.iconst 2, 1) := by decide +kernel
theorem dL_law_364 : decode code 364 = .ok (.iadd, 1) := by decide +kernel
theorem dL_law_365 : decode code 365 = .ok (.iaload, 1) := by decide +kernel
theorem dL_law_366 : decode code 366 = .ok (.aload_n 3, 1) := by decide +kernel
theorem dL_law_367 : decode code 367 = .ok (.invokestatic 115, 3) := by decide +kernel
theorem wv_1121 : Cond.codeWith (⟨"CellForgeLaw", "gate", "(LCellForge;II[J)I"⟩ : MethodName) method_7_code 5 (Option.some Jvm.ClassFile.FieldType.int) [((0 : Nat), (10 : Nat), (13 : Nat), (28 : Nat)), ((0 : Nat), (10 : Nat), (17 : Nat), (34 : Nat)), ((0 : Nat), (10 : Nat), (21 : Nat), (13 : Nat))] ∈ cfB := cf_in 1121 (by decide +kernel) rfl
theorem wv_1119 : Cond.methodLink "CellForgeLaw" 115 (⟨"CellForgeLaw", "gate", "(LCellForge;II[J)I"⟩ : MethodName) ∈ cfB := cf_in 1119 (by decide +kernel) rfl
theorem wv_1120 : Cond.static (⟨"CellForgeLaw", "gate", "(LCellForge;II[J)I"⟩ : MethodName) ∈ cfB := cf_in 1120 (by decide +kernel) rfl
theorem dL_law_370 : decode code 370 = .ok (.istore 5, 2) := by decide +kernel
theorem dL_law_372 : decode code 372 = .ok (.aload_n 2, 1) := by decide +kernel
theorem dL_law_373 : decode code 373 = .ok (.aload_n 0, 1) := by decide +kernel
theorem dL_law_374 : decode code 374 = .ok (.iload 4, 2) := by decide +kernel
theorem dL_law_376 : decode code 376 = .ok (.iconst 1, 1) := by decide +kernel
theorem dL_law_377 : decode code 377 = .ok (.iadd, 1) := by decide +kernel
theorem dL_law_378 : decode code 378 = .ok (.iaload, 1) := by decide +kernel
theorem dL_law_379 : decode code 379 = .ok (.aload_n 0, 1) := by decide +kernel
theorem dL_law_380 : decode code 380 = .ok (.iload 4, 2) := by decide +kernel
theorem dL_law_382 : decode code 382 = .ok (.iconst 2, 1) := by decide +kernel
theorem dL_law_383 : decode code 383 = .ok (.iadd, 1) := by decide +kernel
theorem dL_law_384 : decode code 384 = .ok (.iaload, 1) := by decide +kernel
theorem dL_law_385 : decode code 385 = .ok (.invokevirtual 118, 3) := by decide +kernel
theorem wv_2407 : Cond.code (⟨"CellForgeModel", "gate", "(II)I"⟩ : MethodName) prog_14_method_35_code 4 (Option.some Jvm.ClassFile.FieldType.int) ∈ cfB := cf_in 2407 (by decide +kernel) rfl
theorem wv_2404 : Cond.methodLink "CellForgeLaw" 118 (⟨"CellForgeModel", "gate", "(II)I"⟩ : MethodName) ∈ cfB := cf_in 2404 (by decide +kernel) rfl
theorem wv_2405 : Cond.instanceMethod (⟨"CellForgeModel", "gate", "(II)I"⟩ : MethodName) ∈ cfB := cf_in 2405 (by decide +kernel) rfl
theorem wv_2406 : Cond.selects "CellForgeModel" (⟨"CellForgeModel", "gate", "(II)I"⟩ : MethodName) (⟨"CellForgeModel", "gate", "(II)I"⟩ : MethodName) ∈ cfB := cf_in 2406 (by decide +kernel) rfl
theorem dL_law_388 : decode code 388 = .ok (.istore 6, 2) := by decide +kernel
theorem dL_law_390 : decode code 390 = .ok (.aload_n 2, 1) := by decide +kernel
theorem dL_law_391 : decode code 391 = .ok (.invokevirtual 97, 3) := by decide +kernel
theorem dL_law_394 : decode code 394 = .ok (.iload 5, 2) := by decide +kernel
theorem dL_law_396 : decode code 396 = .ok (.if_icmp .eq 5, 3) := by decide +kernel
theorem dL_law_401 : decode code 401 = .ok (.iload 5, 2) := by decide +kernel
theorem dL_law_403 : decode code 403 = .ok (.ifCond .ne 15, 3) := by decide +kernel
theorem dL_law_418 : decode code 418 = .ok (.goto 968, 3) := by decide +kernel
theorem dL_law_421 : decode code 421 = .ok (.aload_n 1, 1) := by decide +kernel
theorem dL_law_422 : decode code 422 = .ok (.aload_n 0, 1) := by decide +kernel
theorem dL_law_423 : decode code 423 = .ok (.iload 4, 2) := by decide +kernel
theorem dL_law_425 : decode code 425 = .ok (.iconst 1, 1) := by decide +kernel
theorem dL_law_426 : decode code 426 = .ok (.iadd, 1) := by decide +kernel
theorem dL_law_427 : decode code 427 = .ok (.iaload, 1) := by decide +kernel
theorem dL_law_428 : decode code 428 = .ok (.aload_n 3, 1) := by decide +kernel
theorem dL_law_429 : decode code 429 = .ok (.invokestatic 119, 3) := by decide +kernel
theorem wv_1151 : Cond.codeWith (⟨"CellForgeLaw", "output", "(LCellForge;I[J)I"⟩ : MethodName) method_8_code 4 (Option.some Jvm.ClassFile.FieldType.int) [((0 : Nat), (9 : Nat), (12 : Nat), (28 : Nat)), ((0 : Nat), (9 : Nat), (15 : Nat), (34 : Nat))] ∈ cfB := cf_in 1151 (by decide +kernel) rfl
theorem wv_1149 : Cond.methodLink "CellForgeLaw" 119 (⟨"CellForgeLaw", "output", "(LCellForge;I[J)I"⟩ : MethodName) ∈ cfB := cf_in 1149 (by decide +kernel) rfl
theorem wv_1150 : Cond.static (⟨"CellForgeLaw", "output", "(LCellForge;I[J)I"⟩ : MethodName) ∈ cfB := cf_in 1150 (by decide +kernel) rfl
theorem dL_law_432 : decode code 432 = .ok (.istore 5, 2) := by decide +kernel
theorem dL_law_434 : decode code 434 = .ok (.aload_n 2, 1) := by decide +kernel
theorem dL_law_435 : decode code 435 = .ok (.aload_n 0, 1) := by decide +kernel
theorem dL_law_436 : decode code 436 = .ok (.iload 4, 2) := by decide +kernel
theorem dL_law_438 : decode code 438 = .ok (.iconst 1, 1) := by decide +kernel
theorem dL_law_439 : decode code 439 = .ok (.iadd, 1) := by decide +kernel
theorem dL_law_440 : decode code 440 = .ok (.iaload, 1) := by decide +kernel
theorem dL_law_441 : decode code 441 = .ok (.invokevirtual 121, 3) := by decide +kernel
theorem wv_2419 : Cond.code (⟨"CellForgeModel", "output", "(I)I"⟩ : MethodName) prog_14_method_36_code 2 (Option.some Jvm.ClassFile.FieldType.int) ∈ cfB := cf_in 2419 (by decide +kernel) rfl
theorem wv_2416 : Cond.methodLink "CellForgeLaw" 121 (⟨"CellForgeModel", "output", "(I)I"⟩ : MethodName) ∈ cfB := cf_in 2416 (by decide +kernel) rfl
theorem wv_2417 : Cond.instanceMethod (⟨"CellForgeModel", "output", "(I)I"⟩ : MethodName) ∈ cfB := cf_in 2417 (by decide +kernel) rfl
theorem wv_2418 : Cond.selects "CellForgeModel" (⟨"CellForgeModel", "output", "(I)I"⟩ : MethodName) (⟨"CellForgeModel", "output", "(I)I"⟩ : MethodName) ∈ cfB := cf_in 2418 (by decide +kernel) rfl
theorem dL_law_444 : decode code 444 = .ok (.istore 6, 2) := by decide +kernel
theorem dL_law_446 : decode code 446 = .ok (.aload_n 2, 1) := by decide +kernel
theorem dL_law_447 : decode code 447 = .ok (.invokevirtual 97, 3) := by decide +kernel
theorem dL_law_450 : decode code 450 = .ok (.iload 5, 2) := by decide +kernel
theorem dL_law_452 : decode code 452 = .ok (.if_icmp .eq 5, 3) := by decide +kernel
theorem dL_law_457 : decode code 457 = .ok (.iload 5, 2) := by decide +kernel
theorem dL_law_459 : decode code 459 = .ok (.ifCond .ne 15, 3) := by decide +kernel
theorem dL_law_474 : decode code 474 = .ok (.goto 912, 3) := by decide +kernel
theorem dL_law_477 : decode code 477 = .ok (.aload_n 1, 1) := by decide +kernel
theorem dL_law_478 : decode code 478 = .ok (.aload_n 0, 1) := by decide +kernel
theorem dL_law_479 : decode code 479 = .ok (.iload 4, 2) := by decide +kernel
theorem dL_law_481 : decode code 481 = .ok (.iconst 1, 1) := by decide +kernel
theorem dL_law_482 : decode code 482 = .ok (.iadd, 1) := by decide +kernel
theorem dL_law_483 : decode code 483 = .ok (.iaload, 1) := by decide +kernel
theorem dL_law_484 : decode code 484 = .ok (.aload_n 3, 1) := by decide +kernel
theorem dL_law_485 : decode code 485 = .ok (.invokestatic 122, 3) := by decide +kernel
theorem wv_1158 : Cond.codeWith (⟨"CellForgeLaw", "value", "(LCellForge;I[J)I"⟩ : MethodName) method_9_code 4 (Option.some Jvm.ClassFile.FieldType.int) [((0 : Nat), (9 : Nat), (12 : Nat), (28 : Nat)), ((0 : Nat), (9 : Nat), (15 : Nat), (13 : Nat))] ∈ cfB := cf_in 1158 (by decide +kernel) rfl
theorem wv_1156 : Cond.methodLink "CellForgeLaw" 122 (⟨"CellForgeLaw", "value", "(LCellForge;I[J)I"⟩ : MethodName) ∈ cfB := cf_in 1156 (by decide +kernel) rfl
theorem wv_1157 : Cond.static (⟨"CellForgeLaw", "value", "(LCellForge;I[J)I"⟩ : MethodName) ∈ cfB := cf_in 1157 (by decide +kernel) rfl
theorem dL_law_488 : decode code 488 = .ok (.istore 5, 2) := by decide +kernel
theorem dL_law_490 : decode code 490 = .ok (.aload_n 2, 1) := by decide +kernel
theorem dL_law_491 : decode code 491 = .ok (.aload_n 0, 1) := by decide +kernel
theorem dL_law_492 : decode code 492 = .ok (.iload 4, 2) := by decide +kernel
theorem dL_law_494 : decode code 494 = .ok (.iconst 1, 1) := by decide +kernel
theorem dL_law_495 : decode code 495 = .ok (.iadd, 1) := by decide +kernel
theorem dL_law_496 : decode code 496 = .ok (.iaload, 1) := by decide +kernel
theorem dL_law_497 : decode code 497 = .ok (.invokevirtual 124, 3) := by decide +kernel
theorem wv_2423 : Cond.code (⟨"CellForgeModel", "value", "(I)I"⟩ : MethodName) prog_14_method_38_code 4 (Option.some Jvm.ClassFile.FieldType.int) ∈ cfB := cf_in 2423 (by decide +kernel) rfl
theorem wv_2420 : Cond.methodLink "CellForgeLaw" 124 (⟨"CellForgeModel", "value", "(I)I"⟩ : MethodName) ∈ cfB := cf_in 2420 (by decide +kernel) rfl
theorem wv_2421 : Cond.instanceMethod (⟨"CellForgeModel", "value", "(I)I"⟩ : MethodName) ∈ cfB := cf_in 2421 (by decide +kernel) rfl
theorem wv_2422 : Cond.selects "CellForgeModel" (⟨"CellForgeModel", "value", "(I)I"⟩ : MethodName) (⟨"CellForgeModel", "value", "(I)I"⟩ : MethodName) ∈ cfB := cf_in 2422 (by decide +kernel) rfl
theorem dL_law_500 : decode code 500 = .ok (.istore 6, 2) := by decide +kernel
theorem dL_law_502 : decode code 502 = .ok (.aload_n 2, 1) := by decide +kernel
theorem dL_law_503 : decode code 503 = .ok (.invokevirtual 97, 3) := by decide +kernel
theorem dL_law_506 : decode code 506 = .ok (.iload 5, 2) := by decide +kernel
theorem dL_law_508 : decode code 508 = .ok (.if_icmp .eq 5, 3) := by decide +kernel
theorem dL_law_513 : decode code 513 = .ok (.iload 5, 2) := by decide +kernel
theorem dL_law_515 : decode code 515 = .ok (.ifCond .ne 15, 3) := by decide +kernel
theorem dL_law_530 : decode code 530 = .ok (.goto 856, 3) := by decide +kernel
theorem dL_law_533 : decode code 533 = .ok (.aload_n 1, 1) := by decide +kernel
theorem dL_law_534 : decode code 534 = .ok (.aload_n 3, 1) := by decide +kernel
theorem dL_law_535 : decode code 535 = .ok (.invokestatic 125, 3) := by decide +kernel
theorem wv_1183 : Cond.codeWith (⟨"CellForgeLaw", "balance", "(LCellForge;[J)I"⟩ : MethodName) method_10_code 3 (Option.some Jvm.ClassFile.FieldType.int) [((0 : Nat), (8 : Nat), (11 : Nat), (28 : Nat)), ((0 : Nat), (8 : Nat), (14 : Nat), (15 : Nat))] ∈ cfB := cf_in 1183 (by decide +kernel) rfl
theorem wv_1181 : Cond.methodLink "CellForgeLaw" 125 (⟨"CellForgeLaw", "balance", "(LCellForge;[J)I"⟩ : MethodName) ∈ cfB := cf_in 1181 (by decide +kernel) rfl
theorem wv_1182 : Cond.static (⟨"CellForgeLaw", "balance", "(LCellForge;[J)I"⟩ : MethodName) ∈ cfB := cf_in 1182 (by decide +kernel) rfl
theorem dL_law_538 : decode code 538 = .ok (.istore 5, 2) := by decide +kernel
theorem dL_law_540 : decode code 540 = .ok (.aload_n 2, 1) := by decide +kernel
theorem dL_law_541 : decode code 541 = .ok (.invokevirtual 127, 3) := by decide +kernel
theorem wv_2431 : Cond.code (⟨"CellForgeModel", "balance", "()I"⟩ : MethodName) prog_14_method_45_code 4 (Option.some Jvm.ClassFile.FieldType.int) ∈ cfB := cf_in 2431 (by decide +kernel) rfl
theorem wv_2428 : Cond.methodLink "CellForgeLaw" 127 (⟨"CellForgeModel", "balance", "()I"⟩ : MethodName) ∈ cfB := cf_in 2428 (by decide +kernel) rfl
theorem wv_2429 : Cond.instanceMethod (⟨"CellForgeModel", "balance", "()I"⟩ : MethodName) ∈ cfB := cf_in 2429 (by decide +kernel) rfl
theorem wv_2430 : Cond.selects "CellForgeModel" (⟨"CellForgeModel", "balance", "()I"⟩ : MethodName) (⟨"CellForgeModel", "balance", "()I"⟩ : MethodName) ∈ cfB := cf_in 2430 (by decide +kernel) rfl
theorem dL_law_544 : decode code 544 = .ok (.istore 6, 2) := by decide +kernel
theorem dL_law_546 : decode code 546 = .ok (.aload_n 2, 1) := by decide +kernel
theorem dL_law_547 : decode code 547 = .ok (.invokevirtual 97, 3) := by decide +kernel
theorem dL_law_550 : decode code 550 = .ok (.iload 5, 2) := by decide +kernel
theorem dL_law_552 : decode code 552 = .ok (.if_icmp .eq 5, 3) := by decide +kernel
theorem dL_law_557 : decode code 557 = .ok (.iload 5, 2) := by decide +kernel
theorem dL_law_559 : decode code 559 = .ok (.ifCond .ne 15, 3) := by decide +kernel
theorem dL_law_574 : decode code 574 = .ok (.goto 812, 3) := by decide +kernel
theorem dL_law_577 : decode code 577 = .ok (.aload_n 1, 1) := by decide +kernel
theorem dL_law_578 : decode code 578 = .ok (.aload_n 3, 1) := by decide +kernel
theorem dL_law_579 : decode code 579 = .ok (.invokestatic 128, 3) := by decide +kernel
theorem wv_1234 : Cond.codeWith (⟨"CellForgeLaw", "reduce", "(LCellForge;[J)I"⟩ : MethodName) method_11_code 3 (Option.some Jvm.ClassFile.FieldType.int) [((0 : Nat), (8 : Nat), (11 : Nat), (28 : Nat)), ((0 : Nat), (8 : Nat), (14 : Nat), (15 : Nat))] ∈ cfB := cf_in 1234 (by decide +kernel) rfl
theorem wv_1232 : Cond.methodLink "CellForgeLaw" 128 (⟨"CellForgeLaw", "reduce", "(LCellForge;[J)I"⟩ : MethodName) ∈ cfB := cf_in 1232 (by decide +kernel) rfl
theorem wv_1233 : Cond.static (⟨"CellForgeLaw", "reduce", "(LCellForge;[J)I"⟩ : MethodName) ∈ cfB := cf_in 1233 (by decide +kernel) rfl
theorem dL_law_582 : decode code 582 = .ok (.istore 5, 2) := by decide +kernel
theorem dL_law_584 : decode code 584 = .ok (.aload_n 2, 1) := by decide +kernel
theorem dL_law_585 : decode code 585 = .ok (.invokevirtual 130, 3) := by decide +kernel
theorem wv_2459 : Cond.code (⟨"CellForgeModel", "reduce", "()I"⟩ : MethodName) prog_14_method_48_code 6 (Option.some Jvm.ClassFile.FieldType.int) ∈ cfB := cf_in 2459 (by decide +kernel) rfl
theorem wv_2456 : Cond.methodLink "CellForgeLaw" 130 (⟨"CellForgeModel", "reduce", "()I"⟩ : MethodName) ∈ cfB := cf_in 2456 (by decide +kernel) rfl
theorem wv_2457 : Cond.instanceMethod (⟨"CellForgeModel", "reduce", "()I"⟩ : MethodName) ∈ cfB := cf_in 2457 (by decide +kernel) rfl
theorem wv_2458 : Cond.selects "CellForgeModel" (⟨"CellForgeModel", "reduce", "()I"⟩ : MethodName) (⟨"CellForgeModel", "reduce", "()I"⟩ : MethodName) ∈ cfB := cf_in 2458 (by decide +kernel) rfl
theorem dL_law_588 : decode code 588 = .ok (.istore 6, 2) := by decide +kernel
theorem dL_law_590 : decode code 590 = .ok (.aload_n 2, 1) := by decide +kernel
theorem dL_law_591 : decode code 591 = .ok (.invokevirtual 97, 3) := by decide +kernel
theorem dL_law_594 : decode code 594 = .ok (.iload 5, 2) := by decide +kernel
theorem dL_law_596 : decode code 596 = .ok (.if_icmp .eq 5, 3) := by decide +kernel
theorem dL_law_601 : decode code 601 = .ok (.iload 5, 2) := by decide +kernel
theorem dL_law_603 : decode code 603 = .ok (.ifCond .ne 15, 3) := by decide +kernel
theorem dL_law_618 : decode code 618 = .ok (.goto 768, 3) := by decide +kernel
set_option maxHeartbeats 4000000 in
set_option maxRecDepth 100000 in
/-- the law, case 4 -/
theorem lc_4 {p : Program} {e : Env} {s : State} {m : MethodId} {below : List Frame} {meth : Method} {c : Code} {l : Launch} {D : va_G} {K : Nat → ClassId} {b : Nat} {xs : Nat → Int32} {A : Nat → Prop} {Q : State → Prop} (C : lc_C p l s m c b xs A D K) {h0 : Nat} {fs : List Value} {h1 : Nat} {gs : List Value} {h2 : Nat} {h3 : Nat} {ns : List Value} {h4 : Nat} {ks : List Value} {h5 : Nat} {js : List Value} {h6 : Nat} {ms : List Value} {h7 : Nat} {o : Nat} (hfsl : fs.length = 19) (hfs_text : fs[0]? = some (.ref h1)) (hfs_spareNetlist : fs[10]? = some (.ref h3)) (hfs_kit : fs[13]? = some (.ref h4)) (hfs_spareKit : fs[14]? = some (.ref h5)) (hfs_faultLine : fs[15]? = some (.int (-1))) (hfs_hasNetlist : fs[16]? = some (.int 0)) (hfs_hasCover : fs[17]? = some (.int 0)) (hfs_hasMapping : fs[18]? = some (.int 0)) (hgsl : gs.length = 7) (hgs_signs : gs[0]? = some (.ref h2)) (hgs_size : gs[3]? = some (.int 0)) (hnsl : ns.length = 17) (hksl : ks.length = 12) (hks_cells : ks[0]? = some (.int 0)) (hjsl : js.length = 12) (hmsl : ms.length = 99) (hms_thrown : ms[0]? = some (.int 0)) (hms_signs : ms[1]? = some (.ref h7)) (hms_size : ms[2]? = some (.int 0)) (hms_faultLine : ms[3]? = some (.int (-1))) (hms_line : ms[6]? = some (.int 0)) (hms_hasNetlist : ms[38]? = some (.int 0)) (hms_hasCover : ms[64]? = some (.int 0)) (hms_hasLibrary : ms[78]? = some (.int 0)) (hms_isMapped : ms[85]? = some (.int 0))
    (kk : ∀ (H : Heap) (locs : List Loc) (ls : Array Slot), va_S A s.heap H locs → lv_has ls 7 [(4, .int 0), (0, .ref b)] → W p l e room_1 s m #[Value.ref b] below meth c H locs 300 600100 Q (F0 m 1386 ls []))
    {H : Heap} {locs : List Loc} {ls : Array Slot} (hP : va_P D vwCl [(h0, .inr (0, fs)), (h1, .inr (1, gs)), (h2, .inl (K 2, 1600, .inl (fun _ => 0))), (h3, .inr (2, ns)), (h4, .inr (11, ks)), (h5, .inr (11, js)), (h6, .inr (12, ms)), (h7, .inl (K 0, 1600, .inl (fun _ => 0))), (o, .inl (K 1, 1, .inr (.inl (fun _ => 0))))] H) (hD : va_D A [(h0, .inr (0, fs)), (h1, .inr (1, gs)), (h2, .inl (K 2, 1600, .inl (fun _ => 0))), (h3, .inr (2, ns)), (h4, .inr (11, ks)), (h5, .inr (11, js)), (h6, .inr (12, ms)), (h7, .inl (K 0, 1600, .inl (fun _ => 0))), (o, .inl (K 1, 1, .inr (.inl (fun _ => 0))))]) (hS : va_S A s.heap H locs) (hl : lv_has ls 7 [(4, .int 0), (0, .ref b), (1, .ref h0), (2, .ref h6), (3, .ref o)]) : W p l e room_1 s m #[Value.ref b] below meth c H locs 200 600000 Q (F0 m 297 ls []) := by
  obtain ⟨hl9, hx, hb, hml, hown, hts, hE, hA, hX, hbl, hbA⟩ := C
  have hK := hE.k
  refine lv_aload_n hx hb dL_law_297 rfl (lv_at hl 2 rfl) ?_
  refine lv_aload_n hx hb dL_law_298 rfl (lv_at hl 1 rfl) ?_
  refine lv_iload hx hb dL_law_299 (lv_at hl 0 rfl) ?_
  refine lv_iconst (v := 1) hx hb dL_law_301 (by decide) ?_
  refine lv_iadd hx hb dL_law_302 ?_
  refine lv_topi (fun x_1 ex_1 => ?_)
  obtain rfl : x_1 = 1 := ex_1.trans (by decide +kernel)
  refine lc_sld (i := 1) (j := 1) (by decide) hx hb hX hbl hbA hS (show ¬ ((1 : Int32) < 0 ∨ 3 ≤ (1 : Int32).toNatClampNeg) by decide) dL_law_303 ?_
  refine lv_aload_n hx hb dL_law_304 rfl (lv_at hl 4 rfl) ?_
  refine cf_calli (wc := [(h0, .inr (0, fs))]) (wr := [(h1, .inr (1, gs)), (h2, .inl (K 2, 1600, .inl (fun _ => 0))), (h3, .inr (2, ns)), (h4, .inr (11, ks)), (h5, .inr (11, js)), (h6, .inr (12, ms)), (h7, .inl (K 0, 1600, .inl (fun _ => 0))), (o, .inl (K 1, 1, .inr (.inl (fun _ => 0))))]) (cf_runSW (n := 3) (As := [.ref h0, .int (xs 1), .ref o]) (rest := []) ⟨hx, hb, hml, hown, hts⟩ (xL_graph l hl9 D K _ h0 fs (xs 1) o hfs_hasNetlist) wv_1091 wv_1089 wv_1090 wv_156 rfl rfl (by decide +kernel) ⟨Nat.le_of_ble_eq_true rfl, Nat.le_of_ble_eq_true rfl⟩ (cf_preS (wc := [(h0, .inr (0, fs))]) hE hP hD hS hA [0] rfl (by decide +kernel)) rfl rfl hl.1 rfl (lv_room (Nat.le_of_ble_eq_true rfl)) dL_law_305 ⟨Nat.le_of_ble_eq_true rfl, Nat.le_of_ble_eq_true rfl⟩) hP hD hS hA [0] [1, 2, 3, 4, 5, 6, 7, 8] rfl rfl (by decide +kernel) (by decide +kernel) (fun r_2 _ H locs hw_3 hP hD hS => ?_)
  have hP : va_P D vwCl [(h1, .inr (1, gs)), (h2, .inl (K 2, 1600, .inl (fun _ => 0))), (h3, .inr (2, ns)), (h4, .inr (11, ks)), (h5, .inr (11, js)), (h6, .inr (12, ms)), (h7, .inl (K 0, 1600, .inl (fun _ => 0))), (o, .inl (K 1, 1, .inr (.inl (fun _ => 0)))), (h0, .inr (0, fs))] H := hP
  have hD : va_D A [(h1, .inr (1, gs)), (h2, .inl (K 2, 1600, .inl (fun _ => 0))), (h3, .inr (2, ns)), (h4, .inr (11, ks)), (h5, .inr (11, js)), (h6, .inr (12, ms)), (h7, .inl (K 0, 1600, .inl (fun _ => 0))), (o, .inl (K 1, 1, .inr (.inl (fun _ => 0)))), (h0, .inr (0, fs))] := hD
  refine W.widen (k := 201) (n := 600006) (Nat.le_of_ble_eq_true rfl) (Nat.le_of_ble_eq_true rfl) ?_
  subst hw_3
  refine lv_istore (lv' := [(5, .int 1), (4, .int 0), (0, .ref b), (1, .ref h0), (2, .ref h6), (3, .ref o)]) hx hb dL_law_308 hl (by decide) rfl (fun ls hl => ?_)
  refine lv_aload_n hx hb dL_law_310 rfl (lv_at hl 4 rfl) ?_
  refine lv_aload_n hx hb dL_law_311 rfl (lv_at hl 2 rfl) ?_
  refine lv_iload hx hb dL_law_312 (lv_at hl 1 rfl) ?_
  refine lv_iconst (v := 1) hx hb dL_law_314 (by decide) ?_
  refine lv_iadd hx hb dL_law_315 ?_
  refine lv_topi (fun x_4 ex_4 => ?_)
  obtain rfl : x_4 = 1 := ex_4.trans (by decide +kernel)
  refine lc_sld (i := 1) (j := 1) (by decide) hx hb hX hbl hbA hS (show ¬ ((1 : Int32) < 0 ∨ 3 ≤ (1 : Int32).toNatClampNeg) by decide) dL_law_316 ?_
  refine cf_calli (wc := [(h6, .inr (12, ms))]) (wr := [(h1, .inr (1, gs)), (h2, .inl (K 2, 1600, .inl (fun _ => 0))), (h3, .inr (2, ns)), (h4, .inr (11, ks)), (h5, .inr (11, js)), (h7, .inl (K 0, 1600, .inl (fun _ => 0))), (o, .inl (K 1, 1, .inr (.inl (fun _ => 0)))), (h0, .inr (0, fs))]) (va_runV (As := [.int (xs 1)]) (rest := []) ⟨hx, hb, hml, hown, hts⟩ (xM_graph l D K _ h6 ms (xs 1) hmsl hms_hasNetlist) (cwV 1 hts (cf_GV wv_2400 wv_2401 wv_2402 wv_173 wv_2403) rfl rfl rfl (by decide +kernel) ⟨Nat.le_of_ble_eq_true rfl, Nat.le_of_ble_eq_true rfl⟩) (cf_preV (wc := [(h6, .inr (12, ms))]) hE hP hD hS hA rfl 5 rfl [5] rfl (by decide +kernel)) rfl rfl hl.1 rfl (lv_room (Nat.le_of_ble_eq_true rfl)) dL_law_317 ⟨Nat.le_of_ble_eq_true rfl, Nat.le_of_ble_eq_true rfl⟩) hP hD hS hA [5] [0, 1, 2, 3, 4, 6, 7, 8] rfl rfl (by decide +kernel) (by decide +kernel) (fun r_5 _ H locs hw_6 hP hD hS => ?_)
  have hP : va_P D vwCl [(h1, .inr (1, gs)), (h2, .inl (K 2, 1600, .inl (fun _ => 0))), (h3, .inr (2, ns)), (h4, .inr (11, ks)), (h5, .inr (11, js)), (h7, .inl (K 0, 1600, .inl (fun _ => 0))), (o, .inl (K 1, 1, .inr (.inl (fun _ => 0)))), (h0, .inr (0, fs)), (h6, .inr (12, (ms.set 0 (.int 1))))] H := hP
  have hD : va_D A [(h1, .inr (1, gs)), (h2, .inl (K 2, 1600, .inl (fun _ => 0))), (h3, .inr (2, ns)), (h4, .inr (11, ks)), (h5, .inr (11, js)), (h7, .inl (K 0, 1600, .inl (fun _ => 0))), (o, .inl (K 1, 1, .inr (.inl (fun _ => 0)))), (h0, .inr (0, fs)), (h6, .inr (12, (ms.set 0 (.int 1))))] := hD
  refine lv_istore (lv' := [(6, .int r_5), (5, .int 1), (4, .int 0), (0, .ref b), (1, .ref h0), (2, .ref h6), (3, .ref o)]) hx hb dL_law_320 hl (by decide) rfl (fun ls hl => ?_)
  refine lv_aload_n hx hb dL_law_322 rfl (lv_at hl 5 rfl) ?_
  refine cf_calli (wc := [(h6, .inr (12, (ms.set 0 (.int 1))))]) (wr := [(h1, .inr (1, gs)), (h2, .inl (K 2, 1600, .inl (fun _ => 0))), (h3, .inr (2, ns)), (h4, .inr (11, ks)), (h5, .inr (11, js)), (h7, .inl (K 0, 1600, .inl (fun _ => 0))), (o, .inl (K 1, 1, .inr (.inl (fun _ => 0)))), (h0, .inr (0, fs))]) (va_runV (As := []) (rest := []) ⟨hx, hb, hml, hown, hts⟩ (kM_thrown l D K _ h6 (ms.set 0 (.int 1)) 1 (List.getElem?_set_self (show 0 < ms.length by rw [hmsl]; decide))) (cwV 0 hts (cf_GV wv_2280 wv_2281 wv_2282 wv_173 wv_2283) rfl rfl rfl (by decide +kernel) ⟨Nat.le_of_ble_eq_true rfl, Nat.le_of_ble_eq_true rfl⟩) (cf_preV (wc := [(h6, .inr (12, (ms.set 0 (.int 1))))]) hE hP hD hS hA rfl 8 rfl [8] rfl (by decide +kernel)) rfl rfl hl.1 rfl (lv_room (Nat.le_of_ble_eq_true rfl)) dL_law_323 ⟨Nat.le_of_ble_eq_true rfl, Nat.le_of_ble_eq_true rfl⟩) hP hD hS hA [8] [0, 1, 2, 3, 4, 5, 6, 7] rfl rfl (by decide +kernel) (by decide +kernel) (fun r_7 _ H locs hw_8 hP hD hS => ?_)
  have hP : va_P D vwCl [(h1, .inr (1, gs)), (h2, .inl (K 2, 1600, .inl (fun _ => 0))), (h3, .inr (2, ns)), (h4, .inr (11, ks)), (h5, .inr (11, js)), (h7, .inl (K 0, 1600, .inl (fun _ => 0))), (o, .inl (K 1, 1, .inr (.inl (fun _ => 0)))), (h0, .inr (0, fs)), (h6, .inr (12, (ms.set 0 (.int 1))))] H := hP
  have hD : va_D A [(h1, .inr (1, gs)), (h2, .inl (K 2, 1600, .inl (fun _ => 0))), (h3, .inr (2, ns)), (h4, .inr (11, ks)), (h5, .inr (11, js)), (h7, .inl (K 0, 1600, .inl (fun _ => 0))), (o, .inl (K 1, 1, .inr (.inl (fun _ => 0)))), (h0, .inr (0, fs)), (h6, .inr (12, (ms.set 0 (.int 1))))] := hD
  subst hw_8
  refine lv_iload hx hb dL_law_326 (lv_at hl 1 rfl) ?_
  refine lv_icmp_eq (tgt := 333) hx hb dL_law_328 (by decide) (fun _ => ?_) (fun c_9 => absurd (by decide) c_9)
  refine lv_iload hx hb dL_law_333 (lv_at hl 1 rfl) ?_
  refine lv_if_ne (tgt := 350) hx hb dL_law_335 (by decide) (fun _ => ?_) (fun c_10 => absurd c_10 (by decide))
  refine lv_goto (tgt := 1386) hx hb dL_law_350 (by decide) ?_
  refine W.widen (k := 300) (n := 600100) (Nat.le_of_ble_eq_true rfl) (Nat.le_of_ble_eq_true rfl) ?_
  exact kk _ _ _ hS (lv_sub hl [2, 3] rfl)
set_option maxHeartbeats 4000000 in
set_option maxRecDepth 100000 in
/-- the law, case 5 -/
theorem lc_5 {p : Program} {e : Env} {s : State} {m : MethodId} {below : List Frame} {meth : Method} {c : Code} {l : Launch} {D : va_G} {K : Nat → ClassId} {b : Nat} {xs : Nat → Int32} {A : Nat → Prop} {Q : State → Prop} (C : lc_C p l s m c b xs A D K) {h0 : Nat} {fs : List Value} {h1 : Nat} {gs : List Value} {h2 : Nat} {h3 : Nat} {ns : List Value} {h4 : Nat} {ks : List Value} {h5 : Nat} {js : List Value} {h6 : Nat} {ms : List Value} {h7 : Nat} {o : Nat} (hfsl : fs.length = 19) (hfs_text : fs[0]? = some (.ref h1)) (hfs_spareNetlist : fs[10]? = some (.ref h3)) (hfs_kit : fs[13]? = some (.ref h4)) (hfs_spareKit : fs[14]? = some (.ref h5)) (hfs_faultLine : fs[15]? = some (.int (-1))) (hfs_hasNetlist : fs[16]? = some (.int 0)) (hfs_hasCover : fs[17]? = some (.int 0)) (hfs_hasMapping : fs[18]? = some (.int 0)) (hgsl : gs.length = 7) (hgs_signs : gs[0]? = some (.ref h2)) (hgs_size : gs[3]? = some (.int 0)) (hnsl : ns.length = 17) (hksl : ks.length = 12) (hks_cells : ks[0]? = some (.int 0)) (hjsl : js.length = 12) (hmsl : ms.length = 99) (hms_thrown : ms[0]? = some (.int 0)) (hms_signs : ms[1]? = some (.ref h7)) (hms_size : ms[2]? = some (.int 0)) (hms_faultLine : ms[3]? = some (.int (-1))) (hms_line : ms[6]? = some (.int 0)) (hms_hasNetlist : ms[38]? = some (.int 0)) (hms_hasCover : ms[64]? = some (.int 0)) (hms_hasLibrary : ms[78]? = some (.int 0)) (hms_isMapped : ms[85]? = some (.int 0))
    (kk : ∀ (H : Heap) (locs : List Loc) (ls : Array Slot), va_S A s.heap H locs → lv_has ls 7 [(4, .int 0), (0, .ref b)] → W p l e room_1 s m #[Value.ref b] below meth c H locs 300 600100 Q (F0 m 1386 ls []))
    {H : Heap} {locs : List Loc} {ls : Array Slot} (hP : va_P D vwCl [(h0, .inr (0, fs)), (h1, .inr (1, gs)), (h2, .inl (K 2, 1600, .inl (fun _ => 0))), (h3, .inr (2, ns)), (h4, .inr (11, ks)), (h5, .inr (11, js)), (h6, .inr (12, ms)), (h7, .inl (K 0, 1600, .inl (fun _ => 0))), (o, .inl (K 1, 1, .inr (.inl (fun _ => 0))))] H) (hD : va_D A [(h0, .inr (0, fs)), (h1, .inr (1, gs)), (h2, .inl (K 2, 1600, .inl (fun _ => 0))), (h3, .inr (2, ns)), (h4, .inr (11, ks)), (h5, .inr (11, js)), (h6, .inr (12, ms)), (h7, .inl (K 0, 1600, .inl (fun _ => 0))), (o, .inl (K 1, 1, .inr (.inl (fun _ => 0))))]) (hS : va_S A s.heap H locs) (hl : lv_has ls 7 [(4, .int 0), (0, .ref b), (1, .ref h0), (2, .ref h6), (3, .ref o)]) : W p l e room_1 s m #[Value.ref b] below meth c H locs 200 600000 Q (F0 m 353 ls []) := by
  obtain ⟨hl9, hx, hb, hml, hown, hts, hE, hA, hX, hbl, hbA⟩ := C
  have hK := hE.k
  refine lv_aload_n hx hb dL_law_353 rfl (lv_at hl 2 rfl) ?_
  refine lv_aload_n hx hb dL_law_354 rfl (lv_at hl 1 rfl) ?_
  refine lv_iload hx hb dL_law_355 (lv_at hl 0 rfl) ?_
  refine lv_iconst (v := 1) hx hb dL_law_357 (by decide) ?_
  refine lv_iadd hx hb dL_law_358 ?_
  refine lv_topi (fun x_1 ex_1 => ?_)
  obtain rfl : x_1 = 1 := ex_1.trans (by decide +kernel)
  refine lc_sld (i := 1) (j := 1) (by decide) hx hb hX hbl hbA hS (show ¬ ((1 : Int32) < 0 ∨ 3 ≤ (1 : Int32).toNatClampNeg) by decide) dL_law_359 ?_
  refine lv_aload_n hx hb dL_law_360 rfl (lv_at hl 1 rfl) ?_
  refine lv_iload hx hb dL_law_361 (lv_at hl 0 rfl) ?_
  refine lv_iconst (v := 2) hx hb dL_law_363 (by decide) ?_
  refine lv_iadd hx hb dL_law_364 ?_
  refine lv_topi (fun x_2 ex_2 => ?_)
  obtain rfl : x_2 = 2 := ex_2.trans (by decide +kernel)
  refine lc_sld (i := 2) (j := 2) (by decide) hx hb hX hbl hbA hS (show ¬ ((2 : Int32) < 0 ∨ 3 ≤ (2 : Int32).toNatClampNeg) by decide) dL_law_365 ?_
  refine lv_aload_n hx hb dL_law_366 rfl (lv_at hl 4 rfl) ?_
  refine cf_calli (wc := [(h0, .inr (0, fs))]) (wr := [(h1, .inr (1, gs)), (h2, .inl (K 2, 1600, .inl (fun _ => 0))), (h3, .inr (2, ns)), (h4, .inr (11, ks)), (h5, .inr (11, js)), (h6, .inr (12, ms)), (h7, .inl (K 0, 1600, .inl (fun _ => 0))), (o, .inl (K 1, 1, .inr (.inl (fun _ => 0))))]) (cf_runSW (n := 4) (As := [.ref h0, .int (xs 1), .int (xs 2), .ref o]) (rest := []) ⟨hx, hb, hml, hown, hts⟩ (xL_gate l hl9 D K _ h0 fs (xs 1) (xs 2) o hfs_hasNetlist) wv_1121 wv_1119 wv_1120 wv_156 rfl rfl (by decide +kernel) ⟨Nat.le_of_ble_eq_true rfl, Nat.le_of_ble_eq_true rfl⟩ (cf_preS (wc := [(h0, .inr (0, fs))]) hE hP hD hS hA [0] rfl (by decide +kernel)) rfl rfl hl.1 rfl (lv_room (Nat.le_of_ble_eq_true rfl)) dL_law_367 ⟨Nat.le_of_ble_eq_true rfl, Nat.le_of_ble_eq_true rfl⟩) hP hD hS hA [0] [1, 2, 3, 4, 5, 6, 7, 8] rfl rfl (by decide +kernel) (by decide +kernel) (fun r_3 _ H locs hw_4 hP hD hS => ?_)
  have hP : va_P D vwCl [(h1, .inr (1, gs)), (h2, .inl (K 2, 1600, .inl (fun _ => 0))), (h3, .inr (2, ns)), (h4, .inr (11, ks)), (h5, .inr (11, js)), (h6, .inr (12, ms)), (h7, .inl (K 0, 1600, .inl (fun _ => 0))), (o, .inl (K 1, 1, .inr (.inl (fun _ => 0)))), (h0, .inr (0, fs))] H := hP
  have hD : va_D A [(h1, .inr (1, gs)), (h2, .inl (K 2, 1600, .inl (fun _ => 0))), (h3, .inr (2, ns)), (h4, .inr (11, ks)), (h5, .inr (11, js)), (h6, .inr (12, ms)), (h7, .inl (K 0, 1600, .inl (fun _ => 0))), (o, .inl (K 1, 1, .inr (.inl (fun _ => 0)))), (h0, .inr (0, fs))] := hD
  refine W.widen (k := 201) (n := 600006) (Nat.le_of_ble_eq_true rfl) (Nat.le_of_ble_eq_true rfl) ?_
  subst hw_4
  refine lv_istore (lv' := [(5, .int 1), (4, .int 0), (0, .ref b), (1, .ref h0), (2, .ref h6), (3, .ref o)]) hx hb dL_law_370 hl (by decide) rfl (fun ls hl => ?_)
  refine lv_aload_n hx hb dL_law_372 rfl (lv_at hl 4 rfl) ?_
  refine lv_aload_n hx hb dL_law_373 rfl (lv_at hl 2 rfl) ?_
  refine lv_iload hx hb dL_law_374 (lv_at hl 1 rfl) ?_
  refine lv_iconst (v := 1) hx hb dL_law_376 (by decide) ?_
  refine lv_iadd hx hb dL_law_377 ?_
  refine lv_topi (fun x_5 ex_5 => ?_)
  obtain rfl : x_5 = 1 := ex_5.trans (by decide +kernel)
  refine lc_sld (i := 1) (j := 1) (by decide) hx hb hX hbl hbA hS (show ¬ ((1 : Int32) < 0 ∨ 3 ≤ (1 : Int32).toNatClampNeg) by decide) dL_law_378 ?_
  refine lv_aload_n hx hb dL_law_379 rfl (lv_at hl 2 rfl) ?_
  refine lv_iload hx hb dL_law_380 (lv_at hl 1 rfl) ?_
  refine lv_iconst (v := 2) hx hb dL_law_382 (by decide) ?_
  refine lv_iadd hx hb dL_law_383 ?_
  refine lv_topi (fun x_6 ex_6 => ?_)
  obtain rfl : x_6 = 2 := ex_6.trans (by decide +kernel)
  refine lc_sld (i := 2) (j := 2) (by decide) hx hb hX hbl hbA hS (show ¬ ((2 : Int32) < 0 ∨ 3 ≤ (2 : Int32).toNatClampNeg) by decide) dL_law_384 ?_
  refine cf_calli (wc := [(h6, .inr (12, ms))]) (wr := [(h1, .inr (1, gs)), (h2, .inl (K 2, 1600, .inl (fun _ => 0))), (h3, .inr (2, ns)), (h4, .inr (11, ks)), (h5, .inr (11, js)), (h7, .inl (K 0, 1600, .inl (fun _ => 0))), (o, .inl (K 1, 1, .inr (.inl (fun _ => 0)))), (h0, .inr (0, fs))]) (va_runV (As := [.int (xs 1), .int (xs 2)]) (rest := []) ⟨hx, hb, hml, hown, hts⟩ (xM_gate l D K _ h6 ms (xs 1) (xs 2) hmsl hms_hasNetlist) (cwV 2 hts (cf_GV wv_2404 wv_2405 wv_2406 wv_173 wv_2407) rfl rfl rfl (by decide +kernel) ⟨Nat.le_of_ble_eq_true rfl, Nat.le_of_ble_eq_true rfl⟩) (cf_preV (wc := [(h6, .inr (12, ms))]) hE hP hD hS hA rfl 5 rfl [5] rfl (by decide +kernel)) rfl rfl hl.1 rfl (lv_room (Nat.le_of_ble_eq_true rfl)) dL_law_385 ⟨Nat.le_of_ble_eq_true rfl, Nat.le_of_ble_eq_true rfl⟩) hP hD hS hA [5] [0, 1, 2, 3, 4, 6, 7, 8] rfl rfl (by decide +kernel) (by decide +kernel) (fun r_7 _ H locs hw_8 hP hD hS => ?_)
  have hP : va_P D vwCl [(h1, .inr (1, gs)), (h2, .inl (K 2, 1600, .inl (fun _ => 0))), (h3, .inr (2, ns)), (h4, .inr (11, ks)), (h5, .inr (11, js)), (h7, .inl (K 0, 1600, .inl (fun _ => 0))), (o, .inl (K 1, 1, .inr (.inl (fun _ => 0)))), (h0, .inr (0, fs)), (h6, .inr (12, (ms.set 0 (.int 1))))] H := hP
  have hD : va_D A [(h1, .inr (1, gs)), (h2, .inl (K 2, 1600, .inl (fun _ => 0))), (h3, .inr (2, ns)), (h4, .inr (11, ks)), (h5, .inr (11, js)), (h7, .inl (K 0, 1600, .inl (fun _ => 0))), (o, .inl (K 1, 1, .inr (.inl (fun _ => 0)))), (h0, .inr (0, fs)), (h6, .inr (12, (ms.set 0 (.int 1))))] := hD
  refine lv_istore (lv' := [(6, .int r_7), (5, .int 1), (4, .int 0), (0, .ref b), (1, .ref h0), (2, .ref h6), (3, .ref o)]) hx hb dL_law_388 hl (by decide) rfl (fun ls hl => ?_)
  refine lv_aload_n hx hb dL_law_390 rfl (lv_at hl 5 rfl) ?_
  refine cf_calli (wc := [(h6, .inr (12, (ms.set 0 (.int 1))))]) (wr := [(h1, .inr (1, gs)), (h2, .inl (K 2, 1600, .inl (fun _ => 0))), (h3, .inr (2, ns)), (h4, .inr (11, ks)), (h5, .inr (11, js)), (h7, .inl (K 0, 1600, .inl (fun _ => 0))), (o, .inl (K 1, 1, .inr (.inl (fun _ => 0)))), (h0, .inr (0, fs))]) (va_runV (As := []) (rest := []) ⟨hx, hb, hml, hown, hts⟩ (kM_thrown l D K _ h6 (ms.set 0 (.int 1)) 1 (List.getElem?_set_self (show 0 < ms.length by rw [hmsl]; decide))) (cwV 0 hts (cf_GV wv_2280 wv_2281 wv_2282 wv_173 wv_2283) rfl rfl rfl (by decide +kernel) ⟨Nat.le_of_ble_eq_true rfl, Nat.le_of_ble_eq_true rfl⟩) (cf_preV (wc := [(h6, .inr (12, (ms.set 0 (.int 1))))]) hE hP hD hS hA rfl 8 rfl [8] rfl (by decide +kernel)) rfl rfl hl.1 rfl (lv_room (Nat.le_of_ble_eq_true rfl)) dL_law_391 ⟨Nat.le_of_ble_eq_true rfl, Nat.le_of_ble_eq_true rfl⟩) hP hD hS hA [8] [0, 1, 2, 3, 4, 5, 6, 7] rfl rfl (by decide +kernel) (by decide +kernel) (fun r_9 _ H locs hw_10 hP hD hS => ?_)
  have hP : va_P D vwCl [(h1, .inr (1, gs)), (h2, .inl (K 2, 1600, .inl (fun _ => 0))), (h3, .inr (2, ns)), (h4, .inr (11, ks)), (h5, .inr (11, js)), (h7, .inl (K 0, 1600, .inl (fun _ => 0))), (o, .inl (K 1, 1, .inr (.inl (fun _ => 0)))), (h0, .inr (0, fs)), (h6, .inr (12, (ms.set 0 (.int 1))))] H := hP
  have hD : va_D A [(h1, .inr (1, gs)), (h2, .inl (K 2, 1600, .inl (fun _ => 0))), (h3, .inr (2, ns)), (h4, .inr (11, ks)), (h5, .inr (11, js)), (h7, .inl (K 0, 1600, .inl (fun _ => 0))), (o, .inl (K 1, 1, .inr (.inl (fun _ => 0)))), (h0, .inr (0, fs)), (h6, .inr (12, (ms.set 0 (.int 1))))] := hD
  subst hw_10
  refine lv_iload hx hb dL_law_394 (lv_at hl 1 rfl) ?_
  refine lv_icmp_eq (tgt := 401) hx hb dL_law_396 (by decide) (fun _ => ?_) (fun c_11 => absurd (by decide) c_11)
  refine lv_iload hx hb dL_law_401 (lv_at hl 1 rfl) ?_
  refine lv_if_ne (tgt := 418) hx hb dL_law_403 (by decide) (fun _ => ?_) (fun c_12 => absurd c_12 (by decide))
  refine lv_goto (tgt := 1386) hx hb dL_law_418 (by decide) ?_
  refine W.widen (k := 300) (n := 600100) (Nat.le_of_ble_eq_true rfl) (Nat.le_of_ble_eq_true rfl) ?_
  exact kk _ _ _ hS (lv_sub hl [2, 3] rfl)
set_option maxHeartbeats 4000000 in
set_option maxRecDepth 100000 in
/-- the law, case 6 -/
theorem lc_6 {p : Program} {e : Env} {s : State} {m : MethodId} {below : List Frame} {meth : Method} {c : Code} {l : Launch} {D : va_G} {K : Nat → ClassId} {b : Nat} {xs : Nat → Int32} {A : Nat → Prop} {Q : State → Prop} (C : lc_C p l s m c b xs A D K) {h0 : Nat} {fs : List Value} {h1 : Nat} {gs : List Value} {h2 : Nat} {h3 : Nat} {ns : List Value} {h4 : Nat} {ks : List Value} {h5 : Nat} {js : List Value} {h6 : Nat} {ms : List Value} {h7 : Nat} {o : Nat} (hfsl : fs.length = 19) (hfs_text : fs[0]? = some (.ref h1)) (hfs_spareNetlist : fs[10]? = some (.ref h3)) (hfs_kit : fs[13]? = some (.ref h4)) (hfs_spareKit : fs[14]? = some (.ref h5)) (hfs_faultLine : fs[15]? = some (.int (-1))) (hfs_hasNetlist : fs[16]? = some (.int 0)) (hfs_hasCover : fs[17]? = some (.int 0)) (hfs_hasMapping : fs[18]? = some (.int 0)) (hgsl : gs.length = 7) (hgs_signs : gs[0]? = some (.ref h2)) (hgs_size : gs[3]? = some (.int 0)) (hnsl : ns.length = 17) (hksl : ks.length = 12) (hks_cells : ks[0]? = some (.int 0)) (hjsl : js.length = 12) (hmsl : ms.length = 99) (hms_thrown : ms[0]? = some (.int 0)) (hms_signs : ms[1]? = some (.ref h7)) (hms_size : ms[2]? = some (.int 0)) (hms_faultLine : ms[3]? = some (.int (-1))) (hms_line : ms[6]? = some (.int 0)) (hms_hasNetlist : ms[38]? = some (.int 0)) (hms_hasCover : ms[64]? = some (.int 0)) (hms_hasLibrary : ms[78]? = some (.int 0)) (hms_isMapped : ms[85]? = some (.int 0))
    (kk : ∀ (H : Heap) (locs : List Loc) (ls : Array Slot), va_S A s.heap H locs → lv_has ls 7 [(4, .int 0), (0, .ref b)] → W p l e room_1 s m #[Value.ref b] below meth c H locs 300 600100 Q (F0 m 1386 ls []))
    {H : Heap} {locs : List Loc} {ls : Array Slot} (hP : va_P D vwCl [(h0, .inr (0, fs)), (h1, .inr (1, gs)), (h2, .inl (K 2, 1600, .inl (fun _ => 0))), (h3, .inr (2, ns)), (h4, .inr (11, ks)), (h5, .inr (11, js)), (h6, .inr (12, ms)), (h7, .inl (K 0, 1600, .inl (fun _ => 0))), (o, .inl (K 1, 1, .inr (.inl (fun _ => 0))))] H) (hD : va_D A [(h0, .inr (0, fs)), (h1, .inr (1, gs)), (h2, .inl (K 2, 1600, .inl (fun _ => 0))), (h3, .inr (2, ns)), (h4, .inr (11, ks)), (h5, .inr (11, js)), (h6, .inr (12, ms)), (h7, .inl (K 0, 1600, .inl (fun _ => 0))), (o, .inl (K 1, 1, .inr (.inl (fun _ => 0))))]) (hS : va_S A s.heap H locs) (hl : lv_has ls 7 [(4, .int 0), (0, .ref b), (1, .ref h0), (2, .ref h6), (3, .ref o)]) : W p l e room_1 s m #[Value.ref b] below meth c H locs 200 600000 Q (F0 m 421 ls []) := by
  obtain ⟨hl9, hx, hb, hml, hown, hts, hE, hA, hX, hbl, hbA⟩ := C
  have hK := hE.k
  refine lv_aload_n hx hb dL_law_421 rfl (lv_at hl 2 rfl) ?_
  refine lv_aload_n hx hb dL_law_422 rfl (lv_at hl 1 rfl) ?_
  refine lv_iload hx hb dL_law_423 (lv_at hl 0 rfl) ?_
  refine lv_iconst (v := 1) hx hb dL_law_425 (by decide) ?_
  refine lv_iadd hx hb dL_law_426 ?_
  refine lv_topi (fun x_1 ex_1 => ?_)
  obtain rfl : x_1 = 1 := ex_1.trans (by decide +kernel)
  refine lc_sld (i := 1) (j := 1) (by decide) hx hb hX hbl hbA hS (show ¬ ((1 : Int32) < 0 ∨ 3 ≤ (1 : Int32).toNatClampNeg) by decide) dL_law_427 ?_
  refine lv_aload_n hx hb dL_law_428 rfl (lv_at hl 4 rfl) ?_
  refine cf_calli (wc := [(h0, .inr (0, fs))]) (wr := [(h1, .inr (1, gs)), (h2, .inl (K 2, 1600, .inl (fun _ => 0))), (h3, .inr (2, ns)), (h4, .inr (11, ks)), (h5, .inr (11, js)), (h6, .inr (12, ms)), (h7, .inl (K 0, 1600, .inl (fun _ => 0))), (o, .inl (K 1, 1, .inr (.inl (fun _ => 0))))]) (cf_runSW (n := 3) (As := [.ref h0, .int (xs 1), .ref o]) (rest := []) ⟨hx, hb, hml, hown, hts⟩ (xL_output l hl9 D K _ h0 fs (xs 1) o hfs_hasNetlist) wv_1151 wv_1149 wv_1150 wv_156 rfl rfl (by decide +kernel) ⟨Nat.le_of_ble_eq_true rfl, Nat.le_of_ble_eq_true rfl⟩ (cf_preS (wc := [(h0, .inr (0, fs))]) hE hP hD hS hA [0] rfl (by decide +kernel)) rfl rfl hl.1 rfl (lv_room (Nat.le_of_ble_eq_true rfl)) dL_law_429 ⟨Nat.le_of_ble_eq_true rfl, Nat.le_of_ble_eq_true rfl⟩) hP hD hS hA [0] [1, 2, 3, 4, 5, 6, 7, 8] rfl rfl (by decide +kernel) (by decide +kernel) (fun r_2 _ H locs hw_3 hP hD hS => ?_)
  have hP : va_P D vwCl [(h1, .inr (1, gs)), (h2, .inl (K 2, 1600, .inl (fun _ => 0))), (h3, .inr (2, ns)), (h4, .inr (11, ks)), (h5, .inr (11, js)), (h6, .inr (12, ms)), (h7, .inl (K 0, 1600, .inl (fun _ => 0))), (o, .inl (K 1, 1, .inr (.inl (fun _ => 0)))), (h0, .inr (0, fs))] H := hP
  have hD : va_D A [(h1, .inr (1, gs)), (h2, .inl (K 2, 1600, .inl (fun _ => 0))), (h3, .inr (2, ns)), (h4, .inr (11, ks)), (h5, .inr (11, js)), (h6, .inr (12, ms)), (h7, .inl (K 0, 1600, .inl (fun _ => 0))), (o, .inl (K 1, 1, .inr (.inl (fun _ => 0)))), (h0, .inr (0, fs))] := hD
  refine W.widen (k := 201) (n := 600006) (Nat.le_of_ble_eq_true rfl) (Nat.le_of_ble_eq_true rfl) ?_
  subst hw_3
  refine lv_istore (lv' := [(5, .int 1), (4, .int 0), (0, .ref b), (1, .ref h0), (2, .ref h6), (3, .ref o)]) hx hb dL_law_432 hl (by decide) rfl (fun ls hl => ?_)
  refine lv_aload_n hx hb dL_law_434 rfl (lv_at hl 4 rfl) ?_
  refine lv_aload_n hx hb dL_law_435 rfl (lv_at hl 2 rfl) ?_
  refine lv_iload hx hb dL_law_436 (lv_at hl 1 rfl) ?_
  refine lv_iconst (v := 1) hx hb dL_law_438 (by decide) ?_
  refine lv_iadd hx hb dL_law_439 ?_
  refine lv_topi (fun x_4 ex_4 => ?_)
  obtain rfl : x_4 = 1 := ex_4.trans (by decide +kernel)
  refine lc_sld (i := 1) (j := 1) (by decide) hx hb hX hbl hbA hS (show ¬ ((1 : Int32) < 0 ∨ 3 ≤ (1 : Int32).toNatClampNeg) by decide) dL_law_440 ?_
  refine cf_calli (wc := [(h6, .inr (12, ms))]) (wr := [(h1, .inr (1, gs)), (h2, .inl (K 2, 1600, .inl (fun _ => 0))), (h3, .inr (2, ns)), (h4, .inr (11, ks)), (h5, .inr (11, js)), (h7, .inl (K 0, 1600, .inl (fun _ => 0))), (o, .inl (K 1, 1, .inr (.inl (fun _ => 0)))), (h0, .inr (0, fs))]) (va_runV (As := [.int (xs 1)]) (rest := []) ⟨hx, hb, hml, hown, hts⟩ (xM_output l D K _ h6 ms (xs 1) hmsl hms_hasNetlist) (cwV 1 hts (cf_GV wv_2416 wv_2417 wv_2418 wv_173 wv_2419) rfl rfl rfl (by decide +kernel) ⟨Nat.le_of_ble_eq_true rfl, Nat.le_of_ble_eq_true rfl⟩) (cf_preV (wc := [(h6, .inr (12, ms))]) hE hP hD hS hA rfl 5 rfl [5] rfl (by decide +kernel)) rfl rfl hl.1 rfl (lv_room (Nat.le_of_ble_eq_true rfl)) dL_law_441 ⟨Nat.le_of_ble_eq_true rfl, Nat.le_of_ble_eq_true rfl⟩) hP hD hS hA [5] [0, 1, 2, 3, 4, 6, 7, 8] rfl rfl (by decide +kernel) (by decide +kernel) (fun r_5 _ H locs hw_6 hP hD hS => ?_)
  have hP : va_P D vwCl [(h1, .inr (1, gs)), (h2, .inl (K 2, 1600, .inl (fun _ => 0))), (h3, .inr (2, ns)), (h4, .inr (11, ks)), (h5, .inr (11, js)), (h7, .inl (K 0, 1600, .inl (fun _ => 0))), (o, .inl (K 1, 1, .inr (.inl (fun _ => 0)))), (h0, .inr (0, fs)), (h6, .inr (12, (ms.set 0 (.int 1))))] H := hP
  have hD : va_D A [(h1, .inr (1, gs)), (h2, .inl (K 2, 1600, .inl (fun _ => 0))), (h3, .inr (2, ns)), (h4, .inr (11, ks)), (h5, .inr (11, js)), (h7, .inl (K 0, 1600, .inl (fun _ => 0))), (o, .inl (K 1, 1, .inr (.inl (fun _ => 0)))), (h0, .inr (0, fs)), (h6, .inr (12, (ms.set 0 (.int 1))))] := hD
  refine lv_istore (lv' := [(6, .int r_5), (5, .int 1), (4, .int 0), (0, .ref b), (1, .ref h0), (2, .ref h6), (3, .ref o)]) hx hb dL_law_444 hl (by decide) rfl (fun ls hl => ?_)
  refine lv_aload_n hx hb dL_law_446 rfl (lv_at hl 5 rfl) ?_
  refine cf_calli (wc := [(h6, .inr (12, (ms.set 0 (.int 1))))]) (wr := [(h1, .inr (1, gs)), (h2, .inl (K 2, 1600, .inl (fun _ => 0))), (h3, .inr (2, ns)), (h4, .inr (11, ks)), (h5, .inr (11, js)), (h7, .inl (K 0, 1600, .inl (fun _ => 0))), (o, .inl (K 1, 1, .inr (.inl (fun _ => 0)))), (h0, .inr (0, fs))]) (va_runV (As := []) (rest := []) ⟨hx, hb, hml, hown, hts⟩ (kM_thrown l D K _ h6 (ms.set 0 (.int 1)) 1 (List.getElem?_set_self (show 0 < ms.length by rw [hmsl]; decide))) (cwV 0 hts (cf_GV wv_2280 wv_2281 wv_2282 wv_173 wv_2283) rfl rfl rfl (by decide +kernel) ⟨Nat.le_of_ble_eq_true rfl, Nat.le_of_ble_eq_true rfl⟩) (cf_preV (wc := [(h6, .inr (12, (ms.set 0 (.int 1))))]) hE hP hD hS hA rfl 8 rfl [8] rfl (by decide +kernel)) rfl rfl hl.1 rfl (lv_room (Nat.le_of_ble_eq_true rfl)) dL_law_447 ⟨Nat.le_of_ble_eq_true rfl, Nat.le_of_ble_eq_true rfl⟩) hP hD hS hA [8] [0, 1, 2, 3, 4, 5, 6, 7] rfl rfl (by decide +kernel) (by decide +kernel) (fun r_7 _ H locs hw_8 hP hD hS => ?_)
  have hP : va_P D vwCl [(h1, .inr (1, gs)), (h2, .inl (K 2, 1600, .inl (fun _ => 0))), (h3, .inr (2, ns)), (h4, .inr (11, ks)), (h5, .inr (11, js)), (h7, .inl (K 0, 1600, .inl (fun _ => 0))), (o, .inl (K 1, 1, .inr (.inl (fun _ => 0)))), (h0, .inr (0, fs)), (h6, .inr (12, (ms.set 0 (.int 1))))] H := hP
  have hD : va_D A [(h1, .inr (1, gs)), (h2, .inl (K 2, 1600, .inl (fun _ => 0))), (h3, .inr (2, ns)), (h4, .inr (11, ks)), (h5, .inr (11, js)), (h7, .inl (K 0, 1600, .inl (fun _ => 0))), (o, .inl (K 1, 1, .inr (.inl (fun _ => 0)))), (h0, .inr (0, fs)), (h6, .inr (12, (ms.set 0 (.int 1))))] := hD
  subst hw_8
  refine lv_iload hx hb dL_law_450 (lv_at hl 1 rfl) ?_
  refine lv_icmp_eq (tgt := 457) hx hb dL_law_452 (by decide) (fun _ => ?_) (fun c_9 => absurd (by decide) c_9)
  refine lv_iload hx hb dL_law_457 (lv_at hl 1 rfl) ?_
  refine lv_if_ne (tgt := 474) hx hb dL_law_459 (by decide) (fun _ => ?_) (fun c_10 => absurd c_10 (by decide))
  refine lv_goto (tgt := 1386) hx hb dL_law_474 (by decide) ?_
  refine W.widen (k := 300) (n := 600100) (Nat.le_of_ble_eq_true rfl) (Nat.le_of_ble_eq_true rfl) ?_
  exact kk _ _ _ hS (lv_sub hl [2, 3] rfl)
set_option maxHeartbeats 4000000 in
set_option maxRecDepth 100000 in
/-- the law, case 7 -/
theorem lc_7 {p : Program} {e : Env} {s : State} {m : MethodId} {below : List Frame} {meth : Method} {c : Code} {l : Launch} {D : va_G} {K : Nat → ClassId} {b : Nat} {xs : Nat → Int32} {A : Nat → Prop} {Q : State → Prop} (C : lc_C p l s m c b xs A D K) {h0 : Nat} {fs : List Value} {h1 : Nat} {gs : List Value} {h2 : Nat} {h3 : Nat} {ns : List Value} {h4 : Nat} {ks : List Value} {h5 : Nat} {js : List Value} {h6 : Nat} {ms : List Value} {h7 : Nat} {o : Nat} (hfsl : fs.length = 19) (hfs_text : fs[0]? = some (.ref h1)) (hfs_spareNetlist : fs[10]? = some (.ref h3)) (hfs_kit : fs[13]? = some (.ref h4)) (hfs_spareKit : fs[14]? = some (.ref h5)) (hfs_faultLine : fs[15]? = some (.int (-1))) (hfs_hasNetlist : fs[16]? = some (.int 0)) (hfs_hasCover : fs[17]? = some (.int 0)) (hfs_hasMapping : fs[18]? = some (.int 0)) (hgsl : gs.length = 7) (hgs_signs : gs[0]? = some (.ref h2)) (hgs_size : gs[3]? = some (.int 0)) (hnsl : ns.length = 17) (hksl : ks.length = 12) (hks_cells : ks[0]? = some (.int 0)) (hjsl : js.length = 12) (hmsl : ms.length = 99) (hms_thrown : ms[0]? = some (.int 0)) (hms_signs : ms[1]? = some (.ref h7)) (hms_size : ms[2]? = some (.int 0)) (hms_faultLine : ms[3]? = some (.int (-1))) (hms_line : ms[6]? = some (.int 0)) (hms_hasNetlist : ms[38]? = some (.int 0)) (hms_hasCover : ms[64]? = some (.int 0)) (hms_hasLibrary : ms[78]? = some (.int 0)) (hms_isMapped : ms[85]? = some (.int 0))
    (kk : ∀ (H : Heap) (locs : List Loc) (ls : Array Slot), va_S A s.heap H locs → lv_has ls 7 [(4, .int 0), (0, .ref b)] → W p l e room_1 s m #[Value.ref b] below meth c H locs 300 600100 Q (F0 m 1386 ls []))
    {H : Heap} {locs : List Loc} {ls : Array Slot} (hP : va_P D vwCl [(h0, .inr (0, fs)), (h1, .inr (1, gs)), (h2, .inl (K 2, 1600, .inl (fun _ => 0))), (h3, .inr (2, ns)), (h4, .inr (11, ks)), (h5, .inr (11, js)), (h6, .inr (12, ms)), (h7, .inl (K 0, 1600, .inl (fun _ => 0))), (o, .inl (K 1, 1, .inr (.inl (fun _ => 0))))] H) (hD : va_D A [(h0, .inr (0, fs)), (h1, .inr (1, gs)), (h2, .inl (K 2, 1600, .inl (fun _ => 0))), (h3, .inr (2, ns)), (h4, .inr (11, ks)), (h5, .inr (11, js)), (h6, .inr (12, ms)), (h7, .inl (K 0, 1600, .inl (fun _ => 0))), (o, .inl (K 1, 1, .inr (.inl (fun _ => 0))))]) (hS : va_S A s.heap H locs) (hl : lv_has ls 7 [(4, .int 0), (0, .ref b), (1, .ref h0), (2, .ref h6), (3, .ref o)]) : W p l e room_1 s m #[Value.ref b] below meth c H locs 200 600000 Q (F0 m 477 ls []) := by
  obtain ⟨hl9, hx, hb, hml, hown, hts, hE, hA, hX, hbl, hbA⟩ := C
  have hK := hE.k
  refine lv_aload_n hx hb dL_law_477 rfl (lv_at hl 2 rfl) ?_
  refine lv_aload_n hx hb dL_law_478 rfl (lv_at hl 1 rfl) ?_
  refine lv_iload hx hb dL_law_479 (lv_at hl 0 rfl) ?_
  refine lv_iconst (v := 1) hx hb dL_law_481 (by decide) ?_
  refine lv_iadd hx hb dL_law_482 ?_
  refine lv_topi (fun x_1 ex_1 => ?_)
  obtain rfl : x_1 = 1 := ex_1.trans (by decide +kernel)
  refine lc_sld (i := 1) (j := 1) (by decide) hx hb hX hbl hbA hS (show ¬ ((1 : Int32) < 0 ∨ 3 ≤ (1 : Int32).toNatClampNeg) by decide) dL_law_483 ?_
  refine lv_aload_n hx hb dL_law_484 rfl (lv_at hl 4 rfl) ?_
  refine cf_calli (wc := [(h0, .inr (0, fs))]) (wr := [(h1, .inr (1, gs)), (h2, .inl (K 2, 1600, .inl (fun _ => 0))), (h3, .inr (2, ns)), (h4, .inr (11, ks)), (h5, .inr (11, js)), (h6, .inr (12, ms)), (h7, .inl (K 0, 1600, .inl (fun _ => 0))), (o, .inl (K 1, 1, .inr (.inl (fun _ => 0))))]) (cf_runSW (n := 3) (As := [.ref h0, .int (xs 1), .ref o]) (rest := []) ⟨hx, hb, hml, hown, hts⟩ (xL_value l hl9 D K _ h0 fs (xs 1) o hfs_hasNetlist) wv_1158 wv_1156 wv_1157 wv_156 rfl rfl (by decide +kernel) ⟨Nat.le_of_ble_eq_true rfl, Nat.le_of_ble_eq_true rfl⟩ (cf_preS (wc := [(h0, .inr (0, fs))]) hE hP hD hS hA [0] rfl (by decide +kernel)) rfl rfl hl.1 rfl (lv_room (Nat.le_of_ble_eq_true rfl)) dL_law_485 ⟨Nat.le_of_ble_eq_true rfl, Nat.le_of_ble_eq_true rfl⟩) hP hD hS hA [0] [1, 2, 3, 4, 5, 6, 7, 8] rfl rfl (by decide +kernel) (by decide +kernel) (fun r_2 _ H locs hw_3 hP hD hS => ?_)
  have hP : va_P D vwCl [(h1, .inr (1, gs)), (h2, .inl (K 2, 1600, .inl (fun _ => 0))), (h3, .inr (2, ns)), (h4, .inr (11, ks)), (h5, .inr (11, js)), (h6, .inr (12, ms)), (h7, .inl (K 0, 1600, .inl (fun _ => 0))), (o, .inl (K 1, 1, .inr (.inl (fun _ => 0)))), (h0, .inr (0, fs))] H := hP
  have hD : va_D A [(h1, .inr (1, gs)), (h2, .inl (K 2, 1600, .inl (fun _ => 0))), (h3, .inr (2, ns)), (h4, .inr (11, ks)), (h5, .inr (11, js)), (h6, .inr (12, ms)), (h7, .inl (K 0, 1600, .inl (fun _ => 0))), (o, .inl (K 1, 1, .inr (.inl (fun _ => 0)))), (h0, .inr (0, fs))] := hD
  refine W.widen (k := 201) (n := 600006) (Nat.le_of_ble_eq_true rfl) (Nat.le_of_ble_eq_true rfl) ?_
  subst hw_3
  refine lv_istore (lv' := [(5, .int 1), (4, .int 0), (0, .ref b), (1, .ref h0), (2, .ref h6), (3, .ref o)]) hx hb dL_law_488 hl (by decide) rfl (fun ls hl => ?_)
  refine lv_aload_n hx hb dL_law_490 rfl (lv_at hl 4 rfl) ?_
  refine lv_aload_n hx hb dL_law_491 rfl (lv_at hl 2 rfl) ?_
  refine lv_iload hx hb dL_law_492 (lv_at hl 1 rfl) ?_
  refine lv_iconst (v := 1) hx hb dL_law_494 (by decide) ?_
  refine lv_iadd hx hb dL_law_495 ?_
  refine lv_topi (fun x_4 ex_4 => ?_)
  obtain rfl : x_4 = 1 := ex_4.trans (by decide +kernel)
  refine lc_sld (i := 1) (j := 1) (by decide) hx hb hX hbl hbA hS (show ¬ ((1 : Int32) < 0 ∨ 3 ≤ (1 : Int32).toNatClampNeg) by decide) dL_law_496 ?_
  refine cf_calli (wc := [(h6, .inr (12, ms))]) (wr := [(h1, .inr (1, gs)), (h2, .inl (K 2, 1600, .inl (fun _ => 0))), (h3, .inr (2, ns)), (h4, .inr (11, ks)), (h5, .inr (11, js)), (h7, .inl (K 0, 1600, .inl (fun _ => 0))), (o, .inl (K 1, 1, .inr (.inl (fun _ => 0)))), (h0, .inr (0, fs))]) (va_runV (As := [.int (xs 1)]) (rest := []) ⟨hx, hb, hml, hown, hts⟩ (xM_value l D K _ h6 ms (xs 1) hmsl hms_hasNetlist) (cwV 1 hts (cf_GV wv_2420 wv_2421 wv_2422 wv_173 wv_2423) rfl rfl rfl (by decide +kernel) ⟨Nat.le_of_ble_eq_true rfl, Nat.le_of_ble_eq_true rfl⟩) (cf_preV (wc := [(h6, .inr (12, ms))]) hE hP hD hS hA rfl 5 rfl [5] rfl (by decide +kernel)) rfl rfl hl.1 rfl (lv_room (Nat.le_of_ble_eq_true rfl)) dL_law_497 ⟨Nat.le_of_ble_eq_true rfl, Nat.le_of_ble_eq_true rfl⟩) hP hD hS hA [5] [0, 1, 2, 3, 4, 6, 7, 8] rfl rfl (by decide +kernel) (by decide +kernel) (fun r_5 _ H locs hw_6 hP hD hS => ?_)
  have hP : va_P D vwCl [(h1, .inr (1, gs)), (h2, .inl (K 2, 1600, .inl (fun _ => 0))), (h3, .inr (2, ns)), (h4, .inr (11, ks)), (h5, .inr (11, js)), (h7, .inl (K 0, 1600, .inl (fun _ => 0))), (o, .inl (K 1, 1, .inr (.inl (fun _ => 0)))), (h0, .inr (0, fs)), (h6, .inr (12, (ms.set 0 (.int 1))))] H := hP
  have hD : va_D A [(h1, .inr (1, gs)), (h2, .inl (K 2, 1600, .inl (fun _ => 0))), (h3, .inr (2, ns)), (h4, .inr (11, ks)), (h5, .inr (11, js)), (h7, .inl (K 0, 1600, .inl (fun _ => 0))), (o, .inl (K 1, 1, .inr (.inl (fun _ => 0)))), (h0, .inr (0, fs)), (h6, .inr (12, (ms.set 0 (.int 1))))] := hD
  refine lv_istore (lv' := [(6, .int r_5), (5, .int 1), (4, .int 0), (0, .ref b), (1, .ref h0), (2, .ref h6), (3, .ref o)]) hx hb dL_law_500 hl (by decide) rfl (fun ls hl => ?_)
  refine lv_aload_n hx hb dL_law_502 rfl (lv_at hl 5 rfl) ?_
  refine cf_calli (wc := [(h6, .inr (12, (ms.set 0 (.int 1))))]) (wr := [(h1, .inr (1, gs)), (h2, .inl (K 2, 1600, .inl (fun _ => 0))), (h3, .inr (2, ns)), (h4, .inr (11, ks)), (h5, .inr (11, js)), (h7, .inl (K 0, 1600, .inl (fun _ => 0))), (o, .inl (K 1, 1, .inr (.inl (fun _ => 0)))), (h0, .inr (0, fs))]) (va_runV (As := []) (rest := []) ⟨hx, hb, hml, hown, hts⟩ (kM_thrown l D K _ h6 (ms.set 0 (.int 1)) 1 (List.getElem?_set_self (show 0 < ms.length by rw [hmsl]; decide))) (cwV 0 hts (cf_GV wv_2280 wv_2281 wv_2282 wv_173 wv_2283) rfl rfl rfl (by decide +kernel) ⟨Nat.le_of_ble_eq_true rfl, Nat.le_of_ble_eq_true rfl⟩) (cf_preV (wc := [(h6, .inr (12, (ms.set 0 (.int 1))))]) hE hP hD hS hA rfl 8 rfl [8] rfl (by decide +kernel)) rfl rfl hl.1 rfl (lv_room (Nat.le_of_ble_eq_true rfl)) dL_law_503 ⟨Nat.le_of_ble_eq_true rfl, Nat.le_of_ble_eq_true rfl⟩) hP hD hS hA [8] [0, 1, 2, 3, 4, 5, 6, 7] rfl rfl (by decide +kernel) (by decide +kernel) (fun r_7 _ H locs hw_8 hP hD hS => ?_)
  have hP : va_P D vwCl [(h1, .inr (1, gs)), (h2, .inl (K 2, 1600, .inl (fun _ => 0))), (h3, .inr (2, ns)), (h4, .inr (11, ks)), (h5, .inr (11, js)), (h7, .inl (K 0, 1600, .inl (fun _ => 0))), (o, .inl (K 1, 1, .inr (.inl (fun _ => 0)))), (h0, .inr (0, fs)), (h6, .inr (12, (ms.set 0 (.int 1))))] H := hP
  have hD : va_D A [(h1, .inr (1, gs)), (h2, .inl (K 2, 1600, .inl (fun _ => 0))), (h3, .inr (2, ns)), (h4, .inr (11, ks)), (h5, .inr (11, js)), (h7, .inl (K 0, 1600, .inl (fun _ => 0))), (o, .inl (K 1, 1, .inr (.inl (fun _ => 0)))), (h0, .inr (0, fs)), (h6, .inr (12, (ms.set 0 (.int 1))))] := hD
  subst hw_8
  refine lv_iload hx hb dL_law_506 (lv_at hl 1 rfl) ?_
  refine lv_icmp_eq (tgt := 513) hx hb dL_law_508 (by decide) (fun _ => ?_) (fun c_9 => absurd (by decide) c_9)
  refine lv_iload hx hb dL_law_513 (lv_at hl 1 rfl) ?_
  refine lv_if_ne (tgt := 530) hx hb dL_law_515 (by decide) (fun _ => ?_) (fun c_10 => absurd c_10 (by decide))
  refine lv_goto (tgt := 1386) hx hb dL_law_530 (by decide) ?_
  refine W.widen (k := 300) (n := 600100) (Nat.le_of_ble_eq_true rfl) (Nat.le_of_ble_eq_true rfl) ?_
  exact kk _ _ _ hS (lv_sub hl [2, 3] rfl)
set_option maxHeartbeats 4000000 in
set_option maxRecDepth 100000 in
/-- the law, case 8 -/
theorem lc_8 {p : Program} {e : Env} {s : State} {m : MethodId} {below : List Frame} {meth : Method} {c : Code} {l : Launch} {D : va_G} {K : Nat → ClassId} {b : Nat} {xs : Nat → Int32} {A : Nat → Prop} {Q : State → Prop} (C : lc_C p l s m c b xs A D K) {h0 : Nat} {fs : List Value} {h1 : Nat} {gs : List Value} {h2 : Nat} {h3 : Nat} {ns : List Value} {h4 : Nat} {ks : List Value} {h5 : Nat} {js : List Value} {h6 : Nat} {ms : List Value} {h7 : Nat} {o : Nat} (hfsl : fs.length = 19) (hfs_text : fs[0]? = some (.ref h1)) (hfs_spareNetlist : fs[10]? = some (.ref h3)) (hfs_kit : fs[13]? = some (.ref h4)) (hfs_spareKit : fs[14]? = some (.ref h5)) (hfs_faultLine : fs[15]? = some (.int (-1))) (hfs_hasNetlist : fs[16]? = some (.int 0)) (hfs_hasCover : fs[17]? = some (.int 0)) (hfs_hasMapping : fs[18]? = some (.int 0)) (hgsl : gs.length = 7) (hgs_signs : gs[0]? = some (.ref h2)) (hgs_size : gs[3]? = some (.int 0)) (hnsl : ns.length = 17) (hksl : ks.length = 12) (hks_cells : ks[0]? = some (.int 0)) (hjsl : js.length = 12) (hmsl : ms.length = 99) (hms_thrown : ms[0]? = some (.int 0)) (hms_signs : ms[1]? = some (.ref h7)) (hms_size : ms[2]? = some (.int 0)) (hms_faultLine : ms[3]? = some (.int (-1))) (hms_line : ms[6]? = some (.int 0)) (hms_hasNetlist : ms[38]? = some (.int 0)) (hms_hasCover : ms[64]? = some (.int 0)) (hms_hasLibrary : ms[78]? = some (.int 0)) (hms_isMapped : ms[85]? = some (.int 0))
    (kk : ∀ (H : Heap) (locs : List Loc) (ls : Array Slot), va_S A s.heap H locs → lv_has ls 7 [(4, .int 0), (0, .ref b)] → W p l e room_1 s m #[Value.ref b] below meth c H locs 300 600100 Q (F0 m 1386 ls []))
    {H : Heap} {locs : List Loc} {ls : Array Slot} (hP : va_P D vwCl [(h0, .inr (0, fs)), (h1, .inr (1, gs)), (h2, .inl (K 2, 1600, .inl (fun _ => 0))), (h3, .inr (2, ns)), (h4, .inr (11, ks)), (h5, .inr (11, js)), (h6, .inr (12, ms)), (h7, .inl (K 0, 1600, .inl (fun _ => 0))), (o, .inl (K 1, 1, .inr (.inl (fun _ => 0))))] H) (hD : va_D A [(h0, .inr (0, fs)), (h1, .inr (1, gs)), (h2, .inl (K 2, 1600, .inl (fun _ => 0))), (h3, .inr (2, ns)), (h4, .inr (11, ks)), (h5, .inr (11, js)), (h6, .inr (12, ms)), (h7, .inl (K 0, 1600, .inl (fun _ => 0))), (o, .inl (K 1, 1, .inr (.inl (fun _ => 0))))]) (hS : va_S A s.heap H locs) (hl : lv_has ls 7 [(4, .int 0), (0, .ref b), (1, .ref h0), (2, .ref h6), (3, .ref o)]) : W p l e room_1 s m #[Value.ref b] below meth c H locs 200 600000 Q (F0 m 533 ls []) := by
  obtain ⟨hl9, hx, hb, hml, hown, hts, hE, hA, hX, hbl, hbA⟩ := C
  have hK := hE.k
  refine lv_aload_n hx hb dL_law_533 rfl (lv_at hl 2 rfl) ?_
  refine lv_aload_n hx hb dL_law_534 rfl (lv_at hl 4 rfl) ?_
  refine cf_calli (wc := [(h0, .inr (0, fs))]) (wr := [(h1, .inr (1, gs)), (h2, .inl (K 2, 1600, .inl (fun _ => 0))), (h3, .inr (2, ns)), (h4, .inr (11, ks)), (h5, .inr (11, js)), (h6, .inr (12, ms)), (h7, .inl (K 0, 1600, .inl (fun _ => 0))), (o, .inl (K 1, 1, .inr (.inl (fun _ => 0))))]) (cf_runSW (n := 2) (As := [.ref h0, .ref o]) (rest := []) ⟨hx, hb, hml, hown, hts⟩ (xL_balance l hl9 D K _ h0 fs o hfs_hasNetlist) wv_1183 wv_1181 wv_1182 wv_156 rfl rfl (by decide +kernel) ⟨Nat.le_of_ble_eq_true rfl, Nat.le_of_ble_eq_true rfl⟩ (cf_preS (wc := [(h0, .inr (0, fs))]) hE hP hD hS hA [0] rfl (by decide +kernel)) rfl rfl hl.1 rfl (lv_room (Nat.le_of_ble_eq_true rfl)) dL_law_535 ⟨Nat.le_of_ble_eq_true rfl, Nat.le_of_ble_eq_true rfl⟩) hP hD hS hA [0] [1, 2, 3, 4, 5, 6, 7, 8] rfl rfl (by decide +kernel) (by decide +kernel) (fun r_1 _ H locs hw_2 hP hD hS => ?_)
  have hP : va_P D vwCl [(h1, .inr (1, gs)), (h2, .inl (K 2, 1600, .inl (fun _ => 0))), (h3, .inr (2, ns)), (h4, .inr (11, ks)), (h5, .inr (11, js)), (h6, .inr (12, ms)), (h7, .inl (K 0, 1600, .inl (fun _ => 0))), (o, .inl (K 1, 1, .inr (.inl (fun _ => 0)))), (h0, .inr (0, fs))] H := hP
  have hD : va_D A [(h1, .inr (1, gs)), (h2, .inl (K 2, 1600, .inl (fun _ => 0))), (h3, .inr (2, ns)), (h4, .inr (11, ks)), (h5, .inr (11, js)), (h6, .inr (12, ms)), (h7, .inl (K 0, 1600, .inl (fun _ => 0))), (o, .inl (K 1, 1, .inr (.inl (fun _ => 0)))), (h0, .inr (0, fs))] := hD
  refine W.widen (k := 201) (n := 600006) (Nat.le_of_ble_eq_true rfl) (Nat.le_of_ble_eq_true rfl) ?_
  subst hw_2
  refine lv_istore (lv' := [(5, .int 1), (4, .int 0), (0, .ref b), (1, .ref h0), (2, .ref h6), (3, .ref o)]) hx hb dL_law_538 hl (by decide) rfl (fun ls hl => ?_)
  refine lv_aload_n hx hb dL_law_540 rfl (lv_at hl 4 rfl) ?_
  refine cf_calli (wc := [(h6, .inr (12, ms))]) (wr := [(h1, .inr (1, gs)), (h2, .inl (K 2, 1600, .inl (fun _ => 0))), (h3, .inr (2, ns)), (h4, .inr (11, ks)), (h5, .inr (11, js)), (h7, .inl (K 0, 1600, .inl (fun _ => 0))), (o, .inl (K 1, 1, .inr (.inl (fun _ => 0)))), (h0, .inr (0, fs))]) (va_runV (As := []) (rest := []) ⟨hx, hb, hml, hown, hts⟩ (xM_balance l D K _ h6 ms hmsl hms_hasNetlist) (cwV 0 hts (cf_GV wv_2428 wv_2429 wv_2430 wv_173 wv_2431) rfl rfl rfl (by decide +kernel) ⟨Nat.le_of_ble_eq_true rfl, Nat.le_of_ble_eq_true rfl⟩) (cf_preV (wc := [(h6, .inr (12, ms))]) hE hP hD hS hA rfl 5 rfl [5] rfl (by decide +kernel)) rfl rfl hl.1 rfl (lv_room (Nat.le_of_ble_eq_true rfl)) dL_law_541 ⟨Nat.le_of_ble_eq_true rfl, Nat.le_of_ble_eq_true rfl⟩) hP hD hS hA [5] [0, 1, 2, 3, 4, 6, 7, 8] rfl rfl (by decide +kernel) (by decide +kernel) (fun r_3 _ H locs hw_4 hP hD hS => ?_)
  have hP : va_P D vwCl [(h1, .inr (1, gs)), (h2, .inl (K 2, 1600, .inl (fun _ => 0))), (h3, .inr (2, ns)), (h4, .inr (11, ks)), (h5, .inr (11, js)), (h7, .inl (K 0, 1600, .inl (fun _ => 0))), (o, .inl (K 1, 1, .inr (.inl (fun _ => 0)))), (h0, .inr (0, fs)), (h6, .inr (12, (ms.set 0 (.int 1))))] H := hP
  have hD : va_D A [(h1, .inr (1, gs)), (h2, .inl (K 2, 1600, .inl (fun _ => 0))), (h3, .inr (2, ns)), (h4, .inr (11, ks)), (h5, .inr (11, js)), (h7, .inl (K 0, 1600, .inl (fun _ => 0))), (o, .inl (K 1, 1, .inr (.inl (fun _ => 0)))), (h0, .inr (0, fs)), (h6, .inr (12, (ms.set 0 (.int 1))))] := hD
  refine lv_istore (lv' := [(6, .int r_3), (5, .int 1), (4, .int 0), (0, .ref b), (1, .ref h0), (2, .ref h6), (3, .ref o)]) hx hb dL_law_544 hl (by decide) rfl (fun ls hl => ?_)
  refine lv_aload_n hx hb dL_law_546 rfl (lv_at hl 5 rfl) ?_
  refine cf_calli (wc := [(h6, .inr (12, (ms.set 0 (.int 1))))]) (wr := [(h1, .inr (1, gs)), (h2, .inl (K 2, 1600, .inl (fun _ => 0))), (h3, .inr (2, ns)), (h4, .inr (11, ks)), (h5, .inr (11, js)), (h7, .inl (K 0, 1600, .inl (fun _ => 0))), (o, .inl (K 1, 1, .inr (.inl (fun _ => 0)))), (h0, .inr (0, fs))]) (va_runV (As := []) (rest := []) ⟨hx, hb, hml, hown, hts⟩ (kM_thrown l D K _ h6 (ms.set 0 (.int 1)) 1 (List.getElem?_set_self (show 0 < ms.length by rw [hmsl]; decide))) (cwV 0 hts (cf_GV wv_2280 wv_2281 wv_2282 wv_173 wv_2283) rfl rfl rfl (by decide +kernel) ⟨Nat.le_of_ble_eq_true rfl, Nat.le_of_ble_eq_true rfl⟩) (cf_preV (wc := [(h6, .inr (12, (ms.set 0 (.int 1))))]) hE hP hD hS hA rfl 8 rfl [8] rfl (by decide +kernel)) rfl rfl hl.1 rfl (lv_room (Nat.le_of_ble_eq_true rfl)) dL_law_547 ⟨Nat.le_of_ble_eq_true rfl, Nat.le_of_ble_eq_true rfl⟩) hP hD hS hA [8] [0, 1, 2, 3, 4, 5, 6, 7] rfl rfl (by decide +kernel) (by decide +kernel) (fun r_5 _ H locs hw_6 hP hD hS => ?_)
  have hP : va_P D vwCl [(h1, .inr (1, gs)), (h2, .inl (K 2, 1600, .inl (fun _ => 0))), (h3, .inr (2, ns)), (h4, .inr (11, ks)), (h5, .inr (11, js)), (h7, .inl (K 0, 1600, .inl (fun _ => 0))), (o, .inl (K 1, 1, .inr (.inl (fun _ => 0)))), (h0, .inr (0, fs)), (h6, .inr (12, (ms.set 0 (.int 1))))] H := hP
  have hD : va_D A [(h1, .inr (1, gs)), (h2, .inl (K 2, 1600, .inl (fun _ => 0))), (h3, .inr (2, ns)), (h4, .inr (11, ks)), (h5, .inr (11, js)), (h7, .inl (K 0, 1600, .inl (fun _ => 0))), (o, .inl (K 1, 1, .inr (.inl (fun _ => 0)))), (h0, .inr (0, fs)), (h6, .inr (12, (ms.set 0 (.int 1))))] := hD
  subst hw_6
  refine lv_iload hx hb dL_law_550 (lv_at hl 1 rfl) ?_
  refine lv_icmp_eq (tgt := 557) hx hb dL_law_552 (by decide) (fun _ => ?_) (fun c_7 => absurd (by decide) c_7)
  refine lv_iload hx hb dL_law_557 (lv_at hl 1 rfl) ?_
  refine lv_if_ne (tgt := 574) hx hb dL_law_559 (by decide) (fun _ => ?_) (fun c_8 => absurd c_8 (by decide))
  refine lv_goto (tgt := 1386) hx hb dL_law_574 (by decide) ?_
  refine W.widen (k := 300) (n := 600100) (Nat.le_of_ble_eq_true rfl) (Nat.le_of_ble_eq_true rfl) ?_
  exact kk _ _ _ hS (lv_sub hl [2, 3] rfl)
set_option maxHeartbeats 4000000 in
set_option maxRecDepth 100000 in
/-- the law, case 9 -/
theorem lc_9 {p : Program} {e : Env} {s : State} {m : MethodId} {below : List Frame} {meth : Method} {c : Code} {l : Launch} {D : va_G} {K : Nat → ClassId} {b : Nat} {xs : Nat → Int32} {A : Nat → Prop} {Q : State → Prop} (C : lc_C p l s m c b xs A D K) {h0 : Nat} {fs : List Value} {h1 : Nat} {gs : List Value} {h2 : Nat} {h3 : Nat} {ns : List Value} {h4 : Nat} {ks : List Value} {h5 : Nat} {js : List Value} {h6 : Nat} {ms : List Value} {h7 : Nat} {o : Nat} (hfsl : fs.length = 19) (hfs_text : fs[0]? = some (.ref h1)) (hfs_spareNetlist : fs[10]? = some (.ref h3)) (hfs_kit : fs[13]? = some (.ref h4)) (hfs_spareKit : fs[14]? = some (.ref h5)) (hfs_faultLine : fs[15]? = some (.int (-1))) (hfs_hasNetlist : fs[16]? = some (.int 0)) (hfs_hasCover : fs[17]? = some (.int 0)) (hfs_hasMapping : fs[18]? = some (.int 0)) (hgsl : gs.length = 7) (hgs_signs : gs[0]? = some (.ref h2)) (hgs_size : gs[3]? = some (.int 0)) (hnsl : ns.length = 17) (hksl : ks.length = 12) (hks_cells : ks[0]? = some (.int 0)) (hjsl : js.length = 12) (hmsl : ms.length = 99) (hms_thrown : ms[0]? = some (.int 0)) (hms_signs : ms[1]? = some (.ref h7)) (hms_size : ms[2]? = some (.int 0)) (hms_faultLine : ms[3]? = some (.int (-1))) (hms_line : ms[6]? = some (.int 0)) (hms_hasNetlist : ms[38]? = some (.int 0)) (hms_hasCover : ms[64]? = some (.int 0)) (hms_hasLibrary : ms[78]? = some (.int 0)) (hms_isMapped : ms[85]? = some (.int 0))
    (kk : ∀ (H : Heap) (locs : List Loc) (ls : Array Slot), va_S A s.heap H locs → lv_has ls 7 [(4, .int 0), (0, .ref b)] → W p l e room_1 s m #[Value.ref b] below meth c H locs 300 600100 Q (F0 m 1386 ls []))
    {H : Heap} {locs : List Loc} {ls : Array Slot} (hP : va_P D vwCl [(h0, .inr (0, fs)), (h1, .inr (1, gs)), (h2, .inl (K 2, 1600, .inl (fun _ => 0))), (h3, .inr (2, ns)), (h4, .inr (11, ks)), (h5, .inr (11, js)), (h6, .inr (12, ms)), (h7, .inl (K 0, 1600, .inl (fun _ => 0))), (o, .inl (K 1, 1, .inr (.inl (fun _ => 0))))] H) (hD : va_D A [(h0, .inr (0, fs)), (h1, .inr (1, gs)), (h2, .inl (K 2, 1600, .inl (fun _ => 0))), (h3, .inr (2, ns)), (h4, .inr (11, ks)), (h5, .inr (11, js)), (h6, .inr (12, ms)), (h7, .inl (K 0, 1600, .inl (fun _ => 0))), (o, .inl (K 1, 1, .inr (.inl (fun _ => 0))))]) (hS : va_S A s.heap H locs) (hl : lv_has ls 7 [(4, .int 0), (0, .ref b), (1, .ref h0), (2, .ref h6), (3, .ref o)]) : W p l e room_1 s m #[Value.ref b] below meth c H locs 200 600000 Q (F0 m 577 ls []) := by
  obtain ⟨hl9, hx, hb, hml, hown, hts, hE, hA, hX, hbl, hbA⟩ := C
  have hK := hE.k
  refine lv_aload_n hx hb dL_law_577 rfl (lv_at hl 2 rfl) ?_
  refine lv_aload_n hx hb dL_law_578 rfl (lv_at hl 4 rfl) ?_
  refine cf_calli (wc := [(h0, .inr (0, fs))]) (wr := [(h1, .inr (1, gs)), (h2, .inl (K 2, 1600, .inl (fun _ => 0))), (h3, .inr (2, ns)), (h4, .inr (11, ks)), (h5, .inr (11, js)), (h6, .inr (12, ms)), (h7, .inl (K 0, 1600, .inl (fun _ => 0))), (o, .inl (K 1, 1, .inr (.inl (fun _ => 0))))]) (cf_runSW (n := 2) (As := [.ref h0, .ref o]) (rest := []) ⟨hx, hb, hml, hown, hts⟩ (xL_reduce l hl9 D K _ h0 fs o hfs_hasNetlist) wv_1234 wv_1232 wv_1233 wv_156 rfl rfl (by decide +kernel) ⟨Nat.le_of_ble_eq_true rfl, Nat.le_of_ble_eq_true rfl⟩ (cf_preS (wc := [(h0, .inr (0, fs))]) hE hP hD hS hA [0] rfl (by decide +kernel)) rfl rfl hl.1 rfl (lv_room (Nat.le_of_ble_eq_true rfl)) dL_law_579 ⟨Nat.le_of_ble_eq_true rfl, Nat.le_of_ble_eq_true rfl⟩) hP hD hS hA [0] [1, 2, 3, 4, 5, 6, 7, 8] rfl rfl (by decide +kernel) (by decide +kernel) (fun r_1 _ H locs hw_2 hP hD hS => ?_)
  have hP : va_P D vwCl [(h1, .inr (1, gs)), (h2, .inl (K 2, 1600, .inl (fun _ => 0))), (h3, .inr (2, ns)), (h4, .inr (11, ks)), (h5, .inr (11, js)), (h6, .inr (12, ms)), (h7, .inl (K 0, 1600, .inl (fun _ => 0))), (o, .inl (K 1, 1, .inr (.inl (fun _ => 0)))), (h0, .inr (0, fs))] H := hP
  have hD : va_D A [(h1, .inr (1, gs)), (h2, .inl (K 2, 1600, .inl (fun _ => 0))), (h3, .inr (2, ns)), (h4, .inr (11, ks)), (h5, .inr (11, js)), (h6, .inr (12, ms)), (h7, .inl (K 0, 1600, .inl (fun _ => 0))), (o, .inl (K 1, 1, .inr (.inl (fun _ => 0)))), (h0, .inr (0, fs))] := hD
  refine W.widen (k := 201) (n := 600006) (Nat.le_of_ble_eq_true rfl) (Nat.le_of_ble_eq_true rfl) ?_
  subst hw_2
  refine lv_istore (lv' := [(5, .int 1), (4, .int 0), (0, .ref b), (1, .ref h0), (2, .ref h6), (3, .ref o)]) hx hb dL_law_582 hl (by decide) rfl (fun ls hl => ?_)
  refine lv_aload_n hx hb dL_law_584 rfl (lv_at hl 4 rfl) ?_
  refine cf_calli (wc := [(h6, .inr (12, ms))]) (wr := [(h1, .inr (1, gs)), (h2, .inl (K 2, 1600, .inl (fun _ => 0))), (h3, .inr (2, ns)), (h4, .inr (11, ks)), (h5, .inr (11, js)), (h7, .inl (K 0, 1600, .inl (fun _ => 0))), (o, .inl (K 1, 1, .inr (.inl (fun _ => 0)))), (h0, .inr (0, fs))]) (va_runV (As := []) (rest := []) ⟨hx, hb, hml, hown, hts⟩ (xM_reduce l D K _ h6 ms hmsl hms_hasNetlist) (cwV 0 hts (cf_GV wv_2456 wv_2457 wv_2458 wv_173 wv_2459) rfl rfl rfl (by decide +kernel) ⟨Nat.le_of_ble_eq_true rfl, Nat.le_of_ble_eq_true rfl⟩) (cf_preV (wc := [(h6, .inr (12, ms))]) hE hP hD hS hA rfl 5 rfl [5] rfl (by decide +kernel)) rfl rfl hl.1 rfl (lv_room (Nat.le_of_ble_eq_true rfl)) dL_law_585 ⟨Nat.le_of_ble_eq_true rfl, Nat.le_of_ble_eq_true rfl⟩) hP hD hS hA [5] [0, 1, 2, 3, 4, 6, 7, 8] rfl rfl (by decide +kernel) (by decide +kernel) (fun r_3 _ H locs hw_4 hP hD hS => ?_)
  have hP : va_P D vwCl [(h1, .inr (1, gs)), (h2, .inl (K 2, 1600, .inl (fun _ => 0))), (h3, .inr (2, ns)), (h4, .inr (11, ks)), (h5, .inr (11, js)), (h7, .inl (K 0, 1600, .inl (fun _ => 0))), (o, .inl (K 1, 1, .inr (.inl (fun _ => 0)))), (h0, .inr (0, fs)), (h6, .inr (12, (ms.set 0 (.int 1))))] H := hP
  have hD : va_D A [(h1, .inr (1, gs)), (h2, .inl (K 2, 1600, .inl (fun _ => 0))), (h3, .inr (2, ns)), (h4, .inr (11, ks)), (h5, .inr (11, js)), (h7, .inl (K 0, 1600, .inl (fun _ => 0))), (o, .inl (K 1, 1, .inr (.inl (fun _ => 0)))), (h0, .inr (0, fs)), (h6, .inr (12, (ms.set 0 (.int 1))))] := hD
  refine lv_istore (lv' := [(6, .int r_3), (5, .int 1), (4, .int 0), (0, .ref b), (1, .ref h0), (2, .ref h6), (3, .ref o)]) hx hb dL_law_588 hl (by decide) rfl (fun ls hl => ?_)
  refine lv_aload_n hx hb dL_law_590 rfl (lv_at hl 5 rfl) ?_
  refine cf_calli (wc := [(h6, .inr (12, (ms.set 0 (.int 1))))]) (wr := [(h1, .inr (1, gs)), (h2, .inl (K 2, 1600, .inl (fun _ => 0))), (h3, .inr (2, ns)), (h4, .inr (11, ks)), (h5, .inr (11, js)), (h7, .inl (K 0, 1600, .inl (fun _ => 0))), (o, .inl (K 1, 1, .inr (.inl (fun _ => 0)))), (h0, .inr (0, fs))]) (va_runV (As := []) (rest := []) ⟨hx, hb, hml, hown, hts⟩ (kM_thrown l D K _ h6 (ms.set 0 (.int 1)) 1 (List.getElem?_set_self (show 0 < ms.length by rw [hmsl]; decide))) (cwV 0 hts (cf_GV wv_2280 wv_2281 wv_2282 wv_173 wv_2283) rfl rfl rfl (by decide +kernel) ⟨Nat.le_of_ble_eq_true rfl, Nat.le_of_ble_eq_true rfl⟩) (cf_preV (wc := [(h6, .inr (12, (ms.set 0 (.int 1))))]) hE hP hD hS hA rfl 8 rfl [8] rfl (by decide +kernel)) rfl rfl hl.1 rfl (lv_room (Nat.le_of_ble_eq_true rfl)) dL_law_591 ⟨Nat.le_of_ble_eq_true rfl, Nat.le_of_ble_eq_true rfl⟩) hP hD hS hA [8] [0, 1, 2, 3, 4, 5, 6, 7] rfl rfl (by decide +kernel) (by decide +kernel) (fun r_5 _ H locs hw_6 hP hD hS => ?_)
  have hP : va_P D vwCl [(h1, .inr (1, gs)), (h2, .inl (K 2, 1600, .inl (fun _ => 0))), (h3, .inr (2, ns)), (h4, .inr (11, ks)), (h5, .inr (11, js)), (h7, .inl (K 0, 1600, .inl (fun _ => 0))), (o, .inl (K 1, 1, .inr (.inl (fun _ => 0)))), (h0, .inr (0, fs)), (h6, .inr (12, (ms.set 0 (.int 1))))] H := hP
  have hD : va_D A [(h1, .inr (1, gs)), (h2, .inl (K 2, 1600, .inl (fun _ => 0))), (h3, .inr (2, ns)), (h4, .inr (11, ks)), (h5, .inr (11, js)), (h7, .inl (K 0, 1600, .inl (fun _ => 0))), (o, .inl (K 1, 1, .inr (.inl (fun _ => 0)))), (h0, .inr (0, fs)), (h6, .inr (12, (ms.set 0 (.int 1))))] := hD
  subst hw_6
  refine lv_iload hx hb dL_law_594 (lv_at hl 1 rfl) ?_
  refine lv_icmp_eq (tgt := 601) hx hb dL_law_596 (by decide) (fun _ => ?_) (fun c_7 => absurd (by decide) c_7)
  refine lv_iload hx hb dL_law_601 (lv_at hl 1 rfl) ?_
  refine lv_if_ne (tgt := 618) hx hb dL_law_603 (by decide) (fun _ => ?_) (fun c_8 => absurd c_8 (by decide))
  refine lv_goto (tgt := 1386) hx hb dL_law_618 (by decide) ?_
  refine W.widen (k := 300) (n := 600100) (Nat.le_of_ble_eq_true rfl) (Nat.le_of_ble_eq_true rfl) ?_
  exact kk _ _ _ hS (lv_sub hl [2, 3] rfl)
