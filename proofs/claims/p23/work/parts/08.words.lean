theorem rf_I {σ σ1 : St} {a j b k : Nat} {v : Int32} {o : Option Nat} (e : σ1 = setI σ a j v) (h : sP σ b k = o) : sP σ1 b k = o := by subst e; exact h
theorem rf_L {σ σ1 : St} {a j b k : Nat} {v : Int64} {o : Option Nat} (e : σ1 = setL σ a j v) (h : sP σ b k = o) : sP σ1 b k = o := by subst e; exact h
theorem isA_O {σ : St} {k a : Nat} (h : isO σ k a = true) : isA σ k a = true := by
  obtain ⟨h1, h2, h3⟩ := isO_spec h
  simp [isA, h2, h3]
theorem tab_out (x : Int32) (lo hi : Int) (_ : lo ≤ hi) (h : ∀ k : Int, lo ≤ k → k ≤ hi → x.toInt ≠ k) : x.toInt < lo ∨ hi < x.toInt := by
  by_cases h1 : x.toInt < lo
  · exact Or.inl h1
  · by_cases h2 : hi < x.toInt
    · exact Or.inr h2
    · exact absurd rfl (h x.toInt (by omega) (by omega))
theorem tp_318 : Cond.fieldLink RX5 15 "OnceProver$Reader" "fault" "I" ∈ gtbl := g_of (List.mem_of_getElem? (i := 318) (by decide +kernel)) rfl
theorem fl_X5_15 : FL RX5 15 5 3 := ⟨kf5, by decide, tp_318⟩
theorem tp_317 : Cond.fieldLink RX5 9 "OnceProver$Reader" "place" "I" ∈ gtbl := g_of (List.mem_of_getElem? (i := 317) (by decide +kernel)) rfl
theorem fl_X5_9 : FL RX5 9 5 2 := ⟨kf5, by decide, tp_317⟩
theorem tp_315 : Cond.fieldLink RX5 18 "OnceProver$Reader" "signs" "[C" ∈ gtbl := g_of (List.mem_of_getElem? (i := 315) (by decide +kernel)) rfl
theorem fl_X5_18 : FL RX5 18 5 0 := ⟨kf5, by decide, tp_315⟩
theorem tp_114 : Cond.fieldLink RX3 28 "OnceProver$Plan" "nodes" "I" ∈ gtbl := g_of (List.mem_of_getElem? (i := 114) (by decide +kernel)) rfl
theorem fl_X3_28 : FL RX3 28 3 5 := ⟨kf3, by decide, tp_114⟩
theorem tp_109 : Cond.fieldLink RX3 9 "OnceProver$Plan" "kinds" "[C" ∈ gtbl := g_of (List.mem_of_getElem? (i := 109) (by decide +kernel)) rfl
theorem fl_X3_9 : FL RX3 9 3 0 := ⟨kf3, by decide, tp_109⟩
theorem tp_110 : Cond.fieldLink RX3 15 "OnceProver$Plan" "firsts" "[I" ∈ gtbl := g_of (List.mem_of_getElem? (i := 110) (by decide +kernel)) rfl
theorem fl_X3_15 : FL RX3 15 3 1 := ⟨kf3, by decide, tp_110⟩
theorem tp_111 : Cond.fieldLink RX3 19 "OnceProver$Plan" "seconds" "[I" ∈ gtbl := g_of (List.mem_of_getElem? (i := 111) (by decide +kernel)) rfl
theorem fl_X3_19 : FL RX3 19 3 2 := ⟨kf3, by decide, tp_111⟩
theorem tp_340 : Cond.methodLink RX5 37 yX5_next ∈ gtbl := g_of (List.mem_of_getElem? (i := 340) (by decide +kernel)) rfl
set_option maxRecDepth 100000 in
theorem tp_343 : Cond.code M_X5_next.1 M_X5_next.2.1 M_X5_next.2.2.1 M_X5_next.2.2.2 ∈ gtbl := g_of (List.mem_of_getElem? (i := 343) rfl) rfl
theorem tp_64 : Cond.initialized RX5 ∈ gtbl := g_of (List.mem_of_getElem? (i := 64) (by decide +kernel)) rfl
theorem cb_X5_next : CalB M_X5_next 0 := ⟨tp_343, tp_64, ⟨by decide +kernel, by decide +kernel, by decide +kernel⟩, by decide⟩
theorem tp_342 : Cond.instanceMethod yX5_next ∈ gtbl := g_of (List.mem_of_getElem? (i := 342) (by decide +kernel)) rfl
theorem tp_3 : Cond.selects yX5_next.cls yX5_next yX5_next ∈ gtbl := g_of (List.mem_of_getElem? (i := 3) (by decide +kernel)) rfl
theorem tp_347 : Cond.methodLink RX5 41 yX5_refuse ∈ gtbl := g_of (List.mem_of_getElem? (i := 347) (by decide +kernel)) rfl
set_option maxRecDepth 100000 in
theorem tp_350 : Cond.code M_X5_refuse.1 M_X5_refuse.2.1 M_X5_refuse.2.2.1 M_X5_refuse.2.2.2 ∈ gtbl := g_of (List.mem_of_getElem? (i := 350) rfl) rfl
theorem cb_X5_refuse : CalB M_X5_refuse 0 := ⟨tp_350, tp_64, ⟨by decide +kernel, by decide +kernel, by decide +kernel⟩, by decide⟩
theorem tp_349 : Cond.instanceMethod yX5_refuse ∈ gtbl := g_of (List.mem_of_getElem? (i := 349) (by decide +kernel)) rfl
theorem tp_4 : Cond.selects yX5_refuse.cls yX5_refuse yX5_refuse ∈ gtbl := g_of (List.mem_of_getElem? (i := 4) (by decide +kernel)) rfl
theorem tp_351 : Cond.methodLink RX5 26 yX5_readGoal ∈ gtbl := g_of (List.mem_of_getElem? (i := 351) (by decide +kernel)) rfl
set_option maxRecDepth 100000 in
theorem tp_354 : Cond.code M_X5_readGoal.1 M_X5_readGoal.2.1 M_X5_readGoal.2.2.1 M_X5_readGoal.2.2.2 ∈ gtbl := g_of (List.mem_of_getElem? (i := 354) rfl) rfl
theorem cb_X5_readGoal : CalB M_X5_readGoal 1 := ⟨tp_354, tp_64, ⟨by decide +kernel, by decide +kernel, by decide +kernel⟩, by decide⟩
theorem tp_353 : Cond.instanceMethod yX5_readGoal ∈ gtbl := g_of (List.mem_of_getElem? (i := 353) (by decide +kernel)) rfl
theorem tp_5 : Cond.selects yX5_readGoal.cls yX5_readGoal yX5_readGoal ∈ gtbl := g_of (List.mem_of_getElem? (i := 5) (by decide +kernel)) rfl
theorem tp_363 : Cond.methodLink RX5 61 yX5_expect ∈ gtbl := g_of (List.mem_of_getElem? (i := 363) (by decide +kernel)) rfl
set_option maxRecDepth 100000 in
theorem tp_366 : Cond.code M_X5_expect.1 M_X5_expect.2.1 M_X5_expect.2.2.1 M_X5_expect.2.2.2 ∈ gtbl := g_of (List.mem_of_getElem? (i := 366) rfl) rfl
theorem cb_X5_expect : CalB M_X5_expect 1 := ⟨tp_366, tp_64, ⟨by decide +kernel, by decide +kernel, by decide +kernel⟩, by decide⟩
theorem tp_365 : Cond.instanceMethod yX5_expect ∈ gtbl := g_of (List.mem_of_getElem? (i := 365) (by decide +kernel)) rfl
theorem tp_7 : Cond.selects yX5_expect.cls yX5_expect yX5_expect ∈ gtbl := g_of (List.mem_of_getElem? (i := 7) (by decide +kernel)) rfl
theorem tp_316 : Cond.fieldLink RX5 22 "OnceProver$Reader" "plan" "LOnceProver$Plan;" ∈ gtbl := g_of (List.mem_of_getElem? (i := 316) (by decide +kernel)) rfl
theorem fl_X5_22 : FL RX5 22 5 1 := ⟨kf5, by decide, tp_316⟩
theorem tp_355 : Cond.methodLink RX5 49 yX3_addNode ∈ gtbl := g_of (List.mem_of_getElem? (i := 355) (by decide +kernel)) rfl
set_option maxRecDepth 100000 in
theorem tp_358 : Cond.code M_X3_addNode.1 M_X3_addNode.2.1 M_X3_addNode.2.2.1 M_X3_addNode.2.2.2 ∈ gtbl := g_of (List.mem_of_getElem? (i := 358) rfl) rfl
theorem tp_58 : Cond.initialized RX3 ∈ gtbl := g_of (List.mem_of_getElem? (i := 58) (by decide +kernel)) rfl
theorem cb_X3_addNode : CalB M_X3_addNode 3 := ⟨tp_358, tp_58, ⟨by decide +kernel, by decide +kernel, by decide +kernel⟩, by decide⟩
theorem tp_356 : Cond.instanceMethod yX3_addNode ∈ gtbl := g_of (List.mem_of_getElem? (i := 356) (by decide +kernel)) rfl
theorem tp_357 : Cond.selects yX3_addNode.cls yX3_addNode yX3_addNode ∈ gtbl := g_of (List.mem_of_getElem? (i := 357) (by decide +kernel)) rfl
theorem tp_115 : Cond.fieldLink RX3 32 "OnceProver$Plan" "loans" "I" ∈ gtbl := g_of (List.mem_of_getElem? (i := 115) (by decide +kernel)) rfl
theorem fl_X3_32 : FL RX3 32 3 6 := ⟨kf3, by decide, tp_115⟩
theorem tp_379 : Cond.methodLink RX3 66 yX3_isFace ∈ gtbl := g_of (List.mem_of_getElem? (i := 379) (by decide +kernel)) rfl
set_option maxRecDepth 100000 in
theorem tp_381 : Cond.code M_X3_isFace.1 M_X3_isFace.2.1 M_X3_isFace.2.2.1 M_X3_isFace.2.2.2 ∈ gtbl := g_of (List.mem_of_getElem? (i := 381) rfl) rfl
theorem cb_X3_isFace : CalB M_X3_isFace 2 := ⟨tp_381, tp_58, ⟨by decide +kernel, by decide +kernel, by decide +kernel⟩, by decide⟩
theorem tp_380 : Cond.static yX3_isFace ∈ gtbl := g_of (List.mem_of_getElem? (i := 380) (by decide +kernel)) rfl
theorem tp_112 : Cond.fieldLink RX3 22 "OnceProver$Plan" "heads" "[C" ∈ gtbl := g_of (List.mem_of_getElem? (i := 112) (by decide +kernel)) rfl
theorem fl_X3_22 : FL RX3 22 3 3 := ⟨kf3, by decide, tp_112⟩
theorem tp_113 : Cond.fieldLink RX3 25 "OnceProver$Plan" "bodies" "[I" ∈ gtbl := g_of (List.mem_of_getElem? (i := 113) (by decide +kernel)) rfl
theorem fl_X3_25 : FL RX3 25 3 4 := ⟨kf3, by decide, tp_113⟩
theorem tp_375 : Cond.methodLink RX5 72 yX3_setFace ∈ gtbl := g_of (List.mem_of_getElem? (i := 375) (by decide +kernel)) rfl
set_option maxRecDepth 100000 in
theorem tp_378 : Cond.code M_X3_setFace.1 M_X3_setFace.2.1 M_X3_setFace.2.2.1 M_X3_setFace.2.2.2 ∈ gtbl := g_of (List.mem_of_getElem? (i := 378) rfl) rfl
theorem cb_X3_setFace : CalB M_X3_setFace 4 := ⟨tp_378, tp_58, ⟨by decide +kernel, by decide +kernel, by decide +kernel⟩, by decide⟩
theorem tp_376 : Cond.instanceMethod yX3_setFace ∈ gtbl := g_of (List.mem_of_getElem? (i := 376) (by decide +kernel)) rfl
theorem tp_377 : Cond.selects yX3_setFace.cls yX3_setFace yX3_setFace ∈ gtbl := g_of (List.mem_of_getElem? (i := 377) (by decide +kernel)) rfl
theorem tp_344 : Cond.methodLink RX5 45 yX5_isAtom ∈ gtbl := g_of (List.mem_of_getElem? (i := 344) (by decide +kernel)) rfl
set_option maxRecDepth 100000 in
theorem tp_346 : Cond.code M_X5_isAtom.1 M_X5_isAtom.2.1 M_X5_isAtom.2.2.1 M_X5_isAtom.2.2.2 ∈ gtbl := g_of (List.mem_of_getElem? (i := 346) rfl) rfl
theorem cb_X5_isAtom : CalB M_X5_isAtom 1 := ⟨tp_346, tp_64, ⟨by decide +kernel, by decide +kernel, by decide +kernel⟩, by decide⟩
theorem tp_345 : Cond.static yX5_isAtom ∈ gtbl := g_of (List.mem_of_getElem? (i := 345) (by decide +kernel)) rfl
theorem tp_336 : Cond.methodLink RX5 68 yX5_readFace ∈ gtbl := g_of (List.mem_of_getElem? (i := 336) (by decide +kernel)) rfl
set_option maxRecDepth 100000 in
theorem tp_339 : Cond.code M_X5_readFace.1 M_X5_readFace.2.1 M_X5_readFace.2.2.1 M_X5_readFace.2.2.2 ∈ gtbl := g_of (List.mem_of_getElem? (i := 339) rfl) rfl
theorem cb_X5_readFace : CalB M_X5_readFace 3 := ⟨tp_339, tp_64, ⟨by decide +kernel, by decide +kernel, by decide +kernel⟩, by decide⟩
theorem tp_338 : Cond.instanceMethod yX5_readFace ∈ gtbl := g_of (List.mem_of_getElem? (i := 338) (by decide +kernel)) rfl
theorem tp_2 : Cond.selects yX5_readFace.cls yX5_readFace yX5_readFace ∈ gtbl := g_of (List.mem_of_getElem? (i := 2) (by decide +kernel)) rfl
theorem tp_371 : Cond.methodLink RX5 65 yX3_addLoan ∈ gtbl := g_of (List.mem_of_getElem? (i := 371) (by decide +kernel)) rfl
set_option maxRecDepth 100000 in
theorem tp_374 : Cond.code M_X3_addLoan.1 M_X3_addLoan.2.1 M_X3_addLoan.2.2.1 M_X3_addLoan.2.2.2 ∈ gtbl := g_of (List.mem_of_getElem? (i := 374) rfl) rfl
theorem cb_X3_addLoan : CalB M_X3_addLoan 0 := ⟨tp_374, tp_58, ⟨by decide +kernel, by decide +kernel, by decide +kernel⟩, by decide⟩
theorem tp_372 : Cond.instanceMethod yX3_addLoan ∈ gtbl := g_of (List.mem_of_getElem? (i := 372) (by decide +kernel)) rfl
theorem tp_373 : Cond.selects yX3_addLoan.cls yX3_addLoan yX3_addLoan ∈ gtbl := g_of (List.mem_of_getElem? (i := 373) (by decide +kernel)) rfl
theorem tp_332 : Cond.methodLink RX5 33 yX5_readOffer ∈ gtbl := g_of (List.mem_of_getElem? (i := 332) (by decide +kernel)) rfl
set_option maxRecDepth 100000 in
theorem tp_335 : Cond.code M_X5_readOffer.1 M_X5_readOffer.2.1 M_X5_readOffer.2.2.1 M_X5_readOffer.2.2.2 ∈ gtbl := g_of (List.mem_of_getElem? (i := 335) rfl) rfl
theorem cb_X5_readOffer : CalB M_X5_readOffer 2 := ⟨tp_335, tp_64, ⟨by decide +kernel, by decide +kernel, by decide +kernel⟩, by decide⟩
theorem tp_334 : Cond.instanceMethod yX5_readOffer ∈ gtbl := g_of (List.mem_of_getElem? (i := 334) (by decide +kernel)) rfl
theorem tp_1 : Cond.selects yX5_readOffer.cls yX5_readOffer yX5_readOffer ∈ gtbl := g_of (List.mem_of_getElem? (i := 1) (by decide +kernel)) rfl
theorem tp_359 : Cond.methodLink RX5 55 yX5_readPair ∈ gtbl := g_of (List.mem_of_getElem? (i := 359) (by decide +kernel)) rfl
set_option maxRecDepth 100000 in
theorem tp_362 : Cond.code M_X5_readPair.1 M_X5_readPair.2.1 M_X5_readPair.2.2.1 M_X5_readPair.2.2.2 ∈ gtbl := g_of (List.mem_of_getElem? (i := 362) rfl) rfl
theorem cb_X5_readPair : CalB M_X5_readPair 1 := ⟨tp_362, tp_64, ⟨by decide +kernel, by decide +kernel, by decide +kernel⟩, by decide⟩
theorem tp_361 : Cond.instanceMethod yX5_readPair ∈ gtbl := g_of (List.mem_of_getElem? (i := 361) (by decide +kernel)) rfl
theorem tp_6 : Cond.selects yX5_readPair.cls yX5_readPair yX5_readPair ∈ gtbl := g_of (List.mem_of_getElem? (i := 6) (by decide +kernel)) rfl
theorem tp_367 : Cond.methodLink RX5 58 yX5_readLoan ∈ gtbl := g_of (List.mem_of_getElem? (i := 367) (by decide +kernel)) rfl
set_option maxRecDepth 100000 in
theorem tp_370 : Cond.code M_X5_readLoan.1 M_X5_readLoan.2.1 M_X5_readLoan.2.2.1 M_X5_readLoan.2.2.2 ∈ gtbl := g_of (List.mem_of_getElem? (i := 370) rfl) rfl
theorem cb_X5_readLoan : CalB M_X5_readLoan 1 := ⟨tp_370, tp_64, ⟨by decide +kernel, by decide +kernel, by decide +kernel⟩, by decide⟩
theorem tp_369 : Cond.instanceMethod yX5_readLoan ∈ gtbl := g_of (List.mem_of_getElem? (i := 369) (by decide +kernel)) rfl
theorem tp_8 : Cond.selects yX5_readLoan.cls yX5_readLoan yX5_readLoan ∈ gtbl := g_of (List.mem_of_getElem? (i := 8) (by decide +kernel)) rfl
theorem tp_536 : Cond.methodLink RX3 70 yX3_isNode ∈ gtbl := g_of (List.mem_of_getElem? (i := 536) (by decide +kernel)) rfl
set_option maxRecDepth 100000 in
theorem tp_539 : Cond.code M_X3_isNode.1 M_X3_isNode.2.1 M_X3_isNode.2.2.1 M_X3_isNode.2.2.2 ∈ gtbl := g_of (List.mem_of_getElem? (i := 539) rfl) rfl
theorem cb_X3_isNode : CalB M_X3_isNode 1 := ⟨tp_539, tp_58, ⟨by decide +kernel, by decide +kernel, by decide +kernel⟩, by decide⟩
theorem tp_538 : Cond.instanceMethod yX3_isNode ∈ gtbl := g_of (List.mem_of_getElem? (i := 538) (by decide +kernel)) rfl
theorem tp_19 : Cond.selects yX3_isNode.cls yX3_isNode yX3_isNode ∈ gtbl := g_of (List.mem_of_getElem? (i := 19) (by decide +kernel)) rfl
theorem tp_471 : Cond.constant RJ6 265 1431655765 ∈ gtbl := g_of (List.mem_of_getElem? (i := 471) (by decide +kernel)) rfl
theorem tp_472 : Cond.constant RJ6 266 858993459 ∈ gtbl := g_of (List.mem_of_getElem? (i := 472) (by decide +kernel)) rfl
theorem tp_473 : Cond.constant RJ6 267 252645135 ∈ gtbl := g_of (List.mem_of_getElem? (i := 473) (by decide +kernel)) rfl
theorem tp_468 : Cond.methodLink RX10 152 yJ6_bitCount_0f7a4 ∈ gtbl := g_of (List.mem_of_getElem? (i := 468) (by decide +kernel)) rfl
set_option maxRecDepth 100000 in
theorem tp_470 : Cond.code M_J6_bitCount_0f7a4.1 M_J6_bitCount_0f7a4.2.1 M_J6_bitCount_0f7a4.2.2.1 M_J6_bitCount_0f7a4.2.2.2 ∈ gtbl := g_of (List.mem_of_getElem? (i := 470) rfl) rfl
theorem tp_66 : Cond.initialized RJ6 ∈ gtbl := g_of (List.mem_of_getElem? (i := 66) (by decide +kernel)) rfl
theorem cb_J6_bitCount_0f7a4 : CalB M_J6_bitCount_0f7a4 1 := ⟨tp_470, tp_66, ⟨by decide +kernel, by decide +kernel, by decide +kernel⟩, by decide⟩
theorem tp_469 : Cond.static yJ6_bitCount_0f7a4 ∈ gtbl := g_of (List.mem_of_getElem? (i := 469) (by decide +kernel)) rfl
theorem tp_142 : Cond.fieldLink RX4 11 "OnceProver$Reach" "bits" "[J" ∈ gtbl := g_of (List.mem_of_getElem? (i := 142) (by decide +kernel)) rfl
theorem fl_X4_11 : FL RX4 11 4 1 := ⟨kf4, by decide, tp_142⟩
theorem tp_568 : Cond.methodLink RX4 113 yX4_wordAt ∈ gtbl := g_of (List.mem_of_getElem? (i := 568) (by decide +kernel)) rfl
set_option maxRecDepth 100000 in
theorem tp_571 : Cond.code M_X4_wordAt.1 M_X4_wordAt.2.1 M_X4_wordAt.2.2.1 M_X4_wordAt.2.2.2 ∈ gtbl := g_of (List.mem_of_getElem? (i := 571) rfl) rfl
theorem tp_59 : Cond.initialized RX4 ∈ gtbl := g_of (List.mem_of_getElem? (i := 59) (by decide +kernel)) rfl
theorem cb_X4_wordAt : CalB M_X4_wordAt 2 := ⟨tp_571, tp_59, ⟨by decide +kernel, by decide +kernel, by decide +kernel⟩, by decide⟩
theorem tp_570 : Cond.instanceMethod yX4_wordAt ∈ gtbl := g_of (List.mem_of_getElem? (i := 570) (by decide +kernel)) rfl
theorem tp_25 : Cond.selects yX4_wordAt.cls yX4_wordAt yX4_wordAt ∈ gtbl := g_of (List.mem_of_getElem? (i := 25) (by decide +kernel)) rfl
theorem tp_145 : Cond.fieldLink RX4 21 "OnceProver$Reach" "top" "I" ∈ gtbl := g_of (List.mem_of_getElem? (i := 145) (by decide +kernel)) rfl
theorem fl_X4_21 : FL RX4 21 4 4 := ⟨kf4, by decide, tp_145⟩
theorem tp_629 : Cond.methodLink RX4 46 Lib.Math.min.name ∈ gtbl := g_of (List.mem_of_getElem? (i := 629) (by decide +kernel)) rfl
theorem tp_300 : Cond.static Lib.Math.min.name ∈ gtbl := g_of (List.mem_of_getElem? (i := 300) (by decide +kernel)) rfl
theorem tp_65 : Cond.initialized "java/lang/Math" ∈ gtbl := g_of (List.mem_of_getElem? (i := 65) (by decide +kernel)) rfl
theorem tp_301 : Cond.code Lib.Math.min.name Lib.Math.min.code 2 (some .int) ∈ gtbl := g_of (List.mem_of_getElem? (i := 301) (by decide +kernel)) rfl
theorem tp_529 : Cond.methodLink RX4 52 yX4_rowOf ∈ gtbl := g_of (List.mem_of_getElem? (i := 529) (by decide +kernel)) rfl
set_option maxRecDepth 100000 in
theorem tp_531 : Cond.code M_X4_rowOf.1 M_X4_rowOf.2.1 M_X4_rowOf.2.2.1 M_X4_rowOf.2.2.2 ∈ gtbl := g_of (List.mem_of_getElem? (i := 531) rfl) rfl
theorem cb_X4_rowOf : CalB M_X4_rowOf 2 := ⟨tp_531, tp_59, ⟨by decide +kernel, by decide +kernel, by decide +kernel⟩, by decide⟩
theorem tp_530 : Cond.static yX4_rowOf ∈ gtbl := g_of (List.mem_of_getElem? (i := 530) (by decide +kernel)) rfl
theorem tp_564 : Cond.methodLink RX4 55 yX4_has ∈ gtbl := g_of (List.mem_of_getElem? (i := 564) (by decide +kernel)) rfl
set_option maxRecDepth 100000 in
theorem tp_567 : Cond.code M_X4_has.1 M_X4_has.2.1 M_X4_has.2.2.1 M_X4_has.2.2.2 ∈ gtbl := g_of (List.mem_of_getElem? (i := 567) rfl) rfl
theorem cb_X4_has : CalB M_X4_has 2 := ⟨tp_567, tp_59, ⟨by decide +kernel, by decide +kernel, by decide +kernel⟩, by decide⟩
theorem tp_566 : Cond.instanceMethod yX4_has ∈ gtbl := g_of (List.mem_of_getElem? (i := 566) (by decide +kernel)) rfl
theorem tp_24 : Cond.selects yX4_has.cls yX4_has yX4_has ∈ gtbl := g_of (List.mem_of_getElem? (i := 24) (by decide +kernel)) rfl
theorem tp_187 : Cond.fieldLink RX0 15 "OnceProver$FirstProof" "length" "I" ∈ gtbl := g_of (List.mem_of_getElem? (i := 187) (by decide +kernel)) rfl
theorem fl_X0_15 : FL RX0 15 0 3 := ⟨kf0, by decide, tp_187⟩
theorem tp_186 : Cond.fieldLink RX0 11 "OnceProver$FirstProof" "code" "[I" ∈ gtbl := g_of (List.mem_of_getElem? (i := 186) (by decide +kernel)) rfl
theorem fl_X0_11 : FL RX0 11 0 2 := ⟨kf0, by decide, tp_186⟩
theorem nl_X0_92 : Cond.methodLinkNest RX0 92 yX10_nextPart RX10 ∈ nests := by simp [nests]
set_option maxRecDepth 100000 in
theorem tp_678 : Cond.code M_X10_nextPart.1 M_X10_nextPart.2.1 M_X10_nextPart.2.2.1 M_X10_nextPart.2.2.2 ∈ gtbl := g_of (List.mem_of_getElem? (i := 678) rfl) rfl
theorem tp_55 : Cond.initialized RX10 ∈ gtbl := g_of (List.mem_of_getElem? (i := 55) (by decide +kernel)) rfl
theorem cb_X10_nextPart : CalB M_X10_nextPart 2 := ⟨tp_678, tp_55, ⟨by decide +kernel, by decide +kernel, by decide +kernel⟩, by decide⟩
theorem tp_677 : Cond.static yX10_nextPart ∈ gtbl := g_of (List.mem_of_getElem? (i := 677) (by decide +kernel)) rfl
theorem tp_185 : Cond.fieldLink RX0 30 "OnceProver$FirstProof" "reach" "LOnceProver$Reach;" ∈ gtbl := g_of (List.mem_of_getElem? (i := 185) (by decide +kernel)) rfl
theorem fl_X0_30 : FL RX0 30 0 1 := ⟨kf0, by decide, tp_185⟩
theorem tp_671 : Cond.methodLink RX0 84 yX4_proves ∈ gtbl := g_of (List.mem_of_getElem? (i := 671) (by decide +kernel)) rfl
set_option maxRecDepth 100000 in
theorem tp_628 : Cond.code M_X4_proves.1 M_X4_proves.2.1 M_X4_proves.2.2.1 M_X4_proves.2.2.2 ∈ gtbl := g_of (List.mem_of_getElem? (i := 628) rfl) rfl
theorem cb_X4_proves : CalB M_X4_proves 3 := ⟨tp_628, tp_59, ⟨by decide +kernel, by decide +kernel, by decide +kernel⟩, by decide⟩
theorem tp_626 : Cond.instanceMethod yX4_proves ∈ gtbl := g_of (List.mem_of_getElem? (i := 626) (by decide +kernel)) rfl
theorem tp_627 : Cond.selects yX4_proves.cls yX4_proves yX4_proves ∈ gtbl := g_of (List.mem_of_getElem? (i := 627) (by decide +kernel)) rfl
theorem tp_672 : Cond.methodLink RX0 88 yX0_append ∈ gtbl := g_of (List.mem_of_getElem? (i := 672) (by decide +kernel)) rfl
set_option maxRecDepth 100000 in
theorem tp_675 : Cond.code M_X0_append.1 M_X0_append.2.1 M_X0_append.2.2.1 M_X0_append.2.2.2 ∈ gtbl := g_of (List.mem_of_getElem? (i := 675) rfl) rfl
theorem tp_61 : Cond.initialized RX0 ∈ gtbl := g_of (List.mem_of_getElem? (i := 61) (by decide +kernel)) rfl
theorem cb_X0_append : CalB M_X0_append 1 := ⟨tp_675, tp_61, ⟨by decide +kernel, by decide +kernel, by decide +kernel⟩, by decide⟩
theorem tp_674 : Cond.instanceMethod yX0_append ∈ gtbl := g_of (List.mem_of_getElem? (i := 674) (by decide +kernel)) rfl
theorem tp_35 : Cond.selects yX0_append.cls yX0_append yX0_append ∈ gtbl := g_of (List.mem_of_getElem? (i := 35) (by decide +kernel)) rfl
theorem tp_657 : Cond.methodLink RX0 46 yX0_write ∈ gtbl := g_of (List.mem_of_getElem? (i := 657) (by decide +kernel)) rfl
set_option maxRecDepth 100000 in
theorem tp_660 : Cond.code M_X0_write.1 M_X0_write.2.1 M_X0_write.2.2.1 M_X0_write.2.2.2 ∈ gtbl := g_of (List.mem_of_getElem? (i := 660) rfl) rfl
theorem cb_X0_write : CalB M_X0_write 3 := ⟨tp_660, tp_61, ⟨by decide +kernel, by decide +kernel, by decide +kernel⟩, by decide⟩
theorem tp_659 : Cond.instanceMethod yX0_write ∈ gtbl := g_of (List.mem_of_getElem? (i := 659) (by decide +kernel)) rfl
theorem tp_33 : Cond.selects yX0_write.cls yX0_write yX0_write ∈ gtbl := g_of (List.mem_of_getElem? (i := 33) (by decide +kernel)) rfl
theorem nl_X0_81 : Cond.methodLinkNest RX0 81 yX10_partsOf RX10 ∈ nests := by simp [nests]
set_option maxRecDepth 100000 in
theorem tp_670 : Cond.code M_X10_partsOf.1 M_X10_partsOf.2.1 M_X10_partsOf.2.2.1 M_X10_partsOf.2.2.2 ∈ gtbl := g_of (List.mem_of_getElem? (i := 670) rfl) rfl
theorem cb_X10_partsOf : CalB M_X10_partsOf 1 := ⟨tp_670, tp_55, ⟨by decide +kernel, by decide +kernel, by decide +kernel⟩, by decide⟩
theorem tp_669 : Cond.static yX10_partsOf ∈ gtbl := g_of (List.mem_of_getElem? (i := 669) (by decide +kernel)) rfl
theorem tp_588 : Cond.methodLink RX3 74 yX3_second ∈ gtbl := g_of (List.mem_of_getElem? (i := 588) (by decide +kernel)) rfl
set_option maxRecDepth 100000 in
theorem tp_543 : Cond.code M_X3_second.1 M_X3_second.2.1 M_X3_second.2.2.1 M_X3_second.2.2.2 ∈ gtbl := g_of (List.mem_of_getElem? (i := 543) rfl) rfl
theorem cb_X3_second : CalB M_X3_second 1 := ⟨tp_543, tp_58, ⟨by decide +kernel, by decide +kernel, by decide +kernel⟩, by decide⟩
theorem tp_541 : Cond.instanceMethod yX3_second ∈ gtbl := g_of (List.mem_of_getElem? (i := 541) (by decide +kernel)) rfl
theorem tp_542 : Cond.selects yX3_second.cls yX3_second yX3_second ∈ gtbl := g_of (List.mem_of_getElem? (i := 542) (by decide +kernel)) rfl
theorem tp_184 : Cond.fieldLink RX0 26 "OnceProver$FirstProof" "plan" "LOnceProver$Plan;" ∈ gtbl := g_of (List.mem_of_getElem? (i := 184) (by decide +kernel)) rfl
theorem fl_X0_26 : FL RX0 26 0 0 := ⟨kf0, by decide, tp_184⟩
theorem tp_691 : Cond.methodLink RX0 98 yX3_body ∈ gtbl := g_of (List.mem_of_getElem? (i := 691) (by decide +kernel)) rfl
set_option maxRecDepth 100000 in
theorem tp_604 : Cond.code M_X3_body.1 M_X3_body.2.1 M_X3_body.2.2.1 M_X3_body.2.2.2 ∈ gtbl := g_of (List.mem_of_getElem? (i := 604) rfl) rfl
theorem cb_X3_body : CalB M_X3_body 2 := ⟨tp_604, tp_58, ⟨by decide +kernel, by decide +kernel, by decide +kernel⟩, by decide⟩
theorem tp_602 : Cond.instanceMethod yX3_body ∈ gtbl := g_of (List.mem_of_getElem? (i := 602) (by decide +kernel)) rfl
theorem tp_603 : Cond.selects yX3_body.cls yX3_body yX3_body ∈ gtbl := g_of (List.mem_of_getElem? (i := 603) (by decide +kernel)) rfl
theorem tp_692 : Cond.methodLink RX0 101 yX3_hasHead ∈ gtbl := g_of (List.mem_of_getElem? (i := 692) (by decide +kernel)) rfl
set_option maxRecDepth 100000 in
theorem tp_600 : Cond.code M_X3_hasHead.1 M_X3_hasHead.2.1 M_X3_hasHead.2.2.1 M_X3_hasHead.2.2.2 ∈ gtbl := g_of (List.mem_of_getElem? (i := 600) rfl) rfl
theorem cb_X3_hasHead : CalB M_X3_hasHead 3 := ⟨tp_600, tp_58, ⟨by decide +kernel, by decide +kernel, by decide +kernel⟩, by decide⟩
theorem tp_598 : Cond.instanceMethod yX3_hasHead ∈ gtbl := g_of (List.mem_of_getElem? (i := 598) (by decide +kernel)) rfl
theorem tp_599 : Cond.selects yX3_hasHead.cls yX3_hasHead yX3_hasHead ∈ gtbl := g_of (List.mem_of_getElem? (i := 599) (by decide +kernel)) rfl
theorem tp_693 : Cond.methodLink RX0 105 yX0_serves ∈ gtbl := g_of (List.mem_of_getElem? (i := 693) (by decide +kernel)) rfl
set_option maxRecDepth 100000 in
theorem tp_696 : Cond.code M_X0_serves.1 M_X0_serves.2.1 M_X0_serves.2.2.1 M_X0_serves.2.2.2 ∈ gtbl := g_of (List.mem_of_getElem? (i := 696) rfl) rfl
theorem cb_X0_serves : CalB M_X0_serves 3 := ⟨tp_696, tp_61, ⟨by decide +kernel, by decide +kernel, by decide +kernel⟩, by decide⟩
theorem tp_695 : Cond.instanceMethod yX0_serves ∈ gtbl := g_of (List.mem_of_getElem? (i := 695) (by decide +kernel)) rfl
theorem tp_38 : Cond.selects yX0_serves.cls yX0_serves yX0_serves ∈ gtbl := g_of (List.mem_of_getElem? (i := 38) (by decide +kernel)) rfl
theorem tp_697 : Cond.methodLink RX0 50 yX0_numberOf ∈ gtbl := g_of (List.mem_of_getElem? (i := 697) (by decide +kernel)) rfl
set_option maxRecDepth 100000 in
theorem tp_699 : Cond.code M_X0_numberOf.1 M_X0_numberOf.2.1 M_X0_numberOf.2.2.1 M_X0_numberOf.2.2.2 ∈ gtbl := g_of (List.mem_of_getElem? (i := 699) rfl) rfl
theorem cb_X0_numberOf : CalB M_X0_numberOf 2 := ⟨tp_699, tp_61, ⟨by decide +kernel, by decide +kernel, by decide +kernel⟩, by decide⟩
theorem tp_698 : Cond.static yX0_numberOf ∈ gtbl := g_of (List.mem_of_getElem? (i := 698) (by decide +kernel)) rfl
theorem tp_688 : Cond.methodLink RX0 95 yX3_afterUse ∈ gtbl := g_of (List.mem_of_getElem? (i := 688) (by decide +kernel)) rfl
set_option maxRecDepth 100000 in
theorem tp_690 : Cond.code M_X3_afterUse.1 M_X3_afterUse.2.1 M_X3_afterUse.2.2.1 M_X3_afterUse.2.2.2 ∈ gtbl := g_of (List.mem_of_getElem? (i := 690) rfl) rfl
theorem cb_X3_afterUse : CalB M_X3_afterUse 2 := ⟨tp_690, tp_58, ⟨by decide +kernel, by decide +kernel, by decide +kernel⟩, by decide⟩
theorem tp_689 : Cond.static yX3_afterUse ∈ gtbl := g_of (List.mem_of_getElem? (i := 689) (by decide +kernel)) rfl
theorem tp_661 : Cond.methodLink RX0 57 yX3_first ∈ gtbl := g_of (List.mem_of_getElem? (i := 661) (by decide +kernel)) rfl
set_option maxRecDepth 100000 in
theorem tp_535 : Cond.code M_X3_first.1 M_X3_first.2.1 M_X3_first.2.2.1 M_X3_first.2.2.2 ∈ gtbl := g_of (List.mem_of_getElem? (i := 535) rfl) rfl
theorem cb_X3_first : CalB M_X3_first 1 := ⟨tp_535, tp_58, ⟨by decide +kernel, by decide +kernel, by decide +kernel⟩, by decide⟩
theorem tp_533 : Cond.instanceMethod yX3_first ∈ gtbl := g_of (List.mem_of_getElem? (i := 533) (by decide +kernel)) rfl
theorem tp_534 : Cond.selects yX3_first.cls yX3_first yX3_first ∈ gtbl := g_of (List.mem_of_getElem? (i := 534) (by decide +kernel)) rfl
theorem tp_662 : Cond.methodLink RX0 60 yX3_second ∈ gtbl := g_of (List.mem_of_getElem? (i := 662) (by decide +kernel)) rfl
theorem tp_663 : Cond.methodLink RX0 63 yX3_kind ∈ gtbl := g_of (List.mem_of_getElem? (i := 663) (by decide +kernel)) rfl
set_option maxRecDepth 100000 in
theorem tp_551 : Cond.code M_X3_kind.1 M_X3_kind.2.1 M_X3_kind.2.2.1 M_X3_kind.2.2.2 ∈ gtbl := g_of (List.mem_of_getElem? (i := 551) rfl) rfl
theorem cb_X3_kind : CalB M_X3_kind 1 := ⟨tp_551, tp_58, ⟨by decide +kernel, by decide +kernel, by decide +kernel⟩, by decide⟩
theorem tp_549 : Cond.instanceMethod yX3_kind ∈ gtbl := g_of (List.mem_of_getElem? (i := 549) (by decide +kernel)) rfl
theorem tp_550 : Cond.selects yX3_kind.cls yX3_kind yX3_kind ∈ gtbl := g_of (List.mem_of_getElem? (i := 550) (by decide +kernel)) rfl
theorem tp_664 : Cond.methodLink RX0 67 yX0_writeSplit ∈ gtbl := g_of (List.mem_of_getElem? (i := 664) (by decide +kernel)) rfl
set_option maxRecDepth 100000 in
theorem tp_667 : Cond.code M_X0_writeSplit.1 M_X0_writeSplit.2.1 M_X0_writeSplit.2.2.1 M_X0_writeSplit.2.2.2 ∈ gtbl := g_of (List.mem_of_getElem? (i := 667) rfl) rfl
theorem cb_X0_writeSplit : CalB M_X0_writeSplit 4 := ⟨tp_667, tp_61, ⟨by decide +kernel, by decide +kernel, by decide +kernel⟩, by decide⟩
theorem tp_666 : Cond.instanceMethod yX0_writeSplit ∈ gtbl := g_of (List.mem_of_getElem? (i := 666) (by decide +kernel)) rfl
theorem tp_34 : Cond.selects yX0_writeSplit.cls yX0_writeSplit yX0_writeSplit ∈ gtbl := g_of (List.mem_of_getElem? (i := 34) (by decide +kernel)) rfl
theorem tp_679 : Cond.methodLink RX0 71 yX0_writeChoice ∈ gtbl := g_of (List.mem_of_getElem? (i := 679) (by decide +kernel)) rfl
set_option maxRecDepth 100000 in
theorem tp_682 : Cond.code M_X0_writeChoice.1 M_X0_writeChoice.2.1 M_X0_writeChoice.2.2.1 M_X0_writeChoice.2.2.2 ∈ gtbl := g_of (List.mem_of_getElem? (i := 682) rfl) rfl
theorem cb_X0_writeChoice : CalB M_X0_writeChoice 4 := ⟨tp_682, tp_61, ⟨by decide +kernel, by decide +kernel, by decide +kernel⟩, by decide⟩
theorem tp_681 : Cond.instanceMethod yX0_writeChoice ∈ gtbl := g_of (List.mem_of_getElem? (i := 681) (by decide +kernel)) rfl
theorem tp_36 : Cond.selects yX0_writeChoice.cls yX0_writeChoice yX0_writeChoice ∈ gtbl := g_of (List.mem_of_getElem? (i := 36) (by decide +kernel)) rfl
theorem tp_683 : Cond.methodLink RX0 74 yX3_loanBit ∈ gtbl := g_of (List.mem_of_getElem? (i := 683) (by decide +kernel)) rfl
set_option maxRecDepth 100000 in
theorem tp_587 : Cond.code M_X3_loanBit.1 M_X3_loanBit.2.1 M_X3_loanBit.2.2.1 M_X3_loanBit.2.2.2 ∈ gtbl := g_of (List.mem_of_getElem? (i := 587) rfl) rfl
theorem cb_X3_loanBit : CalB M_X3_loanBit 1 := ⟨tp_587, tp_58, ⟨by decide +kernel, by decide +kernel, by decide +kernel⟩, by decide⟩
theorem tp_585 : Cond.instanceMethod yX3_loanBit ∈ gtbl := g_of (List.mem_of_getElem? (i := 585) (by decide +kernel)) rfl
theorem tp_586 : Cond.selects yX3_loanBit.cls yX3_loanBit yX3_loanBit ∈ gtbl := g_of (List.mem_of_getElem? (i := 586) (by decide +kernel)) rfl
theorem tp_684 : Cond.methodLink RX0 77 yX0_writeAtom ∈ gtbl := g_of (List.mem_of_getElem? (i := 684) (by decide +kernel)) rfl
set_option maxRecDepth 100000 in
theorem tp_687 : Cond.code M_X0_writeAtom.1 M_X0_writeAtom.2.1 M_X0_writeAtom.2.2.1 M_X0_writeAtom.2.2.2 ∈ gtbl := g_of (List.mem_of_getElem? (i := 687) rfl) rfl
theorem cb_X0_writeAtom : CalB M_X0_writeAtom 3 := ⟨tp_687, tp_61, ⟨by decide +kernel, by decide +kernel, by decide +kernel⟩, by decide⟩
theorem tp_686 : Cond.instanceMethod yX0_writeAtom ∈ gtbl := g_of (List.mem_of_getElem? (i := 686) (by decide +kernel)) rfl
theorem tp_37 : Cond.selects yX0_writeAtom.cls yX0_writeAtom yX0_writeAtom ∈ gtbl := g_of (List.mem_of_getElem? (i := 37) (by decide +kernel)) rfl
theorem tp_879 : Cond.constantLong RX9 95 999999999 ∈ gtbl := g_of (List.mem_of_getElem? (i := 879) (by decide +kernel)) rfl
theorem tp_880 : Cond.methodLink RX9 97 Lib.MathLoose.min_long.x ∈ gtbl := g_of (List.mem_of_getElem? (i := 880) (by decide +kernel)) rfl
theorem tp_881 : Cond.static Lib.MathLoose.min_long.x ∈ gtbl := g_of (List.mem_of_getElem? (i := 881) (by decide +kernel)) rfl
theorem tp_882 : Cond.code Lib.MathLoose.min_long.x Lib.MathLoose.min_long.code 4 (some .long) ∈ gtbl := g_of (List.mem_of_getElem? (i := 882) (by decide +kernel)) rfl
theorem nl_X9_78 : Cond.methodLinkNest RX9 78 yX10_nextPart RX10 ∈ nests := by simp [nests]
theorem tp_166 : Cond.fieldLink RX9 24 "OnceProver$Ways" "reach" "LOnceProver$Reach;" ∈ gtbl := g_of (List.mem_of_getElem? (i := 166) (by decide +kernel)) rfl
theorem fl_X9_24 : FL RX9 24 9 1 := ⟨kf9, by decide, tp_166⟩
theorem tp_863 : Cond.methodLink RX9 38 yX4_proves ∈ gtbl := g_of (List.mem_of_getElem? (i := 863) (by decide +kernel)) rfl
theorem tp_859 : Cond.methodLink RX9 34 yX9_tally ∈ gtbl := g_of (List.mem_of_getElem? (i := 859) (by decide +kernel)) rfl
set_option maxRecDepth 100000 in
theorem tp_862 : Cond.code M_X9_tally.1 M_X9_tally.2.1 M_X9_tally.2.2.1 M_X9_tally.2.2.2 ∈ gtbl := g_of (List.mem_of_getElem? (i := 862) rfl) rfl
theorem tp_60 : Cond.initialized RX9 ∈ gtbl := g_of (List.mem_of_getElem? (i := 60) (by decide +kernel)) rfl
theorem cb_X9_tally : CalB M_X9_tally 3 := ⟨tp_862, tp_60, ⟨by decide +kernel, by decide +kernel, by decide +kernel⟩, by decide⟩
theorem tp_861 : Cond.instanceMethod yX9_tally ∈ gtbl := g_of (List.mem_of_getElem? (i := 861) (by decide +kernel)) rfl
theorem tp_49 : Cond.selects yX9_tally.cls yX9_tally yX9_tally ∈ gtbl := g_of (List.mem_of_getElem? (i := 49) (by decide +kernel)) rfl
theorem tp_876 : Cond.methodLink RX9 64 yX9_capped ∈ gtbl := g_of (List.mem_of_getElem? (i := 876) (by decide +kernel)) rfl
set_option maxRecDepth 100000 in
theorem tp_878 : Cond.code M_X9_capped.1 M_X9_capped.2.1 M_X9_capped.2.2.1 M_X9_capped.2.2.2 ∈ gtbl := g_of (List.mem_of_getElem? (i := 878) rfl) rfl
theorem cb_X9_capped : CalB M_X9_capped 1 := ⟨tp_878, tp_60, ⟨by decide +kernel, by decide +kernel, by decide +kernel⟩, by decide⟩
theorem tp_877 : Cond.static yX9_capped ∈ gtbl := g_of (List.mem_of_getElem? (i := 877) (by decide +kernel)) rfl
theorem nl_X9_75 : Cond.methodLinkNest RX9 75 yX10_partsOf RX10 ∈ nests := by simp [nests]
theorem tp_165 : Cond.fieldLink RX9 20 "OnceProver$Ways" "plan" "LOnceProver$Plan;" ∈ gtbl := g_of (List.mem_of_getElem? (i := 165) (by decide +kernel)) rfl
theorem fl_X9_20 : FL RX9 20 9 0 := ⟨kf9, by decide, tp_165⟩
theorem tp_890 : Cond.methodLink RX9 85 yX3_hasHead ∈ gtbl := g_of (List.mem_of_getElem? (i := 890) (by decide +kernel)) rfl
theorem tp_891 : Cond.methodLink RX9 89 yX3_body ∈ gtbl := g_of (List.mem_of_getElem? (i := 891) (by decide +kernel)) rfl
theorem tp_892 : Cond.methodLink RX9 92 yX9_tallyFace ∈ gtbl := g_of (List.mem_of_getElem? (i := 892) (by decide +kernel)) rfl
set_option maxRecDepth 100000 in
theorem tp_895 : Cond.code M_X9_tallyFace.1 M_X9_tallyFace.2.1 M_X9_tallyFace.2.2.1 M_X9_tallyFace.2.2.2 ∈ gtbl := g_of (List.mem_of_getElem? (i := 895) rfl) rfl
theorem cb_X9_tallyFace : CalB M_X9_tallyFace 3 := ⟨tp_895, tp_60, ⟨by decide +kernel, by decide +kernel, by decide +kernel⟩, by decide⟩
theorem tp_894 : Cond.instanceMethod yX9_tallyFace ∈ gtbl := g_of (List.mem_of_getElem? (i := 894) (by decide +kernel)) rfl
theorem tp_53 : Cond.selects yX9_tallyFace.cls yX9_tallyFace yX9_tallyFace ∈ gtbl := g_of (List.mem_of_getElem? (i := 53) (by decide +kernel)) rfl
theorem tp_889 : Cond.methodLink RX9 82 yX3_afterUse ∈ gtbl := g_of (List.mem_of_getElem? (i := 889) (by decide +kernel)) rfl
theorem tp_868 : Cond.methodLink RX9 49 yX3_first ∈ gtbl := g_of (List.mem_of_getElem? (i := 868) (by decide +kernel)) rfl
theorem tp_869 : Cond.methodLink RX9 53 yX3_second ∈ gtbl := g_of (List.mem_of_getElem? (i := 869) (by decide +kernel)) rfl
theorem tp_870 : Cond.methodLink RX9 56 yX3_kind ∈ gtbl := g_of (List.mem_of_getElem? (i := 870) (by decide +kernel)) rfl
theorem tp_871 : Cond.methodLink RX9 60 yX9_tallySplits ∈ gtbl := g_of (List.mem_of_getElem? (i := 871) (by decide +kernel)) rfl
set_option maxRecDepth 100000 in
theorem tp_874 : Cond.code M_X9_tallySplits.1 M_X9_tallySplits.2.1 M_X9_tallySplits.2.2.1 M_X9_tallySplits.2.2.2 ∈ gtbl := g_of (List.mem_of_getElem? (i := 874) rfl) rfl
theorem cb_X9_tallySplits : CalB M_X9_tallySplits 4 := ⟨tp_874, tp_60, ⟨by decide +kernel, by decide +kernel, by decide +kernel⟩, by decide⟩
theorem tp_873 : Cond.instanceMethod yX9_tallySplits ∈ gtbl := g_of (List.mem_of_getElem? (i := 873) (by decide +kernel)) rfl
theorem tp_51 : Cond.selects yX9_tallySplits.cls yX9_tallySplits yX9_tallySplits ∈ gtbl := g_of (List.mem_of_getElem? (i := 51) (by decide +kernel)) rfl
theorem tp_884 : Cond.methodLink RX9 68 yX3_loanBit ∈ gtbl := g_of (List.mem_of_getElem? (i := 884) (by decide +kernel)) rfl
theorem tp_885 : Cond.methodLink RX9 71 yX9_tallyAtom ∈ gtbl := g_of (List.mem_of_getElem? (i := 885) (by decide +kernel)) rfl
set_option maxRecDepth 100000 in
theorem tp_888 : Cond.code M_X9_tallyAtom.1 M_X9_tallyAtom.2.1 M_X9_tallyAtom.2.2.1 M_X9_tallyAtom.2.2.2 ∈ gtbl := g_of (List.mem_of_getElem? (i := 888) rfl) rfl
theorem cb_X9_tallyAtom : CalB M_X9_tallyAtom 3 := ⟨tp_888, tp_60, ⟨by decide +kernel, by decide +kernel, by decide +kernel⟩, by decide⟩
theorem tp_887 : Cond.instanceMethod yX9_tallyAtom ∈ gtbl := g_of (List.mem_of_getElem? (i := 887) (by decide +kernel)) rfl
theorem tp_52 : Cond.selects yX9_tallyAtom.cls yX9_tallyAtom yX9_tallyAtom ∈ gtbl := g_of (List.mem_of_getElem? (i := 52) (by decide +kernel)) rfl
theorem tp_167 : Cond.fieldLink RX9 12 "OnceProver$Ways" "counted" "[J" ∈ gtbl := g_of (List.mem_of_getElem? (i := 167) (by decide +kernel)) rfl
theorem fl_X9_12 : FL RX9 12 9 2 := ⟨kf9, by decide, tp_167⟩
theorem tp_896 : Cond.constantLong RX9 47 4294967295 ∈ gtbl := g_of (List.mem_of_getElem? (i := 896) (by decide +kernel)) rfl
theorem tp_168 : Cond.fieldLink RX9 16 "OnceProver$Ways" "stamp" "J" ∈ gtbl := g_of (List.mem_of_getElem? (i := 168) (by decide +kernel)) rfl
theorem fl_X9_16 : FL RX9 16 9 3 := ⟨kf9, by decide, tp_168⟩
theorem tp_864 : Cond.methodLink RX9 44 yX9_tallyByKind ∈ gtbl := g_of (List.mem_of_getElem? (i := 864) (by decide +kernel)) rfl
set_option maxRecDepth 100000 in
theorem tp_867 : Cond.code M_X9_tallyByKind.1 M_X9_tallyByKind.2.1 M_X9_tallyByKind.2.2.1 M_X9_tallyByKind.2.2.2 ∈ gtbl := g_of (List.mem_of_getElem? (i := 867) rfl) rfl
theorem cb_X9_tallyByKind : CalB M_X9_tallyByKind 3 := ⟨tp_867, tp_60, ⟨by decide +kernel, by decide +kernel, by decide +kernel⟩, by decide⟩
theorem tp_866 : Cond.instanceMethod yX9_tallyByKind ∈ gtbl := g_of (List.mem_of_getElem? (i := 866) (by decide +kernel)) rfl
theorem tp_50 : Cond.selects yX9_tallyByKind.cls yX9_tallyByKind yX9_tallyByKind ∈ gtbl := g_of (List.mem_of_getElem? (i := 50) (by decide +kernel)) rfl
theorem tp_224 : Cond.fieldLink RX2 11 "OnceProver$Judge" "verdict" "I" ∈ gtbl := g_of (List.mem_of_getElem? (i := 224) (by decide +kernel)) rfl
theorem fl_X2_11 : FL RX2 11 2 2 := ⟨kf2, by decide, tp_224⟩
theorem tp_210 : Cond.fieldLink RX8 15 "OnceProver$Trial" "length" "I" ∈ gtbl := g_of (List.mem_of_getElem? (i := 210) (by decide +kernel)) rfl
theorem fl_X8_15 : FL RX8 15 8 1 := ⟨kf8, by decide, tp_210⟩
theorem tp_209 : Cond.fieldLink RX8 9 "OnceProver$Trial" "numbers" "[I" ∈ gtbl := g_of (List.mem_of_getElem? (i := 209) (by decide +kernel)) rfl
theorem fl_X8_9 : FL RX8 9 8 0 := ⟨kf8, by decide, tp_209⟩
theorem tp_225 : Cond.fieldLink RX2 15 "OnceProver$Judge" "used" "I" ∈ gtbl := g_of (List.mem_of_getElem? (i := 225) (by decide +kernel)) rfl
theorem fl_X2_15 : FL RX2 15 2 3 := ⟨kf2, by decide, tp_225⟩
theorem tp_223 : Cond.fieldLink RX2 25 "OnceProver$Judge" "trial" "LOnceProver$Trial;" ∈ gtbl := g_of (List.mem_of_getElem? (i := 223) (by decide +kernel)) rfl
theorem fl_X2_25 : FL RX2 25 2 1 := ⟨kf2, by decide, tp_223⟩
theorem tp_760 : Cond.methodLink RX2 39 yX8_length ∈ gtbl := g_of (List.mem_of_getElem? (i := 760) (by decide +kernel)) rfl
set_option maxRecDepth 100000 in
theorem tp_727 : Cond.code M_X8_length.1 M_X8_length.2.1 M_X8_length.2.2.1 M_X8_length.2.2.2 ∈ gtbl := g_of (List.mem_of_getElem? (i := 727) rfl) rfl
theorem tp_62 : Cond.initialized RX8 ∈ gtbl := g_of (List.mem_of_getElem? (i := 62) (by decide +kernel)) rfl
theorem cb_X8_length : CalB M_X8_length 0 := ⟨tp_727, tp_62, ⟨by decide +kernel, by decide +kernel, by decide +kernel⟩, by decide⟩
theorem tp_725 : Cond.instanceMethod yX8_length ∈ gtbl := g_of (List.mem_of_getElem? (i := 725) (by decide +kernel)) rfl
theorem tp_726 : Cond.selects yX8_length.cls yX8_length yX8_length ∈ gtbl := g_of (List.mem_of_getElem? (i := 726) (by decide +kernel)) rfl
theorem tp_761 : Cond.methodLink RX2 85 yX2_refuseUnless ∈ gtbl := g_of (List.mem_of_getElem? (i := 761) (by decide +kernel)) rfl
set_option maxRecDepth 100000 in
theorem tp_764 : Cond.code M_X2_refuseUnless.1 M_X2_refuseUnless.2.1 M_X2_refuseUnless.2.2.1 M_X2_refuseUnless.2.2.2 ∈ gtbl := g_of (List.mem_of_getElem? (i := 764) rfl) rfl
theorem tp_63 : Cond.initialized RX2 ∈ gtbl := g_of (List.mem_of_getElem? (i := 63) (by decide +kernel)) rfl
theorem cb_X2_refuseUnless : CalB M_X2_refuseUnless 1 := ⟨tp_764, tp_63, ⟨by decide +kernel, by decide +kernel, by decide +kernel⟩, by decide⟩
theorem tp_763 : Cond.instanceMethod yX2_refuseUnless ∈ gtbl := g_of (List.mem_of_getElem? (i := 763) (by decide +kernel)) rfl
theorem tp_43 : Cond.selects yX2_refuseUnless.cls yX2_refuseUnless yX2_refuseUnless ∈ gtbl := g_of (List.mem_of_getElem? (i := 43) (by decide +kernel)) rfl
theorem tp_222 : Cond.fieldLink RX2 21 "OnceProver$Judge" "plan" "LOnceProver$Plan;" ∈ gtbl := g_of (List.mem_of_getElem? (i := 222) (by decide +kernel)) rfl
theorem fl_X2_21 : FL RX2 21 2 0 := ⟨kf2, by decide, tp_222⟩
theorem tp_747 : Cond.methodLink RX2 58 yX3_first ∈ gtbl := g_of (List.mem_of_getElem? (i := 747) (by decide +kernel)) rfl
theorem tp_737 : Cond.methodLink RX2 35 yX2_visit ∈ gtbl := g_of (List.mem_of_getElem? (i := 737) (by decide +kernel)) rfl
set_option maxRecDepth 100000 in
theorem tp_740 : Cond.code M_X2_visit.1 M_X2_visit.2.1 M_X2_visit.2.2.1 M_X2_visit.2.2.2 ∈ gtbl := g_of (List.mem_of_getElem? (i := 740) rfl) rfl
theorem cb_X2_visit : CalB M_X2_visit 3 := ⟨tp_740, tp_63, ⟨by decide +kernel, by decide +kernel, by decide +kernel⟩, by decide⟩
theorem tp_739 : Cond.instanceMethod yX2_visit ∈ gtbl := g_of (List.mem_of_getElem? (i := 739) (by decide +kernel)) rfl
theorem tp_39 : Cond.selects yX2_visit.cls yX2_visit yX2_visit ∈ gtbl := g_of (List.mem_of_getElem? (i := 39) (by decide +kernel)) rfl
theorem tp_765 : Cond.methodLink RX2 65 yX3_second ∈ gtbl := g_of (List.mem_of_getElem? (i := 765) (by decide +kernel)) rfl
theorem tp_752 : Cond.methodLink RX2 78 yX8_at ∈ gtbl := g_of (List.mem_of_getElem? (i := 752) (by decide +kernel)) rfl
set_option maxRecDepth 100000 in
theorem tp_755 : Cond.code M_X8_at.1 M_X8_at.2.1 M_X8_at.2.2.1 M_X8_at.2.2.2 ∈ gtbl := g_of (List.mem_of_getElem? (i := 755) rfl) rfl
theorem cb_X8_at : CalB M_X8_at 1 := ⟨tp_755, tp_62, ⟨by decide +kernel, by decide +kernel, by decide +kernel⟩, by decide⟩
theorem tp_753 : Cond.instanceMethod yX8_at ∈ gtbl := g_of (List.mem_of_getElem? (i := 753) (by decide +kernel)) rfl
theorem tp_754 : Cond.selects yX8_at.cls yX8_at yX8_at ∈ gtbl := g_of (List.mem_of_getElem? (i := 754) (by decide +kernel)) rfl
theorem tp_756 : Cond.methodLink RX2 81 yX2_lacksNumber ∈ gtbl := g_of (List.mem_of_getElem? (i := 756) (by decide +kernel)) rfl
set_option maxRecDepth 100000 in
theorem tp_759 : Cond.code M_X2_lacksNumber.1 M_X2_lacksNumber.2.1 M_X2_lacksNumber.2.2.1 M_X2_lacksNumber.2.2.2 ∈ gtbl := g_of (List.mem_of_getElem? (i := 759) rfl) rfl
theorem cb_X2_lacksNumber : CalB M_X2_lacksNumber 0 := ⟨tp_759, tp_63, ⟨by decide +kernel, by decide +kernel, by decide +kernel⟩, by decide⟩
theorem tp_758 : Cond.instanceMethod yX2_lacksNumber ∈ gtbl := g_of (List.mem_of_getElem? (i := 758) (by decide +kernel)) rfl
theorem tp_42 : Cond.selects yX2_lacksNumber.cls yX2_lacksNumber yX2_lacksNumber ∈ gtbl := g_of (List.mem_of_getElem? (i := 42) (by decide +kernel)) rfl
theorem tp_774 : Cond.methodLink RX2 89 yX3_loanBit ∈ gtbl := g_of (List.mem_of_getElem? (i := 774) (by decide +kernel)) rfl
theorem tp_784 : Cond.methodLink RX2 102 yX3_body ∈ gtbl := g_of (List.mem_of_getElem? (i := 784) (by decide +kernel)) rfl
theorem tp_743 : Cond.methodLink RX2 54 yX2_demandEmpty ∈ gtbl := g_of (List.mem_of_getElem? (i := 743) (by decide +kernel)) rfl
set_option maxRecDepth 100000 in
theorem tp_746 : Cond.code M_X2_demandEmpty.1 M_X2_demandEmpty.2.1 M_X2_demandEmpty.2.2.1 M_X2_demandEmpty.2.2.2 ∈ gtbl := g_of (List.mem_of_getElem? (i := 746) rfl) rfl
theorem cb_X2_demandEmpty : CalB M_X2_demandEmpty 1 := ⟨tp_746, tp_63, ⟨by decide +kernel, by decide +kernel, by decide +kernel⟩, by decide⟩
theorem tp_745 : Cond.instanceMethod yX2_demandEmpty ∈ gtbl := g_of (List.mem_of_getElem? (i := 745) (by decide +kernel)) rfl
theorem tp_40 : Cond.selects yX2_demandEmpty.cls yX2_demandEmpty yX2_demandEmpty ∈ gtbl := g_of (List.mem_of_getElem? (i := 40) (by decide +kernel)) rfl
theorem tp_783 : Cond.methodLink RX2 98 yX3_hasHead ∈ gtbl := g_of (List.mem_of_getElem? (i := 783) (by decide +kernel)) rfl
theorem tp_779 : Cond.methodLink RX2 92 yX2_offerOf ∈ gtbl := g_of (List.mem_of_getElem? (i := 779) (by decide +kernel)) rfl
set_option maxRecDepth 100000 in
theorem tp_781 : Cond.code M_X2_offerOf.1 M_X2_offerOf.2.1 M_X2_offerOf.2.2.1 M_X2_offerOf.2.2.2 ∈ gtbl := g_of (List.mem_of_getElem? (i := 781) rfl) rfl
theorem cb_X2_offerOf : CalB M_X2_offerOf 1 := ⟨tp_781, tp_63, ⟨by decide +kernel, by decide +kernel, by decide +kernel⟩, by decide⟩
theorem tp_780 : Cond.static yX2_offerOf ∈ gtbl := g_of (List.mem_of_getElem? (i := 780) (by decide +kernel)) rfl
theorem tp_782 : Cond.methodLink RX2 95 yX3_afterUse ∈ gtbl := g_of (List.mem_of_getElem? (i := 782) (by decide +kernel)) rfl
theorem tp_226 : Cond.fieldLink RX2 18 "OnceProver$Judge" "deepest" "I" ∈ gtbl := g_of (List.mem_of_getElem? (i := 226) (by decide +kernel)) rfl
theorem fl_X2_18 : FL RX2 18 2 4 := ⟨kf2, by decide, tp_226⟩
theorem tp_741 : Cond.methodLink RX2 44 Lib.Math.max.name ∈ gtbl := g_of (List.mem_of_getElem? (i := 741) (by decide +kernel)) rfl
theorem tp_303 : Cond.static Lib.Math.max.name ∈ gtbl := g_of (List.mem_of_getElem? (i := 303) (by decide +kernel)) rfl
theorem tp_304 : Cond.code Lib.Math.max.name Lib.Math.max.code 2 (some .int) ∈ gtbl := g_of (List.mem_of_getElem? (i := 304) (by decide +kernel)) rfl
theorem tp_742 : Cond.methodLink RX2 50 yX3_kind ∈ gtbl := g_of (List.mem_of_getElem? (i := 742) (by decide +kernel)) rfl
theorem tp_748 : Cond.methodLink RX2 62 yX2_visitSplit ∈ gtbl := g_of (List.mem_of_getElem? (i := 748) (by decide +kernel)) rfl
set_option maxRecDepth 100000 in
theorem tp_751 : Cond.code M_X2_visitSplit.1 M_X2_visitSplit.2.1 M_X2_visitSplit.2.2.1 M_X2_visitSplit.2.2.2 ∈ gtbl := g_of (List.mem_of_getElem? (i := 751) rfl) rfl
theorem cb_X2_visitSplit : CalB M_X2_visitSplit 3 := ⟨tp_751, tp_63, ⟨by decide +kernel, by decide +kernel, by decide +kernel⟩, by decide⟩
theorem tp_750 : Cond.instanceMethod yX2_visitSplit ∈ gtbl := g_of (List.mem_of_getElem? (i := 750) (by decide +kernel)) rfl
theorem tp_41 : Cond.selects yX2_visitSplit.cls yX2_visitSplit yX2_visitSplit ∈ gtbl := g_of (List.mem_of_getElem? (i := 41) (by decide +kernel)) rfl
theorem tp_766 : Cond.methodLink RX2 68 yX2_visitChoice ∈ gtbl := g_of (List.mem_of_getElem? (i := 766) (by decide +kernel)) rfl
set_option maxRecDepth 100000 in
theorem tp_769 : Cond.code M_X2_visitChoice.1 M_X2_visitChoice.2.1 M_X2_visitChoice.2.2.1 M_X2_visitChoice.2.2.2 ∈ gtbl := g_of (List.mem_of_getElem? (i := 769) rfl) rfl
theorem cb_X2_visitChoice : CalB M_X2_visitChoice 3 := ⟨tp_769, tp_63, ⟨by decide +kernel, by decide +kernel, by decide +kernel⟩, by decide⟩
theorem tp_768 : Cond.instanceMethod yX2_visitChoice ∈ gtbl := g_of (List.mem_of_getElem? (i := 768) (by decide +kernel)) rfl
theorem tp_44 : Cond.selects yX2_visitChoice.cls yX2_visitChoice yX2_visitChoice ∈ gtbl := g_of (List.mem_of_getElem? (i := 44) (by decide +kernel)) rfl
theorem tp_770 : Cond.methodLink RX2 71 yX2_visitLoan ∈ gtbl := g_of (List.mem_of_getElem? (i := 770) (by decide +kernel)) rfl
set_option maxRecDepth 100000 in
theorem tp_773 : Cond.code M_X2_visitLoan.1 M_X2_visitLoan.2.1 M_X2_visitLoan.2.2.1 M_X2_visitLoan.2.2.2 ∈ gtbl := g_of (List.mem_of_getElem? (i := 773) rfl) rfl
theorem cb_X2_visitLoan : CalB M_X2_visitLoan 3 := ⟨tp_773, tp_63, ⟨by decide +kernel, by decide +kernel, by decide +kernel⟩, by decide⟩
theorem tp_772 : Cond.instanceMethod yX2_visitLoan ∈ gtbl := g_of (List.mem_of_getElem? (i := 772) (by decide +kernel)) rfl
theorem tp_45 : Cond.selects yX2_visitLoan.cls yX2_visitLoan yX2_visitLoan ∈ gtbl := g_of (List.mem_of_getElem? (i := 45) (by decide +kernel)) rfl
theorem tp_775 : Cond.methodLink RX2 74 yX2_visitAtom ∈ gtbl := g_of (List.mem_of_getElem? (i := 775) (by decide +kernel)) rfl
set_option maxRecDepth 100000 in
theorem tp_778 : Cond.code M_X2_visitAtom.1 M_X2_visitAtom.2.1 M_X2_visitAtom.2.2.1 M_X2_visitAtom.2.2.2 ∈ gtbl := g_of (List.mem_of_getElem? (i := 778) rfl) rfl
theorem cb_X2_visitAtom : CalB M_X2_visitAtom 3 := ⟨tp_778, tp_63, ⟨by decide +kernel, by decide +kernel, by decide +kernel⟩, by decide⟩
theorem tp_777 : Cond.instanceMethod yX2_visitAtom ∈ gtbl := g_of (List.mem_of_getElem? (i := 777) (by decide +kernel)) rfl
theorem tp_46 : Cond.selects yX2_visitAtom.cls yX2_visitAtom yX2_visitAtom ∈ gtbl := g_of (List.mem_of_getElem? (i := 46) (by decide +kernel)) rfl
theorem tp_183 : Cond.methodLink RX0 3 objectInit ∈ gtbl := g_of (List.mem_of_getElem? (i := 183) (by decide +kernel)) rfl
theorem tp_74 : Cond.instanceMethod objectInit ∈ gtbl := g_of (List.mem_of_getElem? (i := 74) (by decide +kernel)) rfl
set_option maxRecDepth 100000 in
theorem tp_75 : Cond.code objectInit ⟨#[0xb1]⟩ 1 none ∈ gtbl := g_of (List.mem_of_getElem? (i := 75) rfl) rfl
theorem tp_134 : Cond.arrayClass .int ∈ gtbl := g_of (List.mem_of_getElem? (i := 134) (by decide +kernel)) rfl
theorem tp_188 : Cond.fieldLink RX0 19 "OnceProver$FirstProof" "exists" "Z" ∈ gtbl := g_of (List.mem_of_getElem? (i := 188) (by decide +kernel)) rfl
theorem fl_X0_19 : FL RX0 19 0 4 := ⟨kf0, by decide, tp_188⟩
theorem tp_189 : Cond.fieldLink RX0 23 "OnceProver$FirstProof" "found" "Z" ∈ gtbl := g_of (List.mem_of_getElem? (i := 189) (by decide +kernel)) rfl
theorem fl_X0_23 : FL RX0 23 0 5 := ⟨kf0, by decide, tp_189⟩
theorem tp_116 : Cond.fieldLink RX3 35 "OnceProver$Plan" "root" "I" ∈ gtbl := g_of (List.mem_of_getElem? (i := 116) (by decide +kernel)) rfl
theorem fl_X3_35 : FL RX3 35 3 7 := ⟨kf3, by decide, tp_116⟩
theorem tp_625 : Cond.methodLink RX4 58 yX4_proves ∈ gtbl := g_of (List.mem_of_getElem? (i := 625) (by decide +kernel)) rfl
theorem tp_655 : Cond.methodLink RX0 34 yX3_root ∈ gtbl := g_of (List.mem_of_getElem? (i := 655) (by decide +kernel)) rfl
set_option maxRecDepth 100000 in
theorem tp_620 : Cond.code M_X3_root.1 M_X3_root.2.1 M_X3_root.2.2.1 M_X3_root.2.2.2 ∈ gtbl := g_of (List.mem_of_getElem? (i := 620) rfl) rfl
theorem cb_X3_root : CalB M_X3_root 0 := ⟨tp_620, tp_58, ⟨by decide +kernel, by decide +kernel, by decide +kernel⟩, by decide⟩
theorem tp_618 : Cond.instanceMethod yX3_root ∈ gtbl := g_of (List.mem_of_getElem? (i := 618) (by decide +kernel)) rfl
theorem tp_619 : Cond.selects yX3_root.cls yX3_root yX3_root ∈ gtbl := g_of (List.mem_of_getElem? (i := 619) (by decide +kernel)) rfl
theorem tp_656 : Cond.methodLink RX0 40 yX4_leastHeight ∈ gtbl := g_of (List.mem_of_getElem? (i := 656) (by decide +kernel)) rfl
set_option maxRecDepth 100000 in
theorem tp_624 : Cond.code M_X4_leastHeight.1 M_X4_leastHeight.2.1 M_X4_leastHeight.2.2.1 M_X4_leastHeight.2.2.2 ∈ gtbl := g_of (List.mem_of_getElem? (i := 624) rfl) rfl
theorem cb_X4_leastHeight : CalB M_X4_leastHeight 2 := ⟨tp_624, tp_59, ⟨by decide +kernel, by decide +kernel, by decide +kernel⟩, by decide⟩
theorem tp_622 : Cond.instanceMethod yX4_leastHeight ∈ gtbl := g_of (List.mem_of_getElem? (i := 622) (by decide +kernel)) rfl
theorem tp_623 : Cond.selects yX4_leastHeight.cls yX4_leastHeight yX4_leastHeight ∈ gtbl := g_of (List.mem_of_getElem? (i := 623) (by decide +kernel)) rfl
theorem tp_908 : Cond.methodLink RX0 53 yX0_at ∈ gtbl := g_of (List.mem_of_getElem? (i := 908) (by decide +kernel)) rfl
set_option maxRecDepth 100000 in
theorem tp_711 : Cond.code M_X0_at.1 M_X0_at.2.1 M_X0_at.2.2.1 M_X0_at.2.2.2 ∈ gtbl := g_of (List.mem_of_getElem? (i := 711) rfl) rfl
theorem cb_X0_at : CalB M_X0_at 1 := ⟨tp_711, tp_61, ⟨by decide +kernel, by decide +kernel, by decide +kernel⟩, by decide⟩
theorem tp_709 : Cond.instanceMethod yX0_at ∈ gtbl := g_of (List.mem_of_getElem? (i := 709) (by decide +kernel)) rfl
theorem tp_710 : Cond.selects yX0_at.cls yX0_at yX0_at ∈ gtbl := g_of (List.mem_of_getElem? (i := 710) (by decide +kernel)) rfl
theorem tp_411 : Cond.methodLink RX1 1 objectInit ∈ gtbl := g_of (List.mem_of_getElem? (i := 411) (by decide +kernel)) rfl
theorem tp_412 : Cond.fieldLink RX1 7 "OnceProver$Item" "signs" "[C" ∈ gtbl := g_of (List.mem_of_getElem? (i := 412) (by decide +kernel)) rfl
theorem fl_X1_7 : FL RX1 7 1 0 := ⟨kf1, by decide, tp_412⟩
theorem tp_413 : Cond.fieldLink RX1 13 "OnceProver$Item" "nodes" "I" ∈ gtbl := g_of (List.mem_of_getElem? (i := 413) (by decide +kernel)) rfl
theorem fl_X1_13 : FL RX1 13 1 1 := ⟨kf1, by decide, tp_413⟩
theorem tp_414 : Cond.fieldLink RX1 17 "OnceProver$Item" "loans" "I" ∈ gtbl := g_of (List.mem_of_getElem? (i := 414) (by decide +kernel)) rfl
theorem fl_X1_17 : FL RX1 17 1 2 := ⟨kf1, by decide, tp_414⟩
theorem tp_221 : Cond.methodLink RX2 3 objectInit ∈ gtbl := g_of (List.mem_of_getElem? (i := 221) (by decide +kernel)) rfl
theorem tp_736 : Cond.methodLink RX2 29 yX3_root ∈ gtbl := g_of (List.mem_of_getElem? (i := 736) (by decide +kernel)) rfl
theorem tp_108 : Cond.methodLink RX3 3 objectInit ∈ gtbl := g_of (List.mem_of_getElem? (i := 108) (by decide +kernel)) rfl
theorem tp_89 : Cond.arrayClass .char ∈ gtbl := g_of (List.mem_of_getElem? (i := 89) (by decide +kernel)) rfl
theorem tp_98 : Cond.fieldLink RX6 11 "OnceProver$Stock" "items" "[LOnceProver$Item;" ∈ gtbl := g_of (List.mem_of_getElem? (i := 98) (by decide +kernel)) rfl
theorem fl_X6_11 : FL RX6 11 6 0 := ⟨kf6, by decide, tp_98⟩
theorem tp_314 : Cond.methodLink RX5 3 objectInit ∈ gtbl := g_of (List.mem_of_getElem? (i := 314) (by decide +kernel)) rfl
theorem tp_382 : Cond.methodLink RX5 30 yX5_refuseMore ∈ gtbl := g_of (List.mem_of_getElem? (i := 382) (by decide +kernel)) rfl
set_option maxRecDepth 100000 in
theorem tp_385 : Cond.code M_X5_refuseMore.1 M_X5_refuseMore.2.1 M_X5_refuseMore.2.2.1 M_X5_refuseMore.2.2.2 ∈ gtbl := g_of (List.mem_of_getElem? (i := 385) rfl) rfl
theorem cb_X5_refuseMore : CalB M_X5_refuseMore 0 := ⟨tp_385, tp_64, ⟨by decide +kernel, by decide +kernel, by decide +kernel⟩, by decide⟩
theorem tp_384 : Cond.instanceMethod yX5_refuseMore ∈ gtbl := g_of (List.mem_of_getElem? (i := 384) (by decide +kernel)) rfl
theorem tp_9 : Cond.selects yX5_refuseMore.cls yX5_refuseMore yX5_refuseMore ∈ gtbl := g_of (List.mem_of_getElem? (i := 9) (by decide +kernel)) rfl
theorem tp_503 : Cond.methodLink RX3 41 yX6_at ∈ gtbl := g_of (List.mem_of_getElem? (i := 503) (by decide +kernel)) rfl
set_option maxRecDepth 100000 in
theorem tp_429 : Cond.code M_X6_at.1 M_X6_at.2.1 M_X6_at.2.2.1 M_X6_at.2.2.2 ∈ gtbl := g_of (List.mem_of_getElem? (i := 429) rfl) rfl
theorem tp_57 : Cond.initialized RX6 ∈ gtbl := g_of (List.mem_of_getElem? (i := 57) (by decide +kernel)) rfl
theorem cb_X6_at : CalB M_X6_at 1 := ⟨tp_429, tp_57, ⟨by decide +kernel, by decide +kernel, by decide +kernel⟩, by decide⟩
theorem tp_427 : Cond.instanceMethod yX6_at ∈ gtbl := g_of (List.mem_of_getElem? (i := 427) (by decide +kernel)) rfl
theorem tp_428 : Cond.selects yX6_at.cls yX6_at yX6_at ∈ gtbl := g_of (List.mem_of_getElem? (i := 428) (by decide +kernel)) rfl
theorem tp_504 : Cond.classLink RX3 47 RX5 ∈ gtbl := g_of (List.mem_of_getElem? (i := 504) (by decide +kernel)) rfl
theorem tp_310 : Cond.instantiable RX5 4 ∈ gtbl := g_of (List.mem_of_getElem? (i := 310) (by decide +kernel)) rfl
theorem tp_505 : Cond.methodLink RX3 49 yX1_signs ∈ gtbl := g_of (List.mem_of_getElem? (i := 505) (by decide +kernel)) rfl
set_option maxRecDepth 100000 in
theorem tp_508 : Cond.code M_X1_signs.1 M_X1_signs.2.1 M_X1_signs.2.2.1 M_X1_signs.2.2.2 ∈ gtbl := g_of (List.mem_of_getElem? (i := 508) rfl) rfl
theorem tp_67 : Cond.initialized RX1 ∈ gtbl := g_of (List.mem_of_getElem? (i := 67) (by decide +kernel)) rfl
theorem cb_X1_signs : CalB M_X1_signs 0 := ⟨tp_508, tp_67, ⟨by decide +kernel, by decide +kernel, by decide +kernel⟩, by decide⟩
theorem tp_506 : Cond.instanceMethod yX1_signs ∈ gtbl := g_of (List.mem_of_getElem? (i := 506) (by decide +kernel)) rfl
theorem tp_507 : Cond.selects yX1_signs.cls yX1_signs yX1_signs ∈ gtbl := g_of (List.mem_of_getElem? (i := 507) (by decide +kernel)) rfl
theorem tp_509 : Cond.methodLink RX3 55 yX5_init ∈ gtbl := g_of (List.mem_of_getElem? (i := 509) (by decide +kernel)) rfl
set_option maxRecDepth 100000 in
theorem tp_313 : Cond.code M_X5_init.1 M_X5_init.2.1 M_X5_init.2.2.1 M_X5_init.2.2.2 ∈ gtbl := g_of (List.mem_of_getElem? (i := 313) rfl) rfl
theorem cb_X5_init : CalB M_X5_init 2 := ⟨tp_313, tp_64, ⟨by decide +kernel, by decide +kernel, by decide +kernel⟩, by decide⟩
theorem tp_312 : Cond.instanceMethod yX5_init ∈ gtbl := g_of (List.mem_of_getElem? (i := 312) (by decide +kernel)) rfl
theorem tp_511 : Cond.methodLink RX3 62 yX5_readWholeOffer ∈ gtbl := g_of (List.mem_of_getElem? (i := 511) (by decide +kernel)) rfl
set_option maxRecDepth 100000 in
theorem tp_331 : Cond.code M_X5_readWholeOffer.1 M_X5_readWholeOffer.2.1 M_X5_readWholeOffer.2.2.1 M_X5_readWholeOffer.2.2.2 ∈ gtbl := g_of (List.mem_of_getElem? (i := 331) rfl) rfl
theorem cb_X5_readWholeOffer : CalB M_X5_readWholeOffer 1 := ⟨tp_331, tp_64, ⟨by decide +kernel, by decide +kernel, by decide +kernel⟩, by decide⟩
theorem tp_329 : Cond.instanceMethod yX5_readWholeOffer ∈ gtbl := g_of (List.mem_of_getElem? (i := 329) (by decide +kernel)) rfl
theorem tp_330 : Cond.selects yX5_readWholeOffer.cls yX5_readWholeOffer yX5_readWholeOffer ∈ gtbl := g_of (List.mem_of_getElem? (i := 330) (by decide +kernel)) rfl
theorem tp_510 : Cond.methodLink RX3 58 yX5_readWholeGoal ∈ gtbl := g_of (List.mem_of_getElem? (i := 510) (by decide +kernel)) rfl
set_option maxRecDepth 100000 in
theorem tp_389 : Cond.code M_X5_readWholeGoal.1 M_X5_readWholeGoal.2.1 M_X5_readWholeGoal.2.2.1 M_X5_readWholeGoal.2.2.2 ∈ gtbl := g_of (List.mem_of_getElem? (i := 389) rfl) rfl
theorem cb_X5_readWholeGoal : CalB M_X5_readWholeGoal 0 := ⟨tp_389, tp_64, ⟨by decide +kernel, by decide +kernel, by decide +kernel⟩, by decide⟩
theorem tp_387 : Cond.instanceMethod yX5_readWholeGoal ∈ gtbl := g_of (List.mem_of_getElem? (i := 387) (by decide +kernel)) rfl
theorem tp_388 : Cond.selects yX5_readWholeGoal.cls yX5_readWholeGoal yX5_readWholeGoal ∈ gtbl := g_of (List.mem_of_getElem? (i := 388) (by decide +kernel)) rfl
theorem tp_502 : Cond.methodLink RX3 38 yX3_clear ∈ gtbl := g_of (List.mem_of_getElem? (i := 502) (by decide +kernel)) rfl
set_option maxRecDepth 100000 in
theorem tp_308 : Cond.code M_X3_clear.1 M_X3_clear.2.1 M_X3_clear.2.2.1 M_X3_clear.2.2.2 ∈ gtbl := g_of (List.mem_of_getElem? (i := 308) rfl) rfl
theorem cb_X3_clear : CalB M_X3_clear 0 := ⟨tp_308, tp_58, ⟨by decide +kernel, by decide +kernel, by decide +kernel⟩, by decide⟩
theorem tp_306 : Cond.instanceMethod yX3_clear ∈ gtbl := g_of (List.mem_of_getElem? (i := 306) (by decide +kernel)) rfl
theorem tp_307 : Cond.selects yX3_clear.cls yX3_clear yX3_clear ∈ gtbl := g_of (List.mem_of_getElem? (i := 307) (by decide +kernel)) rfl
theorem tp_144 : Cond.fieldLink RX4 18 "OnceProver$Reach" "apart" "[J" ∈ gtbl := g_of (List.mem_of_getElem? (i := 144) (by decide +kernel)) rfl
theorem fl_X4_18 : FL RX4 18 4 3 := ⟨kf4, by decide, tp_144⟩
theorem tp_140 : Cond.methodLink RX4 3 objectInit ∈ gtbl := g_of (List.mem_of_getElem? (i := 140) (by decide +kernel)) rfl
theorem tp_157 : Cond.arrayClass .long ∈ gtbl := g_of (List.mem_of_getElem? (i := 157) (by decide +kernel)) rfl
theorem tp_143 : Cond.fieldLink RX4 15 "OnceProver$Reach" "allSets" "[J" ∈ gtbl := g_of (List.mem_of_getElem? (i := 143) (by decide +kernel)) rfl
theorem fl_X4_15 : FL RX4 15 4 2 := ⟨kf4, by decide, tp_143⟩
theorem tp_141 : Cond.fieldLink RX4 25 "OnceProver$Reach" "plan" "LOnceProver$Plan;" ∈ gtbl := g_of (List.mem_of_getElem? (i := 141) (by decide +kernel)) rfl
theorem fl_X4_25 : FL RX4 25 4 0 := ⟨kf4, by decide, tp_141⟩
theorem tp_520 : Cond.methodLink RX4 62 yX3_singles ∈ gtbl := g_of (List.mem_of_getElem? (i := 520) (by decide +kernel)) rfl
set_option maxRecDepth 100000 in
theorem tp_523 : Cond.code M_X3_singles.1 M_X3_singles.2.1 M_X3_singles.2.2.1 M_X3_singles.2.2.2 ∈ gtbl := g_of (List.mem_of_getElem? (i := 523) rfl) rfl
theorem cb_X3_singles : CalB M_X3_singles 0 := ⟨tp_523, tp_58, ⟨by decide +kernel, by decide +kernel, by decide +kernel⟩, by decide⟩
theorem tp_521 : Cond.instanceMethod yX3_singles ∈ gtbl := g_of (List.mem_of_getElem? (i := 521) (by decide +kernel)) rfl
theorem tp_522 : Cond.selects yX3_singles.cls yX3_singles yX3_singles ∈ gtbl := g_of (List.mem_of_getElem? (i := 522) (by decide +kernel)) rfl
theorem tp_556 : Cond.methodLink RX4 117 yX4_orWord ∈ gtbl := g_of (List.mem_of_getElem? (i := 556) (by decide +kernel)) rfl
set_option maxRecDepth 100000 in
theorem tp_559 : Cond.code M_X4_orWord.1 M_X4_orWord.2.1 M_X4_orWord.2.2.1 M_X4_orWord.2.2.2 ∈ gtbl := g_of (List.mem_of_getElem? (i := 559) rfl) rfl
theorem cb_X4_orWord : CalB M_X4_orWord 3 := ⟨tp_559, tp_59, ⟨by decide +kernel, by decide +kernel, by decide +kernel⟩, by decide⟩
theorem tp_558 : Cond.instanceMethod yX4_orWord ∈ gtbl := g_of (List.mem_of_getElem? (i := 558) (by decide +kernel)) rfl
theorem tp_22 : Cond.selects yX4_orWord.cls yX4_orWord yX4_orWord ∈ gtbl := g_of (List.mem_of_getElem? (i := 22) (by decide +kernel)) rfl
theorem tp_576 : Cond.methodLink RX4 93 yX4_addMoved ∈ gtbl := g_of (List.mem_of_getElem? (i := 576) (by decide +kernel)) rfl
set_option maxRecDepth 100000 in
theorem tp_579 : Cond.code M_X4_addMoved.1 M_X4_addMoved.2.1 M_X4_addMoved.2.2.1 M_X4_addMoved.2.2.2 ∈ gtbl := g_of (List.mem_of_getElem? (i := 579) rfl) rfl
theorem cb_X4_addMoved : CalB M_X4_addMoved 3 := ⟨tp_579, tp_59, ⟨by decide +kernel, by decide +kernel, by decide +kernel⟩, by decide⟩
theorem tp_578 : Cond.instanceMethod yX4_addMoved ∈ gtbl := g_of (List.mem_of_getElem? (i := 578) (by decide +kernel)) rfl
theorem tp_27 : Cond.selects yX4_addMoved.cls yX4_addMoved yX4_addMoved ∈ gtbl := g_of (List.mem_of_getElem? (i := 27) (by decide +kernel)) rfl
theorem tp_597 : Cond.methodLink RX4 106 yX3_hasHead ∈ gtbl := g_of (List.mem_of_getElem? (i := 597) (by decide +kernel)) rfl
theorem tp_601 : Cond.methodLink RX4 110 yX3_body ∈ gtbl := g_of (List.mem_of_getElem? (i := 601) (by decide +kernel)) rfl
theorem tp_552 : Cond.methodLink RX4 80 yX4_add ∈ gtbl := g_of (List.mem_of_getElem? (i := 552) (by decide +kernel)) rfl
set_option maxRecDepth 100000 in
theorem tp_555 : Cond.code M_X4_add.1 M_X4_add.2.1 M_X4_add.2.2.1 M_X4_add.2.2.2 ∈ gtbl := g_of (List.mem_of_getElem? (i := 555) rfl) rfl
theorem cb_X4_add : CalB M_X4_add 2 := ⟨tp_555, tp_59, ⟨by decide +kernel, by decide +kernel, by decide +kernel⟩, by decide⟩
theorem tp_554 : Cond.instanceMethod yX4_add ∈ gtbl := g_of (List.mem_of_getElem? (i := 554) (by decide +kernel)) rfl
theorem tp_21 : Cond.selects yX4_add.cls yX4_add yX4_add ∈ gtbl := g_of (List.mem_of_getElem? (i := 21) (by decide +kernel)) rfl
theorem tp_532 : Cond.methodLink RX4 65 yX3_first ∈ gtbl := g_of (List.mem_of_getElem? (i := 532) (by decide +kernel)) rfl
theorem tp_540 : Cond.methodLink RX4 69 yX3_second ∈ gtbl := g_of (List.mem_of_getElem? (i := 540) (by decide +kernel)) rfl
theorem tp_544 : Cond.methodLink RX4 72 yX4_clearRow ∈ gtbl := g_of (List.mem_of_getElem? (i := 544) (by decide +kernel)) rfl
set_option maxRecDepth 100000 in
theorem tp_547 : Cond.code M_X4_clearRow.1 M_X4_clearRow.2.1 M_X4_clearRow.2.2.1 M_X4_clearRow.2.2.2 ∈ gtbl := g_of (List.mem_of_getElem? (i := 547) rfl) rfl
theorem cb_X4_clearRow : CalB M_X4_clearRow 1 := ⟨tp_547, tp_59, ⟨by decide +kernel, by decide +kernel, by decide +kernel⟩, by decide⟩
theorem tp_546 : Cond.instanceMethod yX4_clearRow ∈ gtbl := g_of (List.mem_of_getElem? (i := 546) (by decide +kernel)) rfl
theorem tp_20 : Cond.selects yX4_clearRow.cls yX4_clearRow yX4_clearRow ∈ gtbl := g_of (List.mem_of_getElem? (i := 20) (by decide +kernel)) rfl
theorem tp_548 : Cond.methodLink RX4 76 yX3_kind ∈ gtbl := g_of (List.mem_of_getElem? (i := 548) (by decide +kernel)) rfl
theorem tp_580 : Cond.methodLink RX4 90 yX4_addShared ∈ gtbl := g_of (List.mem_of_getElem? (i := 580) (by decide +kernel)) rfl
set_option maxRecDepth 100000 in
theorem tp_583 : Cond.code M_X4_addShared.1 M_X4_addShared.2.1 M_X4_addShared.2.2.1 M_X4_addShared.2.2.2 ∈ gtbl := g_of (List.mem_of_getElem? (i := 583) rfl) rfl
theorem cb_X4_addShared : CalB M_X4_addShared 3 := ⟨tp_583, tp_59, ⟨by decide +kernel, by decide +kernel, by decide +kernel⟩, by decide⟩
theorem tp_582 : Cond.instanceMethod yX4_addShared ∈ gtbl := g_of (List.mem_of_getElem? (i := 582) (by decide +kernel)) rfl
theorem tp_28 : Cond.selects yX4_addShared.cls yX4_addShared yX4_addShared ∈ gtbl := g_of (List.mem_of_getElem? (i := 28) (by decide +kernel)) rfl
theorem tp_572 : Cond.methodLink RX4 86 yX4_addUnions ∈ gtbl := g_of (List.mem_of_getElem? (i := 572) (by decide +kernel)) rfl
set_option maxRecDepth 100000 in
theorem tp_575 : Cond.code M_X4_addUnions.1 M_X4_addUnions.2.1 M_X4_addUnions.2.2.1 M_X4_addUnions.2.2.2 ∈ gtbl := g_of (List.mem_of_getElem? (i := 575) rfl) rfl
theorem cb_X4_addUnions : CalB M_X4_addUnions 3 := ⟨tp_575, tp_59, ⟨by decide +kernel, by decide +kernel, by decide +kernel⟩, by decide⟩
theorem tp_574 : Cond.instanceMethod yX4_addUnions ∈ gtbl := g_of (List.mem_of_getElem? (i := 574) (by decide +kernel)) rfl
theorem tp_26 : Cond.selects yX4_addUnions.cls yX4_addUnions yX4_addUnions ∈ gtbl := g_of (List.mem_of_getElem? (i := 26) (by decide +kernel)) rfl
theorem tp_560 : Cond.methodLink RX4 83 yX4_addAllSets ∈ gtbl := g_of (List.mem_of_getElem? (i := 560) (by decide +kernel)) rfl
set_option maxRecDepth 100000 in
theorem tp_563 : Cond.code M_X4_addAllSets.1 M_X4_addAllSets.2.1 M_X4_addAllSets.2.2.1 M_X4_addAllSets.2.2.2 ∈ gtbl := g_of (List.mem_of_getElem? (i := 563) rfl) rfl
theorem cb_X4_addAllSets : CalB M_X4_addAllSets 1 := ⟨tp_563, tp_59, ⟨by decide +kernel, by decide +kernel, by decide +kernel⟩, by decide⟩
theorem tp_562 : Cond.instanceMethod yX4_addAllSets ∈ gtbl := g_of (List.mem_of_getElem? (i := 562) (by decide +kernel)) rfl
theorem tp_23 : Cond.selects yX4_addAllSets.cls yX4_addAllSets yX4_addAllSets ∈ gtbl := g_of (List.mem_of_getElem? (i := 23) (by decide +kernel)) rfl
theorem tp_584 : Cond.methodLink RX4 96 yX3_loanBit ∈ gtbl := g_of (List.mem_of_getElem? (i := 584) (by decide +kernel)) rfl
theorem tp_589 : Cond.methodLink RX4 99 yX4_addReduced ∈ gtbl := g_of (List.mem_of_getElem? (i := 589) (by decide +kernel)) rfl
set_option maxRecDepth 100000 in
theorem tp_592 : Cond.code M_X4_addReduced.1 M_X4_addReduced.2.1 M_X4_addReduced.2.2.1 M_X4_addReduced.2.2.2 ∈ gtbl := g_of (List.mem_of_getElem? (i := 592) rfl) rfl
theorem cb_X4_addReduced : CalB M_X4_addReduced 3 := ⟨tp_592, tp_59, ⟨by decide +kernel, by decide +kernel, by decide +kernel⟩, by decide⟩
theorem tp_591 : Cond.instanceMethod yX4_addReduced ∈ gtbl := g_of (List.mem_of_getElem? (i := 591) (by decide +kernel)) rfl
theorem tp_29 : Cond.selects yX4_addReduced.cls yX4_addReduced yX4_addReduced ∈ gtbl := g_of (List.mem_of_getElem? (i := 29) (by decide +kernel)) rfl
theorem tp_593 : Cond.methodLink RX4 102 yX4_addAtom ∈ gtbl := g_of (List.mem_of_getElem? (i := 593) (by decide +kernel)) rfl
set_option maxRecDepth 100000 in
theorem tp_596 : Cond.code M_X4_addAtom.1 M_X4_addAtom.2.1 M_X4_addAtom.2.2.1 M_X4_addAtom.2.2.2 ∈ gtbl := g_of (List.mem_of_getElem? (i := 596) rfl) rfl
theorem cb_X4_addAtom : CalB M_X4_addAtom 3 := ⟨tp_596, tp_59, ⟨by decide +kernel, by decide +kernel, by decide +kernel⟩, by decide⟩
theorem tp_595 : Cond.instanceMethod yX4_addAtom ∈ gtbl := g_of (List.mem_of_getElem? (i := 595) (by decide +kernel)) rfl
theorem tp_30 : Cond.selects yX4_addAtom.cls yX4_addAtom yX4_addAtom ∈ gtbl := g_of (List.mem_of_getElem? (i := 30) (by decide +kernel)) rfl
theorem tp_524 : Cond.methodLink RX4 32 yX3_nodes ∈ gtbl := g_of (List.mem_of_getElem? (i := 524) (by decide +kernel)) rfl
set_option maxRecDepth 100000 in
theorem tp_403 : Cond.code M_X3_nodes.1 M_X3_nodes.2.1 M_X3_nodes.2.2.1 M_X3_nodes.2.2.2 ∈ gtbl := g_of (List.mem_of_getElem? (i := 403) rfl) rfl
theorem cb_X3_nodes : CalB M_X3_nodes 0 := ⟨tp_403, tp_58, ⟨by decide +kernel, by decide +kernel, by decide +kernel⟩, by decide⟩
theorem tp_401 : Cond.instanceMethod yX3_nodes ∈ gtbl := g_of (List.mem_of_getElem? (i := 401) (by decide +kernel)) rfl
theorem tp_402 : Cond.selects yX3_nodes.cls yX3_nodes yX3_nodes ∈ gtbl := g_of (List.mem_of_getElem? (i := 402) (by decide +kernel)) rfl
theorem tp_525 : Cond.methodLink RX4 38 yX4_fillRow ∈ gtbl := g_of (List.mem_of_getElem? (i := 525) (by decide +kernel)) rfl
set_option maxRecDepth 100000 in
theorem tp_528 : Cond.code M_X4_fillRow.1 M_X4_fillRow.2.1 M_X4_fillRow.2.2.1 M_X4_fillRow.2.2.2 ∈ gtbl := g_of (List.mem_of_getElem? (i := 528) rfl) rfl
theorem cb_X4_fillRow : CalB M_X4_fillRow 2 := ⟨tp_528, tp_59, ⟨by decide +kernel, by decide +kernel, by decide +kernel⟩, by decide⟩
theorem tp_527 : Cond.instanceMethod yX4_fillRow ∈ gtbl := g_of (List.mem_of_getElem? (i := 527) (by decide +kernel)) rfl
theorem tp_18 : Cond.selects yX4_fillRow.cls yX4_fillRow yX4_fillRow ∈ gtbl := g_of (List.mem_of_getElem? (i := 18) (by decide +kernel)) rfl
theorem tp_605 : Cond.methodLink RX4 42 yX4_hasGrown ∈ gtbl := g_of (List.mem_of_getElem? (i := 605) (by decide +kernel)) rfl
set_option maxRecDepth 100000 in
theorem tp_608 : Cond.code M_X4_hasGrown.1 M_X4_hasGrown.2.1 M_X4_hasGrown.2.2.1 M_X4_hasGrown.2.2.2 ∈ gtbl := g_of (List.mem_of_getElem? (i := 608) rfl) rfl
theorem cb_X4_hasGrown : CalB M_X4_hasGrown 2 := ⟨tp_608, tp_59, ⟨by decide +kernel, by decide +kernel, by decide +kernel⟩, by decide⟩
theorem tp_607 : Cond.instanceMethod yX4_hasGrown ∈ gtbl := g_of (List.mem_of_getElem? (i := 607) (by decide +kernel)) rfl
theorem tp_31 : Cond.selects yX4_hasGrown.cls yX4_hasGrown yX4_hasGrown ∈ gtbl := g_of (List.mem_of_getElem? (i := 31) (by decide +kernel)) rfl
theorem tp_516 : Cond.methodLink RX4 29 yX4_findAllSets ∈ gtbl := g_of (List.mem_of_getElem? (i := 516) (by decide +kernel)) rfl
set_option maxRecDepth 100000 in
theorem tp_519 : Cond.code M_X4_findAllSets.1 M_X4_findAllSets.2.1 M_X4_findAllSets.2.2.1 M_X4_findAllSets.2.2.2 ∈ gtbl := g_of (List.mem_of_getElem? (i := 519) rfl) rfl
theorem cb_X4_findAllSets : CalB M_X4_findAllSets 0 := ⟨tp_519, tp_59, ⟨by decide +kernel, by decide +kernel, by decide +kernel⟩, by decide⟩
theorem tp_518 : Cond.instanceMethod yX4_findAllSets ∈ gtbl := g_of (List.mem_of_getElem? (i := 518) (by decide +kernel)) rfl
theorem tp_17 : Cond.selects yX4_findAllSets.cls yX4_findAllSets yX4_findAllSets ∈ gtbl := g_of (List.mem_of_getElem? (i := 17) (by decide +kernel)) rfl
theorem tp_95 : Cond.methodLink RX6 3 objectInit ∈ gtbl := g_of (List.mem_of_getElem? (i := 95) (by decide +kernel)) rfl
theorem tp_96 : Cond.classLink RX6 9 RX1 ∈ gtbl := g_of (List.mem_of_getElem? (i := 96) (by decide +kernel)) rfl
theorem tp_426 : Cond.methodLink RX6 17 yX6_at ∈ gtbl := g_of (List.mem_of_getElem? (i := 426) (by decide +kernel)) rfl
theorem tp_430 : Cond.methodLink RX6 21 yX1_nodes ∈ gtbl := g_of (List.mem_of_getElem? (i := 430) (by decide +kernel)) rfl
set_option maxRecDepth 100000 in
theorem tp_433 : Cond.code M_X1_nodes.1 M_X1_nodes.2.1 M_X1_nodes.2.2.1 M_X1_nodes.2.2.2 ∈ gtbl := g_of (List.mem_of_getElem? (i := 433) rfl) rfl
theorem cb_X1_nodes : CalB M_X1_nodes 0 := ⟨tp_433, tp_67, ⟨by decide +kernel, by decide +kernel, by decide +kernel⟩, by decide⟩
theorem tp_431 : Cond.instanceMethod yX1_nodes ∈ gtbl := g_of (List.mem_of_getElem? (i := 431) (by decide +kernel)) rfl
theorem tp_432 : Cond.selects yX1_nodes.cls yX1_nodes yX1_nodes ∈ gtbl := g_of (List.mem_of_getElem? (i := 432) (by decide +kernel)) rfl
theorem tp_434 : Cond.methodLink RX6 25 yX1_loans ∈ gtbl := g_of (List.mem_of_getElem? (i := 434) (by decide +kernel)) rfl
set_option maxRecDepth 100000 in
theorem tp_437 : Cond.code M_X1_loans.1 M_X1_loans.2.1 M_X1_loans.2.2.1 M_X1_loans.2.2.2 ∈ gtbl := g_of (List.mem_of_getElem? (i := 437) rfl) rfl
theorem cb_X1_loans : CalB M_X1_loans 0 := ⟨tp_437, tp_67, ⟨by decide +kernel, by decide +kernel, by decide +kernel⟩, by decide⟩
theorem tp_435 : Cond.instanceMethod yX1_loans ∈ gtbl := g_of (List.mem_of_getElem? (i := 435) (by decide +kernel)) rfl
theorem tp_436 : Cond.selects yX1_loans.cls yX1_loans yX1_loans ∈ gtbl := g_of (List.mem_of_getElem? (i := 436) (by decide +kernel)) rfl
theorem tp_438 : Cond.methodLink RX6 28 yX6_nodes ∈ gtbl := g_of (List.mem_of_getElem? (i := 438) (by decide +kernel)) rfl
set_option maxRecDepth 100000 in
theorem tp_441 : Cond.code M_X6_nodes.1 M_X6_nodes.2.1 M_X6_nodes.2.2.1 M_X6_nodes.2.2.2 ∈ gtbl := g_of (List.mem_of_getElem? (i := 441) rfl) rfl
theorem cb_X6_nodes : CalB M_X6_nodes 0 := ⟨tp_441, tp_57, ⟨by decide +kernel, by decide +kernel, by decide +kernel⟩, by decide⟩
theorem tp_439 : Cond.instanceMethod yX6_nodes ∈ gtbl := g_of (List.mem_of_getElem? (i := 439) (by decide +kernel)) rfl
theorem tp_440 : Cond.selects yX6_nodes.cls yX6_nodes yX6_nodes ∈ gtbl := g_of (List.mem_of_getElem? (i := 440) (by decide +kernel)) rfl
theorem tp_442 : Cond.methodLink RX6 29 yX6_loans ∈ gtbl := g_of (List.mem_of_getElem? (i := 442) (by decide +kernel)) rfl
set_option maxRecDepth 100000 in
theorem tp_445 : Cond.code M_X6_loans.1 M_X6_loans.2.1 M_X6_loans.2.2.1 M_X6_loans.2.2.2 ∈ gtbl := g_of (List.mem_of_getElem? (i := 445) rfl) rfl
theorem cb_X6_loans : CalB M_X6_loans 0 := ⟨tp_445, tp_57, ⟨by decide +kernel, by decide +kernel, by decide +kernel⟩, by decide⟩
theorem tp_443 : Cond.instanceMethod yX6_loans ∈ gtbl := g_of (List.mem_of_getElem? (i := 443) (by decide +kernel)) rfl
theorem tp_444 : Cond.selects yX6_loans.cls yX6_loans yX6_loans ∈ gtbl := g_of (List.mem_of_getElem? (i := 444) (by decide +kernel)) rfl
theorem tp_81 : Cond.methodLink RX7 3 objectInit ∈ gtbl := g_of (List.mem_of_getElem? (i := 81) (by decide +kernel)) rfl
theorem tp_82 : Cond.fieldLink RX7 9 "OnceProver$Text" "signs" "[C" ∈ gtbl := g_of (List.mem_of_getElem? (i := 82) (by decide +kernel)) rfl
theorem fl_X7_9 : FL RX7 9 7 0 := ⟨kf7, by decide, tp_82⟩
theorem tp_83 : Cond.fieldLink RX7 15 "OnceProver$Text" "length" "I" ∈ gtbl := g_of (List.mem_of_getElem? (i := 83) (by decide +kernel)) rfl
theorem fl_X7_15 : FL RX7 15 7 1 := ⟨kf7, by decide, tp_83⟩
theorem tp_299 : Cond.methodLink RX7 19 Lib.Math.min.name ∈ gtbl := g_of (List.mem_of_getElem? (i := 299) (by decide +kernel)) rfl
theorem tp_302 : Cond.methodLink RX7 25 Lib.Math.max.name ∈ gtbl := g_of (List.mem_of_getElem? (i := 302) (by decide +kernel)) rfl
theorem tp_208 : Cond.methodLink RX8 3 objectInit ∈ gtbl := g_of (List.mem_of_getElem? (i := 208) (by decide +kernel)) rfl
theorem tp_163 : Cond.methodLink RX9 5 objectInit ∈ gtbl := g_of (List.mem_of_getElem? (i := 163) (by decide +kernel)) rfl
theorem tp_164 : Cond.constant RX9 11 153600 ∈ gtbl := g_of (List.mem_of_getElem? (i := 164) (by decide +kernel)) rfl
theorem tp_858 : Cond.methodLink RX9 28 yX3_root ∈ gtbl := g_of (List.mem_of_getElem? (i := 858) (by decide +kernel)) rfl
theorem tp_73 : Cond.methodLink RX10 3 objectInit ∈ gtbl := g_of (List.mem_of_getElem? (i := 73) (by decide +kernel)) rfl
theorem tp_76 : Cond.classLink RX10 9 RX7 ∈ gtbl := g_of (List.mem_of_getElem? (i := 76) (by decide +kernel)) rfl
theorem tp_77 : Cond.instantiable RX7 2 ∈ gtbl := g_of (List.mem_of_getElem? (i := 77) (by decide +kernel)) rfl
theorem tp_56 : Cond.initialized RX7 ∈ gtbl := g_of (List.mem_of_getElem? (i := 56) (by decide +kernel)) rfl
theorem nl_X10_11 : Cond.methodLinkNest RX10 11 yX7_init RX10 ∈ nests := by simp [nests]
set_option maxRecDepth 100000 in
theorem tp_80 : Cond.code M_X7_init.1 M_X7_init.2.1 M_X7_init.2.2.1 M_X7_init.2.2.2 ∈ gtbl := g_of (List.mem_of_getElem? (i := 80) rfl) rfl
theorem cb_X7_init : CalB M_X7_init 0 := ⟨tp_80, tp_56, ⟨by decide +kernel, by decide +kernel, by decide +kernel⟩, by decide⟩
theorem tp_79 : Cond.instanceMethod yX7_init ∈ gtbl := g_of (List.mem_of_getElem? (i := 79) (by decide +kernel)) rfl
theorem tp_238 : Cond.fieldLink RX10 12 "OnceProver" "text" "LOnceProver$Text;" ∈ gtbl := g_of (List.mem_of_getElem? (i := 238) (by decide +kernel)) rfl
theorem fl_X10_12 : FL RX10 12 10 0 := ⟨kf10, by decide, tp_238⟩
theorem tp_90 : Cond.classLink RX10 16 RX6 ∈ gtbl := g_of (List.mem_of_getElem? (i := 90) (by decide +kernel)) rfl
theorem tp_91 : Cond.instantiable RX6 1 ∈ gtbl := g_of (List.mem_of_getElem? (i := 91) (by decide +kernel)) rfl
theorem nl_X10_18 : Cond.methodLinkNest RX10 18 yX6_init RX10 ∈ nests := by simp [nests]
set_option maxRecDepth 100000 in
theorem tp_94 : Cond.code M_X6_init.1 M_X6_init.2.1 M_X6_init.2.2.1 M_X6_init.2.2.2 ∈ gtbl := g_of (List.mem_of_getElem? (i := 94) rfl) rfl
theorem cb_X6_init : CalB M_X6_init 0 := ⟨tp_94, tp_57, ⟨by decide +kernel, by decide +kernel, by decide +kernel⟩, by decide⟩
theorem tp_93 : Cond.instanceMethod yX6_init ∈ gtbl := g_of (List.mem_of_getElem? (i := 93) (by decide +kernel)) rfl
theorem tp_239 : Cond.fieldLink RX10 19 "OnceProver" "stock" "LOnceProver$Stock;" ∈ gtbl := g_of (List.mem_of_getElem? (i := 239) (by decide +kernel)) rfl
theorem fl_X10_19 : FL RX10 19 10 1 := ⟨kf10, by decide, tp_239⟩
theorem tp_240 : Cond.fieldLink RX10 23 "OnceProver" "saved" "[LOnceProver$Stock;" ∈ gtbl := g_of (List.mem_of_getElem? (i := 240) (by decide +kernel)) rfl
theorem fl_X10_23 : FL RX10 23 10 2 := ⟨kf10, by decide, tp_240⟩
theorem tp_103 : Cond.classLink RX10 27 RX3 ∈ gtbl := g_of (List.mem_of_getElem? (i := 103) (by decide +kernel)) rfl
theorem tp_104 : Cond.instantiable RX3 8 ∈ gtbl := g_of (List.mem_of_getElem? (i := 104) (by decide +kernel)) rfl
theorem nl_X10_29 : Cond.methodLinkNest RX10 29 yX3_init RX10 ∈ nests := by simp [nests]
set_option maxRecDepth 100000 in
theorem tp_107 : Cond.code M_X3_init.1 M_X3_init.2.1 M_X3_init.2.2.1 M_X3_init.2.2.2 ∈ gtbl := g_of (List.mem_of_getElem? (i := 107) rfl) rfl
theorem cb_X3_init : CalB M_X3_init 0 := ⟨tp_107, tp_58, ⟨by decide +kernel, by decide +kernel, by decide +kernel⟩, by decide⟩
theorem tp_106 : Cond.instanceMethod yX3_init ∈ gtbl := g_of (List.mem_of_getElem? (i := 106) (by decide +kernel)) rfl
theorem tp_241 : Cond.fieldLink RX10 30 "OnceProver" "sketch" "LOnceProver$Plan;" ∈ gtbl := g_of (List.mem_of_getElem? (i := 241) (by decide +kernel)) rfl
theorem fl_X10_30 : FL RX10 30 10 3 := ⟨kf10, by decide, tp_241⟩
theorem tp_242 : Cond.fieldLink RX10 34 "OnceProver" "plan" "LOnceProver$Plan;" ∈ gtbl := g_of (List.mem_of_getElem? (i := 242) (by decide +kernel)) rfl
theorem fl_X10_34 : FL RX10 34 10 4 := ⟨kf10, by decide, tp_242⟩
theorem tp_135 : Cond.classLink RX10 37 RX4 ∈ gtbl := g_of (List.mem_of_getElem? (i := 135) (by decide +kernel)) rfl
theorem tp_136 : Cond.instantiable RX4 5 ∈ gtbl := g_of (List.mem_of_getElem? (i := 136) (by decide +kernel)) rfl
theorem tp_137 : Cond.methodLink RX10 39 yX4_init ∈ gtbl := g_of (List.mem_of_getElem? (i := 137) (by decide +kernel)) rfl
set_option maxRecDepth 100000 in
theorem tp_139 : Cond.code M_X4_init.1 M_X4_init.2.1 M_X4_init.2.2.1 M_X4_init.2.2.2 ∈ gtbl := g_of (List.mem_of_getElem? (i := 139) rfl) rfl
theorem cb_X4_init : CalB M_X4_init 1 := ⟨tp_139, tp_59, ⟨by decide +kernel, by decide +kernel, by decide +kernel⟩, by decide⟩
theorem tp_138 : Cond.instanceMethod yX4_init ∈ gtbl := g_of (List.mem_of_getElem? (i := 138) (by decide +kernel)) rfl
theorem tp_243 : Cond.fieldLink RX10 42 "OnceProver" "reach" "LOnceProver$Reach;" ∈ gtbl := g_of (List.mem_of_getElem? (i := 243) (by decide +kernel)) rfl
theorem fl_X10_42 : FL RX10 42 10 5 := ⟨kf10, by decide, tp_243⟩
theorem tp_158 : Cond.classLink RX10 46 RX9 ∈ gtbl := g_of (List.mem_of_getElem? (i := 158) (by decide +kernel)) rfl
theorem tp_159 : Cond.instantiable RX9 4 ∈ gtbl := g_of (List.mem_of_getElem? (i := 159) (by decide +kernel)) rfl
theorem tp_160 : Cond.methodLink RX10 48 yX9_init ∈ gtbl := g_of (List.mem_of_getElem? (i := 160) (by decide +kernel)) rfl
set_option maxRecDepth 100000 in
theorem tp_162 : Cond.code M_X9_init.1 M_X9_init.2.1 M_X9_init.2.2.1 M_X9_init.2.2.2 ∈ gtbl := g_of (List.mem_of_getElem? (i := 162) rfl) rfl
theorem cb_X9_init : CalB M_X9_init 2 := ⟨tp_162, tp_60, ⟨by decide +kernel, by decide +kernel, by decide +kernel⟩, by decide⟩
theorem tp_161 : Cond.instanceMethod yX9_init ∈ gtbl := g_of (List.mem_of_getElem? (i := 161) (by decide +kernel)) rfl
theorem tp_244 : Cond.fieldLink RX10 51 "OnceProver" "tallies" "LOnceProver$Ways;" ∈ gtbl := g_of (List.mem_of_getElem? (i := 244) (by decide +kernel)) rfl
theorem fl_X10_51 : FL RX10 51 10 6 := ⟨kf10, by decide, tp_244⟩
theorem tp_178 : Cond.classLink RX10 55 RX0 ∈ gtbl := g_of (List.mem_of_getElem? (i := 178) (by decide +kernel)) rfl
theorem tp_179 : Cond.instantiable RX0 6 ∈ gtbl := g_of (List.mem_of_getElem? (i := 179) (by decide +kernel)) rfl
theorem tp_180 : Cond.methodLink RX10 57 yX0_init ∈ gtbl := g_of (List.mem_of_getElem? (i := 180) (by decide +kernel)) rfl
set_option maxRecDepth 100000 in
theorem tp_182 : Cond.code M_X0_init.1 M_X0_init.2.1 M_X0_init.2.2.1 M_X0_init.2.2.2 ∈ gtbl := g_of (List.mem_of_getElem? (i := 182) rfl) rfl
theorem cb_X0_init : CalB M_X0_init 2 := ⟨tp_182, tp_61, ⟨by decide +kernel, by decide +kernel, by decide +kernel⟩, by decide⟩
theorem tp_181 : Cond.instanceMethod yX0_init ∈ gtbl := g_of (List.mem_of_getElem? (i := 181) (by decide +kernel)) rfl
theorem tp_245 : Cond.fieldLink RX10 58 "OnceProver" "firstProof" "LOnceProver$FirstProof;" ∈ gtbl := g_of (List.mem_of_getElem? (i := 245) (by decide +kernel)) rfl
theorem fl_X10_58 : FL RX10 58 10 7 := ⟨kf10, by decide, tp_245⟩
theorem tp_203 : Cond.classLink RX10 62 RX8 ∈ gtbl := g_of (List.mem_of_getElem? (i := 203) (by decide +kernel)) rfl
theorem tp_204 : Cond.instantiable RX8 2 ∈ gtbl := g_of (List.mem_of_getElem? (i := 204) (by decide +kernel)) rfl
theorem nl_X10_64 : Cond.methodLinkNest RX10 64 yX8_init RX10 ∈ nests := by simp [nests]
set_option maxRecDepth 100000 in
theorem tp_207 : Cond.code M_X8_init.1 M_X8_init.2.1 M_X8_init.2.2.1 M_X8_init.2.2.2 ∈ gtbl := g_of (List.mem_of_getElem? (i := 207) rfl) rfl
theorem cb_X8_init : CalB M_X8_init 0 := ⟨tp_207, tp_62, ⟨by decide +kernel, by decide +kernel, by decide +kernel⟩, by decide⟩
theorem tp_206 : Cond.instanceMethod yX8_init ∈ gtbl := g_of (List.mem_of_getElem? (i := 206) (by decide +kernel)) rfl
theorem tp_246 : Cond.fieldLink RX10 65 "OnceProver" "attempt" "LOnceProver$Trial;" ∈ gtbl := g_of (List.mem_of_getElem? (i := 246) (by decide +kernel)) rfl
theorem fl_X10_65 : FL RX10 65 10 8 := ⟨kf10, by decide, tp_246⟩
theorem tp_216 : Cond.classLink RX10 69 RX2 ∈ gtbl := g_of (List.mem_of_getElem? (i := 216) (by decide +kernel)) rfl
theorem tp_217 : Cond.instantiable RX2 5 ∈ gtbl := g_of (List.mem_of_getElem? (i := 217) (by decide +kernel)) rfl
theorem tp_218 : Cond.methodLink RX10 71 yX2_init ∈ gtbl := g_of (List.mem_of_getElem? (i := 218) (by decide +kernel)) rfl
set_option maxRecDepth 100000 in
theorem tp_220 : Cond.code M_X2_init.1 M_X2_init.2.1 M_X2_init.2.2.1 M_X2_init.2.2.2 ∈ gtbl := g_of (List.mem_of_getElem? (i := 220) rfl) rfl
theorem cb_X2_init : CalB M_X2_init 2 := ⟨tp_220, tp_63, ⟨by decide +kernel, by decide +kernel, by decide +kernel⟩, by decide⟩
theorem tp_219 : Cond.instanceMethod yX2_init ∈ gtbl := g_of (List.mem_of_getElem? (i := 219) (by decide +kernel)) rfl
theorem tp_247 : Cond.fieldLink RX10 74 "OnceProver" "judge" "LOnceProver$Judge;" ∈ gtbl := g_of (List.mem_of_getElem? (i := 247) (by decide +kernel)) rfl
theorem fl_X10_74 : FL RX10 74 10 9 := ⟨kf10, by decide, tp_247⟩
theorem tp_248 : Cond.fieldLink RX10 78 "OnceProver" "lastFault" "I" ∈ gtbl := g_of (List.mem_of_getElem? (i := 248) (by decide +kernel)) rfl
theorem fl_X10_78 : FL RX10 78 10 10 := ⟨kf10, by decide, tp_248⟩
theorem tp_249 : Cond.fieldLink RX10 82 "OnceProver" "stale" "Z" ∈ gtbl := g_of (List.mem_of_getElem? (i := 249) (by decide +kernel)) rfl
theorem fl_X10_82 : FL RX10 82 10 11 := ⟨kf10, by decide, tp_249⟩
theorem tp_821 : Cond.methodLink RX10 86 yX7_append ∈ gtbl := g_of (List.mem_of_getElem? (i := 821) (by decide +kernel)) rfl
set_option maxRecDepth 100000 in
theorem tp_824 : Cond.code M_X7_append.1 M_X7_append.2.1 M_X7_append.2.2.1 M_X7_append.2.2.2 ∈ gtbl := g_of (List.mem_of_getElem? (i := 824) rfl) rfl
theorem cb_X7_append : CalB M_X7_append 1 := ⟨tp_824, tp_56, ⟨by decide +kernel, by decide +kernel, by decide +kernel⟩, by decide⟩
theorem tp_822 : Cond.instanceMethod yX7_append ∈ gtbl := g_of (List.mem_of_getElem? (i := 822) (by decide +kernel)) rfl
theorem tp_823 : Cond.selects yX7_append.cls yX7_append yX7_append ∈ gtbl := g_of (List.mem_of_getElem? (i := 823) (by decide +kernel)) rfl
theorem tp_279 : Cond.methodLink RX10 90 yX7_length ∈ gtbl := g_of (List.mem_of_getElem? (i := 279) (by decide +kernel)) rfl
set_option maxRecDepth 100000 in
theorem tp_282 : Cond.code M_X7_length.1 M_X7_length.2.1 M_X7_length.2.2.1 M_X7_length.2.2.2 ∈ gtbl := g_of (List.mem_of_getElem? (i := 282) rfl) rfl
theorem cb_X7_length : CalB M_X7_length 0 := ⟨tp_282, tp_56, ⟨by decide +kernel, by decide +kernel, by decide +kernel⟩, by decide⟩
theorem tp_280 : Cond.instanceMethod yX7_length ∈ gtbl := g_of (List.mem_of_getElem? (i := 280) (by decide +kernel)) rfl
theorem tp_281 : Cond.selects yX7_length.cls yX7_length yX7_length ∈ gtbl := g_of (List.mem_of_getElem? (i := 281) (by decide +kernel)) rfl
theorem tp_283 : Cond.methodLink RX10 94 yX7_clear ∈ gtbl := g_of (List.mem_of_getElem? (i := 283) (by decide +kernel)) rfl
set_option maxRecDepth 100000 in
theorem tp_286 : Cond.code M_X7_clear.1 M_X7_clear.2.1 M_X7_clear.2.2.1 M_X7_clear.2.2.2 ∈ gtbl := g_of (List.mem_of_getElem? (i := 286) rfl) rfl
theorem cb_X7_clear : CalB M_X7_clear 0 := ⟨tp_286, tp_56, ⟨by decide +kernel, by decide +kernel, by decide +kernel⟩, by decide⟩
theorem tp_284 : Cond.instanceMethod yX7_clear ∈ gtbl := g_of (List.mem_of_getElem? (i := 284) (by decide +kernel)) rfl
theorem tp_285 : Cond.selects yX7_clear.cls yX7_clear yX7_clear ∈ gtbl := g_of (List.mem_of_getElem? (i := 285) (by decide +kernel)) rfl
theorem tp_390 : Cond.methodLink RX10 220 yX5_failed ∈ gtbl := g_of (List.mem_of_getElem? (i := 390) (by decide +kernel)) rfl
set_option maxRecDepth 100000 in
theorem tp_393 : Cond.code M_X5_failed.1 M_X5_failed.2.1 M_X5_failed.2.2.1 M_X5_failed.2.2.2 ∈ gtbl := g_of (List.mem_of_getElem? (i := 393) rfl) rfl
theorem cb_X5_failed : CalB M_X5_failed 0 := ⟨tp_393, tp_64, ⟨by decide +kernel, by decide +kernel, by decide +kernel⟩, by decide⟩
theorem tp_391 : Cond.instanceMethod yX5_failed ∈ gtbl := g_of (List.mem_of_getElem? (i := 391) (by decide +kernel)) rfl
theorem tp_392 : Cond.selects yX5_failed.cls yX5_failed yX5_failed ∈ gtbl := g_of (List.mem_of_getElem? (i := 392) (by decide +kernel)) rfl
theorem tp_398 : Cond.classLink RX10 114 RX1 ∈ gtbl := g_of (List.mem_of_getElem? (i := 398) (by decide +kernel)) rfl
theorem tp_399 : Cond.instantiable RX1 3 ∈ gtbl := g_of (List.mem_of_getElem? (i := 399) (by decide +kernel)) rfl
theorem tp_400 : Cond.methodLink RX10 226 yX3_nodes ∈ gtbl := g_of (List.mem_of_getElem? (i := 400) (by decide +kernel)) rfl
theorem tp_404 : Cond.methodLink RX10 227 yX3_loans ∈ gtbl := g_of (List.mem_of_getElem? (i := 404) (by decide +kernel)) rfl
set_option maxRecDepth 100000 in
theorem tp_407 : Cond.code M_X3_loans.1 M_X3_loans.2.1 M_X3_loans.2.2.1 M_X3_loans.2.2.2 ∈ gtbl := g_of (List.mem_of_getElem? (i := 407) rfl) rfl
theorem cb_X3_loans : CalB M_X3_loans 0 := ⟨tp_407, tp_58, ⟨by decide +kernel, by decide +kernel, by decide +kernel⟩, by decide⟩
theorem tp_405 : Cond.instanceMethod yX3_loans ∈ gtbl := g_of (List.mem_of_getElem? (i := 405) (by decide +kernel)) rfl
theorem tp_406 : Cond.selects yX3_loans.cls yX3_loans yX3_loans ∈ gtbl := g_of (List.mem_of_getElem? (i := 406) (by decide +kernel)) rfl
theorem tp_408 : Cond.methodLink RX10 228 yX1_init ∈ gtbl := g_of (List.mem_of_getElem? (i := 408) (by decide +kernel)) rfl
set_option maxRecDepth 100000 in
theorem tp_410 : Cond.code M_X1_init.1 M_X1_init.2.1 M_X1_init.2.2.1 M_X1_init.2.2.2 ∈ gtbl := g_of (List.mem_of_getElem? (i := 410) rfl) rfl
theorem cb_X1_init : CalB M_X1_init 3 := ⟨tp_410, tp_67, ⟨by decide +kernel, by decide +kernel, by decide +kernel⟩, by decide⟩
theorem tp_409 : Cond.instanceMethod yX1_init ∈ gtbl := g_of (List.mem_of_getElem? (i := 409) (by decide +kernel)) rfl
theorem tp_394 : Cond.methodLink RX10 223 yX5_faultPlace ∈ gtbl := g_of (List.mem_of_getElem? (i := 394) (by decide +kernel)) rfl
set_option maxRecDepth 100000 in
theorem tp_397 : Cond.code M_X5_faultPlace.1 M_X5_faultPlace.2.1 M_X5_faultPlace.2.2.1 M_X5_faultPlace.2.2.2 ∈ gtbl := g_of (List.mem_of_getElem? (i := 397) rfl) rfl
theorem cb_X5_faultPlace : CalB M_X5_faultPlace 0 := ⟨tp_397, tp_64, ⟨by decide +kernel, by decide +kernel, by decide +kernel⟩, by decide⟩
theorem tp_395 : Cond.instanceMethod yX5_faultPlace ∈ gtbl := g_of (List.mem_of_getElem? (i := 395) (by decide +kernel)) rfl
theorem tp_396 : Cond.selects yX5_faultPlace.cls yX5_faultPlace yX5_faultPlace ∈ gtbl := g_of (List.mem_of_getElem? (i := 396) (by decide +kernel)) rfl
theorem tp_295 : Cond.methodLink RX10 204 yX7_copy ∈ gtbl := g_of (List.mem_of_getElem? (i := 295) (by decide +kernel)) rfl
set_option maxRecDepth 100000 in
theorem tp_298 : Cond.code M_X7_copy.1 M_X7_copy.2.1 M_X7_copy.2.2.1 M_X7_copy.2.2.2 ∈ gtbl := g_of (List.mem_of_getElem? (i := 298) rfl) rfl
theorem cb_X7_copy : CalB M_X7_copy 0 := ⟨tp_298, tp_56, ⟨by decide +kernel, by decide +kernel, by decide +kernel⟩, by decide⟩
theorem tp_296 : Cond.instanceMethod yX7_copy ∈ gtbl := g_of (List.mem_of_getElem? (i := 296) (by decide +kernel)) rfl
theorem tp_297 : Cond.selects yX7_copy.cls yX7_copy yX7_copy ∈ gtbl := g_of (List.mem_of_getElem? (i := 297) (by decide +kernel)) rfl
theorem tp_305 : Cond.methodLink RX10 208 yX3_clear ∈ gtbl := g_of (List.mem_of_getElem? (i := 305) (by decide +kernel)) rfl
theorem tp_309 : Cond.classLink RX10 209 RX5 ∈ gtbl := g_of (List.mem_of_getElem? (i := 309) (by decide +kernel)) rfl
theorem tp_311 : Cond.methodLink RX10 211 yX5_init ∈ gtbl := g_of (List.mem_of_getElem? (i := 311) (by decide +kernel)) rfl
theorem tp_386 : Cond.methodLink RX10 217 yX5_readWholeGoal ∈ gtbl := g_of (List.mem_of_getElem? (i := 386) (by decide +kernel)) rfl
theorem tp_328 : Cond.methodLink RX10 214 yX5_readWholeOffer ∈ gtbl := g_of (List.mem_of_getElem? (i := 328) (by decide +kernel)) rfl
theorem tp_450 : Cond.methodLink RX10 234 yX6_set ∈ gtbl := g_of (List.mem_of_getElem? (i := 450) (by decide +kernel)) rfl
set_option maxRecDepth 100000 in
theorem tp_453 : Cond.code M_X6_set.1 M_X6_set.2.1 M_X6_set.2.2.1 M_X6_set.2.2.2 ∈ gtbl := g_of (List.mem_of_getElem? (i := 453) rfl) rfl
theorem cb_X6_set : CalB M_X6_set 2 := ⟨tp_453, tp_57, ⟨by decide +kernel, by decide +kernel, by decide +kernel⟩, by decide⟩
theorem tp_451 : Cond.instanceMethod yX6_set ∈ gtbl := g_of (List.mem_of_getElem? (i := 451) (by decide +kernel)) rfl
theorem tp_452 : Cond.selects yX6_set.cls yX6_set yX6_set ∈ gtbl := g_of (List.mem_of_getElem? (i := 452) (by decide +kernel)) rfl
theorem tp_291 : Cond.methodLink RX10 101 yX10_readText ∈ gtbl := g_of (List.mem_of_getElem? (i := 291) (by decide +kernel)) rfl
set_option maxRecDepth 100000 in
theorem tp_294 : Cond.code M_X10_readText.1 M_X10_readText.2.1 M_X10_readText.2.2.1 M_X10_readText.2.2.2 ∈ gtbl := g_of (List.mem_of_getElem? (i := 294) rfl) rfl
theorem cb_X10_readText : CalB M_X10_readText 1 := ⟨tp_294, tp_55, ⟨by decide +kernel, by decide +kernel, by decide +kernel⟩, by decide⟩
theorem tp_293 : Cond.instanceMethod yX10_readText ∈ gtbl := g_of (List.mem_of_getElem? (i := 293) (by decide +kernel)) rfl
theorem tp_0 : Cond.selects yX10_readText.cls yX10_readText yX10_readText ∈ gtbl := g_of (List.mem_of_getElem? (i := 0) (by decide +kernel)) rfl
theorem tp_839 : Cond.methodLink RX10 231 yX6_firstFree ∈ gtbl := g_of (List.mem_of_getElem? (i := 839) (by decide +kernel)) rfl
set_option maxRecDepth 100000 in
theorem tp_842 : Cond.code M_X6_firstFree.1 M_X6_firstFree.2.1 M_X6_firstFree.2.2.1 M_X6_firstFree.2.2.2 ∈ gtbl := g_of (List.mem_of_getElem? (i := 842) rfl) rfl
theorem cb_X6_firstFree : CalB M_X6_firstFree 2 := ⟨tp_842, tp_57, ⟨by decide +kernel, by decide +kernel, by decide +kernel⟩, by decide⟩
theorem tp_840 : Cond.instanceMethod yX6_firstFree ∈ gtbl := g_of (List.mem_of_getElem? (i := 840) (by decide +kernel)) rfl
theorem tp_841 : Cond.selects yX6_firstFree.cls yX6_firstFree yX6_firstFree ∈ gtbl := g_of (List.mem_of_getElem? (i := 841) (by decide +kernel)) rfl
theorem tp_422 : Cond.methodLink RX10 105 yX6_hasRoom ∈ gtbl := g_of (List.mem_of_getElem? (i := 422) (by decide +kernel)) rfl
set_option maxRecDepth 100000 in
theorem tp_425 : Cond.code M_X6_hasRoom.1 M_X6_hasRoom.2.1 M_X6_hasRoom.2.2.1 M_X6_hasRoom.2.2.2 ∈ gtbl := g_of (List.mem_of_getElem? (i := 425) rfl) rfl
theorem cb_X6_hasRoom : CalB M_X6_hasRoom 2 := ⟨tp_425, tp_57, ⟨by decide +kernel, by decide +kernel, by decide +kernel⟩, by decide⟩
theorem tp_423 : Cond.instanceMethod yX6_hasRoom ∈ gtbl := g_of (List.mem_of_getElem? (i := 423) (by decide +kernel)) rfl
theorem tp_424 : Cond.selects yX6_hasRoom.cls yX6_hasRoom yX6_hasRoom ∈ gtbl := g_of (List.mem_of_getElem? (i := 424) (by decide +kernel)) rfl
theorem tp_446 : Cond.methodLink RX10 109 yX10_settle ∈ gtbl := g_of (List.mem_of_getElem? (i := 446) (by decide +kernel)) rfl
set_option maxRecDepth 100000 in
theorem tp_449 : Cond.code M_X10_settle.1 M_X10_settle.2.1 M_X10_settle.2.2.1 M_X10_settle.2.2.2 ∈ gtbl := g_of (List.mem_of_getElem? (i := 449) rfl) rfl
theorem cb_X10_settle : CalB M_X10_settle 2 := ⟨tp_449, tp_55, ⟨by decide +kernel, by decide +kernel, by decide +kernel⟩, by decide⟩
theorem tp_448 : Cond.instanceMethod yX10_settle ∈ gtbl := g_of (List.mem_of_getElem? (i := 448) (by decide +kernel)) rfl
theorem tp_10 : Cond.selects yX10_settle.cls yX10_settle yX10_settle ∈ gtbl := g_of (List.mem_of_getElem? (i := 10) (by decide +kernel)) rfl
theorem tp_835 : Cond.methodLink RX10 97 yX10_takeOffer ∈ gtbl := g_of (List.mem_of_getElem? (i := 835) (by decide +kernel)) rfl
set_option maxRecDepth 100000 in
theorem tp_838 : Cond.code M_X10_takeOffer.1 M_X10_takeOffer.2.1 M_X10_takeOffer.2.2.1 M_X10_takeOffer.2.2.2 ∈ gtbl := g_of (List.mem_of_getElem? (i := 838) rfl) rfl
theorem cb_X10_takeOffer : CalB M_X10_takeOffer 2 := ⟨tp_838, tp_55, ⟨by decide +kernel, by decide +kernel, by decide +kernel⟩, by decide⟩
theorem tp_837 : Cond.instanceMethod yX10_takeOffer ∈ gtbl := g_of (List.mem_of_getElem? (i := 837) (by decide +kernel)) rfl
theorem tp_48 : Cond.selects yX10_takeOffer.cls yX10_takeOffer yX10_takeOffer ∈ gtbl := g_of (List.mem_of_getElem? (i := 48) (by decide +kernel)) rfl
theorem tp_454 : Cond.methodLink RX10 113 yX1_nodes ∈ gtbl := g_of (List.mem_of_getElem? (i := 454) (by decide +kernel)) rfl
theorem tp_463 : Cond.methodLink RX10 237 yX6_at ∈ gtbl := g_of (List.mem_of_getElem? (i := 463) (by decide +kernel)) rfl
theorem tp_464 : Cond.methodLink RX10 194 yX6_present ∈ gtbl := g_of (List.mem_of_getElem? (i := 464) (by decide +kernel)) rfl
set_option maxRecDepth 100000 in
theorem tp_467 : Cond.code M_X6_present.1 M_X6_present.2.1 M_X6_present.2.2.1 M_X6_present.2.2.2 ∈ gtbl := g_of (List.mem_of_getElem? (i := 467) rfl) rfl
theorem cb_X6_present : CalB M_X6_present 2 := ⟨tp_467, tp_57, ⟨by decide +kernel, by decide +kernel, by decide +kernel⟩, by decide⟩
theorem tp_465 : Cond.instanceMethod yX6_present ∈ gtbl := g_of (List.mem_of_getElem? (i := 465) (by decide +kernel)) rfl
theorem tp_466 : Cond.selects yX6_present.cls yX6_present yX6_present ∈ gtbl := g_of (List.mem_of_getElem? (i := 466) (by decide +kernel)) rfl
theorem tp_478 : Cond.methodLink RX10 129 yX10_hasGoal ∈ gtbl := g_of (List.mem_of_getElem? (i := 478) (by decide +kernel)) rfl
set_option maxRecDepth 100000 in
theorem tp_481 : Cond.code M_X10_hasGoal.1 M_X10_hasGoal.2.1 M_X10_hasGoal.2.2.1 M_X10_hasGoal.2.2.2 ∈ gtbl := g_of (List.mem_of_getElem? (i := 481) rfl) rfl
theorem cb_X10_hasGoal : CalB M_X10_hasGoal 0 := ⟨tp_481, tp_55, ⟨by decide +kernel, by decide +kernel, by decide +kernel⟩, by decide⟩
theorem tp_480 : Cond.instanceMethod yX10_hasGoal ∈ gtbl := g_of (List.mem_of_getElem? (i := 480) (by decide +kernel)) rfl
theorem tp_13 : Cond.selects yX10_hasGoal.cls yX10_hasGoal yX10_hasGoal ∈ gtbl := g_of (List.mem_of_getElem? (i := 13) (by decide +kernel)) rfl
theorem tp_459 : Cond.methodLink RX10 118 yX10_dropNumbered ∈ gtbl := g_of (List.mem_of_getElem? (i := 459) (by decide +kernel)) rfl
set_option maxRecDepth 100000 in
theorem tp_462 : Cond.code M_X10_dropNumbered.1 M_X10_dropNumbered.2.1 M_X10_dropNumbered.2.2.1 M_X10_dropNumbered.2.2.2 ∈ gtbl := g_of (List.mem_of_getElem? (i := 462) rfl) rfl
theorem cb_X10_dropNumbered : CalB M_X10_dropNumbered 3 := ⟨tp_462, tp_55, ⟨by decide +kernel, by decide +kernel, by decide +kernel⟩, by decide⟩
theorem tp_461 : Cond.instanceMethod yX10_dropNumbered ∈ gtbl := g_of (List.mem_of_getElem? (i := 461) (by decide +kernel)) rfl
theorem tp_11 : Cond.selects yX10_dropNumbered.cls yX10_dropNumbered yX10_dropNumbered ∈ gtbl := g_of (List.mem_of_getElem? (i := 11) (by decide +kernel)) rfl
theorem tp_474 : Cond.methodLink RX10 122 yX10_dropGoal ∈ gtbl := g_of (List.mem_of_getElem? (i := 474) (by decide +kernel)) rfl
set_option maxRecDepth 100000 in
theorem tp_477 : Cond.code M_X10_dropGoal.1 M_X10_dropGoal.2.1 M_X10_dropGoal.2.2.1 M_X10_dropGoal.2.2.2 ∈ gtbl := g_of (List.mem_of_getElem? (i := 477) rfl) rfl
theorem cb_X10_dropGoal : CalB M_X10_dropGoal 0 := ⟨tp_477, tp_55, ⟨by decide +kernel, by decide +kernel, by decide +kernel⟩, by decide⟩
theorem tp_476 : Cond.instanceMethod yX10_dropGoal ∈ gtbl := g_of (List.mem_of_getElem? (i := 476) (by decide +kernel)) rfl
theorem tp_12 : Cond.selects yX10_dropGoal.cls yX10_dropGoal yX10_dropGoal ∈ gtbl := g_of (List.mem_of_getElem? (i := 12) (by decide +kernel)) rfl
theorem tp_490 : Cond.methodLink RX10 142 yX10_allResources ∈ gtbl := g_of (List.mem_of_getElem? (i := 490) (by decide +kernel)) rfl
set_option maxRecDepth 100000 in
theorem tp_493 : Cond.code M_X10_allResources.1 M_X10_allResources.2.1 M_X10_allResources.2.2.1 M_X10_allResources.2.2.2 ∈ gtbl := g_of (List.mem_of_getElem? (i := 493) rfl) rfl
theorem cb_X10_allResources : CalB M_X10_allResources 0 := ⟨tp_493, tp_55, ⟨by decide +kernel, by decide +kernel, by decide +kernel⟩, by decide⟩
theorem tp_492 : Cond.instanceMethod yX10_allResources ∈ gtbl := g_of (List.mem_of_getElem? (i := 492) (by decide +kernel)) rfl
theorem tp_15 : Cond.selects yX10_allResources.cls yX10_allResources yX10_allResources ∈ gtbl := g_of (List.mem_of_getElem? (i := 15) (by decide +kernel)) rfl
theorem tp_498 : Cond.methodLink RX10 240 yX3_build ∈ gtbl := g_of (List.mem_of_getElem? (i := 498) (by decide +kernel)) rfl
set_option maxRecDepth 100000 in
theorem tp_501 : Cond.code M_X3_build.1 M_X3_build.2.1 M_X3_build.2.2.1 M_X3_build.2.2.2 ∈ gtbl := g_of (List.mem_of_getElem? (i := 501) rfl) rfl
theorem cb_X3_build : CalB M_X3_build 1 := ⟨tp_501, tp_58, ⟨by decide +kernel, by decide +kernel, by decide +kernel⟩, by decide⟩
theorem tp_499 : Cond.instanceMethod yX3_build ∈ gtbl := g_of (List.mem_of_getElem? (i := 499) (by decide +kernel)) rfl
theorem tp_500 : Cond.selects yX3_build.cls yX3_build yX3_build ∈ gtbl := g_of (List.mem_of_getElem? (i := 500) (by decide +kernel)) rfl
theorem tp_512 : Cond.methodLink RX10 243 yX4_compute ∈ gtbl := g_of (List.mem_of_getElem? (i := 512) (by decide +kernel)) rfl
set_option maxRecDepth 100000 in
theorem tp_515 : Cond.code M_X4_compute.1 M_X4_compute.2.1 M_X4_compute.2.2.1 M_X4_compute.2.2.2 ∈ gtbl := g_of (List.mem_of_getElem? (i := 515) rfl) rfl
theorem cb_X4_compute : CalB M_X4_compute 0 := ⟨tp_515, tp_59, ⟨by decide +kernel, by decide +kernel, by decide +kernel⟩, by decide⟩
theorem tp_513 : Cond.instanceMethod yX4_compute ∈ gtbl := g_of (List.mem_of_getElem? (i := 513) (by decide +kernel)) rfl
theorem tp_514 : Cond.selects yX4_compute.cls yX4_compute yX4_compute ∈ gtbl := g_of (List.mem_of_getElem? (i := 514) (by decide +kernel)) rfl
theorem tp_609 : Cond.methodLink RX10 246 yX9_forget ∈ gtbl := g_of (List.mem_of_getElem? (i := 609) (by decide +kernel)) rfl
set_option maxRecDepth 100000 in
theorem tp_612 : Cond.code M_X9_forget.1 M_X9_forget.2.1 M_X9_forget.2.2.1 M_X9_forget.2.2.2 ∈ gtbl := g_of (List.mem_of_getElem? (i := 612) rfl) rfl
theorem cb_X9_forget : CalB M_X9_forget 0 := ⟨tp_612, tp_60, ⟨by decide +kernel, by decide +kernel, by decide +kernel⟩, by decide⟩
theorem tp_610 : Cond.instanceMethod yX9_forget ∈ gtbl := g_of (List.mem_of_getElem? (i := 610) (by decide +kernel)) rfl
theorem tp_611 : Cond.selects yX9_forget.cls yX9_forget yX9_forget ∈ gtbl := g_of (List.mem_of_getElem? (i := 611) (by decide +kernel)) rfl
theorem tp_613 : Cond.methodLink RX10 249 yX0_forget ∈ gtbl := g_of (List.mem_of_getElem? (i := 613) (by decide +kernel)) rfl
set_option maxRecDepth 100000 in
theorem tp_616 : Cond.code M_X0_forget.1 M_X0_forget.2.1 M_X0_forget.2.2.1 M_X0_forget.2.2.2 ∈ gtbl := g_of (List.mem_of_getElem? (i := 616) rfl) rfl
theorem cb_X0_forget : CalB M_X0_forget 0 := ⟨tp_616, tp_61, ⟨by decide +kernel, by decide +kernel, by decide +kernel⟩, by decide⟩
theorem tp_614 : Cond.instanceMethod yX0_forget ∈ gtbl := g_of (List.mem_of_getElem? (i := 614) (by decide +kernel)) rfl
theorem tp_615 : Cond.selects yX0_forget.cls yX0_forget yX0_forget ∈ gtbl := g_of (List.mem_of_getElem? (i := 615) (by decide +kernel)) rfl
theorem tp_486 : Cond.methodLink RX10 125 yX10_isSetOfResources ∈ gtbl := g_of (List.mem_of_getElem? (i := 486) (by decide +kernel)) rfl
set_option maxRecDepth 100000 in
theorem tp_489 : Cond.code M_X10_isSetOfResources.1 M_X10_isSetOfResources.2.1 M_X10_isSetOfResources.2.2.1 M_X10_isSetOfResources.2.2.2 ∈ gtbl := g_of (List.mem_of_getElem? (i := 489) rfl) rfl
theorem cb_X10_isSetOfResources : CalB M_X10_isSetOfResources 1 := ⟨tp_489, tp_55, ⟨by decide +kernel, by decide +kernel, by decide +kernel⟩, by decide⟩
theorem tp_488 : Cond.instanceMethod yX10_isSetOfResources ∈ gtbl := g_of (List.mem_of_getElem? (i := 488) (by decide +kernel)) rfl
theorem tp_14 : Cond.selects yX10_isSetOfResources.cls yX10_isSetOfResources yX10_isSetOfResources ∈ gtbl := g_of (List.mem_of_getElem? (i := 14) (by decide +kernel)) rfl
theorem tp_494 : Cond.methodLink RX10 133 yX10_prepare ∈ gtbl := g_of (List.mem_of_getElem? (i := 494) (by decide +kernel)) rfl
set_option maxRecDepth 100000 in
theorem tp_497 : Cond.code M_X10_prepare.1 M_X10_prepare.2.1 M_X10_prepare.2.2.1 M_X10_prepare.2.2.2 ∈ gtbl := g_of (List.mem_of_getElem? (i := 497) rfl) rfl
theorem cb_X10_prepare : CalB M_X10_prepare 0 := ⟨tp_497, tp_55, ⟨by decide +kernel, by decide +kernel, by decide +kernel⟩, by decide⟩
theorem tp_496 : Cond.instanceMethod yX10_prepare ∈ gtbl := g_of (List.mem_of_getElem? (i := 496) (by decide +kernel)) rfl
theorem tp_16 : Cond.selects yX10_prepare.cls yX10_prepare yX10_prepare ∈ gtbl := g_of (List.mem_of_getElem? (i := 16) (by decide +kernel)) rfl
theorem tp_617 : Cond.methodLink RX10 136 yX3_root ∈ gtbl := g_of (List.mem_of_getElem? (i := 617) (by decide +kernel)) rfl
theorem tp_621 : Cond.methodLink RX10 139 yX4_leastHeight ∈ gtbl := g_of (List.mem_of_getElem? (i := 621) (by decide +kernel)) rfl
theorem tp_634 : Cond.methodLink RX10 145 yX4_proves ∈ gtbl := g_of (List.mem_of_getElem? (i := 634) (by decide +kernel)) rfl
theorem tp_854 : Cond.methodLink RX10 149 yX9_number ∈ gtbl := g_of (List.mem_of_getElem? (i := 854) (by decide +kernel)) rfl
set_option maxRecDepth 100000 in
theorem tp_857 : Cond.code M_X9_number.1 M_X9_number.2.1 M_X9_number.2.2.1 M_X9_number.2.2.2 ∈ gtbl := g_of (List.mem_of_getElem? (i := 857) rfl) rfl
theorem cb_X9_number : CalB M_X9_number 2 := ⟨tp_857, tp_60, ⟨by decide +kernel, by decide +kernel, by decide +kernel⟩, by decide⟩
theorem tp_855 : Cond.instanceMethod yX9_number ∈ gtbl := g_of (List.mem_of_getElem? (i := 855) (by decide +kernel)) rfl
theorem tp_856 : Cond.selects yX9_number.cls yX9_number yX9_number ∈ gtbl := g_of (List.mem_of_getElem? (i := 856) (by decide +kernel)) rfl
theorem tp_639 : Cond.methodLink RX10 158 yX10_isProvable ∈ gtbl := g_of (List.mem_of_getElem? (i := 639) (by decide +kernel)) rfl
set_option maxRecDepth 100000 in
theorem tp_642 : Cond.code M_X10_isProvable.1 M_X10_isProvable.2.1 M_X10_isProvable.2.2.1 M_X10_isProvable.2.2.2 ∈ gtbl := g_of (List.mem_of_getElem? (i := 642) rfl) rfl
theorem cb_X10_isProvable : CalB M_X10_isProvable 1 := ⟨tp_642, tp_55, ⟨by decide +kernel, by decide +kernel, by decide +kernel⟩, by decide⟩
theorem tp_641 : Cond.instanceMethod yX10_isProvable ∈ gtbl := g_of (List.mem_of_getElem? (i := 641) (by decide +kernel)) rfl
theorem tp_32 : Cond.selects yX10_isProvable.cls yX10_isProvable yX10_isProvable ∈ gtbl := g_of (List.mem_of_getElem? (i := 32) (by decide +kernel)) rfl
theorem tp_651 : Cond.methodLink RX10 161 yX0_find ∈ gtbl := g_of (List.mem_of_getElem? (i := 651) (by decide +kernel)) rfl
set_option maxRecDepth 100000 in
theorem tp_654 : Cond.code M_X0_find.1 M_X0_find.2.1 M_X0_find.2.2.1 M_X0_find.2.2.2 ∈ gtbl := g_of (List.mem_of_getElem? (i := 654) rfl) rfl
theorem cb_X0_find : CalB M_X0_find 1 := ⟨tp_654, tp_61, ⟨by decide +kernel, by decide +kernel, by decide +kernel⟩, by decide⟩
theorem tp_652 : Cond.instanceMethod yX0_find ∈ gtbl := g_of (List.mem_of_getElem? (i := 652) (by decide +kernel)) rfl
theorem tp_653 : Cond.selects yX0_find.cls yX0_find yX0_find ∈ gtbl := g_of (List.mem_of_getElem? (i := 653) (by decide +kernel)) rfl
theorem tp_700 : Cond.methodLink RX10 165 yX0_exists ∈ gtbl := g_of (List.mem_of_getElem? (i := 700) (by decide +kernel)) rfl
set_option maxRecDepth 100000 in
theorem tp_703 : Cond.code M_X0_exists.1 M_X0_exists.2.1 M_X0_exists.2.2.1 M_X0_exists.2.2.2 ∈ gtbl := g_of (List.mem_of_getElem? (i := 703) rfl) rfl
theorem cb_X0_exists : CalB M_X0_exists 0 := ⟨tp_703, tp_61, ⟨by decide +kernel, by decide +kernel, by decide +kernel⟩, by decide⟩
theorem tp_701 : Cond.instanceMethod yX0_exists ∈ gtbl := g_of (List.mem_of_getElem? (i := 701) (by decide +kernel)) rfl
theorem tp_702 : Cond.selects yX0_exists.cls yX0_exists yX0_exists ∈ gtbl := g_of (List.mem_of_getElem? (i := 702) (by decide +kernel)) rfl
theorem tp_704 : Cond.methodLink RX10 168 yX0_length ∈ gtbl := g_of (List.mem_of_getElem? (i := 704) (by decide +kernel)) rfl
set_option maxRecDepth 100000 in
theorem tp_707 : Cond.code M_X0_length.1 M_X0_length.2.1 M_X0_length.2.2.1 M_X0_length.2.2.2 ∈ gtbl := g_of (List.mem_of_getElem? (i := 707) rfl) rfl
theorem cb_X0_length : CalB M_X0_length 0 := ⟨tp_707, tp_61, ⟨by decide +kernel, by decide +kernel, by decide +kernel⟩, by decide⟩
theorem tp_705 : Cond.instanceMethod yX0_length ∈ gtbl := g_of (List.mem_of_getElem? (i := 705) (by decide +kernel)) rfl
theorem tp_706 : Cond.selects yX0_length.cls yX0_length yX0_length ∈ gtbl := g_of (List.mem_of_getElem? (i := 706) (by decide +kernel)) rfl
theorem tp_708 : Cond.methodLink RX10 169 yX0_at ∈ gtbl := g_of (List.mem_of_getElem? (i := 708) (by decide +kernel)) rfl
theorem tp_904 : Cond.methodLink RX10 172 yX0_usesOf ∈ gtbl := g_of (List.mem_of_getElem? (i := 904) (by decide +kernel)) rfl
set_option maxRecDepth 100000 in
theorem tp_907 : Cond.code M_X0_usesOf.1 M_X0_usesOf.2.1 M_X0_usesOf.2.2.1 M_X0_usesOf.2.2.2 ∈ gtbl := g_of (List.mem_of_getElem? (i := 907) rfl) rfl
theorem cb_X0_usesOf : CalB M_X0_usesOf 1 := ⟨tp_907, tp_61, ⟨by decide +kernel, by decide +kernel, by decide +kernel⟩, by decide⟩
theorem tp_905 : Cond.instanceMethod yX0_usesOf ∈ gtbl := g_of (List.mem_of_getElem? (i := 905) (by decide +kernel)) rfl
theorem tp_906 : Cond.selects yX0_usesOf.cls yX0_usesOf yX0_usesOf ∈ gtbl := g_of (List.mem_of_getElem? (i := 906) (by decide +kernel)) rfl
theorem tp_720 : Cond.methodLink RX10 175 yX8_append ∈ gtbl := g_of (List.mem_of_getElem? (i := 720) (by decide +kernel)) rfl
set_option maxRecDepth 100000 in
theorem tp_723 : Cond.code M_X8_append.1 M_X8_append.2.1 M_X8_append.2.2.1 M_X8_append.2.2.2 ∈ gtbl := g_of (List.mem_of_getElem? (i := 723) rfl) rfl
theorem cb_X8_append : CalB M_X8_append 1 := ⟨tp_723, tp_62, ⟨by decide +kernel, by decide +kernel, by decide +kernel⟩, by decide⟩
theorem tp_721 : Cond.instanceMethod yX8_append ∈ gtbl := g_of (List.mem_of_getElem? (i := 721) (by decide +kernel)) rfl
theorem tp_722 : Cond.selects yX8_append.cls yX8_append yX8_append ∈ gtbl := g_of (List.mem_of_getElem? (i := 722) (by decide +kernel)) rfl
theorem tp_724 : Cond.methodLink RX10 177 yX8_length ∈ gtbl := g_of (List.mem_of_getElem? (i := 724) (by decide +kernel)) rfl
theorem tp_716 : Cond.methodLink RX10 178 yX8_clear ∈ gtbl := g_of (List.mem_of_getElem? (i := 716) (by decide +kernel)) rfl
set_option maxRecDepth 100000 in
theorem tp_719 : Cond.code M_X8_clear.1 M_X8_clear.2.1 M_X8_clear.2.2.1 M_X8_clear.2.2.2 ∈ gtbl := g_of (List.mem_of_getElem? (i := 719) rfl) rfl
theorem cb_X8_clear : CalB M_X8_clear 0 := ⟨tp_719, tp_62, ⟨by decide +kernel, by decide +kernel, by decide +kernel⟩, by decide⟩
theorem tp_717 : Cond.instanceMethod yX8_clear ∈ gtbl := g_of (List.mem_of_getElem? (i := 717) (by decide +kernel)) rfl
theorem tp_718 : Cond.selects yX8_clear.cls yX8_clear yX8_clear ∈ gtbl := g_of (List.mem_of_getElem? (i := 718) (by decide +kernel)) rfl
theorem tp_732 : Cond.methodLink RX10 179 yX2_judge ∈ gtbl := g_of (List.mem_of_getElem? (i := 732) (by decide +kernel)) rfl
set_option maxRecDepth 100000 in
theorem tp_735 : Cond.code M_X2_judge.1 M_X2_judge.2.1 M_X2_judge.2.2.1 M_X2_judge.2.2.2 ∈ gtbl := g_of (List.mem_of_getElem? (i := 735) rfl) rfl
theorem cb_X2_judge : CalB M_X2_judge 1 := ⟨tp_735, tp_63, ⟨by decide +kernel, by decide +kernel, by decide +kernel⟩, by decide⟩
theorem tp_733 : Cond.instanceMethod yX2_judge ∈ gtbl := g_of (List.mem_of_getElem? (i := 733) (by decide +kernel)) rfl
theorem tp_734 : Cond.selects yX2_judge.cls yX2_judge yX2_judge ∈ gtbl := g_of (List.mem_of_getElem? (i := 734) (by decide +kernel)) rfl
theorem tp_793 : Cond.methodLink RX10 187 yX2_deepest ∈ gtbl := g_of (List.mem_of_getElem? (i := 793) (by decide +kernel)) rfl
set_option maxRecDepth 100000 in
theorem tp_796 : Cond.code M_X2_deepest.1 M_X2_deepest.2.1 M_X2_deepest.2.2.1 M_X2_deepest.2.2.2 ∈ gtbl := g_of (List.mem_of_getElem? (i := 796) rfl) rfl
theorem cb_X2_deepest : CalB M_X2_deepest 0 := ⟨tp_796, tp_63, ⟨by decide +kernel, by decide +kernel, by decide +kernel⟩, by decide⟩
theorem tp_794 : Cond.instanceMethod yX2_deepest ∈ gtbl := g_of (List.mem_of_getElem? (i := 794) (by decide +kernel)) rfl
theorem tp_795 : Cond.selects yX2_deepest.cls yX2_deepest yX2_deepest ∈ gtbl := g_of (List.mem_of_getElem? (i := 795) (by decide +kernel)) rfl
theorem tp_789 : Cond.methodLink RX10 184 yX2_used ∈ gtbl := g_of (List.mem_of_getElem? (i := 789) (by decide +kernel)) rfl
set_option maxRecDepth 100000 in
theorem tp_792 : Cond.code M_X2_used.1 M_X2_used.2.1 M_X2_used.2.2.1 M_X2_used.2.2.2 ∈ gtbl := g_of (List.mem_of_getElem? (i := 792) rfl) rfl
theorem cb_X2_used : CalB M_X2_used 0 := ⟨tp_792, tp_63, ⟨by decide +kernel, by decide +kernel, by decide +kernel⟩, by decide⟩
theorem tp_790 : Cond.instanceMethod yX2_used ∈ gtbl := g_of (List.mem_of_getElem? (i := 790) (by decide +kernel)) rfl
theorem tp_791 : Cond.selects yX2_used.cls yX2_used yX2_used ∈ gtbl := g_of (List.mem_of_getElem? (i := 791) (by decide +kernel)) rfl
theorem tp_785 : Cond.methodLink RX10 181 yX2_verdict ∈ gtbl := g_of (List.mem_of_getElem? (i := 785) (by decide +kernel)) rfl
set_option maxRecDepth 100000 in
theorem tp_788 : Cond.code M_X2_verdict.1 M_X2_verdict.2.1 M_X2_verdict.2.2.1 M_X2_verdict.2.2.2 ∈ gtbl := g_of (List.mem_of_getElem? (i := 788) rfl) rfl
theorem cb_X2_verdict : CalB M_X2_verdict 0 := ⟨tp_788, tp_63, ⟨by decide +kernel, by decide +kernel, by decide +kernel⟩, by decide⟩
theorem tp_786 : Cond.instanceMethod yX2_verdict ∈ gtbl := g_of (List.mem_of_getElem? (i := 786) (by decide +kernel)) rfl
theorem tp_787 : Cond.selects yX2_verdict.cls yX2_verdict yX2_verdict ∈ gtbl := g_of (List.mem_of_getElem? (i := 787) (by decide +kernel)) rfl
theorem tp_801 : Cond.methodLink RX10 197 yX6_nodes ∈ gtbl := g_of (List.mem_of_getElem? (i := 801) (by decide +kernel)) rfl
theorem tp_802 : Cond.methodLink RX10 198 yX6_loans ∈ gtbl := g_of (List.mem_of_getElem? (i := 802) (by decide +kernel)) rfl
theorem tp_803 : Cond.methodLink RX10 201 yX10_savedPlaces ∈ gtbl := g_of (List.mem_of_getElem? (i := 803) (by decide +kernel)) rfl
set_option maxRecDepth 100000 in
theorem tp_806 : Cond.code M_X10_savedPlaces.1 M_X10_savedPlaces.2.1 M_X10_savedPlaces.2.2.1 M_X10_savedPlaces.2.2.2 ∈ gtbl := g_of (List.mem_of_getElem? (i := 806) rfl) rfl
theorem cb_X10_savedPlaces : CalB M_X10_savedPlaces 0 := ⟨tp_806, tp_55, ⟨by decide +kernel, by decide +kernel, by decide +kernel⟩, by decide⟩
theorem tp_805 : Cond.instanceMethod yX10_savedPlaces ∈ gtbl := g_of (List.mem_of_getElem? (i := 805) (by decide +kernel)) rfl
theorem tp_47 : Cond.selects yX10_savedPlaces.cls yX10_savedPlaces yX10_savedPlaces ∈ gtbl := g_of (List.mem_of_getElem? (i := 47) (by decide +kernel)) rfl
theorem tp_810 : Cond.constant RL 7 4194303 ∈ gtbl := g_of (List.mem_of_getElem? (i := 810) (by decide +kernel)) rfl
theorem tp_807 : Cond.methodLink RL 8 yL_cell ∈ gtbl := g_of (List.mem_of_getElem? (i := 807) (by decide +kernel)) rfl
set_option maxRecDepth 100000 in
theorem tp_809 : Cond.code M_L_cell.1 M_L_cell.2.1 M_L_cell.2.2.1 M_L_cell.2.2.2 ∈ gtbl := g_of (List.mem_of_getElem? (i := 809) rfl) rfl
theorem tp_54 : Cond.initialized RL ∈ gtbl := g_of (List.mem_of_getElem? (i := 54) (by decide +kernel)) rfl
theorem cb_L_cell : CalB M_L_cell 3 := ⟨tp_809, tp_54, ⟨by decide +kernel, by decide +kernel, by decide +kernel⟩, by decide⟩
theorem tp_808 : Cond.static yL_cell ∈ gtbl := g_of (List.mem_of_getElem? (i := 808) (by decide +kernel)) rfl
theorem tp_817 : Cond.methodLink RL 18 yX10_say ∈ gtbl := g_of (List.mem_of_getElem? (i := 817) (by decide +kernel)) rfl
set_option maxRecDepth 100000 in
theorem tp_820 : Cond.code M_X10_say.1 M_X10_say.2.1 M_X10_say.2.2.1 M_X10_say.2.2.2 ∈ gtbl := g_of (List.mem_of_getElem? (i := 820) rfl) rfl
theorem cb_X10_say : CalB M_X10_say 1 := ⟨tp_820, tp_55, ⟨by decide +kernel, by decide +kernel, by decide +kernel⟩, by decide⟩
theorem tp_818 : Cond.instanceMethod yX10_say ∈ gtbl := g_of (List.mem_of_getElem? (i := 818) (by decide +kernel)) rfl
theorem tp_819 : Cond.selects yX10_say.cls yX10_say yX10_say ∈ gtbl := g_of (List.mem_of_getElem? (i := 819) (by decide +kernel)) rfl
theorem tp_814 : Cond.methodLink RL 14 yL_atom ∈ gtbl := g_of (List.mem_of_getElem? (i := 814) (by decide +kernel)) rfl
set_option maxRecDepth 100000 in
theorem tp_816 : Cond.code M_L_atom.1 M_L_atom.2.1 M_L_atom.2.2.1 M_L_atom.2.2.2 ∈ gtbl := g_of (List.mem_of_getElem? (i := 816) rfl) rfl
theorem cb_L_atom : CalB M_L_atom 2 := ⟨tp_816, tp_54, ⟨by decide +kernel, by decide +kernel, by decide +kernel⟩, by decide⟩
theorem tp_815 : Cond.static yL_atom ∈ gtbl := g_of (List.mem_of_getElem? (i := 815) (by decide +kernel)) rfl
theorem tp_811 : Cond.methodLink RL 24 yL_goal ∈ gtbl := g_of (List.mem_of_getElem? (i := 811) (by decide +kernel)) rfl
set_option maxRecDepth 100000 in
theorem tp_813 : Cond.code M_L_goal.1 M_L_goal.2.1 M_L_goal.2.2.1 M_L_goal.2.2.2 ∈ gtbl := g_of (List.mem_of_getElem? (i := 813) rfl) rfl
theorem cb_L_goal : CalB M_L_goal 3 := ⟨tp_813, tp_54, ⟨by decide +kernel, by decide +kernel, by decide +kernel⟩, by decide⟩
theorem tp_812 : Cond.static yL_goal ∈ gtbl := g_of (List.mem_of_getElem? (i := 812) (by decide +kernel)) rfl
theorem tp_275 : Cond.methodLink RL 28 yX10_wipe ∈ gtbl := g_of (List.mem_of_getElem? (i := 275) (by decide +kernel)) rfl
set_option maxRecDepth 100000 in
theorem tp_278 : Cond.code M_X10_wipe.1 M_X10_wipe.2.1 M_X10_wipe.2.2.1 M_X10_wipe.2.2.2 ∈ gtbl := g_of (List.mem_of_getElem? (i := 278) rfl) rfl
theorem cb_X10_wipe : CalB M_X10_wipe 0 := ⟨tp_278, tp_55, ⟨by decide +kernel, by decide +kernel, by decide +kernel⟩, by decide⟩
theorem tp_276 : Cond.instanceMethod yX10_wipe ∈ gtbl := g_of (List.mem_of_getElem? (i := 276) (by decide +kernel)) rfl
theorem tp_277 : Cond.selects yX10_wipe.cls yX10_wipe yX10_wipe ∈ gtbl := g_of (List.mem_of_getElem? (i := 277) (by decide +kernel)) rfl
theorem tp_828 : Cond.methodLink RL 32 yL_offer ∈ gtbl := g_of (List.mem_of_getElem? (i := 828) (by decide +kernel)) rfl
set_option maxRecDepth 100000 in
theorem tp_830 : Cond.code M_L_offer.1 M_L_offer.2.1 M_L_offer.2.2.1 M_L_offer.2.2.2 ∈ gtbl := g_of (List.mem_of_getElem? (i := 830) rfl) rfl
theorem cb_L_offer : CalB M_L_offer 3 := ⟨tp_830, tp_54, ⟨by decide +kernel, by decide +kernel, by decide +kernel⟩, by decide⟩
theorem tp_829 : Cond.static yL_offer ∈ gtbl := g_of (List.mem_of_getElem? (i := 829) (by decide +kernel)) rfl
theorem tp_843 : Cond.methodLink RL 38 yX10_well ∈ gtbl := g_of (List.mem_of_getElem? (i := 843) (by decide +kernel)) rfl
set_option maxRecDepth 100000 in
theorem tp_846 : Cond.code M_X10_well.1 M_X10_well.2.1 M_X10_well.2.2.1 M_X10_well.2.2.2 ∈ gtbl := g_of (List.mem_of_getElem? (i := 846) rfl) rfl
theorem cb_X10_well : CalB M_X10_well 0 := ⟨tp_846, tp_55, ⟨by decide +kernel, by decide +kernel, by decide +kernel⟩, by decide⟩
theorem tp_844 : Cond.instanceMethod yX10_well ∈ gtbl := g_of (List.mem_of_getElem? (i := 844) (by decide +kernel)) rfl
theorem tp_845 : Cond.selects yX10_well.cls yX10_well yX10_well ∈ gtbl := g_of (List.mem_of_getElem? (i := 845) (by decide +kernel)) rfl
theorem tp_831 : Cond.methodLink RL 35 yX10_resource ∈ gtbl := g_of (List.mem_of_getElem? (i := 831) (by decide +kernel)) rfl
set_option maxRecDepth 100000 in
theorem tp_834 : Cond.code M_X10_resource.1 M_X10_resource.2.1 M_X10_resource.2.2.1 M_X10_resource.2.2.2 ∈ gtbl := g_of (List.mem_of_getElem? (i := 834) rfl) rfl
theorem cb_X10_resource : CalB M_X10_resource 0 := ⟨tp_834, tp_55, ⟨by decide +kernel, by decide +kernel, by decide +kernel⟩, by decide⟩
theorem tp_832 : Cond.instanceMethod yX10_resource ∈ gtbl := g_of (List.mem_of_getElem? (i := 832) (by decide +kernel)) rfl
theorem tp_833 : Cond.selects yX10_resource.cls yX10_resource yX10_resource ∈ gtbl := g_of (List.mem_of_getElem? (i := 833) (by decide +kernel)) rfl
theorem tp_635 : Cond.methodLink RL 51 yX10_fewest ∈ gtbl := g_of (List.mem_of_getElem? (i := 635) (by decide +kernel)) rfl
set_option maxRecDepth 100000 in
theorem tp_638 : Cond.code M_X10_fewest.1 M_X10_fewest.2.1 M_X10_fewest.2.2.1 M_X10_fewest.2.2.2 ∈ gtbl := g_of (List.mem_of_getElem? (i := 638) rfl) rfl
theorem cb_X10_fewest : CalB M_X10_fewest 0 := ⟨tp_638, tp_55, ⟨by decide +kernel, by decide +kernel, by decide +kernel⟩, by decide⟩
theorem tp_636 : Cond.instanceMethod yX10_fewest ∈ gtbl := g_of (List.mem_of_getElem? (i := 636) (by decide +kernel)) rfl
theorem tp_637 : Cond.selects yX10_fewest.cls yX10_fewest yX10_fewest ∈ gtbl := g_of (List.mem_of_getElem? (i := 637) (by decide +kernel)) rfl
theorem tp_643 : Cond.methodLink RL 54 yX10_needed ∈ gtbl := g_of (List.mem_of_getElem? (i := 643) (by decide +kernel)) rfl
set_option maxRecDepth 100000 in
theorem tp_646 : Cond.code M_X10_needed.1 M_X10_needed.2.1 M_X10_needed.2.2.1 M_X10_needed.2.2.2 ∈ gtbl := g_of (List.mem_of_getElem? (i := 646) rfl) rfl
theorem cb_X10_needed : CalB M_X10_needed 0 := ⟨tp_646, tp_55, ⟨by decide +kernel, by decide +kernel, by decide +kernel⟩, by decide⟩
theorem tp_644 : Cond.instanceMethod yX10_needed ∈ gtbl := g_of (List.mem_of_getElem? (i := 644) (by decide +kernel)) rfl
theorem tp_645 : Cond.selects yX10_needed.cls yX10_needed yX10_needed ∈ gtbl := g_of (List.mem_of_getElem? (i := 645) (by decide +kernel)) rfl
theorem tp_630 : Cond.methodLink RL 48 yX10_left ∈ gtbl := g_of (List.mem_of_getElem? (i := 630) (by decide +kernel)) rfl
set_option maxRecDepth 100000 in
theorem tp_633 : Cond.code M_X10_left.1 M_X10_left.2.1 M_X10_left.2.2.1 M_X10_left.2.2.2 ∈ gtbl := g_of (List.mem_of_getElem? (i := 633) rfl) rfl
theorem cb_X10_left : CalB M_X10_left 2 := ⟨tp_633, tp_55, ⟨by decide +kernel, by decide +kernel, by decide +kernel⟩, by decide⟩
theorem tp_631 : Cond.instanceMethod yX10_left ∈ gtbl := g_of (List.mem_of_getElem? (i := 631) (by decide +kernel)) rfl
theorem tp_632 : Cond.selects yX10_left.cls yX10_left yX10_left ∈ gtbl := g_of (List.mem_of_getElem? (i := 632) (by decide +kernel)) rfl
theorem tp_850 : Cond.methodLink RL 44 yX10_ways ∈ gtbl := g_of (List.mem_of_getElem? (i := 850) (by decide +kernel)) rfl
set_option maxRecDepth 100000 in
theorem tp_853 : Cond.code M_X10_ways.1 M_X10_ways.2.1 M_X10_ways.2.2.1 M_X10_ways.2.2.2 ∈ gtbl := g_of (List.mem_of_getElem? (i := 853) rfl) rfl
theorem cb_X10_ways : CalB M_X10_ways 2 := ⟨tp_853, tp_55, ⟨by decide +kernel, by decide +kernel, by decide +kernel⟩, by decide⟩
theorem tp_851 : Cond.instanceMethod yX10_ways ∈ gtbl := g_of (List.mem_of_getElem? (i := 851) (by decide +kernel)) rfl
theorem tp_852 : Cond.selects yX10_ways.cls yX10_ways yX10_ways ∈ gtbl := g_of (List.mem_of_getElem? (i := 852) (by decide +kernel)) rfl
theorem tp_482 : Cond.methodLink RL 41 yX10_height ∈ gtbl := g_of (List.mem_of_getElem? (i := 482) (by decide +kernel)) rfl
set_option maxRecDepth 100000 in
theorem tp_485 : Cond.code M_X10_height.1 M_X10_height.2.1 M_X10_height.2.2.1 M_X10_height.2.2.2 ∈ gtbl := g_of (List.mem_of_getElem? (i := 485) rfl) rfl
theorem cb_X10_height : CalB M_X10_height 1 := ⟨tp_485, tp_55, ⟨by decide +kernel, by decide +kernel, by decide +kernel⟩, by decide⟩
theorem tp_483 : Cond.instanceMethod yX10_height ∈ gtbl := g_of (List.mem_of_getElem? (i := 483) (by decide +kernel)) rfl
theorem tp_484 : Cond.selects yX10_height.cls yX10_height yX10_height ∈ gtbl := g_of (List.mem_of_getElem? (i := 484) (by decide +kernel)) rfl
theorem tp_728 : Cond.methodLink RL 63 yX10_check ∈ gtbl := g_of (List.mem_of_getElem? (i := 728) (by decide +kernel)) rfl
set_option maxRecDepth 100000 in
theorem tp_731 : Cond.code M_X10_check.1 M_X10_check.2.1 M_X10_check.2.2.1 M_X10_check.2.2.2 ∈ gtbl := g_of (List.mem_of_getElem? (i := 731) rfl) rfl
theorem cb_X10_check : CalB M_X10_check 1 := ⟨tp_731, tp_55, ⟨by decide +kernel, by decide +kernel, by decide +kernel⟩, by decide⟩
theorem tp_729 : Cond.instanceMethod yX10_check ∈ gtbl := g_of (List.mem_of_getElem? (i := 729) (by decide +kernel)) rfl
theorem tp_730 : Cond.selects yX10_check.cls yX10_check yX10_check ∈ gtbl := g_of (List.mem_of_getElem? (i := 730) (by decide +kernel)) rfl
theorem tp_647 : Cond.methodLink RL 57 yX10_term ∈ gtbl := g_of (List.mem_of_getElem? (i := 647) (by decide +kernel)) rfl
set_option maxRecDepth 100000 in
theorem tp_650 : Cond.code M_X10_term.1 M_X10_term.2.1 M_X10_term.2.2.1 M_X10_term.2.2.2 ∈ gtbl := g_of (List.mem_of_getElem? (i := 650) rfl) rfl
theorem cb_X10_term : CalB M_X10_term 1 := ⟨tp_650, tp_55, ⟨by decide +kernel, by decide +kernel, by decide +kernel⟩, by decide⟩
theorem tp_648 : Cond.instanceMethod yX10_term ∈ gtbl := g_of (List.mem_of_getElem? (i := 648) (by decide +kernel)) rfl
theorem tp_649 : Cond.selects yX10_term.cls yX10_term yX10_term ∈ gtbl := g_of (List.mem_of_getElem? (i := 649) (by decide +kernel)) rfl
theorem tp_909 : Cond.methodLink RL 69 yX10_put ∈ gtbl := g_of (List.mem_of_getElem? (i := 909) (by decide +kernel)) rfl
set_option maxRecDepth 100000 in
theorem tp_912 : Cond.code M_X10_put.1 M_X10_put.2.1 M_X10_put.2.2.1 M_X10_put.2.2.2 ∈ gtbl := g_of (List.mem_of_getElem? (i := 912) rfl) rfl
theorem cb_X10_put : CalB M_X10_put 1 := ⟨tp_912, tp_55, ⟨by decide +kernel, by decide +kernel, by decide +kernel⟩, by decide⟩
theorem tp_910 : Cond.instanceMethod yX10_put ∈ gtbl := g_of (List.mem_of_getElem? (i := 910) (by decide +kernel)) rfl
theorem tp_911 : Cond.selects yX10_put.cls yX10_put yX10_put ∈ gtbl := g_of (List.mem_of_getElem? (i := 911) (by decide +kernel)) rfl
theorem tp_712 : Cond.methodLink RL 60 yX10_trial ∈ gtbl := g_of (List.mem_of_getElem? (i := 712) (by decide +kernel)) rfl
set_option maxRecDepth 100000 in
theorem tp_715 : Cond.code M_X10_trial.1 M_X10_trial.2.1 M_X10_trial.2.2.1 M_X10_trial.2.2.2 ∈ gtbl := g_of (List.mem_of_getElem? (i := 715) rfl) rfl
theorem cb_X10_trial : CalB M_X10_trial 1 := ⟨tp_715, tp_55, ⟨by decide +kernel, by decide +kernel, by decide +kernel⟩, by decide⟩
theorem tp_713 : Cond.instanceMethod yX10_trial ∈ gtbl := g_of (List.mem_of_getElem? (i := 713) (by decide +kernel)) rfl
theorem tp_714 : Cond.selects yX10_trial.cls yX10_trial yX10_trial ∈ gtbl := g_of (List.mem_of_getElem? (i := 714) (by decide +kernel)) rfl
theorem tp_900 : Cond.methodLink RL 66 yX10_uses ∈ gtbl := g_of (List.mem_of_getElem? (i := 900) (by decide +kernel)) rfl
set_option maxRecDepth 100000 in
theorem tp_903 : Cond.code M_X10_uses.1 M_X10_uses.2.1 M_X10_uses.2.2.1 M_X10_uses.2.2.2 ∈ gtbl := g_of (List.mem_of_getElem? (i := 903) rfl) rfl
theorem cb_X10_uses : CalB M_X10_uses 2 := ⟨tp_903, tp_55, ⟨by decide +kernel, by decide +kernel, by decide +kernel⟩, by decide⟩
theorem tp_901 : Cond.instanceMethod yX10_uses ∈ gtbl := g_of (List.mem_of_getElem? (i := 901) (by decide +kernel)) rfl
theorem tp_902 : Cond.selects yX10_uses.cls yX10_uses yX10_uses ∈ gtbl := g_of (List.mem_of_getElem? (i := 902) (by decide +kernel)) rfl
theorem tp_287 : Cond.methodLink RL 77 yX10_goal ∈ gtbl := g_of (List.mem_of_getElem? (i := 287) (by decide +kernel)) rfl
set_option maxRecDepth 100000 in
theorem tp_290 : Cond.code M_X10_goal.1 M_X10_goal.2.1 M_X10_goal.2.2.1 M_X10_goal.2.2.2 ∈ gtbl := g_of (List.mem_of_getElem? (i := 290) rfl) rfl
theorem cb_X10_goal : CalB M_X10_goal 0 := ⟨tp_290, tp_55, ⟨by decide +kernel, by decide +kernel, by decide +kernel⟩, by decide⟩
theorem tp_288 : Cond.instanceMethod yX10_goal ∈ gtbl := g_of (List.mem_of_getElem? (i := 288) (by decide +kernel)) rfl
theorem tp_289 : Cond.selects yX10_goal.cls yX10_goal yX10_goal ∈ gtbl := g_of (List.mem_of_getElem? (i := 289) (by decide +kernel)) rfl
theorem tp_797 : Cond.methodLink RL 79 yX10_count ∈ gtbl := g_of (List.mem_of_getElem? (i := 797) (by decide +kernel)) rfl
set_option maxRecDepth 100000 in
theorem tp_800 : Cond.code M_X10_count.1 M_X10_count.2.1 M_X10_count.2.2.1 M_X10_count.2.2.2 ∈ gtbl := g_of (List.mem_of_getElem? (i := 800) rfl) rfl
theorem cb_X10_count : CalB M_X10_count 1 := ⟨tp_800, tp_55, ⟨by decide +kernel, by decide +kernel, by decide +kernel⟩, by decide⟩
theorem tp_798 : Cond.instanceMethod yX10_count ∈ gtbl := g_of (List.mem_of_getElem? (i := 798) (by decide +kernel)) rfl
theorem tp_799 : Cond.selects yX10_count.cls yX10_count yX10_count ∈ gtbl := g_of (List.mem_of_getElem? (i := 799) (by decide +kernel)) rfl
theorem tp_847 : Cond.methodLink RL 82 yL_areHeights ∈ gtbl := g_of (List.mem_of_getElem? (i := 847) (by decide +kernel)) rfl
set_option maxRecDepth 100000 in
theorem tp_849 : Cond.code M_L_areHeights.1 M_L_areHeights.2.1 M_L_areHeights.2.2.1 M_L_areHeights.2.2.2 ∈ gtbl := g_of (List.mem_of_getElem? (i := 849) rfl) rfl
theorem cb_L_areHeights : CalB M_L_areHeights 2 := ⟨tp_849, tp_54, ⟨by decide +kernel, by decide +kernel, by decide +kernel⟩, by decide⟩
theorem tp_848 : Cond.static yL_areHeights ∈ gtbl := g_of (List.mem_of_getElem? (i := 848) (by decide +kernel)) rfl
theorem tp_897 : Cond.methodLink RL 86 yL_isWay ∈ gtbl := g_of (List.mem_of_getElem? (i := 897) (by decide +kernel)) rfl
set_option maxRecDepth 100000 in
theorem tp_899 : Cond.code M_L_isWay.1 M_L_isWay.2.1 M_L_isWay.2.2.1 M_L_isWay.2.2.2 ∈ gtbl := g_of (List.mem_of_getElem? (i := 899) rfl) rfl
theorem cb_L_isWay : CalB M_L_isWay 2 := ⟨tp_899, tp_54, ⟨by decide +kernel, by decide +kernel, by decide +kernel⟩, by decide⟩
theorem tp_898 : Cond.static yL_isWay ∈ gtbl := g_of (List.mem_of_getElem? (i := 898) (by decide +kernel)) rfl
theorem tp_455 : Cond.methodLink RL 89 yX10_drop ∈ gtbl := g_of (List.mem_of_getElem? (i := 455) (by decide +kernel)) rfl
set_option maxRecDepth 100000 in
theorem tp_458 : Cond.code M_X10_drop.1 M_X10_drop.2.1 M_X10_drop.2.2.1 M_X10_drop.2.2.2 ∈ gtbl := g_of (List.mem_of_getElem? (i := 458) rfl) rfl
theorem cb_X10_drop : CalB M_X10_drop 2 := ⟨tp_458, tp_55, ⟨by decide +kernel, by decide +kernel, by decide +kernel⟩, by decide⟩
theorem tp_456 : Cond.instanceMethod yX10_drop ∈ gtbl := g_of (List.mem_of_getElem? (i := 456) (by decide +kernel)) rfl
theorem tp_457 : Cond.selects yX10_drop.cls yX10_drop yX10_drop ∈ gtbl := g_of (List.mem_of_getElem? (i := 457) (by decide +kernel)) rfl
theorem tp_68 : Cond.classLink RL 19 RX10 ∈ gtbl := g_of (List.mem_of_getElem? (i := 68) (by decide +kernel)) rfl
theorem tp_69 : Cond.instantiable RX10 12 ∈ gtbl := g_of (List.mem_of_getElem? (i := 69) (by decide +kernel)) rfl
theorem tp_70 : Cond.methodLink RL 72 yX10_init ∈ gtbl := g_of (List.mem_of_getElem? (i := 70) (by decide +kernel)) rfl
set_option maxRecDepth 100000 in
theorem tp_72 : Cond.code M_X10_init.1 M_X10_init.2.1 M_X10_init.2.2.1 M_X10_init.2.2.2 ∈ gtbl := g_of (List.mem_of_getElem? (i := 72) rfl) rfl
theorem cb_X10_init : CalB M_X10_init 0 := ⟨tp_72, tp_55, ⟨by decide +kernel, by decide +kernel, by decide +kernel⟩, by decide⟩
theorem tp_71 : Cond.instanceMethod yX10_init ∈ gtbl := g_of (List.mem_of_getElem? (i := 71) (by decide +kernel)) rfl
theorem tp_825 : Cond.methodLink RL 73 yL_lay ∈ gtbl := g_of (List.mem_of_getElem? (i := 825) (by decide +kernel)) rfl
set_option maxRecDepth 100000 in
theorem tp_827 : Cond.code M_L_lay.1 M_L_lay.2.1 M_L_lay.2.2.1 M_L_lay.2.2.2 ∈ gtbl := g_of (List.mem_of_getElem? (i := 827) rfl) rfl
theorem cb_L_lay : CalB M_L_lay 4 := ⟨tp_827, tp_54, ⟨by decide +kernel, by decide +kernel, by decide +kernel⟩, by decide⟩
theorem tp_826 : Cond.static yL_lay ∈ gtbl := g_of (List.mem_of_getElem? (i := 826) (by decide +kernel)) rfl
theorem inst_ok : ∀ k, k < 11 → Cond.instantiable (kR k) (kN k) ∈ gtbl := fun k hk => by
  rcases (show k = 0 ∨ k = 1 ∨ k = 2 ∨ k = 3 ∨ k = 4 ∨ k = 5 ∨ k = 6 ∨ k = 7 ∨ k = 8 ∨ k = 9 ∨ k = 10 by omega) with rfl | rfl | rfl | rfl | rfl | rfl | rfl | rfl | rfl | rfl | rfl
  · exact tp_179
  · exact tp_399
  · exact tp_217
  · exact tp_104
  · exact tp_136
  · exact tp_310
  · exact tp_91
  · exact tp_77
  · exact tp_204
  · exact tp_159
  · exact tp_69
theorem ao1 : Cond.arrayOver (.object RX1) ∈ lw_tbl := List.mem_of_getElem? (i := 97) (by decide +kernel)
theorem ao6 : Cond.arrayOver (.object RX6) ∈ lw_tbl := List.mem_of_getElem? (i := 102) (by decide +kernel)
theorem nest_in : ∀ w ∈ nests, w ∈ lw_tbl := fun w hw => by
  simp only [nests, List.mem_cons, List.not_mem_nil, or_false] at hw
  rcases hw with rfl | rfl | rfl | rfl | rfl | rfl | rfl | rfl
  · exact List.mem_of_getElem? (i := 78) (by decide +kernel)
  · exact List.mem_of_getElem? (i := 92) (by decide +kernel)
  · exact List.mem_of_getElem? (i := 105) (by decide +kernel)
  · exact List.mem_of_getElem? (i := 205) (by decide +kernel)
  · exact List.mem_of_getElem? (i := 875) (by decide +kernel)
  · exact List.mem_of_getElem? (i := 883) (by decide +kernel)
  · exact List.mem_of_getElem? (i := 668) (by decide +kernel)
  · exact List.mem_of_getElem? (i := 676) (by decide +kernel)
