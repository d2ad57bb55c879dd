theorem rf_I {σ σ1 : St} {a j b k : Nat} {v : Int32} {o : Option Nat} (e : σ1 = setI σ a j v) (h : sP σ b k = o) : sP σ1 b k = o := by subst e; exact h
theorem rf_L {σ σ1 : St} {a j b k : Nat} {v : Int64} {o : Option Nat} (e : σ1 = setL σ a j v) (h : sP σ b k = o) : sP σ1 b k = o := by subst e; exact h
theorem isA_O {σ : St} {k a : Nat} (h : isO σ k a = true) : isA σ k a = true := by
  obtain ⟨h1, h2, h3⟩ := isO_spec h
  simp [isA, h2, h3]
theorem tab_out (x : Int32) (lo hi : Int) (_ : lo ≤ hi) (h : ∀ k : Int, lo ≤ k → k ≤ hi → x.toInt ≠ k) : x.toInt < lo ∨ hi < x.toInt := by
  by_cases h1 : x.toInt < lo
  · exact Or.inl h1
  · by_cases h2 : hi < x.toInt
    · exact Or.inr h2
    · exact absurd rfl (h x.toInt (by omega) (by omega))
theorem tp_369 : Cond.fieldLink RX5 15 "OnceProver$Reader" "fault" "I" ∈ gtbl := g_of (List.mem_of_getElem? (i := 369) (by decide +kernel)) rfl
theorem fl_X5_15 : FL RX5 15 5 3 := ⟨kf5, by decide, tp_369⟩
theorem tp_368 : Cond.fieldLink RX5 9 "OnceProver$Reader" "place" "I" ∈ gtbl := g_of (List.mem_of_getElem? (i := 368) (by decide +kernel)) rfl
theorem fl_X5_9 : FL RX5 9 5 2 := ⟨kf5, by decide, tp_368⟩
theorem tp_366 : Cond.fieldLink RX5 18 "OnceProver$Reader" "signs" "[C" ∈ gtbl := g_of (List.mem_of_getElem? (i := 366) (by decide +kernel)) rfl
theorem fl_X5_18 : FL RX5 18 5 0 := ⟨kf5, by decide, tp_366⟩
theorem tp_153 : Cond.fieldLink RX3 28 "OnceProver$Plan" "nodes" "I" ∈ gtbl := g_of (List.mem_of_getElem? (i := 153) (by decide +kernel)) rfl
theorem fl_X3_28 : FL RX3 28 3 5 := ⟨kf3, by decide, tp_153⟩
theorem tp_148 : Cond.fieldLink RX3 9 "OnceProver$Plan" "kinds" "[C" ∈ gtbl := g_of (List.mem_of_getElem? (i := 148) (by decide +kernel)) rfl
theorem fl_X3_9 : FL RX3 9 3 0 := ⟨kf3, by decide, tp_148⟩
theorem tp_149 : Cond.fieldLink RX3 15 "OnceProver$Plan" "firsts" "[I" ∈ gtbl := g_of (List.mem_of_getElem? (i := 149) (by decide +kernel)) rfl
theorem fl_X3_15 : FL RX3 15 3 1 := ⟨kf3, by decide, tp_149⟩
theorem tp_150 : Cond.fieldLink RX3 19 "OnceProver$Plan" "seconds" "[I" ∈ gtbl := g_of (List.mem_of_getElem? (i := 150) (by decide +kernel)) rfl
theorem fl_X3_19 : FL RX3 19 3 2 := ⟨kf3, by decide, tp_150⟩
theorem tp_391 : Cond.methodLink RX5 37 yX5_next ∈ gtbl := g_of (List.mem_of_getElem? (i := 391) (by decide +kernel)) rfl
set_option maxRecDepth 100000 in
theorem tp_394 : Cond.code M_X5_next.1 M_X5_next.2.1 M_X5_next.2.2.1 M_X5_next.2.2.2 ∈ gtbl := g_of (List.mem_of_getElem? (i := 394) rfl) rfl
theorem tp_104 : Cond.initialized RX5 ∈ gtbl := g_of (List.mem_of_getElem? (i := 104) (by decide +kernel)) rfl
theorem cb_X5_next : CalB M_X5_next 0 := ⟨tp_394, tp_104, ⟨by decide +kernel, by decide +kernel, by decide +kernel⟩, by decide⟩
theorem tp_393 : Cond.instanceMethod yX5_next ∈ gtbl := g_of (List.mem_of_getElem? (i := 393) (by decide +kernel)) rfl
theorem tp_4 : Cond.selects yX5_next.cls yX5_next yX5_next ∈ gtbl := g_of (List.mem_of_getElem? (i := 4) (by decide +kernel)) rfl
theorem tp_398 : Cond.methodLink RX5 41 yX5_refuse ∈ gtbl := g_of (List.mem_of_getElem? (i := 398) (by decide +kernel)) rfl
set_option maxRecDepth 100000 in
theorem tp_401 : Cond.code M_X5_refuse.1 M_X5_refuse.2.1 M_X5_refuse.2.2.1 M_X5_refuse.2.2.2 ∈ gtbl := g_of (List.mem_of_getElem? (i := 401) rfl) rfl
theorem cb_X5_refuse : CalB M_X5_refuse 0 := ⟨tp_401, tp_104, ⟨by decide +kernel, by decide +kernel, by decide +kernel⟩, by decide⟩
theorem tp_400 : Cond.instanceMethod yX5_refuse ∈ gtbl := g_of (List.mem_of_getElem? (i := 400) (by decide +kernel)) rfl
theorem tp_5 : Cond.selects yX5_refuse.cls yX5_refuse yX5_refuse ∈ gtbl := g_of (List.mem_of_getElem? (i := 5) (by decide +kernel)) rfl
theorem tp_402 : Cond.methodLink RX5 26 yX5_readGoal ∈ gtbl := g_of (List.mem_of_getElem? (i := 402) (by decide +kernel)) rfl
set_option maxRecDepth 100000 in
theorem tp_405 : Cond.code M_X5_readGoal.1 M_X5_readGoal.2.1 M_X5_readGoal.2.2.1 M_X5_readGoal.2.2.2 ∈ gtbl := g_of (List.mem_of_getElem? (i := 405) rfl) rfl
theorem cb_X5_readGoal : CalB M_X5_readGoal 1 := ⟨tp_405, tp_104, ⟨by decide +kernel, by decide +kernel, by decide +kernel⟩, by decide⟩
theorem tp_404 : Cond.instanceMethod yX5_readGoal ∈ gtbl := g_of (List.mem_of_getElem? (i := 404) (by decide +kernel)) rfl
theorem tp_6 : Cond.selects yX5_readGoal.cls yX5_readGoal yX5_readGoal ∈ gtbl := g_of (List.mem_of_getElem? (i := 6) (by decide +kernel)) rfl
theorem tp_414 : Cond.methodLink RX5 61 yX5_expect ∈ gtbl := g_of (List.mem_of_getElem? (i := 414) (by decide +kernel)) rfl
set_option maxRecDepth 100000 in
theorem tp_417 : Cond.code M_X5_expect.1 M_X5_expect.2.1 M_X5_expect.2.2.1 M_X5_expect.2.2.2 ∈ gtbl := g_of (List.mem_of_getElem? (i := 417) rfl) rfl
theorem cb_X5_expect : CalB M_X5_expect 1 := ⟨tp_417, tp_104, ⟨by decide +kernel, by decide +kernel, by decide +kernel⟩, by decide⟩
theorem tp_416 : Cond.instanceMethod yX5_expect ∈ gtbl := g_of (List.mem_of_getElem? (i := 416) (by decide +kernel)) rfl
theorem tp_8 : Cond.selects yX5_expect.cls yX5_expect yX5_expect ∈ gtbl := g_of (List.mem_of_getElem? (i := 8) (by decide +kernel)) rfl
theorem tp_367 : Cond.fieldLink RX5 22 "OnceProver$Reader" "plan" "LOnceProver$Plan;" ∈ gtbl := g_of (List.mem_of_getElem? (i := 367) (by decide +kernel)) rfl
theorem fl_X5_22 : FL RX5 22 5 1 := ⟨kf5, by decide, tp_367⟩
theorem tp_406 : Cond.methodLink RX5 49 yX3_addNode ∈ gtbl := g_of (List.mem_of_getElem? (i := 406) (by decide +kernel)) rfl
set_option maxRecDepth 100000 in
theorem tp_409 : Cond.code M_X3_addNode.1 M_X3_addNode.2.1 M_X3_addNode.2.2.1 M_X3_addNode.2.2.2 ∈ gtbl := g_of (List.mem_of_getElem? (i := 409) rfl) rfl
theorem tp_96 : Cond.initialized RX3 ∈ gtbl := g_of (List.mem_of_getElem? (i := 96) (by decide +kernel)) rfl
theorem cb_X3_addNode : CalB M_X3_addNode 3 := ⟨tp_409, tp_96, ⟨by decide +kernel, by decide +kernel, by decide +kernel⟩, by decide⟩
theorem tp_407 : Cond.instanceMethod yX3_addNode ∈ gtbl := g_of (List.mem_of_getElem? (i := 407) (by decide +kernel)) rfl
theorem tp_408 : Cond.selects yX3_addNode.cls yX3_addNode yX3_addNode ∈ gtbl := g_of (List.mem_of_getElem? (i := 408) (by decide +kernel)) rfl
theorem tp_154 : Cond.fieldLink RX3 32 "OnceProver$Plan" "loans" "I" ∈ gtbl := g_of (List.mem_of_getElem? (i := 154) (by decide +kernel)) rfl
theorem fl_X3_32 : FL RX3 32 3 6 := ⟨kf3, by decide, tp_154⟩
theorem tp_430 : Cond.methodLink RX3 66 yX3_isFace ∈ gtbl := g_of (List.mem_of_getElem? (i := 430) (by decide +kernel)) rfl
set_option maxRecDepth 100000 in
theorem tp_432 : Cond.code M_X3_isFace.1 M_X3_isFace.2.1 M_X3_isFace.2.2.1 M_X3_isFace.2.2.2 ∈ gtbl := g_of (List.mem_of_getElem? (i := 432) rfl) rfl
theorem cb_X3_isFace : CalB M_X3_isFace 2 := ⟨tp_432, tp_96, ⟨by decide +kernel, by decide +kernel, by decide +kernel⟩, by decide⟩
theorem tp_431 : Cond.static yX3_isFace ∈ gtbl := g_of (List.mem_of_getElem? (i := 431) (by decide +kernel)) rfl
theorem tp_151 : Cond.fieldLink RX3 22 "OnceProver$Plan" "heads" "[C" ∈ gtbl := g_of (List.mem_of_getElem? (i := 151) (by decide +kernel)) rfl
theorem fl_X3_22 : FL RX3 22 3 3 := ⟨kf3, by decide, tp_151⟩
theorem tp_152 : Cond.fieldLink RX3 25 "OnceProver$Plan" "bodies" "[I" ∈ gtbl := g_of (List.mem_of_getElem? (i := 152) (by decide +kernel)) rfl
theorem fl_X3_25 : FL RX3 25 3 4 := ⟨kf3, by decide, tp_152⟩
theorem tp_426 : Cond.methodLink RX5 72 yX3_setFace ∈ gtbl := g_of (List.mem_of_getElem? (i := 426) (by decide +kernel)) rfl
set_option maxRecDepth 100000 in
theorem tp_429 : Cond.code M_X3_setFace.1 M_X3_setFace.2.1 M_X3_setFace.2.2.1 M_X3_setFace.2.2.2 ∈ gtbl := g_of (List.mem_of_getElem? (i := 429) rfl) rfl
theorem cb_X3_setFace : CalB M_X3_setFace 4 := ⟨tp_429, tp_96, ⟨by decide +kernel, by decide +kernel, by decide +kernel⟩, by decide⟩
theorem tp_427 : Cond.instanceMethod yX3_setFace ∈ gtbl := g_of (List.mem_of_getElem? (i := 427) (by decide +kernel)) rfl
theorem tp_428 : Cond.selects yX3_setFace.cls yX3_setFace yX3_setFace ∈ gtbl := g_of (List.mem_of_getElem? (i := 428) (by decide +kernel)) rfl
theorem tp_395 : Cond.methodLink RX5 45 yX5_isAtom ∈ gtbl := g_of (List.mem_of_getElem? (i := 395) (by decide +kernel)) rfl
set_option maxRecDepth 100000 in
theorem tp_397 : Cond.code M_X5_isAtom.1 M_X5_isAtom.2.1 M_X5_isAtom.2.2.1 M_X5_isAtom.2.2.2 ∈ gtbl := g_of (List.mem_of_getElem? (i := 397) rfl) rfl
theorem cb_X5_isAtom : CalB M_X5_isAtom 1 := ⟨tp_397, tp_104, ⟨by decide +kernel, by decide +kernel, by decide +kernel⟩, by decide⟩
theorem tp_396 : Cond.static yX5_isAtom ∈ gtbl := g_of (List.mem_of_getElem? (i := 396) (by decide +kernel)) rfl
theorem tp_387 : Cond.methodLink RX5 68 yX5_readFace ∈ gtbl := g_of (List.mem_of_getElem? (i := 387) (by decide +kernel)) rfl
set_option maxRecDepth 100000 in
theorem tp_390 : Cond.code M_X5_readFace.1 M_X5_readFace.2.1 M_X5_readFace.2.2.1 M_X5_readFace.2.2.2 ∈ gtbl := g_of (List.mem_of_getElem? (i := 390) rfl) rfl
theorem cb_X5_readFace : CalB M_X5_readFace 3 := ⟨tp_390, tp_104, ⟨by decide +kernel, by decide +kernel, by decide +kernel⟩, by decide⟩
theorem tp_389 : Cond.instanceMethod yX5_readFace ∈ gtbl := g_of (List.mem_of_getElem? (i := 389) (by decide +kernel)) rfl
theorem tp_3 : Cond.selects yX5_readFace.cls yX5_readFace yX5_readFace ∈ gtbl := g_of (List.mem_of_getElem? (i := 3) (by decide +kernel)) rfl
theorem tp_422 : Cond.methodLink RX5 65 yX3_addLoan ∈ gtbl := g_of (List.mem_of_getElem? (i := 422) (by decide +kernel)) rfl
set_option maxRecDepth 100000 in
theorem tp_425 : Cond.code M_X3_addLoan.1 M_X3_addLoan.2.1 M_X3_addLoan.2.2.1 M_X3_addLoan.2.2.2 ∈ gtbl := g_of (List.mem_of_getElem? (i := 425) rfl) rfl
theorem cb_X3_addLoan : CalB M_X3_addLoan 0 := ⟨tp_425, tp_96, ⟨by decide +kernel, by decide +kernel, by decide +kernel⟩, by decide⟩
theorem tp_423 : Cond.instanceMethod yX3_addLoan ∈ gtbl := g_of (List.mem_of_getElem? (i := 423) (by decide +kernel)) rfl
theorem tp_424 : Cond.selects yX3_addLoan.cls yX3_addLoan yX3_addLoan ∈ gtbl := g_of (List.mem_of_getElem? (i := 424) (by decide +kernel)) rfl
theorem tp_383 : Cond.methodLink RX5 33 yX5_readOffer ∈ gtbl := g_of (List.mem_of_getElem? (i := 383) (by decide +kernel)) rfl
set_option maxRecDepth 100000 in
theorem tp_386 : Cond.code M_X5_readOffer.1 M_X5_readOffer.2.1 M_X5_readOffer.2.2.1 M_X5_readOffer.2.2.2 ∈ gtbl := g_of (List.mem_of_getElem? (i := 386) rfl) rfl
theorem cb_X5_readOffer : CalB M_X5_readOffer 2 := ⟨tp_386, tp_104, ⟨by decide +kernel, by decide +kernel, by decide +kernel⟩, by decide⟩
theorem tp_385 : Cond.instanceMethod yX5_readOffer ∈ gtbl := g_of (List.mem_of_getElem? (i := 385) (by decide +kernel)) rfl
theorem tp_2 : Cond.selects yX5_readOffer.cls yX5_readOffer yX5_readOffer ∈ gtbl := g_of (List.mem_of_getElem? (i := 2) (by decide +kernel)) rfl
theorem tp_410 : Cond.methodLink RX5 55 yX5_readPair ∈ gtbl := g_of (List.mem_of_getElem? (i := 410) (by decide +kernel)) rfl
set_option maxRecDepth 100000 in
theorem tp_413 : Cond.code M_X5_readPair.1 M_X5_readPair.2.1 M_X5_readPair.2.2.1 M_X5_readPair.2.2.2 ∈ gtbl := g_of (List.mem_of_getElem? (i := 413) rfl) rfl
theorem cb_X5_readPair : CalB M_X5_readPair 1 := ⟨tp_413, tp_104, ⟨by decide +kernel, by decide +kernel, by decide +kernel⟩, by decide⟩
theorem tp_412 : Cond.instanceMethod yX5_readPair ∈ gtbl := g_of (List.mem_of_getElem? (i := 412) (by decide +kernel)) rfl
theorem tp_7 : Cond.selects yX5_readPair.cls yX5_readPair yX5_readPair ∈ gtbl := g_of (List.mem_of_getElem? (i := 7) (by decide +kernel)) rfl
theorem tp_418 : Cond.methodLink RX5 58 yX5_readLoan ∈ gtbl := g_of (List.mem_of_getElem? (i := 418) (by decide +kernel)) rfl
set_option maxRecDepth 100000 in
theorem tp_421 : Cond.code M_X5_readLoan.1 M_X5_readLoan.2.1 M_X5_readLoan.2.2.1 M_X5_readLoan.2.2.2 ∈ gtbl := g_of (List.mem_of_getElem? (i := 421) rfl) rfl
theorem cb_X5_readLoan : CalB M_X5_readLoan 1 := ⟨tp_421, tp_104, ⟨by decide +kernel, by decide +kernel, by decide +kernel⟩, by decide⟩
theorem tp_420 : Cond.instanceMethod yX5_readLoan ∈ gtbl := g_of (List.mem_of_getElem? (i := 420) (by decide +kernel)) rfl
theorem tp_9 : Cond.selects yX5_readLoan.cls yX5_readLoan yX5_readLoan ∈ gtbl := g_of (List.mem_of_getElem? (i := 9) (by decide +kernel)) rfl
theorem tp_603 : Cond.methodLink RX3 70 yX3_isNode ∈ gtbl := g_of (List.mem_of_getElem? (i := 603) (by decide +kernel)) rfl
set_option maxRecDepth 100000 in
theorem tp_606 : Cond.code M_X3_isNode.1 M_X3_isNode.2.1 M_X3_isNode.2.2.1 M_X3_isNode.2.2.2 ∈ gtbl := g_of (List.mem_of_getElem? (i := 606) rfl) rfl
theorem cb_X3_isNode : CalB M_X3_isNode 1 := ⟨tp_606, tp_96, ⟨by decide +kernel, by decide +kernel, by decide +kernel⟩, by decide⟩
theorem tp_605 : Cond.instanceMethod yX3_isNode ∈ gtbl := g_of (List.mem_of_getElem? (i := 605) (by decide +kernel)) rfl
theorem tp_20 : Cond.selects yX3_isNode.cls yX3_isNode yX3_isNode ∈ gtbl := g_of (List.mem_of_getElem? (i := 20) (by decide +kernel)) rfl
theorem tp_538 : Cond.constant RJ6 265 1431655765 ∈ gtbl := g_of (List.mem_of_getElem? (i := 538) (by decide +kernel)) rfl
theorem tp_539 : Cond.constant RJ6 266 858993459 ∈ gtbl := g_of (List.mem_of_getElem? (i := 539) (by decide +kernel)) rfl
theorem tp_540 : Cond.constant RJ6 267 252645135 ∈ gtbl := g_of (List.mem_of_getElem? (i := 540) (by decide +kernel)) rfl
theorem tp_535 : Cond.methodLink RX10 152 yJ6_bitCount_0f7a4 ∈ gtbl := g_of (List.mem_of_getElem? (i := 535) (by decide +kernel)) rfl
set_option maxRecDepth 100000 in
theorem tp_537 : Cond.code M_J6_bitCount_0f7a4.1 M_J6_bitCount_0f7a4.2.1 M_J6_bitCount_0f7a4.2.2.1 M_J6_bitCount_0f7a4.2.2.2 ∈ gtbl := g_of (List.mem_of_getElem? (i := 537) rfl) rfl
theorem tp_106 : Cond.initialized RJ6 ∈ gtbl := g_of (List.mem_of_getElem? (i := 106) (by decide +kernel)) rfl
theorem cb_J6_bitCount_0f7a4 : CalB M_J6_bitCount_0f7a4 1 := ⟨tp_537, tp_106, ⟨by decide +kernel, by decide +kernel, by decide +kernel⟩, by decide⟩
theorem tp_536 : Cond.static yJ6_bitCount_0f7a4 ∈ gtbl := g_of (List.mem_of_getElem? (i := 536) (by decide +kernel)) rfl
theorem tp_181 : Cond.fieldLink RX4 11 "OnceProver$Reach" "bits" "[J" ∈ gtbl := g_of (List.mem_of_getElem? (i := 181) (by decide +kernel)) rfl
theorem fl_X4_11 : FL RX4 11 4 1 := ⟨kf4, by decide, tp_181⟩
theorem tp_635 : Cond.methodLink RX4 113 yX4_wordAt ∈ gtbl := g_of (List.mem_of_getElem? (i := 635) (by decide +kernel)) rfl
set_option maxRecDepth 100000 in
theorem tp_638 : Cond.code M_X4_wordAt.1 M_X4_wordAt.2.1 M_X4_wordAt.2.2.1 M_X4_wordAt.2.2.2 ∈ gtbl := g_of (List.mem_of_getElem? (i := 638) rfl) rfl
theorem tp_97 : Cond.initialized RX4 ∈ gtbl := g_of (List.mem_of_getElem? (i := 97) (by decide +kernel)) rfl
theorem cb_X4_wordAt : CalB M_X4_wordAt 2 := ⟨tp_638, tp_97, ⟨by decide +kernel, by decide +kernel, by decide +kernel⟩, by decide⟩
theorem tp_637 : Cond.instanceMethod yX4_wordAt ∈ gtbl := g_of (List.mem_of_getElem? (i := 637) (by decide +kernel)) rfl
theorem tp_26 : Cond.selects yX4_wordAt.cls yX4_wordAt yX4_wordAt ∈ gtbl := g_of (List.mem_of_getElem? (i := 26) (by decide +kernel)) rfl
theorem tp_184 : Cond.fieldLink RX4 21 "OnceProver$Reach" "top" "I" ∈ gtbl := g_of (List.mem_of_getElem? (i := 184) (by decide +kernel)) rfl
theorem fl_X4_21 : FL RX4 21 4 4 := ⟨kf4, by decide, tp_184⟩
theorem tp_696 : Cond.methodLink RX4 46 Lib.Math.min.name ∈ gtbl := g_of (List.mem_of_getElem? (i := 696) (by decide +kernel)) rfl
theorem tp_351 : Cond.static Lib.Math.min.name ∈ gtbl := g_of (List.mem_of_getElem? (i := 351) (by decide +kernel)) rfl
theorem tp_103 : Cond.initialized "java/lang/Math" ∈ gtbl := g_of (List.mem_of_getElem? (i := 103) (by decide +kernel)) rfl
theorem tp_352 : Cond.code Lib.Math.min.name Lib.Math.min.code 2 (some .int) ∈ gtbl := g_of (List.mem_of_getElem? (i := 352) (by decide +kernel)) rfl
theorem tp_596 : Cond.methodLink RX4 52 yX4_rowOf ∈ gtbl := g_of (List.mem_of_getElem? (i := 596) (by decide +kernel)) rfl
set_option maxRecDepth 100000 in
theorem tp_598 : Cond.code M_X4_rowOf.1 M_X4_rowOf.2.1 M_X4_rowOf.2.2.1 M_X4_rowOf.2.2.2 ∈ gtbl := g_of (List.mem_of_getElem? (i := 598) rfl) rfl
theorem cb_X4_rowOf : CalB M_X4_rowOf 2 := ⟨tp_598, tp_97, ⟨by decide +kernel, by decide +kernel, by decide +kernel⟩, by decide⟩
theorem tp_597 : Cond.static yX4_rowOf ∈ gtbl := g_of (List.mem_of_getElem? (i := 597) (by decide +kernel)) rfl
theorem tp_631 : Cond.methodLink RX4 55 yX4_has ∈ gtbl := g_of (List.mem_of_getElem? (i := 631) (by decide +kernel)) rfl
set_option maxRecDepth 100000 in
theorem tp_634 : Cond.code M_X4_has.1 M_X4_has.2.1 M_X4_has.2.2.1 M_X4_has.2.2.2 ∈ gtbl := g_of (List.mem_of_getElem? (i := 634) rfl) rfl
theorem cb_X4_has : CalB M_X4_has 2 := ⟨tp_634, tp_97, ⟨by decide +kernel, by decide +kernel, by decide +kernel⟩, by decide⟩
theorem tp_633 : Cond.instanceMethod yX4_has ∈ gtbl := g_of (List.mem_of_getElem? (i := 633) (by decide +kernel)) rfl
theorem tp_25 : Cond.selects yX4_has.cls yX4_has yX4_has ∈ gtbl := g_of (List.mem_of_getElem? (i := 25) (by decide +kernel)) rfl
theorem tp_226 : Cond.fieldLink RX0 15 "OnceProver$FirstProof" "length" "I" ∈ gtbl := g_of (List.mem_of_getElem? (i := 226) (by decide +kernel)) rfl
theorem fl_X0_15 : FL RX0 15 0 3 := ⟨kf0, by decide, tp_226⟩
theorem tp_225 : Cond.fieldLink RX0 11 "OnceProver$FirstProof" "code" "[I" ∈ gtbl := g_of (List.mem_of_getElem? (i := 225) (by decide +kernel)) rfl
theorem fl_X0_11 : FL RX0 11 0 2 := ⟨kf0, by decide, tp_225⟩
theorem nl_X0_92 : Cond.methodLinkNest RX0 92 yX10_nextPart RX10 ∈ nests := by simp [nests]
set_option maxRecDepth 100000 in
theorem tp_739 : Cond.code M_X10_nextPart.1 M_X10_nextPart.2.1 M_X10_nextPart.2.2.1 M_X10_nextPart.2.2.2 ∈ gtbl := g_of (List.mem_of_getElem? (i := 739) rfl) rfl
theorem tp_93 : Cond.initialized RX10 ∈ gtbl := g_of (List.mem_of_getElem? (i := 93) (by decide +kernel)) rfl
theorem cb_X10_nextPart : CalB M_X10_nextPart 2 := ⟨tp_739, tp_93, ⟨by decide +kernel, by decide +kernel, by decide +kernel⟩, by decide⟩
theorem tp_738 : Cond.static yX10_nextPart ∈ gtbl := g_of (List.mem_of_getElem? (i := 738) (by decide +kernel)) rfl
theorem tp_224 : Cond.fieldLink RX0 30 "OnceProver$FirstProof" "reach" "LOnceProver$Reach;" ∈ gtbl := g_of (List.mem_of_getElem? (i := 224) (by decide +kernel)) rfl
theorem fl_X0_30 : FL RX0 30 0 1 := ⟨kf0, by decide, tp_224⟩
theorem tp_789 : Cond.methodLink RX0 84 yX4_proves ∈ gtbl := g_of (List.mem_of_getElem? (i := 789) (by decide +kernel)) rfl
set_option maxRecDepth 100000 in
theorem tp_695 : Cond.code M_X4_proves.1 M_X4_proves.2.1 M_X4_proves.2.2.1 M_X4_proves.2.2.2 ∈ gtbl := g_of (List.mem_of_getElem? (i := 695) rfl) rfl
theorem cb_X4_proves : CalB M_X4_proves 3 := ⟨tp_695, tp_97, ⟨by decide +kernel, by decide +kernel, by decide +kernel⟩, by decide⟩
theorem tp_693 : Cond.instanceMethod yX4_proves ∈ gtbl := g_of (List.mem_of_getElem? (i := 693) (by decide +kernel)) rfl
theorem tp_694 : Cond.selects yX4_proves.cls yX4_proves yX4_proves ∈ gtbl := g_of (List.mem_of_getElem? (i := 694) (by decide +kernel)) rfl
theorem tp_790 : Cond.methodLink RX0 88 yX0_append ∈ gtbl := g_of (List.mem_of_getElem? (i := 790) (by decide +kernel)) rfl
set_option maxRecDepth 100000 in
theorem tp_793 : Cond.code M_X0_append.1 M_X0_append.2.1 M_X0_append.2.2.1 M_X0_append.2.2.2 ∈ gtbl := g_of (List.mem_of_getElem? (i := 793) rfl) rfl
theorem tp_99 : Cond.initialized RX0 ∈ gtbl := g_of (List.mem_of_getElem? (i := 99) (by decide +kernel)) rfl
theorem cb_X0_append : CalB M_X0_append 1 := ⟨tp_793, tp_99, ⟨by decide +kernel, by decide +kernel, by decide +kernel⟩, by decide⟩
theorem tp_792 : Cond.instanceMethod yX0_append ∈ gtbl := g_of (List.mem_of_getElem? (i := 792) (by decide +kernel)) rfl
theorem tp_41 : Cond.selects yX0_append.cls yX0_append yX0_append ∈ gtbl := g_of (List.mem_of_getElem? (i := 41) (by decide +kernel)) rfl
theorem tp_777 : Cond.methodLink RX0 46 yX0_write ∈ gtbl := g_of (List.mem_of_getElem? (i := 777) (by decide +kernel)) rfl
set_option maxRecDepth 100000 in
theorem tp_780 : Cond.code M_X0_write.1 M_X0_write.2.1 M_X0_write.2.2.1 M_X0_write.2.2.2 ∈ gtbl := g_of (List.mem_of_getElem? (i := 780) rfl) rfl
theorem cb_X0_write : CalB M_X0_write 3 := ⟨tp_780, tp_99, ⟨by decide +kernel, by decide +kernel, by decide +kernel⟩, by decide⟩
theorem tp_779 : Cond.instanceMethod yX0_write ∈ gtbl := g_of (List.mem_of_getElem? (i := 779) (by decide +kernel)) rfl
theorem tp_39 : Cond.selects yX0_write.cls yX0_write yX0_write ∈ gtbl := g_of (List.mem_of_getElem? (i := 39) (by decide +kernel)) rfl
theorem nl_X0_81 : Cond.methodLinkNest RX0 81 yX10_partsOf RX10 ∈ nests := by simp [nests]
set_option maxRecDepth 100000 in
theorem tp_729 : Cond.code M_X10_partsOf.1 M_X10_partsOf.2.1 M_X10_partsOf.2.2.1 M_X10_partsOf.2.2.2 ∈ gtbl := g_of (List.mem_of_getElem? (i := 729) rfl) rfl
theorem cb_X10_partsOf : CalB M_X10_partsOf 1 := ⟨tp_729, tp_93, ⟨by decide +kernel, by decide +kernel, by decide +kernel⟩, by decide⟩
theorem tp_728 : Cond.static yX10_partsOf ∈ gtbl := g_of (List.mem_of_getElem? (i := 728) (by decide +kernel)) rfl
theorem tp_655 : Cond.methodLink RX3 74 yX3_second ∈ gtbl := g_of (List.mem_of_getElem? (i := 655) (by decide +kernel)) rfl
set_option maxRecDepth 100000 in
theorem tp_610 : Cond.code M_X3_second.1 M_X3_second.2.1 M_X3_second.2.2.1 M_X3_second.2.2.2 ∈ gtbl := g_of (List.mem_of_getElem? (i := 610) rfl) rfl
theorem cb_X3_second : CalB M_X3_second 1 := ⟨tp_610, tp_96, ⟨by decide +kernel, by decide +kernel, by decide +kernel⟩, by decide⟩
theorem tp_608 : Cond.instanceMethod yX3_second ∈ gtbl := g_of (List.mem_of_getElem? (i := 608) (by decide +kernel)) rfl
theorem tp_609 : Cond.selects yX3_second.cls yX3_second yX3_second ∈ gtbl := g_of (List.mem_of_getElem? (i := 609) (by decide +kernel)) rfl
theorem tp_223 : Cond.fieldLink RX0 26 "OnceProver$FirstProof" "plan" "LOnceProver$Plan;" ∈ gtbl := g_of (List.mem_of_getElem? (i := 223) (by decide +kernel)) rfl
theorem fl_X0_26 : FL RX0 26 0 0 := ⟨kf0, by decide, tp_223⟩
theorem tp_805 : Cond.methodLink RX0 98 yX3_body ∈ gtbl := g_of (List.mem_of_getElem? (i := 805) (by decide +kernel)) rfl
set_option maxRecDepth 100000 in
theorem tp_671 : Cond.code M_X3_body.1 M_X3_body.2.1 M_X3_body.2.2.1 M_X3_body.2.2.2 ∈ gtbl := g_of (List.mem_of_getElem? (i := 671) rfl) rfl
theorem cb_X3_body : CalB M_X3_body 2 := ⟨tp_671, tp_96, ⟨by decide +kernel, by decide +kernel, by decide +kernel⟩, by decide⟩
theorem tp_669 : Cond.instanceMethod yX3_body ∈ gtbl := g_of (List.mem_of_getElem? (i := 669) (by decide +kernel)) rfl
theorem tp_670 : Cond.selects yX3_body.cls yX3_body yX3_body ∈ gtbl := g_of (List.mem_of_getElem? (i := 670) (by decide +kernel)) rfl
theorem tp_806 : Cond.methodLink RX0 101 yX3_hasHead ∈ gtbl := g_of (List.mem_of_getElem? (i := 806) (by decide +kernel)) rfl
set_option maxRecDepth 100000 in
theorem tp_667 : Cond.code M_X3_hasHead.1 M_X3_hasHead.2.1 M_X3_hasHead.2.2.1 M_X3_hasHead.2.2.2 ∈ gtbl := g_of (List.mem_of_getElem? (i := 667) rfl) rfl
theorem cb_X3_hasHead : CalB M_X3_hasHead 3 := ⟨tp_667, tp_96, ⟨by decide +kernel, by decide +kernel, by decide +kernel⟩, by decide⟩
theorem tp_665 : Cond.instanceMethod yX3_hasHead ∈ gtbl := g_of (List.mem_of_getElem? (i := 665) (by decide +kernel)) rfl
theorem tp_666 : Cond.selects yX3_hasHead.cls yX3_hasHead yX3_hasHead ∈ gtbl := g_of (List.mem_of_getElem? (i := 666) (by decide +kernel)) rfl
theorem tp_807 : Cond.methodLink RX0 105 yX0_serves ∈ gtbl := g_of (List.mem_of_getElem? (i := 807) (by decide +kernel)) rfl
set_option maxRecDepth 100000 in
theorem tp_810 : Cond.code M_X0_serves.1 M_X0_serves.2.1 M_X0_serves.2.2.1 M_X0_serves.2.2.2 ∈ gtbl := g_of (List.mem_of_getElem? (i := 810) rfl) rfl
theorem cb_X0_serves : CalB M_X0_serves 3 := ⟨tp_810, tp_99, ⟨by decide +kernel, by decide +kernel, by decide +kernel⟩, by decide⟩
theorem tp_809 : Cond.instanceMethod yX0_serves ∈ gtbl := g_of (List.mem_of_getElem? (i := 809) (by decide +kernel)) rfl
theorem tp_44 : Cond.selects yX0_serves.cls yX0_serves yX0_serves ∈ gtbl := g_of (List.mem_of_getElem? (i := 44) (by decide +kernel)) rfl
theorem tp_811 : Cond.methodLink RX0 50 yX0_numberOf ∈ gtbl := g_of (List.mem_of_getElem? (i := 811) (by decide +kernel)) rfl
set_option maxRecDepth 100000 in
theorem tp_813 : Cond.code M_X0_numberOf.1 M_X0_numberOf.2.1 M_X0_numberOf.2.2.1 M_X0_numberOf.2.2.2 ∈ gtbl := g_of (List.mem_of_getElem? (i := 813) rfl) rfl
theorem cb_X0_numberOf : CalB M_X0_numberOf 2 := ⟨tp_813, tp_99, ⟨by decide +kernel, by decide +kernel, by decide +kernel⟩, by decide⟩
theorem tp_812 : Cond.static yX0_numberOf ∈ gtbl := g_of (List.mem_of_getElem? (i := 812) (by decide +kernel)) rfl
theorem tp_804 : Cond.methodLink RX0 95 yX3_afterUse ∈ gtbl := g_of (List.mem_of_getElem? (i := 804) (by decide +kernel)) rfl
set_option maxRecDepth 100000 in
theorem tp_747 : Cond.code M_X3_afterUse.1 M_X3_afterUse.2.1 M_X3_afterUse.2.2.1 M_X3_afterUse.2.2.2 ∈ gtbl := g_of (List.mem_of_getElem? (i := 747) rfl) rfl
theorem cb_X3_afterUse : CalB M_X3_afterUse 2 := ⟨tp_747, tp_96, ⟨by decide +kernel, by decide +kernel, by decide +kernel⟩, by decide⟩
theorem tp_746 : Cond.static yX3_afterUse ∈ gtbl := g_of (List.mem_of_getElem? (i := 746) (by decide +kernel)) rfl
theorem tp_781 : Cond.methodLink RX0 57 yX3_first ∈ gtbl := g_of (List.mem_of_getElem? (i := 781) (by decide +kernel)) rfl
set_option maxRecDepth 100000 in
theorem tp_602 : Cond.code M_X3_first.1 M_X3_first.2.1 M_X3_first.2.2.1 M_X3_first.2.2.2 ∈ gtbl := g_of (List.mem_of_getElem? (i := 602) rfl) rfl
theorem cb_X3_first : CalB M_X3_first 1 := ⟨tp_602, tp_96, ⟨by decide +kernel, by decide +kernel, by decide +kernel⟩, by decide⟩
theorem tp_600 : Cond.instanceMethod yX3_first ∈ gtbl := g_of (List.mem_of_getElem? (i := 600) (by decide +kernel)) rfl
theorem tp_601 : Cond.selects yX3_first.cls yX3_first yX3_first ∈ gtbl := g_of (List.mem_of_getElem? (i := 601) (by decide +kernel)) rfl
theorem tp_782 : Cond.methodLink RX0 60 yX3_second ∈ gtbl := g_of (List.mem_of_getElem? (i := 782) (by decide +kernel)) rfl
theorem tp_783 : Cond.methodLink RX0 63 yX3_kind ∈ gtbl := g_of (List.mem_of_getElem? (i := 783) (by decide +kernel)) rfl
set_option maxRecDepth 100000 in
theorem tp_618 : Cond.code M_X3_kind.1 M_X3_kind.2.1 M_X3_kind.2.2.1 M_X3_kind.2.2.2 ∈ gtbl := g_of (List.mem_of_getElem? (i := 618) rfl) rfl
theorem cb_X3_kind : CalB M_X3_kind 1 := ⟨tp_618, tp_96, ⟨by decide +kernel, by decide +kernel, by decide +kernel⟩, by decide⟩
theorem tp_616 : Cond.instanceMethod yX3_kind ∈ gtbl := g_of (List.mem_of_getElem? (i := 616) (by decide +kernel)) rfl
theorem tp_617 : Cond.selects yX3_kind.cls yX3_kind yX3_kind ∈ gtbl := g_of (List.mem_of_getElem? (i := 617) (by decide +kernel)) rfl
theorem tp_784 : Cond.methodLink RX0 67 yX0_writeSplit ∈ gtbl := g_of (List.mem_of_getElem? (i := 784) (by decide +kernel)) rfl
set_option maxRecDepth 100000 in
theorem tp_787 : Cond.code M_X0_writeSplit.1 M_X0_writeSplit.2.1 M_X0_writeSplit.2.2.1 M_X0_writeSplit.2.2.2 ∈ gtbl := g_of (List.mem_of_getElem? (i := 787) rfl) rfl
theorem cb_X0_writeSplit : CalB M_X0_writeSplit 4 := ⟨tp_787, tp_99, ⟨by decide +kernel, by decide +kernel, by decide +kernel⟩, by decide⟩
theorem tp_786 : Cond.instanceMethod yX0_writeSplit ∈ gtbl := g_of (List.mem_of_getElem? (i := 786) (by decide +kernel)) rfl
theorem tp_40 : Cond.selects yX0_writeSplit.cls yX0_writeSplit yX0_writeSplit ∈ gtbl := g_of (List.mem_of_getElem? (i := 40) (by decide +kernel)) rfl
theorem tp_795 : Cond.methodLink RX0 71 yX0_writeChoice ∈ gtbl := g_of (List.mem_of_getElem? (i := 795) (by decide +kernel)) rfl
set_option maxRecDepth 100000 in
theorem tp_798 : Cond.code M_X0_writeChoice.1 M_X0_writeChoice.2.1 M_X0_writeChoice.2.2.1 M_X0_writeChoice.2.2.2 ∈ gtbl := g_of (List.mem_of_getElem? (i := 798) rfl) rfl
theorem cb_X0_writeChoice : CalB M_X0_writeChoice 4 := ⟨tp_798, tp_99, ⟨by decide +kernel, by decide +kernel, by decide +kernel⟩, by decide⟩
theorem tp_797 : Cond.instanceMethod yX0_writeChoice ∈ gtbl := g_of (List.mem_of_getElem? (i := 797) (by decide +kernel)) rfl
theorem tp_42 : Cond.selects yX0_writeChoice.cls yX0_writeChoice yX0_writeChoice ∈ gtbl := g_of (List.mem_of_getElem? (i := 42) (by decide +kernel)) rfl
theorem tp_799 : Cond.methodLink RX0 74 yX3_loanBit ∈ gtbl := g_of (List.mem_of_getElem? (i := 799) (by decide +kernel)) rfl
set_option maxRecDepth 100000 in
theorem tp_654 : Cond.code M_X3_loanBit.1 M_X3_loanBit.2.1 M_X3_loanBit.2.2.1 M_X3_loanBit.2.2.2 ∈ gtbl := g_of (List.mem_of_getElem? (i := 654) rfl) rfl
theorem cb_X3_loanBit : CalB M_X3_loanBit 1 := ⟨tp_654, tp_96, ⟨by decide +kernel, by decide +kernel, by decide +kernel⟩, by decide⟩
theorem tp_652 : Cond.instanceMethod yX3_loanBit ∈ gtbl := g_of (List.mem_of_getElem? (i := 652) (by decide +kernel)) rfl
theorem tp_653 : Cond.selects yX3_loanBit.cls yX3_loanBit yX3_loanBit ∈ gtbl := g_of (List.mem_of_getElem? (i := 653) (by decide +kernel)) rfl
theorem tp_800 : Cond.methodLink RX0 77 yX0_writeAtom ∈ gtbl := g_of (List.mem_of_getElem? (i := 800) (by decide +kernel)) rfl
set_option maxRecDepth 100000 in
theorem tp_803 : Cond.code M_X0_writeAtom.1 M_X0_writeAtom.2.1 M_X0_writeAtom.2.2.1 M_X0_writeAtom.2.2.2 ∈ gtbl := g_of (List.mem_of_getElem? (i := 803) rfl) rfl
theorem cb_X0_writeAtom : CalB M_X0_writeAtom 3 := ⟨tp_803, tp_99, ⟨by decide +kernel, by decide +kernel, by decide +kernel⟩, by decide⟩
theorem tp_802 : Cond.instanceMethod yX0_writeAtom ∈ gtbl := g_of (List.mem_of_getElem? (i := 802) (by decide +kernel)) rfl
theorem tp_43 : Cond.selects yX0_writeAtom.cls yX0_writeAtom yX0_writeAtom ∈ gtbl := g_of (List.mem_of_getElem? (i := 43) (by decide +kernel)) rfl
theorem tp_733 : Cond.constantLong RX9 95 999999999 ∈ gtbl := g_of (List.mem_of_getElem? (i := 733) (by decide +kernel)) rfl
theorem tp_734 : Cond.methodLink RX9 97 Lib.MathLoose.min_long.x ∈ gtbl := g_of (List.mem_of_getElem? (i := 734) (by decide +kernel)) rfl
theorem tp_735 : Cond.static Lib.MathLoose.min_long.x ∈ gtbl := g_of (List.mem_of_getElem? (i := 735) (by decide +kernel)) rfl
theorem tp_736 : Cond.code Lib.MathLoose.min_long.x Lib.MathLoose.min_long.code 4 (some .long) ∈ gtbl := g_of (List.mem_of_getElem? (i := 736) (by decide +kernel)) rfl
theorem nl_X9_78 : Cond.methodLinkNest RX9 78 yX10_nextPart RX10 ∈ nests := by simp [nests]
theorem tp_205 : Cond.fieldLink RX9 24 "OnceProver$Ways" "reach" "LOnceProver$Reach;" ∈ gtbl := g_of (List.mem_of_getElem? (i := 205) (by decide +kernel)) rfl
theorem fl_X9_24 : FL RX9 24 9 1 := ⟨kf9, by decide, tp_205⟩
theorem tp_715 : Cond.methodLink RX9 38 yX4_proves ∈ gtbl := g_of (List.mem_of_getElem? (i := 715) (by decide +kernel)) rfl
theorem tp_711 : Cond.methodLink RX9 34 yX9_tally ∈ gtbl := g_of (List.mem_of_getElem? (i := 711) (by decide +kernel)) rfl
set_option maxRecDepth 100000 in
theorem tp_714 : Cond.code M_X9_tally.1 M_X9_tally.2.1 M_X9_tally.2.2.1 M_X9_tally.2.2.2 ∈ gtbl := g_of (List.mem_of_getElem? (i := 714) rfl) rfl
theorem tp_98 : Cond.initialized RX9 ∈ gtbl := g_of (List.mem_of_getElem? (i := 98) (by decide +kernel)) rfl
theorem cb_X9_tally : CalB M_X9_tally 3 := ⟨tp_714, tp_98, ⟨by decide +kernel, by decide +kernel, by decide +kernel⟩, by decide⟩
theorem tp_713 : Cond.instanceMethod yX9_tally ∈ gtbl := g_of (List.mem_of_getElem? (i := 713) (by decide +kernel)) rfl
theorem tp_33 : Cond.selects yX9_tally.cls yX9_tally yX9_tally ∈ gtbl := g_of (List.mem_of_getElem? (i := 33) (by decide +kernel)) rfl
theorem tp_730 : Cond.methodLink RX9 64 yX9_capped ∈ gtbl := g_of (List.mem_of_getElem? (i := 730) (by decide +kernel)) rfl
set_option maxRecDepth 100000 in
theorem tp_732 : Cond.code M_X9_capped.1 M_X9_capped.2.1 M_X9_capped.2.2.1 M_X9_capped.2.2.2 ∈ gtbl := g_of (List.mem_of_getElem? (i := 732) rfl) rfl
theorem cb_X9_capped : CalB M_X9_capped 1 := ⟨tp_732, tp_98, ⟨by decide +kernel, by decide +kernel, by decide +kernel⟩, by decide⟩
theorem tp_731 : Cond.static yX9_capped ∈ gtbl := g_of (List.mem_of_getElem? (i := 731) (by decide +kernel)) rfl
theorem nl_X9_75 : Cond.methodLinkNest RX9 75 yX10_partsOf RX10 ∈ nests := by simp [nests]
theorem tp_204 : Cond.fieldLink RX9 20 "OnceProver$Ways" "plan" "LOnceProver$Plan;" ∈ gtbl := g_of (List.mem_of_getElem? (i := 204) (by decide +kernel)) rfl
theorem fl_X9_20 : FL RX9 20 9 0 := ⟨kf9, by decide, tp_204⟩
theorem tp_748 : Cond.methodLink RX9 85 yX3_hasHead ∈ gtbl := g_of (List.mem_of_getElem? (i := 748) (by decide +kernel)) rfl
theorem tp_749 : Cond.methodLink RX9 89 yX3_body ∈ gtbl := g_of (List.mem_of_getElem? (i := 749) (by decide +kernel)) rfl
theorem tp_750 : Cond.methodLink RX9 92 yX9_tallyFace ∈ gtbl := g_of (List.mem_of_getElem? (i := 750) (by decide +kernel)) rfl
set_option maxRecDepth 100000 in
theorem tp_753 : Cond.code M_X9_tallyFace.1 M_X9_tallyFace.2.1 M_X9_tallyFace.2.2.1 M_X9_tallyFace.2.2.2 ∈ gtbl := g_of (List.mem_of_getElem? (i := 753) rfl) rfl
theorem cb_X9_tallyFace : CalB M_X9_tallyFace 3 := ⟨tp_753, tp_98, ⟨by decide +kernel, by decide +kernel, by decide +kernel⟩, by decide⟩
theorem tp_752 : Cond.instanceMethod yX9_tallyFace ∈ gtbl := g_of (List.mem_of_getElem? (i := 752) (by decide +kernel)) rfl
theorem tp_37 : Cond.selects yX9_tallyFace.cls yX9_tallyFace yX9_tallyFace ∈ gtbl := g_of (List.mem_of_getElem? (i := 37) (by decide +kernel)) rfl
theorem tp_745 : Cond.methodLink RX9 82 yX3_afterUse ∈ gtbl := g_of (List.mem_of_getElem? (i := 745) (by decide +kernel)) rfl
theorem tp_720 : Cond.methodLink RX9 49 yX3_first ∈ gtbl := g_of (List.mem_of_getElem? (i := 720) (by decide +kernel)) rfl
theorem tp_721 : Cond.methodLink RX9 53 yX3_second ∈ gtbl := g_of (List.mem_of_getElem? (i := 721) (by decide +kernel)) rfl
theorem tp_722 : Cond.methodLink RX9 56 yX3_kind ∈ gtbl := g_of (List.mem_of_getElem? (i := 722) (by decide +kernel)) rfl
theorem tp_723 : Cond.methodLink RX9 60 yX9_tallySplits ∈ gtbl := g_of (List.mem_of_getElem? (i := 723) (by decide +kernel)) rfl
set_option maxRecDepth 100000 in
theorem tp_726 : Cond.code M_X9_tallySplits.1 M_X9_tallySplits.2.1 M_X9_tallySplits.2.2.1 M_X9_tallySplits.2.2.2 ∈ gtbl := g_of (List.mem_of_getElem? (i := 726) rfl) rfl
theorem cb_X9_tallySplits : CalB M_X9_tallySplits 4 := ⟨tp_726, tp_98, ⟨by decide +kernel, by decide +kernel, by decide +kernel⟩, by decide⟩
theorem tp_725 : Cond.instanceMethod yX9_tallySplits ∈ gtbl := g_of (List.mem_of_getElem? (i := 725) (by decide +kernel)) rfl
theorem tp_35 : Cond.selects yX9_tallySplits.cls yX9_tallySplits yX9_tallySplits ∈ gtbl := g_of (List.mem_of_getElem? (i := 35) (by decide +kernel)) rfl
theorem tp_740 : Cond.methodLink RX9 68 yX3_loanBit ∈ gtbl := g_of (List.mem_of_getElem? (i := 740) (by decide +kernel)) rfl
theorem tp_741 : Cond.methodLink RX9 71 yX9_tallyAtom ∈ gtbl := g_of (List.mem_of_getElem? (i := 741) (by decide +kernel)) rfl
set_option maxRecDepth 100000 in
theorem tp_744 : Cond.code M_X9_tallyAtom.1 M_X9_tallyAtom.2.1 M_X9_tallyAtom.2.2.1 M_X9_tallyAtom.2.2.2 ∈ gtbl := g_of (List.mem_of_getElem? (i := 744) rfl) rfl
theorem cb_X9_tallyAtom : CalB M_X9_tallyAtom 3 := ⟨tp_744, tp_98, ⟨by decide +kernel, by decide +kernel, by decide +kernel⟩, by decide⟩
theorem tp_743 : Cond.instanceMethod yX9_tallyAtom ∈ gtbl := g_of (List.mem_of_getElem? (i := 743) (by decide +kernel)) rfl
theorem tp_36 : Cond.selects yX9_tallyAtom.cls yX9_tallyAtom yX9_tallyAtom ∈ gtbl := g_of (List.mem_of_getElem? (i := 36) (by decide +kernel)) rfl
theorem tp_206 : Cond.fieldLink RX9 12 "OnceProver$Ways" "counted" "[J" ∈ gtbl := g_of (List.mem_of_getElem? (i := 206) (by decide +kernel)) rfl
theorem fl_X9_12 : FL RX9 12 9 2 := ⟨kf9, by decide, tp_206⟩
theorem tp_754 : Cond.constantLong RX9 47 4294967295 ∈ gtbl := g_of (List.mem_of_getElem? (i := 754) (by decide +kernel)) rfl
theorem tp_207 : Cond.fieldLink RX9 16 "OnceProver$Ways" "stamp" "J" ∈ gtbl := g_of (List.mem_of_getElem? (i := 207) (by decide +kernel)) rfl
theorem fl_X9_16 : FL RX9 16 9 3 := ⟨kf9, by decide, tp_207⟩
theorem tp_716 : Cond.methodLink RX9 44 yX9_tallyByKind ∈ gtbl := g_of (List.mem_of_getElem? (i := 716) (by decide +kernel)) rfl
set_option maxRecDepth 100000 in
theorem tp_719 : Cond.code M_X9_tallyByKind.1 M_X9_tallyByKind.2.1 M_X9_tallyByKind.2.2.1 M_X9_tallyByKind.2.2.2 ∈ gtbl := g_of (List.mem_of_getElem? (i := 719) rfl) rfl
theorem cb_X9_tallyByKind : CalB M_X9_tallyByKind 3 := ⟨tp_719, tp_98, ⟨by decide +kernel, by decide +kernel, by decide +kernel⟩, by decide⟩
theorem tp_718 : Cond.instanceMethod yX9_tallyByKind ∈ gtbl := g_of (List.mem_of_getElem? (i := 718) (by decide +kernel)) rfl
theorem tp_34 : Cond.selects yX9_tallyByKind.cls yX9_tallyByKind yX9_tallyByKind ∈ gtbl := g_of (List.mem_of_getElem? (i := 34) (by decide +kernel)) rfl
theorem tp_263 : Cond.fieldLink RX2 11 "OnceProver$Judge" "verdict" "I" ∈ gtbl := g_of (List.mem_of_getElem? (i := 263) (by decide +kernel)) rfl
theorem fl_X2_11 : FL RX2 11 2 2 := ⟨kf2, by decide, tp_263⟩
theorem tp_249 : Cond.fieldLink RX8 15 "OnceProver$Trial" "length" "I" ∈ gtbl := g_of (List.mem_of_getElem? (i := 249) (by decide +kernel)) rfl
theorem fl_X8_15 : FL RX8 15 8 1 := ⟨kf8, by decide, tp_249⟩
theorem tp_248 : Cond.fieldLink RX8 9 "OnceProver$Trial" "numbers" "[I" ∈ gtbl := g_of (List.mem_of_getElem? (i := 248) (by decide +kernel)) rfl
theorem fl_X8_9 : FL RX8 9 8 0 := ⟨kf8, by decide, tp_248⟩
theorem tp_264 : Cond.fieldLink RX2 15 "OnceProver$Judge" "used" "I" ∈ gtbl := g_of (List.mem_of_getElem? (i := 264) (by decide +kernel)) rfl
theorem fl_X2_15 : FL RX2 15 2 3 := ⟨kf2, by decide, tp_264⟩
theorem tp_262 : Cond.fieldLink RX2 25 "OnceProver$Judge" "trial" "LOnceProver$Trial;" ∈ gtbl := g_of (List.mem_of_getElem? (i := 262) (by decide +kernel)) rfl
theorem fl_X2_25 : FL RX2 25 2 1 := ⟨kf2, by decide, tp_262⟩
theorem tp_887 : Cond.methodLink RX2 39 yX8_length ∈ gtbl := g_of (List.mem_of_getElem? (i := 887) (by decide +kernel)) rfl
set_option maxRecDepth 100000 in
theorem tp_846 : Cond.code M_X8_length.1 M_X8_length.2.1 M_X8_length.2.2.1 M_X8_length.2.2.2 ∈ gtbl := g_of (List.mem_of_getElem? (i := 846) rfl) rfl
theorem tp_100 : Cond.initialized RX8 ∈ gtbl := g_of (List.mem_of_getElem? (i := 100) (by decide +kernel)) rfl
theorem cb_X8_length : CalB M_X8_length 0 := ⟨tp_846, tp_100, ⟨by decide +kernel, by decide +kernel, by decide +kernel⟩, by decide⟩
theorem tp_844 : Cond.instanceMethod yX8_length ∈ gtbl := g_of (List.mem_of_getElem? (i := 844) (by decide +kernel)) rfl
theorem tp_845 : Cond.selects yX8_length.cls yX8_length yX8_length ∈ gtbl := g_of (List.mem_of_getElem? (i := 845) (by decide +kernel)) rfl
theorem tp_888 : Cond.methodLink RX2 85 yX2_refuseUnless ∈ gtbl := g_of (List.mem_of_getElem? (i := 888) (by decide +kernel)) rfl
set_option maxRecDepth 100000 in
theorem tp_891 : Cond.code M_X2_refuseUnless.1 M_X2_refuseUnless.2.1 M_X2_refuseUnless.2.2.1 M_X2_refuseUnless.2.2.2 ∈ gtbl := g_of (List.mem_of_getElem? (i := 891) rfl) rfl
theorem tp_101 : Cond.initialized RX2 ∈ gtbl := g_of (List.mem_of_getElem? (i := 101) (by decide +kernel)) rfl
theorem cb_X2_refuseUnless : CalB M_X2_refuseUnless 1 := ⟨tp_891, tp_101, ⟨by decide +kernel, by decide +kernel, by decide +kernel⟩, by decide⟩
theorem tp_890 : Cond.instanceMethod yX2_refuseUnless ∈ gtbl := g_of (List.mem_of_getElem? (i := 890) (by decide +kernel)) rfl
theorem tp_49 : Cond.selects yX2_refuseUnless.cls yX2_refuseUnless yX2_refuseUnless ∈ gtbl := g_of (List.mem_of_getElem? (i := 49) (by decide +kernel)) rfl
theorem tp_261 : Cond.fieldLink RX2 21 "OnceProver$Judge" "plan" "LOnceProver$Plan;" ∈ gtbl := g_of (List.mem_of_getElem? (i := 261) (by decide +kernel)) rfl
theorem fl_X2_21 : FL RX2 21 2 0 := ⟨kf2, by decide, tp_261⟩
theorem tp_874 : Cond.methodLink RX2 58 yX3_first ∈ gtbl := g_of (List.mem_of_getElem? (i := 874) (by decide +kernel)) rfl
theorem tp_864 : Cond.methodLink RX2 35 yX2_visit ∈ gtbl := g_of (List.mem_of_getElem? (i := 864) (by decide +kernel)) rfl
set_option maxRecDepth 100000 in
theorem tp_867 : Cond.code M_X2_visit.1 M_X2_visit.2.1 M_X2_visit.2.2.1 M_X2_visit.2.2.2 ∈ gtbl := g_of (List.mem_of_getElem? (i := 867) rfl) rfl
theorem cb_X2_visit : CalB M_X2_visit 3 := ⟨tp_867, tp_101, ⟨by decide +kernel, by decide +kernel, by decide +kernel⟩, by decide⟩
theorem tp_866 : Cond.instanceMethod yX2_visit ∈ gtbl := g_of (List.mem_of_getElem? (i := 866) (by decide +kernel)) rfl
theorem tp_45 : Cond.selects yX2_visit.cls yX2_visit yX2_visit ∈ gtbl := g_of (List.mem_of_getElem? (i := 45) (by decide +kernel)) rfl
theorem tp_892 : Cond.methodLink RX2 65 yX3_second ∈ gtbl := g_of (List.mem_of_getElem? (i := 892) (by decide +kernel)) rfl
theorem tp_879 : Cond.methodLink RX2 78 yX8_at ∈ gtbl := g_of (List.mem_of_getElem? (i := 879) (by decide +kernel)) rfl
set_option maxRecDepth 100000 in
theorem tp_882 : Cond.code M_X8_at.1 M_X8_at.2.1 M_X8_at.2.2.1 M_X8_at.2.2.2 ∈ gtbl := g_of (List.mem_of_getElem? (i := 882) rfl) rfl
theorem cb_X8_at : CalB M_X8_at 1 := ⟨tp_882, tp_100, ⟨by decide +kernel, by decide +kernel, by decide +kernel⟩, by decide⟩
theorem tp_880 : Cond.instanceMethod yX8_at ∈ gtbl := g_of (List.mem_of_getElem? (i := 880) (by decide +kernel)) rfl
theorem tp_881 : Cond.selects yX8_at.cls yX8_at yX8_at ∈ gtbl := g_of (List.mem_of_getElem? (i := 881) (by decide +kernel)) rfl
theorem tp_883 : Cond.methodLink RX2 81 yX2_lacksNumber ∈ gtbl := g_of (List.mem_of_getElem? (i := 883) (by decide +kernel)) rfl
set_option maxRecDepth 100000 in
theorem tp_886 : Cond.code M_X2_lacksNumber.1 M_X2_lacksNumber.2.1 M_X2_lacksNumber.2.2.1 M_X2_lacksNumber.2.2.2 ∈ gtbl := g_of (List.mem_of_getElem? (i := 886) rfl) rfl
theorem cb_X2_lacksNumber : CalB M_X2_lacksNumber 0 := ⟨tp_886, tp_101, ⟨by decide +kernel, by decide +kernel, by decide +kernel⟩, by decide⟩
theorem tp_885 : Cond.instanceMethod yX2_lacksNumber ∈ gtbl := g_of (List.mem_of_getElem? (i := 885) (by decide +kernel)) rfl
theorem tp_48 : Cond.selects yX2_lacksNumber.cls yX2_lacksNumber yX2_lacksNumber ∈ gtbl := g_of (List.mem_of_getElem? (i := 48) (by decide +kernel)) rfl
theorem tp_901 : Cond.methodLink RX2 89 yX3_loanBit ∈ gtbl := g_of (List.mem_of_getElem? (i := 901) (by decide +kernel)) rfl
theorem tp_911 : Cond.methodLink RX2 102 yX3_body ∈ gtbl := g_of (List.mem_of_getElem? (i := 911) (by decide +kernel)) rfl
theorem tp_870 : Cond.methodLink RX2 54 yX2_demandEmpty ∈ gtbl := g_of (List.mem_of_getElem? (i := 870) (by decide +kernel)) rfl
set_option maxRecDepth 100000 in
theorem tp_873 : Cond.code M_X2_demandEmpty.1 M_X2_demandEmpty.2.1 M_X2_demandEmpty.2.2.1 M_X2_demandEmpty.2.2.2 ∈ gtbl := g_of (List.mem_of_getElem? (i := 873) rfl) rfl
theorem cb_X2_demandEmpty : CalB M_X2_demandEmpty 1 := ⟨tp_873, tp_101, ⟨by decide +kernel, by decide +kernel, by decide +kernel⟩, by decide⟩
theorem tp_872 : Cond.instanceMethod yX2_demandEmpty ∈ gtbl := g_of (List.mem_of_getElem? (i := 872) (by decide +kernel)) rfl
theorem tp_46 : Cond.selects yX2_demandEmpty.cls yX2_demandEmpty yX2_demandEmpty ∈ gtbl := g_of (List.mem_of_getElem? (i := 46) (by decide +kernel)) rfl
theorem tp_910 : Cond.methodLink RX2 98 yX3_hasHead ∈ gtbl := g_of (List.mem_of_getElem? (i := 910) (by decide +kernel)) rfl
theorem tp_906 : Cond.methodLink RX2 92 yX2_offerOf ∈ gtbl := g_of (List.mem_of_getElem? (i := 906) (by decide +kernel)) rfl
set_option maxRecDepth 100000 in
theorem tp_908 : Cond.code M_X2_offerOf.1 M_X2_offerOf.2.1 M_X2_offerOf.2.2.1 M_X2_offerOf.2.2.2 ∈ gtbl := g_of (List.mem_of_getElem? (i := 908) rfl) rfl
theorem cb_X2_offerOf : CalB M_X2_offerOf 1 := ⟨tp_908, tp_101, ⟨by decide +kernel, by decide +kernel, by decide +kernel⟩, by decide⟩
theorem tp_907 : Cond.static yX2_offerOf ∈ gtbl := g_of (List.mem_of_getElem? (i := 907) (by decide +kernel)) rfl
theorem tp_909 : Cond.methodLink RX2 95 yX3_afterUse ∈ gtbl := g_of (List.mem_of_getElem? (i := 909) (by decide +kernel)) rfl
theorem tp_265 : Cond.fieldLink RX2 18 "OnceProver$Judge" "deepest" "I" ∈ gtbl := g_of (List.mem_of_getElem? (i := 265) (by decide +kernel)) rfl
theorem fl_X2_18 : FL RX2 18 2 4 := ⟨kf2, by decide, tp_265⟩
theorem tp_868 : Cond.methodLink RX2 44 Lib.Math.max.name ∈ gtbl := g_of (List.mem_of_getElem? (i := 868) (by decide +kernel)) rfl
theorem tp_354 : Cond.static Lib.Math.max.name ∈ gtbl := g_of (List.mem_of_getElem? (i := 354) (by decide +kernel)) rfl
theorem tp_355 : Cond.code Lib.Math.max.name Lib.Math.max.code 2 (some .int) ∈ gtbl := g_of (List.mem_of_getElem? (i := 355) (by decide +kernel)) rfl
theorem tp_869 : Cond.methodLink RX2 50 yX3_kind ∈ gtbl := g_of (List.mem_of_getElem? (i := 869) (by decide +kernel)) rfl
theorem tp_875 : Cond.methodLink RX2 62 yX2_visitSplit ∈ gtbl := g_of (List.mem_of_getElem? (i := 875) (by decide +kernel)) rfl
set_option maxRecDepth 100000 in
theorem tp_878 : Cond.code M_X2_visitSplit.1 M_X2_visitSplit.2.1 M_X2_visitSplit.2.2.1 M_X2_visitSplit.2.2.2 ∈ gtbl := g_of (List.mem_of_getElem? (i := 878) rfl) rfl
theorem cb_X2_visitSplit : CalB M_X2_visitSplit 3 := ⟨tp_878, tp_101, ⟨by decide +kernel, by decide +kernel, by decide +kernel⟩, by decide⟩
theorem tp_877 : Cond.instanceMethod yX2_visitSplit ∈ gtbl := g_of (List.mem_of_getElem? (i := 877) (by decide +kernel)) rfl
theorem tp_47 : Cond.selects yX2_visitSplit.cls yX2_visitSplit yX2_visitSplit ∈ gtbl := g_of (List.mem_of_getElem? (i := 47) (by decide +kernel)) rfl
theorem tp_893 : Cond.methodLink RX2 68 yX2_visitChoice ∈ gtbl := g_of (List.mem_of_getElem? (i := 893) (by decide +kernel)) rfl
set_option maxRecDepth 100000 in
theorem tp_896 : Cond.code M_X2_visitChoice.1 M_X2_visitChoice.2.1 M_X2_visitChoice.2.2.1 M_X2_visitChoice.2.2.2 ∈ gtbl := g_of (List.mem_of_getElem? (i := 896) rfl) rfl
theorem cb_X2_visitChoice : CalB M_X2_visitChoice 3 := ⟨tp_896, tp_101, ⟨by decide +kernel, by decide +kernel, by decide +kernel⟩, by decide⟩
theorem tp_895 : Cond.instanceMethod yX2_visitChoice ∈ gtbl := g_of (List.mem_of_getElem? (i := 895) (by decide +kernel)) rfl
theorem tp_50 : Cond.selects yX2_visitChoice.cls yX2_visitChoice yX2_visitChoice ∈ gtbl := g_of (List.mem_of_getElem? (i := 50) (by decide +kernel)) rfl
theorem tp_897 : Cond.methodLink RX2 71 yX2_visitLoan ∈ gtbl := g_of (List.mem_of_getElem? (i := 897) (by decide +kernel)) rfl
set_option maxRecDepth 100000 in
theorem tp_900 : Cond.code M_X2_visitLoan.1 M_X2_visitLoan.2.1 M_X2_visitLoan.2.2.1 M_X2_visitLoan.2.2.2 ∈ gtbl := g_of (List.mem_of_getElem? (i := 900) rfl) rfl
theorem cb_X2_visitLoan : CalB M_X2_visitLoan 3 := ⟨tp_900, tp_101, ⟨by decide +kernel, by decide +kernel, by decide +kernel⟩, by decide⟩
theorem tp_899 : Cond.instanceMethod yX2_visitLoan ∈ gtbl := g_of (List.mem_of_getElem? (i := 899) (by decide +kernel)) rfl
theorem tp_51 : Cond.selects yX2_visitLoan.cls yX2_visitLoan yX2_visitLoan ∈ gtbl := g_of (List.mem_of_getElem? (i := 51) (by decide +kernel)) rfl
theorem tp_902 : Cond.methodLink RX2 74 yX2_visitAtom ∈ gtbl := g_of (List.mem_of_getElem? (i := 902) (by decide +kernel)) rfl
set_option maxRecDepth 100000 in
theorem tp_905 : Cond.code M_X2_visitAtom.1 M_X2_visitAtom.2.1 M_X2_visitAtom.2.2.1 M_X2_visitAtom.2.2.2 ∈ gtbl := g_of (List.mem_of_getElem? (i := 905) rfl) rfl
theorem cb_X2_visitAtom : CalB M_X2_visitAtom 3 := ⟨tp_905, tp_101, ⟨by decide +kernel, by decide +kernel, by decide +kernel⟩, by decide⟩
theorem tp_904 : Cond.instanceMethod yX2_visitAtom ∈ gtbl := g_of (List.mem_of_getElem? (i := 904) (by decide +kernel)) rfl
theorem tp_52 : Cond.selects yX2_visitAtom.cls yX2_visitAtom yX2_visitAtom ∈ gtbl := g_of (List.mem_of_getElem? (i := 52) (by decide +kernel)) rfl
theorem tp_222 : Cond.methodLink RX0 3 objectInit ∈ gtbl := g_of (List.mem_of_getElem? (i := 222) (by decide +kernel)) rfl
theorem tp_113 : Cond.instanceMethod objectInit ∈ gtbl := g_of (List.mem_of_getElem? (i := 113) (by decide +kernel)) rfl
set_option maxRecDepth 100000 in
theorem tp_114 : Cond.code objectInit ⟨#[0xb1]⟩ 1 none ∈ gtbl := g_of (List.mem_of_getElem? (i := 114) rfl) rfl
theorem tp_173 : Cond.arrayClass .int ∈ gtbl := g_of (List.mem_of_getElem? (i := 173) (by decide +kernel)) rfl
theorem tp_227 : Cond.fieldLink RX0 19 "OnceProver$FirstProof" "exists" "Z" ∈ gtbl := g_of (List.mem_of_getElem? (i := 227) (by decide +kernel)) rfl
theorem fl_X0_19 : FL RX0 19 0 4 := ⟨kf0, by decide, tp_227⟩
theorem tp_228 : Cond.fieldLink RX0 23 "OnceProver$FirstProof" "found" "Z" ∈ gtbl := g_of (List.mem_of_getElem? (i := 228) (by decide +kernel)) rfl
theorem fl_X0_23 : FL RX0 23 0 5 := ⟨kf0, by decide, tp_228⟩
theorem tp_155 : Cond.fieldLink RX3 35 "OnceProver$Plan" "root" "I" ∈ gtbl := g_of (List.mem_of_getElem? (i := 155) (by decide +kernel)) rfl
theorem fl_X3_35 : FL RX3 35 3 7 := ⟨kf3, by decide, tp_155⟩
theorem tp_692 : Cond.methodLink RX4 58 yX4_proves ∈ gtbl := g_of (List.mem_of_getElem? (i := 692) (by decide +kernel)) rfl
theorem tp_775 : Cond.methodLink RX0 34 yX3_root ∈ gtbl := g_of (List.mem_of_getElem? (i := 775) (by decide +kernel)) rfl
set_option maxRecDepth 100000 in
theorem tp_687 : Cond.code M_X3_root.1 M_X3_root.2.1 M_X3_root.2.2.1 M_X3_root.2.2.2 ∈ gtbl := g_of (List.mem_of_getElem? (i := 687) rfl) rfl
theorem cb_X3_root : CalB M_X3_root 0 := ⟨tp_687, tp_96, ⟨by decide +kernel, by decide +kernel, by decide +kernel⟩, by decide⟩
theorem tp_685 : Cond.instanceMethod yX3_root ∈ gtbl := g_of (List.mem_of_getElem? (i := 685) (by decide +kernel)) rfl
theorem tp_686 : Cond.selects yX3_root.cls yX3_root yX3_root ∈ gtbl := g_of (List.mem_of_getElem? (i := 686) (by decide +kernel)) rfl
theorem tp_776 : Cond.methodLink RX0 40 yX4_leastHeight ∈ gtbl := g_of (List.mem_of_getElem? (i := 776) (by decide +kernel)) rfl
set_option maxRecDepth 100000 in
theorem tp_691 : Cond.code M_X4_leastHeight.1 M_X4_leastHeight.2.1 M_X4_leastHeight.2.2.1 M_X4_leastHeight.2.2.2 ∈ gtbl := g_of (List.mem_of_getElem? (i := 691) rfl) rfl
theorem cb_X4_leastHeight : CalB M_X4_leastHeight 2 := ⟨tp_691, tp_97, ⟨by decide +kernel, by decide +kernel, by decide +kernel⟩, by decide⟩
theorem tp_689 : Cond.instanceMethod yX4_leastHeight ∈ gtbl := g_of (List.mem_of_getElem? (i := 689) (by decide +kernel)) rfl
theorem tp_690 : Cond.selects yX4_leastHeight.cls yX4_leastHeight yX4_leastHeight ∈ gtbl := g_of (List.mem_of_getElem? (i := 690) (by decide +kernel)) rfl
theorem tp_834 : Cond.methodLink RX0 53 yX0_at ∈ gtbl := g_of (List.mem_of_getElem? (i := 834) (by decide +kernel)) rfl
set_option maxRecDepth 100000 in
theorem tp_825 : Cond.code M_X0_at.1 M_X0_at.2.1 M_X0_at.2.2.1 M_X0_at.2.2.2 ∈ gtbl := g_of (List.mem_of_getElem? (i := 825) rfl) rfl
theorem cb_X0_at : CalB M_X0_at 1 := ⟨tp_825, tp_99, ⟨by decide +kernel, by decide +kernel, by decide +kernel⟩, by decide⟩
theorem tp_823 : Cond.instanceMethod yX0_at ∈ gtbl := g_of (List.mem_of_getElem? (i := 823) (by decide +kernel)) rfl
theorem tp_824 : Cond.selects yX0_at.cls yX0_at yX0_at ∈ gtbl := g_of (List.mem_of_getElem? (i := 824) (by decide +kernel)) rfl
theorem tp_462 : Cond.methodLink RX1 1 objectInit ∈ gtbl := g_of (List.mem_of_getElem? (i := 462) (by decide +kernel)) rfl
theorem tp_463 : Cond.fieldLink RX1 7 "OnceProver$Item" "signs" "[C" ∈ gtbl := g_of (List.mem_of_getElem? (i := 463) (by decide +kernel)) rfl
theorem fl_X1_7 : FL RX1 7 1 0 := ⟨kf1, by decide, tp_463⟩
theorem tp_464 : Cond.fieldLink RX1 13 "OnceProver$Item" "nodes" "I" ∈ gtbl := g_of (List.mem_of_getElem? (i := 464) (by decide +kernel)) rfl
theorem fl_X1_13 : FL RX1 13 1 1 := ⟨kf1, by decide, tp_464⟩
theorem tp_465 : Cond.fieldLink RX1 17 "OnceProver$Item" "loans" "I" ∈ gtbl := g_of (List.mem_of_getElem? (i := 465) (by decide +kernel)) rfl
theorem fl_X1_17 : FL RX1 17 1 2 := ⟨kf1, by decide, tp_465⟩
theorem tp_260 : Cond.methodLink RX2 3 objectInit ∈ gtbl := g_of (List.mem_of_getElem? (i := 260) (by decide +kernel)) rfl
theorem tp_863 : Cond.methodLink RX2 29 yX3_root ∈ gtbl := g_of (List.mem_of_getElem? (i := 863) (by decide +kernel)) rfl
theorem tp_147 : Cond.methodLink RX3 3 objectInit ∈ gtbl := g_of (List.mem_of_getElem? (i := 147) (by decide +kernel)) rfl
theorem tp_128 : Cond.arrayClass .char ∈ gtbl := g_of (List.mem_of_getElem? (i := 128) (by decide +kernel)) rfl
theorem tp_137 : Cond.fieldLink RX6 11 "OnceProver$Stock" "items" "[LOnceProver$Item;" ∈ gtbl := g_of (List.mem_of_getElem? (i := 137) (by decide +kernel)) rfl
theorem fl_X6_11 : FL RX6 11 6 0 := ⟨kf6, by decide, tp_137⟩
theorem tp_365 : Cond.methodLink RX5 3 objectInit ∈ gtbl := g_of (List.mem_of_getElem? (i := 365) (by decide +kernel)) rfl
theorem tp_433 : Cond.methodLink RX5 30 yX5_refuseMore ∈ gtbl := g_of (List.mem_of_getElem? (i := 433) (by decide +kernel)) rfl
set_option maxRecDepth 100000 in
theorem tp_436 : Cond.code M_X5_refuseMore.1 M_X5_refuseMore.2.1 M_X5_refuseMore.2.2.1 M_X5_refuseMore.2.2.2 ∈ gtbl := g_of (List.mem_of_getElem? (i := 436) rfl) rfl
theorem cb_X5_refuseMore : CalB M_X5_refuseMore 0 := ⟨tp_436, tp_104, ⟨by decide +kernel, by decide +kernel, by decide +kernel⟩, by decide⟩
theorem tp_435 : Cond.instanceMethod yX5_refuseMore ∈ gtbl := g_of (List.mem_of_getElem? (i := 435) (by decide +kernel)) rfl
theorem tp_10 : Cond.selects yX5_refuseMore.cls yX5_refuseMore yX5_refuseMore ∈ gtbl := g_of (List.mem_of_getElem? (i := 10) (by decide +kernel)) rfl
theorem tp_570 : Cond.methodLink RX3 41 yX6_at ∈ gtbl := g_of (List.mem_of_getElem? (i := 570) (by decide +kernel)) rfl
set_option maxRecDepth 100000 in
theorem tp_480 : Cond.code M_X6_at.1 M_X6_at.2.1 M_X6_at.2.2.1 M_X6_at.2.2.2 ∈ gtbl := g_of (List.mem_of_getElem? (i := 480) rfl) rfl
theorem tp_95 : Cond.initialized RX6 ∈ gtbl := g_of (List.mem_of_getElem? (i := 95) (by decide +kernel)) rfl
theorem cb_X6_at : CalB M_X6_at 1 := ⟨tp_480, tp_95, ⟨by decide +kernel, by decide +kernel, by decide +kernel⟩, by decide⟩
theorem tp_478 : Cond.instanceMethod yX6_at ∈ gtbl := g_of (List.mem_of_getElem? (i := 478) (by decide +kernel)) rfl
theorem tp_479 : Cond.selects yX6_at.cls yX6_at yX6_at ∈ gtbl := g_of (List.mem_of_getElem? (i := 479) (by decide +kernel)) rfl
theorem tp_571 : Cond.classLink RX3 47 RX5 ∈ gtbl := g_of (List.mem_of_getElem? (i := 571) (by decide +kernel)) rfl
theorem tp_361 : Cond.instantiable RX5 4 ∈ gtbl := g_of (List.mem_of_getElem? (i := 361) (by decide +kernel)) rfl
theorem tp_572 : Cond.methodLink RX3 49 yX1_signs ∈ gtbl := g_of (List.mem_of_getElem? (i := 572) (by decide +kernel)) rfl
set_option maxRecDepth 100000 in
theorem tp_575 : Cond.code M_X1_signs.1 M_X1_signs.2.1 M_X1_signs.2.2.1 M_X1_signs.2.2.2 ∈ gtbl := g_of (List.mem_of_getElem? (i := 575) rfl) rfl
theorem tp_105 : Cond.initialized RX1 ∈ gtbl := g_of (List.mem_of_getElem? (i := 105) (by decide +kernel)) rfl
theorem cb_X1_signs : CalB M_X1_signs 0 := ⟨tp_575, tp_105, ⟨by decide +kernel, by decide +kernel, by decide +kernel⟩, by decide⟩
theorem tp_573 : Cond.instanceMethod yX1_signs ∈ gtbl := g_of (List.mem_of_getElem? (i := 573) (by decide +kernel)) rfl
theorem tp_574 : Cond.selects yX1_signs.cls yX1_signs yX1_signs ∈ gtbl := g_of (List.mem_of_getElem? (i := 574) (by decide +kernel)) rfl
theorem tp_576 : Cond.methodLink RX3 55 yX5_init ∈ gtbl := g_of (List.mem_of_getElem? (i := 576) (by decide +kernel)) rfl
set_option maxRecDepth 100000 in
theorem tp_364 : Cond.code M_X5_init.1 M_X5_init.2.1 M_X5_init.2.2.1 M_X5_init.2.2.2 ∈ gtbl := g_of (List.mem_of_getElem? (i := 364) rfl) rfl
theorem cb_X5_init : CalB M_X5_init 2 := ⟨tp_364, tp_104, ⟨by decide +kernel, by decide +kernel, by decide +kernel⟩, by decide⟩
theorem tp_363 : Cond.instanceMethod yX5_init ∈ gtbl := g_of (List.mem_of_getElem? (i := 363) (by decide +kernel)) rfl
theorem tp_578 : Cond.methodLink RX3 62 yX5_readWholeOffer ∈ gtbl := g_of (List.mem_of_getElem? (i := 578) (by decide +kernel)) rfl
set_option maxRecDepth 100000 in
theorem tp_382 : Cond.code M_X5_readWholeOffer.1 M_X5_readWholeOffer.2.1 M_X5_readWholeOffer.2.2.1 M_X5_readWholeOffer.2.2.2 ∈ gtbl := g_of (List.mem_of_getElem? (i := 382) rfl) rfl
theorem cb_X5_readWholeOffer : CalB M_X5_readWholeOffer 1 := ⟨tp_382, tp_104, ⟨by decide +kernel, by decide +kernel, by decide +kernel⟩, by decide⟩
theorem tp_380 : Cond.instanceMethod yX5_readWholeOffer ∈ gtbl := g_of (List.mem_of_getElem? (i := 380) (by decide +kernel)) rfl
theorem tp_381 : Cond.selects yX5_readWholeOffer.cls yX5_readWholeOffer yX5_readWholeOffer ∈ gtbl := g_of (List.mem_of_getElem? (i := 381) (by decide +kernel)) rfl
theorem tp_577 : Cond.methodLink RX3 58 yX5_readWholeGoal ∈ gtbl := g_of (List.mem_of_getElem? (i := 577) (by decide +kernel)) rfl
set_option maxRecDepth 100000 in
theorem tp_440 : Cond.code M_X5_readWholeGoal.1 M_X5_readWholeGoal.2.1 M_X5_readWholeGoal.2.2.1 M_X5_readWholeGoal.2.2.2 ∈ gtbl := g_of (List.mem_of_getElem? (i := 440) rfl) rfl
theorem cb_X5_readWholeGoal : CalB M_X5_readWholeGoal 0 := ⟨tp_440, tp_104, ⟨by decide +kernel, by decide +kernel, by decide +kernel⟩, by decide⟩
theorem tp_438 : Cond.instanceMethod yX5_readWholeGoal ∈ gtbl := g_of (List.mem_of_getElem? (i := 438) (by decide +kernel)) rfl
theorem tp_439 : Cond.selects yX5_readWholeGoal.cls yX5_readWholeGoal yX5_readWholeGoal ∈ gtbl := g_of (List.mem_of_getElem? (i := 439) (by decide +kernel)) rfl
theorem tp_569 : Cond.methodLink RX3 38 yX3_clear ∈ gtbl := g_of (List.mem_of_getElem? (i := 569) (by decide +kernel)) rfl
set_option maxRecDepth 100000 in
theorem tp_359 : Cond.code M_X3_clear.1 M_X3_clear.2.1 M_X3_clear.2.2.1 M_X3_clear.2.2.2 ∈ gtbl := g_of (List.mem_of_getElem? (i := 359) rfl) rfl
theorem cb_X3_clear : CalB M_X3_clear 0 := ⟨tp_359, tp_96, ⟨by decide +kernel, by decide +kernel, by decide +kernel⟩, by decide⟩
theorem tp_357 : Cond.instanceMethod yX3_clear ∈ gtbl := g_of (List.mem_of_getElem? (i := 357) (by decide +kernel)) rfl
theorem tp_358 : Cond.selects yX3_clear.cls yX3_clear yX3_clear ∈ gtbl := g_of (List.mem_of_getElem? (i := 358) (by decide +kernel)) rfl
theorem tp_183 : Cond.fieldLink RX4 18 "OnceProver$Reach" "apart" "[J" ∈ gtbl := g_of (List.mem_of_getElem? (i := 183) (by decide +kernel)) rfl
theorem fl_X4_18 : FL RX4 18 4 3 := ⟨kf4, by decide, tp_183⟩
theorem tp_179 : Cond.methodLink RX4 3 objectInit ∈ gtbl := g_of (List.mem_of_getElem? (i := 179) (by decide +kernel)) rfl
theorem tp_196 : Cond.arrayClass .long ∈ gtbl := g_of (List.mem_of_getElem? (i := 196) (by decide +kernel)) rfl
theorem tp_182 : Cond.fieldLink RX4 15 "OnceProver$Reach" "allSets" "[J" ∈ gtbl := g_of (List.mem_of_getElem? (i := 182) (by decide +kernel)) rfl
theorem fl_X4_15 : FL RX4 15 4 2 := ⟨kf4, by decide, tp_182⟩
theorem tp_180 : Cond.fieldLink RX4 25 "OnceProver$Reach" "plan" "LOnceProver$Plan;" ∈ gtbl := g_of (List.mem_of_getElem? (i := 180) (by decide +kernel)) rfl
theorem fl_X4_25 : FL RX4 25 4 0 := ⟨kf4, by decide, tp_180⟩
theorem tp_587 : Cond.methodLink RX4 62 yX3_singles ∈ gtbl := g_of (List.mem_of_getElem? (i := 587) (by decide +kernel)) rfl
set_option maxRecDepth 100000 in
theorem tp_590 : Cond.code M_X3_singles.1 M_X3_singles.2.1 M_X3_singles.2.2.1 M_X3_singles.2.2.2 ∈ gtbl := g_of (List.mem_of_getElem? (i := 590) rfl) rfl
theorem cb_X3_singles : CalB M_X3_singles 0 := ⟨tp_590, tp_96, ⟨by decide +kernel, by decide +kernel, by decide +kernel⟩, by decide⟩
theorem tp_588 : Cond.instanceMethod yX3_singles ∈ gtbl := g_of (List.mem_of_getElem? (i := 588) (by decide +kernel)) rfl
theorem tp_589 : Cond.selects yX3_singles.cls yX3_singles yX3_singles ∈ gtbl := g_of (List.mem_of_getElem? (i := 589) (by decide +kernel)) rfl
theorem tp_623 : Cond.methodLink RX4 117 yX4_orWord ∈ gtbl := g_of (List.mem_of_getElem? (i := 623) (by decide +kernel)) rfl
set_option maxRecDepth 100000 in
theorem tp_626 : Cond.code M_X4_orWord.1 M_X4_orWord.2.1 M_X4_orWord.2.2.1 M_X4_orWord.2.2.2 ∈ gtbl := g_of (List.mem_of_getElem? (i := 626) rfl) rfl
theorem cb_X4_orWord : CalB M_X4_orWord 3 := ⟨tp_626, tp_97, ⟨by decide +kernel, by decide +kernel, by decide +kernel⟩, by decide⟩
theorem tp_625 : Cond.instanceMethod yX4_orWord ∈ gtbl := g_of (List.mem_of_getElem? (i := 625) (by decide +kernel)) rfl
theorem tp_23 : Cond.selects yX4_orWord.cls yX4_orWord yX4_orWord ∈ gtbl := g_of (List.mem_of_getElem? (i := 23) (by decide +kernel)) rfl
theorem tp_643 : Cond.methodLink RX4 93 yX4_addMoved ∈ gtbl := g_of (List.mem_of_getElem? (i := 643) (by decide +kernel)) rfl
set_option maxRecDepth 100000 in
theorem tp_646 : Cond.code M_X4_addMoved.1 M_X4_addMoved.2.1 M_X4_addMoved.2.2.1 M_X4_addMoved.2.2.2 ∈ gtbl := g_of (List.mem_of_getElem? (i := 646) rfl) rfl
theorem cb_X4_addMoved : CalB M_X4_addMoved 3 := ⟨tp_646, tp_97, ⟨by decide +kernel, by decide +kernel, by decide +kernel⟩, by decide⟩
theorem tp_645 : Cond.instanceMethod yX4_addMoved ∈ gtbl := g_of (List.mem_of_getElem? (i := 645) (by decide +kernel)) rfl
theorem tp_28 : Cond.selects yX4_addMoved.cls yX4_addMoved yX4_addMoved ∈ gtbl := g_of (List.mem_of_getElem? (i := 28) (by decide +kernel)) rfl
theorem tp_664 : Cond.methodLink RX4 106 yX3_hasHead ∈ gtbl := g_of (List.mem_of_getElem? (i := 664) (by decide +kernel)) rfl
theorem tp_668 : Cond.methodLink RX4 110 yX3_body ∈ gtbl := g_of (List.mem_of_getElem? (i := 668) (by decide +kernel)) rfl
theorem tp_619 : Cond.methodLink RX4 80 yX4_add ∈ gtbl := g_of (List.mem_of_getElem? (i := 619) (by decide +kernel)) rfl
set_option maxRecDepth 100000 in
theorem tp_622 : Cond.code M_X4_add.1 M_X4_add.2.1 M_X4_add.2.2.1 M_X4_add.2.2.2 ∈ gtbl := g_of (List.mem_of_getElem? (i := 622) rfl) rfl
theorem cb_X4_add : CalB M_X4_add 2 := ⟨tp_622, tp_97, ⟨by decide +kernel, by decide +kernel, by decide +kernel⟩, by decide⟩
theorem tp_621 : Cond.instanceMethod yX4_add ∈ gtbl := g_of (List.mem_of_getElem? (i := 621) (by decide +kernel)) rfl
theorem tp_22 : Cond.selects yX4_add.cls yX4_add yX4_add ∈ gtbl := g_of (List.mem_of_getElem? (i := 22) (by decide +kernel)) rfl
theorem tp_599 : Cond.methodLink RX4 65 yX3_first ∈ gtbl := g_of (List.mem_of_getElem? (i := 599) (by decide +kernel)) rfl
theorem tp_607 : Cond.methodLink RX4 69 yX3_second ∈ gtbl := g_of (List.mem_of_getElem? (i := 607) (by decide +kernel)) rfl
theorem tp_611 : Cond.methodLink RX4 72 yX4_clearRow ∈ gtbl := g_of (List.mem_of_getElem? (i := 611) (by decide +kernel)) rfl
set_option maxRecDepth 100000 in
theorem tp_614 : Cond.code M_X4_clearRow.1 M_X4_clearRow.2.1 M_X4_clearRow.2.2.1 M_X4_clearRow.2.2.2 ∈ gtbl := g_of (List.mem_of_getElem? (i := 614) rfl) rfl
theorem cb_X4_clearRow : CalB M_X4_clearRow 1 := ⟨tp_614, tp_97, ⟨by decide +kernel, by decide +kernel, by decide +kernel⟩, by decide⟩
theorem tp_613 : Cond.instanceMethod yX4_clearRow ∈ gtbl := g_of (List.mem_of_getElem? (i := 613) (by decide +kernel)) rfl
theorem tp_21 : Cond.selects yX4_clearRow.cls yX4_clearRow yX4_clearRow ∈ gtbl := g_of (List.mem_of_getElem? (i := 21) (by decide +kernel)) rfl
theorem tp_615 : Cond.methodLink RX4 76 yX3_kind ∈ gtbl := g_of (List.mem_of_getElem? (i := 615) (by decide +kernel)) rfl
theorem tp_647 : Cond.methodLink RX4 90 yX4_addShared ∈ gtbl := g_of (List.mem_of_getElem? (i := 647) (by decide +kernel)) rfl
set_option maxRecDepth 100000 in
theorem tp_650 : Cond.code M_X4_addShared.1 M_X4_addShared.2.1 M_X4_addShared.2.2.1 M_X4_addShared.2.2.2 ∈ gtbl := g_of (List.mem_of_getElem? (i := 650) rfl) rfl
theorem cb_X4_addShared : CalB M_X4_addShared 3 := ⟨tp_650, tp_97, ⟨by decide +kernel, by decide +kernel, by decide +kernel⟩, by decide⟩
theorem tp_649 : Cond.instanceMethod yX4_addShared ∈ gtbl := g_of (List.mem_of_getElem? (i := 649) (by decide +kernel)) rfl
theorem tp_29 : Cond.selects yX4_addShared.cls yX4_addShared yX4_addShared ∈ gtbl := g_of (List.mem_of_getElem? (i := 29) (by decide +kernel)) rfl
theorem tp_639 : Cond.methodLink RX4 86 yX4_addUnions ∈ gtbl := g_of (List.mem_of_getElem? (i := 639) (by decide +kernel)) rfl
set_option maxRecDepth 100000 in
theorem tp_642 : Cond.code M_X4_addUnions.1 M_X4_addUnions.2.1 M_X4_addUnions.2.2.1 M_X4_addUnions.2.2.2 ∈ gtbl := g_of (List.mem_of_getElem? (i := 642) rfl) rfl
theorem cb_X4_addUnions : CalB M_X4_addUnions 3 := ⟨tp_642, tp_97, ⟨by decide +kernel, by decide +kernel, by decide +kernel⟩, by decide⟩
theorem tp_641 : Cond.instanceMethod yX4_addUnions ∈ gtbl := g_of (List.mem_of_getElem? (i := 641) (by decide +kernel)) rfl
theorem tp_27 : Cond.selects yX4_addUnions.cls yX4_addUnions yX4_addUnions ∈ gtbl := g_of (List.mem_of_getElem? (i := 27) (by decide +kernel)) rfl
theorem tp_627 : Cond.methodLink RX4 83 yX4_addAllSets ∈ gtbl := g_of (List.mem_of_getElem? (i := 627) (by decide +kernel)) rfl
set_option maxRecDepth 100000 in
theorem tp_630 : Cond.code M_X4_addAllSets.1 M_X4_addAllSets.2.1 M_X4_addAllSets.2.2.1 M_X4_addAllSets.2.2.2 ∈ gtbl := g_of (List.mem_of_getElem? (i := 630) rfl) rfl
theorem cb_X4_addAllSets : CalB M_X4_addAllSets 1 := ⟨tp_630, tp_97, ⟨by decide +kernel, by decide +kernel, by decide +kernel⟩, by decide⟩
theorem tp_629 : Cond.instanceMethod yX4_addAllSets ∈ gtbl := g_of (List.mem_of_getElem? (i := 629) (by decide +kernel)) rfl
theorem tp_24 : Cond.selects yX4_addAllSets.cls yX4_addAllSets yX4_addAllSets ∈ gtbl := g_of (List.mem_of_getElem? (i := 24) (by decide +kernel)) rfl
theorem tp_651 : Cond.methodLink RX4 96 yX3_loanBit ∈ gtbl := g_of (List.mem_of_getElem? (i := 651) (by decide +kernel)) rfl
theorem tp_656 : Cond.methodLink RX4 99 yX4_addReduced ∈ gtbl := g_of (List.mem_of_getElem? (i := 656) (by decide +kernel)) rfl
set_option maxRecDepth 100000 in
theorem tp_659 : Cond.code M_X4_addReduced.1 M_X4_addReduced.2.1 M_X4_addReduced.2.2.1 M_X4_addReduced.2.2.2 ∈ gtbl := g_of (List.mem_of_getElem? (i := 659) rfl) rfl
theorem cb_X4_addReduced : CalB M_X4_addReduced 3 := ⟨tp_659, tp_97, ⟨by decide +kernel, by decide +kernel, by decide +kernel⟩, by decide⟩
theorem tp_658 : Cond.instanceMethod yX4_addReduced ∈ gtbl := g_of (List.mem_of_getElem? (i := 658) (by decide +kernel)) rfl
theorem tp_30 : Cond.selects yX4_addReduced.cls yX4_addReduced yX4_addReduced ∈ gtbl := g_of (List.mem_of_getElem? (i := 30) (by decide +kernel)) rfl
theorem tp_660 : Cond.methodLink RX4 102 yX4_addAtom ∈ gtbl := g_of (List.mem_of_getElem? (i := 660) (by decide +kernel)) rfl
set_option maxRecDepth 100000 in
theorem tp_663 : Cond.code M_X4_addAtom.1 M_X4_addAtom.2.1 M_X4_addAtom.2.2.1 M_X4_addAtom.2.2.2 ∈ gtbl := g_of (List.mem_of_getElem? (i := 663) rfl) rfl
theorem cb_X4_addAtom : CalB M_X4_addAtom 3 := ⟨tp_663, tp_97, ⟨by decide +kernel, by decide +kernel, by decide +kernel⟩, by decide⟩
theorem tp_662 : Cond.instanceMethod yX4_addAtom ∈ gtbl := g_of (List.mem_of_getElem? (i := 662) (by decide +kernel)) rfl
theorem tp_31 : Cond.selects yX4_addAtom.cls yX4_addAtom yX4_addAtom ∈ gtbl := g_of (List.mem_of_getElem? (i := 31) (by decide +kernel)) rfl
theorem tp_591 : Cond.methodLink RX4 32 yX3_nodes ∈ gtbl := g_of (List.mem_of_getElem? (i := 591) (by decide +kernel)) rfl
set_option maxRecDepth 100000 in
theorem tp_454 : Cond.code M_X3_nodes.1 M_X3_nodes.2.1 M_X3_nodes.2.2.1 M_X3_nodes.2.2.2 ∈ gtbl := g_of (List.mem_of_getElem? (i := 454) rfl) rfl
theorem cb_X3_nodes : CalB M_X3_nodes 0 := ⟨tp_454, tp_96, ⟨by decide +kernel, by decide +kernel, by decide +kernel⟩, by decide⟩
theorem tp_452 : Cond.instanceMethod yX3_nodes ∈ gtbl := g_of (List.mem_of_getElem? (i := 452) (by decide +kernel)) rfl
theorem tp_453 : Cond.selects yX3_nodes.cls yX3_nodes yX3_nodes ∈ gtbl := g_of (List.mem_of_getElem? (i := 453) (by decide +kernel)) rfl
theorem tp_592 : Cond.methodLink RX4 38 yX4_fillRow ∈ gtbl := g_of (List.mem_of_getElem? (i := 592) (by decide +kernel)) rfl
set_option maxRecDepth 100000 in
theorem tp_595 : Cond.code M_X4_fillRow.1 M_X4_fillRow.2.1 M_X4_fillRow.2.2.1 M_X4_fillRow.2.2.2 ∈ gtbl := g_of (List.mem_of_getElem? (i := 595) rfl) rfl
theorem cb_X4_fillRow : CalB M_X4_fillRow 2 := ⟨tp_595, tp_97, ⟨by decide +kernel, by decide +kernel, by decide +kernel⟩, by decide⟩
theorem tp_594 : Cond.instanceMethod yX4_fillRow ∈ gtbl := g_of (List.mem_of_getElem? (i := 594) (by decide +kernel)) rfl
theorem tp_19 : Cond.selects yX4_fillRow.cls yX4_fillRow yX4_fillRow ∈ gtbl := g_of (List.mem_of_getElem? (i := 19) (by decide +kernel)) rfl
theorem tp_672 : Cond.methodLink RX4 42 yX4_hasGrown ∈ gtbl := g_of (List.mem_of_getElem? (i := 672) (by decide +kernel)) rfl
set_option maxRecDepth 100000 in
theorem tp_675 : Cond.code M_X4_hasGrown.1 M_X4_hasGrown.2.1 M_X4_hasGrown.2.2.1 M_X4_hasGrown.2.2.2 ∈ gtbl := g_of (List.mem_of_getElem? (i := 675) rfl) rfl
theorem cb_X4_hasGrown : CalB M_X4_hasGrown 2 := ⟨tp_675, tp_97, ⟨by decide +kernel, by decide +kernel, by decide +kernel⟩, by decide⟩
theorem tp_674 : Cond.instanceMethod yX4_hasGrown ∈ gtbl := g_of (List.mem_of_getElem? (i := 674) (by decide +kernel)) rfl
theorem tp_32 : Cond.selects yX4_hasGrown.cls yX4_hasGrown yX4_hasGrown ∈ gtbl := g_of (List.mem_of_getElem? (i := 32) (by decide +kernel)) rfl
theorem tp_583 : Cond.methodLink RX4 29 yX4_findAllSets ∈ gtbl := g_of (List.mem_of_getElem? (i := 583) (by decide +kernel)) rfl
set_option maxRecDepth 100000 in
theorem tp_586 : Cond.code M_X4_findAllSets.1 M_X4_findAllSets.2.1 M_X4_findAllSets.2.2.1 M_X4_findAllSets.2.2.2 ∈ gtbl := g_of (List.mem_of_getElem? (i := 586) rfl) rfl
theorem cb_X4_findAllSets : CalB M_X4_findAllSets 0 := ⟨tp_586, tp_97, ⟨by decide +kernel, by decide +kernel, by decide +kernel⟩, by decide⟩
theorem tp_585 : Cond.instanceMethod yX4_findAllSets ∈ gtbl := g_of (List.mem_of_getElem? (i := 585) (by decide +kernel)) rfl
theorem tp_18 : Cond.selects yX4_findAllSets.cls yX4_findAllSets yX4_findAllSets ∈ gtbl := g_of (List.mem_of_getElem? (i := 18) (by decide +kernel)) rfl
theorem tp_134 : Cond.methodLink RX6 3 objectInit ∈ gtbl := g_of (List.mem_of_getElem? (i := 134) (by decide +kernel)) rfl
theorem tp_135 : Cond.classLink RX6 9 RX1 ∈ gtbl := g_of (List.mem_of_getElem? (i := 135) (by decide +kernel)) rfl
theorem tp_477 : Cond.methodLink RX6 17 yX6_at ∈ gtbl := g_of (List.mem_of_getElem? (i := 477) (by decide +kernel)) rfl
theorem tp_485 : Cond.methodLink RX6 21 yX1_nodes ∈ gtbl := g_of (List.mem_of_getElem? (i := 485) (by decide +kernel)) rfl
set_option maxRecDepth 100000 in
theorem tp_488 : Cond.code M_X1_nodes.1 M_X1_nodes.2.1 M_X1_nodes.2.2.1 M_X1_nodes.2.2.2 ∈ gtbl := g_of (List.mem_of_getElem? (i := 488) rfl) rfl
theorem cb_X1_nodes : CalB M_X1_nodes 0 := ⟨tp_488, tp_105, ⟨by decide +kernel, by decide +kernel, by decide +kernel⟩, by decide⟩
theorem tp_486 : Cond.instanceMethod yX1_nodes ∈ gtbl := g_of (List.mem_of_getElem? (i := 486) (by decide +kernel)) rfl
theorem tp_487 : Cond.selects yX1_nodes.cls yX1_nodes yX1_nodes ∈ gtbl := g_of (List.mem_of_getElem? (i := 487) (by decide +kernel)) rfl
theorem tp_489 : Cond.methodLink RX6 25 yX1_loans ∈ gtbl := g_of (List.mem_of_getElem? (i := 489) (by decide +kernel)) rfl
set_option maxRecDepth 100000 in
theorem tp_492 : Cond.code M_X1_loans.1 M_X1_loans.2.1 M_X1_loans.2.2.1 M_X1_loans.2.2.2 ∈ gtbl := g_of (List.mem_of_getElem? (i := 492) rfl) rfl
theorem cb_X1_loans : CalB M_X1_loans 0 := ⟨tp_492, tp_105, ⟨by decide +kernel, by decide +kernel, by decide +kernel⟩, by decide⟩
theorem tp_490 : Cond.instanceMethod yX1_loans ∈ gtbl := g_of (List.mem_of_getElem? (i := 490) (by decide +kernel)) rfl
theorem tp_491 : Cond.selects yX1_loans.cls yX1_loans yX1_loans ∈ gtbl := g_of (List.mem_of_getElem? (i := 491) (by decide +kernel)) rfl
theorem tp_493 : Cond.methodLink RX6 28 yX6_nodes ∈ gtbl := g_of (List.mem_of_getElem? (i := 493) (by decide +kernel)) rfl
set_option maxRecDepth 100000 in
theorem tp_496 : Cond.code M_X6_nodes.1 M_X6_nodes.2.1 M_X6_nodes.2.2.1 M_X6_nodes.2.2.2 ∈ gtbl := g_of (List.mem_of_getElem? (i := 496) rfl) rfl
theorem cb_X6_nodes : CalB M_X6_nodes 0 := ⟨tp_496, tp_95, ⟨by decide +kernel, by decide +kernel, by decide +kernel⟩, by decide⟩
theorem tp_494 : Cond.instanceMethod yX6_nodes ∈ gtbl := g_of (List.mem_of_getElem? (i := 494) (by decide +kernel)) rfl
theorem tp_495 : Cond.selects yX6_nodes.cls yX6_nodes yX6_nodes ∈ gtbl := g_of (List.mem_of_getElem? (i := 495) (by decide +kernel)) rfl
theorem tp_497 : Cond.methodLink RX6 29 yX6_loans ∈ gtbl := g_of (List.mem_of_getElem? (i := 497) (by decide +kernel)) rfl
set_option maxRecDepth 100000 in
theorem tp_500 : Cond.code M_X6_loans.1 M_X6_loans.2.1 M_X6_loans.2.2.1 M_X6_loans.2.2.2 ∈ gtbl := g_of (List.mem_of_getElem? (i := 500) rfl) rfl
theorem cb_X6_loans : CalB M_X6_loans 0 := ⟨tp_500, tp_95, ⟨by decide +kernel, by decide +kernel, by decide +kernel⟩, by decide⟩
theorem tp_498 : Cond.instanceMethod yX6_loans ∈ gtbl := g_of (List.mem_of_getElem? (i := 498) (by decide +kernel)) rfl
theorem tp_499 : Cond.selects yX6_loans.cls yX6_loans yX6_loans ∈ gtbl := g_of (List.mem_of_getElem? (i := 499) (by decide +kernel)) rfl
theorem tp_120 : Cond.methodLink RX7 3 objectInit ∈ gtbl := g_of (List.mem_of_getElem? (i := 120) (by decide +kernel)) rfl
theorem tp_121 : Cond.fieldLink RX7 9 "OnceProver$Text" "signs" "[C" ∈ gtbl := g_of (List.mem_of_getElem? (i := 121) (by decide +kernel)) rfl
theorem fl_X7_9 : FL RX7 9 7 0 := ⟨kf7, by decide, tp_121⟩
theorem tp_122 : Cond.fieldLink RX7 15 "OnceProver$Text" "length" "I" ∈ gtbl := g_of (List.mem_of_getElem? (i := 122) (by decide +kernel)) rfl
theorem fl_X7_15 : FL RX7 15 7 1 := ⟨kf7, by decide, tp_122⟩
theorem tp_350 : Cond.methodLink RX7 19 Lib.Math.min.name ∈ gtbl := g_of (List.mem_of_getElem? (i := 350) (by decide +kernel)) rfl
theorem tp_353 : Cond.methodLink RX7 25 Lib.Math.max.name ∈ gtbl := g_of (List.mem_of_getElem? (i := 353) (by decide +kernel)) rfl
theorem tp_247 : Cond.methodLink RX8 3 objectInit ∈ gtbl := g_of (List.mem_of_getElem? (i := 247) (by decide +kernel)) rfl
theorem tp_202 : Cond.methodLink RX9 5 objectInit ∈ gtbl := g_of (List.mem_of_getElem? (i := 202) (by decide +kernel)) rfl
theorem tp_203 : Cond.constant RX9 11 153600 ∈ gtbl := g_of (List.mem_of_getElem? (i := 203) (by decide +kernel)) rfl
theorem tp_710 : Cond.methodLink RX9 28 yX3_root ∈ gtbl := g_of (List.mem_of_getElem? (i := 710) (by decide +kernel)) rfl
theorem tp_112 : Cond.methodLink RX10 3 objectInit ∈ gtbl := g_of (List.mem_of_getElem? (i := 112) (by decide +kernel)) rfl
theorem tp_115 : Cond.classLink RX10 9 RX7 ∈ gtbl := g_of (List.mem_of_getElem? (i := 115) (by decide +kernel)) rfl
theorem tp_116 : Cond.instantiable RX7 2 ∈ gtbl := g_of (List.mem_of_getElem? (i := 116) (by decide +kernel)) rfl
theorem tp_94 : Cond.initialized RX7 ∈ gtbl := g_of (List.mem_of_getElem? (i := 94) (by decide +kernel)) rfl
theorem nl_X10_11 : Cond.methodLinkNest RX10 11 yX7_init RX10 ∈ nests := by simp [nests]
set_option maxRecDepth 100000 in
theorem tp_119 : Cond.code M_X7_init.1 M_X7_init.2.1 M_X7_init.2.2.1 M_X7_init.2.2.2 ∈ gtbl := g_of (List.mem_of_getElem? (i := 119) rfl) rfl
theorem cb_X7_init : CalB M_X7_init 0 := ⟨tp_119, tp_94, ⟨by decide +kernel, by decide +kernel, by decide +kernel⟩, by decide⟩
theorem tp_118 : Cond.instanceMethod yX7_init ∈ gtbl := g_of (List.mem_of_getElem? (i := 118) (by decide +kernel)) rfl
theorem tp_277 : Cond.fieldLink RX10 12 "OnceProver" "text" "LOnceProver$Text;" ∈ gtbl := g_of (List.mem_of_getElem? (i := 277) (by decide +kernel)) rfl
theorem fl_X10_12 : FL RX10 12 10 0 := ⟨kf10, by decide, tp_277⟩
theorem tp_129 : Cond.classLink RX10 16 RX6 ∈ gtbl := g_of (List.mem_of_getElem? (i := 129) (by decide +kernel)) rfl
theorem tp_130 : Cond.instantiable RX6 1 ∈ gtbl := g_of (List.mem_of_getElem? (i := 130) (by decide +kernel)) rfl
theorem nl_X10_18 : Cond.methodLinkNest RX10 18 yX6_init RX10 ∈ nests := by simp [nests]
set_option maxRecDepth 100000 in
theorem tp_133 : Cond.code M_X6_init.1 M_X6_init.2.1 M_X6_init.2.2.1 M_X6_init.2.2.2 ∈ gtbl := g_of (List.mem_of_getElem? (i := 133) rfl) rfl
theorem cb_X6_init : CalB M_X6_init 0 := ⟨tp_133, tp_95, ⟨by decide +kernel, by decide +kernel, by decide +kernel⟩, by decide⟩
theorem tp_132 : Cond.instanceMethod yX6_init ∈ gtbl := g_of (List.mem_of_getElem? (i := 132) (by decide +kernel)) rfl
theorem tp_278 : Cond.fieldLink RX10 19 "OnceProver" "stock" "LOnceProver$Stock;" ∈ gtbl := g_of (List.mem_of_getElem? (i := 278) (by decide +kernel)) rfl
theorem fl_X10_19 : FL RX10 19 10 1 := ⟨kf10, by decide, tp_278⟩
theorem tp_279 : Cond.fieldLink RX10 23 "OnceProver" "saved" "[LOnceProver$Stock;" ∈ gtbl := g_of (List.mem_of_getElem? (i := 279) (by decide +kernel)) rfl
theorem fl_X10_23 : FL RX10 23 10 2 := ⟨kf10, by decide, tp_279⟩
theorem tp_142 : Cond.classLink RX10 27 RX3 ∈ gtbl := g_of (List.mem_of_getElem? (i := 142) (by decide +kernel)) rfl
theorem tp_143 : Cond.instantiable RX3 8 ∈ gtbl := g_of (List.mem_of_getElem? (i := 143) (by decide +kernel)) rfl
theorem nl_X10_29 : Cond.methodLinkNest RX10 29 yX3_init RX10 ∈ nests := by simp [nests]
set_option maxRecDepth 100000 in
theorem tp_146 : Cond.code M_X3_init.1 M_X3_init.2.1 M_X3_init.2.2.1 M_X3_init.2.2.2 ∈ gtbl := g_of (List.mem_of_getElem? (i := 146) rfl) rfl
theorem cb_X3_init : CalB M_X3_init 0 := ⟨tp_146, tp_96, ⟨by decide +kernel, by decide +kernel, by decide +kernel⟩, by decide⟩
theorem tp_145 : Cond.instanceMethod yX3_init ∈ gtbl := g_of (List.mem_of_getElem? (i := 145) (by decide +kernel)) rfl
theorem tp_280 : Cond.fieldLink RX10 30 "OnceProver" "sketch" "LOnceProver$Plan;" ∈ gtbl := g_of (List.mem_of_getElem? (i := 280) (by decide +kernel)) rfl
theorem fl_X10_30 : FL RX10 30 10 3 := ⟨kf10, by decide, tp_280⟩
theorem tp_281 : Cond.fieldLink RX10 34 "OnceProver" "plan" "LOnceProver$Plan;" ∈ gtbl := g_of (List.mem_of_getElem? (i := 281) (by decide +kernel)) rfl
theorem fl_X10_34 : FL RX10 34 10 4 := ⟨kf10, by decide, tp_281⟩
theorem tp_174 : Cond.classLink RX10 37 RX4 ∈ gtbl := g_of (List.mem_of_getElem? (i := 174) (by decide +kernel)) rfl
theorem tp_175 : Cond.instantiable RX4 5 ∈ gtbl := g_of (List.mem_of_getElem? (i := 175) (by decide +kernel)) rfl
theorem tp_176 : Cond.methodLink RX10 39 yX4_init ∈ gtbl := g_of (List.mem_of_getElem? (i := 176) (by decide +kernel)) rfl
set_option maxRecDepth 100000 in
theorem tp_178 : Cond.code M_X4_init.1 M_X4_init.2.1 M_X4_init.2.2.1 M_X4_init.2.2.2 ∈ gtbl := g_of (List.mem_of_getElem? (i := 178) rfl) rfl
theorem cb_X4_init : CalB M_X4_init 1 := ⟨tp_178, tp_97, ⟨by decide +kernel, by decide +kernel, by decide +kernel⟩, by decide⟩
theorem tp_177 : Cond.instanceMethod yX4_init ∈ gtbl := g_of (List.mem_of_getElem? (i := 177) (by decide +kernel)) rfl
theorem tp_282 : Cond.fieldLink RX10 42 "OnceProver" "reach" "LOnceProver$Reach;" ∈ gtbl := g_of (List.mem_of_getElem? (i := 282) (by decide +kernel)) rfl
theorem fl_X10_42 : FL RX10 42 10 5 := ⟨kf10, by decide, tp_282⟩
theorem tp_197 : Cond.classLink RX10 46 RX9 ∈ gtbl := g_of (List.mem_of_getElem? (i := 197) (by decide +kernel)) rfl
theorem tp_198 : Cond.instantiable RX9 4 ∈ gtbl := g_of (List.mem_of_getElem? (i := 198) (by decide +kernel)) rfl
theorem tp_199 : Cond.methodLink RX10 48 yX9_init ∈ gtbl := g_of (List.mem_of_getElem? (i := 199) (by decide +kernel)) rfl
set_option maxRecDepth 100000 in
theorem tp_201 : Cond.code M_X9_init.1 M_X9_init.2.1 M_X9_init.2.2.1 M_X9_init.2.2.2 ∈ gtbl := g_of (List.mem_of_getElem? (i := 201) rfl) rfl
theorem cb_X9_init : CalB M_X9_init 2 := ⟨tp_201, tp_98, ⟨by decide +kernel, by decide +kernel, by decide +kernel⟩, by decide⟩
theorem tp_200 : Cond.instanceMethod yX9_init ∈ gtbl := g_of (List.mem_of_getElem? (i := 200) (by decide +kernel)) rfl
theorem tp_283 : Cond.fieldLink RX10 51 "OnceProver" "tallies" "LOnceProver$Ways;" ∈ gtbl := g_of (List.mem_of_getElem? (i := 283) (by decide +kernel)) rfl
theorem fl_X10_51 : FL RX10 51 10 6 := ⟨kf10, by decide, tp_283⟩
theorem tp_217 : Cond.classLink RX10 55 RX0 ∈ gtbl := g_of (List.mem_of_getElem? (i := 217) (by decide +kernel)) rfl
theorem tp_218 : Cond.instantiable RX0 6 ∈ gtbl := g_of (List.mem_of_getElem? (i := 218) (by decide +kernel)) rfl
theorem tp_219 : Cond.methodLink RX10 57 yX0_init ∈ gtbl := g_of (List.mem_of_getElem? (i := 219) (by decide +kernel)) rfl
set_option maxRecDepth 100000 in
theorem tp_221 : Cond.code M_X0_init.1 M_X0_init.2.1 M_X0_init.2.2.1 M_X0_init.2.2.2 ∈ gtbl := g_of (List.mem_of_getElem? (i := 221) rfl) rfl
theorem cb_X0_init : CalB M_X0_init 2 := ⟨tp_221, tp_99, ⟨by decide +kernel, by decide +kernel, by decide +kernel⟩, by decide⟩
theorem tp_220 : Cond.instanceMethod yX0_init ∈ gtbl := g_of (List.mem_of_getElem? (i := 220) (by decide +kernel)) rfl
theorem tp_284 : Cond.fieldLink RX10 58 "OnceProver" "firstProof" "LOnceProver$FirstProof;" ∈ gtbl := g_of (List.mem_of_getElem? (i := 284) (by decide +kernel)) rfl
theorem fl_X10_58 : FL RX10 58 10 7 := ⟨kf10, by decide, tp_284⟩
theorem tp_242 : Cond.classLink RX10 62 RX8 ∈ gtbl := g_of (List.mem_of_getElem? (i := 242) (by decide +kernel)) rfl
theorem tp_243 : Cond.instantiable RX8 2 ∈ gtbl := g_of (List.mem_of_getElem? (i := 243) (by decide +kernel)) rfl
theorem nl_X10_64 : Cond.methodLinkNest RX10 64 yX8_init RX10 ∈ nests := by simp [nests]
set_option maxRecDepth 100000 in
theorem tp_246 : Cond.code M_X8_init.1 M_X8_init.2.1 M_X8_init.2.2.1 M_X8_init.2.2.2 ∈ gtbl := g_of (List.mem_of_getElem? (i := 246) rfl) rfl
theorem cb_X8_init : CalB M_X8_init 0 := ⟨tp_246, tp_100, ⟨by decide +kernel, by decide +kernel, by decide +kernel⟩, by decide⟩
theorem tp_245 : Cond.instanceMethod yX8_init ∈ gtbl := g_of (List.mem_of_getElem? (i := 245) (by decide +kernel)) rfl
theorem tp_285 : Cond.fieldLink RX10 65 "OnceProver" "attempt" "LOnceProver$Trial;" ∈ gtbl := g_of (List.mem_of_getElem? (i := 285) (by decide +kernel)) rfl
theorem fl_X10_65 : FL RX10 65 10 8 := ⟨kf10, by decide, tp_285⟩
theorem tp_255 : Cond.classLink RX10 69 RX2 ∈ gtbl := g_of (List.mem_of_getElem? (i := 255) (by decide +kernel)) rfl
theorem tp_256 : Cond.instantiable RX2 5 ∈ gtbl := g_of (List.mem_of_getElem? (i := 256) (by decide +kernel)) rfl
theorem tp_257 : Cond.methodLink RX10 71 yX2_init ∈ gtbl := g_of (List.mem_of_getElem? (i := 257) (by decide +kernel)) rfl
set_option maxRecDepth 100000 in
theorem tp_259 : Cond.code M_X2_init.1 M_X2_init.2.1 M_X2_init.2.2.1 M_X2_init.2.2.2 ∈ gtbl := g_of (List.mem_of_getElem? (i := 259) rfl) rfl
theorem cb_X2_init : CalB M_X2_init 2 := ⟨tp_259, tp_101, ⟨by decide +kernel, by decide +kernel, by decide +kernel⟩, by decide⟩
theorem tp_258 : Cond.instanceMethod yX2_init ∈ gtbl := g_of (List.mem_of_getElem? (i := 258) (by decide +kernel)) rfl
theorem tp_286 : Cond.fieldLink RX10 74 "OnceProver" "judge" "LOnceProver$Judge;" ∈ gtbl := g_of (List.mem_of_getElem? (i := 286) (by decide +kernel)) rfl
theorem fl_X10_74 : FL RX10 74 10 9 := ⟨kf10, by decide, tp_286⟩
theorem tp_287 : Cond.fieldLink RX10 78 "OnceProver" "lastFault" "I" ∈ gtbl := g_of (List.mem_of_getElem? (i := 287) (by decide +kernel)) rfl
theorem fl_X10_78 : FL RX10 78 10 10 := ⟨kf10, by decide, tp_287⟩
theorem tp_288 : Cond.fieldLink RX10 82 "OnceProver" "stale" "Z" ∈ gtbl := g_of (List.mem_of_getElem? (i := 288) (by decide +kernel)) rfl
theorem fl_X10_82 : FL RX10 82 10 11 := ⟨kf10, by decide, tp_288⟩
theorem tp_318 : Cond.methodLink RX10 86 yX7_append ∈ gtbl := g_of (List.mem_of_getElem? (i := 318) (by decide +kernel)) rfl
set_option maxRecDepth 100000 in
theorem tp_321 : Cond.code M_X7_append.1 M_X7_append.2.1 M_X7_append.2.2.1 M_X7_append.2.2.2 ∈ gtbl := g_of (List.mem_of_getElem? (i := 321) rfl) rfl
theorem cb_X7_append : CalB M_X7_append 1 := ⟨tp_321, tp_94, ⟨by decide +kernel, by decide +kernel, by decide +kernel⟩, by decide⟩
theorem tp_319 : Cond.instanceMethod yX7_append ∈ gtbl := g_of (List.mem_of_getElem? (i := 319) (by decide +kernel)) rfl
theorem tp_320 : Cond.selects yX7_append.cls yX7_append yX7_append ∈ gtbl := g_of (List.mem_of_getElem? (i := 320) (by decide +kernel)) rfl
theorem tp_322 : Cond.methodLink RX10 90 yX7_length ∈ gtbl := g_of (List.mem_of_getElem? (i := 322) (by decide +kernel)) rfl
set_option maxRecDepth 100000 in
theorem tp_325 : Cond.code M_X7_length.1 M_X7_length.2.1 M_X7_length.2.2.1 M_X7_length.2.2.2 ∈ gtbl := g_of (List.mem_of_getElem? (i := 325) rfl) rfl
theorem cb_X7_length : CalB M_X7_length 0 := ⟨tp_325, tp_94, ⟨by decide +kernel, by decide +kernel, by decide +kernel⟩, by decide⟩
theorem tp_323 : Cond.instanceMethod yX7_length ∈ gtbl := g_of (List.mem_of_getElem? (i := 323) (by decide +kernel)) rfl
theorem tp_324 : Cond.selects yX7_length.cls yX7_length yX7_length ∈ gtbl := g_of (List.mem_of_getElem? (i := 324) (by decide +kernel)) rfl
theorem tp_330 : Cond.methodLink RX10 94 yX7_clear ∈ gtbl := g_of (List.mem_of_getElem? (i := 330) (by decide +kernel)) rfl
set_option maxRecDepth 100000 in
theorem tp_333 : Cond.code M_X7_clear.1 M_X7_clear.2.1 M_X7_clear.2.2.1 M_X7_clear.2.2.2 ∈ gtbl := g_of (List.mem_of_getElem? (i := 333) rfl) rfl
theorem cb_X7_clear : CalB M_X7_clear 0 := ⟨tp_333, tp_94, ⟨by decide +kernel, by decide +kernel, by decide +kernel⟩, by decide⟩
theorem tp_331 : Cond.instanceMethod yX7_clear ∈ gtbl := g_of (List.mem_of_getElem? (i := 331) (by decide +kernel)) rfl
theorem tp_332 : Cond.selects yX7_clear.cls yX7_clear yX7_clear ∈ gtbl := g_of (List.mem_of_getElem? (i := 332) (by decide +kernel)) rfl
theorem tp_441 : Cond.methodLink RX10 220 yX5_failed ∈ gtbl := g_of (List.mem_of_getElem? (i := 441) (by decide +kernel)) rfl
set_option maxRecDepth 100000 in
theorem tp_444 : Cond.code M_X5_failed.1 M_X5_failed.2.1 M_X5_failed.2.2.1 M_X5_failed.2.2.2 ∈ gtbl := g_of (List.mem_of_getElem? (i := 444) rfl) rfl
theorem cb_X5_failed : CalB M_X5_failed 0 := ⟨tp_444, tp_104, ⟨by decide +kernel, by decide +kernel, by decide +kernel⟩, by decide⟩
theorem tp_442 : Cond.instanceMethod yX5_failed ∈ gtbl := g_of (List.mem_of_getElem? (i := 442) (by decide +kernel)) rfl
theorem tp_443 : Cond.selects yX5_failed.cls yX5_failed yX5_failed ∈ gtbl := g_of (List.mem_of_getElem? (i := 443) (by decide +kernel)) rfl
theorem tp_449 : Cond.classLink RX10 114 RX1 ∈ gtbl := g_of (List.mem_of_getElem? (i := 449) (by decide +kernel)) rfl
theorem tp_450 : Cond.instantiable RX1 3 ∈ gtbl := g_of (List.mem_of_getElem? (i := 450) (by decide +kernel)) rfl
theorem tp_451 : Cond.methodLink RX10 226 yX3_nodes ∈ gtbl := g_of (List.mem_of_getElem? (i := 451) (by decide +kernel)) rfl
theorem tp_455 : Cond.methodLink RX10 227 yX3_loans ∈ gtbl := g_of (List.mem_of_getElem? (i := 455) (by decide +kernel)) rfl
set_option maxRecDepth 100000 in
theorem tp_458 : Cond.code M_X3_loans.1 M_X3_loans.2.1 M_X3_loans.2.2.1 M_X3_loans.2.2.2 ∈ gtbl := g_of (List.mem_of_getElem? (i := 458) rfl) rfl
theorem cb_X3_loans : CalB M_X3_loans 0 := ⟨tp_458, tp_96, ⟨by decide +kernel, by decide +kernel, by decide +kernel⟩, by decide⟩
theorem tp_456 : Cond.instanceMethod yX3_loans ∈ gtbl := g_of (List.mem_of_getElem? (i := 456) (by decide +kernel)) rfl
theorem tp_457 : Cond.selects yX3_loans.cls yX3_loans yX3_loans ∈ gtbl := g_of (List.mem_of_getElem? (i := 457) (by decide +kernel)) rfl
theorem tp_459 : Cond.methodLink RX10 228 yX1_init ∈ gtbl := g_of (List.mem_of_getElem? (i := 459) (by decide +kernel)) rfl
set_option maxRecDepth 100000 in
theorem tp_461 : Cond.code M_X1_init.1 M_X1_init.2.1 M_X1_init.2.2.1 M_X1_init.2.2.2 ∈ gtbl := g_of (List.mem_of_getElem? (i := 461) rfl) rfl
theorem cb_X1_init : CalB M_X1_init 3 := ⟨tp_461, tp_105, ⟨by decide +kernel, by decide +kernel, by decide +kernel⟩, by decide⟩
theorem tp_460 : Cond.instanceMethod yX1_init ∈ gtbl := g_of (List.mem_of_getElem? (i := 460) (by decide +kernel)) rfl
theorem tp_445 : Cond.methodLink RX10 223 yX5_faultPlace ∈ gtbl := g_of (List.mem_of_getElem? (i := 445) (by decide +kernel)) rfl
set_option maxRecDepth 100000 in
theorem tp_448 : Cond.code M_X5_faultPlace.1 M_X5_faultPlace.2.1 M_X5_faultPlace.2.2.1 M_X5_faultPlace.2.2.2 ∈ gtbl := g_of (List.mem_of_getElem? (i := 448) rfl) rfl
theorem cb_X5_faultPlace : CalB M_X5_faultPlace 0 := ⟨tp_448, tp_104, ⟨by decide +kernel, by decide +kernel, by decide +kernel⟩, by decide⟩
theorem tp_446 : Cond.instanceMethod yX5_faultPlace ∈ gtbl := g_of (List.mem_of_getElem? (i := 446) (by decide +kernel)) rfl
theorem tp_447 : Cond.selects yX5_faultPlace.cls yX5_faultPlace yX5_faultPlace ∈ gtbl := g_of (List.mem_of_getElem? (i := 447) (by decide +kernel)) rfl
theorem tp_346 : Cond.methodLink RX10 204 yX7_copy ∈ gtbl := g_of (List.mem_of_getElem? (i := 346) (by decide +kernel)) rfl
set_option maxRecDepth 100000 in
theorem tp_349 : Cond.code M_X7_copy.1 M_X7_copy.2.1 M_X7_copy.2.2.1 M_X7_copy.2.2.2 ∈ gtbl := g_of (List.mem_of_getElem? (i := 349) rfl) rfl
theorem cb_X7_copy : CalB M_X7_copy 0 := ⟨tp_349, tp_94, ⟨by decide +kernel, by decide +kernel, by decide +kernel⟩, by decide⟩
theorem tp_347 : Cond.instanceMethod yX7_copy ∈ gtbl := g_of (List.mem_of_getElem? (i := 347) (by decide +kernel)) rfl
theorem tp_348 : Cond.selects yX7_copy.cls yX7_copy yX7_copy ∈ gtbl := g_of (List.mem_of_getElem? (i := 348) (by decide +kernel)) rfl
theorem tp_356 : Cond.methodLink RX10 208 yX3_clear ∈ gtbl := g_of (List.mem_of_getElem? (i := 356) (by decide +kernel)) rfl
theorem tp_360 : Cond.classLink RX10 209 RX5 ∈ gtbl := g_of (List.mem_of_getElem? (i := 360) (by decide +kernel)) rfl
theorem tp_362 : Cond.methodLink RX10 211 yX5_init ∈ gtbl := g_of (List.mem_of_getElem? (i := 362) (by decide +kernel)) rfl
theorem tp_437 : Cond.methodLink RX10 217 yX5_readWholeGoal ∈ gtbl := g_of (List.mem_of_getElem? (i := 437) (by decide +kernel)) rfl
theorem tp_379 : Cond.methodLink RX10 214 yX5_readWholeOffer ∈ gtbl := g_of (List.mem_of_getElem? (i := 379) (by decide +kernel)) rfl
theorem tp_505 : Cond.methodLink RX10 234 yX6_set ∈ gtbl := g_of (List.mem_of_getElem? (i := 505) (by decide +kernel)) rfl
set_option maxRecDepth 100000 in
theorem tp_508 : Cond.code M_X6_set.1 M_X6_set.2.1 M_X6_set.2.2.1 M_X6_set.2.2.2 ∈ gtbl := g_of (List.mem_of_getElem? (i := 508) rfl) rfl
theorem cb_X6_set : CalB M_X6_set 2 := ⟨tp_508, tp_95, ⟨by decide +kernel, by decide +kernel, by decide +kernel⟩, by decide⟩
theorem tp_506 : Cond.instanceMethod yX6_set ∈ gtbl := g_of (List.mem_of_getElem? (i := 506) (by decide +kernel)) rfl
theorem tp_507 : Cond.selects yX6_set.cls yX6_set yX6_set ∈ gtbl := g_of (List.mem_of_getElem? (i := 507) (by decide +kernel)) rfl
theorem tp_342 : Cond.methodLink RX10 101 yX10_readText ∈ gtbl := g_of (List.mem_of_getElem? (i := 342) (by decide +kernel)) rfl
set_option maxRecDepth 100000 in
theorem tp_345 : Cond.code M_X10_readText.1 M_X10_readText.2.1 M_X10_readText.2.2.1 M_X10_readText.2.2.2 ∈ gtbl := g_of (List.mem_of_getElem? (i := 345) rfl) rfl
theorem cb_X10_readText : CalB M_X10_readText 1 := ⟨tp_345, tp_93, ⟨by decide +kernel, by decide +kernel, by decide +kernel⟩, by decide⟩
theorem tp_344 : Cond.instanceMethod yX10_readText ∈ gtbl := g_of (List.mem_of_getElem? (i := 344) (by decide +kernel)) rfl
theorem tp_1 : Cond.selects yX10_readText.cls yX10_readText yX10_readText ∈ gtbl := g_of (List.mem_of_getElem? (i := 1) (by decide +kernel)) rfl
theorem tp_473 : Cond.methodLink RX10 231 yX6_firstFree ∈ gtbl := g_of (List.mem_of_getElem? (i := 473) (by decide +kernel)) rfl
set_option maxRecDepth 100000 in
theorem tp_476 : Cond.code M_X6_firstFree.1 M_X6_firstFree.2.1 M_X6_firstFree.2.2.1 M_X6_firstFree.2.2.2 ∈ gtbl := g_of (List.mem_of_getElem? (i := 476) rfl) rfl
theorem cb_X6_firstFree : CalB M_X6_firstFree 2 := ⟨tp_476, tp_95, ⟨by decide +kernel, by decide +kernel, by decide +kernel⟩, by decide⟩
theorem tp_474 : Cond.instanceMethod yX6_firstFree ∈ gtbl := g_of (List.mem_of_getElem? (i := 474) (by decide +kernel)) rfl
theorem tp_475 : Cond.selects yX6_firstFree.cls yX6_firstFree yX6_firstFree ∈ gtbl := g_of (List.mem_of_getElem? (i := 475) (by decide +kernel)) rfl
theorem tp_481 : Cond.methodLink RX10 105 yX6_hasRoom ∈ gtbl := g_of (List.mem_of_getElem? (i := 481) (by decide +kernel)) rfl
set_option maxRecDepth 100000 in
theorem tp_484 : Cond.code M_X6_hasRoom.1 M_X6_hasRoom.2.1 M_X6_hasRoom.2.2.1 M_X6_hasRoom.2.2.2 ∈ gtbl := g_of (List.mem_of_getElem? (i := 484) rfl) rfl
theorem cb_X6_hasRoom : CalB M_X6_hasRoom 2 := ⟨tp_484, tp_95, ⟨by decide +kernel, by decide +kernel, by decide +kernel⟩, by decide⟩
theorem tp_482 : Cond.instanceMethod yX6_hasRoom ∈ gtbl := g_of (List.mem_of_getElem? (i := 482) (by decide +kernel)) rfl
theorem tp_483 : Cond.selects yX6_hasRoom.cls yX6_hasRoom yX6_hasRoom ∈ gtbl := g_of (List.mem_of_getElem? (i := 483) (by decide +kernel)) rfl
theorem tp_501 : Cond.methodLink RX10 109 yX10_settle ∈ gtbl := g_of (List.mem_of_getElem? (i := 501) (by decide +kernel)) rfl
set_option maxRecDepth 100000 in
theorem tp_504 : Cond.code M_X10_settle.1 M_X10_settle.2.1 M_X10_settle.2.2.1 M_X10_settle.2.2.2 ∈ gtbl := g_of (List.mem_of_getElem? (i := 504) rfl) rfl
theorem cb_X10_settle : CalB M_X10_settle 2 := ⟨tp_504, tp_93, ⟨by decide +kernel, by decide +kernel, by decide +kernel⟩, by decide⟩
theorem tp_503 : Cond.instanceMethod yX10_settle ∈ gtbl := g_of (List.mem_of_getElem? (i := 503) (by decide +kernel)) rfl
theorem tp_11 : Cond.selects yX10_settle.cls yX10_settle yX10_settle ∈ gtbl := g_of (List.mem_of_getElem? (i := 11) (by decide +kernel)) rfl
theorem tp_338 : Cond.methodLink RX10 97 yX10_takeOffer ∈ gtbl := g_of (List.mem_of_getElem? (i := 338) (by decide +kernel)) rfl
set_option maxRecDepth 100000 in
theorem tp_341 : Cond.code M_X10_takeOffer.1 M_X10_takeOffer.2.1 M_X10_takeOffer.2.2.1 M_X10_takeOffer.2.2.2 ∈ gtbl := g_of (List.mem_of_getElem? (i := 341) rfl) rfl
theorem cb_X10_takeOffer : CalB M_X10_takeOffer 2 := ⟨tp_341, tp_93, ⟨by decide +kernel, by decide +kernel, by decide +kernel⟩, by decide⟩
theorem tp_340 : Cond.instanceMethod yX10_takeOffer ∈ gtbl := g_of (List.mem_of_getElem? (i := 340) (by decide +kernel)) rfl
theorem tp_0 : Cond.selects yX10_takeOffer.cls yX10_takeOffer yX10_takeOffer ∈ gtbl := g_of (List.mem_of_getElem? (i := 0) (by decide +kernel)) rfl
theorem tp_517 : Cond.methodLink RX10 113 yX1_nodes ∈ gtbl := g_of (List.mem_of_getElem? (i := 517) (by decide +kernel)) rfl
theorem tp_530 : Cond.methodLink RX10 237 yX6_at ∈ gtbl := g_of (List.mem_of_getElem? (i := 530) (by decide +kernel)) rfl
theorem tp_531 : Cond.methodLink RX10 194 yX6_present ∈ gtbl := g_of (List.mem_of_getElem? (i := 531) (by decide +kernel)) rfl
set_option maxRecDepth 100000 in
theorem tp_534 : Cond.code M_X6_present.1 M_X6_present.2.1 M_X6_present.2.2.1 M_X6_present.2.2.2 ∈ gtbl := g_of (List.mem_of_getElem? (i := 534) rfl) rfl
theorem cb_X6_present : CalB M_X6_present 2 := ⟨tp_534, tp_95, ⟨by decide +kernel, by decide +kernel, by decide +kernel⟩, by decide⟩
theorem tp_532 : Cond.instanceMethod yX6_present ∈ gtbl := g_of (List.mem_of_getElem? (i := 532) (by decide +kernel)) rfl
theorem tp_533 : Cond.selects yX6_present.cls yX6_present yX6_present ∈ gtbl := g_of (List.mem_of_getElem? (i := 533) (by decide +kernel)) rfl
theorem tp_545 : Cond.methodLink RX10 129 yX10_hasGoal ∈ gtbl := g_of (List.mem_of_getElem? (i := 545) (by decide +kernel)) rfl
set_option maxRecDepth 100000 in
theorem tp_548 : Cond.code M_X10_hasGoal.1 M_X10_hasGoal.2.1 M_X10_hasGoal.2.2.1 M_X10_hasGoal.2.2.2 ∈ gtbl := g_of (List.mem_of_getElem? (i := 548) rfl) rfl
theorem cb_X10_hasGoal : CalB M_X10_hasGoal 0 := ⟨tp_548, tp_93, ⟨by decide +kernel, by decide +kernel, by decide +kernel⟩, by decide⟩
theorem tp_547 : Cond.instanceMethod yX10_hasGoal ∈ gtbl := g_of (List.mem_of_getElem? (i := 547) (by decide +kernel)) rfl
theorem tp_14 : Cond.selects yX10_hasGoal.cls yX10_hasGoal yX10_hasGoal ∈ gtbl := g_of (List.mem_of_getElem? (i := 14) (by decide +kernel)) rfl
theorem tp_526 : Cond.methodLink RX10 118 yX10_dropNumbered ∈ gtbl := g_of (List.mem_of_getElem? (i := 526) (by decide +kernel)) rfl
set_option maxRecDepth 100000 in
theorem tp_529 : Cond.code M_X10_dropNumbered.1 M_X10_dropNumbered.2.1 M_X10_dropNumbered.2.2.1 M_X10_dropNumbered.2.2.2 ∈ gtbl := g_of (List.mem_of_getElem? (i := 529) rfl) rfl
theorem cb_X10_dropNumbered : CalB M_X10_dropNumbered 3 := ⟨tp_529, tp_93, ⟨by decide +kernel, by decide +kernel, by decide +kernel⟩, by decide⟩
theorem tp_528 : Cond.instanceMethod yX10_dropNumbered ∈ gtbl := g_of (List.mem_of_getElem? (i := 528) (by decide +kernel)) rfl
theorem tp_12 : Cond.selects yX10_dropNumbered.cls yX10_dropNumbered yX10_dropNumbered ∈ gtbl := g_of (List.mem_of_getElem? (i := 12) (by decide +kernel)) rfl
theorem tp_541 : Cond.methodLink RX10 122 yX10_dropGoal ∈ gtbl := g_of (List.mem_of_getElem? (i := 541) (by decide +kernel)) rfl
set_option maxRecDepth 100000 in
theorem tp_544 : Cond.code M_X10_dropGoal.1 M_X10_dropGoal.2.1 M_X10_dropGoal.2.2.1 M_X10_dropGoal.2.2.2 ∈ gtbl := g_of (List.mem_of_getElem? (i := 544) rfl) rfl
theorem cb_X10_dropGoal : CalB M_X10_dropGoal 0 := ⟨tp_544, tp_93, ⟨by decide +kernel, by decide +kernel, by decide +kernel⟩, by decide⟩
theorem tp_543 : Cond.instanceMethod yX10_dropGoal ∈ gtbl := g_of (List.mem_of_getElem? (i := 543) (by decide +kernel)) rfl
theorem tp_13 : Cond.selects yX10_dropGoal.cls yX10_dropGoal yX10_dropGoal ∈ gtbl := g_of (List.mem_of_getElem? (i := 13) (by decide +kernel)) rfl
theorem tp_557 : Cond.methodLink RX10 142 yX10_allResources ∈ gtbl := g_of (List.mem_of_getElem? (i := 557) (by decide +kernel)) rfl
set_option maxRecDepth 100000 in
theorem tp_560 : Cond.code M_X10_allResources.1 M_X10_allResources.2.1 M_X10_allResources.2.2.1 M_X10_allResources.2.2.2 ∈ gtbl := g_of (List.mem_of_getElem? (i := 560) rfl) rfl
theorem cb_X10_allResources : CalB M_X10_allResources 0 := ⟨tp_560, tp_93, ⟨by decide +kernel, by decide +kernel, by decide +kernel⟩, by decide⟩
theorem tp_559 : Cond.instanceMethod yX10_allResources ∈ gtbl := g_of (List.mem_of_getElem? (i := 559) (by decide +kernel)) rfl
theorem tp_16 : Cond.selects yX10_allResources.cls yX10_allResources yX10_allResources ∈ gtbl := g_of (List.mem_of_getElem? (i := 16) (by decide +kernel)) rfl
theorem tp_565 : Cond.methodLink RX10 240 yX3_build ∈ gtbl := g_of (List.mem_of_getElem? (i := 565) (by decide +kernel)) rfl
set_option maxRecDepth 100000 in
theorem tp_568 : Cond.code M_X3_build.1 M_X3_build.2.1 M_X3_build.2.2.1 M_X3_build.2.2.2 ∈ gtbl := g_of (List.mem_of_getElem? (i := 568) rfl) rfl
theorem cb_X3_build : CalB M_X3_build 1 := ⟨tp_568, tp_96, ⟨by decide +kernel, by decide +kernel, by decide +kernel⟩, by decide⟩
theorem tp_566 : Cond.instanceMethod yX3_build ∈ gtbl := g_of (List.mem_of_getElem? (i := 566) (by decide +kernel)) rfl
theorem tp_567 : Cond.selects yX3_build.cls yX3_build yX3_build ∈ gtbl := g_of (List.mem_of_getElem? (i := 567) (by decide +kernel)) rfl
theorem tp_579 : Cond.methodLink RX10 243 yX4_compute ∈ gtbl := g_of (List.mem_of_getElem? (i := 579) (by decide +kernel)) rfl
set_option maxRecDepth 100000 in
theorem tp_582 : Cond.code M_X4_compute.1 M_X4_compute.2.1 M_X4_compute.2.2.1 M_X4_compute.2.2.2 ∈ gtbl := g_of (List.mem_of_getElem? (i := 582) rfl) rfl
theorem cb_X4_compute : CalB M_X4_compute 0 := ⟨tp_582, tp_97, ⟨by decide +kernel, by decide +kernel, by decide +kernel⟩, by decide⟩
theorem tp_580 : Cond.instanceMethod yX4_compute ∈ gtbl := g_of (List.mem_of_getElem? (i := 580) (by decide +kernel)) rfl
theorem tp_581 : Cond.selects yX4_compute.cls yX4_compute yX4_compute ∈ gtbl := g_of (List.mem_of_getElem? (i := 581) (by decide +kernel)) rfl
theorem tp_676 : Cond.methodLink RX10 246 yX9_forget ∈ gtbl := g_of (List.mem_of_getElem? (i := 676) (by decide +kernel)) rfl
set_option maxRecDepth 100000 in
theorem tp_679 : Cond.code M_X9_forget.1 M_X9_forget.2.1 M_X9_forget.2.2.1 M_X9_forget.2.2.2 ∈ gtbl := g_of (List.mem_of_getElem? (i := 679) rfl) rfl
theorem cb_X9_forget : CalB M_X9_forget 0 := ⟨tp_679, tp_98, ⟨by decide +kernel, by decide +kernel, by decide +kernel⟩, by decide⟩
theorem tp_677 : Cond.instanceMethod yX9_forget ∈ gtbl := g_of (List.mem_of_getElem? (i := 677) (by decide +kernel)) rfl
theorem tp_678 : Cond.selects yX9_forget.cls yX9_forget yX9_forget ∈ gtbl := g_of (List.mem_of_getElem? (i := 678) (by decide +kernel)) rfl
theorem tp_680 : Cond.methodLink RX10 249 yX0_forget ∈ gtbl := g_of (List.mem_of_getElem? (i := 680) (by decide +kernel)) rfl
set_option maxRecDepth 100000 in
theorem tp_683 : Cond.code M_X0_forget.1 M_X0_forget.2.1 M_X0_forget.2.2.1 M_X0_forget.2.2.2 ∈ gtbl := g_of (List.mem_of_getElem? (i := 683) rfl) rfl
theorem cb_X0_forget : CalB M_X0_forget 0 := ⟨tp_683, tp_99, ⟨by decide +kernel, by decide +kernel, by decide +kernel⟩, by decide⟩
theorem tp_681 : Cond.instanceMethod yX0_forget ∈ gtbl := g_of (List.mem_of_getElem? (i := 681) (by decide +kernel)) rfl
theorem tp_682 : Cond.selects yX0_forget.cls yX0_forget yX0_forget ∈ gtbl := g_of (List.mem_of_getElem? (i := 682) (by decide +kernel)) rfl
theorem tp_553 : Cond.methodLink RX10 125 yX10_isSetOfResources ∈ gtbl := g_of (List.mem_of_getElem? (i := 553) (by decide +kernel)) rfl
set_option maxRecDepth 100000 in
theorem tp_556 : Cond.code M_X10_isSetOfResources.1 M_X10_isSetOfResources.2.1 M_X10_isSetOfResources.2.2.1 M_X10_isSetOfResources.2.2.2 ∈ gtbl := g_of (List.mem_of_getElem? (i := 556) rfl) rfl
theorem cb_X10_isSetOfResources : CalB M_X10_isSetOfResources 1 := ⟨tp_556, tp_93, ⟨by decide +kernel, by decide +kernel, by decide +kernel⟩, by decide⟩
theorem tp_555 : Cond.instanceMethod yX10_isSetOfResources ∈ gtbl := g_of (List.mem_of_getElem? (i := 555) (by decide +kernel)) rfl
theorem tp_15 : Cond.selects yX10_isSetOfResources.cls yX10_isSetOfResources yX10_isSetOfResources ∈ gtbl := g_of (List.mem_of_getElem? (i := 15) (by decide +kernel)) rfl
theorem tp_561 : Cond.methodLink RX10 133 yX10_prepare ∈ gtbl := g_of (List.mem_of_getElem? (i := 561) (by decide +kernel)) rfl
set_option maxRecDepth 100000 in
theorem tp_564 : Cond.code M_X10_prepare.1 M_X10_prepare.2.1 M_X10_prepare.2.2.1 M_X10_prepare.2.2.2 ∈ gtbl := g_of (List.mem_of_getElem? (i := 564) rfl) rfl
theorem cb_X10_prepare : CalB M_X10_prepare 0 := ⟨tp_564, tp_93, ⟨by decide +kernel, by decide +kernel, by decide +kernel⟩, by decide⟩
theorem tp_563 : Cond.instanceMethod yX10_prepare ∈ gtbl := g_of (List.mem_of_getElem? (i := 563) (by decide +kernel)) rfl
theorem tp_17 : Cond.selects yX10_prepare.cls yX10_prepare yX10_prepare ∈ gtbl := g_of (List.mem_of_getElem? (i := 17) (by decide +kernel)) rfl
theorem tp_684 : Cond.methodLink RX10 136 yX3_root ∈ gtbl := g_of (List.mem_of_getElem? (i := 684) (by decide +kernel)) rfl
theorem tp_688 : Cond.methodLink RX10 139 yX4_leastHeight ∈ gtbl := g_of (List.mem_of_getElem? (i := 688) (by decide +kernel)) rfl
theorem tp_701 : Cond.methodLink RX10 145 yX4_proves ∈ gtbl := g_of (List.mem_of_getElem? (i := 701) (by decide +kernel)) rfl
theorem tp_706 : Cond.methodLink RX10 149 yX9_number ∈ gtbl := g_of (List.mem_of_getElem? (i := 706) (by decide +kernel)) rfl
set_option maxRecDepth 100000 in
theorem tp_709 : Cond.code M_X9_number.1 M_X9_number.2.1 M_X9_number.2.2.1 M_X9_number.2.2.2 ∈ gtbl := g_of (List.mem_of_getElem? (i := 709) rfl) rfl
theorem cb_X9_number : CalB M_X9_number 2 := ⟨tp_709, tp_98, ⟨by decide +kernel, by decide +kernel, by decide +kernel⟩, by decide⟩
theorem tp_707 : Cond.instanceMethod yX9_number ∈ gtbl := g_of (List.mem_of_getElem? (i := 707) (by decide +kernel)) rfl
theorem tp_708 : Cond.selects yX9_number.cls yX9_number yX9_number ∈ gtbl := g_of (List.mem_of_getElem? (i := 708) (by decide +kernel)) rfl
theorem tp_759 : Cond.methodLink RX10 158 yX10_isProvable ∈ gtbl := g_of (List.mem_of_getElem? (i := 759) (by decide +kernel)) rfl
set_option maxRecDepth 100000 in
theorem tp_762 : Cond.code M_X10_isProvable.1 M_X10_isProvable.2.1 M_X10_isProvable.2.2.1 M_X10_isProvable.2.2.2 ∈ gtbl := g_of (List.mem_of_getElem? (i := 762) rfl) rfl
theorem cb_X10_isProvable : CalB M_X10_isProvable 1 := ⟨tp_762, tp_93, ⟨by decide +kernel, by decide +kernel, by decide +kernel⟩, by decide⟩
theorem tp_761 : Cond.instanceMethod yX10_isProvable ∈ gtbl := g_of (List.mem_of_getElem? (i := 761) (by decide +kernel)) rfl
theorem tp_38 : Cond.selects yX10_isProvable.cls yX10_isProvable yX10_isProvable ∈ gtbl := g_of (List.mem_of_getElem? (i := 38) (by decide +kernel)) rfl
theorem tp_771 : Cond.methodLink RX10 161 yX0_find ∈ gtbl := g_of (List.mem_of_getElem? (i := 771) (by decide +kernel)) rfl
set_option maxRecDepth 100000 in
theorem tp_774 : Cond.code M_X0_find.1 M_X0_find.2.1 M_X0_find.2.2.1 M_X0_find.2.2.2 ∈ gtbl := g_of (List.mem_of_getElem? (i := 774) rfl) rfl
theorem cb_X0_find : CalB M_X0_find 1 := ⟨tp_774, tp_99, ⟨by decide +kernel, by decide +kernel, by decide +kernel⟩, by decide⟩
theorem tp_772 : Cond.instanceMethod yX0_find ∈ gtbl := g_of (List.mem_of_getElem? (i := 772) (by decide +kernel)) rfl
theorem tp_773 : Cond.selects yX0_find.cls yX0_find yX0_find ∈ gtbl := g_of (List.mem_of_getElem? (i := 773) (by decide +kernel)) rfl
theorem tp_814 : Cond.methodLink RX10 165 yX0_exists ∈ gtbl := g_of (List.mem_of_getElem? (i := 814) (by decide +kernel)) rfl
set_option maxRecDepth 100000 in
theorem tp_817 : Cond.code M_X0_exists.1 M_X0_exists.2.1 M_X0_exists.2.2.1 M_X0_exists.2.2.2 ∈ gtbl := g_of (List.mem_of_getElem? (i := 817) rfl) rfl
theorem cb_X0_exists : CalB M_X0_exists 0 := ⟨tp_817, tp_99, ⟨by decide +kernel, by decide +kernel, by decide +kernel⟩, by decide⟩
theorem tp_815 : Cond.instanceMethod yX0_exists ∈ gtbl := g_of (List.mem_of_getElem? (i := 815) (by decide +kernel)) rfl
theorem tp_816 : Cond.selects yX0_exists.cls yX0_exists yX0_exists ∈ gtbl := g_of (List.mem_of_getElem? (i := 816) (by decide +kernel)) rfl
theorem tp_818 : Cond.methodLink RX10 168 yX0_length ∈ gtbl := g_of (List.mem_of_getElem? (i := 818) (by decide +kernel)) rfl
set_option maxRecDepth 100000 in
theorem tp_821 : Cond.code M_X0_length.1 M_X0_length.2.1 M_X0_length.2.2.1 M_X0_length.2.2.2 ∈ gtbl := g_of (List.mem_of_getElem? (i := 821) rfl) rfl
theorem cb_X0_length : CalB M_X0_length 0 := ⟨tp_821, tp_99, ⟨by decide +kernel, by decide +kernel, by decide +kernel⟩, by decide⟩
theorem tp_819 : Cond.instanceMethod yX0_length ∈ gtbl := g_of (List.mem_of_getElem? (i := 819) (by decide +kernel)) rfl
theorem tp_820 : Cond.selects yX0_length.cls yX0_length yX0_length ∈ gtbl := g_of (List.mem_of_getElem? (i := 820) (by decide +kernel)) rfl
theorem tp_822 : Cond.methodLink RX10 169 yX0_at ∈ gtbl := g_of (List.mem_of_getElem? (i := 822) (by decide +kernel)) rfl
theorem tp_830 : Cond.methodLink RX10 172 yX0_usesOf ∈ gtbl := g_of (List.mem_of_getElem? (i := 830) (by decide +kernel)) rfl
set_option maxRecDepth 100000 in
theorem tp_833 : Cond.code M_X0_usesOf.1 M_X0_usesOf.2.1 M_X0_usesOf.2.2.1 M_X0_usesOf.2.2.2 ∈ gtbl := g_of (List.mem_of_getElem? (i := 833) rfl) rfl
theorem cb_X0_usesOf : CalB M_X0_usesOf 1 := ⟨tp_833, tp_99, ⟨by decide +kernel, by decide +kernel, by decide +kernel⟩, by decide⟩
theorem tp_831 : Cond.instanceMethod yX0_usesOf ∈ gtbl := g_of (List.mem_of_getElem? (i := 831) (by decide +kernel)) rfl
theorem tp_832 : Cond.selects yX0_usesOf.cls yX0_usesOf yX0_usesOf ∈ gtbl := g_of (List.mem_of_getElem? (i := 832) (by decide +kernel)) rfl
theorem tp_839 : Cond.methodLink RX10 175 yX8_append ∈ gtbl := g_of (List.mem_of_getElem? (i := 839) (by decide +kernel)) rfl
set_option maxRecDepth 100000 in
theorem tp_842 : Cond.code M_X8_append.1 M_X8_append.2.1 M_X8_append.2.2.1 M_X8_append.2.2.2 ∈ gtbl := g_of (List.mem_of_getElem? (i := 842) rfl) rfl
theorem cb_X8_append : CalB M_X8_append 1 := ⟨tp_842, tp_100, ⟨by decide +kernel, by decide +kernel, by decide +kernel⟩, by decide⟩
theorem tp_840 : Cond.instanceMethod yX8_append ∈ gtbl := g_of (List.mem_of_getElem? (i := 840) (by decide +kernel)) rfl
theorem tp_841 : Cond.selects yX8_append.cls yX8_append yX8_append ∈ gtbl := g_of (List.mem_of_getElem? (i := 841) (by decide +kernel)) rfl
theorem tp_843 : Cond.methodLink RX10 177 yX8_length ∈ gtbl := g_of (List.mem_of_getElem? (i := 843) (by decide +kernel)) rfl
theorem tp_851 : Cond.methodLink RX10 178 yX8_clear ∈ gtbl := g_of (List.mem_of_getElem? (i := 851) (by decide +kernel)) rfl
set_option maxRecDepth 100000 in
theorem tp_854 : Cond.code M_X8_clear.1 M_X8_clear.2.1 M_X8_clear.2.2.1 M_X8_clear.2.2.2 ∈ gtbl := g_of (List.mem_of_getElem? (i := 854) rfl) rfl
theorem cb_X8_clear : CalB M_X8_clear 0 := ⟨tp_854, tp_100, ⟨by decide +kernel, by decide +kernel, by decide +kernel⟩, by decide⟩
theorem tp_852 : Cond.instanceMethod yX8_clear ∈ gtbl := g_of (List.mem_of_getElem? (i := 852) (by decide +kernel)) rfl
theorem tp_853 : Cond.selects yX8_clear.cls yX8_clear yX8_clear ∈ gtbl := g_of (List.mem_of_getElem? (i := 853) (by decide +kernel)) rfl
theorem tp_859 : Cond.methodLink RX10 179 yX2_judge ∈ gtbl := g_of (List.mem_of_getElem? (i := 859) (by decide +kernel)) rfl
set_option maxRecDepth 100000 in
theorem tp_862 : Cond.code M_X2_judge.1 M_X2_judge.2.1 M_X2_judge.2.2.1 M_X2_judge.2.2.2 ∈ gtbl := g_of (List.mem_of_getElem? (i := 862) rfl) rfl
theorem cb_X2_judge : CalB M_X2_judge 1 := ⟨tp_862, tp_101, ⟨by decide +kernel, by decide +kernel, by decide +kernel⟩, by decide⟩
theorem tp_860 : Cond.instanceMethod yX2_judge ∈ gtbl := g_of (List.mem_of_getElem? (i := 860) (by decide +kernel)) rfl
theorem tp_861 : Cond.selects yX2_judge.cls yX2_judge yX2_judge ∈ gtbl := g_of (List.mem_of_getElem? (i := 861) (by decide +kernel)) rfl
theorem tp_920 : Cond.methodLink RX10 187 yX2_deepest ∈ gtbl := g_of (List.mem_of_getElem? (i := 920) (by decide +kernel)) rfl
set_option maxRecDepth 100000 in
theorem tp_923 : Cond.code M_X2_deepest.1 M_X2_deepest.2.1 M_X2_deepest.2.2.1 M_X2_deepest.2.2.2 ∈ gtbl := g_of (List.mem_of_getElem? (i := 923) rfl) rfl
theorem cb_X2_deepest : CalB M_X2_deepest 0 := ⟨tp_923, tp_101, ⟨by decide +kernel, by decide +kernel, by decide +kernel⟩, by decide⟩
theorem tp_921 : Cond.instanceMethod yX2_deepest ∈ gtbl := g_of (List.mem_of_getElem? (i := 921) (by decide +kernel)) rfl
theorem tp_922 : Cond.selects yX2_deepest.cls yX2_deepest yX2_deepest ∈ gtbl := g_of (List.mem_of_getElem? (i := 922) (by decide +kernel)) rfl
theorem tp_916 : Cond.methodLink RX10 184 yX2_used ∈ gtbl := g_of (List.mem_of_getElem? (i := 916) (by decide +kernel)) rfl
set_option maxRecDepth 100000 in
theorem tp_919 : Cond.code M_X2_used.1 M_X2_used.2.1 M_X2_used.2.2.1 M_X2_used.2.2.2 ∈ gtbl := g_of (List.mem_of_getElem? (i := 919) rfl) rfl
theorem cb_X2_used : CalB M_X2_used 0 := ⟨tp_919, tp_101, ⟨by decide +kernel, by decide +kernel, by decide +kernel⟩, by decide⟩
theorem tp_917 : Cond.instanceMethod yX2_used ∈ gtbl := g_of (List.mem_of_getElem? (i := 917) (by decide +kernel)) rfl
theorem tp_918 : Cond.selects yX2_used.cls yX2_used yX2_used ∈ gtbl := g_of (List.mem_of_getElem? (i := 918) (by decide +kernel)) rfl
theorem tp_912 : Cond.methodLink RX10 181 yX2_verdict ∈ gtbl := g_of (List.mem_of_getElem? (i := 912) (by decide +kernel)) rfl
set_option maxRecDepth 100000 in
theorem tp_915 : Cond.code M_X2_verdict.1 M_X2_verdict.2.1 M_X2_verdict.2.2.1 M_X2_verdict.2.2.2 ∈ gtbl := g_of (List.mem_of_getElem? (i := 915) rfl) rfl
theorem cb_X2_verdict : CalB M_X2_verdict 0 := ⟨tp_915, tp_101, ⟨by decide +kernel, by decide +kernel, by decide +kernel⟩, by decide⟩
theorem tp_913 : Cond.instanceMethod yX2_verdict ∈ gtbl := g_of (List.mem_of_getElem? (i := 913) (by decide +kernel)) rfl
theorem tp_914 : Cond.selects yX2_verdict.cls yX2_verdict yX2_verdict ∈ gtbl := g_of (List.mem_of_getElem? (i := 914) (by decide +kernel)) rfl
theorem tp_928 : Cond.methodLink RX10 190 yX6_copyFrom ∈ gtbl := g_of (List.mem_of_getElem? (i := 928) (by decide +kernel)) rfl
set_option maxRecDepth 100000 in
theorem tp_931 : Cond.code M_X6_copyFrom.1 M_X6_copyFrom.2.1 M_X6_copyFrom.2.2.1 M_X6_copyFrom.2.2.2 ∈ gtbl := g_of (List.mem_of_getElem? (i := 931) rfl) rfl
theorem cb_X6_copyFrom : CalB M_X6_copyFrom 1 := ⟨tp_931, tp_95, ⟨by decide +kernel, by decide +kernel, by decide +kernel⟩, by decide⟩
theorem tp_929 : Cond.instanceMethod yX6_copyFrom ∈ gtbl := g_of (List.mem_of_getElem? (i := 929) (by decide +kernel)) rfl
theorem tp_930 : Cond.selects yX6_copyFrom.cls yX6_copyFrom yX6_copyFrom ∈ gtbl := g_of (List.mem_of_getElem? (i := 930) (by decide +kernel)) rfl
theorem tp_940 : Cond.methodLink RX10 197 yX6_nodes ∈ gtbl := g_of (List.mem_of_getElem? (i := 940) (by decide +kernel)) rfl
theorem tp_941 : Cond.methodLink RX10 198 yX6_loans ∈ gtbl := g_of (List.mem_of_getElem? (i := 941) (by decide +kernel)) rfl
theorem tp_942 : Cond.methodLink RX10 201 yX10_savedPlaces ∈ gtbl := g_of (List.mem_of_getElem? (i := 942) (by decide +kernel)) rfl
set_option maxRecDepth 100000 in
theorem tp_945 : Cond.code M_X10_savedPlaces.1 M_X10_savedPlaces.2.1 M_X10_savedPlaces.2.2.1 M_X10_savedPlaces.2.2.2 ∈ gtbl := g_of (List.mem_of_getElem? (i := 945) rfl) rfl
theorem cb_X10_savedPlaces : CalB M_X10_savedPlaces 0 := ⟨tp_945, tp_93, ⟨by decide +kernel, by decide +kernel, by decide +kernel⟩, by decide⟩
theorem tp_944 : Cond.instanceMethod yX10_savedPlaces ∈ gtbl := g_of (List.mem_of_getElem? (i := 944) (by decide +kernel)) rfl
theorem tp_53 : Cond.selects yX10_savedPlaces.cls yX10_savedPlaces yX10_savedPlaces ∈ gtbl := g_of (List.mem_of_getElem? (i := 53) (by decide +kernel)) rfl
theorem tp_953 : Cond.fieldLink RX11 13 "OnceProverModel" "sizes" "[I" ∈ gtbl := g_of (List.mem_of_getElem? (i := 953) (by decide +kernel)) rfl
theorem fl_X11_13 : FL RX11 13 11 1 := ⟨kf11, by decide, tp_953⟩
theorem tp_951 : Cond.methodLink RX11 1 objectInit ∈ gtbl := g_of (List.mem_of_getElem? (i := 951) (by decide +kernel)) rfl
theorem tp_952 : Cond.fieldLink RX11 7 "OnceProverModel" "texts" "[I" ∈ gtbl := g_of (List.mem_of_getElem? (i := 952) (by decide +kernel)) rfl
theorem fl_X11_7 : FL RX11 7 11 0 := ⟨kf11, by decide, tp_952⟩
theorem tp_954 : Cond.fieldLink RX11 16 "OnceProverModel" "fault" "I" ∈ gtbl := g_of (List.mem_of_getElem? (i := 954) (by decide +kernel)) rfl
theorem fl_X11_16 : FL RX11 16 11 2 := ⟨kf11, by decide, tp_954⟩
theorem tp_955 : Cond.fieldLink RX11 20 "OnceProverModel" "trial" "[I" ∈ gtbl := g_of (List.mem_of_getElem? (i := 955) (by decide +kernel)) rfl
theorem fl_X11_20 : FL RX11 20 11 3 := ⟨kf11, by decide, tp_955⟩
theorem tp_959 : Cond.fieldLink RX11 23 "OnceProverModel" "kinds" "[I" ∈ gtbl := g_of (List.mem_of_getElem? (i := 959) (by decide +kernel)) rfl
theorem fl_X11_23 : FL RX11 23 11 7 := ⟨kf11, by decide, tp_959⟩
theorem tp_960 : Cond.fieldLink RX11 26 "OnceProverModel" "ones" "[I" ∈ gtbl := g_of (List.mem_of_getElem? (i := 960) (by decide +kernel)) rfl
theorem fl_X11_26 : FL RX11 26 11 8 := ⟨kf11, by decide, tp_960⟩
theorem tp_961 : Cond.fieldLink RX11 29 "OnceProverModel" "others" "[I" ∈ gtbl := g_of (List.mem_of_getElem? (i := 961) (by decide +kernel)) rfl
theorem fl_X11_29 : FL RX11 29 11 9 := ⟨kf11, by decide, tp_961⟩
theorem tp_963 : Cond.fieldLink RX11 32 "OnceProverModel" "faces" "[I" ∈ gtbl := g_of (List.mem_of_getElem? (i := 963) (by decide +kernel)) rfl
theorem fl_X11_32 : FL RX11 32 11 11 := ⟨kf11, by decide, tp_963⟩
theorem tp_964 : Cond.fieldLink RX11 35 "OnceProverModel" "heads" "[I" ∈ gtbl := g_of (List.mem_of_getElem? (i := 964) (by decide +kernel)) rfl
theorem fl_X11_35 : FL RX11 35 11 12 := ⟨kf11, by decide, tp_964⟩
theorem tp_965 : Cond.fieldLink RX11 38 "OnceProverModel" "bodies" "[I" ∈ gtbl := g_of (List.mem_of_getElem? (i := 965) (by decide +kernel)) rfl
theorem fl_X11_38 : FL RX11 38 11 13 := ⟨kf11, by decide, tp_965⟩
theorem tp_966 : Cond.fieldLink RX11 41 "OnceProverModel" "open" "[I" ∈ gtbl := g_of (List.mem_of_getElem? (i := 966) (by decide +kernel)) rfl
theorem fl_X11_41 : FL RX11 41 11 14 := ⟨kf11, by decide, tp_966⟩
theorem tp_967 : Cond.fieldLink RX11 44 "OnceProverModel" "openNode" "[I" ∈ gtbl := g_of (List.mem_of_getElem? (i := 967) (by decide +kernel)) rfl
theorem fl_X11_44 : FL RX11 44 11 15 := ⟨kf11, by decide, tp_967⟩
theorem tp_968 : Cond.fieldLink RX11 47 "OnceProverModel" "openOffer" "[I" ∈ gtbl := g_of (List.mem_of_getElem? (i := 968) (by decide +kernel)) rfl
theorem fl_X11_47 : FL RX11 47 11 16 := ⟨kf11, by decide, tp_968⟩
theorem tp_969 : Cond.fieldLink RX11 50 "OnceProverModel" "openFaces" "[I" ∈ gtbl := g_of (List.mem_of_getElem? (i := 969) (by decide +kernel)) rfl
theorem fl_X11_50 : FL RX11 50 11 17 := ⟨kf11, by decide, tp_969⟩
theorem tp_973 : Cond.fieldLink RX11 53 "OnceProverModel" "isOld" "Z" ∈ gtbl := g_of (List.mem_of_getElem? (i := 973) (by decide +kernel)) rfl
theorem fl_X11_53 : FL RX11 53 11 21 := ⟨kf11, by decide, tp_973⟩
theorem tp_974 : Cond.fieldLink RX11 57 "OnceProverModel" "least" "[I" ∈ gtbl := g_of (List.mem_of_getElem? (i := 974) (by decide +kernel)) rfl
theorem fl_X11_57 : FL RX11 57 11 22 := ⟨kf11, by decide, tp_974⟩
theorem tp_975 : Cond.fieldLink RX11 60 "OnceProverModel" "before" "[J" ∈ gtbl := g_of (List.mem_of_getElem? (i := 975) (by decide +kernel)) rfl
theorem fl_X11_60 : FL RX11 60 11 23 := ⟨kf11, by decide, tp_975⟩
theorem tp_976 : Cond.fieldLink RX11 64 "OnceProverModel" "after" "[J" ∈ gtbl := g_of (List.mem_of_getElem? (i := 976) (by decide +kernel)) rfl
theorem fl_X11_64 : FL RX11 64 11 24 := ⟨kf11, by decide, tp_976⟩
theorem tp_977 : Cond.fieldLink RX11 67 "OnceProverModel" "way" "[I" ∈ gtbl := g_of (List.mem_of_getElem? (i := 977) (by decide +kernel)) rfl
theorem fl_X11_67 : FL RX11 67 11 25 := ⟨kf11, by decide, tp_977⟩
theorem tp_979 : Cond.fieldLink RX11 70 "OnceProverModel" "stillNode" "[I" ∈ gtbl := g_of (List.mem_of_getElem? (i := 979) (by decide +kernel)) rfl
theorem fl_X11_70 : FL RX11 70 11 27 := ⟨kf11, by decide, tp_979⟩
theorem tp_980 : Cond.fieldLink RX11 73 "OnceProverModel" "stillSet" "[I" ∈ gtbl := g_of (List.mem_of_getElem? (i := 980) (by decide +kernel)) rfl
theorem fl_X11_73 : FL RX11 73 11 28 := ⟨kf11, by decide, tp_980⟩
theorem tp_981 : Cond.fieldLink RX11 76 "OnceProverModel" "stillHeight" "[I" ∈ gtbl := g_of (List.mem_of_getElem? (i := 981) (by decide +kernel)) rfl
theorem fl_X11_76 : FL RX11 76 11 29 := ⟨kf11, by decide, tp_981⟩
theorem tp_985 : Cond.fieldLink RX11 79 "OnceProverModel" "image" "[I" ∈ gtbl := g_of (List.mem_of_getElem? (i := 985) (by decide +kernel)) rfl
theorem fl_X11_79 : FL RX11 79 11 33 := ⟨kf11, by decide, tp_985⟩
theorem tp_986 : Cond.fieldLink RX11 82 "OnceProverModel" "imageSizes" "[I" ∈ gtbl := g_of (List.mem_of_getElem? (i := 986) (by decide +kernel)) rfl
theorem fl_X11_82 : FL RX11 82 11 34 := ⟨kf11, by decide, tp_986⟩
theorem tp_1061 : Cond.arrayClass .boolean ∈ gtbl := g_of (List.mem_of_getElem? (i := 1061) (by decide +kernel)) rfl
theorem tp_987 : Cond.fieldLink RX11 85 "OnceProverModel" "isKept" "[Z" ∈ gtbl := g_of (List.mem_of_getElem? (i := 987) (by decide +kernel)) rfl
theorem fl_X11_85 : FL RX11 85 11 35 := ⟨kf11, by decide, tp_987⟩
theorem tp_970 : Cond.fieldLink RX11 89 "OnceProverModel" "high" "I" ∈ gtbl := g_of (List.mem_of_getElem? (i := 970) (by decide +kernel)) rfl
theorem fl_X11_89 : FL RX11 89 11 18 := ⟨kf11, by decide, tp_970⟩
theorem tp_957 : Cond.fieldLink RX11 92 "OnceProverModel" "nodes" "I" ∈ gtbl := g_of (List.mem_of_getElem? (i := 957) (by decide +kernel)) rfl
theorem fl_X11_92 : FL RX11 92 11 5 := ⟨kf11, by decide, tp_957⟩
theorem tp_972 : Cond.fieldLink RX11 95 "OnceProverModel" "lays" "Z" ∈ gtbl := g_of (List.mem_of_getElem? (i := 972) (by decide +kernel)) rfl
theorem fl_X11_95 : FL RX11 95 11 20 := ⟨kf11, by decide, tp_972⟩
theorem tp_962 : Cond.fieldLink RX11 98 "OnceProverModel" "root" "I" ∈ gtbl := g_of (List.mem_of_getElem? (i := 962) (by decide +kernel)) rfl
theorem fl_X11_98 : FL RX11 98 11 10 := ⟨kf11, by decide, tp_962⟩
theorem tp_971 : Cond.fieldLink RX11 101 "OnceProverModel" "next" "I" ∈ gtbl := g_of (List.mem_of_getElem? (i := 971) (by decide +kernel)) rfl
theorem fl_X11_101 : FL RX11 101 11 19 := ⟨kf11, by decide, tp_971⟩
theorem tp_1066 : Cond.methodLink RX11 104 yX11_in ∈ gtbl := g_of (List.mem_of_getElem? (i := 1066) (by decide +kernel)) rfl
set_option maxRecDepth 100000 in
theorem tp_1068 : Cond.code M_X11_in.1 M_X11_in.2.1 M_X11_in.2.2.1 M_X11_in.2.2.2 ∈ gtbl := g_of (List.mem_of_getElem? (i := 1068) rfl) rfl
theorem tp_102 : Cond.initialized RX11 ∈ gtbl := g_of (List.mem_of_getElem? (i := 102) (by decide +kernel)) rfl
theorem cb_X11_in : CalB M_X11_in 3 := ⟨tp_1068, tp_102, ⟨by decide +kernel, by decide +kernel, by decide +kernel⟩, by decide⟩
theorem tp_1067 : Cond.static yX11_in ∈ gtbl := g_of (List.mem_of_getElem? (i := 1067) (by decide +kernel)) rfl
theorem tp_1085 : Cond.methodLink RX11 119 yX11_push ∈ gtbl := g_of (List.mem_of_getElem? (i := 1085) (by decide +kernel)) rfl
set_option maxRecDepth 100000 in
theorem tp_1088 : Cond.code M_X11_push.1 M_X11_push.2.1 M_X11_push.2.2.1 M_X11_push.2.2.2 ∈ gtbl := g_of (List.mem_of_getElem? (i := 1088) rfl) rfl
theorem cb_X11_push : CalB M_X11_push 3 := ⟨tp_1088, tp_102, ⟨by decide +kernel, by decide +kernel, by decide +kernel⟩, by decide⟩
theorem tp_1087 : Cond.instanceMethod yX11_push ∈ gtbl := g_of (List.mem_of_getElem? (i := 1087) (by decide +kernel)) rfl
theorem tp_56 : Cond.selects yX11_push.cls yX11_push yX11_push ∈ gtbl := g_of (List.mem_of_getElem? (i := 56) (by decide +kernel)) rfl
theorem tp_1100 : Cond.methodLink RX11 112 yX11_begin ∈ gtbl := g_of (List.mem_of_getElem? (i := 1100) (by decide +kernel)) rfl
set_option maxRecDepth 100000 in
theorem tp_1103 : Cond.code M_X11_begin.1 M_X11_begin.2.1 M_X11_begin.2.2.1 M_X11_begin.2.2.2 ∈ gtbl := g_of (List.mem_of_getElem? (i := 1103) rfl) rfl
theorem cb_X11_begin : CalB M_X11_begin 2 := ⟨tp_1103, tp_102, ⟨by decide +kernel, by decide +kernel, by decide +kernel⟩, by decide⟩
theorem tp_1102 : Cond.instanceMethod yX11_begin ∈ gtbl := g_of (List.mem_of_getElem? (i := 1102) (by decide +kernel)) rfl
theorem tp_59 : Cond.selects yX11_begin.cls yX11_begin yX11_begin ∈ gtbl := g_of (List.mem_of_getElem? (i := 59) (by decide +kernel)) rfl
theorem tp_958 : Cond.fieldLink RX11 126 "OnceProverModel" "loans" "I" ∈ gtbl := g_of (List.mem_of_getElem? (i := 958) (by decide +kernel)) rfl
theorem fl_X11_126 : FL RX11 126 11 6 := ⟨kf11, by decide, tp_958⟩
theorem tp_1097 : Cond.methodLink RX11 108 yX11_isLetter ∈ gtbl := g_of (List.mem_of_getElem? (i := 1097) (by decide +kernel)) rfl
set_option maxRecDepth 100000 in
theorem tp_1099 : Cond.code M_X11_isLetter.1 M_X11_isLetter.2.1 M_X11_isLetter.2.2.1 M_X11_isLetter.2.2.2 ∈ gtbl := g_of (List.mem_of_getElem? (i := 1099) rfl) rfl
theorem cb_X11_isLetter : CalB M_X11_isLetter 1 := ⟨tp_1099, tp_102, ⟨by decide +kernel, by decide +kernel, by decide +kernel⟩, by decide⟩
theorem tp_1098 : Cond.static yX11_isLetter ∈ gtbl := g_of (List.mem_of_getElem? (i := 1098) (by decide +kernel)) rfl
theorem tp_1104 : Cond.methodLink RX11 116 yX11_complete ∈ gtbl := g_of (List.mem_of_getElem? (i := 1104) (by decide +kernel)) rfl
set_option maxRecDepth 100000 in
theorem tp_1107 : Cond.code M_X11_complete.1 M_X11_complete.2.1 M_X11_complete.2.2.1 M_X11_complete.2.2.2 ∈ gtbl := g_of (List.mem_of_getElem? (i := 1107) rfl) rfl
theorem cb_X11_complete : CalB M_X11_complete 0 := ⟨tp_1107, tp_102, ⟨by decide +kernel, by decide +kernel, by decide +kernel⟩, by decide⟩
theorem tp_1106 : Cond.instanceMethod yX11_complete ∈ gtbl := g_of (List.mem_of_getElem? (i := 1106) (by decide +kernel)) rfl
theorem tp_60 : Cond.selects yX11_complete.cls yX11_complete yX11_complete ∈ gtbl := g_of (List.mem_of_getElem? (i := 60) (by decide +kernel)) rfl
theorem tp_1108 : Cond.methodLink RX11 123 yX11_beginLoan ∈ gtbl := g_of (List.mem_of_getElem? (i := 1108) (by decide +kernel)) rfl
set_option maxRecDepth 100000 in
theorem tp_1111 : Cond.code M_X11_beginLoan.1 M_X11_beginLoan.2.1 M_X11_beginLoan.2.2.1 M_X11_beginLoan.2.2.2 ∈ gtbl := g_of (List.mem_of_getElem? (i := 1111) rfl) rfl
theorem cb_X11_beginLoan : CalB M_X11_beginLoan 0 := ⟨tp_1111, tp_102, ⟨by decide +kernel, by decide +kernel, by decide +kernel⟩, by decide⟩
theorem tp_1110 : Cond.instanceMethod yX11_beginLoan ∈ gtbl := g_of (List.mem_of_getElem? (i := 1110) (by decide +kernel)) rfl
theorem tp_61 : Cond.selects yX11_beginLoan.cls yX11_beginLoan yX11_beginLoan ∈ gtbl := g_of (List.mem_of_getElem? (i := 61) (by decide +kernel)) rfl
theorem tp_1093 : Cond.methodLink RX11 129 yX11_readGoal ∈ gtbl := g_of (List.mem_of_getElem? (i := 1093) (by decide +kernel)) rfl
set_option maxRecDepth 100000 in
theorem tp_1096 : Cond.code M_X11_readGoal.1 M_X11_readGoal.2.1 M_X11_readGoal.2.2.1 M_X11_readGoal.2.2.2 ∈ gtbl := g_of (List.mem_of_getElem? (i := 1096) rfl) rfl
theorem cb_X11_readGoal : CalB M_X11_readGoal 1 := ⟨tp_1096, tp_102, ⟨by decide +kernel, by decide +kernel, by decide +kernel⟩, by decide⟩
theorem tp_1095 : Cond.instanceMethod yX11_readGoal ∈ gtbl := g_of (List.mem_of_getElem? (i := 1095) (by decide +kernel)) rfl
theorem tp_58 : Cond.selects yX11_readGoal.cls yX11_readGoal yX11_readGoal ∈ gtbl := g_of (List.mem_of_getElem? (i := 58) (by decide +kernel)) rfl
theorem tp_1112 : Cond.methodLink RX11 132 yX11_readSign ∈ gtbl := g_of (List.mem_of_getElem? (i := 1112) (by decide +kernel)) rfl
set_option maxRecDepth 100000 in
theorem tp_1115 : Cond.code M_X11_readSign.1 M_X11_readSign.2.1 M_X11_readSign.2.2.1 M_X11_readSign.2.2.2 ∈ gtbl := g_of (List.mem_of_getElem? (i := 1115) rfl) rfl
theorem cb_X11_readSign : CalB M_X11_readSign 1 := ⟨tp_1115, tp_102, ⟨by decide +kernel, by decide +kernel, by decide +kernel⟩, by decide⟩
theorem tp_1114 : Cond.instanceMethod yX11_readSign ∈ gtbl := g_of (List.mem_of_getElem? (i := 1114) (by decide +kernel)) rfl
theorem tp_62 : Cond.selects yX11_readSign.cls yX11_readSign yX11_readSign ∈ gtbl := g_of (List.mem_of_getElem? (i := 62) (by decide +kernel)) rfl
theorem tp_1116 : Cond.methodLink RX11 135 yX11_readHead ∈ gtbl := g_of (List.mem_of_getElem? (i := 1116) (by decide +kernel)) rfl
set_option maxRecDepth 100000 in
theorem tp_1119 : Cond.code M_X11_readHead.1 M_X11_readHead.2.1 M_X11_readHead.2.2.1 M_X11_readHead.2.2.2 ∈ gtbl := g_of (List.mem_of_getElem? (i := 1119) rfl) rfl
theorem cb_X11_readHead : CalB M_X11_readHead 1 := ⟨tp_1119, tp_102, ⟨by decide +kernel, by decide +kernel, by decide +kernel⟩, by decide⟩
theorem tp_1118 : Cond.instanceMethod yX11_readHead ∈ gtbl := g_of (List.mem_of_getElem? (i := 1118) (by decide +kernel)) rfl
theorem tp_63 : Cond.selects yX11_readHead.cls yX11_readHead yX11_readHead ∈ gtbl := g_of (List.mem_of_getElem? (i := 63) (by decide +kernel)) rfl
theorem tp_1120 : Cond.methodLink RX11 138 yX11_readBehind ∈ gtbl := g_of (List.mem_of_getElem? (i := 1120) (by decide +kernel)) rfl
set_option maxRecDepth 100000 in
theorem tp_1123 : Cond.code M_X11_readBehind.1 M_X11_readBehind.2.1 M_X11_readBehind.2.2.1 M_X11_readBehind.2.2.2 ∈ gtbl := g_of (List.mem_of_getElem? (i := 1123) rfl) rfl
theorem cb_X11_readBehind : CalB M_X11_readBehind 1 := ⟨tp_1123, tp_102, ⟨by decide +kernel, by decide +kernel, by decide +kernel⟩, by decide⟩
theorem tp_1122 : Cond.instanceMethod yX11_readBehind ∈ gtbl := g_of (List.mem_of_getElem? (i := 1122) (by decide +kernel)) rfl
theorem tp_64 : Cond.selects yX11_readBehind.cls yX11_readBehind yX11_readBehind ∈ gtbl := g_of (List.mem_of_getElem? (i := 64) (by decide +kernel)) rfl
theorem tp_1089 : Cond.methodLink RX11 141 yX11_reads ∈ gtbl := g_of (List.mem_of_getElem? (i := 1089) (by decide +kernel)) rfl
set_option maxRecDepth 100000 in
theorem tp_1092 : Cond.code M_X11_reads.1 M_X11_reads.2.1 M_X11_reads.2.2.1 M_X11_reads.2.2.2 ∈ gtbl := g_of (List.mem_of_getElem? (i := 1092) rfl) rfl
theorem cb_X11_reads : CalB M_X11_reads 1 := ⟨tp_1092, tp_102, ⟨by decide +kernel, by decide +kernel, by decide +kernel⟩, by decide⟩
theorem tp_1091 : Cond.instanceMethod yX11_reads ∈ gtbl := g_of (List.mem_of_getElem? (i := 1091) (by decide +kernel)) rfl
theorem tp_57 : Cond.selects yX11_reads.cls yX11_reads yX11_reads ∈ gtbl := g_of (List.mem_of_getElem? (i := 57) (by decide +kernel)) rfl
theorem tp_1128 : Cond.methodLink RX11 144 yX11_offerOf ∈ gtbl := g_of (List.mem_of_getElem? (i := 1128) (by decide +kernel)) rfl
set_option maxRecDepth 100000 in
theorem tp_1130 : Cond.code M_X11_offerOf.1 M_X11_offerOf.2.1 M_X11_offerOf.2.2.1 M_X11_offerOf.2.2.2 ∈ gtbl := g_of (List.mem_of_getElem? (i := 1130) rfl) rfl
theorem cb_X11_offerOf : CalB M_X11_offerOf 1 := ⟨tp_1130, tp_102, ⟨by decide +kernel, by decide +kernel, by decide +kernel⟩, by decide⟩
theorem tp_1129 : Cond.static yX11_offerOf ∈ gtbl := g_of (List.mem_of_getElem? (i := 1129) (by decide +kernel)) rfl
theorem tp_1081 : Cond.methodLink RX11 148 yX11_read ∈ gtbl := g_of (List.mem_of_getElem? (i := 1081) (by decide +kernel)) rfl
set_option maxRecDepth 100000 in
theorem tp_1084 : Cond.code M_X11_read.1 M_X11_read.2.1 M_X11_read.2.2.1 M_X11_read.2.2.2 ∈ gtbl := g_of (List.mem_of_getElem? (i := 1084) rfl) rfl
theorem cb_X11_read : CalB M_X11_read 2 := ⟨tp_1084, tp_102, ⟨by decide +kernel, by decide +kernel, by decide +kernel⟩, by decide⟩
theorem tp_1083 : Cond.instanceMethod yX11_read ∈ gtbl := g_of (List.mem_of_getElem? (i := 1083) (by decide +kernel)) rfl
theorem tp_55 : Cond.selects yX11_read.cls yX11_read yX11_read ∈ gtbl := g_of (List.mem_of_getElem? (i := 55) (by decide +kernel)) rfl
theorem tp_1124 : Cond.methodLink RX11 151 yX11_readAll ∈ gtbl := g_of (List.mem_of_getElem? (i := 1124) (by decide +kernel)) rfl
set_option maxRecDepth 100000 in
theorem tp_1127 : Cond.code M_X11_readAll.1 M_X11_readAll.2.1 M_X11_readAll.2.2.1 M_X11_readAll.2.2.2 ∈ gtbl := g_of (List.mem_of_getElem? (i := 1127) rfl) rfl
theorem cb_X11_readAll : CalB M_X11_readAll 2 := ⟨tp_1127, tp_102, ⟨by decide +kernel, by decide +kernel, by decide +kernel⟩, by decide⟩
theorem tp_1126 : Cond.instanceMethod yX11_readAll ∈ gtbl := g_of (List.mem_of_getElem? (i := 1126) (by decide +kernel)) rfl
theorem tp_65 : Cond.selects yX11_readAll.cls yX11_readAll yX11_readAll ∈ gtbl := g_of (List.mem_of_getElem? (i := 65) (by decide +kernel)) rfl
theorem tp_1077 : Cond.methodLink RX11 155 yX11_take ∈ gtbl := g_of (List.mem_of_getElem? (i := 1077) (by decide +kernel)) rfl
set_option maxRecDepth 100000 in
theorem tp_1080 : Cond.code M_X11_take.1 M_X11_take.2.1 M_X11_take.2.2.1 M_X11_take.2.2.2 ∈ gtbl := g_of (List.mem_of_getElem? (i := 1080) rfl) rfl
theorem cb_X11_take : CalB M_X11_take 3 := ⟨tp_1080, tp_102, ⟨by decide +kernel, by decide +kernel, by decide +kernel⟩, by decide⟩
theorem tp_1079 : Cond.instanceMethod yX11_take ∈ gtbl := g_of (List.mem_of_getElem? (i := 1079) (by decide +kernel)) rfl
theorem tp_54 : Cond.selects yX11_take.cls yX11_take yX11_take ∈ gtbl := g_of (List.mem_of_getElem? (i := 54) (by decide +kernel)) rfl
theorem tp_1147 : Cond.methodLink RX11 159 yX11_there ∈ gtbl := g_of (List.mem_of_getElem? (i := 1147) (by decide +kernel)) rfl
set_option maxRecDepth 100000 in
theorem tp_1150 : Cond.code M_X11_there.1 M_X11_there.2.1 M_X11_there.2.2.1 M_X11_there.2.2.2 ∈ gtbl := g_of (List.mem_of_getElem? (i := 1150) rfl) rfl
theorem cb_X11_there : CalB M_X11_there 2 := ⟨tp_1150, tp_102, ⟨by decide +kernel, by decide +kernel, by decide +kernel⟩, by decide⟩
theorem tp_1149 : Cond.instanceMethod yX11_there ∈ gtbl := g_of (List.mem_of_getElem? (i := 1149) (by decide +kernel)) rfl
theorem tp_66 : Cond.selects yX11_there.cls yX11_there yX11_there ∈ gtbl := g_of (List.mem_of_getElem? (i := 66) (by decide +kernel)) rfl
theorem tp_1151 : Cond.methodLink RX11 162 yX11_bits ∈ gtbl := g_of (List.mem_of_getElem? (i := 1151) (by decide +kernel)) rfl
set_option maxRecDepth 100000 in
theorem tp_1153 : Cond.code M_X11_bits.1 M_X11_bits.2.1 M_X11_bits.2.2.1 M_X11_bits.2.2.2 ∈ gtbl := g_of (List.mem_of_getElem? (i := 1153) rfl) rfl
theorem cb_X11_bits : CalB M_X11_bits 1 := ⟨tp_1153, tp_102, ⟨by decide +kernel, by decide +kernel, by decide +kernel⟩, by decide⟩
theorem tp_1152 : Cond.static yX11_bits ∈ gtbl := g_of (List.mem_of_getElem? (i := 1152) (by decide +kernel)) rfl
theorem tp_1189 : Cond.methodLink RX11 168 yX11_isBelow ∈ gtbl := g_of (List.mem_of_getElem? (i := 1189) (by decide +kernel)) rfl
set_option maxRecDepth 100000 in
theorem tp_1192 : Cond.code M_X11_isBelow.1 M_X11_isBelow.2.1 M_X11_isBelow.2.2.1 M_X11_isBelow.2.2.2 ∈ gtbl := g_of (List.mem_of_getElem? (i := 1192) rfl) rfl
theorem cb_X11_isBelow : CalB M_X11_isBelow 3 := ⟨tp_1192, tp_102, ⟨by decide +kernel, by decide +kernel, by decide +kernel⟩, by decide⟩
theorem tp_1191 : Cond.instanceMethod yX11_isBelow ∈ gtbl := g_of (List.mem_of_getElem? (i := 1191) (by decide +kernel)) rfl
theorem tp_74 : Cond.selects yX11_isBelow.cls yX11_isBelow yX11_isBelow ∈ gtbl := g_of (List.mem_of_getElem? (i := 74) (by decide +kernel)) rfl
theorem tp_1185 : Cond.methodLink RX11 175 yX11_isTold ∈ gtbl := g_of (List.mem_of_getElem? (i := 1185) (by decide +kernel)) rfl
set_option maxRecDepth 100000 in
theorem tp_1188 : Cond.code M_X11_isTold.1 M_X11_isTold.2.1 M_X11_isTold.2.2.1 M_X11_isTold.2.2.2 ∈ gtbl := g_of (List.mem_of_getElem? (i := 1188) rfl) rfl
theorem cb_X11_isTold : CalB M_X11_isTold 5 := ⟨tp_1188, tp_102, ⟨by decide +kernel, by decide +kernel, by decide +kernel⟩, by decide⟩
theorem tp_1187 : Cond.instanceMethod yX11_isTold ∈ gtbl := g_of (List.mem_of_getElem? (i := 1187) (by decide +kernel)) rfl
theorem tp_73 : Cond.selects yX11_isTold.cls yX11_isTold yX11_isTold ∈ gtbl := g_of (List.mem_of_getElem? (i := 73) (by decide +kernel)) rfl
theorem tp_1182 : Cond.methodLink RX11 171 yX11_has ∈ gtbl := g_of (List.mem_of_getElem? (i := 1182) (by decide +kernel)) rfl
set_option maxRecDepth 100000 in
theorem tp_1184 : Cond.code M_X11_has.1 M_X11_has.2.1 M_X11_has.2.2.1 M_X11_has.2.2.2 ∈ gtbl := g_of (List.mem_of_getElem? (i := 1184) rfl) rfl
theorem cb_X11_has : CalB M_X11_has 2 := ⟨tp_1184, tp_102, ⟨by decide +kernel, by decide +kernel, by decide +kernel⟩, by decide⟩
theorem tp_1183 : Cond.static yX11_has ∈ gtbl := g_of (List.mem_of_getElem? (i := 1183) (by decide +kernel)) rfl
theorem tp_1178 : Cond.methodLink RX11 179 yX11_firstFor ∈ gtbl := g_of (List.mem_of_getElem? (i := 1178) (by decide +kernel)) rfl
set_option maxRecDepth 100000 in
theorem tp_1181 : Cond.code M_X11_firstFor.1 M_X11_firstFor.2.1 M_X11_firstFor.2.2.1 M_X11_firstFor.2.2.2 ∈ gtbl := g_of (List.mem_of_getElem? (i := 1181) rfl) rfl
theorem cb_X11_firstFor : CalB M_X11_firstFor 3 := ⟨tp_1181, tp_102, ⟨by decide +kernel, by decide +kernel, by decide +kernel⟩, by decide⟩
theorem tp_1180 : Cond.instanceMethod yX11_firstFor ∈ gtbl := g_of (List.mem_of_getElem? (i := 1180) (by decide +kernel)) rfl
theorem tp_72 : Cond.selects yX11_firstFor.cls yX11_firstFor yX11_firstFor ∈ gtbl := g_of (List.mem_of_getElem? (i := 72) (by decide +kernel)) rfl
theorem tp_1193 : Cond.methodLink RX11 183 yX11_firstPart ∈ gtbl := g_of (List.mem_of_getElem? (i := 1193) (by decide +kernel)) rfl
set_option maxRecDepth 100000 in
theorem tp_1196 : Cond.code M_X11_firstPart.1 M_X11_firstPart.2.1 M_X11_firstPart.2.2.1 M_X11_firstPart.2.2.2 ∈ gtbl := g_of (List.mem_of_getElem? (i := 1196) rfl) rfl
theorem cb_X11_firstPart : CalB M_X11_firstPart 3 := ⟨tp_1196, tp_102, ⟨by decide +kernel, by decide +kernel, by decide +kernel⟩, by decide⟩
theorem tp_1195 : Cond.instanceMethod yX11_firstPart ∈ gtbl := g_of (List.mem_of_getElem? (i := 1195) (by decide +kernel)) rfl
theorem tp_75 : Cond.selects yX11_firstPart.cls yX11_firstPart yX11_firstPart ∈ gtbl := g_of (List.mem_of_getElem? (i := 75) (by decide +kernel)) rfl
theorem tp_1174 : Cond.methodLink RX11 165 yX11_isReached ∈ gtbl := g_of (List.mem_of_getElem? (i := 1174) (by decide +kernel)) rfl
set_option maxRecDepth 100000 in
theorem tp_1177 : Cond.code M_X11_isReached.1 M_X11_isReached.2.1 M_X11_isReached.2.2.1 M_X11_isReached.2.2.2 ∈ gtbl := g_of (List.mem_of_getElem? (i := 1177) rfl) rfl
theorem cb_X11_isReached : CalB M_X11_isReached 3 := ⟨tp_1177, tp_102, ⟨by decide +kernel, by decide +kernel, by decide +kernel⟩, by decide⟩
theorem tp_1176 : Cond.instanceMethod yX11_isReached ∈ gtbl := g_of (List.mem_of_getElem? (i := 1176) (by decide +kernel)) rfl
theorem tp_71 : Cond.selects yX11_isReached.cls yX11_isReached yX11_isReached ∈ gtbl := g_of (List.mem_of_getElem? (i := 71) (by decide +kernel)) rfl
theorem tp_1162 : Cond.methodLink RX11 186 yX11_all ∈ gtbl := g_of (List.mem_of_getElem? (i := 1162) (by decide +kernel)) rfl
set_option maxRecDepth 100000 in
theorem tp_1165 : Cond.code M_X11_all.1 M_X11_all.2.1 M_X11_all.2.2.1 M_X11_all.2.2.2 ∈ gtbl := g_of (List.mem_of_getElem? (i := 1165) rfl) rfl
theorem cb_X11_all : CalB M_X11_all 0 := ⟨tp_1165, tp_102, ⟨by decide +kernel, by decide +kernel, by decide +kernel⟩, by decide⟩
theorem tp_1164 : Cond.instanceMethod yX11_all ∈ gtbl := g_of (List.mem_of_getElem? (i := 1164) (by decide +kernel)) rfl
theorem tp_68 : Cond.selects yX11_all.cls yX11_all yX11_all ∈ gtbl := g_of (List.mem_of_getElem? (i := 68) (by decide +kernel)) rfl
theorem tp_1158 : Cond.methodLink RX11 190 yX11_areThere ∈ gtbl := g_of (List.mem_of_getElem? (i := 1158) (by decide +kernel)) rfl
set_option maxRecDepth 100000 in
theorem tp_1161 : Cond.code M_X11_areThere.1 M_X11_areThere.2.1 M_X11_areThere.2.2.1 M_X11_areThere.2.2.2 ∈ gtbl := g_of (List.mem_of_getElem? (i := 1161) rfl) rfl
theorem cb_X11_areThere : CalB M_X11_areThere 1 := ⟨tp_1161, tp_102, ⟨by decide +kernel, by decide +kernel, by decide +kernel⟩, by decide⟩
theorem tp_1160 : Cond.instanceMethod yX11_areThere ∈ gtbl := g_of (List.mem_of_getElem? (i := 1160) (by decide +kernel)) rfl
theorem tp_67 : Cond.selects yX11_areThere.cls yX11_areThere yX11_areThere ∈ gtbl := g_of (List.mem_of_getElem? (i := 67) (by decide +kernel)) rfl
theorem tp_1166 : Cond.methodLink RX11 193 yX11_isGoal ∈ gtbl := g_of (List.mem_of_getElem? (i := 1166) (by decide +kernel)) rfl
set_option maxRecDepth 100000 in
theorem tp_1169 : Cond.code M_X11_isGoal.1 M_X11_isGoal.2.1 M_X11_isGoal.2.2.1 M_X11_isGoal.2.2.2 ∈ gtbl := g_of (List.mem_of_getElem? (i := 1169) rfl) rfl
theorem cb_X11_isGoal : CalB M_X11_isGoal 0 := ⟨tp_1169, tp_102, ⟨by decide +kernel, by decide +kernel, by decide +kernel⟩, by decide⟩
theorem tp_1168 : Cond.instanceMethod yX11_isGoal ∈ gtbl := g_of (List.mem_of_getElem? (i := 1168) (by decide +kernel)) rfl
theorem tp_69 : Cond.selects yX11_isGoal.cls yX11_isGoal yX11_isGoal ∈ gtbl := g_of (List.mem_of_getElem? (i := 69) (by decide +kernel)) rfl
theorem tp_1170 : Cond.methodLink RX11 197 yX11_lay ∈ gtbl := g_of (List.mem_of_getElem? (i := 1170) (by decide +kernel)) rfl
set_option maxRecDepth 100000 in
theorem tp_1173 : Cond.code M_X11_lay.1 M_X11_lay.2.1 M_X11_lay.2.2.1 M_X11_lay.2.2.2 ∈ gtbl := g_of (List.mem_of_getElem? (i := 1173) rfl) rfl
theorem cb_X11_lay : CalB M_X11_lay 0 := ⟨tp_1173, tp_102, ⟨by decide +kernel, by decide +kernel, by decide +kernel⟩, by decide⟩
theorem tp_1172 : Cond.instanceMethod yX11_lay ∈ gtbl := g_of (List.mem_of_getElem? (i := 1172) (by decide +kernel)) rfl
theorem tp_70 : Cond.selects yX11_lay.cls yX11_lay yX11_lay ∈ gtbl := g_of (List.mem_of_getElem? (i := 70) (by decide +kernel)) rfl
theorem tp_1197 : Cond.methodLink RX11 200 yX11_heightOf ∈ gtbl := g_of (List.mem_of_getElem? (i := 1197) (by decide +kernel)) rfl
set_option maxRecDepth 100000 in
theorem tp_1200 : Cond.code M_X11_heightOf.1 M_X11_heightOf.2.1 M_X11_heightOf.2.2.1 M_X11_heightOf.2.2.2 ∈ gtbl := g_of (List.mem_of_getElem? (i := 1200) rfl) rfl
theorem cb_X11_heightOf : CalB M_X11_heightOf 1 := ⟨tp_1200, tp_102, ⟨by decide +kernel, by decide +kernel, by decide +kernel⟩, by decide⟩
theorem tp_1199 : Cond.instanceMethod yX11_heightOf ∈ gtbl := g_of (List.mem_of_getElem? (i := 1199) (by decide +kernel)) rfl
theorem tp_76 : Cond.selects yX11_heightOf.cls yX11_heightOf yX11_heightOf ∈ gtbl := g_of (List.mem_of_getElem? (i := 76) (by decide +kernel)) rfl
theorem tp_1232 : Cond.constantLong RX11 203 999999999 ∈ gtbl := g_of (List.mem_of_getElem? (i := 1232) (by decide +kernel)) rfl
theorem tp_1221 : Cond.methodLink RX11 205 yX11_waysBelow ∈ gtbl := g_of (List.mem_of_getElem? (i := 1221) (by decide +kernel)) rfl
set_option maxRecDepth 100000 in
theorem tp_1224 : Cond.code M_X11_waysBelow.1 M_X11_waysBelow.2.1 M_X11_waysBelow.2.2.1 M_X11_waysBelow.2.2.2 ∈ gtbl := g_of (List.mem_of_getElem? (i := 1224) rfl) rfl
theorem cb_X11_waysBelow : CalB M_X11_waysBelow 2 := ⟨tp_1224, tp_102, ⟨by decide +kernel, by decide +kernel, by decide +kernel⟩, by decide⟩
theorem tp_1223 : Cond.instanceMethod yX11_waysBelow ∈ gtbl := g_of (List.mem_of_getElem? (i := 1223) (by decide +kernel)) rfl
theorem tp_80 : Cond.selects yX11_waysBelow.cls yX11_waysBelow yX11_waysBelow ∈ gtbl := g_of (List.mem_of_getElem? (i := 80) (by decide +kernel)) rfl
theorem tp_1217 : Cond.methodLink RX11 209 yX11_waysBy ∈ gtbl := g_of (List.mem_of_getElem? (i := 1217) (by decide +kernel)) rfl
set_option maxRecDepth 100000 in
theorem tp_1220 : Cond.code M_X11_waysBy.1 M_X11_waysBy.2.1 M_X11_waysBy.2.2.1 M_X11_waysBy.2.2.2 ∈ gtbl := g_of (List.mem_of_getElem? (i := 1220) rfl) rfl
theorem cb_X11_waysBy : CalB M_X11_waysBy 3 := ⟨tp_1220, tp_102, ⟨by decide +kernel, by decide +kernel, by decide +kernel⟩, by decide⟩
theorem tp_1219 : Cond.instanceMethod yX11_waysBy ∈ gtbl := g_of (List.mem_of_getElem? (i := 1219) (by decide +kernel)) rfl
theorem tp_79 : Cond.selects yX11_waysBy.cls yX11_waysBy yX11_waysBy ∈ gtbl := g_of (List.mem_of_getElem? (i := 79) (by decide +kernel)) rfl
theorem tp_1229 : Cond.methodLink RX11 213 yX11_capped ∈ gtbl := g_of (List.mem_of_getElem? (i := 1229) (by decide +kernel)) rfl
set_option maxRecDepth 100000 in
theorem tp_1231 : Cond.code M_X11_capped.1 M_X11_capped.2.1 M_X11_capped.2.2.1 M_X11_capped.2.2.2 ∈ gtbl := g_of (List.mem_of_getElem? (i := 1231) rfl) rfl
theorem cb_X11_capped : CalB M_X11_capped 1 := ⟨tp_1231, tp_102, ⟨by decide +kernel, by decide +kernel, by decide +kernel⟩, by decide⟩
theorem tp_1230 : Cond.static yX11_capped ∈ gtbl := g_of (List.mem_of_getElem? (i := 1230) (by decide +kernel)) rfl
theorem tp_1213 : Cond.methodLink RX11 217 yX11_waysOfAtom ∈ gtbl := g_of (List.mem_of_getElem? (i := 1213) (by decide +kernel)) rfl
set_option maxRecDepth 100000 in
theorem tp_1216 : Cond.code M_X11_waysOfAtom.1 M_X11_waysOfAtom.2.1 M_X11_waysOfAtom.2.2.1 M_X11_waysOfAtom.2.2.2 ∈ gtbl := g_of (List.mem_of_getElem? (i := 1216) rfl) rfl
theorem cb_X11_waysOfAtom : CalB M_X11_waysOfAtom 2 := ⟨tp_1216, tp_102, ⟨by decide +kernel, by decide +kernel, by decide +kernel⟩, by decide⟩
theorem tp_1215 : Cond.instanceMethod yX11_waysOfAtom ∈ gtbl := g_of (List.mem_of_getElem? (i := 1215) (by decide +kernel)) rfl
theorem tp_78 : Cond.selects yX11_waysOfAtom.cls yX11_waysOfAtom yX11_waysOfAtom ∈ gtbl := g_of (List.mem_of_getElem? (i := 78) (by decide +kernel)) rfl
theorem tp_1225 : Cond.methodLink RX11 220 yX11_waysOfParts ∈ gtbl := g_of (List.mem_of_getElem? (i := 1225) (by decide +kernel)) rfl
set_option maxRecDepth 100000 in
theorem tp_1228 : Cond.code M_X11_waysOfParts.1 M_X11_waysOfParts.2.1 M_X11_waysOfParts.2.2.1 M_X11_waysOfParts.2.2.2 ∈ gtbl := g_of (List.mem_of_getElem? (i := 1228) rfl) rfl
theorem cb_X11_waysOfParts : CalB M_X11_waysOfParts 2 := ⟨tp_1228, tp_102, ⟨by decide +kernel, by decide +kernel, by decide +kernel⟩, by decide⟩
theorem tp_1227 : Cond.instanceMethod yX11_waysOfParts ∈ gtbl := g_of (List.mem_of_getElem? (i := 1227) (by decide +kernel)) rfl
theorem tp_81 : Cond.selects yX11_waysOfParts.cls yX11_waysOfParts yX11_waysOfParts ∈ gtbl := g_of (List.mem_of_getElem? (i := 81) (by decide +kernel)) rfl
theorem tp_1209 : Cond.methodLink RX11 223 yX11_waysOf ∈ gtbl := g_of (List.mem_of_getElem? (i := 1209) (by decide +kernel)) rfl
set_option maxRecDepth 100000 in
theorem tp_1212 : Cond.code M_X11_waysOf.1 M_X11_waysOf.2.1 M_X11_waysOf.2.2.1 M_X11_waysOf.2.2.2 ∈ gtbl := g_of (List.mem_of_getElem? (i := 1212) rfl) rfl
theorem cb_X11_waysOf : CalB M_X11_waysOf 2 := ⟨tp_1212, tp_102, ⟨by decide +kernel, by decide +kernel, by decide +kernel⟩, by decide⟩
theorem tp_1211 : Cond.instanceMethod yX11_waysOf ∈ gtbl := g_of (List.mem_of_getElem? (i := 1211) (by decide +kernel)) rfl
theorem tp_77 : Cond.selects yX11_waysOf.cls yX11_waysOf yX11_waysOf ∈ gtbl := g_of (List.mem_of_getElem? (i := 77) (by decide +kernel)) rfl
theorem tp_982 : Cond.fieldLink RX11 226 "OnceProverModel" "still" "I" ∈ gtbl := g_of (List.mem_of_getElem? (i := 982) (by decide +kernel)) rfl
theorem fl_X11_226 : FL RX11 226 11 30 := ⟨kf11, by decide, tp_982⟩
theorem tp_978 : Cond.fieldLink RX11 229 "OnceProverModel" "long1" "I" ∈ gtbl := g_of (List.mem_of_getElem? (i := 978) (by decide +kernel)) rfl
theorem fl_X11_229 : FL RX11 229 11 26 := ⟨kf11, by decide, tp_978⟩
theorem tp_1249 : Cond.methodLink RX11 236 yX11_await ∈ gtbl := g_of (List.mem_of_getElem? (i := 1249) (by decide +kernel)) rfl
set_option maxRecDepth 100000 in
theorem tp_1252 : Cond.code M_X11_await.1 M_X11_await.2.1 M_X11_await.2.2.1 M_X11_await.2.2.2 ∈ gtbl := g_of (List.mem_of_getElem? (i := 1252) rfl) rfl
theorem cb_X11_await : CalB M_X11_await 3 := ⟨tp_1252, tp_102, ⟨by decide +kernel, by decide +kernel, by decide +kernel⟩, by decide⟩
theorem tp_1251 : Cond.instanceMethod yX11_await ∈ gtbl := g_of (List.mem_of_getElem? (i := 1251) (by decide +kernel)) rfl
theorem tp_83 : Cond.selects yX11_await.cls yX11_await yX11_await ∈ gtbl := g_of (List.mem_of_getElem? (i := 83) (by decide +kernel)) rfl
theorem tp_1261 : Cond.methodLink RX11 232 yX11_tell ∈ gtbl := g_of (List.mem_of_getElem? (i := 1261) (by decide +kernel)) rfl
set_option maxRecDepth 100000 in
theorem tp_1264 : Cond.code M_X11_tell.1 M_X11_tell.2.1 M_X11_tell.2.2.1 M_X11_tell.2.2.2 ∈ gtbl := g_of (List.mem_of_getElem? (i := 1264) rfl) rfl
theorem cb_X11_tell : CalB M_X11_tell 1 := ⟨tp_1264, tp_102, ⟨by decide +kernel, by decide +kernel, by decide +kernel⟩, by decide⟩
theorem tp_1263 : Cond.instanceMethod yX11_tell ∈ gtbl := g_of (List.mem_of_getElem? (i := 1263) (by decide +kernel)) rfl
theorem tp_86 : Cond.selects yX11_tell.cls yX11_tell yX11_tell ∈ gtbl := g_of (List.mem_of_getElem? (i := 86) (by decide +kernel)) rfl
theorem tp_1257 : Cond.methodLink RX11 239 yX11_tellAtom ∈ gtbl := g_of (List.mem_of_getElem? (i := 1257) (by decide +kernel)) rfl
set_option maxRecDepth 100000 in
theorem tp_1260 : Cond.code M_X11_tellAtom.1 M_X11_tellAtom.2.1 M_X11_tellAtom.2.2.1 M_X11_tellAtom.2.2.2 ∈ gtbl := g_of (List.mem_of_getElem? (i := 1260) rfl) rfl
theorem cb_X11_tellAtom : CalB M_X11_tellAtom 3 := ⟨tp_1260, tp_102, ⟨by decide +kernel, by decide +kernel, by decide +kernel⟩, by decide⟩
theorem tp_1259 : Cond.instanceMethod yX11_tellAtom ∈ gtbl := g_of (List.mem_of_getElem? (i := 1259) (by decide +kernel)) rfl
theorem tp_85 : Cond.selects yX11_tellAtom.cls yX11_tellAtom yX11_tellAtom ∈ gtbl := g_of (List.mem_of_getElem? (i := 85) (by decide +kernel)) rfl
theorem tp_1253 : Cond.methodLink RX11 242 yX11_tellOne ∈ gtbl := g_of (List.mem_of_getElem? (i := 1253) (by decide +kernel)) rfl
set_option maxRecDepth 100000 in
theorem tp_1256 : Cond.code M_X11_tellOne.1 M_X11_tellOne.2.1 M_X11_tellOne.2.2.1 M_X11_tellOne.2.2.2 ∈ gtbl := g_of (List.mem_of_getElem? (i := 1256) rfl) rfl
theorem cb_X11_tellOne : CalB M_X11_tellOne 3 := ⟨tp_1256, tp_102, ⟨by decide +kernel, by decide +kernel, by decide +kernel⟩, by decide⟩
theorem tp_1255 : Cond.instanceMethod yX11_tellOne ∈ gtbl := g_of (List.mem_of_getElem? (i := 1255) (by decide +kernel)) rfl
theorem tp_84 : Cond.selects yX11_tellOne.cls yX11_tellOne yX11_tellOne ∈ gtbl := g_of (List.mem_of_getElem? (i := 84) (by decide +kernel)) rfl
theorem tp_1245 : Cond.methodLink RX11 245 yX11_layWay ∈ gtbl := g_of (List.mem_of_getElem? (i := 1245) (by decide +kernel)) rfl
set_option maxRecDepth 100000 in
theorem tp_1248 : Cond.code M_X11_layWay.1 M_X11_layWay.2.1 M_X11_layWay.2.2.1 M_X11_layWay.2.2.2 ∈ gtbl := g_of (List.mem_of_getElem? (i := 1248) rfl) rfl
theorem cb_X11_layWay : CalB M_X11_layWay 0 := ⟨tp_1248, tp_102, ⟨by decide +kernel, by decide +kernel, by decide +kernel⟩, by decide⟩
theorem tp_1247 : Cond.instanceMethod yX11_layWay ∈ gtbl := g_of (List.mem_of_getElem? (i := 1247) (by decide +kernel)) rfl
theorem tp_82 : Cond.selects yX11_layWay.cls yX11_layWay yX11_layWay ∈ gtbl := g_of (List.mem_of_getElem? (i := 82) (by decide +kernel)) rfl
theorem tp_956 : Cond.fieldLink RX11 248 "OnceProverModel" "trials" "I" ∈ gtbl := g_of (List.mem_of_getElem? (i := 956) (by decide +kernel)) rfl
theorem fl_X11_248 : FL RX11 248 11 4 := ⟨kf11, by decide, tp_956⟩
theorem tp_983 : Cond.fieldLink RX11 251 "OnceProverModel" "taken" "I" ∈ gtbl := g_of (List.mem_of_getElem? (i := 983) (by decide +kernel)) rfl
theorem fl_X11_251 : FL RX11 251 11 31 := ⟨kf11, by decide, tp_983⟩
theorem tp_1289 : Cond.methodLink RX11 254 yX11_checkAtom ∈ gtbl := g_of (List.mem_of_getElem? (i := 1289) (by decide +kernel)) rfl
set_option maxRecDepth 100000 in
theorem tp_1292 : Cond.code M_X11_checkAtom.1 M_X11_checkAtom.2.1 M_X11_checkAtom.2.2.1 M_X11_checkAtom.2.2.2 ∈ gtbl := g_of (List.mem_of_getElem? (i := 1292) rfl) rfl
theorem cb_X11_checkAtom : CalB M_X11_checkAtom 3 := ⟨tp_1292, tp_102, ⟨by decide +kernel, by decide +kernel, by decide +kernel⟩, by decide⟩
theorem tp_1291 : Cond.instanceMethod yX11_checkAtom ∈ gtbl := g_of (List.mem_of_getElem? (i := 1291) (by decide +kernel)) rfl
theorem tp_89 : Cond.selects yX11_checkAtom.cls yX11_checkAtom yX11_checkAtom ∈ gtbl := g_of (List.mem_of_getElem? (i := 89) (by decide +kernel)) rfl
theorem tp_1293 : Cond.methodLink RX11 257 yX11_checkParts ∈ gtbl := g_of (List.mem_of_getElem? (i := 1293) (by decide +kernel)) rfl
set_option maxRecDepth 100000 in
theorem tp_1296 : Cond.code M_X11_checkParts.1 M_X11_checkParts.2.1 M_X11_checkParts.2.2.1 M_X11_checkParts.2.2.2 ∈ gtbl := g_of (List.mem_of_getElem? (i := 1296) rfl) rfl
theorem cb_X11_checkParts : CalB M_X11_checkParts 3 := ⟨tp_1296, tp_102, ⟨by decide +kernel, by decide +kernel, by decide +kernel⟩, by decide⟩
theorem tp_1295 : Cond.instanceMethod yX11_checkParts ∈ gtbl := g_of (List.mem_of_getElem? (i := 1295) (by decide +kernel)) rfl
theorem tp_90 : Cond.selects yX11_checkParts.cls yX11_checkParts yX11_checkParts ∈ gtbl := g_of (List.mem_of_getElem? (i := 90) (by decide +kernel)) rfl
theorem tp_1297 : Cond.methodLink RX11 260 yX11_checkPlus ∈ gtbl := g_of (List.mem_of_getElem? (i := 1297) (by decide +kernel)) rfl
set_option maxRecDepth 100000 in
theorem tp_1300 : Cond.code M_X11_checkPlus.1 M_X11_checkPlus.2.1 M_X11_checkPlus.2.2.1 M_X11_checkPlus.2.2.2 ∈ gtbl := g_of (List.mem_of_getElem? (i := 1300) rfl) rfl
theorem cb_X11_checkPlus : CalB M_X11_checkPlus 3 := ⟨tp_1300, tp_102, ⟨by decide +kernel, by decide +kernel, by decide +kernel⟩, by decide⟩
theorem tp_1299 : Cond.instanceMethod yX11_checkPlus ∈ gtbl := g_of (List.mem_of_getElem? (i := 1299) (by decide +kernel)) rfl
theorem tp_91 : Cond.selects yX11_checkPlus.cls yX11_checkPlus yX11_checkPlus ∈ gtbl := g_of (List.mem_of_getElem? (i := 91) (by decide +kernel)) rfl
theorem tp_984 : Cond.fieldLink RX11 263 "OnceProverModel" "deepest" "I" ∈ gtbl := g_of (List.mem_of_getElem? (i := 984) (by decide +kernel)) rfl
theorem fl_X11_263 : FL RX11 263 11 32 := ⟨kf11, by decide, tp_984⟩
theorem tp_1285 : Cond.methodLink RX11 266 yX11_checkOne ∈ gtbl := g_of (List.mem_of_getElem? (i := 1285) (by decide +kernel)) rfl
set_option maxRecDepth 100000 in
theorem tp_1288 : Cond.code M_X11_checkOne.1 M_X11_checkOne.2.1 M_X11_checkOne.2.2.1 M_X11_checkOne.2.2.2 ∈ gtbl := g_of (List.mem_of_getElem? (i := 1288) rfl) rfl
theorem cb_X11_checkOne : CalB M_X11_checkOne 3 := ⟨tp_1288, tp_102, ⟨by decide +kernel, by decide +kernel, by decide +kernel⟩, by decide⟩
theorem tp_1287 : Cond.instanceMethod yX11_checkOne ∈ gtbl := g_of (List.mem_of_getElem? (i := 1287) (by decide +kernel)) rfl
theorem tp_88 : Cond.selects yX11_checkOne.cls yX11_checkOne yX11_checkOne ∈ gtbl := g_of (List.mem_of_getElem? (i := 88) (by decide +kernel)) rfl
theorem tp_1281 : Cond.methodLink RX11 269 yX11_checked ∈ gtbl := g_of (List.mem_of_getElem? (i := 1281) (by decide +kernel)) rfl
set_option maxRecDepth 100000 in
theorem tp_1284 : Cond.code M_X11_checked.1 M_X11_checked.2.1 M_X11_checked.2.2.1 M_X11_checked.2.2.2 ∈ gtbl := g_of (List.mem_of_getElem? (i := 1284) rfl) rfl
theorem cb_X11_checked : CalB M_X11_checked 0 := ⟨tp_1284, tp_102, ⟨by decide +kernel, by decide +kernel, by decide +kernel⟩, by decide⟩
theorem tp_1283 : Cond.instanceMethod yX11_checked ∈ gtbl := g_of (List.mem_of_getElem? (i := 1283) (by decide +kernel)) rfl
theorem tp_87 : Cond.selects yX11_checked.cls yX11_checked yX11_checked ∈ gtbl := g_of (List.mem_of_getElem? (i := 87) (by decide +kernel)) rfl
theorem tp_314 : Cond.methodLink RL 13 yX10_say ∈ gtbl := g_of (List.mem_of_getElem? (i := 314) (by decide +kernel)) rfl
set_option maxRecDepth 100000 in
theorem tp_317 : Cond.code M_X10_say.1 M_X10_say.2.1 M_X10_say.2.2.1 M_X10_say.2.2.2 ∈ gtbl := g_of (List.mem_of_getElem? (i := 317) rfl) rfl
theorem cb_X10_say : CalB M_X10_say 1 := ⟨tp_317, tp_93, ⟨by decide +kernel, by decide +kernel, by decide +kernel⟩, by decide⟩
theorem tp_315 : Cond.instanceMethod yX10_say ∈ gtbl := g_of (List.mem_of_getElem? (i := 315) (by decide +kernel)) rfl
theorem tp_316 : Cond.selects yX10_say.cls yX10_say yX10_say ∈ gtbl := g_of (List.mem_of_getElem? (i := 316) (by decide +kernel)) rfl
theorem tp_1062 : Cond.methodLink RL 17 yX11_say ∈ gtbl := g_of (List.mem_of_getElem? (i := 1062) (by decide +kernel)) rfl
set_option maxRecDepth 100000 in
theorem tp_1065 : Cond.code M_X11_say.1 M_X11_say.2.1 M_X11_say.2.2.1 M_X11_say.2.2.2 ∈ gtbl := g_of (List.mem_of_getElem? (i := 1065) rfl) rfl
theorem cb_X11_say : CalB M_X11_say 1 := ⟨tp_1065, tp_102, ⟨by decide +kernel, by decide +kernel, by decide +kernel⟩, by decide⟩
theorem tp_1063 : Cond.instanceMethod yX11_say ∈ gtbl := g_of (List.mem_of_getElem? (i := 1063) (by decide +kernel)) rfl
theorem tp_1064 : Cond.selects yX11_say.cls yX11_say yX11_say ∈ gtbl := g_of (List.mem_of_getElem? (i := 1064) (by decide +kernel)) rfl
theorem tp_326 : Cond.methodLink RL 18 yX10_wipe ∈ gtbl := g_of (List.mem_of_getElem? (i := 326) (by decide +kernel)) rfl
set_option maxRecDepth 100000 in
theorem tp_329 : Cond.code M_X10_wipe.1 M_X10_wipe.2.1 M_X10_wipe.2.2.1 M_X10_wipe.2.2.2 ∈ gtbl := g_of (List.mem_of_getElem? (i := 329) rfl) rfl
theorem cb_X10_wipe : CalB M_X10_wipe 0 := ⟨tp_329, tp_93, ⟨by decide +kernel, by decide +kernel, by decide +kernel⟩, by decide⟩
theorem tp_327 : Cond.instanceMethod yX10_wipe ∈ gtbl := g_of (List.mem_of_getElem? (i := 327) (by decide +kernel)) rfl
theorem tp_328 : Cond.selects yX10_wipe.cls yX10_wipe yX10_wipe ∈ gtbl := g_of (List.mem_of_getElem? (i := 328) (by decide +kernel)) rfl
theorem tp_1069 : Cond.methodLink RL 22 yX11_wipe ∈ gtbl := g_of (List.mem_of_getElem? (i := 1069) (by decide +kernel)) rfl
set_option maxRecDepth 100000 in
theorem tp_1072 : Cond.code M_X11_wipe.1 M_X11_wipe.2.1 M_X11_wipe.2.2.1 M_X11_wipe.2.2.2 ∈ gtbl := g_of (List.mem_of_getElem? (i := 1072) rfl) rfl
theorem cb_X11_wipe : CalB M_X11_wipe 0 := ⟨tp_1072, tp_102, ⟨by decide +kernel, by decide +kernel, by decide +kernel⟩, by decide⟩
theorem tp_1070 : Cond.instanceMethod yX11_wipe ∈ gtbl := g_of (List.mem_of_getElem? (i := 1070) (by decide +kernel)) rfl
theorem tp_1071 : Cond.selects yX11_wipe.cls yX11_wipe yX11_wipe ∈ gtbl := g_of (List.mem_of_getElem? (i := 1071) (by decide +kernel)) rfl
theorem tp_334 : Cond.methodLink RL 23 yX10_resource ∈ gtbl := g_of (List.mem_of_getElem? (i := 334) (by decide +kernel)) rfl
set_option maxRecDepth 100000 in
theorem tp_337 : Cond.code M_X10_resource.1 M_X10_resource.2.1 M_X10_resource.2.2.1 M_X10_resource.2.2.2 ∈ gtbl := g_of (List.mem_of_getElem? (i := 337) rfl) rfl
theorem cb_X10_resource : CalB M_X10_resource 0 := ⟨tp_337, tp_93, ⟨by decide +kernel, by decide +kernel, by decide +kernel⟩, by decide⟩
theorem tp_335 : Cond.instanceMethod yX10_resource ∈ gtbl := g_of (List.mem_of_getElem? (i := 335) (by decide +kernel)) rfl
theorem tp_336 : Cond.selects yX10_resource.cls yX10_resource yX10_resource ∈ gtbl := g_of (List.mem_of_getElem? (i := 336) (by decide +kernel)) rfl
theorem tp_1073 : Cond.methodLink RL 26 yX11_resource ∈ gtbl := g_of (List.mem_of_getElem? (i := 1073) (by decide +kernel)) rfl
set_option maxRecDepth 100000 in
theorem tp_1076 : Cond.code M_X11_resource.1 M_X11_resource.2.1 M_X11_resource.2.2.1 M_X11_resource.2.2.2 ∈ gtbl := g_of (List.mem_of_getElem? (i := 1076) rfl) rfl
theorem cb_X11_resource : CalB M_X11_resource 0 := ⟨tp_1076, tp_102, ⟨by decide +kernel, by decide +kernel, by decide +kernel⟩, by decide⟩
theorem tp_1074 : Cond.instanceMethod yX11_resource ∈ gtbl := g_of (List.mem_of_getElem? (i := 1074) (by decide +kernel)) rfl
theorem tp_1075 : Cond.selects yX11_resource.cls yX11_resource yX11_resource ∈ gtbl := g_of (List.mem_of_getElem? (i := 1075) (by decide +kernel)) rfl
theorem tp_509 : Cond.methodLink RL 27 yX10_well ∈ gtbl := g_of (List.mem_of_getElem? (i := 509) (by decide +kernel)) rfl
set_option maxRecDepth 100000 in
theorem tp_512 : Cond.code M_X10_well.1 M_X10_well.2.1 M_X10_well.2.2.1 M_X10_well.2.2.2 ∈ gtbl := g_of (List.mem_of_getElem? (i := 512) rfl) rfl
theorem cb_X10_well : CalB M_X10_well 0 := ⟨tp_512, tp_93, ⟨by decide +kernel, by decide +kernel, by decide +kernel⟩, by decide⟩
theorem tp_510 : Cond.instanceMethod yX10_well ∈ gtbl := g_of (List.mem_of_getElem? (i := 510) (by decide +kernel)) rfl
theorem tp_511 : Cond.selects yX10_well.cls yX10_well yX10_well ∈ gtbl := g_of (List.mem_of_getElem? (i := 511) (by decide +kernel)) rfl
theorem tp_1131 : Cond.methodLink RL 30 yX11_well ∈ gtbl := g_of (List.mem_of_getElem? (i := 1131) (by decide +kernel)) rfl
set_option maxRecDepth 100000 in
theorem tp_1134 : Cond.code M_X11_well.1 M_X11_well.2.1 M_X11_well.2.2.1 M_X11_well.2.2.2 ∈ gtbl := g_of (List.mem_of_getElem? (i := 1134) rfl) rfl
theorem cb_X11_well : CalB M_X11_well 0 := ⟨tp_1134, tp_102, ⟨by decide +kernel, by decide +kernel, by decide +kernel⟩, by decide⟩
theorem tp_1132 : Cond.instanceMethod yX11_well ∈ gtbl := g_of (List.mem_of_getElem? (i := 1132) (by decide +kernel)) rfl
theorem tp_1133 : Cond.selects yX11_well.cls yX11_well yX11_well ∈ gtbl := g_of (List.mem_of_getElem? (i := 1133) (by decide +kernel)) rfl
theorem tp_513 : Cond.methodLink RL 31 yX10_goal ∈ gtbl := g_of (List.mem_of_getElem? (i := 513) (by decide +kernel)) rfl
set_option maxRecDepth 100000 in
theorem tp_516 : Cond.code M_X10_goal.1 M_X10_goal.2.1 M_X10_goal.2.2.1 M_X10_goal.2.2.2 ∈ gtbl := g_of (List.mem_of_getElem? (i := 516) rfl) rfl
theorem cb_X10_goal : CalB M_X10_goal 0 := ⟨tp_516, tp_93, ⟨by decide +kernel, by decide +kernel, by decide +kernel⟩, by decide⟩
theorem tp_514 : Cond.instanceMethod yX10_goal ∈ gtbl := g_of (List.mem_of_getElem? (i := 514) (by decide +kernel)) rfl
theorem tp_515 : Cond.selects yX10_goal.cls yX10_goal yX10_goal ∈ gtbl := g_of (List.mem_of_getElem? (i := 515) (by decide +kernel)) rfl
theorem tp_1135 : Cond.methodLink RL 34 yX11_goal ∈ gtbl := g_of (List.mem_of_getElem? (i := 1135) (by decide +kernel)) rfl
set_option maxRecDepth 100000 in
theorem tp_1138 : Cond.code M_X11_goal.1 M_X11_goal.2.1 M_X11_goal.2.2.1 M_X11_goal.2.2.2 ∈ gtbl := g_of (List.mem_of_getElem? (i := 1138) rfl) rfl
theorem cb_X11_goal : CalB M_X11_goal 0 := ⟨tp_1138, tp_102, ⟨by decide +kernel, by decide +kernel, by decide +kernel⟩, by decide⟩
theorem tp_1136 : Cond.instanceMethod yX11_goal ∈ gtbl := g_of (List.mem_of_getElem? (i := 1136) (by decide +kernel)) rfl
theorem tp_1137 : Cond.selects yX11_goal.cls yX11_goal yX11_goal ∈ gtbl := g_of (List.mem_of_getElem? (i := 1137) (by decide +kernel)) rfl
theorem tp_518 : Cond.methodLink RL 35 yX10_fault ∈ gtbl := g_of (List.mem_of_getElem? (i := 518) (by decide +kernel)) rfl
set_option maxRecDepth 100000 in
theorem tp_521 : Cond.code M_X10_fault.1 M_X10_fault.2.1 M_X10_fault.2.2.1 M_X10_fault.2.2.2 ∈ gtbl := g_of (List.mem_of_getElem? (i := 521) rfl) rfl
theorem cb_X10_fault : CalB M_X10_fault 0 := ⟨tp_521, tp_93, ⟨by decide +kernel, by decide +kernel, by decide +kernel⟩, by decide⟩
theorem tp_519 : Cond.instanceMethod yX10_fault ∈ gtbl := g_of (List.mem_of_getElem? (i := 519) (by decide +kernel)) rfl
theorem tp_520 : Cond.selects yX10_fault.cls yX10_fault yX10_fault ∈ gtbl := g_of (List.mem_of_getElem? (i := 520) (by decide +kernel)) rfl
theorem tp_1139 : Cond.methodLink RL 38 yX11_fault ∈ gtbl := g_of (List.mem_of_getElem? (i := 1139) (by decide +kernel)) rfl
set_option maxRecDepth 100000 in
theorem tp_1142 : Cond.code M_X11_fault.1 M_X11_fault.2.1 M_X11_fault.2.2.1 M_X11_fault.2.2.2 ∈ gtbl := g_of (List.mem_of_getElem? (i := 1142) rfl) rfl
theorem cb_X11_fault : CalB M_X11_fault 0 := ⟨tp_1142, tp_102, ⟨by decide +kernel, by decide +kernel, by decide +kernel⟩, by decide⟩
theorem tp_1140 : Cond.instanceMethod yX11_fault ∈ gtbl := g_of (List.mem_of_getElem? (i := 1140) (by decide +kernel)) rfl
theorem tp_1141 : Cond.selects yX11_fault.cls yX11_fault yX11_fault ∈ gtbl := g_of (List.mem_of_getElem? (i := 1141) (by decide +kernel)) rfl
theorem tp_522 : Cond.methodLink RL 39 yX10_drop ∈ gtbl := g_of (List.mem_of_getElem? (i := 522) (by decide +kernel)) rfl
set_option maxRecDepth 100000 in
theorem tp_525 : Cond.code M_X10_drop.1 M_X10_drop.2.1 M_X10_drop.2.2.1 M_X10_drop.2.2.2 ∈ gtbl := g_of (List.mem_of_getElem? (i := 525) rfl) rfl
theorem cb_X10_drop : CalB M_X10_drop 2 := ⟨tp_525, tp_93, ⟨by decide +kernel, by decide +kernel, by decide +kernel⟩, by decide⟩
theorem tp_523 : Cond.instanceMethod yX10_drop ∈ gtbl := g_of (List.mem_of_getElem? (i := 523) (by decide +kernel)) rfl
theorem tp_524 : Cond.selects yX10_drop.cls yX10_drop yX10_drop ∈ gtbl := g_of (List.mem_of_getElem? (i := 524) (by decide +kernel)) rfl
theorem tp_1143 : Cond.methodLink RL 43 yX11_drop ∈ gtbl := g_of (List.mem_of_getElem? (i := 1143) (by decide +kernel)) rfl
set_option maxRecDepth 100000 in
theorem tp_1146 : Cond.code M_X11_drop.1 M_X11_drop.2.1 M_X11_drop.2.2.1 M_X11_drop.2.2.2 ∈ gtbl := g_of (List.mem_of_getElem? (i := 1146) rfl) rfl
theorem cb_X11_drop : CalB M_X11_drop 2 := ⟨tp_1146, tp_102, ⟨by decide +kernel, by decide +kernel, by decide +kernel⟩, by decide⟩
theorem tp_1144 : Cond.instanceMethod yX11_drop ∈ gtbl := g_of (List.mem_of_getElem? (i := 1144) (by decide +kernel)) rfl
theorem tp_1145 : Cond.selects yX11_drop.cls yX11_drop yX11_drop ∈ gtbl := g_of (List.mem_of_getElem? (i := 1145) (by decide +kernel)) rfl
theorem tp_549 : Cond.methodLink RL 44 yX10_height ∈ gtbl := g_of (List.mem_of_getElem? (i := 549) (by decide +kernel)) rfl
set_option maxRecDepth 100000 in
theorem tp_552 : Cond.code M_X10_height.1 M_X10_height.2.1 M_X10_height.2.2.1 M_X10_height.2.2.2 ∈ gtbl := g_of (List.mem_of_getElem? (i := 552) rfl) rfl
theorem cb_X10_height : CalB M_X10_height 1 := ⟨tp_552, tp_93, ⟨by decide +kernel, by decide +kernel, by decide +kernel⟩, by decide⟩
theorem tp_550 : Cond.instanceMethod yX10_height ∈ gtbl := g_of (List.mem_of_getElem? (i := 550) (by decide +kernel)) rfl
theorem tp_551 : Cond.selects yX10_height.cls yX10_height yX10_height ∈ gtbl := g_of (List.mem_of_getElem? (i := 551) (by decide +kernel)) rfl
theorem tp_1154 : Cond.methodLink RL 47 yX11_height ∈ gtbl := g_of (List.mem_of_getElem? (i := 1154) (by decide +kernel)) rfl
set_option maxRecDepth 100000 in
theorem tp_1157 : Cond.code M_X11_height.1 M_X11_height.2.1 M_X11_height.2.2.1 M_X11_height.2.2.2 ∈ gtbl := g_of (List.mem_of_getElem? (i := 1157) rfl) rfl
theorem cb_X11_height : CalB M_X11_height 1 := ⟨tp_1157, tp_102, ⟨by decide +kernel, by decide +kernel, by decide +kernel⟩, by decide⟩
theorem tp_1155 : Cond.instanceMethod yX11_height ∈ gtbl := g_of (List.mem_of_getElem? (i := 1155) (by decide +kernel)) rfl
theorem tp_1156 : Cond.selects yX11_height.cls yX11_height yX11_height ∈ gtbl := g_of (List.mem_of_getElem? (i := 1156) (by decide +kernel)) rfl
theorem tp_697 : Cond.methodLink RL 48 yX10_left ∈ gtbl := g_of (List.mem_of_getElem? (i := 697) (by decide +kernel)) rfl
set_option maxRecDepth 100000 in
theorem tp_700 : Cond.code M_X10_left.1 M_X10_left.2.1 M_X10_left.2.2.1 M_X10_left.2.2.2 ∈ gtbl := g_of (List.mem_of_getElem? (i := 700) rfl) rfl
theorem cb_X10_left : CalB M_X10_left 2 := ⟨tp_700, tp_93, ⟨by decide +kernel, by decide +kernel, by decide +kernel⟩, by decide⟩
theorem tp_698 : Cond.instanceMethod yX10_left ∈ gtbl := g_of (List.mem_of_getElem? (i := 698) (by decide +kernel)) rfl
theorem tp_699 : Cond.selects yX10_left.cls yX10_left yX10_left ∈ gtbl := g_of (List.mem_of_getElem? (i := 699) (by decide +kernel)) rfl
theorem tp_1201 : Cond.methodLink RL 51 yX11_left ∈ gtbl := g_of (List.mem_of_getElem? (i := 1201) (by decide +kernel)) rfl
set_option maxRecDepth 100000 in
theorem tp_1204 : Cond.code M_X11_left.1 M_X11_left.2.1 M_X11_left.2.2.1 M_X11_left.2.2.2 ∈ gtbl := g_of (List.mem_of_getElem? (i := 1204) rfl) rfl
theorem cb_X11_left : CalB M_X11_left 2 := ⟨tp_1204, tp_102, ⟨by decide +kernel, by decide +kernel, by decide +kernel⟩, by decide⟩
theorem tp_1202 : Cond.instanceMethod yX11_left ∈ gtbl := g_of (List.mem_of_getElem? (i := 1202) (by decide +kernel)) rfl
theorem tp_1203 : Cond.selects yX11_left.cls yX11_left yX11_left ∈ gtbl := g_of (List.mem_of_getElem? (i := 1203) (by decide +kernel)) rfl
theorem tp_702 : Cond.methodLink RL 52 yX10_ways ∈ gtbl := g_of (List.mem_of_getElem? (i := 702) (by decide +kernel)) rfl
set_option maxRecDepth 100000 in
theorem tp_705 : Cond.code M_X10_ways.1 M_X10_ways.2.1 M_X10_ways.2.2.1 M_X10_ways.2.2.2 ∈ gtbl := g_of (List.mem_of_getElem? (i := 705) rfl) rfl
theorem cb_X10_ways : CalB M_X10_ways 2 := ⟨tp_705, tp_93, ⟨by decide +kernel, by decide +kernel, by decide +kernel⟩, by decide⟩
theorem tp_703 : Cond.instanceMethod yX10_ways ∈ gtbl := g_of (List.mem_of_getElem? (i := 703) (by decide +kernel)) rfl
theorem tp_704 : Cond.selects yX10_ways.cls yX10_ways yX10_ways ∈ gtbl := g_of (List.mem_of_getElem? (i := 704) (by decide +kernel)) rfl
theorem tp_1205 : Cond.methodLink RL 55 yX11_ways ∈ gtbl := g_of (List.mem_of_getElem? (i := 1205) (by decide +kernel)) rfl
set_option maxRecDepth 100000 in
theorem tp_1208 : Cond.code M_X11_ways.1 M_X11_ways.2.1 M_X11_ways.2.2.1 M_X11_ways.2.2.2 ∈ gtbl := g_of (List.mem_of_getElem? (i := 1208) rfl) rfl
theorem cb_X11_ways : CalB M_X11_ways 2 := ⟨tp_1208, tp_102, ⟨by decide +kernel, by decide +kernel, by decide +kernel⟩, by decide⟩
theorem tp_1206 : Cond.instanceMethod yX11_ways ∈ gtbl := g_of (List.mem_of_getElem? (i := 1206) (by decide +kernel)) rfl
theorem tp_1207 : Cond.selects yX11_ways.cls yX11_ways yX11_ways ∈ gtbl := g_of (List.mem_of_getElem? (i := 1207) (by decide +kernel)) rfl
theorem tp_755 : Cond.methodLink RL 56 yX10_fewest ∈ gtbl := g_of (List.mem_of_getElem? (i := 755) (by decide +kernel)) rfl
set_option maxRecDepth 100000 in
theorem tp_758 : Cond.code M_X10_fewest.1 M_X10_fewest.2.1 M_X10_fewest.2.2.1 M_X10_fewest.2.2.2 ∈ gtbl := g_of (List.mem_of_getElem? (i := 758) rfl) rfl
theorem cb_X10_fewest : CalB M_X10_fewest 0 := ⟨tp_758, tp_93, ⟨by decide +kernel, by decide +kernel, by decide +kernel⟩, by decide⟩
theorem tp_756 : Cond.instanceMethod yX10_fewest ∈ gtbl := g_of (List.mem_of_getElem? (i := 756) (by decide +kernel)) rfl
theorem tp_757 : Cond.selects yX10_fewest.cls yX10_fewest yX10_fewest ∈ gtbl := g_of (List.mem_of_getElem? (i := 757) (by decide +kernel)) rfl
theorem tp_1233 : Cond.methodLink RL 59 yX11_fewest ∈ gtbl := g_of (List.mem_of_getElem? (i := 1233) (by decide +kernel)) rfl
set_option maxRecDepth 100000 in
theorem tp_1236 : Cond.code M_X11_fewest.1 M_X11_fewest.2.1 M_X11_fewest.2.2.1 M_X11_fewest.2.2.2 ∈ gtbl := g_of (List.mem_of_getElem? (i := 1236) rfl) rfl
theorem cb_X11_fewest : CalB M_X11_fewest 0 := ⟨tp_1236, tp_102, ⟨by decide +kernel, by decide +kernel, by decide +kernel⟩, by decide⟩
theorem tp_1234 : Cond.instanceMethod yX11_fewest ∈ gtbl := g_of (List.mem_of_getElem? (i := 1234) (by decide +kernel)) rfl
theorem tp_1235 : Cond.selects yX11_fewest.cls yX11_fewest yX11_fewest ∈ gtbl := g_of (List.mem_of_getElem? (i := 1235) (by decide +kernel)) rfl
theorem tp_763 : Cond.methodLink RL 60 yX10_needed ∈ gtbl := g_of (List.mem_of_getElem? (i := 763) (by decide +kernel)) rfl
set_option maxRecDepth 100000 in
theorem tp_766 : Cond.code M_X10_needed.1 M_X10_needed.2.1 M_X10_needed.2.2.1 M_X10_needed.2.2.2 ∈ gtbl := g_of (List.mem_of_getElem? (i := 766) rfl) rfl
theorem cb_X10_needed : CalB M_X10_needed 0 := ⟨tp_766, tp_93, ⟨by decide +kernel, by decide +kernel, by decide +kernel⟩, by decide⟩
theorem tp_764 : Cond.instanceMethod yX10_needed ∈ gtbl := g_of (List.mem_of_getElem? (i := 764) (by decide +kernel)) rfl
theorem tp_765 : Cond.selects yX10_needed.cls yX10_needed yX10_needed ∈ gtbl := g_of (List.mem_of_getElem? (i := 765) (by decide +kernel)) rfl
theorem tp_1237 : Cond.methodLink RL 63 yX11_needed ∈ gtbl := g_of (List.mem_of_getElem? (i := 1237) (by decide +kernel)) rfl
set_option maxRecDepth 100000 in
theorem tp_1240 : Cond.code M_X11_needed.1 M_X11_needed.2.1 M_X11_needed.2.2.1 M_X11_needed.2.2.2 ∈ gtbl := g_of (List.mem_of_getElem? (i := 1240) rfl) rfl
theorem cb_X11_needed : CalB M_X11_needed 0 := ⟨tp_1240, tp_102, ⟨by decide +kernel, by decide +kernel, by decide +kernel⟩, by decide⟩
theorem tp_1238 : Cond.instanceMethod yX11_needed ∈ gtbl := g_of (List.mem_of_getElem? (i := 1238) (by decide +kernel)) rfl
theorem tp_1239 : Cond.selects yX11_needed.cls yX11_needed yX11_needed ∈ gtbl := g_of (List.mem_of_getElem? (i := 1239) (by decide +kernel)) rfl
theorem tp_767 : Cond.methodLink RL 64 yX10_term ∈ gtbl := g_of (List.mem_of_getElem? (i := 767) (by decide +kernel)) rfl
set_option maxRecDepth 100000 in
theorem tp_770 : Cond.code M_X10_term.1 M_X10_term.2.1 M_X10_term.2.2.1 M_X10_term.2.2.2 ∈ gtbl := g_of (List.mem_of_getElem? (i := 770) rfl) rfl
theorem cb_X10_term : CalB M_X10_term 1 := ⟨tp_770, tp_93, ⟨by decide +kernel, by decide +kernel, by decide +kernel⟩, by decide⟩
theorem tp_768 : Cond.instanceMethod yX10_term ∈ gtbl := g_of (List.mem_of_getElem? (i := 768) (by decide +kernel)) rfl
theorem tp_769 : Cond.selects yX10_term.cls yX10_term yX10_term ∈ gtbl := g_of (List.mem_of_getElem? (i := 769) (by decide +kernel)) rfl
theorem tp_1241 : Cond.methodLink RL 67 yX11_term ∈ gtbl := g_of (List.mem_of_getElem? (i := 1241) (by decide +kernel)) rfl
set_option maxRecDepth 100000 in
theorem tp_1244 : Cond.code M_X11_term.1 M_X11_term.2.1 M_X11_term.2.2.1 M_X11_term.2.2.2 ∈ gtbl := g_of (List.mem_of_getElem? (i := 1244) rfl) rfl
theorem cb_X11_term : CalB M_X11_term 1 := ⟨tp_1244, tp_102, ⟨by decide +kernel, by decide +kernel, by decide +kernel⟩, by decide⟩
theorem tp_1242 : Cond.instanceMethod yX11_term ∈ gtbl := g_of (List.mem_of_getElem? (i := 1242) (by decide +kernel)) rfl
theorem tp_1243 : Cond.selects yX11_term.cls yX11_term yX11_term ∈ gtbl := g_of (List.mem_of_getElem? (i := 1243) (by decide +kernel)) rfl
theorem tp_826 : Cond.methodLink RL 68 yX10_uses ∈ gtbl := g_of (List.mem_of_getElem? (i := 826) (by decide +kernel)) rfl
set_option maxRecDepth 100000 in
theorem tp_829 : Cond.code M_X10_uses.1 M_X10_uses.2.1 M_X10_uses.2.2.1 M_X10_uses.2.2.2 ∈ gtbl := g_of (List.mem_of_getElem? (i := 829) rfl) rfl
theorem cb_X10_uses : CalB M_X10_uses 2 := ⟨tp_829, tp_93, ⟨by decide +kernel, by decide +kernel, by decide +kernel⟩, by decide⟩
theorem tp_827 : Cond.instanceMethod yX10_uses ∈ gtbl := g_of (List.mem_of_getElem? (i := 827) (by decide +kernel)) rfl
theorem tp_828 : Cond.selects yX10_uses.cls yX10_uses yX10_uses ∈ gtbl := g_of (List.mem_of_getElem? (i := 828) (by decide +kernel)) rfl
theorem tp_1265 : Cond.methodLink RL 71 yX11_uses ∈ gtbl := g_of (List.mem_of_getElem? (i := 1265) (by decide +kernel)) rfl
set_option maxRecDepth 100000 in
theorem tp_1268 : Cond.code M_X11_uses.1 M_X11_uses.2.1 M_X11_uses.2.2.1 M_X11_uses.2.2.2 ∈ gtbl := g_of (List.mem_of_getElem? (i := 1268) rfl) rfl
theorem cb_X11_uses : CalB M_X11_uses 2 := ⟨tp_1268, tp_102, ⟨by decide +kernel, by decide +kernel, by decide +kernel⟩, by decide⟩
theorem tp_1266 : Cond.instanceMethod yX11_uses ∈ gtbl := g_of (List.mem_of_getElem? (i := 1266) (by decide +kernel)) rfl
theorem tp_1267 : Cond.selects yX11_uses.cls yX11_uses yX11_uses ∈ gtbl := g_of (List.mem_of_getElem? (i := 1267) (by decide +kernel)) rfl
theorem tp_835 : Cond.methodLink RL 72 yX10_put ∈ gtbl := g_of (List.mem_of_getElem? (i := 835) (by decide +kernel)) rfl
set_option maxRecDepth 100000 in
theorem tp_838 : Cond.code M_X10_put.1 M_X10_put.2.1 M_X10_put.2.2.1 M_X10_put.2.2.2 ∈ gtbl := g_of (List.mem_of_getElem? (i := 838) rfl) rfl
theorem cb_X10_put : CalB M_X10_put 1 := ⟨tp_838, tp_93, ⟨by decide +kernel, by decide +kernel, by decide +kernel⟩, by decide⟩
theorem tp_836 : Cond.instanceMethod yX10_put ∈ gtbl := g_of (List.mem_of_getElem? (i := 836) (by decide +kernel)) rfl
theorem tp_837 : Cond.selects yX10_put.cls yX10_put yX10_put ∈ gtbl := g_of (List.mem_of_getElem? (i := 837) (by decide +kernel)) rfl
theorem tp_1269 : Cond.methodLink RL 75 yX11_put ∈ gtbl := g_of (List.mem_of_getElem? (i := 1269) (by decide +kernel)) rfl
set_option maxRecDepth 100000 in
theorem tp_1272 : Cond.code M_X11_put.1 M_X11_put.2.1 M_X11_put.2.2.1 M_X11_put.2.2.2 ∈ gtbl := g_of (List.mem_of_getElem? (i := 1272) rfl) rfl
theorem cb_X11_put : CalB M_X11_put 1 := ⟨tp_1272, tp_102, ⟨by decide +kernel, by decide +kernel, by decide +kernel⟩, by decide⟩
theorem tp_1270 : Cond.instanceMethod yX11_put ∈ gtbl := g_of (List.mem_of_getElem? (i := 1270) (by decide +kernel)) rfl
theorem tp_1271 : Cond.selects yX11_put.cls yX11_put yX11_put ∈ gtbl := g_of (List.mem_of_getElem? (i := 1271) (by decide +kernel)) rfl
theorem tp_847 : Cond.methodLink RL 76 yX10_trial ∈ gtbl := g_of (List.mem_of_getElem? (i := 847) (by decide +kernel)) rfl
set_option maxRecDepth 100000 in
theorem tp_850 : Cond.code M_X10_trial.1 M_X10_trial.2.1 M_X10_trial.2.2.1 M_X10_trial.2.2.2 ∈ gtbl := g_of (List.mem_of_getElem? (i := 850) rfl) rfl
theorem cb_X10_trial : CalB M_X10_trial 1 := ⟨tp_850, tp_93, ⟨by decide +kernel, by decide +kernel, by decide +kernel⟩, by decide⟩
theorem tp_848 : Cond.instanceMethod yX10_trial ∈ gtbl := g_of (List.mem_of_getElem? (i := 848) (by decide +kernel)) rfl
theorem tp_849 : Cond.selects yX10_trial.cls yX10_trial yX10_trial ∈ gtbl := g_of (List.mem_of_getElem? (i := 849) (by decide +kernel)) rfl
theorem tp_1273 : Cond.methodLink RL 79 yX11_trial ∈ gtbl := g_of (List.mem_of_getElem? (i := 1273) (by decide +kernel)) rfl
set_option maxRecDepth 100000 in
theorem tp_1276 : Cond.code M_X11_trial.1 M_X11_trial.2.1 M_X11_trial.2.2.1 M_X11_trial.2.2.2 ∈ gtbl := g_of (List.mem_of_getElem? (i := 1276) rfl) rfl
theorem cb_X11_trial : CalB M_X11_trial 1 := ⟨tp_1276, tp_102, ⟨by decide +kernel, by decide +kernel, by decide +kernel⟩, by decide⟩
theorem tp_1274 : Cond.instanceMethod yX11_trial ∈ gtbl := g_of (List.mem_of_getElem? (i := 1274) (by decide +kernel)) rfl
theorem tp_1275 : Cond.selects yX11_trial.cls yX11_trial yX11_trial ∈ gtbl := g_of (List.mem_of_getElem? (i := 1275) (by decide +kernel)) rfl
theorem tp_855 : Cond.methodLink RL 80 yX10_check ∈ gtbl := g_of (List.mem_of_getElem? (i := 855) (by decide +kernel)) rfl
set_option maxRecDepth 100000 in
theorem tp_858 : Cond.code M_X10_check.1 M_X10_check.2.1 M_X10_check.2.2.1 M_X10_check.2.2.2 ∈ gtbl := g_of (List.mem_of_getElem? (i := 858) rfl) rfl
theorem cb_X10_check : CalB M_X10_check 1 := ⟨tp_858, tp_93, ⟨by decide +kernel, by decide +kernel, by decide +kernel⟩, by decide⟩
theorem tp_856 : Cond.instanceMethod yX10_check ∈ gtbl := g_of (List.mem_of_getElem? (i := 856) (by decide +kernel)) rfl
theorem tp_857 : Cond.selects yX10_check.cls yX10_check yX10_check ∈ gtbl := g_of (List.mem_of_getElem? (i := 857) (by decide +kernel)) rfl
theorem tp_1277 : Cond.methodLink RL 83 yX11_check ∈ gtbl := g_of (List.mem_of_getElem? (i := 1277) (by decide +kernel)) rfl
set_option maxRecDepth 100000 in
theorem tp_1280 : Cond.code M_X11_check.1 M_X11_check.2.1 M_X11_check.2.2.1 M_X11_check.2.2.2 ∈ gtbl := g_of (List.mem_of_getElem? (i := 1280) rfl) rfl
theorem cb_X11_check : CalB M_X11_check 1 := ⟨tp_1280, tp_102, ⟨by decide +kernel, by decide +kernel, by decide +kernel⟩, by decide⟩
theorem tp_1278 : Cond.instanceMethod yX11_check ∈ gtbl := g_of (List.mem_of_getElem? (i := 1278) (by decide +kernel)) rfl
theorem tp_1279 : Cond.selects yX11_check.cls yX11_check yX11_check ∈ gtbl := g_of (List.mem_of_getElem? (i := 1279) (by decide +kernel)) rfl
theorem tp_924 : Cond.methodLink RL 84 yX10_image ∈ gtbl := g_of (List.mem_of_getElem? (i := 924) (by decide +kernel)) rfl
set_option maxRecDepth 100000 in
theorem tp_927 : Cond.code M_X10_image.1 M_X10_image.2.1 M_X10_image.2.2.1 M_X10_image.2.2.2 ∈ gtbl := g_of (List.mem_of_getElem? (i := 927) rfl) rfl
theorem cb_X10_image : CalB M_X10_image 1 := ⟨tp_927, tp_93, ⟨by decide +kernel, by decide +kernel, by decide +kernel⟩, by decide⟩
theorem tp_925 : Cond.instanceMethod yX10_image ∈ gtbl := g_of (List.mem_of_getElem? (i := 925) (by decide +kernel)) rfl
theorem tp_926 : Cond.selects yX10_image.cls yX10_image yX10_image ∈ gtbl := g_of (List.mem_of_getElem? (i := 926) (by decide +kernel)) rfl
theorem tp_1301 : Cond.methodLink RL 87 yX11_image ∈ gtbl := g_of (List.mem_of_getElem? (i := 1301) (by decide +kernel)) rfl
set_option maxRecDepth 100000 in
theorem tp_1304 : Cond.code M_X11_image.1 M_X11_image.2.1 M_X11_image.2.2.1 M_X11_image.2.2.2 ∈ gtbl := g_of (List.mem_of_getElem? (i := 1304) rfl) rfl
theorem cb_X11_image : CalB M_X11_image 1 := ⟨tp_1304, tp_102, ⟨by decide +kernel, by decide +kernel, by decide +kernel⟩, by decide⟩
theorem tp_1302 : Cond.instanceMethod yX11_image ∈ gtbl := g_of (List.mem_of_getElem? (i := 1302) (by decide +kernel)) rfl
theorem tp_1303 : Cond.selects yX11_image.cls yX11_image yX11_image ∈ gtbl := g_of (List.mem_of_getElem? (i := 1303) (by decide +kernel)) rfl
theorem tp_932 : Cond.methodLink RL 88 yX10_restore ∈ gtbl := g_of (List.mem_of_getElem? (i := 932) (by decide +kernel)) rfl
set_option maxRecDepth 100000 in
theorem tp_935 : Cond.code M_X10_restore.1 M_X10_restore.2.1 M_X10_restore.2.2.1 M_X10_restore.2.2.2 ∈ gtbl := g_of (List.mem_of_getElem? (i := 935) rfl) rfl
theorem cb_X10_restore : CalB M_X10_restore 1 := ⟨tp_935, tp_93, ⟨by decide +kernel, by decide +kernel, by decide +kernel⟩, by decide⟩
theorem tp_933 : Cond.instanceMethod yX10_restore ∈ gtbl := g_of (List.mem_of_getElem? (i := 933) (by decide +kernel)) rfl
theorem tp_934 : Cond.selects yX10_restore.cls yX10_restore yX10_restore ∈ gtbl := g_of (List.mem_of_getElem? (i := 934) (by decide +kernel)) rfl
theorem tp_1305 : Cond.methodLink RL 91 yX11_restore ∈ gtbl := g_of (List.mem_of_getElem? (i := 1305) (by decide +kernel)) rfl
set_option maxRecDepth 100000 in
theorem tp_1308 : Cond.code M_X11_restore.1 M_X11_restore.2.1 M_X11_restore.2.2.1 M_X11_restore.2.2.2 ∈ gtbl := g_of (List.mem_of_getElem? (i := 1308) rfl) rfl
theorem cb_X11_restore : CalB M_X11_restore 1 := ⟨tp_1308, tp_102, ⟨by decide +kernel, by decide +kernel, by decide +kernel⟩, by decide⟩
theorem tp_1306 : Cond.instanceMethod yX11_restore ∈ gtbl := g_of (List.mem_of_getElem? (i := 1306) (by decide +kernel)) rfl
theorem tp_1307 : Cond.selects yX11_restore.cls yX11_restore yX11_restore ∈ gtbl := g_of (List.mem_of_getElem? (i := 1307) (by decide +kernel)) rfl
theorem tp_936 : Cond.methodLink RL 92 yX10_count ∈ gtbl := g_of (List.mem_of_getElem? (i := 936) (by decide +kernel)) rfl
set_option maxRecDepth 100000 in
theorem tp_939 : Cond.code M_X10_count.1 M_X10_count.2.1 M_X10_count.2.2.1 M_X10_count.2.2.2 ∈ gtbl := g_of (List.mem_of_getElem? (i := 939) rfl) rfl
theorem cb_X10_count : CalB M_X10_count 1 := ⟨tp_939, tp_93, ⟨by decide +kernel, by decide +kernel, by decide +kernel⟩, by decide⟩
theorem tp_937 : Cond.instanceMethod yX10_count ∈ gtbl := g_of (List.mem_of_getElem? (i := 937) (by decide +kernel)) rfl
theorem tp_938 : Cond.selects yX10_count.cls yX10_count yX10_count ∈ gtbl := g_of (List.mem_of_getElem? (i := 938) (by decide +kernel)) rfl
theorem tp_1309 : Cond.methodLink RL 95 yX11_count ∈ gtbl := g_of (List.mem_of_getElem? (i := 1309) (by decide +kernel)) rfl
set_option maxRecDepth 100000 in
theorem tp_1312 : Cond.code M_X11_count.1 M_X11_count.2.1 M_X11_count.2.2.1 M_X11_count.2.2.2 ∈ gtbl := g_of (List.mem_of_getElem? (i := 1312) rfl) rfl
theorem cb_X11_count : CalB M_X11_count 1 := ⟨tp_1312, tp_102, ⟨by decide +kernel, by decide +kernel, by decide +kernel⟩, by decide⟩
theorem tp_1310 : Cond.instanceMethod yX11_count ∈ gtbl := g_of (List.mem_of_getElem? (i := 1310) (by decide +kernel)) rfl
theorem tp_1311 : Cond.selects yX11_count.cls yX11_count yX11_count ∈ gtbl := g_of (List.mem_of_getElem? (i := 1311) (by decide +kernel)) rfl
theorem tp_107 : Cond.classLink RL 7 RX10 ∈ gtbl := g_of (List.mem_of_getElem? (i := 107) (by decide +kernel)) rfl
theorem tp_108 : Cond.instantiable RX10 12 ∈ gtbl := g_of (List.mem_of_getElem? (i := 108) (by decide +kernel)) rfl
theorem tp_109 : Cond.methodLink RL 9 yX10_init ∈ gtbl := g_of (List.mem_of_getElem? (i := 109) (by decide +kernel)) rfl
set_option maxRecDepth 100000 in
theorem tp_111 : Cond.code M_X10_init.1 M_X10_init.2.1 M_X10_init.2.2.1 M_X10_init.2.2.2 ∈ gtbl := g_of (List.mem_of_getElem? (i := 111) rfl) rfl
theorem cb_X10_init : CalB M_X10_init 0 := ⟨tp_111, tp_93, ⟨by decide +kernel, by decide +kernel, by decide +kernel⟩, by decide⟩
theorem tp_110 : Cond.instanceMethod yX10_init ∈ gtbl := g_of (List.mem_of_getElem? (i := 110) (by decide +kernel)) rfl
theorem tp_946 : Cond.classLink RL 10 RX11 ∈ gtbl := g_of (List.mem_of_getElem? (i := 946) (by decide +kernel)) rfl
theorem tp_947 : Cond.instantiable RX11 36 ∈ gtbl := g_of (List.mem_of_getElem? (i := 947) (by decide +kernel)) rfl
theorem tp_948 : Cond.methodLink RL 12 yX11_init ∈ gtbl := g_of (List.mem_of_getElem? (i := 948) (by decide +kernel)) rfl
set_option maxRecDepth 100000 in
theorem tp_950 : Cond.code M_X11_init.1 M_X11_init.2.1 M_X11_init.2.2.1 M_X11_init.2.2.2 ∈ gtbl := g_of (List.mem_of_getElem? (i := 950) rfl) rfl
theorem cb_X11_init : CalB M_X11_init 0 := ⟨tp_950, tp_102, ⟨by decide +kernel, by decide +kernel, by decide +kernel⟩, by decide⟩
theorem tp_949 : Cond.instanceMethod yX11_init ∈ gtbl := g_of (List.mem_of_getElem? (i := 949) (by decide +kernel)) rfl
theorem inst_ok : ∀ k, k < 12 → Cond.instantiable (kR k) (kN k) ∈ gtbl := fun k hk => by
  rcases (show k = 0 ∨ k = 1 ∨ k = 2 ∨ k = 3 ∨ k = 4 ∨ k = 5 ∨ k = 6 ∨ k = 7 ∨ k = 8 ∨ k = 9 ∨ k = 10 ∨ k = 11 by omega) with rfl | rfl | rfl | rfl | rfl | rfl | rfl | rfl | rfl | rfl | rfl | rfl
  · exact tp_218
  · exact tp_450
  · exact tp_256
  · exact tp_143
  · exact tp_175
  · exact tp_361
  · exact tp_130
  · exact tp_116
  · exact tp_243
  · exact tp_198
  · exact tp_108
  · exact tp_947
theorem ao1 : Cond.arrayOver (.object RX1) ∈ lw_tbl := List.mem_of_getElem? (i := 136) (by decide +kernel)
theorem ao6 : Cond.arrayOver (.object RX6) ∈ lw_tbl := List.mem_of_getElem? (i := 141) (by decide +kernel)
theorem nest_in : ∀ w ∈ nests, w ∈ lw_tbl := fun w hw => by
  simp only [nests, List.mem_cons, List.not_mem_nil, or_false] at hw
  rcases hw with rfl | rfl | rfl | rfl | rfl | rfl | rfl | rfl
  · exact List.mem_of_getElem? (i := 117) (by decide +kernel)
  · exact List.mem_of_getElem? (i := 131) (by decide +kernel)
  · exact List.mem_of_getElem? (i := 144) (by decide +kernel)
  · exact List.mem_of_getElem? (i := 244) (by decide +kernel)
  · exact List.mem_of_getElem? (i := 727) (by decide +kernel)
  · exact List.mem_of_getElem? (i := 737) (by decide +kernel)
  · exact List.mem_of_getElem? (i := 788) (by decide +kernel)
  · exact List.mem_of_getElem? (i := 794) (by decide +kernel)
