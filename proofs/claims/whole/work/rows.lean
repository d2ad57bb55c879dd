section
/-- a private method of a class that the tables say can be made, by its rows of tables_1 -/
def lw_okq (q : MethodName × Nat) : Prop := (q.1.cls ≠ "java/lang/invoke/MethodHandle" ∧ q.1.cls ≠ "java/lang/invoke/VarHandle") ∧ Cond.instantiable q.1.cls q.2 ∈ tables_1 ∧ Cond.privateMethod q.1 ∈ tables_1 ∧ Cond.instanceMethod q.1 ∈ tables_1
theorem lw_p0 : lw_okq (⟨"OnceProver", "takeOffer", "(II)I"⟩, 12) := ⟨⟨by decide +kernel, by decide +kernel⟩, List.mem_of_getElem? (i := 16) (by decide +kernel), List.mem_of_getElem? (i := 247) (by decide +kernel), List.mem_of_getElem? (i := 248) (by decide +kernel)⟩
theorem lw_p1 : lw_okq (⟨"OnceProver", "readText", "(Z)LOnceProver$Item;"⟩, 12) := ⟨⟨by decide +kernel, by decide +kernel⟩, List.mem_of_getElem? (i := 16) (by decide +kernel), List.mem_of_getElem? (i := 251) (by decide +kernel), List.mem_of_getElem? (i := 252) (by decide +kernel)⟩
theorem lw_p2 : lw_okq (⟨"OnceProver$Reader", "readOffer", "(II)V"⟩, 4) := ⟨⟨by decide +kernel, by decide +kernel⟩, List.mem_of_getElem? (i := 269) (by decide +kernel), List.mem_of_getElem? (i := 292) (by decide +kernel), List.mem_of_getElem? (i := 293) (by decide +kernel)⟩
theorem lw_p3 : lw_okq (⟨"OnceProver$Reader", "readFace", "(III)V"⟩, 4) := ⟨⟨by decide +kernel, by decide +kernel⟩, List.mem_of_getElem? (i := 269) (by decide +kernel), List.mem_of_getElem? (i := 296) (by decide +kernel), List.mem_of_getElem? (i := 297) (by decide +kernel)⟩
theorem lw_p4 : lw_okq (⟨"OnceProver$Reader", "next", "()C"⟩, 4) := ⟨⟨by decide +kernel, by decide +kernel⟩, List.mem_of_getElem? (i := 269) (by decide +kernel), List.mem_of_getElem? (i := 300) (by decide +kernel), List.mem_of_getElem? (i := 301) (by decide +kernel)⟩
theorem lw_p5 : lw_okq (⟨"OnceProver$Reader", "refuse", "()I"⟩, 4) := ⟨⟨by decide +kernel, by decide +kernel⟩, List.mem_of_getElem? (i := 269) (by decide +kernel), List.mem_of_getElem? (i := 307) (by decide +kernel), List.mem_of_getElem? (i := 308) (by decide +kernel)⟩
theorem lw_p6 : lw_okq (⟨"OnceProver$Reader", "readGoal", "(I)I"⟩, 4) := ⟨⟨by decide +kernel, by decide +kernel⟩, List.mem_of_getElem? (i := 269) (by decide +kernel), List.mem_of_getElem? (i := 311) (by decide +kernel), List.mem_of_getElem? (i := 312) (by decide +kernel)⟩
theorem lw_p7 : lw_okq (⟨"OnceProver$Reader", "readPair", "(I)I"⟩, 4) := ⟨⟨by decide +kernel, by decide +kernel⟩, List.mem_of_getElem? (i := 269) (by decide +kernel), List.mem_of_getElem? (i := 319) (by decide +kernel), List.mem_of_getElem? (i := 320) (by decide +kernel)⟩
theorem lw_p8 : lw_okq (⟨"OnceProver$Reader", "expect", "(C)V"⟩, 4) := ⟨⟨by decide +kernel, by decide +kernel⟩, List.mem_of_getElem? (i := 269) (by decide +kernel), List.mem_of_getElem? (i := 323) (by decide +kernel), List.mem_of_getElem? (i := 324) (by decide +kernel)⟩
theorem lw_p9 : lw_okq (⟨"OnceProver$Reader", "readLoan", "(I)I"⟩, 4) := ⟨⟨by decide +kernel, by decide +kernel⟩, List.mem_of_getElem? (i := 269) (by decide +kernel), List.mem_of_getElem? (i := 327) (by decide +kernel), List.mem_of_getElem? (i := 328) (by decide +kernel)⟩
theorem lw_p10 : lw_okq (⟨"OnceProver$Reader", "refuseMore", "()V"⟩, 4) := ⟨⟨by decide +kernel, by decide +kernel⟩, List.mem_of_getElem? (i := 269) (by decide +kernel), List.mem_of_getElem? (i := 342) (by decide +kernel), List.mem_of_getElem? (i := 343) (by decide +kernel)⟩
theorem lw_p11 : lw_okq (⟨"OnceProver", "settle", "(ILOnceProver$Item;)V"⟩, 12) := ⟨⟨by decide +kernel, by decide +kernel⟩, List.mem_of_getElem? (i := 16) (by decide +kernel), List.mem_of_getElem? (i := 410) (by decide +kernel), List.mem_of_getElem? (i := 411) (by decide +kernel)⟩
theorem lw_p12 : lw_okq (⟨"OnceProver", "dropNumbered", "(III)I"⟩, 12) := ⟨⟨by decide +kernel, by decide +kernel⟩, List.mem_of_getElem? (i := 16) (by decide +kernel), List.mem_of_getElem? (i := 435) (by decide +kernel), List.mem_of_getElem? (i := 436) (by decide +kernel)⟩
theorem lw_p13 : lw_okq (⟨"OnceProver", "dropGoal", "()I"⟩, 12) := ⟨⟨by decide +kernel, by decide +kernel⟩, List.mem_of_getElem? (i := 16) (by decide +kernel), List.mem_of_getElem? (i := 450) (by decide +kernel), List.mem_of_getElem? (i := 451) (by decide +kernel)⟩
theorem lw_p14 : lw_okq (⟨"OnceProver", "hasGoal", "()Z"⟩, 12) := ⟨⟨by decide +kernel, by decide +kernel⟩, List.mem_of_getElem? (i := 16) (by decide +kernel), List.mem_of_getElem? (i := 454) (by decide +kernel), List.mem_of_getElem? (i := 455) (by decide +kernel)⟩
theorem lw_p15 : lw_okq (⟨"OnceProver", "isSetOfResources", "(I)Z"⟩, 12) := ⟨⟨by decide +kernel, by decide +kernel⟩, List.mem_of_getElem? (i := 16) (by decide +kernel), List.mem_of_getElem? (i := 462) (by decide +kernel), List.mem_of_getElem? (i := 463) (by decide +kernel)⟩
def lw_privs_1 : List (MethodName × Nat) := [(⟨"OnceProver", "takeOffer", "(II)I"⟩, 12), (⟨"OnceProver", "readText", "(Z)LOnceProver$Item;"⟩, 12), (⟨"OnceProver$Reader", "readOffer", "(II)V"⟩, 4), (⟨"OnceProver$Reader", "readFace", "(III)V"⟩, 4), (⟨"OnceProver$Reader", "next", "()C"⟩, 4), (⟨"OnceProver$Reader", "refuse", "()I"⟩, 4), (⟨"OnceProver$Reader", "readGoal", "(I)I"⟩, 4), (⟨"OnceProver$Reader", "readPair", "(I)I"⟩, 4), (⟨"OnceProver$Reader", "expect", "(C)V"⟩, 4), (⟨"OnceProver$Reader", "readLoan", "(I)I"⟩, 4), (⟨"OnceProver$Reader", "refuseMore", "()V"⟩, 4), (⟨"OnceProver", "settle", "(ILOnceProver$Item;)V"⟩, 12), (⟨"OnceProver", "dropNumbered", "(III)I"⟩, 12), (⟨"OnceProver", "dropGoal", "()I"⟩, 12), (⟨"OnceProver", "hasGoal", "()Z"⟩, 12), (⟨"OnceProver", "isSetOfResources", "(I)Z"⟩, 12)]
theorem lw_r1 : ∀ q ∈ lw_privs_1, lw_okq q := List.forall_mem_cons.mpr ⟨lw_p0, List.forall_mem_cons.mpr ⟨lw_p1, List.forall_mem_cons.mpr ⟨lw_p2, List.forall_mem_cons.mpr ⟨lw_p3, List.forall_mem_cons.mpr ⟨lw_p4, List.forall_mem_cons.mpr ⟨lw_p5, List.forall_mem_cons.mpr ⟨lw_p6, List.forall_mem_cons.mpr ⟨lw_p7, List.forall_mem_cons.mpr ⟨lw_p8, List.forall_mem_cons.mpr ⟨lw_p9, List.forall_mem_cons.mpr ⟨lw_p10, List.forall_mem_cons.mpr ⟨lw_p11, List.forall_mem_cons.mpr ⟨lw_p12, List.forall_mem_cons.mpr ⟨lw_p13, List.forall_mem_cons.mpr ⟨lw_p14, List.forall_mem_cons.mpr ⟨lw_p15, fun _ h => absurd h List.not_mem_nil⟩⟩⟩⟩⟩⟩⟩⟩⟩⟩⟩⟩⟩⟩⟩⟩
theorem lw_p16 : lw_okq (⟨"OnceProver", "allResources", "()I"⟩, 12) := ⟨⟨by decide +kernel, by decide +kernel⟩, List.mem_of_getElem? (i := 16) (by decide +kernel), List.mem_of_getElem? (i := 466) (by decide +kernel), List.mem_of_getElem? (i := 467) (by decide +kernel)⟩
theorem lw_p17 : lw_okq (⟨"OnceProver", "prepare", "()V"⟩, 12) := ⟨⟨by decide +kernel, by decide +kernel⟩, List.mem_of_getElem? (i := 16) (by decide +kernel), List.mem_of_getElem? (i := 470) (by decide +kernel), List.mem_of_getElem? (i := 471) (by decide +kernel)⟩
theorem lw_p18 : lw_okq (⟨"OnceProver$Reach", "findAllSets", "()V"⟩, 5) := ⟨⟨by decide +kernel, by decide +kernel⟩, List.mem_of_getElem? (i := 83) (by decide +kernel), List.mem_of_getElem? (i := 492) (by decide +kernel), List.mem_of_getElem? (i := 493) (by decide +kernel)⟩
theorem lw_p19 : lw_okq (⟨"OnceProver$Reach", "fillRow", "(II)V"⟩, 5) := ⟨⟨by decide +kernel, by decide +kernel⟩, List.mem_of_getElem? (i := 83) (by decide +kernel), List.mem_of_getElem? (i := 501) (by decide +kernel), List.mem_of_getElem? (i := 502) (by decide +kernel)⟩
theorem lw_p20 : lw_okq (⟨"OnceProver$Plan", "isNode", "(I)Z"⟩, 8) := ⟨⟨by decide +kernel, by decide +kernel⟩, List.mem_of_getElem? (i := 51) (by decide +kernel), List.mem_of_getElem? (i := 512) (by decide +kernel), List.mem_of_getElem? (i := 513) (by decide +kernel)⟩
theorem lw_p21 : lw_okq (⟨"OnceProver$Reach", "clearRow", "(I)V"⟩, 5) := ⟨⟨by decide +kernel, by decide +kernel⟩, List.mem_of_getElem? (i := 83) (by decide +kernel), List.mem_of_getElem? (i := 520) (by decide +kernel), List.mem_of_getElem? (i := 521) (by decide +kernel)⟩
theorem lw_p22 : lw_okq (⟨"OnceProver$Reach", "add", "(II)V"⟩, 5) := ⟨⟨by decide +kernel, by decide +kernel⟩, List.mem_of_getElem? (i := 83) (by decide +kernel), List.mem_of_getElem? (i := 528) (by decide +kernel), List.mem_of_getElem? (i := 529) (by decide +kernel)⟩
theorem lw_p23 : lw_okq (⟨"OnceProver$Reach", "orWord", "(IIJ)V"⟩, 5) := ⟨⟨by decide +kernel, by decide +kernel⟩, List.mem_of_getElem? (i := 83) (by decide +kernel), List.mem_of_getElem? (i := 532) (by decide +kernel), List.mem_of_getElem? (i := 533) (by decide +kernel)⟩
theorem lw_p24 : lw_okq (⟨"OnceProver$Reach", "addAllSets", "(I)V"⟩, 5) := ⟨⟨by decide +kernel, by decide +kernel⟩, List.mem_of_getElem? (i := 83) (by decide +kernel), List.mem_of_getElem? (i := 536) (by decide +kernel), List.mem_of_getElem? (i := 537) (by decide +kernel)⟩
theorem lw_p25 : lw_okq (⟨"OnceProver$Reach", "has", "(II)Z"⟩, 5) := ⟨⟨by decide +kernel, by decide +kernel⟩, List.mem_of_getElem? (i := 83) (by decide +kernel), List.mem_of_getElem? (i := 540) (by decide +kernel), List.mem_of_getElem? (i := 541) (by decide +kernel)⟩
theorem lw_p26 : lw_okq (⟨"OnceProver$Reach", "wordAt", "(II)J"⟩, 5) := ⟨⟨by decide +kernel, by decide +kernel⟩, List.mem_of_getElem? (i := 83) (by decide +kernel), List.mem_of_getElem? (i := 544) (by decide +kernel), List.mem_of_getElem? (i := 545) (by decide +kernel)⟩
theorem lw_p27 : lw_okq (⟨"OnceProver$Reach", "addUnions", "(III)V"⟩, 5) := ⟨⟨by decide +kernel, by decide +kernel⟩, List.mem_of_getElem? (i := 83) (by decide +kernel), List.mem_of_getElem? (i := 548) (by decide +kernel), List.mem_of_getElem? (i := 549) (by decide +kernel)⟩
theorem lw_p28 : lw_okq (⟨"OnceProver$Reach", "addMoved", "(III)V"⟩, 5) := ⟨⟨by decide +kernel, by decide +kernel⟩, List.mem_of_getElem? (i := 83) (by decide +kernel), List.mem_of_getElem? (i := 552) (by decide +kernel), List.mem_of_getElem? (i := 553) (by decide +kernel)⟩
theorem lw_p29 : lw_okq (⟨"OnceProver$Reach", "addShared", "(III)V"⟩, 5) := ⟨⟨by decide +kernel, by decide +kernel⟩, List.mem_of_getElem? (i := 83) (by decide +kernel), List.mem_of_getElem? (i := 556) (by decide +kernel), List.mem_of_getElem? (i := 557) (by decide +kernel)⟩
theorem lw_p30 : lw_okq (⟨"OnceProver$Reach", "addReduced", "(III)V"⟩, 5) := ⟨⟨by decide +kernel, by decide +kernel⟩, List.mem_of_getElem? (i := 83) (by decide +kernel), List.mem_of_getElem? (i := 565) (by decide +kernel), List.mem_of_getElem? (i := 566) (by decide +kernel)⟩
theorem lw_p31 : lw_okq (⟨"OnceProver$Reach", "addAtom", "(ICI)V"⟩, 5) := ⟨⟨by decide +kernel, by decide +kernel⟩, List.mem_of_getElem? (i := 83) (by decide +kernel), List.mem_of_getElem? (i := 569) (by decide +kernel), List.mem_of_getElem? (i := 570) (by decide +kernel)⟩
def lw_privs_2 : List (MethodName × Nat) := [(⟨"OnceProver", "allResources", "()I"⟩, 12), (⟨"OnceProver", "prepare", "()V"⟩, 12), (⟨"OnceProver$Reach", "findAllSets", "()V"⟩, 5), (⟨"OnceProver$Reach", "fillRow", "(II)V"⟩, 5), (⟨"OnceProver$Plan", "isNode", "(I)Z"⟩, 8), (⟨"OnceProver$Reach", "clearRow", "(I)V"⟩, 5), (⟨"OnceProver$Reach", "add", "(II)V"⟩, 5), (⟨"OnceProver$Reach", "orWord", "(IIJ)V"⟩, 5), (⟨"OnceProver$Reach", "addAllSets", "(I)V"⟩, 5), (⟨"OnceProver$Reach", "has", "(II)Z"⟩, 5), (⟨"OnceProver$Reach", "wordAt", "(II)J"⟩, 5), (⟨"OnceProver$Reach", "addUnions", "(III)V"⟩, 5), (⟨"OnceProver$Reach", "addMoved", "(III)V"⟩, 5), (⟨"OnceProver$Reach", "addShared", "(III)V"⟩, 5), (⟨"OnceProver$Reach", "addReduced", "(III)V"⟩, 5), (⟨"OnceProver$Reach", "addAtom", "(ICI)V"⟩, 5)]
theorem lw_r2 : ∀ q ∈ lw_privs_2, lw_okq q := List.forall_mem_cons.mpr ⟨lw_p16, List.forall_mem_cons.mpr ⟨lw_p17, List.forall_mem_cons.mpr ⟨lw_p18, List.forall_mem_cons.mpr ⟨lw_p19, List.forall_mem_cons.mpr ⟨lw_p20, List.forall_mem_cons.mpr ⟨lw_p21, List.forall_mem_cons.mpr ⟨lw_p22, List.forall_mem_cons.mpr ⟨lw_p23, List.forall_mem_cons.mpr ⟨lw_p24, List.forall_mem_cons.mpr ⟨lw_p25, List.forall_mem_cons.mpr ⟨lw_p26, List.forall_mem_cons.mpr ⟨lw_p27, List.forall_mem_cons.mpr ⟨lw_p28, List.forall_mem_cons.mpr ⟨lw_p29, List.forall_mem_cons.mpr ⟨lw_p30, List.forall_mem_cons.mpr ⟨lw_p31, fun _ h => absurd h List.not_mem_nil⟩⟩⟩⟩⟩⟩⟩⟩⟩⟩⟩⟩⟩⟩⟩⟩
theorem lw_p32 : lw_okq (⟨"OnceProver$Reach", "hasGrown", "(II)Z"⟩, 5) := ⟨⟨by decide +kernel, by decide +kernel⟩, List.mem_of_getElem? (i := 83) (by decide +kernel), List.mem_of_getElem? (i := 581) (by decide +kernel), List.mem_of_getElem? (i := 582) (by decide +kernel)⟩
theorem lw_p33 : lw_okq (⟨"OnceProver$Ways", "tally", "(III)J"⟩, 4) := ⟨⟨by decide +kernel, by decide +kernel⟩, List.mem_of_getElem? (i := 106) (by decide +kernel), List.mem_of_getElem? (i := 620) (by decide +kernel), List.mem_of_getElem? (i := 621) (by decide +kernel)⟩
theorem lw_p34 : lw_okq (⟨"OnceProver$Ways", "tallyByKind", "(III)J"⟩, 4) := ⟨⟨by decide +kernel, by decide +kernel⟩, List.mem_of_getElem? (i := 106) (by decide +kernel), List.mem_of_getElem? (i := 625) (by decide +kernel), List.mem_of_getElem? (i := 626) (by decide +kernel)⟩
theorem lw_p35 : lw_okq (⟨"OnceProver$Ways", "tallySplits", "(IIII)J"⟩, 4) := ⟨⟨by decide +kernel, by decide +kernel⟩, List.mem_of_getElem? (i := 106) (by decide +kernel), List.mem_of_getElem? (i := 632) (by decide +kernel), List.mem_of_getElem? (i := 633) (by decide +kernel)⟩
theorem lw_p36 : lw_okq (⟨"OnceProver$Ways", "tallyAtom", "(CII)J"⟩, 4) := ⟨⟨by decide +kernel, by decide +kernel⟩, List.mem_of_getElem? (i := 106) (by decide +kernel), List.mem_of_getElem? (i := 650) (by decide +kernel), List.mem_of_getElem? (i := 651) (by decide +kernel)⟩
theorem lw_p37 : lw_okq (⟨"OnceProver$Ways", "tallyFace", "(III)J"⟩, 4) := ⟨⟨by decide +kernel, by decide +kernel⟩, List.mem_of_getElem? (i := 106) (by decide +kernel), List.mem_of_getElem? (i := 659) (by decide +kernel), List.mem_of_getElem? (i := 660) (by decide +kernel)⟩
theorem lw_p38 : lw_okq (⟨"OnceProver", "isProvable", "(I)Z"⟩, 12) := ⟨⟨by decide +kernel, by decide +kernel⟩, List.mem_of_getElem? (i := 16) (by decide +kernel), List.mem_of_getElem? (i := 668) (by decide +kernel), List.mem_of_getElem? (i := 669) (by decide +kernel)⟩
theorem lw_p39 : lw_okq (⟨"OnceProver$FirstProof", "write", "(III)V"⟩, 6) := ⟨⟨by decide +kernel, by decide +kernel⟩, List.mem_of_getElem? (i := 126) (by decide +kernel), List.mem_of_getElem? (i := 686) (by decide +kernel), List.mem_of_getElem? (i := 687) (by decide +kernel)⟩
theorem lw_p40 : lw_okq (⟨"OnceProver$FirstProof", "writeSplit", "(IIII)V"⟩, 6) := ⟨⟨by decide +kernel, by decide +kernel⟩, List.mem_of_getElem? (i := 126) (by decide +kernel), List.mem_of_getElem? (i := 693) (by decide +kernel), List.mem_of_getElem? (i := 694) (by decide +kernel)⟩
theorem lw_p41 : lw_okq (⟨"OnceProver$FirstProof", "append", "(I)V"⟩, 6) := ⟨⟨by decide +kernel, by decide +kernel⟩, List.mem_of_getElem? (i := 126) (by decide +kernel), List.mem_of_getElem? (i := 699) (by decide +kernel), List.mem_of_getElem? (i := 700) (by decide +kernel)⟩
theorem lw_p42 : lw_okq (⟨"OnceProver$FirstProof", "writeChoice", "(IIII)V"⟩, 6) := ⟨⟨by decide +kernel, by decide +kernel⟩, List.mem_of_getElem? (i := 126) (by decide +kernel), List.mem_of_getElem? (i := 704) (by decide +kernel), List.mem_of_getElem? (i := 705) (by decide +kernel)⟩
theorem lw_p43 : lw_okq (⟨"OnceProver$FirstProof", "writeAtom", "(CII)V"⟩, 6) := ⟨⟨by decide +kernel, by decide +kernel⟩, List.mem_of_getElem? (i := 126) (by decide +kernel), List.mem_of_getElem? (i := 709) (by decide +kernel), List.mem_of_getElem? (i := 710) (by decide +kernel)⟩
theorem lw_p44 : lw_okq (⟨"OnceProver$FirstProof", "serves", "(III)Z"⟩, 6) := ⟨⟨by decide +kernel, by decide +kernel⟩, List.mem_of_getElem? (i := 126) (by decide +kernel), List.mem_of_getElem? (i := 716) (by decide +kernel), List.mem_of_getElem? (i := 717) (by decide +kernel)⟩
theorem lw_p45 : lw_okq (⟨"OnceProver$Judge", "visit", "(III)V"⟩, 5) := ⟨⟨by decide +kernel, by decide +kernel⟩, List.mem_of_getElem? (i := 164) (by decide +kernel), List.mem_of_getElem? (i := 773) (by decide +kernel), List.mem_of_getElem? (i := 774) (by decide +kernel)⟩
theorem lw_p46 : lw_okq (⟨"OnceProver$Judge", "demandEmpty", "(I)V"⟩, 5) := ⟨⟨by decide +kernel, by decide +kernel⟩, List.mem_of_getElem? (i := 164) (by decide +kernel), List.mem_of_getElem? (i := 779) (by decide +kernel), List.mem_of_getElem? (i := 780) (by decide +kernel)⟩
theorem lw_p47 : lw_okq (⟨"OnceProver$Judge", "visitSplit", "(III)V"⟩, 5) := ⟨⟨by decide +kernel, by decide +kernel⟩, List.mem_of_getElem? (i := 164) (by decide +kernel), List.mem_of_getElem? (i := 784) (by decide +kernel), List.mem_of_getElem? (i := 785) (by decide +kernel)⟩
def lw_privs_3 : List (MethodName × Nat) := [(⟨"OnceProver$Reach", "hasGrown", "(II)Z"⟩, 5), (⟨"OnceProver$Ways", "tally", "(III)J"⟩, 4), (⟨"OnceProver$Ways", "tallyByKind", "(III)J"⟩, 4), (⟨"OnceProver$Ways", "tallySplits", "(IIII)J"⟩, 4), (⟨"OnceProver$Ways", "tallyAtom", "(CII)J"⟩, 4), (⟨"OnceProver$Ways", "tallyFace", "(III)J"⟩, 4), (⟨"OnceProver", "isProvable", "(I)Z"⟩, 12), (⟨"OnceProver$FirstProof", "write", "(III)V"⟩, 6), (⟨"OnceProver$FirstProof", "writeSplit", "(IIII)V"⟩, 6), (⟨"OnceProver$FirstProof", "append", "(I)V"⟩, 6), (⟨"OnceProver$FirstProof", "writeChoice", "(IIII)V"⟩, 6), (⟨"OnceProver$FirstProof", "writeAtom", "(CII)V"⟩, 6), (⟨"OnceProver$FirstProof", "serves", "(III)Z"⟩, 6), (⟨"OnceProver$Judge", "visit", "(III)V"⟩, 5), (⟨"OnceProver$Judge", "demandEmpty", "(I)V"⟩, 5), (⟨"OnceProver$Judge", "visitSplit", "(III)V"⟩, 5)]
theorem lw_r3 : ∀ q ∈ lw_privs_3, lw_okq q := List.forall_mem_cons.mpr ⟨lw_p32, List.forall_mem_cons.mpr ⟨lw_p33, List.forall_mem_cons.mpr ⟨lw_p34, List.forall_mem_cons.mpr ⟨lw_p35, List.forall_mem_cons.mpr ⟨lw_p36, List.forall_mem_cons.mpr ⟨lw_p37, List.forall_mem_cons.mpr ⟨lw_p38, List.forall_mem_cons.mpr ⟨lw_p39, List.forall_mem_cons.mpr ⟨lw_p40, List.forall_mem_cons.mpr ⟨lw_p41, List.forall_mem_cons.mpr ⟨lw_p42, List.forall_mem_cons.mpr ⟨lw_p43, List.forall_mem_cons.mpr ⟨lw_p44, List.forall_mem_cons.mpr ⟨lw_p45, List.forall_mem_cons.mpr ⟨lw_p46, List.forall_mem_cons.mpr ⟨lw_p47, fun _ h => absurd h List.not_mem_nil⟩⟩⟩⟩⟩⟩⟩⟩⟩⟩⟩⟩⟩⟩⟩⟩
theorem lw_p48 : lw_okq (⟨"OnceProver$Judge", "lacksNumber", "()Z"⟩, 5) := ⟨⟨by decide +kernel, by decide +kernel⟩, List.mem_of_getElem? (i := 164) (by decide +kernel), List.mem_of_getElem? (i := 792) (by decide +kernel), List.mem_of_getElem? (i := 793) (by decide +kernel)⟩
theorem lw_p49 : lw_okq (⟨"OnceProver$Judge", "refuseUnless", "(Z)Z"⟩, 5) := ⟨⟨by decide +kernel, by decide +kernel⟩, List.mem_of_getElem? (i := 164) (by decide +kernel), List.mem_of_getElem? (i := 797) (by decide +kernel), List.mem_of_getElem? (i := 798) (by decide +kernel)⟩
theorem lw_p50 : lw_okq (⟨"OnceProver$Judge", "visitChoice", "(III)V"⟩, 5) := ⟨⟨by decide +kernel, by decide +kernel⟩, List.mem_of_getElem? (i := 164) (by decide +kernel), List.mem_of_getElem? (i := 802) (by decide +kernel), List.mem_of_getElem? (i := 803) (by decide +kernel)⟩
theorem lw_p51 : lw_okq (⟨"OnceProver$Judge", "visitLoan", "(III)V"⟩, 5) := ⟨⟨by decide +kernel, by decide +kernel⟩, List.mem_of_getElem? (i := 164) (by decide +kernel), List.mem_of_getElem? (i := 806) (by decide +kernel), List.mem_of_getElem? (i := 807) (by decide +kernel)⟩
theorem lw_p52 : lw_okq (⟨"OnceProver$Judge", "visitAtom", "(CII)V"⟩, 5) := ⟨⟨by decide +kernel, by decide +kernel⟩, List.mem_of_getElem? (i := 164) (by decide +kernel), List.mem_of_getElem? (i := 811) (by decide +kernel), List.mem_of_getElem? (i := 812) (by decide +kernel)⟩
theorem lw_p53 : lw_okq (⟨"OnceProver", "savedPlaces", "()I"⟩, 12) := ⟨⟨by decide +kernel, by decide +kernel⟩, List.mem_of_getElem? (i := 16) (by decide +kernel), List.mem_of_getElem? (i := 851) (by decide +kernel), List.mem_of_getElem? (i := 852) (by decide +kernel)⟩
theorem lw_p54 : lw_okq (⟨"OnceProverModel", "take", "(IIZ)I"⟩, 36) := ⟨⟨by decide +kernel, by decide +kernel⟩, List.mem_of_getElem? (i := 855) (by decide +kernel), List.mem_of_getElem? (i := 986) (by decide +kernel), List.mem_of_getElem? (i := 987) (by decide +kernel)⟩
theorem lw_p55 : lw_okq (⟨"OnceProverModel", "read", "(II)I"⟩, 36) := ⟨⟨by decide +kernel, by decide +kernel⟩, List.mem_of_getElem? (i := 855) (by decide +kernel), List.mem_of_getElem? (i := 990) (by decide +kernel), List.mem_of_getElem? (i := 991) (by decide +kernel)⟩
theorem lw_p56 : lw_okq (⟨"OnceProverModel", "push", "(III)V"⟩, 36) := ⟨⟨by decide +kernel, by decide +kernel⟩, List.mem_of_getElem? (i := 855) (by decide +kernel), List.mem_of_getElem? (i := 994) (by decide +kernel), List.mem_of_getElem? (i := 995) (by decide +kernel)⟩
theorem lw_p57 : lw_okq (⟨"OnceProverModel", "reads", "(I)Z"⟩, 36) := ⟨⟨by decide +kernel, by decide +kernel⟩, List.mem_of_getElem? (i := 855) (by decide +kernel), List.mem_of_getElem? (i := 998) (by decide +kernel), List.mem_of_getElem? (i := 999) (by decide +kernel)⟩
theorem lw_p58 : lw_okq (⟨"OnceProverModel", "readGoal", "(I)Z"⟩, 36) := ⟨⟨by decide +kernel, by decide +kernel⟩, List.mem_of_getElem? (i := 855) (by decide +kernel), List.mem_of_getElem? (i := 1002) (by decide +kernel), List.mem_of_getElem? (i := 1003) (by decide +kernel)⟩
theorem lw_p59 : lw_okq (⟨"OnceProverModel", "begin", "(II)I"⟩, 36) := ⟨⟨by decide +kernel, by decide +kernel⟩, List.mem_of_getElem? (i := 855) (by decide +kernel), List.mem_of_getElem? (i := 1009) (by decide +kernel), List.mem_of_getElem? (i := 1010) (by decide +kernel)⟩
theorem lw_p60 : lw_okq (⟨"OnceProverModel", "complete", "()V"⟩, 36) := ⟨⟨by decide +kernel, by decide +kernel⟩, List.mem_of_getElem? (i := 855) (by decide +kernel), List.mem_of_getElem? (i := 1013) (by decide +kernel), List.mem_of_getElem? (i := 1014) (by decide +kernel)⟩
theorem lw_p61 : lw_okq (⟨"OnceProverModel", "beginLoan", "()V"⟩, 36) := ⟨⟨by decide +kernel, by decide +kernel⟩, List.mem_of_getElem? (i := 855) (by decide +kernel), List.mem_of_getElem? (i := 1017) (by decide +kernel), List.mem_of_getElem? (i := 1018) (by decide +kernel)⟩
theorem lw_p62 : lw_okq (⟨"OnceProverModel", "readSign", "(I)Z"⟩, 36) := ⟨⟨by decide +kernel, by decide +kernel⟩, List.mem_of_getElem? (i := 855) (by decide +kernel), List.mem_of_getElem? (i := 1021) (by decide +kernel), List.mem_of_getElem? (i := 1022) (by decide +kernel)⟩
theorem lw_p63 : lw_okq (⟨"OnceProverModel", "readHead", "(I)Z"⟩, 36) := ⟨⟨by decide +kernel, by decide +kernel⟩, List.mem_of_getElem? (i := 855) (by decide +kernel), List.mem_of_getElem? (i := 1025) (by decide +kernel), List.mem_of_getElem? (i := 1026) (by decide +kernel)⟩
def lw_privs_4 : List (MethodName × Nat) := [(⟨"OnceProver$Judge", "lacksNumber", "()Z"⟩, 5), (⟨"OnceProver$Judge", "refuseUnless", "(Z)Z"⟩, 5), (⟨"OnceProver$Judge", "visitChoice", "(III)V"⟩, 5), (⟨"OnceProver$Judge", "visitLoan", "(III)V"⟩, 5), (⟨"OnceProver$Judge", "visitAtom", "(CII)V"⟩, 5), (⟨"OnceProver", "savedPlaces", "()I"⟩, 12), (⟨"OnceProverModel", "take", "(IIZ)I"⟩, 36), (⟨"OnceProverModel", "read", "(II)I"⟩, 36), (⟨"OnceProverModel", "push", "(III)V"⟩, 36), (⟨"OnceProverModel", "reads", "(I)Z"⟩, 36), (⟨"OnceProverModel", "readGoal", "(I)Z"⟩, 36), (⟨"OnceProverModel", "begin", "(II)I"⟩, 36), (⟨"OnceProverModel", "complete", "()V"⟩, 36), (⟨"OnceProverModel", "beginLoan", "()V"⟩, 36), (⟨"OnceProverModel", "readSign", "(I)Z"⟩, 36), (⟨"OnceProverModel", "readHead", "(I)Z"⟩, 36)]
theorem lw_r4 : ∀ q ∈ lw_privs_4, lw_okq q := List.forall_mem_cons.mpr ⟨lw_p48, List.forall_mem_cons.mpr ⟨lw_p49, List.forall_mem_cons.mpr ⟨lw_p50, List.forall_mem_cons.mpr ⟨lw_p51, List.forall_mem_cons.mpr ⟨lw_p52, List.forall_mem_cons.mpr ⟨lw_p53, List.forall_mem_cons.mpr ⟨lw_p54, List.forall_mem_cons.mpr ⟨lw_p55, List.forall_mem_cons.mpr ⟨lw_p56, List.forall_mem_cons.mpr ⟨lw_p57, List.forall_mem_cons.mpr ⟨lw_p58, List.forall_mem_cons.mpr ⟨lw_p59, List.forall_mem_cons.mpr ⟨lw_p60, List.forall_mem_cons.mpr ⟨lw_p61, List.forall_mem_cons.mpr ⟨lw_p62, List.forall_mem_cons.mpr ⟨lw_p63, fun _ h => absurd h List.not_mem_nil⟩⟩⟩⟩⟩⟩⟩⟩⟩⟩⟩⟩⟩⟩⟩⟩
theorem lw_p64 : lw_okq (⟨"OnceProverModel", "readBehind", "(I)Z"⟩, 36) := ⟨⟨by decide +kernel, by decide +kernel⟩, List.mem_of_getElem? (i := 855) (by decide +kernel), List.mem_of_getElem? (i := 1029) (by decide +kernel), List.mem_of_getElem? (i := 1030) (by decide +kernel)⟩
theorem lw_p65 : lw_okq (⟨"OnceProverModel", "readAll", "(ZI)V"⟩, 36) := ⟨⟨by decide +kernel, by decide +kernel⟩, List.mem_of_getElem? (i := 855) (by decide +kernel), List.mem_of_getElem? (i := 1033) (by decide +kernel), List.mem_of_getElem? (i := 1034) (by decide +kernel)⟩
theorem lw_p66 : lw_okq (⟨"OnceProverModel", "there", "(II)I"⟩, 36) := ⟨⟨by decide +kernel, by decide +kernel⟩, List.mem_of_getElem? (i := 855) (by decide +kernel), List.mem_of_getElem? (i := 1056) (by decide +kernel), List.mem_of_getElem? (i := 1057) (by decide +kernel)⟩
theorem lw_p67 : lw_okq (⟨"OnceProverModel", "areThere", "(I)Z"⟩, 36) := ⟨⟨by decide +kernel, by decide +kernel⟩, List.mem_of_getElem? (i := 855) (by decide +kernel), List.mem_of_getElem? (i := 1067) (by decide +kernel), List.mem_of_getElem? (i := 1068) (by decide +kernel)⟩
theorem lw_p68 : lw_okq (⟨"OnceProverModel", "all", "()I"⟩, 36) := ⟨⟨by decide +kernel, by decide +kernel⟩, List.mem_of_getElem? (i := 855) (by decide +kernel), List.mem_of_getElem? (i := 1071) (by decide +kernel), List.mem_of_getElem? (i := 1072) (by decide +kernel)⟩
theorem lw_p69 : lw_okq (⟨"OnceProverModel", "isGoal", "()Z"⟩, 36) := ⟨⟨by decide +kernel, by decide +kernel⟩, List.mem_of_getElem? (i := 855) (by decide +kernel), List.mem_of_getElem? (i := 1075) (by decide +kernel), List.mem_of_getElem? (i := 1076) (by decide +kernel)⟩
theorem lw_p70 : lw_okq (⟨"OnceProverModel", "lay", "()V"⟩, 36) := ⟨⟨by decide +kernel, by decide +kernel⟩, List.mem_of_getElem? (i := 855) (by decide +kernel), List.mem_of_getElem? (i := 1079) (by decide +kernel), List.mem_of_getElem? (i := 1080) (by decide +kernel)⟩
theorem lw_p71 : lw_okq (⟨"OnceProverModel", "isReached", "(III)Z"⟩, 36) := ⟨⟨by decide +kernel, by decide +kernel⟩, List.mem_of_getElem? (i := 855) (by decide +kernel), List.mem_of_getElem? (i := 1083) (by decide +kernel), List.mem_of_getElem? (i := 1084) (by decide +kernel)⟩
theorem lw_p72 : lw_okq (⟨"OnceProverModel", "firstFor", "(III)I"⟩, 36) := ⟨⟨by decide +kernel, by decide +kernel⟩, List.mem_of_getElem? (i := 855) (by decide +kernel), List.mem_of_getElem? (i := 1087) (by decide +kernel), List.mem_of_getElem? (i := 1088) (by decide +kernel)⟩
theorem lw_p73 : lw_okq (⟨"OnceProverModel", "isTold", "(IIIII)Z"⟩, 36) := ⟨⟨by decide +kernel, by decide +kernel⟩, List.mem_of_getElem? (i := 855) (by decide +kernel), List.mem_of_getElem? (i := 1094) (by decide +kernel), List.mem_of_getElem? (i := 1095) (by decide +kernel)⟩
theorem lw_p74 : lw_okq (⟨"OnceProverModel", "isBelow", "(III)Z"⟩, 36) := ⟨⟨by decide +kernel, by decide +kernel⟩, List.mem_of_getElem? (i := 855) (by decide +kernel), List.mem_of_getElem? (i := 1098) (by decide +kernel), List.mem_of_getElem? (i := 1099) (by decide +kernel)⟩
theorem lw_p75 : lw_okq (⟨"OnceProverModel", "firstPart", "(III)I"⟩, 36) := ⟨⟨by decide +kernel, by decide +kernel⟩, List.mem_of_getElem? (i := 855) (by decide +kernel), List.mem_of_getElem? (i := 1102) (by decide +kernel), List.mem_of_getElem? (i := 1103) (by decide +kernel)⟩
theorem lw_p76 : lw_okq (⟨"OnceProverModel", "heightOf", "(I)I"⟩, 36) := ⟨⟨by decide +kernel, by decide +kernel⟩, List.mem_of_getElem? (i := 855) (by decide +kernel), List.mem_of_getElem? (i := 1106) (by decide +kernel), List.mem_of_getElem? (i := 1107) (by decide +kernel)⟩
theorem lw_p77 : lw_okq (⟨"OnceProverModel", "waysOf", "(II)J"⟩, 36) := ⟨⟨by decide +kernel, by decide +kernel⟩, List.mem_of_getElem? (i := 855) (by decide +kernel), List.mem_of_getElem? (i := 1118) (by decide +kernel), List.mem_of_getElem? (i := 1119) (by decide +kernel)⟩
theorem lw_p78 : lw_okq (⟨"OnceProverModel", "waysOfAtom", "(II)J"⟩, 36) := ⟨⟨by decide +kernel, by decide +kernel⟩, List.mem_of_getElem? (i := 855) (by decide +kernel), List.mem_of_getElem? (i := 1122) (by decide +kernel), List.mem_of_getElem? (i := 1123) (by decide +kernel)⟩
theorem lw_p79 : lw_okq (⟨"OnceProverModel", "waysBy", "(III)J"⟩, 36) := ⟨⟨by decide +kernel, by decide +kernel⟩, List.mem_of_getElem? (i := 855) (by decide +kernel), List.mem_of_getElem? (i := 1126) (by decide +kernel), List.mem_of_getElem? (i := 1127) (by decide +kernel)⟩
def lw_privs_5 : List (MethodName × Nat) := [(⟨"OnceProverModel", "readBehind", "(I)Z"⟩, 36), (⟨"OnceProverModel", "readAll", "(ZI)V"⟩, 36), (⟨"OnceProverModel", "there", "(II)I"⟩, 36), (⟨"OnceProverModel", "areThere", "(I)Z"⟩, 36), (⟨"OnceProverModel", "all", "()I"⟩, 36), (⟨"OnceProverModel", "isGoal", "()Z"⟩, 36), (⟨"OnceProverModel", "lay", "()V"⟩, 36), (⟨"OnceProverModel", "isReached", "(III)Z"⟩, 36), (⟨"OnceProverModel", "firstFor", "(III)I"⟩, 36), (⟨"OnceProverModel", "isTold", "(IIIII)Z"⟩, 36), (⟨"OnceProverModel", "isBelow", "(III)Z"⟩, 36), (⟨"OnceProverModel", "firstPart", "(III)I"⟩, 36), (⟨"OnceProverModel", "heightOf", "(I)I"⟩, 36), (⟨"OnceProverModel", "waysOf", "(II)J"⟩, 36), (⟨"OnceProverModel", "waysOfAtom", "(II)J"⟩, 36), (⟨"OnceProverModel", "waysBy", "(III)J"⟩, 36)]
theorem lw_r5 : ∀ q ∈ lw_privs_5, lw_okq q := List.forall_mem_cons.mpr ⟨lw_p64, List.forall_mem_cons.mpr ⟨lw_p65, List.forall_mem_cons.mpr ⟨lw_p66, List.forall_mem_cons.mpr ⟨lw_p67, List.forall_mem_cons.mpr ⟨lw_p68, List.forall_mem_cons.mpr ⟨lw_p69, List.forall_mem_cons.mpr ⟨lw_p70, List.forall_mem_cons.mpr ⟨lw_p71, List.forall_mem_cons.mpr ⟨lw_p72, List.forall_mem_cons.mpr ⟨lw_p73, List.forall_mem_cons.mpr ⟨lw_p74, List.forall_mem_cons.mpr ⟨lw_p75, List.forall_mem_cons.mpr ⟨lw_p76, List.forall_mem_cons.mpr ⟨lw_p77, List.forall_mem_cons.mpr ⟨lw_p78, List.forall_mem_cons.mpr ⟨lw_p79, fun _ h => absurd h List.not_mem_nil⟩⟩⟩⟩⟩⟩⟩⟩⟩⟩⟩⟩⟩⟩⟩⟩
theorem lw_p80 : lw_okq (⟨"OnceProverModel", "waysBelow", "(II)J"⟩, 36) := ⟨⟨by decide +kernel, by decide +kernel⟩, List.mem_of_getElem? (i := 855) (by decide +kernel), List.mem_of_getElem? (i := 1130) (by decide +kernel), List.mem_of_getElem? (i := 1131) (by decide +kernel)⟩
theorem lw_p81 : lw_okq (⟨"OnceProverModel", "waysOfParts", "(II)J"⟩, 36) := ⟨⟨by decide +kernel, by decide +kernel⟩, List.mem_of_getElem? (i := 855) (by decide +kernel), List.mem_of_getElem? (i := 1134) (by decide +kernel), List.mem_of_getElem? (i := 1135) (by decide +kernel)⟩
theorem lw_p82 : lw_okq (⟨"OnceProverModel", "layWay", "()Z"⟩, 36) := ⟨⟨by decide +kernel, by decide +kernel⟩, List.mem_of_getElem? (i := 855) (by decide +kernel), List.mem_of_getElem? (i := 1154) (by decide +kernel), List.mem_of_getElem? (i := 1155) (by decide +kernel)⟩
theorem lw_p83 : lw_okq (⟨"OnceProverModel", "await", "(III)V"⟩, 36) := ⟨⟨by decide +kernel, by decide +kernel⟩, List.mem_of_getElem? (i := 855) (by decide +kernel), List.mem_of_getElem? (i := 1158) (by decide +kernel), List.mem_of_getElem? (i := 1159) (by decide +kernel)⟩
theorem lw_p84 : lw_okq (⟨"OnceProverModel", "tellOne", "(III)V"⟩, 36) := ⟨⟨by decide +kernel, by decide +kernel⟩, List.mem_of_getElem? (i := 855) (by decide +kernel), List.mem_of_getElem? (i := 1162) (by decide +kernel), List.mem_of_getElem? (i := 1163) (by decide +kernel)⟩
theorem lw_p85 : lw_okq (⟨"OnceProverModel", "tellAtom", "(III)V"⟩, 36) := ⟨⟨by decide +kernel, by decide +kernel⟩, List.mem_of_getElem? (i := 855) (by decide +kernel), List.mem_of_getElem? (i := 1166) (by decide +kernel), List.mem_of_getElem? (i := 1167) (by decide +kernel)⟩
theorem lw_p86 : lw_okq (⟨"OnceProverModel", "tell", "(I)V"⟩, 36) := ⟨⟨by decide +kernel, by decide +kernel⟩, List.mem_of_getElem? (i := 855) (by decide +kernel), List.mem_of_getElem? (i := 1170) (by decide +kernel), List.mem_of_getElem? (i := 1171) (by decide +kernel)⟩
theorem lw_p87 : lw_okq (⟨"OnceProverModel", "checked", "()I"⟩, 36) := ⟨⟨by decide +kernel, by decide +kernel⟩, List.mem_of_getElem? (i := 855) (by decide +kernel), List.mem_of_getElem? (i := 1190) (by decide +kernel), List.mem_of_getElem? (i := 1191) (by decide +kernel)⟩
theorem lw_p88 : lw_okq (⟨"OnceProverModel", "checkOne", "(III)I"⟩, 36) := ⟨⟨by decide +kernel, by decide +kernel⟩, List.mem_of_getElem? (i := 855) (by decide +kernel), List.mem_of_getElem? (i := 1194) (by decide +kernel), List.mem_of_getElem? (i := 1195) (by decide +kernel)⟩
theorem lw_p89 : lw_okq (⟨"OnceProverModel", "checkAtom", "(III)I"⟩, 36) := ⟨⟨by decide +kernel, by decide +kernel⟩, List.mem_of_getElem? (i := 855) (by decide +kernel), List.mem_of_getElem? (i := 1198) (by decide +kernel), List.mem_of_getElem? (i := 1199) (by decide +kernel)⟩
theorem lw_p90 : lw_okq (⟨"OnceProverModel", "checkParts", "(III)I"⟩, 36) := ⟨⟨by decide +kernel, by decide +kernel⟩, List.mem_of_getElem? (i := 855) (by decide +kernel), List.mem_of_getElem? (i := 1202) (by decide +kernel), List.mem_of_getElem? (i := 1203) (by decide +kernel)⟩
theorem lw_p91 : lw_okq (⟨"OnceProverModel", "checkPlus", "(III)I"⟩, 36) := ⟨⟨by decide +kernel, by decide +kernel⟩, List.mem_of_getElem? (i := 855) (by decide +kernel), List.mem_of_getElem? (i := 1206) (by decide +kernel), List.mem_of_getElem? (i := 1207) (by decide +kernel)⟩
def lw_privs_6 : List (MethodName × Nat) := [(⟨"OnceProverModel", "waysBelow", "(II)J"⟩, 36), (⟨"OnceProverModel", "waysOfParts", "(II)J"⟩, 36), (⟨"OnceProverModel", "layWay", "()Z"⟩, 36), (⟨"OnceProverModel", "await", "(III)V"⟩, 36), (⟨"OnceProverModel", "tellOne", "(III)V"⟩, 36), (⟨"OnceProverModel", "tellAtom", "(III)V"⟩, 36), (⟨"OnceProverModel", "tell", "(I)V"⟩, 36), (⟨"OnceProverModel", "checked", "()I"⟩, 36), (⟨"OnceProverModel", "checkOne", "(III)I"⟩, 36), (⟨"OnceProverModel", "checkAtom", "(III)I"⟩, 36), (⟨"OnceProverModel", "checkParts", "(III)I"⟩, 36), (⟨"OnceProverModel", "checkPlus", "(III)I"⟩, 36)]
theorem lw_r6 : ∀ q ∈ lw_privs_6, lw_okq q := List.forall_mem_cons.mpr ⟨lw_p80, List.forall_mem_cons.mpr ⟨lw_p81, List.forall_mem_cons.mpr ⟨lw_p82, List.forall_mem_cons.mpr ⟨lw_p83, List.forall_mem_cons.mpr ⟨lw_p84, List.forall_mem_cons.mpr ⟨lw_p85, List.forall_mem_cons.mpr ⟨lw_p86, List.forall_mem_cons.mpr ⟨lw_p87, List.forall_mem_cons.mpr ⟨lw_p88, List.forall_mem_cons.mpr ⟨lw_p89, List.forall_mem_cons.mpr ⟨lw_p90, List.forall_mem_cons.mpr ⟨lw_p91, fun _ h => absurd h List.not_mem_nil⟩⟩⟩⟩⟩⟩⟩⟩⟩⟩⟩⟩
def lw_privs : List (MethodName × Nat) := lw_privs_1 ++ (lw_privs_2 ++ (lw_privs_3 ++ (lw_privs_4 ++ (lw_privs_5 ++ (lw_privs_6)))))
def lw_tbl : List Cond := k2_sels lw_privs ++ tables_1
theorem lw_privs_ok : ∀ q ∈ lw_privs, lw_okq q := by
  show ∀ q ∈ lw_privs_1 ++ (lw_privs_2 ++ (lw_privs_3 ++ (lw_privs_4 ++ (lw_privs_5 ++ (lw_privs_6))))), lw_okq q
  exact List.forall_mem_append.mpr ⟨lw_r1, List.forall_mem_append.mpr ⟨lw_r2, List.forall_mem_append.mpr ⟨lw_r3, List.forall_mem_append.mpr ⟨lw_r4, List.forall_mem_append.mpr ⟨lw_r5, lw_r6⟩⟩⟩⟩⟩
def RX0 : String := "OnceProver$FirstProof"
def TX0 : u_T := fun k => match k with
  | 0 => ("OnceProver$FirstProof", "plan", "LOnceProver$Plan;", true)
  | 1 => ("OnceProver$FirstProof", "reach", "LOnceProver$Reach;", true)
  | 2 => ("OnceProver$FirstProof", "code", "[I", true)
  | 3 => ("OnceProver$FirstProof", "length", "I", false)
  | 4 => ("OnceProver$FirstProof", "exists", "Z", false)
  | _ => ("OnceProver$FirstProof", "found", "Z", false)
def tyX0 : Nat → FieldType := fun k => match k with
  | 0 => .object "OnceProver$Plan"
  | 1 => .object "OnceProver$Reach"
  | 2 => .array .int
  | 3 => .int
  | 4 => .boolean
  | _ => .boolean
abbrev wsX00 : List Cond := u_ws RX0 TX0 6
theorem nmX0 : ∀ a, a < 6 → ∀ b, b < 6 → a ≠ b → (TX0 a).2.1 ≠ (TX0 b).2.1 := by decide +kernel
theorem tyX0_ok : ∀ k, k < 6 → parseFieldDescriptor (TX0 k).2.2.1 = some (tyX0 k) := by decide +kernel
abbrev cX0_init : ByteArray := prog_2_method_1_code
def yX0_init : MethodName := ⟨RX0, "<init>", "(LOnceProver$Plan;LOnceProver$Reach;)V"⟩
abbrev cX0_forget : ByteArray := prog_2_method_2_code
def yX0_forget : MethodName := ⟨RX0, "forget", "()V"⟩
abbrev cX0_find : ByteArray := prog_2_method_3_code
def yX0_find : MethodName := ⟨RX0, "find", "(I)V"⟩
abbrev cX0_exists : ByteArray := prog_2_method_4_code
def yX0_exists : MethodName := ⟨RX0, "exists", "()Z"⟩
abbrev cX0_length : ByteArray := prog_2_method_5_code
def yX0_length : MethodName := ⟨RX0, "length", "()I"⟩
abbrev cX0_at : ByteArray := prog_2_method_6_code
def yX0_at : MethodName := ⟨RX0, "at", "(I)I"⟩
abbrev cX0_usesOf : ByteArray := prog_2_method_7_code
def yX0_usesOf : MethodName := ⟨RX0, "usesOf", "(I)I"⟩
abbrev cX0_write : ByteArray := prog_2_method_8_code
def yX0_write : MethodName := ⟨RX0, "write", "(III)V"⟩
abbrev cX0_writeSplit : ByteArray := prog_2_method_9_code
def yX0_writeSplit : MethodName := ⟨RX0, "writeSplit", "(IIII)V"⟩
abbrev cX0_writeChoice : ByteArray := prog_2_method_10_code
def yX0_writeChoice : MethodName := ⟨RX0, "writeChoice", "(IIII)V"⟩
abbrev cX0_writeAtom : ByteArray := prog_2_method_11_code
def yX0_writeAtom : MethodName := ⟨RX0, "writeAtom", "(CII)V"⟩
abbrev cX0_serves : ByteArray := prog_2_method_12_code
def yX0_serves : MethodName := ⟨RX0, "serves", "(III)Z"⟩
abbrev cX0_append : ByteArray := prog_2_method_13_code
def yX0_append : MethodName := ⟨RX0, "append", "(I)V"⟩
abbrev cX0_numberOf : ByteArray := prog_2_method_14_code
def yX0_numberOf : MethodName := ⟨RX0, "numberOf", "(II)I"⟩
def RX1 : String := "OnceProver$Item"
def TX1 : u_T := fun k => match k with
  | 0 => ("OnceProver$Item", "signs", "[C", true)
  | 1 => ("OnceProver$Item", "nodes", "I", true)
  | _ => ("OnceProver$Item", "loans", "I", true)
def tyX1 : Nat → FieldType := fun k => match k with
  | 0 => .array .char
  | 1 => .int
  | _ => .int
abbrev wsX10 : List Cond := u_ws RX1 TX1 3
theorem nmX1 : ∀ a, a < 3 → ∀ b, b < 3 → a ≠ b → (TX1 a).2.1 ≠ (TX1 b).2.1 := by decide +kernel
theorem tyX1_ok : ∀ k, k < 3 → parseFieldDescriptor (TX1 k).2.2.1 = some (tyX1 k) := by decide +kernel
abbrev cX1_init : ByteArray := prog_3_method_1_code
def yX1_init : MethodName := ⟨RX1, "<init>", "([CII)V"⟩
abbrev cX1_signs : ByteArray := prog_3_method_2_code
def yX1_signs : MethodName := ⟨RX1, "signs", "()[C"⟩
abbrev cX1_nodes : ByteArray := prog_3_method_3_code
def yX1_nodes : MethodName := ⟨RX1, "nodes", "()I"⟩
abbrev cX1_loans : ByteArray := prog_3_method_4_code
def yX1_loans : MethodName := ⟨RX1, "loans", "()I"⟩
def RX2 : String := "OnceProver$Judge"
def TX2 : u_T := fun k => match k with
  | 0 => ("OnceProver$Judge", "plan", "LOnceProver$Plan;", true)
  | 1 => ("OnceProver$Judge", "trial", "LOnceProver$Trial;", true)
  | 2 => ("OnceProver$Judge", "verdict", "I", false)
  | 3 => ("OnceProver$Judge", "used", "I", false)
  | _ => ("OnceProver$Judge", "deepest", "I", false)
def tyX2 : Nat → FieldType := fun k => match k with
  | 0 => .object "OnceProver$Plan"
  | 1 => .object "OnceProver$Trial"
  | 2 => .int
  | 3 => .int
  | _ => .int
abbrev wsX20 : List Cond := u_ws RX2 TX2 5
theorem nmX2 : ∀ a, a < 5 → ∀ b, b < 5 → a ≠ b → (TX2 a).2.1 ≠ (TX2 b).2.1 := by decide +kernel
theorem tyX2_ok : ∀ k, k < 5 → parseFieldDescriptor (TX2 k).2.2.1 = some (tyX2 k) := by decide +kernel
abbrev cX2_init : ByteArray := prog_4_method_1_code
def yX2_init : MethodName := ⟨RX2, "<init>", "(LOnceProver$Plan;LOnceProver$Trial;)V"⟩
abbrev cX2_judge : ByteArray := prog_4_method_2_code
def yX2_judge : MethodName := ⟨RX2, "judge", "(I)V"⟩
abbrev cX2_verdict : ByteArray := prog_4_method_3_code
def yX2_verdict : MethodName := ⟨RX2, "verdict", "()I"⟩
abbrev cX2_used : ByteArray := prog_4_method_4_code
def yX2_used : MethodName := ⟨RX2, "used", "()I"⟩
abbrev cX2_deepest : ByteArray := prog_4_method_5_code
def yX2_deepest : MethodName := ⟨RX2, "deepest", "()I"⟩
abbrev cX2_visit : ByteArray := prog_4_method_6_code
def yX2_visit : MethodName := ⟨RX2, "visit", "(III)V"⟩
abbrev cX2_visitSplit : ByteArray := prog_4_method_7_code
def yX2_visitSplit : MethodName := ⟨RX2, "visitSplit", "(III)V"⟩
abbrev cX2_visitChoice : ByteArray := prog_4_method_8_code
def yX2_visitChoice : MethodName := ⟨RX2, "visitChoice", "(III)V"⟩
abbrev cX2_visitLoan : ByteArray := prog_4_method_9_code
def yX2_visitLoan : MethodName := ⟨RX2, "visitLoan", "(III)V"⟩
abbrev cX2_visitAtom : ByteArray := prog_4_method_10_code
def yX2_visitAtom : MethodName := ⟨RX2, "visitAtom", "(CII)V"⟩
abbrev cX2_offerOf : ByteArray := prog_4_method_11_code
def yX2_offerOf : MethodName := ⟨RX2, "offerOf", "(I)I"⟩
abbrev cX2_lacksNumber : ByteArray := prog_4_method_12_code
def yX2_lacksNumber : MethodName := ⟨RX2, "lacksNumber", "()Z"⟩
abbrev cX2_refuseUnless : ByteArray := prog_4_method_13_code
def yX2_refuseUnless : MethodName := ⟨RX2, "refuseUnless", "(Z)Z"⟩
abbrev cX2_demandEmpty : ByteArray := prog_4_method_14_code
def yX2_demandEmpty : MethodName := ⟨RX2, "demandEmpty", "(I)V"⟩
def RX3 : String := "OnceProver$Plan"
def TX3 : u_T := fun k => match k with
  | 0 => ("OnceProver$Plan", "kinds", "[C", true)
  | 1 => ("OnceProver$Plan", "firsts", "[I", true)
  | 2 => ("OnceProver$Plan", "seconds", "[I", true)
  | 3 => ("OnceProver$Plan", "heads", "[C", true)
  | 4 => ("OnceProver$Plan", "bodies", "[I", true)
  | 5 => ("OnceProver$Plan", "nodes", "I", false)
  | 6 => ("OnceProver$Plan", "loans", "I", false)
  | _ => ("OnceProver$Plan", "root", "I", false)
def tyX3 : Nat → FieldType := fun k => match k with
  | 0 => .array .char
  | 1 => .array .int
  | 2 => .array .int
  | 3 => .array .char
  | 4 => .array .int
  | 5 => .int
  | 6 => .int
  | _ => .int
abbrev wsX30 : List Cond := u_ws RX3 TX3 8
theorem nmX3 : ∀ a, a < 8 → ∀ b, b < 8 → a ≠ b → (TX3 a).2.1 ≠ (TX3 b).2.1 := by decide +kernel
theorem tyX3_ok : ∀ k, k < 8 → parseFieldDescriptor (TX3 k).2.2.1 = some (tyX3 k) := by decide +kernel
abbrev cX3_init : ByteArray := prog_5_method_1_code
def yX3_init : MethodName := ⟨RX3, "<init>", "()V"⟩
abbrev cX3_clear : ByteArray := prog_5_method_2_code
def yX3_clear : MethodName := ⟨RX3, "clear", "()V"⟩
abbrev cX3_build : ByteArray := prog_5_method_3_code
def yX3_build : MethodName := ⟨RX3, "build", "(LOnceProver$Stock;)V"⟩
abbrev cX3_addNode : ByteArray := prog_5_method_4_code
def yX3_addNode : MethodName := ⟨RX3, "addNode", "(CII)I"⟩
abbrev cX3_addLoan : ByteArray := prog_5_method_5_code
def yX3_addLoan : MethodName := ⟨RX3, "addLoan", "()I"⟩
abbrev cX3_setFace : ByteArray := prog_5_method_6_code
def yX3_setFace : MethodName := ⟨RX3, "setFace", "(IICI)V"⟩
abbrev cX3_nodes : ByteArray := prog_5_method_7_code
def yX3_nodes : MethodName := ⟨RX3, "nodes", "()I"⟩
abbrev cX3_loans : ByteArray := prog_5_method_8_code
def yX3_loans : MethodName := ⟨RX3, "loans", "()I"⟩
abbrev cX3_root : ByteArray := prog_5_method_9_code
def yX3_root : MethodName := ⟨RX3, "root", "()I"⟩
abbrev cX3_kind : ByteArray := prog_5_method_10_code
def yX3_kind : MethodName := ⟨RX3, "kind", "(I)C"⟩
abbrev cX3_first : ByteArray := prog_5_method_11_code
def yX3_first : MethodName := ⟨RX3, "first", "(I)I"⟩
abbrev cX3_second : ByteArray := prog_5_method_12_code
def yX3_second : MethodName := ⟨RX3, "second", "(I)I"⟩
abbrev cX3_loanBit : ByteArray := prog_5_method_13_code
def yX3_loanBit : MethodName := ⟨RX3, "loanBit", "(I)I"⟩
abbrev cX3_hasHead : ByteArray := prog_5_method_14_code
def yX3_hasHead : MethodName := ⟨RX3, "hasHead", "(IIC)Z"⟩
abbrev cX3_body : ByteArray := prog_5_method_15_code
def yX3_body : MethodName := ⟨RX3, "body", "(II)I"⟩
abbrev cX3_singles : ByteArray := prog_5_method_16_code
def yX3_singles : MethodName := ⟨RX3, "singles", "()I"⟩
abbrev cX3_afterUse : ByteArray := prog_5_method_17_code
def yX3_afterUse : MethodName := ⟨RX3, "afterUse", "(II)I"⟩
abbrev cX3_isFace : ByteArray := prog_5_method_18_code
def yX3_isFace : MethodName := ⟨RX3, "isFace", "(II)Z"⟩
abbrev cX3_isNode : ByteArray := prog_5_method_19_code
def yX3_isNode : MethodName := ⟨RX3, "isNode", "(I)Z"⟩
def RX4 : String := "OnceProver$Reach"
def TX4 : u_T := fun k => match k with
  | 0 => ("OnceProver$Reach", "plan", "LOnceProver$Plan;", true)
  | 1 => ("OnceProver$Reach", "bits", "[J", true)
  | 2 => ("OnceProver$Reach", "allSets", "[J", true)
  | 3 => ("OnceProver$Reach", "apart", "[J", true)
  | _ => ("OnceProver$Reach", "top", "I", false)
def tyX4 : Nat → FieldType := fun k => match k with
  | 0 => .object "OnceProver$Plan"
  | 1 => .array .long
  | 2 => .array .long
  | 3 => .array .long
  | _ => .int
abbrev wsX40 : List Cond := u_ws RX4 TX4 5
theorem nmX4 : ∀ a, a < 5 → ∀ b, b < 5 → a ≠ b → (TX4 a).2.1 ≠ (TX4 b).2.1 := by decide +kernel
theorem tyX4_ok : ∀ k, k < 5 → parseFieldDescriptor (TX4 k).2.2.1 = some (tyX4 k) := by decide +kernel
abbrev cX4_init : ByteArray := prog_6_method_1_code
def yX4_init : MethodName := ⟨RX4, "<init>", "(LOnceProver$Plan;)V"⟩
abbrev cX4_compute : ByteArray := prog_6_method_2_code
def yX4_compute : MethodName := ⟨RX4, "compute", "()V"⟩
abbrev cX4_proves : ByteArray := prog_6_method_3_code
def yX4_proves : MethodName := ⟨RX4, "proves", "(III)Z"⟩
abbrev cX4_leastHeight : ByteArray := prog_6_method_4_code
def yX4_leastHeight : MethodName := ⟨RX4, "leastHeight", "(II)I"⟩
abbrev cX4_findAllSets : ByteArray := prog_6_method_5_code
def yX4_findAllSets : MethodName := ⟨RX4, "findAllSets", "()V"⟩
abbrev cX4_fillRow : ByteArray := prog_6_method_6_code
def yX4_fillRow : MethodName := ⟨RX4, "fillRow", "(II)V"⟩
abbrev cX4_addAtom : ByteArray := prog_6_method_7_code
def yX4_addAtom : MethodName := ⟨RX4, "addAtom", "(ICI)V"⟩
abbrev cX4_addUnions : ByteArray := prog_6_method_8_code
def yX4_addUnions : MethodName := ⟨RX4, "addUnions", "(III)V"⟩
abbrev cX4_addMoved : ByteArray := prog_6_method_9_code
def yX4_addMoved : MethodName := ⟨RX4, "addMoved", "(III)V"⟩
abbrev cX4_addReduced : ByteArray := prog_6_method_10_code
def yX4_addReduced : MethodName := ⟨RX4, "addReduced", "(III)V"⟩
abbrev cX4_addShared : ByteArray := prog_6_method_11_code
def yX4_addShared : MethodName := ⟨RX4, "addShared", "(III)V"⟩
abbrev cX4_addAllSets : ByteArray := prog_6_method_12_code
def yX4_addAllSets : MethodName := ⟨RX4, "addAllSets", "(I)V"⟩
abbrev cX4_add : ByteArray := prog_6_method_13_code
def yX4_add : MethodName := ⟨RX4, "add", "(II)V"⟩
abbrev cX4_has : ByteArray := prog_6_method_14_code
def yX4_has : MethodName := ⟨RX4, "has", "(II)Z"⟩
abbrev cX4_hasGrown : ByteArray := prog_6_method_15_code
def yX4_hasGrown : MethodName := ⟨RX4, "hasGrown", "(II)Z"⟩
abbrev cX4_clearRow : ByteArray := prog_6_method_16_code
def yX4_clearRow : MethodName := ⟨RX4, "clearRow", "(I)V"⟩
abbrev cX4_wordAt : ByteArray := prog_6_method_17_code
def yX4_wordAt : MethodName := ⟨RX4, "wordAt", "(II)J"⟩
abbrev cX4_orWord : ByteArray := prog_6_method_18_code
def yX4_orWord : MethodName := ⟨RX4, "orWord", "(IIJ)V"⟩
abbrev cX4_rowOf : ByteArray := prog_6_method_19_code
def yX4_rowOf : MethodName := ⟨RX4, "rowOf", "(II)I"⟩
def RX5 : String := "OnceProver$Reader"
def TX5 : u_T := fun k => match k with
  | 0 => ("OnceProver$Reader", "signs", "[C", true)
  | 1 => ("OnceProver$Reader", "plan", "LOnceProver$Plan;", true)
  | 2 => ("OnceProver$Reader", "place", "I", false)
  | _ => ("OnceProver$Reader", "fault", "I", false)
def tyX5 : Nat → FieldType := fun k => match k with
  | 0 => .array .char
  | 1 => .object "OnceProver$Plan"
  | 2 => .int
  | _ => .int
abbrev wsX50 : List Cond := u_ws RX5 TX5 4
theorem nmX5 : ∀ a, a < 4 → ∀ b, b < 4 → a ≠ b → (TX5 a).2.1 ≠ (TX5 b).2.1 := by decide +kernel
theorem tyX5_ok : ∀ k, k < 4 → parseFieldDescriptor (TX5 k).2.2.1 = some (tyX5 k) := by decide +kernel
abbrev cX5_init : ByteArray := prog_7_method_1_code
def yX5_init : MethodName := ⟨RX5, "<init>", "([CLOnceProver$Plan;)V"⟩
abbrev cX5_readWholeGoal : ByteArray := prog_7_method_2_code
def yX5_readWholeGoal : MethodName := ⟨RX5, "readWholeGoal", "()I"⟩
abbrev cX5_readWholeOffer : ByteArray := prog_7_method_3_code
def yX5_readWholeOffer : MethodName := ⟨RX5, "readWholeOffer", "(I)V"⟩
abbrev cX5_failed : ByteArray := prog_7_method_4_code
def yX5_failed : MethodName := ⟨RX5, "failed", "()Z"⟩
abbrev cX5_faultPlace : ByteArray := prog_7_method_5_code
def yX5_faultPlace : MethodName := ⟨RX5, "faultPlace", "()I"⟩
abbrev cX5_readGoal : ByteArray := prog_7_method_6_code
def yX5_readGoal : MethodName := ⟨RX5, "readGoal", "(I)I"⟩
abbrev cX5_readPair : ByteArray := prog_7_method_7_code
def yX5_readPair : MethodName := ⟨RX5, "readPair", "(I)I"⟩
abbrev cX5_readLoan : ByteArray := prog_7_method_8_code
def yX5_readLoan : MethodName := ⟨RX5, "readLoan", "(I)I"⟩
abbrev cX5_readOffer : ByteArray := prog_7_method_9_code
def yX5_readOffer : MethodName := ⟨RX5, "readOffer", "(II)V"⟩
abbrev cX5_readFace : ByteArray := prog_7_method_10_code
def yX5_readFace : MethodName := ⟨RX5, "readFace", "(III)V"⟩
abbrev cX5_next : ByteArray := prog_7_method_11_code
def yX5_next : MethodName := ⟨RX5, "next", "()C"⟩
abbrev cX5_expect : ByteArray := prog_7_method_12_code
def yX5_expect : MethodName := ⟨RX5, "expect", "(C)V"⟩
abbrev cX5_refuseMore : ByteArray := prog_7_method_13_code
def yX5_refuseMore : MethodName := ⟨RX5, "refuseMore", "()V"⟩
abbrev cX5_refuse : ByteArray := prog_7_method_14_code
def yX5_refuse : MethodName := ⟨RX5, "refuse", "()I"⟩
abbrev cX5_isAtom : ByteArray := prog_7_method_15_code
def yX5_isAtom : MethodName := ⟨RX5, "isAtom", "(C)Z"⟩
def RX6 : String := "OnceProver$Stock"
def TX6 : u_T := fun k => match k with
  | _ => ("OnceProver$Stock", "items", "[LOnceProver$Item;", true)
def tyX6 : Nat → FieldType := fun k => match k with
  | _ => .array (.object "OnceProver$Item")
abbrev wsX60 : List Cond := u_ws RX6 TX6 1
theorem nmX6 : ∀ a, a < 1 → ∀ b, b < 1 → a ≠ b → (TX6 a).2.1 ≠ (TX6 b).2.1 := by decide +kernel
theorem tyX6_ok : ∀ k, k < 1 → parseFieldDescriptor (TX6 k).2.2.1 = some (tyX6 k) := by decide +kernel
abbrev cX6_init : ByteArray := prog_8_method_1_code
def yX6_init : MethodName := ⟨RX6, "<init>", "()V"⟩
abbrev cX6_at : ByteArray := prog_8_method_2_code
def yX6_at : MethodName := ⟨RX6, "at", "(I)LOnceProver$Item;"⟩
abbrev cX6_set : ByteArray := prog_8_method_3_code
def yX6_set : MethodName := ⟨RX6, "set", "(ILOnceProver$Item;)V"⟩
abbrev cX6_copyFrom : ByteArray := prog_8_method_4_code
def yX6_copyFrom : MethodName := ⟨RX6, "copyFrom", "(LOnceProver$Stock;)V"⟩
abbrev cX6_firstFree : ByteArray := prog_8_method_5_code
def yX6_firstFree : MethodName := ⟨RX6, "firstFree", "(II)I"⟩
abbrev cX6_present : ByteArray := prog_8_method_6_code
def yX6_present : MethodName := ⟨RX6, "present", "(II)I"⟩
abbrev cX6_nodes : ByteArray := prog_8_method_7_code
def yX6_nodes : MethodName := ⟨RX6, "nodes", "()I"⟩
abbrev cX6_loans : ByteArray := prog_8_method_8_code
def yX6_loans : MethodName := ⟨RX6, "loans", "()I"⟩
abbrev cX6_hasRoom : ByteArray := prog_8_method_9_code
def yX6_hasRoom : MethodName := ⟨RX6, "hasRoom", "(ILOnceProver$Item;)Z"⟩
def RX7 : String := "OnceProver$Text"
def TX7 : u_T := fun k => match k with
  | 0 => ("OnceProver$Text", "signs", "[C", true)
  | _ => ("OnceProver$Text", "length", "I", false)
def tyX7 : Nat → FieldType := fun k => match k with
  | 0 => .array .char
  | _ => .int
abbrev wsX70 : List Cond := u_ws RX7 TX7 2
theorem nmX7 : ∀ a, a < 2 → ∀ b, b < 2 → a ≠ b → (TX7 a).2.1 ≠ (TX7 b).2.1 := by decide +kernel
theorem tyX7_ok : ∀ k, k < 2 → parseFieldDescriptor (TX7 k).2.2.1 = some (tyX7 k) := by decide +kernel
abbrev cX7_init : ByteArray := prog_9_method_1_code
def yX7_init : MethodName := ⟨RX7, "<init>", "()V"⟩
abbrev cX7_append : ByteArray := prog_9_method_2_code
def yX7_append : MethodName := ⟨RX7, "append", "(C)Z"⟩
abbrev cX7_length : ByteArray := prog_9_method_3_code
def yX7_length : MethodName := ⟨RX7, "length", "()I"⟩
abbrev cX7_copy : ByteArray := prog_9_method_4_code
def yX7_copy : MethodName := ⟨RX7, "copy", "()[C"⟩
abbrev cX7_clear : ByteArray := prog_9_method_5_code
def yX7_clear : MethodName := ⟨RX7, "clear", "()V"⟩
def RX8 : String := "OnceProver$Trial"
def TX8 : u_T := fun k => match k with
  | 0 => ("OnceProver$Trial", "numbers", "[I", true)
  | _ => ("OnceProver$Trial", "length", "I", false)
def tyX8 : Nat → FieldType := fun k => match k with
  | 0 => .array .int
  | _ => .int
abbrev wsX80 : List Cond := u_ws RX8 TX8 2
theorem nmX8 : ∀ a, a < 2 → ∀ b, b < 2 → a ≠ b → (TX8 a).2.1 ≠ (TX8 b).2.1 := by decide +kernel
theorem tyX8_ok : ∀ k, k < 2 → parseFieldDescriptor (TX8 k).2.2.1 = some (tyX8 k) := by decide +kernel
abbrev cX8_init : ByteArray := prog_10_method_1_code
def yX8_init : MethodName := ⟨RX8, "<init>", "()V"⟩
abbrev cX8_append : ByteArray := prog_10_method_2_code
def yX8_append : MethodName := ⟨RX8, "append", "(I)Z"⟩
abbrev cX8_length : ByteArray := prog_10_method_3_code
def yX8_length : MethodName := ⟨RX8, "length", "()I"⟩
abbrev cX8_at : ByteArray := prog_10_method_4_code
def yX8_at : MethodName := ⟨RX8, "at", "(I)I"⟩
abbrev cX8_clear : ByteArray := prog_10_method_5_code
def yX8_clear : MethodName := ⟨RX8, "clear", "()V"⟩
def RX9 : String := "OnceProver$Ways"
def TX9 : u_T := fun k => match k with
  | 0 => ("OnceProver$Ways", "plan", "LOnceProver$Plan;", true)
  | 1 => ("OnceProver$Ways", "reach", "LOnceProver$Reach;", true)
  | 2 => ("OnceProver$Ways", "counted", "[J", true)
  | _ => ("OnceProver$Ways", "stamp", "J", false)
def tyX9 : Nat → FieldType := fun k => match k with
  | 0 => .object "OnceProver$Plan"
  | 1 => .object "OnceProver$Reach"
  | 2 => .array .long
  | _ => .long
abbrev wsX90 : List Cond := u_ws RX9 TX9 4
theorem nmX9 : ∀ a, a < 4 → ∀ b, b < 4 → a ≠ b → (TX9 a).2.1 ≠ (TX9 b).2.1 := by decide +kernel
theorem tyX9_ok : ∀ k, k < 4 → parseFieldDescriptor (TX9 k).2.2.1 = some (tyX9 k) := by decide +kernel
abbrev cX9_init : ByteArray := prog_11_method_1_code
def yX9_init : MethodName := ⟨RX9, "<init>", "(LOnceProver$Plan;LOnceProver$Reach;)V"⟩
abbrev cX9_forget : ByteArray := prog_11_method_2_code
def yX9_forget : MethodName := ⟨RX9, "forget", "()V"⟩
abbrev cX9_number : ByteArray := prog_11_method_3_code
def yX9_number : MethodName := ⟨RX9, "number", "(II)I"⟩
abbrev cX9_tally : ByteArray := prog_11_method_4_code
def yX9_tally : MethodName := ⟨RX9, "tally", "(III)J"⟩
abbrev cX9_tallyByKind : ByteArray := prog_11_method_5_code
def yX9_tallyByKind : MethodName := ⟨RX9, "tallyByKind", "(III)J"⟩
abbrev cX9_tallySplits : ByteArray := prog_11_method_6_code
def yX9_tallySplits : MethodName := ⟨RX9, "tallySplits", "(IIII)J"⟩
abbrev cX9_tallyAtom : ByteArray := prog_11_method_7_code
def yX9_tallyAtom : MethodName := ⟨RX9, "tallyAtom", "(CII)J"⟩
abbrev cX9_tallyFace : ByteArray := prog_11_method_8_code
def yX9_tallyFace : MethodName := ⟨RX9, "tallyFace", "(III)J"⟩
abbrev cX9_capped : ByteArray := prog_11_method_9_code
def yX9_capped : MethodName := ⟨RX9, "capped", "(J)J"⟩
def RX10 : String := "OnceProver"
def TX10 : u_T := fun k => match k with
  | 0 => ("OnceProver", "text", "LOnceProver$Text;", true)
  | 1 => ("OnceProver", "stock", "LOnceProver$Stock;", true)
  | 2 => ("OnceProver", "saved", "[LOnceProver$Stock;", true)
  | 3 => ("OnceProver", "sketch", "LOnceProver$Plan;", true)
  | 4 => ("OnceProver", "plan", "LOnceProver$Plan;", true)
  | 5 => ("OnceProver", "reach", "LOnceProver$Reach;", true)
  | 6 => ("OnceProver", "tallies", "LOnceProver$Ways;", true)
  | 7 => ("OnceProver", "firstProof", "LOnceProver$FirstProof;", true)
  | 8 => ("OnceProver", "attempt", "LOnceProver$Trial;", true)
  | 9 => ("OnceProver", "judge", "LOnceProver$Judge;", true)
  | 10 => ("OnceProver", "lastFault", "I", false)
  | _ => ("OnceProver", "stale", "Z", false)
def tyX10 : Nat → FieldType := fun k => match k with
  | 0 => .object "OnceProver$Text"
  | 1 => .object "OnceProver$Stock"
  | 2 => .array (.object "OnceProver$Stock")
  | 3 => .object "OnceProver$Plan"
  | 4 => .object "OnceProver$Plan"
  | 5 => .object "OnceProver$Reach"
  | 6 => .object "OnceProver$Ways"
  | 7 => .object "OnceProver$FirstProof"
  | 8 => .object "OnceProver$Trial"
  | 9 => .object "OnceProver$Judge"
  | 10 => .int
  | _ => .boolean
abbrev wsX100 : List Cond := u_ws RX10 TX10 12
theorem nmX10 : ∀ a, a < 12 → ∀ b, b < 12 → a ≠ b → (TX10 a).2.1 ≠ (TX10 b).2.1 := by decide +kernel
theorem tyX10_ok : ∀ k, k < 12 → parseFieldDescriptor (TX10 k).2.2.1 = some (tyX10 k) := by decide +kernel
abbrev cX10_init : ByteArray := prog_1_method_1_code
def yX10_init : MethodName := ⟨RX10, "<init>", "()V"⟩
abbrev cX10_say : ByteArray := prog_1_method_2_code
def yX10_say : MethodName := ⟨RX10, "say", "(I)I"⟩
abbrev cX10_wipe : ByteArray := prog_1_method_3_code
def yX10_wipe : MethodName := ⟨RX10, "wipe", "()I"⟩
abbrev cX10_resource : ByteArray := prog_1_method_4_code
def yX10_resource : MethodName := ⟨RX10, "resource", "()I"⟩
abbrev cX10_well : ByteArray := prog_1_method_5_code
def yX10_well : MethodName := ⟨RX10, "well", "()I"⟩
abbrev cX10_goal : ByteArray := prog_1_method_6_code
def yX10_goal : MethodName := ⟨RX10, "goal", "()I"⟩
abbrev cX10_fault : ByteArray := prog_1_method_7_code
def yX10_fault : MethodName := ⟨RX10, "fault", "()I"⟩
abbrev cX10_drop : ByteArray := prog_1_method_8_code
def yX10_drop : MethodName := ⟨RX10, "drop", "(II)I"⟩
abbrev cX10_height : ByteArray := prog_1_method_9_code
def yX10_height : MethodName := ⟨RX10, "height", "(I)I"⟩
abbrev cX10_left : ByteArray := prog_1_method_10_code
def yX10_left : MethodName := ⟨RX10, "left", "(II)I"⟩
abbrev cX10_ways : ByteArray := prog_1_method_11_code
def yX10_ways : MethodName := ⟨RX10, "ways", "(II)I"⟩
abbrev cX10_fewest : ByteArray := prog_1_method_12_code
def yX10_fewest : MethodName := ⟨RX10, "fewest", "()I"⟩
abbrev cX10_needed : ByteArray := prog_1_method_13_code
def yX10_needed : MethodName := ⟨RX10, "needed", "()I"⟩
abbrev cX10_term : ByteArray := prog_1_method_14_code
def yX10_term : MethodName := ⟨RX10, "term", "(I)I"⟩
abbrev cX10_uses : ByteArray := prog_1_method_15_code
def yX10_uses : MethodName := ⟨RX10, "uses", "(II)I"⟩
abbrev cX10_put : ByteArray := prog_1_method_16_code
def yX10_put : MethodName := ⟨RX10, "put", "(I)I"⟩
abbrev cX10_trial : ByteArray := prog_1_method_17_code
def yX10_trial : MethodName := ⟨RX10, "trial", "(I)I"⟩
abbrev cX10_check : ByteArray := prog_1_method_18_code
def yX10_check : MethodName := ⟨RX10, "check", "(I)I"⟩
abbrev cX10_image : ByteArray := prog_1_method_19_code
def yX10_image : MethodName := ⟨RX10, "image", "(I)I"⟩
abbrev cX10_restore : ByteArray := prog_1_method_20_code
def yX10_restore : MethodName := ⟨RX10, "restore", "(I)I"⟩
abbrev cX10_count : ByteArray := prog_1_method_21_code
def yX10_count : MethodName := ⟨RX10, "count", "(I)I"⟩
abbrev cX10_readText : ByteArray := prog_1_method_22_code
def yX10_readText : MethodName := ⟨RX10, "readText", "(Z)LOnceProver$Item;"⟩
abbrev cX10_takeOffer : ByteArray := prog_1_method_23_code
def yX10_takeOffer : MethodName := ⟨RX10, "takeOffer", "(II)I"⟩
abbrev cX10_settle : ByteArray := prog_1_method_24_code
def yX10_settle : MethodName := ⟨RX10, "settle", "(ILOnceProver$Item;)V"⟩
abbrev cX10_dropNumbered : ByteArray := prog_1_method_25_code
def yX10_dropNumbered : MethodName := ⟨RX10, "dropNumbered", "(III)I"⟩
abbrev cX10_dropGoal : ByteArray := prog_1_method_26_code
def yX10_dropGoal : MethodName := ⟨RX10, "dropGoal", "()I"⟩
abbrev cX10_hasGoal : ByteArray := prog_1_method_27_code
def yX10_hasGoal : MethodName := ⟨RX10, "hasGoal", "()Z"⟩
abbrev cX10_allResources : ByteArray := prog_1_method_28_code
def yX10_allResources : MethodName := ⟨RX10, "allResources", "()I"⟩
abbrev cX10_isSetOfResources : ByteArray := prog_1_method_29_code
def yX10_isSetOfResources : MethodName := ⟨RX10, "isSetOfResources", "(I)Z"⟩
abbrev cX10_isProvable : ByteArray := prog_1_method_30_code
def yX10_isProvable : MethodName := ⟨RX10, "isProvable", "(I)Z"⟩
abbrev cX10_savedPlaces : ByteArray := prog_1_method_31_code
def yX10_savedPlaces : MethodName := ⟨RX10, "savedPlaces", "()I"⟩
abbrev cX10_prepare : ByteArray := prog_1_method_32_code
def yX10_prepare : MethodName := ⟨RX10, "prepare", "()V"⟩
abbrev cX10_partsOf : ByteArray := prog_1_method_33_code
def yX10_partsOf : MethodName := ⟨RX10, "partsOf", "(I)I"⟩
abbrev cX10_nextPart : ByteArray := prog_1_method_34_code
def yX10_nextPart : MethodName := ⟨RX10, "nextPart", "(II)I"⟩
def RX11 : String := "OnceProverModel"
def TX11 : u_T := fun k => match k with
  | 0 => ("OnceProverModel", "texts", "[I", true)
  | 1 => ("OnceProverModel", "sizes", "[I", true)
  | 2 => ("OnceProverModel", "fault", "I", false)
  | 3 => ("OnceProverModel", "trial", "[I", true)
  | 4 => ("OnceProverModel", "trials", "I", false)
  | 5 => ("OnceProverModel", "nodes", "I", false)
  | 6 => ("OnceProverModel", "loans", "I", false)
  | 7 => ("OnceProverModel", "kinds", "[I", true)
  | 8 => ("OnceProverModel", "ones", "[I", true)
  | 9 => ("OnceProverModel", "others", "[I", true)
  | 10 => ("OnceProverModel", "root", "I", false)
  | 11 => ("OnceProverModel", "faces", "[I", true)
  | 12 => ("OnceProverModel", "heads", "[I", true)
  | 13 => ("OnceProverModel", "bodies", "[I", true)
  | 14 => ("OnceProverModel", "open", "[I", true)
  | 15 => ("OnceProverModel", "openNode", "[I", true)
  | 16 => ("OnceProverModel", "openOffer", "[I", true)
  | 17 => ("OnceProverModel", "openFaces", "[I", true)
  | 18 => ("OnceProverModel", "high", "I", false)
  | 19 => ("OnceProverModel", "next", "I", false)
  | 20 => ("OnceProverModel", "lays", "Z", false)
  | 21 => ("OnceProverModel", "isOld", "Z", false)
  | 22 => ("OnceProverModel", "least", "[I", true)
  | 23 => ("OnceProverModel", "before", "[J", true)
  | 24 => ("OnceProverModel", "after", "[J", true)
  | 25 => ("OnceProverModel", "way", "[I", true)
  | 26 => ("OnceProverModel", "long1", "I", false)
  | 27 => ("OnceProverModel", "stillNode", "[I", true)
  | 28 => ("OnceProverModel", "stillSet", "[I", true)
  | 29 => ("OnceProverModel", "stillHeight", "[I", true)
  | 30 => ("OnceProverModel", "still", "I", false)
  | 31 => ("OnceProverModel", "taken", "I", false)
  | 32 => ("OnceProverModel", "deepest", "I", false)
  | 33 => ("OnceProverModel", "image", "[I", true)
  | 34 => ("OnceProverModel", "imageSizes", "[I", true)
  | _ => ("OnceProverModel", "isKept", "[Z", true)
def tyX11 : Nat → FieldType := fun k => match k with
  | 0 => .array .int
  | 1 => .array .int
  | 2 => .int
  | 3 => .array .int
  | 4 => .int
  | 5 => .int
  | 6 => .int
  | 7 => .array .int
  | 8 => .array .int
  | 9 => .array .int
  | 10 => .int
  | 11 => .array .int
  | 12 => .array .int
  | 13 => .array .int
  | 14 => .array .int
  | 15 => .array .int
  | 16 => .array .int
  | 17 => .array .int
  | 18 => .int
  | 19 => .int
  | 20 => .boolean
  | 21 => .boolean
  | 22 => .array .int
  | 23 => .array .long
  | 24 => .array .long
  | 25 => .array .int
  | 26 => .int
  | 27 => .array .int
  | 28 => .array .int
  | 29 => .array .int
  | 30 => .int
  | 31 => .int
  | 32 => .int
  | 33 => .array .int
  | 34 => .array .int
  | _ => .array .boolean
abbrev wsX110 : List Cond := u_ws RX11 TX11 36
theorem nmX11 : ∀ a, a < 36 → ∀ b, b < 36 → a ≠ b → (TX11 a).2.1 ≠ (TX11 b).2.1 := by decide +kernel
theorem tyX11_ok : ∀ k, k < 36 → parseFieldDescriptor (TX11 k).2.2.1 = some (tyX11 k) := by decide +kernel
abbrev cX11_init : ByteArray := prog_13_method_1_code
def yX11_init : MethodName := ⟨RX11, "<init>", "()V"⟩
abbrev cX11_in : ByteArray := prog_13_method_2_code
def yX11_in : MethodName := ⟨RX11, "in", "(III)Z"⟩
abbrev cX11_has : ByteArray := prog_13_method_3_code
def yX11_has : MethodName := ⟨RX11, "has", "(II)Z"⟩
abbrev cX11_push : ByteArray := prog_13_method_4_code
def yX11_push : MethodName := ⟨RX11, "push", "(III)V"⟩
abbrev cX11_begin : ByteArray := prog_13_method_5_code
def yX11_begin : MethodName := ⟨RX11, "begin", "(II)I"⟩
abbrev cX11_complete : ByteArray := prog_13_method_6_code
def yX11_complete : MethodName := ⟨RX11, "complete", "()V"⟩
abbrev cX11_isLetter : ByteArray := prog_13_method_7_code
def yX11_isLetter : MethodName := ⟨RX11, "isLetter", "(I)Z"⟩
abbrev cX11_readGoal : ByteArray := prog_13_method_8_code
def yX11_readGoal : MethodName := ⟨RX11, "readGoal", "(I)Z"⟩
abbrev cX11_beginLoan : ByteArray := prog_13_method_9_code
def yX11_beginLoan : MethodName := ⟨RX11, "beginLoan", "()V"⟩
abbrev cX11_readSign : ByteArray := prog_13_method_10_code
def yX11_readSign : MethodName := ⟨RX11, "readSign", "(I)Z"⟩
abbrev cX11_readHead : ByteArray := prog_13_method_11_code
def yX11_readHead : MethodName := ⟨RX11, "readHead", "(I)Z"⟩
abbrev cX11_readBehind : ByteArray := prog_13_method_12_code
def yX11_readBehind : MethodName := ⟨RX11, "readBehind", "(I)Z"⟩
abbrev cX11_reads : ByteArray := prog_13_method_13_code
def yX11_reads : MethodName := ⟨RX11, "reads", "(I)Z"⟩
abbrev cX11_read : ByteArray := prog_13_method_14_code
def yX11_read : MethodName := ⟨RX11, "read", "(II)I"⟩
abbrev cX11_offerOf : ByteArray := prog_13_method_15_code
def yX11_offerOf : MethodName := ⟨RX11, "offerOf", "(I)I"⟩
abbrev cX11_readAll : ByteArray := prog_13_method_16_code
def yX11_readAll : MethodName := ⟨RX11, "readAll", "(ZI)V"⟩
abbrev cX11_say : ByteArray := prog_13_method_17_code
def yX11_say : MethodName := ⟨RX11, "say", "(I)I"⟩
abbrev cX11_wipe : ByteArray := prog_13_method_18_code
def yX11_wipe : MethodName := ⟨RX11, "wipe", "()I"⟩
abbrev cX11_take : ByteArray := prog_13_method_19_code
def yX11_take : MethodName := ⟨RX11, "take", "(IIZ)I"⟩
abbrev cX11_resource : ByteArray := prog_13_method_20_code
def yX11_resource : MethodName := ⟨RX11, "resource", "()I"⟩
abbrev cX11_well : ByteArray := prog_13_method_21_code
def yX11_well : MethodName := ⟨RX11, "well", "()I"⟩
abbrev cX11_goal : ByteArray := prog_13_method_22_code
def yX11_goal : MethodName := ⟨RX11, "goal", "()I"⟩
abbrev cX11_fault : ByteArray := prog_13_method_23_code
def yX11_fault : MethodName := ⟨RX11, "fault", "()I"⟩
abbrev cX11_there : ByteArray := prog_13_method_24_code
def yX11_there : MethodName := ⟨RX11, "there", "(II)I"⟩
abbrev cX11_bits : ByteArray := prog_13_method_25_code
def yX11_bits : MethodName := ⟨RX11, "bits", "(I)I"⟩
abbrev cX11_drop : ByteArray := prog_13_method_26_code
def yX11_drop : MethodName := ⟨RX11, "drop", "(II)I"⟩
abbrev cX11_lay : ByteArray := prog_13_method_27_code
def yX11_lay : MethodName := ⟨RX11, "lay", "()V"⟩
abbrev cX11_isBelow : ByteArray := prog_13_method_28_code
def yX11_isBelow : MethodName := ⟨RX11, "isBelow", "(III)Z"⟩
abbrev cX11_isTold : ByteArray := prog_13_method_29_code
def yX11_isTold : MethodName := ⟨RX11, "isTold", "(IIIII)Z"⟩
abbrev cX11_firstFor : ByteArray := prog_13_method_30_code
def yX11_firstFor : MethodName := ⟨RX11, "firstFor", "(III)I"⟩
abbrev cX11_firstPart : ByteArray := prog_13_method_31_code
def yX11_firstPart : MethodName := ⟨RX11, "firstPart", "(III)I"⟩
abbrev cX11_isReached : ByteArray := prog_13_method_32_code
def yX11_isReached : MethodName := ⟨RX11, "isReached", "(III)Z"⟩
abbrev cX11_isGoal : ByteArray := prog_13_method_33_code
def yX11_isGoal : MethodName := ⟨RX11, "isGoal", "()Z"⟩
abbrev cX11_all : ByteArray := prog_13_method_34_code
def yX11_all : MethodName := ⟨RX11, "all", "()I"⟩
abbrev cX11_heightOf : ByteArray := prog_13_method_35_code
def yX11_heightOf : MethodName := ⟨RX11, "heightOf", "(I)I"⟩
abbrev cX11_areThere : ByteArray := prog_13_method_36_code
def yX11_areThere : MethodName := ⟨RX11, "areThere", "(I)Z"⟩
abbrev cX11_height : ByteArray := prog_13_method_37_code
def yX11_height : MethodName := ⟨RX11, "height", "(I)I"⟩
abbrev cX11_left : ByteArray := prog_13_method_38_code
def yX11_left : MethodName := ⟨RX11, "left", "(II)I"⟩
abbrev cX11_capped : ByteArray := prog_13_method_39_code
def yX11_capped : MethodName := ⟨RX11, "capped", "(J)J"⟩
abbrev cX11_waysBelow : ByteArray := prog_13_method_40_code
def yX11_waysBelow : MethodName := ⟨RX11, "waysBelow", "(II)J"⟩
abbrev cX11_waysBy : ByteArray := prog_13_method_41_code
def yX11_waysBy : MethodName := ⟨RX11, "waysBy", "(III)J"⟩
abbrev cX11_waysOfAtom : ByteArray := prog_13_method_42_code
def yX11_waysOfAtom : MethodName := ⟨RX11, "waysOfAtom", "(II)J"⟩
abbrev cX11_waysOfParts : ByteArray := prog_13_method_43_code
def yX11_waysOfParts : MethodName := ⟨RX11, "waysOfParts", "(II)J"⟩
abbrev cX11_waysOf : ByteArray := prog_13_method_44_code
def yX11_waysOf : MethodName := ⟨RX11, "waysOf", "(II)J"⟩
abbrev cX11_ways : ByteArray := prog_13_method_45_code
def yX11_ways : MethodName := ⟨RX11, "ways", "(II)I"⟩
abbrev cX11_fewest : ByteArray := prog_13_method_46_code
def yX11_fewest : MethodName := ⟨RX11, "fewest", "()I"⟩
abbrev cX11_needed : ByteArray := prog_13_method_47_code
def yX11_needed : MethodName := ⟨RX11, "needed", "()I"⟩
abbrev cX11_await : ByteArray := prog_13_method_48_code
def yX11_await : MethodName := ⟨RX11, "await", "(III)V"⟩
abbrev cX11_tell : ByteArray := prog_13_method_49_code
def yX11_tell : MethodName := ⟨RX11, "tell", "(I)V"⟩
abbrev cX11_tellAtom : ByteArray := prog_13_method_50_code
def yX11_tellAtom : MethodName := ⟨RX11, "tellAtom", "(III)V"⟩
abbrev cX11_tellOne : ByteArray := prog_13_method_51_code
def yX11_tellOne : MethodName := ⟨RX11, "tellOne", "(III)V"⟩
abbrev cX11_layWay : ByteArray := prog_13_method_52_code
def yX11_layWay : MethodName := ⟨RX11, "layWay", "()Z"⟩
abbrev cX11_term : ByteArray := prog_13_method_53_code
def yX11_term : MethodName := ⟨RX11, "term", "(I)I"⟩
abbrev cX11_uses : ByteArray := prog_13_method_54_code
def yX11_uses : MethodName := ⟨RX11, "uses", "(II)I"⟩
abbrev cX11_put : ByteArray := prog_13_method_55_code
def yX11_put : MethodName := ⟨RX11, "put", "(I)I"⟩
abbrev cX11_trial : ByteArray := prog_13_method_56_code
def yX11_trial : MethodName := ⟨RX11, "trial", "(I)I"⟩
abbrev cX11_checkAtom : ByteArray := prog_13_method_57_code
def yX11_checkAtom : MethodName := ⟨RX11, "checkAtom", "(III)I"⟩
abbrev cX11_checkParts : ByteArray := prog_13_method_58_code
def yX11_checkParts : MethodName := ⟨RX11, "checkParts", "(III)I"⟩
abbrev cX11_checkPlus : ByteArray := prog_13_method_59_code
def yX11_checkPlus : MethodName := ⟨RX11, "checkPlus", "(III)I"⟩
abbrev cX11_checkOne : ByteArray := prog_13_method_60_code
def yX11_checkOne : MethodName := ⟨RX11, "checkOne", "(III)I"⟩
abbrev cX11_checked : ByteArray := prog_13_method_61_code
def yX11_checked : MethodName := ⟨RX11, "checked", "()I"⟩
abbrev cX11_check : ByteArray := prog_13_method_62_code
def yX11_check : MethodName := ⟨RX11, "check", "(I)I"⟩
abbrev cX11_image : ByteArray := prog_13_method_63_code
def yX11_image : MethodName := ⟨RX11, "image", "(I)I"⟩
abbrev cX11_restore : ByteArray := prog_13_method_64_code
def yX11_restore : MethodName := ⟨RX11, "restore", "(I)I"⟩
abbrev cX11_count : ByteArray := prog_13_method_65_code
def yX11_count : MethodName := ⟨RX11, "count", "(I)I"⟩
def RJ6 : String := "java/lang/Integer"
abbrev cJ6_bitCount_0f7a4 : ByteArray := prog_14_method_49_code
def yJ6_bitCount_0f7a4 : MethodName := ⟨RJ6, "bitCount", "(I)I"⟩
def RJ9 : String := "java/lang/Math"
abbrev cJ9_max_7cf53 : ByteArray := prog_15_method_65_code
def yJ9_max_7cf53 : MethodName := ⟨RJ9, "max", "(II)I"⟩
abbrev cJ9_min_7cf53 : ByteArray := prog_15_method_69_code
def yJ9_min_7cf53 : MethodName := ⟨RJ9, "min", "(II)I"⟩
abbrev cJ9_min_f86c9 : ByteArray := prog_15_method_70_code
def yJ9_min_f86c9 : MethodName := ⟨RJ9, "min", "(JJ)J"⟩
def RL : String := "OnceProverLaw"
abbrev cL_law : ByteArray := code
def yL_law : MethodName := ⟨RL, "law", "([I)Z"⟩
abbrev vwCl : List vw_C := [(RX0, TX0, 6), (RX1, TX1, 3), (RX2, TX2, 5), (RX3, TX3, 8), (RX4, TX4, 5), (RX5, TX5, 4), (RX6, TX6, 1), (RX7, TX7, 2), (RX8, TX8, 2), (RX9, TX9, 4), (RX10, TX10, 12), (RX11, TX11, 36)]
def gtbl : List Cond := lw_tbl.filter goodWord
theorem g_of {w : Cond} (h : w ∈ lw_tbl) (g : goodWord w = true) : w ∈ gtbl := List.mem_filter.mpr ⟨h, g⟩
def plX0 : List Nat := [229, 231, 233, 235, 237, 239]
theorem ilX0 : ∀ k, k < 6 → lw_tbl[plX0.getD k 0]? = some (u_lay RX0 TX0 k) ∧ goodWord (u_lay RX0 TX0 k) = true := by decide +kernel
theorem gwX0 : ∀ w ∈ u_ws RX0 TX0 6, w ∈ gtbl := fun w h => by
  obtain ⟨k, hk, rfl⟩ := List.mem_map.mp h
  have hk := List.mem_range.mp hk
  exact g_of (List.mem_of_getElem? (ilX0 k hk).1) (ilX0 k hk).2
def plX1 : List Nat := [466, 468, 470]
theorem ilX1 : ∀ k, k < 3 → lw_tbl[plX1.getD k 0]? = some (u_lay RX1 TX1 k) ∧ goodWord (u_lay RX1 TX1 k) = true := by decide +kernel
theorem gwX1 : ∀ w ∈ u_ws RX1 TX1 3, w ∈ gtbl := fun w h => by
  obtain ⟨k, hk, rfl⟩ := List.mem_map.mp h
  have hk := List.mem_range.mp hk
  exact g_of (List.mem_of_getElem? (ilX1 k hk).1) (ilX1 k hk).2
def plX2 : List Nat := [266, 268, 270, 272, 274]
theorem ilX2 : ∀ k, k < 5 → lw_tbl[plX2.getD k 0]? = some (u_lay RX2 TX2 k) ∧ goodWord (u_lay RX2 TX2 k) = true := by decide +kernel
theorem gwX2 : ∀ w ∈ u_ws RX2 TX2 5, w ∈ gtbl := fun w h => by
  obtain ⟨k, hk, rfl⟩ := List.mem_map.mp h
  have hk := List.mem_range.mp hk
  exact g_of (List.mem_of_getElem? (ilX2 k hk).1) (ilX2 k hk).2
def plX3 : List Nat := [156, 158, 160, 162, 164, 166, 168, 170]
theorem ilX3 : ∀ k, k < 8 → lw_tbl[plX3.getD k 0]? = some (u_lay RX3 TX3 k) ∧ goodWord (u_lay RX3 TX3 k) = true := by decide +kernel
theorem gwX3 : ∀ w ∈ u_ws RX3 TX3 8, w ∈ gtbl := fun w h => by
  obtain ⟨k, hk, rfl⟩ := List.mem_map.mp h
  have hk := List.mem_range.mp hk
  exact g_of (List.mem_of_getElem? (ilX3 k hk).1) (ilX3 k hk).2
def plX4 : List Nat := [185, 187, 189, 191, 193]
theorem ilX4 : ∀ k, k < 5 → lw_tbl[plX4.getD k 0]? = some (u_lay RX4 TX4 k) ∧ goodWord (u_lay RX4 TX4 k) = true := by decide +kernel
theorem gwX4 : ∀ w ∈ u_ws RX4 TX4 5, w ∈ gtbl := fun w h => by
  obtain ⟨k, hk, rfl⟩ := List.mem_map.mp h
  have hk := List.mem_range.mp hk
  exact g_of (List.mem_of_getElem? (ilX4 k hk).1) (ilX4 k hk).2
def plX5 : List Nat := [370, 372, 374, 376]
theorem ilX5 : ∀ k, k < 4 → lw_tbl[plX5.getD k 0]? = some (u_lay RX5 TX5 k) ∧ goodWord (u_lay RX5 TX5 k) = true := by decide +kernel
theorem gwX5 : ∀ w ∈ u_ws RX5 TX5 4, w ∈ gtbl := fun w h => by
  obtain ⟨k, hk, rfl⟩ := List.mem_map.mp h
  have hk := List.mem_range.mp hk
  exact g_of (List.mem_of_getElem? (ilX5 k hk).1) (ilX5 k hk).2
def plX6 : List Nat := [138]
theorem ilX6 : ∀ k, k < 1 → lw_tbl[plX6.getD k 0]? = some (u_lay RX6 TX6 k) ∧ goodWord (u_lay RX6 TX6 k) = true := by decide +kernel
theorem gwX6 : ∀ w ∈ u_ws RX6 TX6 1, w ∈ gtbl := fun w h => by
  obtain ⟨k, hk, rfl⟩ := List.mem_map.mp h
  have hk := List.mem_range.mp hk
  exact g_of (List.mem_of_getElem? (ilX6 k hk).1) (ilX6 k hk).2
def plX7 : List Nat := [123, 125]
theorem ilX7 : ∀ k, k < 2 → lw_tbl[plX7.getD k 0]? = some (u_lay RX7 TX7 k) ∧ goodWord (u_lay RX7 TX7 k) = true := by decide +kernel
theorem gwX7 : ∀ w ∈ u_ws RX7 TX7 2, w ∈ gtbl := fun w h => by
  obtain ⟨k, hk, rfl⟩ := List.mem_map.mp h
  have hk := List.mem_range.mp hk
  exact g_of (List.mem_of_getElem? (ilX7 k hk).1) (ilX7 k hk).2
def plX8 : List Nat := [250, 252]
theorem ilX8 : ∀ k, k < 2 → lw_tbl[plX8.getD k 0]? = some (u_lay RX8 TX8 k) ∧ goodWord (u_lay RX8 TX8 k) = true := by decide +kernel
theorem gwX8 : ∀ w ∈ u_ws RX8 TX8 2, w ∈ gtbl := fun w h => by
  obtain ⟨k, hk, rfl⟩ := List.mem_map.mp h
  have hk := List.mem_range.mp hk
  exact g_of (List.mem_of_getElem? (ilX8 k hk).1) (ilX8 k hk).2
def plX9 : List Nat := [208, 210, 212, 214]
theorem ilX9 : ∀ k, k < 4 → lw_tbl[plX9.getD k 0]? = some (u_lay RX9 TX9 k) ∧ goodWord (u_lay RX9 TX9 k) = true := by decide +kernel
theorem gwX9 : ∀ w ∈ u_ws RX9 TX9 4, w ∈ gtbl := fun w h => by
  obtain ⟨k, hk, rfl⟩ := List.mem_map.mp h
  have hk := List.mem_range.mp hk
  exact g_of (List.mem_of_getElem? (ilX9 k hk).1) (ilX9 k hk).2
def plX10 : List Nat := [289, 291, 293, 295, 297, 299, 301, 303, 305, 307, 309, 311]
theorem ilX10 : ∀ k, k < 12 → lw_tbl[plX10.getD k 0]? = some (u_lay RX10 TX10 k) ∧ goodWord (u_lay RX10 TX10 k) = true := by decide +kernel
theorem gwX10 : ∀ w ∈ u_ws RX10 TX10 12, w ∈ gtbl := fun w h => by
  obtain ⟨k, hk, rfl⟩ := List.mem_map.mp h
  have hk := List.mem_range.mp hk
  exact g_of (List.mem_of_getElem? (ilX10 k hk).1) (ilX10 k hk).2
def plX11 : List Nat := [988, 990, 992, 994, 996, 998, 1000, 1002, 1004, 1006, 1008, 1010, 1012, 1014, 1016, 1018, 1020, 1022, 1024, 1026, 1028, 1030, 1032, 1034, 1036, 1038, 1040, 1042, 1044, 1046, 1048, 1050, 1052, 1054, 1056, 1058]
theorem ilX11 : ∀ k, k < 36 → lw_tbl[plX11.getD k 0]? = some (u_lay RX11 TX11 k) ∧ goodWord (u_lay RX11 TX11 k) = true := by decide +kernel
theorem gwX11 : ∀ w ∈ u_ws RX11 TX11 36, w ∈ gtbl := fun w h => by
  obtain ⟨k, hk, rfl⟩ := List.mem_map.mp h
  have hk := List.mem_range.mp hk
  exact g_of (List.mem_of_getElem? (ilX11 k hk).1) (ilX11 k hk).2
def kR : Nat → String := fun k => match k with
  | 0 => RX0
  | 1 => RX1
  | 2 => RX2
  | 3 => RX3
  | 4 => RX4
  | 5 => RX5
  | 6 => RX6
  | 7 => RX7
  | 8 => RX8
  | 9 => RX9
  | 10 => RX10
  | 11 => RX11
  | _ => ""
def kT : Nat → u_T := fun k => match k with
  | 0 => TX0
  | 1 => TX1
  | 2 => TX2
  | 3 => TX3
  | 4 => TX4
  | 5 => TX5
  | 6 => TX6
  | 7 => TX7
  | 8 => TX8
  | 9 => TX9
  | 10 => TX10
  | 11 => TX11
  | _ => TX0
def kN : Nat → Nat := fun k => match k with
  | 0 => 6
  | 1 => 3
  | 2 => 5
  | 3 => 8
  | 4 => 5
  | 5 => 4
  | 6 => 1
  | 7 => 2
  | 8 => 2
  | 9 => 4
  | 10 => 12
  | 11 => 36
  | _ => 0
def kty : Nat → Nat → FieldType := fun k => match k with
  | 0 => tyX0
  | 1 => tyX1
  | 2 => tyX2
  | 3 => tyX3
  | 4 => tyX4
  | 5 => tyX5
  | 6 => tyX6
  | 7 => tyX7
  | 8 => tyX8
  | 9 => tyX9
  | 10 => tyX10
  | 11 => tyX11
  | _ => tyX0
abbrev M_X0_init : MethodName × ByteArray × Nat × Option FieldType := (yX0_init, cX0_init, 3, none)
abbrev M_X0_forget : MethodName × ByteArray × Nat × Option FieldType := (yX0_forget, cX0_forget, 1, none)
abbrev M_X0_find : MethodName × ByteArray × Nat × Option FieldType := (yX0_find, cX0_find, 3, none)
abbrev M_X0_exists : MethodName × ByteArray × Nat × Option FieldType := (yX0_exists, cX0_exists, 1, some FieldType.boolean)
abbrev M_X0_length : MethodName × ByteArray × Nat × Option FieldType := (yX0_length, cX0_length, 1, some FieldType.int)
abbrev M_X0_at : MethodName × ByteArray × Nat × Option FieldType := (yX0_at, cX0_at, 2, some FieldType.int)
abbrev M_X0_usesOf : MethodName × ByteArray × Nat × Option FieldType := (yX0_usesOf, cX0_usesOf, 5, some FieldType.int)
abbrev M_X0_write : MethodName × ByteArray × Nat × Option FieldType := (yX0_write, cX0_write, 7, none)
abbrev M_X0_writeSplit : MethodName × ByteArray × Nat × Option FieldType := (yX0_writeSplit, cX0_writeSplit, 7, none)
abbrev M_X0_writeChoice : MethodName × ByteArray × Nat × Option FieldType := (yX0_writeChoice, cX0_writeChoice, 5, none)
abbrev M_X0_writeAtom : MethodName × ByteArray × Nat × Option FieldType := (yX0_writeAtom, cX0_writeAtom, 8, none)
abbrev M_X0_serves : MethodName × ByteArray × Nat × Option FieldType := (yX0_serves, cX0_serves, 4, some FieldType.boolean)
abbrev M_X0_append : MethodName × ByteArray × Nat × Option FieldType := (yX0_append, cX0_append, 2, none)
abbrev M_X0_numberOf : MethodName × ByteArray × Nat × Option FieldType := (yX0_numberOf, cX0_numberOf, 2, some FieldType.int)
abbrev M_X1_init : MethodName × ByteArray × Nat × Option FieldType := (yX1_init, cX1_init, 4, none)
abbrev M_X1_signs : MethodName × ByteArray × Nat × Option FieldType := (yX1_signs, cX1_signs, 1, some (FieldType.array FieldType.char))
abbrev M_X1_nodes : MethodName × ByteArray × Nat × Option FieldType := (yX1_nodes, cX1_nodes, 1, some FieldType.int)
abbrev M_X1_loans : MethodName × ByteArray × Nat × Option FieldType := (yX1_loans, cX1_loans, 1, some FieldType.int)
abbrev M_X2_init : MethodName × ByteArray × Nat × Option FieldType := (yX2_init, cX2_init, 3, none)
abbrev M_X2_judge : MethodName × ByteArray × Nat × Option FieldType := (yX2_judge, cX2_judge, 2, none)
abbrev M_X2_verdict : MethodName × ByteArray × Nat × Option FieldType := (yX2_verdict, cX2_verdict, 1, some FieldType.int)
abbrev M_X2_used : MethodName × ByteArray × Nat × Option FieldType := (yX2_used, cX2_used, 1, some FieldType.int)
abbrev M_X2_deepest : MethodName × ByteArray × Nat × Option FieldType := (yX2_deepest, cX2_deepest, 1, some FieldType.int)
abbrev M_X2_visit : MethodName × ByteArray × Nat × Option FieldType := (yX2_visit, cX2_visit, 5, none)
abbrev M_X2_visitSplit : MethodName × ByteArray × Nat × Option FieldType := (yX2_visitSplit, cX2_visitSplit, 5, none)
abbrev M_X2_visitChoice : MethodName × ByteArray × Nat × Option FieldType := (yX2_visitChoice, cX2_visitChoice, 5, none)
abbrev M_X2_visitLoan : MethodName × ByteArray × Nat × Option FieldType := (yX2_visitLoan, cX2_visitLoan, 5, none)
abbrev M_X2_visitAtom : MethodName × ByteArray × Nat × Option FieldType := (yX2_visitAtom, cX2_visitAtom, 9, none)
abbrev M_X2_offerOf : MethodName × ByteArray × Nat × Option FieldType := (yX2_offerOf, cX2_offerOf, 2, some FieldType.int)
abbrev M_X2_lacksNumber : MethodName × ByteArray × Nat × Option FieldType := (yX2_lacksNumber, cX2_lacksNumber, 1, some FieldType.boolean)
abbrev M_X2_refuseUnless : MethodName × ByteArray × Nat × Option FieldType := (yX2_refuseUnless, cX2_refuseUnless, 2, some FieldType.boolean)
abbrev M_X2_demandEmpty : MethodName × ByteArray × Nat × Option FieldType := (yX2_demandEmpty, cX2_demandEmpty, 2, none)
abbrev M_X3_init : MethodName × ByteArray × Nat × Option FieldType := (yX3_init, cX3_init, 1, none)
abbrev M_X3_clear : MethodName × ByteArray × Nat × Option FieldType := (yX3_clear, cX3_clear, 2, none)
abbrev M_X3_build : MethodName × ByteArray × Nat × Option FieldType := (yX3_build, cX3_build, 5, none)
abbrev M_X3_addNode : MethodName × ByteArray × Nat × Option FieldType := (yX3_addNode, cX3_addNode, 5, some FieldType.int)
abbrev M_X3_addLoan : MethodName × ByteArray × Nat × Option FieldType := (yX3_addLoan, cX3_addLoan, 2, some FieldType.int)
abbrev M_X3_setFace : MethodName × ByteArray × Nat × Option FieldType := (yX3_setFace, cX3_setFace, 5, none)
abbrev M_X3_nodes : MethodName × ByteArray × Nat × Option FieldType := (yX3_nodes, cX3_nodes, 1, some FieldType.int)
abbrev M_X3_loans : MethodName × ByteArray × Nat × Option FieldType := (yX3_loans, cX3_loans, 1, some FieldType.int)
abbrev M_X3_root : MethodName × ByteArray × Nat × Option FieldType := (yX3_root, cX3_root, 1, some FieldType.int)
abbrev M_X3_kind : MethodName × ByteArray × Nat × Option FieldType := (yX3_kind, cX3_kind, 2, some FieldType.char)
abbrev M_X3_first : MethodName × ByteArray × Nat × Option FieldType := (yX3_first, cX3_first, 2, some FieldType.int)
abbrev M_X3_second : MethodName × ByteArray × Nat × Option FieldType := (yX3_second, cX3_second, 2, some FieldType.int)
abbrev M_X3_loanBit : MethodName × ByteArray × Nat × Option FieldType := (yX3_loanBit, cX3_loanBit, 3, some FieldType.int)
abbrev M_X3_hasHead : MethodName × ByteArray × Nat × Option FieldType := (yX3_hasHead, cX3_hasHead, 4, some FieldType.boolean)
abbrev M_X3_body : MethodName × ByteArray × Nat × Option FieldType := (yX3_body, cX3_body, 3, some FieldType.int)
abbrev M_X3_singles : MethodName × ByteArray × Nat × Option FieldType := (yX3_singles, cX3_singles, 3, some FieldType.int)
abbrev M_X3_afterUse : MethodName × ByteArray × Nat × Option FieldType := (yX3_afterUse, cX3_afterUse, 3, some FieldType.int)
abbrev M_X3_isFace : MethodName × ByteArray × Nat × Option FieldType := (yX3_isFace, cX3_isFace, 2, some FieldType.boolean)
abbrev M_X3_isNode : MethodName × ByteArray × Nat × Option FieldType := (yX3_isNode, cX3_isNode, 2, some FieldType.boolean)
abbrev M_X4_init : MethodName × ByteArray × Nat × Option FieldType := (yX4_init, cX4_init, 4, none)
abbrev M_X4_compute : MethodName × ByteArray × Nat × Option FieldType := (yX4_compute, cX4_compute, 4, none)
abbrev M_X4_proves : MethodName × ByteArray × Nat × Option FieldType := (yX4_proves, cX4_proves, 4, some FieldType.boolean)
abbrev M_X4_leastHeight : MethodName × ByteArray × Nat × Option FieldType := (yX4_leastHeight, cX4_leastHeight, 4, some FieldType.int)
abbrev M_X4_findAllSets : MethodName × ByteArray × Nat × Option FieldType := (yX4_findAllSets, cX4_findAllSets, 4, none)
abbrev M_X4_fillRow : MethodName × ByteArray × Nat × Option FieldType := (yX4_fillRow, cX4_fillRow, 7, none)
abbrev M_X4_addAtom : MethodName × ByteArray × Nat × Option FieldType := (yX4_addAtom, cX4_addAtom, 8, none)
abbrev M_X4_addUnions : MethodName × ByteArray × Nat × Option FieldType := (yX4_addUnions, cX4_addUnions, 8, none)
abbrev M_X4_addMoved : MethodName × ByteArray × Nat × Option FieldType := (yX4_addMoved, cX4_addMoved, 9, none)
abbrev M_X4_addReduced : MethodName × ByteArray × Nat × Option FieldType := (yX4_addReduced, cX4_addReduced, 9, none)
abbrev M_X4_addShared : MethodName × ByteArray × Nat × Option FieldType := (yX4_addShared, cX4_addShared, 5, none)
abbrev M_X4_addAllSets : MethodName × ByteArray × Nat × Option FieldType := (yX4_addAllSets, cX4_addAllSets, 3, none)
abbrev M_X4_add : MethodName × ByteArray × Nat × Option FieldType := (yX4_add, cX4_add, 3, none)
abbrev M_X4_has : MethodName × ByteArray × Nat × Option FieldType := (yX4_has, cX4_has, 3, some FieldType.boolean)
abbrev M_X4_hasGrown : MethodName × ByteArray × Nat × Option FieldType := (yX4_hasGrown, cX4_hasGrown, 6, some FieldType.boolean)
abbrev M_X4_clearRow : MethodName × ByteArray × Nat × Option FieldType := (yX4_clearRow, cX4_clearRow, 3, none)
abbrev M_X4_wordAt : MethodName × ByteArray × Nat × Option FieldType := (yX4_wordAt, cX4_wordAt, 3, some FieldType.long)
abbrev M_X4_orWord : MethodName × ByteArray × Nat × Option FieldType := (yX4_orWord, cX4_orWord, 5, none)
abbrev M_X4_rowOf : MethodName × ByteArray × Nat × Option FieldType := (yX4_rowOf, cX4_rowOf, 2, some FieldType.int)
abbrev M_X5_init : MethodName × ByteArray × Nat × Option FieldType := (yX5_init, cX5_init, 3, none)
abbrev M_X5_readWholeGoal : MethodName × ByteArray × Nat × Option FieldType := (yX5_readWholeGoal, cX5_readWholeGoal, 2, some FieldType.int)
abbrev M_X5_readWholeOffer : MethodName × ByteArray × Nat × Option FieldType := (yX5_readWholeOffer, cX5_readWholeOffer, 2, none)
abbrev M_X5_failed : MethodName × ByteArray × Nat × Option FieldType := (yX5_failed, cX5_failed, 1, some FieldType.boolean)
abbrev M_X5_faultPlace : MethodName × ByteArray × Nat × Option FieldType := (yX5_faultPlace, cX5_faultPlace, 1, some FieldType.int)
abbrev M_X5_readGoal : MethodName × ByteArray × Nat × Option FieldType := (yX5_readGoal, cX5_readGoal, 3, some FieldType.int)
abbrev M_X5_readPair : MethodName × ByteArray × Nat × Option FieldType := (yX5_readPair, cX5_readPair, 5, some FieldType.int)
abbrev M_X5_readLoan : MethodName × ByteArray × Nat × Option FieldType := (yX5_readLoan, cX5_readLoan, 3, some FieldType.int)
abbrev M_X5_readOffer : MethodName × ByteArray × Nat × Option FieldType := (yX5_readOffer, cX5_readOffer, 4, none)
abbrev M_X5_readFace : MethodName × ByteArray × Nat × Option FieldType := (yX5_readFace, cX5_readFace, 6, none)
abbrev M_X5_next : MethodName × ByteArray × Nat × Option FieldType := (yX5_next, cX5_next, 1, some FieldType.char)
abbrev M_X5_expect : MethodName × ByteArray × Nat × Option FieldType := (yX5_expect, cX5_expect, 2, none)
abbrev M_X5_refuseMore : MethodName × ByteArray × Nat × Option FieldType := (yX5_refuseMore, cX5_refuseMore, 1, none)
abbrev M_X5_refuse : MethodName × ByteArray × Nat × Option FieldType := (yX5_refuse, cX5_refuse, 1, some FieldType.int)
abbrev M_X5_isAtom : MethodName × ByteArray × Nat × Option FieldType := (yX5_isAtom, cX5_isAtom, 1, some FieldType.boolean)
abbrev M_X6_init : MethodName × ByteArray × Nat × Option FieldType := (yX6_init, cX6_init, 1, none)
abbrev M_X6_at : MethodName × ByteArray × Nat × Option FieldType := (yX6_at, cX6_at, 2, some (.object RX1))
abbrev M_X6_set : MethodName × ByteArray × Nat × Option FieldType := (yX6_set, cX6_set, 3, none)
abbrev M_X6_copyFrom : MethodName × ByteArray × Nat × Option FieldType := (yX6_copyFrom, cX6_copyFrom, 3, none)
abbrev M_X6_firstFree : MethodName × ByteArray × Nat × Option FieldType := (yX6_firstFree, cX6_firstFree, 4, some FieldType.int)
abbrev M_X6_present : MethodName × ByteArray × Nat × Option FieldType := (yX6_present, cX6_present, 5, some FieldType.int)
abbrev M_X6_nodes : MethodName × ByteArray × Nat × Option FieldType := (yX6_nodes, cX6_nodes, 6, some FieldType.int)
abbrev M_X6_loans : MethodName × ByteArray × Nat × Option FieldType := (yX6_loans, cX6_loans, 6, some FieldType.int)
abbrev M_X6_hasRoom : MethodName × ByteArray × Nat × Option FieldType := (yX6_hasRoom, cX6_hasRoom, 6, some FieldType.boolean)
abbrev M_X7_init : MethodName × ByteArray × Nat × Option FieldType := (yX7_init, cX7_init, 1, none)
abbrev M_X7_append : MethodName × ByteArray × Nat × Option FieldType := (yX7_append, cX7_append, 2, some FieldType.boolean)
abbrev M_X7_length : MethodName × ByteArray × Nat × Option FieldType := (yX7_length, cX7_length, 1, some FieldType.int)
abbrev M_X7_copy : MethodName × ByteArray × Nat × Option FieldType := (yX7_copy, cX7_copy, 3, some (FieldType.array FieldType.char))
abbrev M_X7_clear : MethodName × ByteArray × Nat × Option FieldType := (yX7_clear, cX7_clear, 1, none)
abbrev M_X8_init : MethodName × ByteArray × Nat × Option FieldType := (yX8_init, cX8_init, 1, none)
abbrev M_X8_append : MethodName × ByteArray × Nat × Option FieldType := (yX8_append, cX8_append, 2, some FieldType.boolean)
abbrev M_X8_length : MethodName × ByteArray × Nat × Option FieldType := (yX8_length, cX8_length, 1, some FieldType.int)
abbrev M_X8_at : MethodName × ByteArray × Nat × Option FieldType := (yX8_at, cX8_at, 2, some FieldType.int)
abbrev M_X8_clear : MethodName × ByteArray × Nat × Option FieldType := (yX8_clear, cX8_clear, 1, none)
abbrev M_X9_init : MethodName × ByteArray × Nat × Option FieldType := (yX9_init, cX9_init, 3, none)
abbrev M_X9_forget : MethodName × ByteArray × Nat × Option FieldType := (yX9_forget, cX9_forget, 1, none)
abbrev M_X9_number : MethodName × ByteArray × Nat × Option FieldType := (yX9_number, cX9_number, 3, some FieldType.int)
abbrev M_X9_tally : MethodName × ByteArray × Nat × Option FieldType := (yX9_tally, cX9_tally, 5, some FieldType.long)
abbrev M_X9_tallyByKind : MethodName × ByteArray × Nat × Option FieldType := (yX9_tallyByKind, cX9_tallyByKind, 7, some FieldType.long)
abbrev M_X9_tallySplits : MethodName × ByteArray × Nat × Option FieldType := (yX9_tallySplits, cX9_tallySplits, 11, some FieldType.long)
abbrev M_X9_tallyAtom : MethodName × ByteArray × Nat × Option FieldType := (yX9_tallyAtom, cX9_tallyAtom, 9, some FieldType.long)
abbrev M_X9_tallyFace : MethodName × ByteArray × Nat × Option FieldType := (yX9_tallyFace, cX9_tallyFace, 4, some FieldType.long)
abbrev M_X9_capped : MethodName × ByteArray × Nat × Option FieldType := (yX9_capped, cX9_capped, 2, some FieldType.long)
abbrev M_X10_init : MethodName × ByteArray × Nat × Option FieldType := (yX10_init, cX10_init, 1, none)
abbrev M_X10_say : MethodName × ByteArray × Nat × Option FieldType := (yX10_say, cX10_say, 2, some FieldType.int)
abbrev M_X10_wipe : MethodName × ByteArray × Nat × Option FieldType := (yX10_wipe, cX10_wipe, 2, some FieldType.int)
abbrev M_X10_resource : MethodName × ByteArray × Nat × Option FieldType := (yX10_resource, cX10_resource, 1, some FieldType.int)
abbrev M_X10_well : MethodName × ByteArray × Nat × Option FieldType := (yX10_well, cX10_well, 1, some FieldType.int)
abbrev M_X10_goal : MethodName × ByteArray × Nat × Option FieldType := (yX10_goal, cX10_goal, 2, some FieldType.int)
abbrev M_X10_fault : MethodName × ByteArray × Nat × Option FieldType := (yX10_fault, cX10_fault, 1, some FieldType.int)
abbrev M_X10_drop : MethodName × ByteArray × Nat × Option FieldType := (yX10_drop, cX10_drop, 3, some FieldType.int)
abbrev M_X10_height : MethodName × ByteArray × Nat × Option FieldType := (yX10_height, cX10_height, 2, some FieldType.int)
abbrev M_X10_left : MethodName × ByteArray × Nat × Option FieldType := (yX10_left, cX10_left, 6, some FieldType.int)
abbrev M_X10_ways : MethodName × ByteArray × Nat × Option FieldType := (yX10_ways, cX10_ways, 3, some FieldType.int)
abbrev M_X10_fewest : MethodName × ByteArray × Nat × Option FieldType := (yX10_fewest, cX10_fewest, 5, some FieldType.int)
abbrev M_X10_needed : MethodName × ByteArray × Nat × Option FieldType := (yX10_needed, cX10_needed, 5, some FieldType.int)
abbrev M_X10_term : MethodName × ByteArray × Nat × Option FieldType := (yX10_term, cX10_term, 2, some FieldType.int)
abbrev M_X10_uses : MethodName × ByteArray × Nat × Option FieldType := (yX10_uses, cX10_uses, 3, some FieldType.int)
abbrev M_X10_put : MethodName × ByteArray × Nat × Option FieldType := (yX10_put, cX10_put, 2, some FieldType.int)
abbrev M_X10_trial : MethodName × ByteArray × Nat × Option FieldType := (yX10_trial, cX10_trial, 3, some FieldType.int)
abbrev M_X10_check : MethodName × ByteArray × Nat × Option FieldType := (yX10_check, cX10_check, 2, some FieldType.int)
abbrev M_X10_image : MethodName × ByteArray × Nat × Option FieldType := (yX10_image, cX10_image, 3, some FieldType.int)
abbrev M_X10_restore : MethodName × ByteArray × Nat × Option FieldType := (yX10_restore, cX10_restore, 3, some FieldType.int)
abbrev M_X10_count : MethodName × ByteArray × Nat × Option FieldType := (yX10_count, cX10_count, 2, some FieldType.int)
abbrev M_X10_readText : MethodName × ByteArray × Nat × Option FieldType := (yX10_readText, cX10_readText, 4, some (.object RX1))
abbrev M_X10_takeOffer : MethodName × ByteArray × Nat × Option FieldType := (yX10_takeOffer, cX10_takeOffer, 5, some FieldType.int)
abbrev M_X10_settle : MethodName × ByteArray × Nat × Option FieldType := (yX10_settle, cX10_settle, 3, none)
abbrev M_X10_dropNumbered : MethodName × ByteArray × Nat × Option FieldType := (yX10_dropNumbered, cX10_dropNumbered, 4, some FieldType.int)
abbrev M_X10_dropGoal : MethodName × ByteArray × Nat × Option FieldType := (yX10_dropGoal, cX10_dropGoal, 1, some FieldType.int)
abbrev M_X10_hasGoal : MethodName × ByteArray × Nat × Option FieldType := (yX10_hasGoal, cX10_hasGoal, 1, some FieldType.boolean)
abbrev M_X10_allResources : MethodName × ByteArray × Nat × Option FieldType := (yX10_allResources, cX10_allResources, 1, some FieldType.int)
abbrev M_X10_isSetOfResources : MethodName × ByteArray × Nat × Option FieldType := (yX10_isSetOfResources, cX10_isSetOfResources, 2, some FieldType.boolean)
abbrev M_X10_isProvable : MethodName × ByteArray × Nat × Option FieldType := (yX10_isProvable, cX10_isProvable, 2, some FieldType.boolean)
abbrev M_X10_savedPlaces : MethodName × ByteArray × Nat × Option FieldType := (yX10_savedPlaces, cX10_savedPlaces, 3, some FieldType.int)
abbrev M_X10_prepare : MethodName × ByteArray × Nat × Option FieldType := (yX10_prepare, cX10_prepare, 1, none)
abbrev M_X10_partsOf : MethodName × ByteArray × Nat × Option FieldType := (yX10_partsOf, cX10_partsOf, 1, some FieldType.int)
abbrev M_X10_nextPart : MethodName × ByteArray × Nat × Option FieldType := (yX10_nextPart, cX10_nextPart, 2, some FieldType.int)
abbrev M_X11_init : MethodName × ByteArray × Nat × Option FieldType := (yX11_init, cX11_init, 2, none)
abbrev M_X11_in : MethodName × ByteArray × Nat × Option FieldType := (yX11_in, cX11_in, 3, some FieldType.boolean)
abbrev M_X11_has : MethodName × ByteArray × Nat × Option FieldType := (yX11_has, cX11_has, 2, some FieldType.boolean)
abbrev M_X11_push : MethodName × ByteArray × Nat × Option FieldType := (yX11_push, cX11_push, 4, none)
abbrev M_X11_begin : MethodName × ByteArray × Nat × Option FieldType := (yX11_begin, cX11_begin, 5, some FieldType.int)
abbrev M_X11_complete : MethodName × ByteArray × Nat × Option FieldType := (yX11_complete, cX11_complete, 1, none)
abbrev M_X11_isLetter : MethodName × ByteArray × Nat × Option FieldType := (yX11_isLetter, cX11_isLetter, 1, some FieldType.boolean)
abbrev M_X11_readGoal : MethodName × ByteArray × Nat × Option FieldType := (yX11_readGoal, cX11_readGoal, 2, some FieldType.boolean)
abbrev M_X11_beginLoan : MethodName × ByteArray × Nat × Option FieldType := (yX11_beginLoan, cX11_beginLoan, 3, none)
abbrev M_X11_readSign : MethodName × ByteArray × Nat × Option FieldType := (yX11_readSign, cX11_readSign, 3, some FieldType.boolean)
abbrev M_X11_readHead : MethodName × ByteArray × Nat × Option FieldType := (yX11_readHead, cX11_readHead, 4, some FieldType.boolean)
abbrev M_X11_readBehind : MethodName × ByteArray × Nat × Option FieldType := (yX11_readBehind, cX11_readBehind, 3, some FieldType.boolean)
abbrev M_X11_reads : MethodName × ByteArray × Nat × Option FieldType := (yX11_reads, cX11_reads, 2, some FieldType.boolean)
abbrev M_X11_read : MethodName × ByteArray × Nat × Option FieldType := (yX11_read, cX11_read, 4, some FieldType.int)
abbrev M_X11_offerOf : MethodName × ByteArray × Nat × Option FieldType := (yX11_offerOf, cX11_offerOf, 1, some FieldType.int)
abbrev M_X11_readAll : MethodName × ByteArray × Nat × Option FieldType := (yX11_readAll, cX11_readAll, 4, none)
abbrev M_X11_say : MethodName × ByteArray × Nat × Option FieldType := (yX11_say, cX11_say, 2, some FieldType.int)
abbrev M_X11_wipe : MethodName × ByteArray × Nat × Option FieldType := (yX11_wipe, cX11_wipe, 2, some FieldType.int)
abbrev M_X11_take : MethodName × ByteArray × Nat × Option FieldType := (yX11_take, cX11_take, 9, some FieldType.int)
abbrev M_X11_resource : MethodName × ByteArray × Nat × Option FieldType := (yX11_resource, cX11_resource, 1, some FieldType.int)
abbrev M_X11_well : MethodName × ByteArray × Nat × Option FieldType := (yX11_well, cX11_well, 1, some FieldType.int)
abbrev M_X11_goal : MethodName × ByteArray × Nat × Option FieldType := (yX11_goal, cX11_goal, 1, some FieldType.int)
abbrev M_X11_fault : MethodName × ByteArray × Nat × Option FieldType := (yX11_fault, cX11_fault, 1, some FieldType.int)
abbrev M_X11_there : MethodName × ByteArray × Nat × Option FieldType := (yX11_there, cX11_there, 5, some FieldType.int)
abbrev M_X11_bits : MethodName × ByteArray × Nat × Option FieldType := (yX11_bits, cX11_bits, 3, some FieldType.int)
abbrev M_X11_drop : MethodName × ByteArray × Nat × Option FieldType := (yX11_drop, cX11_drop, 3, some FieldType.int)
abbrev M_X11_lay : MethodName × ByteArray × Nat × Option FieldType := (yX11_lay, cX11_lay, 3, none)
abbrev M_X11_isBelow : MethodName × ByteArray × Nat × Option FieldType := (yX11_isBelow, cX11_isBelow, 5, some FieldType.boolean)
abbrev M_X11_isTold : MethodName × ByteArray × Nat × Option FieldType := (yX11_isTold, cX11_isTold, 7, some FieldType.boolean)
abbrev M_X11_firstFor : MethodName × ByteArray × Nat × Option FieldType := (yX11_firstFor, cX11_firstFor, 6, some FieldType.int)
abbrev M_X11_firstPart : MethodName × ByteArray × Nat × Option FieldType := (yX11_firstPart, cX11_firstPart, 5, some FieldType.int)
abbrev M_X11_isReached : MethodName × ByteArray × Nat × Option FieldType := (yX11_isReached, cX11_isReached, 6, some FieldType.boolean)
abbrev M_X11_isGoal : MethodName × ByteArray × Nat × Option FieldType := (yX11_isGoal, cX11_isGoal, 1, some FieldType.boolean)
abbrev M_X11_all : MethodName × ByteArray × Nat × Option FieldType := (yX11_all, cX11_all, 1, some FieldType.int)
abbrev M_X11_heightOf : MethodName × ByteArray × Nat × Option FieldType := (yX11_heightOf, cX11_heightOf, 2, some FieldType.int)
abbrev M_X11_areThere : MethodName × ByteArray × Nat × Option FieldType := (yX11_areThere, cX11_areThere, 2, some FieldType.boolean)
abbrev M_X11_height : MethodName × ByteArray × Nat × Option FieldType := (yX11_height, cX11_height, 2, some FieldType.int)
abbrev M_X11_left : MethodName × ByteArray × Nat × Option FieldType := (yX11_left, cX11_left, 5, some FieldType.int)
abbrev M_X11_capped : MethodName × ByteArray × Nat × Option FieldType := (yX11_capped, cX11_capped, 2, some FieldType.long)
abbrev M_X11_waysBelow : MethodName × ByteArray × Nat × Option FieldType := (yX11_waysBelow, cX11_waysBelow, 3, some FieldType.long)
abbrev M_X11_waysBy : MethodName × ByteArray × Nat × Option FieldType := (yX11_waysBy, cX11_waysBy, 8, some FieldType.long)
abbrev M_X11_waysOfAtom : MethodName × ByteArray × Nat × Option FieldType := (yX11_waysOfAtom, cX11_waysOfAtom, 6, some FieldType.long)
abbrev M_X11_waysOfParts : MethodName × ByteArray × Nat × Option FieldType := (yX11_waysOfParts, cX11_waysOfParts, 6, some FieldType.long)
abbrev M_X11_waysOf : MethodName × ByteArray × Nat × Option FieldType := (yX11_waysOf, cX11_waysOf, 5, some FieldType.long)
abbrev M_X11_ways : MethodName × ByteArray × Nat × Option FieldType := (yX11_ways, cX11_ways, 5, some FieldType.int)
abbrev M_X11_fewest : MethodName × ByteArray × Nat × Option FieldType := (yX11_fewest, cX11_fewest, 3, some FieldType.int)
abbrev M_X11_needed : MethodName × ByteArray × Nat × Option FieldType := (yX11_needed, cX11_needed, 3, some FieldType.int)
abbrev M_X11_await : MethodName × ByteArray × Nat × Option FieldType := (yX11_await, cX11_await, 4, none)
abbrev M_X11_tell : MethodName × ByteArray × Nat × Option FieldType := (yX11_tell, cX11_tell, 2, none)
abbrev M_X11_tellAtom : MethodName × ByteArray × Nat × Option FieldType := (yX11_tellAtom, cX11_tellAtom, 7, none)
abbrev M_X11_tellOne : MethodName × ByteArray × Nat × Option FieldType := (yX11_tellOne, cX11_tellOne, 8, none)
abbrev M_X11_layWay : MethodName × ByteArray × Nat × Option FieldType := (yX11_layWay, cX11_layWay, 1, some FieldType.boolean)
abbrev M_X11_term : MethodName × ByteArray × Nat × Option FieldType := (yX11_term, cX11_term, 2, some FieldType.int)
abbrev M_X11_uses : MethodName × ByteArray × Nat × Option FieldType := (yX11_uses, cX11_uses, 5, some FieldType.int)
abbrev M_X11_put : MethodName × ByteArray × Nat × Option FieldType := (yX11_put, cX11_put, 2, some FieldType.int)
abbrev M_X11_trial : MethodName × ByteArray × Nat × Option FieldType := (yX11_trial, cX11_trial, 3, some FieldType.int)
abbrev M_X11_checkAtom : MethodName × ByteArray × Nat × Option FieldType := (yX11_checkAtom, cX11_checkAtom, 10, some FieldType.int)
abbrev M_X11_checkParts : MethodName × ByteArray × Nat × Option FieldType := (yX11_checkParts, cX11_checkParts, 5, some FieldType.int)
abbrev M_X11_checkPlus : MethodName × ByteArray × Nat × Option FieldType := (yX11_checkPlus, cX11_checkPlus, 4, some FieldType.int)
abbrev M_X11_checkOne : MethodName × ByteArray × Nat × Option FieldType := (yX11_checkOne, cX11_checkOne, 4, some FieldType.int)
abbrev M_X11_checked : MethodName × ByteArray × Nat × Option FieldType := (yX11_checked, cX11_checked, 3, some FieldType.int)
abbrev M_X11_check : MethodName × ByteArray × Nat × Option FieldType := (yX11_check, cX11_check, 3, some FieldType.int)
abbrev M_X11_image : MethodName × ByteArray × Nat × Option FieldType := (yX11_image, cX11_image, 3, some FieldType.int)
abbrev M_X11_restore : MethodName × ByteArray × Nat × Option FieldType := (yX11_restore, cX11_restore, 3, some FieldType.int)
abbrev M_X11_count : MethodName × ByteArray × Nat × Option FieldType := (yX11_count, cX11_count, 2, some FieldType.int)
abbrev M_J6_bitCount_0f7a4 : MethodName × ByteArray × Nat × Option FieldType := (yJ6_bitCount_0f7a4, cJ6_bitCount_0f7a4, 1, some FieldType.int)
abbrev M_J9_max_7cf53 : MethodName × ByteArray × Nat × Option FieldType := (yJ9_max_7cf53, cJ9_max_7cf53, 2, some FieldType.int)
abbrev M_J9_min_7cf53 : MethodName × ByteArray × Nat × Option FieldType := (yJ9_min_7cf53, cJ9_min_7cf53, 2, some FieldType.int)
abbrev M_J9_min_f86c9 : MethodName × ByteArray × Nat × Option FieldType := (yJ9_min_f86c9, cJ9_min_f86c9, 4, some FieldType.long)
abbrev M_L_law : MethodName × ByteArray × Nat × Option FieldType := (yL_law, cL_law, 4, some .boolean)
end
section
theorem dX0_init_0 : decode cX0_init 0 = .ok (.aload_n 0, 1) := by decide +kernel
theorem dX0_init_1 : decode cX0_init 1 = .ok (.invokespecial 3, 3) := by decide +kernel
theorem dX0_init_4 : decode cX0_init 4 = .ok (.aload_n 0, 1) := by decide +kernel
theorem dX0_init_5 : decode cX0_init 5 = .ok (.sipush 1024, 3) := by decide +kernel
theorem dX0_init_8 : decode cX0_init 8 = .ok (.newarray .int, 2) := by decide +kernel
theorem dX0_init_10 : decode cX0_init 10 = .ok (.putfield 11, 3) := by decide +kernel
theorem dX0_init_13 : decode cX0_init 13 = .ok (.aload_n 0, 1) := by decide +kernel
theorem dX0_init_14 : decode cX0_init 14 = .ok (.iconst 0, 1) := by decide +kernel
theorem dX0_init_15 : decode cX0_init 15 = .ok (.putfield 15, 3) := by decide +kernel
theorem dX0_init_18 : decode cX0_init 18 = .ok (.aload_n 0, 1) := by decide +kernel
theorem dX0_init_19 : decode cX0_init 19 = .ok (.iconst 0, 1) := by decide +kernel
theorem dX0_init_20 : decode cX0_init 20 = .ok (.putfield 19, 3) := by decide +kernel
theorem dX0_init_23 : decode cX0_init 23 = .ok (.aload_n 0, 1) := by decide +kernel
theorem dX0_init_24 : decode cX0_init 24 = .ok (.iconst 0, 1) := by decide +kernel
theorem dX0_init_25 : decode cX0_init 25 = .ok (.putfield 23, 3) := by decide +kernel
theorem dX0_init_28 : decode cX0_init 28 = .ok (.aload_n 0, 1) := by decide +kernel
theorem dX0_init_29 : decode cX0_init 29 = .ok (.aload_n 1, 1) := by decide +kernel
theorem dX0_init_30 : decode cX0_init 30 = .ok (.putfield 26, 3) := by decide +kernel
theorem dX0_init_33 : decode cX0_init 33 = .ok (.aload_n 0, 1) := by decide +kernel
theorem dX0_init_34 : decode cX0_init 34 = .ok (.aload_n 2, 1) := by decide +kernel
theorem dX0_init_35 : decode cX0_init 35 = .ok (.putfield 30, 3) := by decide +kernel
theorem dX0_init_38 : decode cX0_init 38 = .ok (.return_, 1) := by decide +kernel
theorem dX0_forget_0 : decode cX0_forget 0 = .ok (.aload_n 0, 1) := by decide +kernel
theorem dX0_forget_1 : decode cX0_forget 1 = .ok (.iconst 0, 1) := by decide +kernel
theorem dX0_forget_2 : decode cX0_forget 2 = .ok (.putfield 23, 3) := by decide +kernel
theorem dX0_forget_5 : decode cX0_forget 5 = .ok (.return_, 1) := by decide +kernel
theorem dX0_find_0 : decode cX0_find 0 = .ok (.aload_n 0, 1) := by decide +kernel
theorem dX0_find_1 : decode cX0_find 1 = .ok (.getfield 23, 3) := by decide +kernel
theorem dX0_find_4 : decode cX0_find 4 = .ok (.ifCond .eq 4, 3) := by decide +kernel
theorem dX0_find_7 : decode cX0_find 7 = .ok (.return_, 1) := by decide +kernel
theorem dX0_find_8 : decode cX0_find 8 = .ok (.aload_n 0, 1) := by decide +kernel
theorem dX0_find_9 : decode cX0_find 9 = .ok (.iconst 0, 1) := by decide +kernel
theorem dX0_find_10 : decode cX0_find 10 = .ok (.putfield 15, 3) := by decide +kernel
theorem dX0_find_13 : decode cX0_find 13 = .ok (.aload_n 0, 1) := by decide +kernel
theorem dX0_find_14 : decode cX0_find 14 = .ok (.getfield 30, 3) := by decide +kernel
theorem dX0_find_17 : decode cX0_find 17 = .ok (.aload_n 0, 1) := by decide +kernel
theorem dX0_find_18 : decode cX0_find 18 = .ok (.getfield 26, 3) := by decide +kernel
theorem dX0_find_21 : decode cX0_find 21 = .ok (.invokevirtual 34, 3) := by decide +kernel
theorem dX0_find_24 : decode cX0_find 24 = .ok (.iload_n 1, 1) := by decide +kernel
theorem dX0_find_25 : decode cX0_find 25 = .ok (.invokevirtual 40, 3) := by decide +kernel
theorem dX0_find_28 : decode cX0_find 28 = .ok (.istore_n 2, 1) := by decide +kernel
theorem dX0_find_29 : decode cX0_find 29 = .ok (.aload_n 0, 1) := by decide +kernel
theorem dX0_find_30 : decode cX0_find 30 = .ok (.iload_n 2, 1) := by decide +kernel
theorem dX0_find_31 : decode cX0_find 31 = .ok (.bipush (-6), 2) := by decide +kernel
theorem dX0_find_33 : decode cX0_find 33 = .ok (.if_icmp .eq 7, 3) := by decide +kernel
theorem dX0_find_36 : decode cX0_find 36 = .ok (.iconst 1, 1) := by decide +kernel
theorem dX0_find_37 : decode cX0_find 37 = .ok (.goto 4, 3) := by decide +kernel
theorem dX0_find_40 : decode cX0_find 40 = .ok (.iconst 0, 1) := by decide +kernel
theorem dX0_find_41 : decode cX0_find 41 = .ok (.putfield 19, 3) := by decide +kernel
theorem dX0_find_44 : decode cX0_find 44 = .ok (.aload_n 0, 1) := by decide +kernel
theorem dX0_find_45 : decode cX0_find 45 = .ok (.getfield 19, 3) := by decide +kernel
theorem dX0_find_48 : decode cX0_find 48 = .ok (.ifCond .eq 16, 3) := by decide +kernel
theorem dX0_find_51 : decode cX0_find 51 = .ok (.aload_n 0, 1) := by decide +kernel
theorem dX0_find_52 : decode cX0_find 52 = .ok (.aload_n 0, 1) := by decide +kernel
theorem dX0_find_53 : decode cX0_find 53 = .ok (.getfield 26, 3) := by decide +kernel
theorem dX0_find_56 : decode cX0_find 56 = .ok (.invokevirtual 34, 3) := by decide +kernel
theorem dX0_find_59 : decode cX0_find 59 = .ok (.iload_n 1, 1) := by decide +kernel
theorem dX0_find_60 : decode cX0_find 60 = .ok (.iload_n 2, 1) := by decide +kernel
theorem dX0_find_61 : decode cX0_find 61 = .ok (.invokevirtual 46, 3) := by decide +kernel
theorem dX0_find_64 : decode cX0_find 64 = .ok (.aload_n 0, 1) := by decide +kernel
theorem dX0_find_65 : decode cX0_find 65 = .ok (.iconst 1, 1) := by decide +kernel
theorem dX0_find_66 : decode cX0_find 66 = .ok (.putfield 23, 3) := by decide +kernel
theorem dX0_find_69 : decode cX0_find 69 = .ok (.return_, 1) := by decide +kernel
theorem dX0_exists_0 : decode cX0_exists 0 = .ok (.aload_n 0, 1) := by decide +kernel
theorem dX0_exists_1 : decode cX0_exists 1 = .ok (.getfield 19, 3) := by decide +kernel
theorem dX0_exists_4 : decode cX0_exists 4 = .ok (.ireturn, 1) := by decide +kernel
theorem dX0_length_0 : decode cX0_length 0 = .ok (.aload_n 0, 1) := by decide +kernel
theorem dX0_length_1 : decode cX0_length 1 = .ok (.getfield 15, 3) := by decide +kernel
theorem dX0_length_4 : decode cX0_length 4 = .ok (.ireturn, 1) := by decide +kernel
theorem dX0_at_0 : decode cX0_at 0 = .ok (.iload_n 1, 1) := by decide +kernel
theorem dX0_at_1 : decode cX0_at 1 = .ok (.ifCond .lt 27, 3) := by decide +kernel
theorem dX0_at_4 : decode cX0_at 4 = .ok (.iload_n 1, 1) := by decide +kernel
theorem dX0_at_5 : decode cX0_at 5 = .ok (.aload_n 0, 1) := by decide +kernel
theorem dX0_at_6 : decode cX0_at 6 = .ok (.getfield 15, 3) := by decide +kernel
theorem dX0_at_9 : decode cX0_at 9 = .ok (.if_icmp .ge 19, 3) := by decide +kernel
theorem dX0_at_12 : decode cX0_at 12 = .ok (.iload_n 1, 1) := by decide +kernel
theorem dX0_at_13 : decode cX0_at 13 = .ok (.sipush 1024, 3) := by decide +kernel
theorem dX0_at_16 : decode cX0_at 16 = .ok (.if_icmp .ge 12, 3) := by decide +kernel
theorem dX0_at_19 : decode cX0_at 19 = .ok (.aload_n 0, 1) := by decide +kernel
theorem dX0_at_20 : decode cX0_at 20 = .ok (.getfield 11, 3) := by decide +kernel
theorem dX0_at_23 : decode cX0_at 23 = .ok (.iload_n 1, 1) := by decide +kernel
theorem dX0_at_24 : decode cX0_at 24 = .ok (.iaload, 1) := by decide +kernel
theorem dX0_at_25 : decode cX0_at 25 = .ok (.goto 5, 3) := by decide +kernel
theorem dX0_at_28 : decode cX0_at 28 = .ok (.bipush (-6), 2) := by decide +kernel
theorem dX0_at_30 : decode cX0_at 30 = .ok (.ireturn, 1) := by decide +kernel
theorem dX0_usesOf_0 : decode cX0_usesOf 0 = .ok (.iload_n 1, 1) := by decide +kernel
theorem dX0_usesOf_1 : decode cX0_usesOf 1 = .ok (.iconst 0, 1) := by decide +kernel
theorem dX0_usesOf_2 : decode cX0_usesOf 2 = .ok (.invokestatic 50, 3) := by decide +kernel
theorem dX0_usesOf_5 : decode cX0_usesOf 5 = .ok (.istore_n 2, 1) := by decide +kernel
theorem dX0_usesOf_6 : decode cX0_usesOf 6 = .ok (.iconst 0, 1) := by decide +kernel
theorem dX0_usesOf_7 : decode cX0_usesOf 7 = .ok (.istore_n 3, 1) := by decide +kernel
theorem dX0_usesOf_8 : decode cX0_usesOf 8 = .ok (.iconst 0, 1) := by decide +kernel
theorem dX0_usesOf_9 : decode cX0_usesOf 9 = .ok (.istore 4, 2) := by decide +kernel
theorem dX0_usesOf_11 : decode cX0_usesOf 11 = .ok (.iload 4, 2) := by decide +kernel
theorem dX0_usesOf_13 : decode cX0_usesOf 13 = .ok (.aload_n 0, 1) := by decide +kernel
theorem dX0_usesOf_14 : decode cX0_usesOf 14 = .ok (.getfield 15, 3) := by decide +kernel
theorem dX0_usesOf_17 : decode cX0_usesOf 17 = .ok (.if_icmp .ge 34, 3) := by decide +kernel
theorem dX0_usesOf_20 : decode cX0_usesOf 20 = .ok (.aload_n 0, 1) := by decide +kernel
theorem dX0_usesOf_21 : decode cX0_usesOf 21 = .ok (.iload 4, 2) := by decide +kernel
theorem dX0_usesOf_23 : decode cX0_usesOf 23 = .ok (.invokevirtual 53, 3) := by decide +kernel
theorem dX0_usesOf_26 : decode cX0_usesOf 26 = .ok (.iload_n 2, 1) := by decide +kernel
theorem dX0_usesOf_27 : decode cX0_usesOf 27 = .ok (.if_icmp .lt 18, 3) := by decide +kernel
theorem dX0_usesOf_30 : decode cX0_usesOf 30 = .ok (.aload_n 0, 1) := by decide +kernel
theorem dX0_usesOf_31 : decode cX0_usesOf 31 = .ok (.iload 4, 2) := by decide +kernel
theorem dX0_usesOf_33 : decode cX0_usesOf 33 = .ok (.invokevirtual 53, 3) := by decide +kernel
theorem dX0_usesOf_36 : decode cX0_usesOf 36 = .ok (.iload_n 2, 1) := by decide +kernel
theorem dX0_usesOf_37 : decode cX0_usesOf 37 = .ok (.iconst 3, 1) := by decide +kernel
theorem dX0_usesOf_38 : decode cX0_usesOf 38 = .ok (.iadd, 1) := by decide +kernel
theorem dX0_usesOf_39 : decode cX0_usesOf 39 = .ok (.if_icmp .ge 6, 3) := by decide +kernel
theorem dX0_usesOf_42 : decode cX0_usesOf 42 = .ok (.iinc 3 1, 3) := by decide +kernel
theorem dX0_usesOf_45 : decode cX0_usesOf 45 = .ok (.iinc 4 1, 3) := by decide +kernel
theorem dX0_usesOf_48 : decode cX0_usesOf 48 = .ok (.goto (-37), 3) := by decide +kernel
theorem dX0_usesOf_51 : decode cX0_usesOf 51 = .ok (.iload_n 3, 1) := by decide +kernel
theorem dX0_usesOf_52 : decode cX0_usesOf 52 = .ok (.ireturn, 1) := by decide +kernel
theorem dX0_write_0 : decode cX0_write 0 = .ok (.iload_n 3, 1) := by decide +kernel
theorem dX0_write_1 : decode cX0_write 1 = .ok (.ifCond .gt 4, 3) := by decide +kernel
theorem dX0_write_4 : decode cX0_write 4 = .ok (.return_, 1) := by decide +kernel
theorem dX0_write_5 : decode cX0_write 5 = .ok (.aload_n 0, 1) := by decide +kernel
theorem dX0_write_6 : decode cX0_write 6 = .ok (.getfield 26, 3) := by decide +kernel
theorem dX0_write_9 : decode cX0_write 9 = .ok (.iload_n 1, 1) := by decide +kernel
theorem dX0_write_10 : decode cX0_write 10 = .ok (.invokevirtual 57, 3) := by decide +kernel
theorem dX0_write_13 : decode cX0_write 13 = .ok (.istore 4, 2) := by decide +kernel
theorem dX0_write_15 : decode cX0_write 15 = .ok (.aload_n 0, 1) := by decide +kernel
theorem dX0_write_16 : decode cX0_write 16 = .ok (.getfield 26, 3) := by decide +kernel
theorem dX0_write_19 : decode cX0_write 19 = .ok (.iload_n 1, 1) := by decide +kernel
theorem dX0_write_20 : decode cX0_write 20 = .ok (.invokevirtual 60, 3) := by decide +kernel
theorem dX0_write_23 : decode cX0_write 23 = .ok (.istore 5, 2) := by decide +kernel
theorem dX0_write_25 : decode cX0_write 25 = .ok (.aload_n 0, 1) := by decide +kernel
theorem dX0_write_26 : decode cX0_write 26 = .ok (.getfield 26, 3) := by decide +kernel
theorem dX0_write_29 : decode cX0_write 29 = .ok (.iload_n 1, 1) := by decide +kernel
theorem dX0_write_30 : decode cX0_write 30 = .ok (.invokevirtual 63, 3) := by decide +kernel
theorem dX0_write_33 : decode cX0_write 33 = .ok (.istore 6, 2) := by decide +kernel
theorem dX0_write_35 : decode cX0_write 35 = .ok (.iload 6, 2) := by decide +kernel
theorem dX0_write_37 : decode cX0_write 37 = .ok (.lookupswitch 154 #[(33, 70), (38, 96), (42, 83), (43, 119), (49, 67), (84, 67), (91, 132)], 67) := by decide +kernel
theorem dX0_write_104 : decode cX0_write 104 = .ok (.goto 95, 3) := by decide +kernel
theorem dX0_write_107 : decode cX0_write 107 = .ok (.aload_n 0, 1) := by decide +kernel
theorem dX0_write_108 : decode cX0_write 108 = .ok (.iload 4, 2) := by decide +kernel
theorem dX0_write_110 : decode cX0_write 110 = .ok (.iload_n 2, 1) := by decide +kernel
theorem dX0_write_111 : decode cX0_write 111 = .ok (.iload_n 3, 1) := by decide +kernel
theorem dX0_write_112 : decode cX0_write 112 = .ok (.iconst 1, 1) := by decide +kernel
theorem dX0_write_113 : decode cX0_write 113 = .ok (.isub, 1) := by decide +kernel
theorem dX0_write_114 : decode cX0_write 114 = .ok (.invokevirtual 46, 3) := by decide +kernel
theorem dX0_write_117 : decode cX0_write 117 = .ok (.goto 82, 3) := by decide +kernel
theorem dX0_write_120 : decode cX0_write 120 = .ok (.aload_n 0, 1) := by decide +kernel
theorem dX0_write_121 : decode cX0_write 121 = .ok (.iload 4, 2) := by decide +kernel
theorem dX0_write_123 : decode cX0_write 123 = .ok (.iload 5, 2) := by decide +kernel
theorem dX0_write_125 : decode cX0_write 125 = .ok (.iload_n 2, 1) := by decide +kernel
theorem dX0_write_126 : decode cX0_write 126 = .ok (.iload_n 3, 1) := by decide +kernel
theorem dX0_write_127 : decode cX0_write 127 = .ok (.invokevirtual 67, 3) := by decide +kernel
theorem dX0_write_130 : decode cX0_write 130 = .ok (.goto 69, 3) := by decide +kernel
theorem dX0_write_133 : decode cX0_write 133 = .ok (.aload_n 0, 1) := by decide +kernel
theorem dX0_write_134 : decode cX0_write 134 = .ok (.iload 4, 2) := by decide +kernel
theorem dX0_write_136 : decode cX0_write 136 = .ok (.iload_n 2, 1) := by decide +kernel
theorem dX0_write_137 : decode cX0_write 137 = .ok (.iload_n 3, 1) := by decide +kernel
theorem dX0_write_138 : decode cX0_write 138 = .ok (.iconst 1, 1) := by decide +kernel
theorem dX0_write_139 : decode cX0_write 139 = .ok (.isub, 1) := by decide +kernel
theorem dX0_write_140 : decode cX0_write 140 = .ok (.invokevirtual 46, 3) := by decide +kernel
theorem dX0_write_143 : decode cX0_write 143 = .ok (.aload_n 0, 1) := by decide +kernel
theorem dX0_write_144 : decode cX0_write 144 = .ok (.iload 5, 2) := by decide +kernel
theorem dX0_write_146 : decode cX0_write 146 = .ok (.iload_n 2, 1) := by decide +kernel
theorem dX0_write_147 : decode cX0_write 147 = .ok (.iload_n 3, 1) := by decide +kernel
theorem dX0_write_148 : decode cX0_write 148 = .ok (.iconst 1, 1) := by decide +kernel
theorem dX0_write_149 : decode cX0_write 149 = .ok (.isub, 1) := by decide +kernel
theorem dX0_write_150 : decode cX0_write 150 = .ok (.invokevirtual 46, 3) := by decide +kernel
theorem dX0_write_153 : decode cX0_write 153 = .ok (.goto 46, 3) := by decide +kernel
theorem dX0_write_156 : decode cX0_write 156 = .ok (.aload_n 0, 1) := by decide +kernel
theorem dX0_write_157 : decode cX0_write 157 = .ok (.iload 4, 2) := by decide +kernel
theorem dX0_write_159 : decode cX0_write 159 = .ok (.iload 5, 2) := by decide +kernel
theorem dX0_write_161 : decode cX0_write 161 = .ok (.iload_n 2, 1) := by decide +kernel
theorem dX0_write_162 : decode cX0_write 162 = .ok (.iload_n 3, 1) := by decide +kernel
theorem dX0_write_163 : decode cX0_write 163 = .ok (.invokevirtual 71, 3) := by decide +kernel
theorem dX0_write_166 : decode cX0_write 166 = .ok (.goto 33, 3) := by decide +kernel
theorem dX0_write_169 : decode cX0_write 169 = .ok (.aload_n 0, 1) := by decide +kernel
theorem dX0_write_170 : decode cX0_write 170 = .ok (.iload 4, 2) := by decide +kernel
theorem dX0_write_172 : decode cX0_write 172 = .ok (.iload_n 2, 1) := by decide +kernel
theorem dX0_write_173 : decode cX0_write 173 = .ok (.aload_n 0, 1) := by decide +kernel
theorem dX0_write_174 : decode cX0_write 174 = .ok (.getfield 26, 3) := by decide +kernel
theorem dX0_write_177 : decode cX0_write 177 = .ok (.iload_n 1, 1) := by decide +kernel
theorem dX0_write_178 : decode cX0_write 178 = .ok (.invokevirtual 74, 3) := by decide +kernel
theorem dX0_write_181 : decode cX0_write 181 = .ok (.ior, 1) := by decide +kernel
theorem dX0_write_182 : decode cX0_write 182 = .ok (.iload_n 3, 1) := by decide +kernel
theorem dX0_write_183 : decode cX0_write 183 = .ok (.iconst 1, 1) := by decide +kernel
theorem dX0_write_184 : decode cX0_write 184 = .ok (.isub, 1) := by decide +kernel
theorem dX0_write_185 : decode cX0_write 185 = .ok (.invokevirtual 46, 3) := by decide +kernel
theorem dX0_write_188 : decode cX0_write 188 = .ok (.goto 11, 3) := by decide +kernel
theorem dX0_write_191 : decode cX0_write 191 = .ok (.aload_n 0, 1) := by decide +kernel
theorem dX0_write_192 : decode cX0_write 192 = .ok (.iload 6, 2) := by decide +kernel
theorem dX0_write_194 : decode cX0_write 194 = .ok (.iload_n 2, 1) := by decide +kernel
theorem dX0_write_195 : decode cX0_write 195 = .ok (.iload_n 3, 1) := by decide +kernel
theorem dX0_write_196 : decode cX0_write 196 = .ok (.invokevirtual 77, 3) := by decide +kernel
theorem dX0_write_199 : decode cX0_write 199 = .ok (.return_, 1) := by decide +kernel
theorem dX0_writeSplit_0 : decode cX0_writeSplit 0 = .ok (.iconst 0, 1) := by decide +kernel
theorem dX0_writeSplit_1 : decode cX0_writeSplit 1 = .ok (.istore 5, 2) := by decide +kernel
theorem dX0_writeSplit_3 : decode cX0_writeSplit 3 = .ok (.iload_n 3, 1) := by decide +kernel
theorem dX0_writeSplit_4 : decode cX0_writeSplit 4 = .ok (.invokestatic 81, 3) := by decide +kernel
theorem dX0_writeSplit_7 : decode cX0_writeSplit 7 = .ok (.istore 6, 2) := by decide +kernel
theorem dX0_writeSplit_9 : decode cX0_writeSplit 9 = .ok (.iload 6, 2) := by decide +kernel
theorem dX0_writeSplit_11 : decode cX0_writeSplit 11 = .ok (.ifCond .le 88, 3) := by decide +kernel
theorem dX0_writeSplit_14 : decode cX0_writeSplit 14 = .ok (.aload_n 0, 1) := by decide +kernel
theorem dX0_writeSplit_15 : decode cX0_writeSplit 15 = .ok (.getfield 30, 3) := by decide +kernel
theorem dX0_writeSplit_18 : decode cX0_writeSplit 18 = .ok (.iload_n 1, 1) := by decide +kernel
theorem dX0_writeSplit_19 : decode cX0_writeSplit 19 = .ok (.iload 5, 2) := by decide +kernel
theorem dX0_writeSplit_21 : decode cX0_writeSplit 21 = .ok (.iload 4, 2) := by decide +kernel
theorem dX0_writeSplit_23 : decode cX0_writeSplit 23 = .ok (.iconst 1, 1) := by decide +kernel
theorem dX0_writeSplit_24 : decode cX0_writeSplit 24 = .ok (.isub, 1) := by decide +kernel
theorem dX0_writeSplit_25 : decode cX0_writeSplit 25 = .ok (.invokevirtual 84, 3) := by decide +kernel
theorem dX0_writeSplit_28 : decode cX0_writeSplit 28 = .ok (.ifCond .eq 57, 3) := by decide +kernel
theorem dX0_writeSplit_31 : decode cX0_writeSplit 31 = .ok (.aload_n 0, 1) := by decide +kernel
theorem dX0_writeSplit_32 : decode cX0_writeSplit 32 = .ok (.getfield 30, 3) := by decide +kernel
theorem dX0_writeSplit_35 : decode cX0_writeSplit 35 = .ok (.iload_n 2, 1) := by decide +kernel
theorem dX0_writeSplit_36 : decode cX0_writeSplit 36 = .ok (.iload_n 3, 1) := by decide +kernel
theorem dX0_writeSplit_37 : decode cX0_writeSplit 37 = .ok (.iload 5, 2) := by decide +kernel
theorem dX0_writeSplit_39 : decode cX0_writeSplit 39 = .ok (.ixor, 1) := by decide +kernel
theorem dX0_writeSplit_40 : decode cX0_writeSplit 40 = .ok (.iload 4, 2) := by decide +kernel
theorem dX0_writeSplit_42 : decode cX0_writeSplit 42 = .ok (.iconst 1, 1) := by decide +kernel
theorem dX0_writeSplit_43 : decode cX0_writeSplit 43 = .ok (.isub, 1) := by decide +kernel
theorem dX0_writeSplit_44 : decode cX0_writeSplit 44 = .ok (.invokevirtual 84, 3) := by decide +kernel
theorem dX0_writeSplit_47 : decode cX0_writeSplit 47 = .ok (.ifCond .eq 38, 3) := by decide +kernel
theorem dX0_writeSplit_50 : decode cX0_writeSplit 50 = .ok (.aload_n 0, 1) := by decide +kernel
theorem dX0_writeSplit_51 : decode cX0_writeSplit 51 = .ok (.sipush 200, 3) := by decide +kernel
theorem dX0_writeSplit_54 : decode cX0_writeSplit 54 = .ok (.iload 5, 2) := by decide +kernel
theorem dX0_writeSplit_56 : decode cX0_writeSplit 56 = .ok (.iadd, 1) := by decide +kernel
theorem dX0_writeSplit_57 : decode cX0_writeSplit 57 = .ok (.invokevirtual 88, 3) := by decide +kernel
theorem dX0_writeSplit_60 : decode cX0_writeSplit 60 = .ok (.aload_n 0, 1) := by decide +kernel
theorem dX0_writeSplit_61 : decode cX0_writeSplit 61 = .ok (.iload_n 1, 1) := by decide +kernel
theorem dX0_writeSplit_62 : decode cX0_writeSplit 62 = .ok (.iload 5, 2) := by decide +kernel
theorem dX0_writeSplit_64 : decode cX0_writeSplit 64 = .ok (.iload 4, 2) := by decide +kernel
theorem dX0_writeSplit_66 : decode cX0_writeSplit 66 = .ok (.iconst 1, 1) := by decide +kernel
theorem dX0_writeSplit_67 : decode cX0_writeSplit 67 = .ok (.isub, 1) := by decide +kernel
theorem dX0_writeSplit_68 : decode cX0_writeSplit 68 = .ok (.invokevirtual 46, 3) := by decide +kernel
theorem dX0_writeSplit_71 : decode cX0_writeSplit 71 = .ok (.aload_n 0, 1) := by decide +kernel
theorem dX0_writeSplit_72 : decode cX0_writeSplit 72 = .ok (.iload_n 2, 1) := by decide +kernel
theorem dX0_writeSplit_73 : decode cX0_writeSplit 73 = .ok (.iload_n 3, 1) := by decide +kernel
theorem dX0_writeSplit_74 : decode cX0_writeSplit 74 = .ok (.iload 5, 2) := by decide +kernel
theorem dX0_writeSplit_76 : decode cX0_writeSplit 76 = .ok (.ixor, 1) := by decide +kernel
theorem dX0_writeSplit_77 : decode cX0_writeSplit 77 = .ok (.iload 4, 2) := by decide +kernel
theorem dX0_writeSplit_79 : decode cX0_writeSplit 79 = .ok (.iconst 1, 1) := by decide +kernel
theorem dX0_writeSplit_80 : decode cX0_writeSplit 80 = .ok (.isub, 1) := by decide +kernel
theorem dX0_writeSplit_81 : decode cX0_writeSplit 81 = .ok (.invokevirtual 46, 3) := by decide +kernel
theorem dX0_writeSplit_84 : decode cX0_writeSplit 84 = .ok (.return_, 1) := by decide +kernel
theorem dX0_writeSplit_85 : decode cX0_writeSplit 85 = .ok (.iload 5, 2) := by decide +kernel
theorem dX0_writeSplit_87 : decode cX0_writeSplit 87 = .ok (.iload_n 3, 1) := by decide +kernel
theorem dX0_writeSplit_88 : decode cX0_writeSplit 88 = .ok (.invokestatic 92, 3) := by decide +kernel
theorem dX0_writeSplit_91 : decode cX0_writeSplit 91 = .ok (.istore 5, 2) := by decide +kernel
theorem dX0_writeSplit_93 : decode cX0_writeSplit 93 = .ok (.iinc 6 (-1), 3) := by decide +kernel
theorem dX0_writeSplit_96 : decode cX0_writeSplit 96 = .ok (.goto (-87), 3) := by decide +kernel
theorem dX0_writeSplit_99 : decode cX0_writeSplit 99 = .ok (.return_, 1) := by decide +kernel
theorem dX0_writeChoice_0 : decode cX0_writeChoice 0 = .ok (.aload_n 0, 1) := by decide +kernel
theorem dX0_writeChoice_1 : decode cX0_writeChoice 1 = .ok (.getfield 30, 3) := by decide +kernel
theorem dX0_writeChoice_4 : decode cX0_writeChoice 4 = .ok (.iload_n 1, 1) := by decide +kernel
theorem dX0_writeChoice_5 : decode cX0_writeChoice 5 = .ok (.iload_n 3, 1) := by decide +kernel
theorem dX0_writeChoice_6 : decode cX0_writeChoice 6 = .ok (.iload 4, 2) := by decide +kernel
theorem dX0_writeChoice_8 : decode cX0_writeChoice 8 = .ok (.iconst 1, 1) := by decide +kernel
theorem dX0_writeChoice_9 : decode cX0_writeChoice 9 = .ok (.isub, 1) := by decide +kernel
theorem dX0_writeChoice_10 : decode cX0_writeChoice 10 = .ok (.invokevirtual 84, 3) := by decide +kernel
theorem dX0_writeChoice_13 : decode cX0_writeChoice 13 = .ok (.ifCond .eq 23, 3) := by decide +kernel
theorem dX0_writeChoice_16 : decode cX0_writeChoice 16 = .ok (.aload_n 0, 1) := by decide +kernel
theorem dX0_writeChoice_17 : decode cX0_writeChoice 17 = .ok (.sipush 300, 3) := by decide +kernel
theorem dX0_writeChoice_20 : decode cX0_writeChoice 20 = .ok (.invokevirtual 88, 3) := by decide +kernel
theorem dX0_writeChoice_23 : decode cX0_writeChoice 23 = .ok (.aload_n 0, 1) := by decide +kernel
theorem dX0_writeChoice_24 : decode cX0_writeChoice 24 = .ok (.iload_n 1, 1) := by decide +kernel
theorem dX0_writeChoice_25 : decode cX0_writeChoice 25 = .ok (.iload_n 3, 1) := by decide +kernel
theorem dX0_writeChoice_26 : decode cX0_writeChoice 26 = .ok (.iload 4, 2) := by decide +kernel
theorem dX0_writeChoice_28 : decode cX0_writeChoice 28 = .ok (.iconst 1, 1) := by decide +kernel
theorem dX0_writeChoice_29 : decode cX0_writeChoice 29 = .ok (.isub, 1) := by decide +kernel
theorem dX0_writeChoice_30 : decode cX0_writeChoice 30 = .ok (.invokevirtual 46, 3) := by decide +kernel
theorem dX0_writeChoice_33 : decode cX0_writeChoice 33 = .ok (.goto 20, 3) := by decide +kernel
theorem dX0_writeChoice_36 : decode cX0_writeChoice 36 = .ok (.aload_n 0, 1) := by decide +kernel
theorem dX0_writeChoice_37 : decode cX0_writeChoice 37 = .ok (.sipush 301, 3) := by decide +kernel
theorem dX0_writeChoice_40 : decode cX0_writeChoice 40 = .ok (.invokevirtual 88, 3) := by decide +kernel
theorem dX0_writeChoice_43 : decode cX0_writeChoice 43 = .ok (.aload_n 0, 1) := by decide +kernel
theorem dX0_writeChoice_44 : decode cX0_writeChoice 44 = .ok (.iload_n 2, 1) := by decide +kernel
theorem dX0_writeChoice_45 : decode cX0_writeChoice 45 = .ok (.iload_n 3, 1) := by decide +kernel
theorem dX0_writeChoice_46 : decode cX0_writeChoice 46 = .ok (.iload 4, 2) := by decide +kernel
theorem dX0_writeChoice_48 : decode cX0_writeChoice 48 = .ok (.iconst 1, 1) := by decide +kernel
theorem dX0_writeChoice_49 : decode cX0_writeChoice 49 = .ok (.isub, 1) := by decide +kernel
theorem dX0_writeChoice_50 : decode cX0_writeChoice 50 = .ok (.invokevirtual 46, 3) := by decide +kernel
theorem dX0_writeChoice_53 : decode cX0_writeChoice 53 = .ok (.return_, 1) := by decide +kernel
theorem dX0_writeAtom_0 : decode cX0_writeAtom 0 = .ok (.iconst 0, 1) := by decide +kernel
theorem dX0_writeAtom_1 : decode cX0_writeAtom 1 = .ok (.istore 4, 2) := by decide +kernel
theorem dX0_writeAtom_3 : decode cX0_writeAtom 3 = .ok (.iload 4, 2) := by decide +kernel
theorem dX0_writeAtom_5 : decode cX0_writeAtom 5 = .ok (.bipush 12, 2) := by decide +kernel
theorem dX0_writeAtom_7 : decode cX0_writeAtom 7 = .ok (.if_icmp .ge 107, 3) := by decide +kernel
theorem dX0_writeAtom_10 : decode cX0_writeAtom 10 = .ok (.iload 4, 2) := by decide +kernel
theorem dX0_writeAtom_12 : decode cX0_writeAtom 12 = .ok (.iload_n 2, 1) := by decide +kernel
theorem dX0_writeAtom_13 : decode cX0_writeAtom 13 = .ok (.invokestatic 95, 3) := by decide +kernel
theorem dX0_writeAtom_16 : decode cX0_writeAtom 16 = .ok (.istore 5, 2) := by decide +kernel
theorem dX0_writeAtom_18 : decode cX0_writeAtom 18 = .ok (.iconst 0, 1) := by decide +kernel
theorem dX0_writeAtom_19 : decode cX0_writeAtom 19 = .ok (.istore 6, 2) := by decide +kernel
theorem dX0_writeAtom_21 : decode cX0_writeAtom 21 = .ok (.iload 6, 2) := by decide +kernel
theorem dX0_writeAtom_23 : decode cX0_writeAtom 23 = .ok (.iconst 3, 1) := by decide +kernel
theorem dX0_writeAtom_24 : decode cX0_writeAtom 24 = .ok (.if_icmp .ge 84, 3) := by decide +kernel
theorem dX0_writeAtom_27 : decode cX0_writeAtom 27 = .ok (.iload 5, 2) := by decide +kernel
theorem dX0_writeAtom_29 : decode cX0_writeAtom 29 = .ok (.iconst (-1), 1) := by decide +kernel
theorem dX0_writeAtom_30 : decode cX0_writeAtom 30 = .ok (.if_icmp .eq 78, 3) := by decide +kernel
theorem dX0_writeAtom_33 : decode cX0_writeAtom 33 = .ok (.aload_n 0, 1) := by decide +kernel
theorem dX0_writeAtom_34 : decode cX0_writeAtom 34 = .ok (.getfield 26, 3) := by decide +kernel
theorem dX0_writeAtom_37 : decode cX0_writeAtom 37 = .ok (.iload 4, 2) := by decide +kernel
theorem dX0_writeAtom_39 : decode cX0_writeAtom 39 = .ok (.iload 6, 2) := by decide +kernel
theorem dX0_writeAtom_41 : decode cX0_writeAtom 41 = .ok (.invokevirtual 98, 3) := by decide +kernel
theorem dX0_writeAtom_44 : decode cX0_writeAtom 44 = .ok (.istore 7, 2) := by decide +kernel
theorem dX0_writeAtom_46 : decode cX0_writeAtom 46 = .ok (.aload_n 0, 1) := by decide +kernel
theorem dX0_writeAtom_47 : decode cX0_writeAtom 47 = .ok (.getfield 26, 3) := by decide +kernel
theorem dX0_writeAtom_50 : decode cX0_writeAtom 50 = .ok (.iload 4, 2) := by decide +kernel
theorem dX0_writeAtom_52 : decode cX0_writeAtom 52 = .ok (.iload 6, 2) := by decide +kernel
theorem dX0_writeAtom_54 : decode cX0_writeAtom 54 = .ok (.iload_n 1, 1) := by decide +kernel
theorem dX0_writeAtom_55 : decode cX0_writeAtom 55 = .ok (.invokevirtual 101, 3) := by decide +kernel
theorem dX0_writeAtom_58 : decode cX0_writeAtom 58 = .ok (.ifCond .eq 44, 3) := by decide +kernel
theorem dX0_writeAtom_61 : decode cX0_writeAtom 61 = .ok (.aload_n 0, 1) := by decide +kernel
theorem dX0_writeAtom_62 : decode cX0_writeAtom 62 = .ok (.iload 7, 2) := by decide +kernel
theorem dX0_writeAtom_64 : decode cX0_writeAtom 64 = .ok (.iload 5, 2) := by decide +kernel
theorem dX0_writeAtom_66 : decode cX0_writeAtom 66 = .ok (.iload_n 3, 1) := by decide +kernel
theorem dX0_writeAtom_67 : decode cX0_writeAtom 67 = .ok (.invokevirtual 105, 3) := by decide +kernel
theorem dX0_writeAtom_70 : decode cX0_writeAtom 70 = .ok (.ifCond .eq 32, 3) := by decide +kernel
theorem dX0_writeAtom_73 : decode cX0_writeAtom 73 = .ok (.aload_n 0, 1) := by decide +kernel
theorem dX0_writeAtom_74 : decode cX0_writeAtom 74 = .ok (.iload 4, 2) := by decide +kernel
theorem dX0_writeAtom_76 : decode cX0_writeAtom 76 = .ok (.iload 6, 2) := by decide +kernel
theorem dX0_writeAtom_78 : decode cX0_writeAtom 78 = .ok (.invokestatic 50, 3) := by decide +kernel
theorem dX0_writeAtom_81 : decode cX0_writeAtom 81 = .ok (.invokevirtual 88, 3) := by decide +kernel
theorem dX0_writeAtom_84 : decode cX0_writeAtom 84 = .ok (.iload 7, 2) := by decide +kernel
theorem dX0_writeAtom_86 : decode cX0_writeAtom 86 = .ok (.iconst (-1), 1) := by decide +kernel
theorem dX0_writeAtom_87 : decode cX0_writeAtom 87 = .ok (.if_icmp .eq 14, 3) := by decide +kernel
theorem dX0_writeAtom_90 : decode cX0_writeAtom 90 = .ok (.aload_n 0, 1) := by decide +kernel
theorem dX0_writeAtom_91 : decode cX0_writeAtom 91 = .ok (.iload 7, 2) := by decide +kernel
theorem dX0_writeAtom_93 : decode cX0_writeAtom 93 = .ok (.iload 5, 2) := by decide +kernel
theorem dX0_writeAtom_95 : decode cX0_writeAtom 95 = .ok (.iload_n 3, 1) := by decide +kernel
theorem dX0_writeAtom_96 : decode cX0_writeAtom 96 = .ok (.iconst 1, 1) := by decide +kernel
theorem dX0_writeAtom_97 : decode cX0_writeAtom 97 = .ok (.isub, 1) := by decide +kernel
theorem dX0_writeAtom_98 : decode cX0_writeAtom 98 = .ok (.invokevirtual 46, 3) := by decide +kernel
theorem dX0_writeAtom_101 : decode cX0_writeAtom 101 = .ok (.return_, 1) := by decide +kernel
theorem dX0_writeAtom_102 : decode cX0_writeAtom 102 = .ok (.iinc 6 1, 3) := by decide +kernel
theorem dX0_writeAtom_105 : decode cX0_writeAtom 105 = .ok (.goto (-84), 3) := by decide +kernel
theorem dX0_writeAtom_108 : decode cX0_writeAtom 108 = .ok (.iinc 4 1, 3) := by decide +kernel
theorem dX0_writeAtom_111 : decode cX0_writeAtom 111 = .ok (.goto (-108), 3) := by decide +kernel
theorem dX0_writeAtom_114 : decode cX0_writeAtom 114 = .ok (.return_, 1) := by decide +kernel
theorem dX0_serves_0 : decode cX0_serves 0 = .ok (.iload_n 1, 1) := by decide +kernel
theorem dX0_serves_1 : decode cX0_serves 1 = .ok (.iconst (-1), 1) := by decide +kernel
theorem dX0_serves_2 : decode cX0_serves 2 = .ok (.if_icmp .ne 15, 3) := by decide +kernel
theorem dX0_serves_5 : decode cX0_serves 5 = .ok (.iload_n 2, 1) := by decide +kernel
theorem dX0_serves_6 : decode cX0_serves 6 = .ok (.ifCond .ne 7, 3) := by decide +kernel
theorem dX0_serves_9 : decode cX0_serves 9 = .ok (.iconst 1, 1) := by decide +kernel
theorem dX0_serves_10 : decode cX0_serves 10 = .ok (.goto 19, 3) := by decide +kernel
theorem dX0_serves_13 : decode cX0_serves 13 = .ok (.iconst 0, 1) := by decide +kernel
theorem dX0_serves_14 : decode cX0_serves 14 = .ok (.goto 15, 3) := by decide +kernel
theorem dX0_serves_17 : decode cX0_serves 17 = .ok (.aload_n 0, 1) := by decide +kernel
theorem dX0_serves_18 : decode cX0_serves 18 = .ok (.getfield 30, 3) := by decide +kernel
theorem dX0_serves_21 : decode cX0_serves 21 = .ok (.iload_n 1, 1) := by decide +kernel
theorem dX0_serves_22 : decode cX0_serves 22 = .ok (.iload_n 2, 1) := by decide +kernel
theorem dX0_serves_23 : decode cX0_serves 23 = .ok (.iload_n 3, 1) := by decide +kernel
theorem dX0_serves_24 : decode cX0_serves 24 = .ok (.iconst 1, 1) := by decide +kernel
theorem dX0_serves_25 : decode cX0_serves 25 = .ok (.isub, 1) := by decide +kernel
theorem dX0_serves_26 : decode cX0_serves 26 = .ok (.invokevirtual 84, 3) := by decide +kernel
theorem dX0_serves_29 : decode cX0_serves 29 = .ok (.ireturn, 1) := by decide +kernel
theorem dX0_append_0 : decode cX0_append 0 = .ok (.aload_n 0, 1) := by decide +kernel
theorem dX0_append_1 : decode cX0_append 1 = .ok (.getfield 15, 3) := by decide +kernel
theorem dX0_append_4 : decode cX0_append 4 = .ok (.ifCond .lt 33, 3) := by decide +kernel
theorem dX0_append_7 : decode cX0_append 7 = .ok (.aload_n 0, 1) := by decide +kernel
theorem dX0_append_8 : decode cX0_append 8 = .ok (.getfield 15, 3) := by decide +kernel
theorem dX0_append_11 : decode cX0_append 11 = .ok (.sipush 1024, 3) := by decide +kernel
theorem dX0_append_14 : decode cX0_append 14 = .ok (.if_icmp .ge 23, 3) := by decide +kernel
theorem dX0_append_17 : decode cX0_append 17 = .ok (.aload_n 0, 1) := by decide +kernel
theorem dX0_append_18 : decode cX0_append 18 = .ok (.getfield 11, 3) := by decide +kernel
theorem dX0_append_21 : decode cX0_append 21 = .ok (.aload_n 0, 1) := by decide +kernel
theorem dX0_append_22 : decode cX0_append 22 = .ok (.getfield 15, 3) := by decide +kernel
theorem dX0_append_25 : decode cX0_append 25 = .ok (.iload_n 1, 1) := by decide +kernel
theorem dX0_append_26 : decode cX0_append 26 = .ok (.iastore, 1) := by decide +kernel
theorem dX0_append_27 : decode cX0_append 27 = .ok (.aload_n 0, 1) := by decide +kernel
theorem dX0_append_28 : decode cX0_append 28 = .ok (.dup, 1) := by decide +kernel
theorem dX0_append_29 : decode cX0_append 29 = .ok (.getfield 15, 3) := by decide +kernel
theorem dX0_append_32 : decode cX0_append 32 = .ok (.iconst 1, 1) := by decide +kernel
theorem dX0_append_33 : decode cX0_append 33 = .ok (.iadd, 1) := by decide +kernel
theorem dX0_append_34 : decode cX0_append 34 = .ok (.putfield 15, 3) := by decide +kernel
theorem dX0_append_37 : decode cX0_append 37 = .ok (.return_, 1) := by decide +kernel
theorem dX0_numberOf_0 : decode cX0_numberOf 0 = .ok (.iload_n 0, 1) := by decide +kernel
theorem dX0_numberOf_1 : decode cX0_numberOf 1 = .ok (.bipush 8, 2) := by decide +kernel
theorem dX0_numberOf_3 : decode cX0_numberOf 3 = .ok (.if_icmp .ge 12, 3) := by decide +kernel
theorem dX0_numberOf_6 : decode cX0_numberOf 6 = .ok (.bipush 10, 2) := by decide +kernel
theorem dX0_numberOf_8 : decode cX0_numberOf 8 = .ok (.iload_n 0, 1) := by decide +kernel
theorem dX0_numberOf_9 : decode cX0_numberOf 9 = .ok (.imul, 1) := by decide +kernel
theorem dX0_numberOf_10 : decode cX0_numberOf 10 = .ok (.iload_n 1, 1) := by decide +kernel
theorem dX0_numberOf_11 : decode cX0_numberOf 11 = .ok (.iadd, 1) := by decide +kernel
theorem dX0_numberOf_12 : decode cX0_numberOf 12 = .ok (.goto 15, 3) := by decide +kernel
theorem dX0_numberOf_15 : decode cX0_numberOf 15 = .ok (.bipush 100, 2) := by decide +kernel
theorem dX0_numberOf_17 : decode cX0_numberOf 17 = .ok (.bipush 10, 2) := by decide +kernel
theorem dX0_numberOf_19 : decode cX0_numberOf 19 = .ok (.iload_n 0, 1) := by decide +kernel
theorem dX0_numberOf_20 : decode cX0_numberOf 20 = .ok (.bipush 8, 2) := by decide +kernel
theorem dX0_numberOf_22 : decode cX0_numberOf 22 = .ok (.isub, 1) := by decide +kernel
theorem dX0_numberOf_23 : decode cX0_numberOf 23 = .ok (.imul, 1) := by decide +kernel
theorem dX0_numberOf_24 : decode cX0_numberOf 24 = .ok (.iadd, 1) := by decide +kernel
theorem dX0_numberOf_25 : decode cX0_numberOf 25 = .ok (.iload_n 1, 1) := by decide +kernel
theorem dX0_numberOf_26 : decode cX0_numberOf 26 = .ok (.iadd, 1) := by decide +kernel
theorem dX0_numberOf_27 : decode cX0_numberOf 27 = .ok (.ireturn, 1) := by decide +kernel
theorem dX1_init_0 : decode cX1_init 0 = .ok (.aload_n 0, 1) := by decide +kernel
theorem dX1_init_1 : decode cX1_init 1 = .ok (.invokespecial 1, 3) := by decide +kernel
theorem dX1_init_4 : decode cX1_init 4 = .ok (.aload_n 0, 1) := by decide +kernel
theorem dX1_init_5 : decode cX1_init 5 = .ok (.aload_n 1, 1) := by decide +kernel
theorem dX1_init_6 : decode cX1_init 6 = .ok (.putfield 7, 3) := by decide +kernel
theorem dX1_init_9 : decode cX1_init 9 = .ok (.aload_n 0, 1) := by decide +kernel
theorem dX1_init_10 : decode cX1_init 10 = .ok (.iload_n 2, 1) := by decide +kernel
theorem dX1_init_11 : decode cX1_init 11 = .ok (.putfield 13, 3) := by decide +kernel
theorem dX1_init_14 : decode cX1_init 14 = .ok (.aload_n 0, 1) := by decide +kernel
theorem dX1_init_15 : decode cX1_init 15 = .ok (.iload_n 3, 1) := by decide +kernel
theorem dX1_init_16 : decode cX1_init 16 = .ok (.putfield 17, 3) := by decide +kernel
theorem dX1_init_19 : decode cX1_init 19 = .ok (.return_, 1) := by decide +kernel
theorem dX1_signs_0 : decode cX1_signs 0 = .ok (.aload_n 0, 1) := by decide +kernel
theorem dX1_signs_1 : decode cX1_signs 1 = .ok (.getfield 7, 3) := by decide +kernel
theorem dX1_signs_4 : decode cX1_signs 4 = .ok (.areturn, 1) := by decide +kernel
theorem dX1_nodes_0 : decode cX1_nodes 0 = .ok (.aload_n 0, 1) := by decide +kernel
theorem dX1_nodes_1 : decode cX1_nodes 1 = .ok (.getfield 13, 3) := by decide +kernel
theorem dX1_nodes_4 : decode cX1_nodes 4 = .ok (.ireturn, 1) := by decide +kernel
theorem dX1_loans_0 : decode cX1_loans 0 = .ok (.aload_n 0, 1) := by decide +kernel
theorem dX1_loans_1 : decode cX1_loans 1 = .ok (.getfield 17, 3) := by decide +kernel
theorem dX1_loans_4 : decode cX1_loans 4 = .ok (.ireturn, 1) := by decide +kernel
theorem dX2_init_0 : decode cX2_init 0 = .ok (.aload_n 0, 1) := by decide +kernel
theorem dX2_init_1 : decode cX2_init 1 = .ok (.invokespecial 3, 3) := by decide +kernel
theorem dX2_init_4 : decode cX2_init 4 = .ok (.aload_n 0, 1) := by decide +kernel
theorem dX2_init_5 : decode cX2_init 5 = .ok (.iconst 0, 1) := by decide +kernel
theorem dX2_init_6 : decode cX2_init 6 = .ok (.putfield 11, 3) := by decide +kernel
theorem dX2_init_9 : decode cX2_init 9 = .ok (.aload_n 0, 1) := by decide +kernel
theorem dX2_init_10 : decode cX2_init 10 = .ok (.iconst 0, 1) := by decide +kernel
theorem dX2_init_11 : decode cX2_init 11 = .ok (.putfield 15, 3) := by decide +kernel
theorem dX2_init_14 : decode cX2_init 14 = .ok (.aload_n 0, 1) := by decide +kernel
theorem dX2_init_15 : decode cX2_init 15 = .ok (.iconst 0, 1) := by decide +kernel
theorem dX2_init_16 : decode cX2_init 16 = .ok (.putfield 18, 3) := by decide +kernel
theorem dX2_init_19 : decode cX2_init 19 = .ok (.aload_n 0, 1) := by decide +kernel
theorem dX2_init_20 : decode cX2_init 20 = .ok (.aload_n 1, 1) := by decide +kernel
theorem dX2_init_21 : decode cX2_init 21 = .ok (.putfield 21, 3) := by decide +kernel
theorem dX2_init_24 : decode cX2_init 24 = .ok (.aload_n 0, 1) := by decide +kernel
theorem dX2_init_25 : decode cX2_init 25 = .ok (.aload_n 2, 1) := by decide +kernel
theorem dX2_init_26 : decode cX2_init 26 = .ok (.putfield 25, 3) := by decide +kernel
theorem dX2_init_29 : decode cX2_init 29 = .ok (.return_, 1) := by decide +kernel
theorem dX2_judge_0 : decode cX2_judge 0 = .ok (.aload_n 0, 1) := by decide +kernel
theorem dX2_judge_1 : decode cX2_judge 1 = .ok (.iconst 0, 1) := by decide +kernel
theorem dX2_judge_2 : decode cX2_judge 2 = .ok (.putfield 11, 3) := by decide +kernel
theorem dX2_judge_5 : decode cX2_judge 5 = .ok (.aload_n 0, 1) := by decide +kernel
theorem dX2_judge_6 : decode cX2_judge 6 = .ok (.iconst 0, 1) := by decide +kernel
theorem dX2_judge_7 : decode cX2_judge 7 = .ok (.putfield 15, 3) := by decide +kernel
theorem dX2_judge_10 : decode cX2_judge 10 = .ok (.aload_n 0, 1) := by decide +kernel
theorem dX2_judge_11 : decode cX2_judge 11 = .ok (.iconst 0, 1) := by decide +kernel
theorem dX2_judge_12 : decode cX2_judge 12 = .ok (.putfield 18, 3) := by decide +kernel
theorem dX2_judge_15 : decode cX2_judge 15 = .ok (.aload_n 0, 1) := by decide +kernel
theorem dX2_judge_16 : decode cX2_judge 16 = .ok (.aload_n 0, 1) := by decide +kernel
theorem dX2_judge_17 : decode cX2_judge 17 = .ok (.getfield 21, 3) := by decide +kernel
theorem dX2_judge_20 : decode cX2_judge 20 = .ok (.invokevirtual 29, 3) := by decide +kernel
theorem dX2_judge_23 : decode cX2_judge 23 = .ok (.iload_n 1, 1) := by decide +kernel
theorem dX2_judge_24 : decode cX2_judge 24 = .ok (.iconst 1, 1) := by decide +kernel
theorem dX2_judge_25 : decode cX2_judge 25 = .ok (.invokevirtual 35, 3) := by decide +kernel
theorem dX2_judge_28 : decode cX2_judge 28 = .ok (.aload_n 0, 1) := by decide +kernel
theorem dX2_judge_29 : decode cX2_judge 29 = .ok (.getfield 11, 3) := by decide +kernel
theorem dX2_judge_32 : decode cX2_judge 32 = .ok (.ifCond .ne 23, 3) := by decide +kernel
theorem dX2_judge_35 : decode cX2_judge 35 = .ok (.aload_n 0, 1) := by decide +kernel
theorem dX2_judge_36 : decode cX2_judge 36 = .ok (.getfield 15, 3) := by decide +kernel
theorem dX2_judge_39 : decode cX2_judge 39 = .ok (.aload_n 0, 1) := by decide +kernel
theorem dX2_judge_40 : decode cX2_judge 40 = .ok (.getfield 25, 3) := by decide +kernel
theorem dX2_judge_43 : decode cX2_judge 43 = .ok (.invokevirtual 39, 3) := by decide +kernel
theorem dX2_judge_46 : decode cX2_judge 46 = .ok (.if_icmp .ge 9, 3) := by decide +kernel
theorem dX2_judge_49 : decode cX2_judge 49 = .ok (.aload_n 0, 1) := by decide +kernel
theorem dX2_judge_50 : decode cX2_judge 50 = .ok (.bipush 6, 2) := by decide +kernel
theorem dX2_judge_52 : decode cX2_judge 52 = .ok (.putfield 11, 3) := by decide +kernel
theorem dX2_judge_55 : decode cX2_judge 55 = .ok (.return_, 1) := by decide +kernel
theorem dX2_verdict_0 : decode cX2_verdict 0 = .ok (.aload_n 0, 1) := by decide +kernel
theorem dX2_verdict_1 : decode cX2_verdict 1 = .ok (.getfield 11, 3) := by decide +kernel
theorem dX2_verdict_4 : decode cX2_verdict 4 = .ok (.ireturn, 1) := by decide +kernel
theorem dX2_used_0 : decode cX2_used 0 = .ok (.aload_n 0, 1) := by decide +kernel
theorem dX2_used_1 : decode cX2_used 1 = .ok (.getfield 15, 3) := by decide +kernel
theorem dX2_used_4 : decode cX2_used 4 = .ok (.ireturn, 1) := by decide +kernel
theorem dX2_deepest_0 : decode cX2_deepest 0 = .ok (.aload_n 0, 1) := by decide +kernel
theorem dX2_deepest_1 : decode cX2_deepest 1 = .ok (.getfield 18, 3) := by decide +kernel
theorem dX2_deepest_4 : decode cX2_deepest 4 = .ok (.ireturn, 1) := by decide +kernel
theorem dX2_visit_0 : decode cX2_visit 0 = .ok (.aload_n 0, 1) := by decide +kernel
theorem dX2_visit_1 : decode cX2_visit 1 = .ok (.getfield 11, 3) := by decide +kernel
theorem dX2_visit_4 : decode cX2_visit 4 = .ok (.ifCond .eq 4, 3) := by decide +kernel
theorem dX2_visit_7 : decode cX2_visit 7 = .ok (.return_, 1) := by decide +kernel
theorem dX2_visit_8 : decode cX2_visit 8 = .ok (.iload_n 3, 1) := by decide +kernel
theorem dX2_visit_9 : decode cX2_visit 9 = .ok (.bipush 12, 2) := by decide +kernel
theorem dX2_visit_11 : decode cX2_visit 11 = .ok (.if_icmp .le 9, 3) := by decide +kernel
theorem dX2_visit_14 : decode cX2_visit 14 = .ok (.aload_n 0, 1) := by decide +kernel
theorem dX2_visit_15 : decode cX2_visit 15 = .ok (.iconst 1, 1) := by decide +kernel
theorem dX2_visit_16 : decode cX2_visit 16 = .ok (.putfield 11, 3) := by decide +kernel
theorem dX2_visit_19 : decode cX2_visit 19 = .ok (.return_, 1) := by decide +kernel
theorem dX2_visit_20 : decode cX2_visit 20 = .ok (.aload_n 0, 1) := by decide +kernel
theorem dX2_visit_21 : decode cX2_visit 21 = .ok (.aload_n 0, 1) := by decide +kernel
theorem dX2_visit_22 : decode cX2_visit 22 = .ok (.getfield 18, 3) := by decide +kernel
theorem dX2_visit_25 : decode cX2_visit 25 = .ok (.iload_n 3, 1) := by decide +kernel
theorem dX2_visit_26 : decode cX2_visit 26 = .ok (.invokestatic 44, 3) := by decide +kernel
theorem dX2_visit_29 : decode cX2_visit 29 = .ok (.putfield 18, 3) := by decide +kernel
theorem dX2_visit_32 : decode cX2_visit 32 = .ok (.aload_n 0, 1) := by decide +kernel
theorem dX2_visit_33 : decode cX2_visit 33 = .ok (.getfield 21, 3) := by decide +kernel
theorem dX2_visit_36 : decode cX2_visit 36 = .ok (.iload_n 1, 1) := by decide +kernel
theorem dX2_visit_37 : decode cX2_visit 37 = .ok (.invokevirtual 50, 3) := by decide +kernel
theorem dX2_visit_40 : decode cX2_visit 40 = .ok (.istore 4, 2) := by decide +kernel
theorem dX2_visit_42 : decode cX2_visit 42 = .ok (.iload 4, 2) := by decide +kernel
theorem dX2_visit_44 : decode cX2_visit 44 = .ok (.lookupswitch 168 #[(33, 79), (38, 113), (42, 103), (43, 148), (49, 68), (84, 76), (91, 158)], 68) := by decide +kernel
theorem dX2_visit_112 : decode cX2_visit 112 = .ok (.aload_n 0, 1) := by decide +kernel
theorem dX2_visit_113 : decode cX2_visit 113 = .ok (.iload_n 2, 1) := by decide +kernel
theorem dX2_visit_114 : decode cX2_visit 114 = .ok (.invokevirtual 54, 3) := by decide +kernel
theorem dX2_visit_117 : decode cX2_visit 117 = .ok (.goto 103, 3) := by decide +kernel
theorem dX2_visit_120 : decode cX2_visit 120 = .ok (.goto 100, 3) := by decide +kernel
theorem dX2_visit_123 : decode cX2_visit 123 = .ok (.aload_n 0, 1) := by decide +kernel
theorem dX2_visit_124 : decode cX2_visit 124 = .ok (.iload_n 2, 1) := by decide +kernel
theorem dX2_visit_125 : decode cX2_visit 125 = .ok (.invokevirtual 54, 3) := by decide +kernel
theorem dX2_visit_128 : decode cX2_visit 128 = .ok (.aload_n 0, 1) := by decide +kernel
theorem dX2_visit_129 : decode cX2_visit 129 = .ok (.aload_n 0, 1) := by decide +kernel
theorem dX2_visit_130 : decode cX2_visit 130 = .ok (.getfield 21, 3) := by decide +kernel
theorem dX2_visit_133 : decode cX2_visit 133 = .ok (.iload_n 1, 1) := by decide +kernel
theorem dX2_visit_134 : decode cX2_visit 134 = .ok (.invokevirtual 58, 3) := by decide +kernel
theorem dX2_visit_137 : decode cX2_visit 137 = .ok (.iload_n 2, 1) := by decide +kernel
theorem dX2_visit_138 : decode cX2_visit 138 = .ok (.iload_n 3, 1) := by decide +kernel
theorem dX2_visit_139 : decode cX2_visit 139 = .ok (.iconst 1, 1) := by decide +kernel
theorem dX2_visit_140 : decode cX2_visit 140 = .ok (.iadd, 1) := by decide +kernel
theorem dX2_visit_141 : decode cX2_visit 141 = .ok (.invokevirtual 35, 3) := by decide +kernel
theorem dX2_visit_144 : decode cX2_visit 144 = .ok (.goto 76, 3) := by decide +kernel
theorem dX2_visit_147 : decode cX2_visit 147 = .ok (.aload_n 0, 1) := by decide +kernel
theorem dX2_visit_148 : decode cX2_visit 148 = .ok (.iload_n 1, 1) := by decide +kernel
theorem dX2_visit_149 : decode cX2_visit 149 = .ok (.iload_n 2, 1) := by decide +kernel
theorem dX2_visit_150 : decode cX2_visit 150 = .ok (.iload_n 3, 1) := by decide +kernel
theorem dX2_visit_151 : decode cX2_visit 151 = .ok (.invokevirtual 62, 3) := by decide +kernel
theorem dX2_visit_154 : decode cX2_visit 154 = .ok (.goto 66, 3) := by decide +kernel
theorem dX2_visit_157 : decode cX2_visit 157 = .ok (.aload_n 0, 1) := by decide +kernel
theorem dX2_visit_158 : decode cX2_visit 158 = .ok (.aload_n 0, 1) := by decide +kernel
theorem dX2_visit_159 : decode cX2_visit 159 = .ok (.getfield 21, 3) := by decide +kernel
theorem dX2_visit_162 : decode cX2_visit 162 = .ok (.iload_n 1, 1) := by decide +kernel
theorem dX2_visit_163 : decode cX2_visit 163 = .ok (.invokevirtual 58, 3) := by decide +kernel
theorem dX2_visit_166 : decode cX2_visit 166 = .ok (.iload_n 2, 1) := by decide +kernel
theorem dX2_visit_167 : decode cX2_visit 167 = .ok (.iload_n 3, 1) := by decide +kernel
theorem dX2_visit_168 : decode cX2_visit 168 = .ok (.iconst 1, 1) := by decide +kernel
theorem dX2_visit_169 : decode cX2_visit 169 = .ok (.iadd, 1) := by decide +kernel
theorem dX2_visit_170 : decode cX2_visit 170 = .ok (.invokevirtual 35, 3) := by decide +kernel
theorem dX2_visit_173 : decode cX2_visit 173 = .ok (.aload_n 0, 1) := by decide +kernel
theorem dX2_visit_174 : decode cX2_visit 174 = .ok (.aload_n 0, 1) := by decide +kernel
theorem dX2_visit_175 : decode cX2_visit 175 = .ok (.getfield 21, 3) := by decide +kernel
theorem dX2_visit_178 : decode cX2_visit 178 = .ok (.iload_n 1, 1) := by decide +kernel
theorem dX2_visit_179 : decode cX2_visit 179 = .ok (.invokevirtual 65, 3) := by decide +kernel
theorem dX2_visit_182 : decode cX2_visit 182 = .ok (.iload_n 2, 1) := by decide +kernel
theorem dX2_visit_183 : decode cX2_visit 183 = .ok (.iload_n 3, 1) := by decide +kernel
theorem dX2_visit_184 : decode cX2_visit 184 = .ok (.iconst 1, 1) := by decide +kernel
theorem dX2_visit_185 : decode cX2_visit 185 = .ok (.iadd, 1) := by decide +kernel
theorem dX2_visit_186 : decode cX2_visit 186 = .ok (.invokevirtual 35, 3) := by decide +kernel
theorem dX2_visit_189 : decode cX2_visit 189 = .ok (.goto 31, 3) := by decide +kernel
theorem dX2_visit_192 : decode cX2_visit 192 = .ok (.aload_n 0, 1) := by decide +kernel
theorem dX2_visit_193 : decode cX2_visit 193 = .ok (.iload_n 1, 1) := by decide +kernel
theorem dX2_visit_194 : decode cX2_visit 194 = .ok (.iload_n 2, 1) := by decide +kernel
theorem dX2_visit_195 : decode cX2_visit 195 = .ok (.iload_n 3, 1) := by decide +kernel
theorem dX2_visit_196 : decode cX2_visit 196 = .ok (.invokevirtual 68, 3) := by decide +kernel
theorem dX2_visit_199 : decode cX2_visit 199 = .ok (.goto 21, 3) := by decide +kernel
theorem dX2_visit_202 : decode cX2_visit 202 = .ok (.aload_n 0, 1) := by decide +kernel
theorem dX2_visit_203 : decode cX2_visit 203 = .ok (.iload_n 1, 1) := by decide +kernel
theorem dX2_visit_204 : decode cX2_visit 204 = .ok (.iload_n 2, 1) := by decide +kernel
theorem dX2_visit_205 : decode cX2_visit 205 = .ok (.iload_n 3, 1) := by decide +kernel
theorem dX2_visit_206 : decode cX2_visit 206 = .ok (.invokevirtual 71, 3) := by decide +kernel
theorem dX2_visit_209 : decode cX2_visit 209 = .ok (.goto 11, 3) := by decide +kernel
theorem dX2_visit_212 : decode cX2_visit 212 = .ok (.aload_n 0, 1) := by decide +kernel
theorem dX2_visit_213 : decode cX2_visit 213 = .ok (.iload 4, 2) := by decide +kernel
theorem dX2_visit_215 : decode cX2_visit 215 = .ok (.iload_n 2, 1) := by decide +kernel
theorem dX2_visit_216 : decode cX2_visit 216 = .ok (.iload_n 3, 1) := by decide +kernel
theorem dX2_visit_217 : decode cX2_visit 217 = .ok (.invokevirtual 74, 3) := by decide +kernel
theorem dX2_visit_220 : decode cX2_visit 220 = .ok (.return_, 1) := by decide +kernel
theorem dX2_visitSplit_0 : decode cX2_visitSplit 0 = .ok (.aload_n 0, 1) := by decide +kernel
theorem dX2_visitSplit_1 : decode cX2_visitSplit 1 = .ok (.getfield 25, 3) := by decide +kernel
theorem dX2_visitSplit_4 : decode cX2_visitSplit 4 = .ok (.aload_n 0, 1) := by decide +kernel
theorem dX2_visitSplit_5 : decode cX2_visitSplit 5 = .ok (.getfield 15, 3) := by decide +kernel
theorem dX2_visitSplit_8 : decode cX2_visitSplit 8 = .ok (.invokevirtual 78, 3) := by decide +kernel
theorem dX2_visitSplit_11 : decode cX2_visitSplit 11 = .ok (.sipush 200, 3) := by decide +kernel
theorem dX2_visitSplit_14 : decode cX2_visitSplit 14 = .ok (.isub, 1) := by decide +kernel
theorem dX2_visitSplit_15 : decode cX2_visitSplit 15 = .ok (.istore 4, 2) := by decide +kernel
theorem dX2_visitSplit_17 : decode cX2_visitSplit 17 = .ok (.aload_n 0, 1) := by decide +kernel
theorem dX2_visitSplit_18 : decode cX2_visitSplit 18 = .ok (.invokevirtual 81, 3) := by decide +kernel
theorem dX2_visitSplit_21 : decode cX2_visitSplit 21 = .ok (.ifCond .ne 29, 3) := by decide +kernel
theorem dX2_visitSplit_24 : decode cX2_visitSplit 24 = .ok (.aload_n 0, 1) := by decide +kernel
theorem dX2_visitSplit_25 : decode cX2_visitSplit 25 = .ok (.iload 4, 2) := by decide +kernel
theorem dX2_visitSplit_27 : decode cX2_visitSplit 27 = .ok (.ifCond .lt 16, 3) := by decide +kernel
theorem dX2_visitSplit_30 : decode cX2_visitSplit 30 = .ok (.iload 4, 2) := by decide +kernel
theorem dX2_visitSplit_32 : decode cX2_visitSplit 32 = .ok (.iload_n 2, 1) := by decide +kernel
theorem dX2_visitSplit_33 : decode cX2_visitSplit 33 = .ok (.iconst (-1), 1) := by decide +kernel
theorem dX2_visitSplit_34 : decode cX2_visitSplit 34 = .ok (.ixor, 1) := by decide +kernel
theorem dX2_visitSplit_35 : decode cX2_visitSplit 35 = .ok (.iand, 1) := by decide +kernel
theorem dX2_visitSplit_36 : decode cX2_visitSplit 36 = .ok (.ifCond .ne 7, 3) := by decide +kernel
theorem dX2_visitSplit_39 : decode cX2_visitSplit 39 = .ok (.iconst 1, 1) := by decide +kernel
theorem dX2_visitSplit_40 : decode cX2_visitSplit 40 = .ok (.goto 4, 3) := by decide +kernel
theorem dX2_visitSplit_43 : decode cX2_visitSplit 43 = .ok (.iconst 0, 1) := by decide +kernel
theorem dX2_visitSplit_44 : decode cX2_visitSplit 44 = .ok (.invokevirtual 85, 3) := by decide +kernel
theorem dX2_visitSplit_47 : decode cX2_visitSplit 47 = .ok (.ifCond .eq 4, 3) := by decide +kernel
theorem dX2_visitSplit_50 : decode cX2_visitSplit 50 = .ok (.return_, 1) := by decide +kernel
theorem dX2_visitSplit_51 : decode cX2_visitSplit 51 = .ok (.aload_n 0, 1) := by decide +kernel
theorem dX2_visitSplit_52 : decode cX2_visitSplit 52 = .ok (.dup, 1) := by decide +kernel
theorem dX2_visitSplit_53 : decode cX2_visitSplit 53 = .ok (.getfield 15, 3) := by decide +kernel
theorem dX2_visitSplit_56 : decode cX2_visitSplit 56 = .ok (.iconst 1, 1) := by decide +kernel
theorem dX2_visitSplit_57 : decode cX2_visitSplit 57 = .ok (.iadd, 1) := by decide +kernel
theorem dX2_visitSplit_58 : decode cX2_visitSplit 58 = .ok (.putfield 15, 3) := by decide +kernel
theorem dX2_visitSplit_61 : decode cX2_visitSplit 61 = .ok (.aload_n 0, 1) := by decide +kernel
theorem dX2_visitSplit_62 : decode cX2_visitSplit 62 = .ok (.aload_n 0, 1) := by decide +kernel
theorem dX2_visitSplit_63 : decode cX2_visitSplit 63 = .ok (.getfield 21, 3) := by decide +kernel
theorem dX2_visitSplit_66 : decode cX2_visitSplit 66 = .ok (.iload_n 1, 1) := by decide +kernel
theorem dX2_visitSplit_67 : decode cX2_visitSplit 67 = .ok (.invokevirtual 58, 3) := by decide +kernel
theorem dX2_visitSplit_70 : decode cX2_visitSplit 70 = .ok (.iload 4, 2) := by decide +kernel
theorem dX2_visitSplit_72 : decode cX2_visitSplit 72 = .ok (.iload_n 3, 1) := by decide +kernel
theorem dX2_visitSplit_73 : decode cX2_visitSplit 73 = .ok (.iconst 1, 1) := by decide +kernel
theorem dX2_visitSplit_74 : decode cX2_visitSplit 74 = .ok (.iadd, 1) := by decide +kernel
theorem dX2_visitSplit_75 : decode cX2_visitSplit 75 = .ok (.invokevirtual 35, 3) := by decide +kernel
theorem dX2_visitSplit_78 : decode cX2_visitSplit 78 = .ok (.aload_n 0, 1) := by decide +kernel
theorem dX2_visitSplit_79 : decode cX2_visitSplit 79 = .ok (.aload_n 0, 1) := by decide +kernel
theorem dX2_visitSplit_80 : decode cX2_visitSplit 80 = .ok (.getfield 21, 3) := by decide +kernel
theorem dX2_visitSplit_83 : decode cX2_visitSplit 83 = .ok (.iload_n 1, 1) := by decide +kernel
theorem dX2_visitSplit_84 : decode cX2_visitSplit 84 = .ok (.invokevirtual 65, 3) := by decide +kernel
theorem dX2_visitSplit_87 : decode cX2_visitSplit 87 = .ok (.iload_n 2, 1) := by decide +kernel
theorem dX2_visitSplit_88 : decode cX2_visitSplit 88 = .ok (.iload 4, 2) := by decide +kernel
theorem dX2_visitSplit_90 : decode cX2_visitSplit 90 = .ok (.ixor, 1) := by decide +kernel
theorem dX2_visitSplit_91 : decode cX2_visitSplit 91 = .ok (.iload_n 3, 1) := by decide +kernel
theorem dX2_visitSplit_92 : decode cX2_visitSplit 92 = .ok (.iconst 1, 1) := by decide +kernel
theorem dX2_visitSplit_93 : decode cX2_visitSplit 93 = .ok (.iadd, 1) := by decide +kernel
theorem dX2_visitSplit_94 : decode cX2_visitSplit 94 = .ok (.invokevirtual 35, 3) := by decide +kernel
theorem dX2_visitSplit_97 : decode cX2_visitSplit 97 = .ok (.return_, 1) := by decide +kernel
theorem dX2_visitChoice_0 : decode cX2_visitChoice 0 = .ok (.aload_n 0, 1) := by decide +kernel
theorem dX2_visitChoice_1 : decode cX2_visitChoice 1 = .ok (.getfield 25, 3) := by decide +kernel
theorem dX2_visitChoice_4 : decode cX2_visitChoice 4 = .ok (.aload_n 0, 1) := by decide +kernel
theorem dX2_visitChoice_5 : decode cX2_visitChoice 5 = .ok (.getfield 15, 3) := by decide +kernel
theorem dX2_visitChoice_8 : decode cX2_visitChoice 8 = .ok (.invokevirtual 78, 3) := by decide +kernel
theorem dX2_visitChoice_11 : decode cX2_visitChoice 11 = .ok (.istore 4, 2) := by decide +kernel
theorem dX2_visitChoice_13 : decode cX2_visitChoice 13 = .ok (.aload_n 0, 1) := by decide +kernel
theorem dX2_visitChoice_14 : decode cX2_visitChoice 14 = .ok (.invokevirtual 81, 3) := by decide +kernel
theorem dX2_visitChoice_17 : decode cX2_visitChoice 17 = .ok (.ifCond .ne 31, 3) := by decide +kernel
theorem dX2_visitChoice_20 : decode cX2_visitChoice 20 = .ok (.aload_n 0, 1) := by decide +kernel
theorem dX2_visitChoice_21 : decode cX2_visitChoice 21 = .ok (.iload 4, 2) := by decide +kernel
theorem dX2_visitChoice_23 : decode cX2_visitChoice 23 = .ok (.sipush 300, 3) := by decide +kernel
theorem dX2_visitChoice_26 : decode cX2_visitChoice 26 = .ok (.if_icmp .eq 11, 3) := by decide +kernel
theorem dX2_visitChoice_29 : decode cX2_visitChoice 29 = .ok (.iload 4, 2) := by decide +kernel
theorem dX2_visitChoice_31 : decode cX2_visitChoice 31 = .ok (.sipush 301, 3) := by decide +kernel
theorem dX2_visitChoice_34 : decode cX2_visitChoice 34 = .ok (.if_icmp .ne 7, 3) := by decide +kernel
theorem dX2_visitChoice_37 : decode cX2_visitChoice 37 = .ok (.iconst 1, 1) := by decide +kernel
theorem dX2_visitChoice_38 : decode cX2_visitChoice 38 = .ok (.goto 4, 3) := by decide +kernel
theorem dX2_visitChoice_41 : decode cX2_visitChoice 41 = .ok (.iconst 0, 1) := by decide +kernel
theorem dX2_visitChoice_42 : decode cX2_visitChoice 42 = .ok (.invokevirtual 85, 3) := by decide +kernel
theorem dX2_visitChoice_45 : decode cX2_visitChoice 45 = .ok (.ifCond .eq 4, 3) := by decide +kernel
theorem dX2_visitChoice_48 : decode cX2_visitChoice 48 = .ok (.return_, 1) := by decide +kernel
theorem dX2_visitChoice_49 : decode cX2_visitChoice 49 = .ok (.aload_n 0, 1) := by decide +kernel
theorem dX2_visitChoice_50 : decode cX2_visitChoice 50 = .ok (.dup, 1) := by decide +kernel
theorem dX2_visitChoice_51 : decode cX2_visitChoice 51 = .ok (.getfield 15, 3) := by decide +kernel
theorem dX2_visitChoice_54 : decode cX2_visitChoice 54 = .ok (.iconst 1, 1) := by decide +kernel
theorem dX2_visitChoice_55 : decode cX2_visitChoice 55 = .ok (.iadd, 1) := by decide +kernel
theorem dX2_visitChoice_56 : decode cX2_visitChoice 56 = .ok (.putfield 15, 3) := by decide +kernel
theorem dX2_visitChoice_59 : decode cX2_visitChoice 59 = .ok (.aload_n 0, 1) := by decide +kernel
theorem dX2_visitChoice_60 : decode cX2_visitChoice 60 = .ok (.iload 4, 2) := by decide +kernel
theorem dX2_visitChoice_62 : decode cX2_visitChoice 62 = .ok (.sipush 300, 3) := by decide +kernel
theorem dX2_visitChoice_65 : decode cX2_visitChoice 65 = .ok (.if_icmp .ne 14, 3) := by decide +kernel
theorem dX2_visitChoice_68 : decode cX2_visitChoice 68 = .ok (.aload_n 0, 1) := by decide +kernel
theorem dX2_visitChoice_69 : decode cX2_visitChoice 69 = .ok (.getfield 21, 3) := by decide +kernel
theorem dX2_visitChoice_72 : decode cX2_visitChoice 72 = .ok (.iload_n 1, 1) := by decide +kernel
theorem dX2_visitChoice_73 : decode cX2_visitChoice 73 = .ok (.invokevirtual 58, 3) := by decide +kernel
theorem dX2_visitChoice_76 : decode cX2_visitChoice 76 = .ok (.goto 11, 3) := by decide +kernel
theorem dX2_visitChoice_79 : decode cX2_visitChoice 79 = .ok (.aload_n 0, 1) := by decide +kernel
theorem dX2_visitChoice_80 : decode cX2_visitChoice 80 = .ok (.getfield 21, 3) := by decide +kernel
theorem dX2_visitChoice_83 : decode cX2_visitChoice 83 = .ok (.iload_n 1, 1) := by decide +kernel
theorem dX2_visitChoice_84 : decode cX2_visitChoice 84 = .ok (.invokevirtual 65, 3) := by decide +kernel
theorem dX2_visitChoice_87 : decode cX2_visitChoice 87 = .ok (.iload_n 2, 1) := by decide +kernel
theorem dX2_visitChoice_88 : decode cX2_visitChoice 88 = .ok (.iload_n 3, 1) := by decide +kernel
theorem dX2_visitChoice_89 : decode cX2_visitChoice 89 = .ok (.iconst 1, 1) := by decide +kernel
theorem dX2_visitChoice_90 : decode cX2_visitChoice 90 = .ok (.iadd, 1) := by decide +kernel
theorem dX2_visitChoice_91 : decode cX2_visitChoice 91 = .ok (.invokevirtual 35, 3) := by decide +kernel
theorem dX2_visitChoice_94 : decode cX2_visitChoice 94 = .ok (.return_, 1) := by decide +kernel
theorem dX2_visitLoan_0 : decode cX2_visitLoan 0 = .ok (.aload_n 0, 1) := by decide +kernel
theorem dX2_visitLoan_1 : decode cX2_visitLoan 1 = .ok (.getfield 21, 3) := by decide +kernel
theorem dX2_visitLoan_4 : decode cX2_visitLoan 4 = .ok (.iload_n 1, 1) := by decide +kernel
theorem dX2_visitLoan_5 : decode cX2_visitLoan 5 = .ok (.invokevirtual 89, 3) := by decide +kernel
theorem dX2_visitLoan_8 : decode cX2_visitLoan 8 = .ok (.istore 4, 2) := by decide +kernel
theorem dX2_visitLoan_10 : decode cX2_visitLoan 10 = .ok (.iload_n 2, 1) := by decide +kernel
theorem dX2_visitLoan_11 : decode cX2_visitLoan 11 = .ok (.iload 4, 2) := by decide +kernel
theorem dX2_visitLoan_13 : decode cX2_visitLoan 13 = .ok (.iand, 1) := by decide +kernel
theorem dX2_visitLoan_14 : decode cX2_visitLoan 14 = .ok (.ifCond .eq 9, 3) := by decide +kernel
theorem dX2_visitLoan_17 : decode cX2_visitLoan 17 = .ok (.aload_n 0, 1) := by decide +kernel
theorem dX2_visitLoan_18 : decode cX2_visitLoan 18 = .ok (.iconst 5, 1) := by decide +kernel
theorem dX2_visitLoan_19 : decode cX2_visitLoan 19 = .ok (.putfield 11, 3) := by decide +kernel
theorem dX2_visitLoan_22 : decode cX2_visitLoan 22 = .ok (.return_, 1) := by decide +kernel
theorem dX2_visitLoan_23 : decode cX2_visitLoan 23 = .ok (.aload_n 0, 1) := by decide +kernel
theorem dX2_visitLoan_24 : decode cX2_visitLoan 24 = .ok (.aload_n 0, 1) := by decide +kernel
theorem dX2_visitLoan_25 : decode cX2_visitLoan 25 = .ok (.getfield 21, 3) := by decide +kernel
theorem dX2_visitLoan_28 : decode cX2_visitLoan 28 = .ok (.iload_n 1, 1) := by decide +kernel
theorem dX2_visitLoan_29 : decode cX2_visitLoan 29 = .ok (.invokevirtual 58, 3) := by decide +kernel
theorem dX2_visitLoan_32 : decode cX2_visitLoan 32 = .ok (.iload_n 2, 1) := by decide +kernel
theorem dX2_visitLoan_33 : decode cX2_visitLoan 33 = .ok (.iload 4, 2) := by decide +kernel
theorem dX2_visitLoan_35 : decode cX2_visitLoan 35 = .ok (.ior, 1) := by decide +kernel
theorem dX2_visitLoan_36 : decode cX2_visitLoan 36 = .ok (.iload_n 3, 1) := by decide +kernel
theorem dX2_visitLoan_37 : decode cX2_visitLoan 37 = .ok (.iconst 1, 1) := by decide +kernel
theorem dX2_visitLoan_38 : decode cX2_visitLoan 38 = .ok (.iadd, 1) := by decide +kernel
theorem dX2_visitLoan_39 : decode cX2_visitLoan 39 = .ok (.invokevirtual 35, 3) := by decide +kernel
theorem dX2_visitLoan_42 : decode cX2_visitLoan 42 = .ok (.return_, 1) := by decide +kernel
theorem dX2_visitAtom_0 : decode cX2_visitAtom 0 = .ok (.aload_n 0, 1) := by decide +kernel
theorem dX2_visitAtom_1 : decode cX2_visitAtom 1 = .ok (.getfield 25, 3) := by decide +kernel
theorem dX2_visitAtom_4 : decode cX2_visitAtom 4 = .ok (.aload_n 0, 1) := by decide +kernel
theorem dX2_visitAtom_5 : decode cX2_visitAtom 5 = .ok (.getfield 15, 3) := by decide +kernel
theorem dX2_visitAtom_8 : decode cX2_visitAtom 8 = .ok (.invokevirtual 78, 3) := by decide +kernel
theorem dX2_visitAtom_11 : decode cX2_visitAtom 11 = .ok (.istore 4, 2) := by decide +kernel
theorem dX2_visitAtom_13 : decode cX2_visitAtom 13 = .ok (.aload_n 0, 1) := by decide +kernel
theorem dX2_visitAtom_14 : decode cX2_visitAtom 14 = .ok (.invokevirtual 81, 3) := by decide +kernel
theorem dX2_visitAtom_17 : decode cX2_visitAtom 17 = .ok (.ifCond .ne 23, 3) := by decide +kernel
theorem dX2_visitAtom_20 : decode cX2_visitAtom 20 = .ok (.aload_n 0, 1) := by decide +kernel
theorem dX2_visitAtom_21 : decode cX2_visitAtom 21 = .ok (.iload 4, 2) := by decide +kernel
theorem dX2_visitAtom_23 : decode cX2_visitAtom 23 = .ok (.sipush 200, 3) := by decide +kernel
theorem dX2_visitAtom_26 : decode cX2_visitAtom 26 = .ok (.if_icmp .ge 7, 3) := by decide +kernel
theorem dX2_visitAtom_29 : decode cX2_visitAtom 29 = .ok (.iconst 1, 1) := by decide +kernel
theorem dX2_visitAtom_30 : decode cX2_visitAtom 30 = .ok (.goto 4, 3) := by decide +kernel
theorem dX2_visitAtom_33 : decode cX2_visitAtom 33 = .ok (.iconst 0, 1) := by decide +kernel
theorem dX2_visitAtom_34 : decode cX2_visitAtom 34 = .ok (.invokevirtual 85, 3) := by decide +kernel
theorem dX2_visitAtom_37 : decode cX2_visitAtom 37 = .ok (.ifCond .eq 4, 3) := by decide +kernel
theorem dX2_visitAtom_40 : decode cX2_visitAtom 40 = .ok (.return_, 1) := by decide +kernel
theorem dX2_visitAtom_41 : decode cX2_visitAtom 41 = .ok (.iload 4, 2) := by decide +kernel
theorem dX2_visitAtom_43 : decode cX2_visitAtom 43 = .ok (.invokestatic 92, 3) := by decide +kernel
theorem dX2_visitAtom_46 : decode cX2_visitAtom 46 = .ok (.istore 5, 2) := by decide +kernel
theorem dX2_visitAtom_48 : decode cX2_visitAtom 48 = .ok (.iload 4, 2) := by decide +kernel
theorem dX2_visitAtom_50 : decode cX2_visitAtom 50 = .ok (.bipush 10, 2) := by decide +kernel
theorem dX2_visitAtom_52 : decode cX2_visitAtom 52 = .ok (.irem, 1) := by decide +kernel
theorem dX2_visitAtom_53 : decode cX2_visitAtom 53 = .ok (.istore 6, 2) := by decide +kernel
theorem dX2_visitAtom_55 : decode cX2_visitAtom 55 = .ok (.iload 5, 2) := by decide +kernel
theorem dX2_visitAtom_57 : decode cX2_visitAtom 57 = .ok (.iconst (-1), 1) := by decide +kernel
theorem dX2_visitAtom_58 : decode cX2_visitAtom 58 = .ok (.if_icmp .ne 7, 3) := by decide +kernel
theorem dX2_visitAtom_61 : decode cX2_visitAtom 61 = .ok (.iconst (-1), 1) := by decide +kernel
theorem dX2_visitAtom_62 : decode cX2_visitAtom 62 = .ok (.goto 9, 3) := by decide +kernel
theorem dX2_visitAtom_65 : decode cX2_visitAtom 65 = .ok (.iload 5, 2) := by decide +kernel
theorem dX2_visitAtom_67 : decode cX2_visitAtom 67 = .ok (.iload_n 2, 1) := by decide +kernel
theorem dX2_visitAtom_68 : decode cX2_visitAtom 68 = .ok (.invokestatic 95, 3) := by decide +kernel
theorem dX2_visitAtom_71 : decode cX2_visitAtom 71 = .ok (.istore 7, 2) := by decide +kernel
theorem dX2_visitAtom_73 : decode cX2_visitAtom 73 = .ok (.aload_n 0, 1) := by decide +kernel
theorem dX2_visitAtom_74 : decode cX2_visitAtom 74 = .ok (.iload 7, 2) := by decide +kernel
theorem dX2_visitAtom_76 : decode cX2_visitAtom 76 = .ok (.iconst (-1), 1) := by decide +kernel
theorem dX2_visitAtom_77 : decode cX2_visitAtom 77 = .ok (.if_icmp .eq 22, 3) := by decide +kernel
theorem dX2_visitAtom_80 : decode cX2_visitAtom 80 = .ok (.aload_n 0, 1) := by decide +kernel
theorem dX2_visitAtom_81 : decode cX2_visitAtom 81 = .ok (.getfield 21, 3) := by decide +kernel
theorem dX2_visitAtom_84 : decode cX2_visitAtom 84 = .ok (.iload 5, 2) := by decide +kernel
theorem dX2_visitAtom_86 : decode cX2_visitAtom 86 = .ok (.iload 6, 2) := by decide +kernel
theorem dX2_visitAtom_88 : decode cX2_visitAtom 88 = .ok (.iload_n 1, 1) := by decide +kernel
theorem dX2_visitAtom_89 : decode cX2_visitAtom 89 = .ok (.invokevirtual 98, 3) := by decide +kernel
theorem dX2_visitAtom_92 : decode cX2_visitAtom 92 = .ok (.ifCond .eq 7, 3) := by decide +kernel
theorem dX2_visitAtom_95 : decode cX2_visitAtom 95 = .ok (.iconst 1, 1) := by decide +kernel
theorem dX2_visitAtom_96 : decode cX2_visitAtom 96 = .ok (.goto 4, 3) := by decide +kernel
theorem dX2_visitAtom_99 : decode cX2_visitAtom 99 = .ok (.iconst 0, 1) := by decide +kernel
theorem dX2_visitAtom_100 : decode cX2_visitAtom 100 = .ok (.invokevirtual 85, 3) := by decide +kernel
theorem dX2_visitAtom_103 : decode cX2_visitAtom 103 = .ok (.ifCond .eq 4, 3) := by decide +kernel
theorem dX2_visitAtom_106 : decode cX2_visitAtom 106 = .ok (.return_, 1) := by decide +kernel
theorem dX2_visitAtom_107 : decode cX2_visitAtom 107 = .ok (.aload_n 0, 1) := by decide +kernel
theorem dX2_visitAtom_108 : decode cX2_visitAtom 108 = .ok (.dup, 1) := by decide +kernel
theorem dX2_visitAtom_109 : decode cX2_visitAtom 109 = .ok (.getfield 15, 3) := by decide +kernel
theorem dX2_visitAtom_112 : decode cX2_visitAtom 112 = .ok (.iconst 1, 1) := by decide +kernel
theorem dX2_visitAtom_113 : decode cX2_visitAtom 113 = .ok (.iadd, 1) := by decide +kernel
theorem dX2_visitAtom_114 : decode cX2_visitAtom 114 = .ok (.putfield 15, 3) := by decide +kernel
theorem dX2_visitAtom_117 : decode cX2_visitAtom 117 = .ok (.aload_n 0, 1) := by decide +kernel
theorem dX2_visitAtom_118 : decode cX2_visitAtom 118 = .ok (.getfield 21, 3) := by decide +kernel
theorem dX2_visitAtom_121 : decode cX2_visitAtom 121 = .ok (.iload 5, 2) := by decide +kernel
theorem dX2_visitAtom_123 : decode cX2_visitAtom 123 = .ok (.iload 6, 2) := by decide +kernel
theorem dX2_visitAtom_125 : decode cX2_visitAtom 125 = .ok (.invokevirtual 102, 3) := by decide +kernel
theorem dX2_visitAtom_128 : decode cX2_visitAtom 128 = .ok (.istore 8, 2) := by decide +kernel
theorem dX2_visitAtom_130 : decode cX2_visitAtom 130 = .ok (.iload 8, 2) := by decide +kernel
theorem dX2_visitAtom_132 : decode cX2_visitAtom 132 = .ok (.iconst (-1), 1) := by decide +kernel
theorem dX2_visitAtom_133 : decode cX2_visitAtom 133 = .ok (.if_icmp .ne 12, 3) := by decide +kernel
theorem dX2_visitAtom_136 : decode cX2_visitAtom 136 = .ok (.aload_n 0, 1) := by decide +kernel
theorem dX2_visitAtom_137 : decode cX2_visitAtom 137 = .ok (.iload 7, 2) := by decide +kernel
theorem dX2_visitAtom_139 : decode cX2_visitAtom 139 = .ok (.invokevirtual 54, 3) := by decide +kernel
theorem dX2_visitAtom_142 : decode cX2_visitAtom 142 = .ok (.goto 14, 3) := by decide +kernel
theorem dX2_visitAtom_145 : decode cX2_visitAtom 145 = .ok (.aload_n 0, 1) := by decide +kernel
theorem dX2_visitAtom_146 : decode cX2_visitAtom 146 = .ok (.iload 8, 2) := by decide +kernel
theorem dX2_visitAtom_148 : decode cX2_visitAtom 148 = .ok (.iload 7, 2) := by decide +kernel
theorem dX2_visitAtom_150 : decode cX2_visitAtom 150 = .ok (.iload_n 3, 1) := by decide +kernel
theorem dX2_visitAtom_151 : decode cX2_visitAtom 151 = .ok (.iconst 1, 1) := by decide +kernel
theorem dX2_visitAtom_152 : decode cX2_visitAtom 152 = .ok (.iadd, 1) := by decide +kernel
theorem dX2_visitAtom_153 : decode cX2_visitAtom 153 = .ok (.invokevirtual 35, 3) := by decide +kernel
theorem dX2_visitAtom_156 : decode cX2_visitAtom 156 = .ok (.return_, 1) := by decide +kernel
theorem dX2_offerOf_0 : decode cX2_offerOf 0 = .ok (.iload_n 0, 1) := by decide +kernel
theorem dX2_offerOf_1 : decode cX2_offerOf 1 = .ok (.bipush 100, 2) := by decide +kernel
theorem dX2_offerOf_3 : decode cX2_offerOf 3 = .ok (.irem, 1) := by decide +kernel
theorem dX2_offerOf_4 : decode cX2_offerOf 4 = .ok (.bipush 10, 2) := by decide +kernel
theorem dX2_offerOf_6 : decode cX2_offerOf 6 = .ok (.idiv, 1) := by decide +kernel
theorem dX2_offerOf_7 : decode cX2_offerOf 7 = .ok (.istore_n 1, 1) := by decide +kernel
theorem dX2_offerOf_8 : decode cX2_offerOf 8 = .ok (.iload_n 0, 1) := by decide +kernel
theorem dX2_offerOf_9 : decode cX2_offerOf 9 = .ok (.bipush 100, 2) := by decide +kernel
theorem dX2_offerOf_11 : decode cX2_offerOf 11 = .ok (.if_icmp .ge 15, 3) := by decide +kernel
theorem dX2_offerOf_14 : decode cX2_offerOf 14 = .ok (.iload_n 1, 1) := by decide +kernel
theorem dX2_offerOf_15 : decode cX2_offerOf 15 = .ok (.bipush 8, 2) := by decide +kernel
theorem dX2_offerOf_17 : decode cX2_offerOf 17 = .ok (.if_icmp .ge 7, 3) := by decide +kernel
theorem dX2_offerOf_20 : decode cX2_offerOf 20 = .ok (.iload_n 1, 1) := by decide +kernel
theorem dX2_offerOf_21 : decode cX2_offerOf 21 = .ok (.goto 4, 3) := by decide +kernel
theorem dX2_offerOf_24 : decode cX2_offerOf 24 = .ok (.iconst (-1), 1) := by decide +kernel
theorem dX2_offerOf_25 : decode cX2_offerOf 25 = .ok (.ireturn, 1) := by decide +kernel
theorem dX2_offerOf_26 : decode cX2_offerOf 26 = .ok (.iload_n 1, 1) := by decide +kernel
theorem dX2_offerOf_27 : decode cX2_offerOf 27 = .ok (.iconst 4, 1) := by decide +kernel
theorem dX2_offerOf_28 : decode cX2_offerOf 28 = .ok (.if_icmp .ge 10, 3) := by decide +kernel
theorem dX2_offerOf_31 : decode cX2_offerOf 31 = .ok (.bipush 8, 2) := by decide +kernel
theorem dX2_offerOf_33 : decode cX2_offerOf 33 = .ok (.iload_n 1, 1) := by decide +kernel
theorem dX2_offerOf_34 : decode cX2_offerOf 34 = .ok (.iadd, 1) := by decide +kernel
theorem dX2_offerOf_35 : decode cX2_offerOf 35 = .ok (.goto 4, 3) := by decide +kernel
theorem dX2_offerOf_38 : decode cX2_offerOf 38 = .ok (.iconst (-1), 1) := by decide +kernel
theorem dX2_offerOf_39 : decode cX2_offerOf 39 = .ok (.ireturn, 1) := by decide +kernel
theorem dX2_lacksNumber_0 : decode cX2_lacksNumber 0 = .ok (.aload_n 0, 1) := by decide +kernel
theorem dX2_lacksNumber_1 : decode cX2_lacksNumber 1 = .ok (.getfield 15, 3) := by decide +kernel
theorem dX2_lacksNumber_4 : decode cX2_lacksNumber 4 = .ok (.aload_n 0, 1) := by decide +kernel
theorem dX2_lacksNumber_5 : decode cX2_lacksNumber 5 = .ok (.getfield 25, 3) := by decide +kernel
theorem dX2_lacksNumber_8 : decode cX2_lacksNumber 8 = .ok (.invokevirtual 39, 3) := by decide +kernel
theorem dX2_lacksNumber_11 : decode cX2_lacksNumber 11 = .ok (.if_icmp .ge 5, 3) := by decide +kernel
theorem dX2_lacksNumber_14 : decode cX2_lacksNumber 14 = .ok (.iconst 0, 1) := by decide +kernel
theorem dX2_lacksNumber_15 : decode cX2_lacksNumber 15 = .ok (.ireturn, 1) := by decide +kernel
theorem dX2_lacksNumber_16 : decode cX2_lacksNumber 16 = .ok (.aload_n 0, 1) := by decide +kernel
theorem dX2_lacksNumber_17 : decode cX2_lacksNumber 17 = .ok (.iconst 2, 1) := by decide +kernel
theorem dX2_lacksNumber_18 : decode cX2_lacksNumber 18 = .ok (.putfield 11, 3) := by decide +kernel
theorem dX2_lacksNumber_21 : decode cX2_lacksNumber 21 = .ok (.iconst 1, 1) := by decide +kernel
theorem dX2_lacksNumber_22 : decode cX2_lacksNumber 22 = .ok (.ireturn, 1) := by decide +kernel
theorem dX2_refuseUnless_0 : decode cX2_refuseUnless 0 = .ok (.iload_n 1, 1) := by decide +kernel
theorem dX2_refuseUnless_1 : decode cX2_refuseUnless 1 = .ok (.ifCond .ne 8, 3) := by decide +kernel
theorem dX2_refuseUnless_4 : decode cX2_refuseUnless 4 = .ok (.aload_n 0, 1) := by decide +kernel
theorem dX2_refuseUnless_5 : decode cX2_refuseUnless 5 = .ok (.iconst 3, 1) := by decide +kernel
theorem dX2_refuseUnless_6 : decode cX2_refuseUnless 6 = .ok (.putfield 11, 3) := by decide +kernel
theorem dX2_refuseUnless_9 : decode cX2_refuseUnless 9 = .ok (.iload_n 1, 1) := by decide +kernel
theorem dX2_refuseUnless_10 : decode cX2_refuseUnless 10 = .ok (.ifCond .ne 7, 3) := by decide +kernel
theorem dX2_refuseUnless_13 : decode cX2_refuseUnless 13 = .ok (.iconst 1, 1) := by decide +kernel
theorem dX2_refuseUnless_14 : decode cX2_refuseUnless 14 = .ok (.goto 4, 3) := by decide +kernel
theorem dX2_refuseUnless_17 : decode cX2_refuseUnless 17 = .ok (.iconst 0, 1) := by decide +kernel
theorem dX2_refuseUnless_18 : decode cX2_refuseUnless 18 = .ok (.ireturn, 1) := by decide +kernel
theorem dX2_demandEmpty_0 : decode cX2_demandEmpty 0 = .ok (.iload_n 1, 1) := by decide +kernel
theorem dX2_demandEmpty_1 : decode cX2_demandEmpty 1 = .ok (.ifCond .eq 8, 3) := by decide +kernel
theorem dX2_demandEmpty_4 : decode cX2_demandEmpty 4 = .ok (.aload_n 0, 1) := by decide +kernel
theorem dX2_demandEmpty_5 : decode cX2_demandEmpty 5 = .ok (.iconst 4, 1) := by decide +kernel
theorem dX2_demandEmpty_6 : decode cX2_demandEmpty 6 = .ok (.putfield 11, 3) := by decide +kernel
theorem dX2_demandEmpty_9 : decode cX2_demandEmpty 9 = .ok (.return_, 1) := by decide +kernel
theorem dX3_init_0 : decode cX3_init 0 = .ok (.aload_n 0, 1) := by decide +kernel
theorem dX3_init_1 : decode cX3_init 1 = .ok (.invokespecial 3, 3) := by decide +kernel
theorem dX3_init_4 : decode cX3_init 4 = .ok (.aload_n 0, 1) := by decide +kernel
theorem dX3_init_5 : decode cX3_init 5 = .ok (.bipush 60, 2) := by decide +kernel
theorem dX3_init_7 : decode cX3_init 7 = .ok (.newarray .char, 2) := by decide +kernel
theorem dX3_init_9 : decode cX3_init 9 = .ok (.putfield 9, 3) := by decide +kernel
theorem dX3_init_12 : decode cX3_init 12 = .ok (.aload_n 0, 1) := by decide +kernel
theorem dX3_init_13 : decode cX3_init 13 = .ok (.bipush 60, 2) := by decide +kernel
theorem dX3_init_15 : decode cX3_init 15 = .ok (.newarray .int, 2) := by decide +kernel
theorem dX3_init_17 : decode cX3_init 17 = .ok (.putfield 15, 3) := by decide +kernel
theorem dX3_init_20 : decode cX3_init 20 = .ok (.aload_n 0, 1) := by decide +kernel
theorem dX3_init_21 : decode cX3_init 21 = .ok (.bipush 60, 2) := by decide +kernel
theorem dX3_init_23 : decode cX3_init 23 = .ok (.newarray .int, 2) := by decide +kernel
theorem dX3_init_25 : decode cX3_init 25 = .ok (.putfield 19, 3) := by decide +kernel
theorem dX3_init_28 : decode cX3_init 28 = .ok (.aload_n 0, 1) := by decide +kernel
theorem dX3_init_29 : decode cX3_init 29 = .ok (.bipush 36, 2) := by decide +kernel
theorem dX3_init_31 : decode cX3_init 31 = .ok (.newarray .char, 2) := by decide +kernel
theorem dX3_init_33 : decode cX3_init 33 = .ok (.putfield 22, 3) := by decide +kernel
theorem dX3_init_36 : decode cX3_init 36 = .ok (.aload_n 0, 1) := by decide +kernel
theorem dX3_init_37 : decode cX3_init 37 = .ok (.bipush 36, 2) := by decide +kernel
theorem dX3_init_39 : decode cX3_init 39 = .ok (.newarray .int, 2) := by decide +kernel
theorem dX3_init_41 : decode cX3_init 41 = .ok (.putfield 25, 3) := by decide +kernel
theorem dX3_init_44 : decode cX3_init 44 = .ok (.aload_n 0, 1) := by decide +kernel
theorem dX3_init_45 : decode cX3_init 45 = .ok (.iconst 0, 1) := by decide +kernel
theorem dX3_init_46 : decode cX3_init 46 = .ok (.putfield 28, 3) := by decide +kernel
theorem dX3_init_49 : decode cX3_init 49 = .ok (.aload_n 0, 1) := by decide +kernel
theorem dX3_init_50 : decode cX3_init 50 = .ok (.iconst 0, 1) := by decide +kernel
theorem dX3_init_51 : decode cX3_init 51 = .ok (.putfield 32, 3) := by decide +kernel
theorem dX3_init_54 : decode cX3_init 54 = .ok (.aload_n 0, 1) := by decide +kernel
theorem dX3_init_55 : decode cX3_init 55 = .ok (.iconst (-1), 1) := by decide +kernel
theorem dX3_init_56 : decode cX3_init 56 = .ok (.putfield 35, 3) := by decide +kernel
theorem dX3_init_59 : decode cX3_init 59 = .ok (.return_, 1) := by decide +kernel
theorem dX3_clear_0 : decode cX3_clear 0 = .ok (.aload_n 0, 1) := by decide +kernel
theorem dX3_clear_1 : decode cX3_clear 1 = .ok (.iconst 0, 1) := by decide +kernel
theorem dX3_clear_2 : decode cX3_clear 2 = .ok (.putfield 28, 3) := by decide +kernel
theorem dX3_clear_5 : decode cX3_clear 5 = .ok (.aload_n 0, 1) := by decide +kernel
theorem dX3_clear_6 : decode cX3_clear 6 = .ok (.iconst 0, 1) := by decide +kernel
theorem dX3_clear_7 : decode cX3_clear 7 = .ok (.putfield 32, 3) := by decide +kernel
theorem dX3_clear_10 : decode cX3_clear 10 = .ok (.aload_n 0, 1) := by decide +kernel
theorem dX3_clear_11 : decode cX3_clear 11 = .ok (.iconst (-1), 1) := by decide +kernel
theorem dX3_clear_12 : decode cX3_clear 12 = .ok (.putfield 35, 3) := by decide +kernel
theorem dX3_clear_15 : decode cX3_clear 15 = .ok (.iconst 0, 1) := by decide +kernel
theorem dX3_clear_16 : decode cX3_clear 16 = .ok (.istore_n 1, 1) := by decide +kernel
theorem dX3_clear_17 : decode cX3_clear 17 = .ok (.iload_n 1, 1) := by decide +kernel
theorem dX3_clear_18 : decode cX3_clear 18 = .ok (.aload_n 0, 1) := by decide +kernel
theorem dX3_clear_19 : decode cX3_clear 19 = .ok (.getfield 22, 3) := by decide +kernel
theorem dX3_clear_22 : decode cX3_clear 22 = .ok (.arraylength, 1) := by decide +kernel
theorem dX3_clear_23 : decode cX3_clear 23 = .ok (.if_icmp .ge 32, 3) := by decide +kernel
theorem dX3_clear_26 : decode cX3_clear 26 = .ok (.iload_n 1, 1) := by decide +kernel
theorem dX3_clear_27 : decode cX3_clear 27 = .ok (.aload_n 0, 1) := by decide +kernel
theorem dX3_clear_28 : decode cX3_clear 28 = .ok (.getfield 25, 3) := by decide +kernel
theorem dX3_clear_31 : decode cX3_clear 31 = .ok (.arraylength, 1) := by decide +kernel
theorem dX3_clear_32 : decode cX3_clear 32 = .ok (.if_icmp .ge 23, 3) := by decide +kernel
theorem dX3_clear_35 : decode cX3_clear 35 = .ok (.aload_n 0, 1) := by decide +kernel
theorem dX3_clear_36 : decode cX3_clear 36 = .ok (.getfield 22, 3) := by decide +kernel
theorem dX3_clear_39 : decode cX3_clear 39 = .ok (.iload_n 1, 1) := by decide +kernel
theorem dX3_clear_40 : decode cX3_clear 40 = .ok (.iconst 0, 1) := by decide +kernel
theorem dX3_clear_41 : decode cX3_clear 41 = .ok (.castore, 1) := by decide +kernel
theorem dX3_clear_42 : decode cX3_clear 42 = .ok (.aload_n 0, 1) := by decide +kernel
theorem dX3_clear_43 : decode cX3_clear 43 = .ok (.getfield 25, 3) := by decide +kernel
theorem dX3_clear_46 : decode cX3_clear 46 = .ok (.iload_n 1, 1) := by decide +kernel
theorem dX3_clear_47 : decode cX3_clear 47 = .ok (.iconst (-1), 1) := by decide +kernel
theorem dX3_clear_48 : decode cX3_clear 48 = .ok (.iastore, 1) := by decide +kernel
theorem dX3_clear_49 : decode cX3_clear 49 = .ok (.iinc 1 1, 3) := by decide +kernel
theorem dX3_clear_52 : decode cX3_clear 52 = .ok (.goto (-35), 3) := by decide +kernel
theorem dX3_clear_55 : decode cX3_clear 55 = .ok (.return_, 1) := by decide +kernel
theorem dX3_build_0 : decode cX3_build 0 = .ok (.aload_n 0, 1) := by decide +kernel
theorem dX3_build_1 : decode cX3_build 1 = .ok (.invokevirtual 38, 3) := by decide +kernel
theorem dX3_build_4 : decode cX3_build 4 = .ok (.iconst 0, 1) := by decide +kernel
theorem dX3_build_5 : decode cX3_build 5 = .ok (.istore_n 2, 1) := by decide +kernel
theorem dX3_build_6 : decode cX3_build 6 = .ok (.iload_n 2, 1) := by decide +kernel
theorem dX3_build_7 : decode cX3_build 7 = .ok (.bipush 10, 2) := by decide +kernel
theorem dX3_build_9 : decode cX3_build 9 = .ok (.if_icmp .ge 81, 3) := by decide +kernel
theorem dX3_build_12 : decode cX3_build 12 = .ok (.aload_n 1, 1) := by decide +kernel
theorem dX3_build_13 : decode cX3_build 13 = .ok (.iload_n 2, 1) := by decide +kernel
theorem dX3_build_14 : decode cX3_build 14 = .ok (.invokevirtual 41, 3) := by decide +kernel
theorem dX3_build_17 : decode cX3_build 17 = .ok (.astore_n 3, 1) := by decide +kernel
theorem dX3_build_18 : decode cX3_build 18 = .ok (.aload_n 3, 1) := by decide +kernel
theorem dX3_build_19 : decode cX3_build 19 = .ok (.ifnonnull 6, 3) := by decide +kernel
theorem dX3_build_22 : decode cX3_build 22 = .ok (.goto 62, 3) := by decide +kernel
theorem dX3_build_25 : decode cX3_build 25 = .ok (.new 47, 3) := by decide +kernel
theorem dX3_build_28 : decode cX3_build 28 = .ok (.dup, 1) := by decide +kernel
theorem dX3_build_29 : decode cX3_build 29 = .ok (.aload_n 3, 1) := by decide +kernel
theorem dX3_build_30 : decode cX3_build 30 = .ok (.invokevirtual 49, 3) := by decide +kernel
theorem dX3_build_33 : decode cX3_build 33 = .ok (.aload_n 0, 1) := by decide +kernel
theorem dX3_build_34 : decode cX3_build 34 = .ok (.invokespecial 55, 3) := by decide +kernel
theorem dX3_build_37 : decode cX3_build 37 = .ok (.astore 4, 2) := by decide +kernel
theorem dX3_build_39 : decode cX3_build 39 = .ok (.iload_n 2, 1) := by decide +kernel
theorem dX3_build_40 : decode cX3_build 40 = .ok (.ifCond .ne 15, 3) := by decide +kernel
theorem dX3_build_43 : decode cX3_build 43 = .ok (.aload_n 0, 1) := by decide +kernel
theorem dX3_build_44 : decode cX3_build 44 = .ok (.aload 4, 2) := by decide +kernel
theorem dX3_build_46 : decode cX3_build 46 = .ok (.invokevirtual 58, 3) := by decide +kernel
theorem dX3_build_49 : decode cX3_build 49 = .ok (.putfield 35, 3) := by decide +kernel
theorem dX3_build_52 : decode cX3_build 52 = .ok (.goto 32, 3) := by decide +kernel
theorem dX3_build_55 : decode cX3_build 55 = .ok (.iload_n 2, 1) := by decide +kernel
theorem dX3_build_56 : decode cX3_build 56 = .ok (.bipush 6, 2) := by decide +kernel
theorem dX3_build_58 : decode cX3_build 58 = .ok (.if_icmp .ge 14, 3) := by decide +kernel
theorem dX3_build_61 : decode cX3_build 61 = .ok (.aload 4, 2) := by decide +kernel
theorem dX3_build_63 : decode cX3_build 63 = .ok (.iload_n 2, 1) := by decide +kernel
theorem dX3_build_64 : decode cX3_build 64 = .ok (.iconst 1, 1) := by decide +kernel
theorem dX3_build_65 : decode cX3_build 65 = .ok (.isub, 1) := by decide +kernel
theorem dX3_build_66 : decode cX3_build 66 = .ok (.invokevirtual 62, 3) := by decide +kernel
theorem dX3_build_69 : decode cX3_build 69 = .ok (.goto 15, 3) := by decide +kernel
theorem dX3_build_72 : decode cX3_build 72 = .ok (.aload 4, 2) := by decide +kernel
theorem dX3_build_74 : decode cX3_build 74 = .ok (.bipush 8, 2) := by decide +kernel
theorem dX3_build_76 : decode cX3_build 76 = .ok (.iload_n 2, 1) := by decide +kernel
theorem dX3_build_77 : decode cX3_build 77 = .ok (.iadd, 1) := by decide +kernel
theorem dX3_build_78 : decode cX3_build 78 = .ok (.bipush 6, 2) := by decide +kernel
theorem dX3_build_80 : decode cX3_build 80 = .ok (.isub, 1) := by decide +kernel
theorem dX3_build_81 : decode cX3_build 81 = .ok (.invokevirtual 62, 3) := by decide +kernel
theorem dX3_build_84 : decode cX3_build 84 = .ok (.iinc 2 1, 3) := by decide +kernel
theorem dX3_build_87 : decode cX3_build 87 = .ok (.goto (-81), 3) := by decide +kernel
theorem dX3_build_90 : decode cX3_build 90 = .ok (.return_, 1) := by decide +kernel
theorem dX3_addNode_0 : decode cX3_addNode 0 = .ok (.aload_n 0, 1) := by decide +kernel
theorem dX3_addNode_1 : decode cX3_addNode 1 = .ok (.getfield 28, 3) := by decide +kernel
theorem dX3_addNode_4 : decode cX3_addNode 4 = .ok (.ifCond .lt 12, 3) := by decide +kernel
theorem dX3_addNode_7 : decode cX3_addNode 7 = .ok (.aload_n 0, 1) := by decide +kernel
theorem dX3_addNode_8 : decode cX3_addNode 8 = .ok (.getfield 28, 3) := by decide +kernel
theorem dX3_addNode_11 : decode cX3_addNode 11 = .ok (.bipush 60, 2) := by decide +kernel
theorem dX3_addNode_13 : decode cX3_addNode 13 = .ok (.if_icmp .lt 5, 3) := by decide +kernel
theorem dX3_addNode_16 : decode cX3_addNode 16 = .ok (.iconst (-1), 1) := by decide +kernel
theorem dX3_addNode_17 : decode cX3_addNode 17 = .ok (.ireturn, 1) := by decide +kernel
theorem dX3_addNode_18 : decode cX3_addNode 18 = .ok (.aload_n 0, 1) := by decide +kernel
theorem dX3_addNode_19 : decode cX3_addNode 19 = .ok (.getfield 28, 3) := by decide +kernel
theorem dX3_addNode_22 : decode cX3_addNode 22 = .ok (.istore 4, 2) := by decide +kernel
theorem dX3_addNode_24 : decode cX3_addNode 24 = .ok (.aload_n 0, 1) := by decide +kernel
theorem dX3_addNode_25 : decode cX3_addNode 25 = .ok (.getfield 9, 3) := by decide +kernel
theorem dX3_addNode_28 : decode cX3_addNode 28 = .ok (.iload 4, 2) := by decide +kernel
theorem dX3_addNode_30 : decode cX3_addNode 30 = .ok (.iload_n 1, 1) := by decide +kernel
theorem dX3_addNode_31 : decode cX3_addNode 31 = .ok (.castore, 1) := by decide +kernel
theorem dX3_addNode_32 : decode cX3_addNode 32 = .ok (.aload_n 0, 1) := by decide +kernel
theorem dX3_addNode_33 : decode cX3_addNode 33 = .ok (.getfield 15, 3) := by decide +kernel
theorem dX3_addNode_36 : decode cX3_addNode 36 = .ok (.iload 4, 2) := by decide +kernel
theorem dX3_addNode_38 : decode cX3_addNode 38 = .ok (.iload_n 2, 1) := by decide +kernel
theorem dX3_addNode_39 : decode cX3_addNode 39 = .ok (.iastore, 1) := by decide +kernel
theorem dX3_addNode_40 : decode cX3_addNode 40 = .ok (.aload_n 0, 1) := by decide +kernel
theorem dX3_addNode_41 : decode cX3_addNode 41 = .ok (.getfield 19, 3) := by decide +kernel
theorem dX3_addNode_44 : decode cX3_addNode 44 = .ok (.iload 4, 2) := by decide +kernel
theorem dX3_addNode_46 : decode cX3_addNode 46 = .ok (.iload_n 3, 1) := by decide +kernel
theorem dX3_addNode_47 : decode cX3_addNode 47 = .ok (.iastore, 1) := by decide +kernel
theorem dX3_addNode_48 : decode cX3_addNode 48 = .ok (.aload_n 0, 1) := by decide +kernel
theorem dX3_addNode_49 : decode cX3_addNode 49 = .ok (.dup, 1) := by decide +kernel
theorem dX3_addNode_50 : decode cX3_addNode 50 = .ok (.getfield 28, 3) := by decide +kernel
theorem dX3_addNode_53 : decode cX3_addNode 53 = .ok (.iconst 1, 1) := by decide +kernel
theorem dX3_addNode_54 : decode cX3_addNode 54 = .ok (.iadd, 1) := by decide +kernel
theorem dX3_addNode_55 : decode cX3_addNode 55 = .ok (.putfield 28, 3) := by decide +kernel
theorem dX3_addNode_58 : decode cX3_addNode 58 = .ok (.iload 4, 2) := by decide +kernel
theorem dX3_addNode_60 : decode cX3_addNode 60 = .ok (.ireturn, 1) := by decide +kernel
theorem dX3_addLoan_0 : decode cX3_addLoan 0 = .ok (.iconst 5, 1) := by decide +kernel
theorem dX3_addLoan_1 : decode cX3_addLoan 1 = .ok (.aload_n 0, 1) := by decide +kernel
theorem dX3_addLoan_2 : decode cX3_addLoan 2 = .ok (.getfield 32, 3) := by decide +kernel
theorem dX3_addLoan_5 : decode cX3_addLoan 5 = .ok (.iadd, 1) := by decide +kernel
theorem dX3_addLoan_6 : decode cX3_addLoan 6 = .ok (.istore_n 1, 1) := by decide +kernel
theorem dX3_addLoan_7 : decode cX3_addLoan 7 = .ok (.aload_n 0, 1) := by decide +kernel
theorem dX3_addLoan_8 : decode cX3_addLoan 8 = .ok (.dup, 1) := by decide +kernel
theorem dX3_addLoan_9 : decode cX3_addLoan 9 = .ok (.getfield 32, 3) := by decide +kernel
theorem dX3_addLoan_12 : decode cX3_addLoan 12 = .ok (.iconst 1, 1) := by decide +kernel
theorem dX3_addLoan_13 : decode cX3_addLoan 13 = .ok (.iadd, 1) := by decide +kernel
theorem dX3_addLoan_14 : decode cX3_addLoan 14 = .ok (.putfield 32, 3) := by decide +kernel
theorem dX3_addLoan_17 : decode cX3_addLoan 17 = .ok (.iload_n 1, 1) := by decide +kernel
theorem dX3_addLoan_18 : decode cX3_addLoan 18 = .ok (.bipush 8, 2) := by decide +kernel
theorem dX3_addLoan_20 : decode cX3_addLoan 20 = .ok (.if_icmp .ge 7, 3) := by decide +kernel
theorem dX3_addLoan_23 : decode cX3_addLoan 23 = .ok (.iload_n 1, 1) := by decide +kernel
theorem dX3_addLoan_24 : decode cX3_addLoan 24 = .ok (.goto 4, 3) := by decide +kernel
theorem dX3_addLoan_27 : decode cX3_addLoan 27 = .ok (.iconst (-1), 1) := by decide +kernel
theorem dX3_addLoan_28 : decode cX3_addLoan 28 = .ok (.ireturn, 1) := by decide +kernel
theorem dX3_setFace_0 : decode cX3_setFace 0 = .ok (.iload_n 1, 1) := by decide +kernel
theorem dX3_setFace_1 : decode cX3_setFace 1 = .ok (.iload_n 2, 1) := by decide +kernel
theorem dX3_setFace_2 : decode cX3_setFace 2 = .ok (.invokestatic 66, 3) := by decide +kernel
theorem dX3_setFace_5 : decode cX3_setFace 5 = .ok (.ifCond .eq 26, 3) := by decide +kernel
theorem dX3_setFace_8 : decode cX3_setFace 8 = .ok (.aload_n 0, 1) := by decide +kernel
theorem dX3_setFace_9 : decode cX3_setFace 9 = .ok (.getfield 22, 3) := by decide +kernel
theorem dX3_setFace_12 : decode cX3_setFace 12 = .ok (.iload_n 1, 1) := by decide +kernel
theorem dX3_setFace_13 : decode cX3_setFace 13 = .ok (.iconst 3, 1) := by decide +kernel
theorem dX3_setFace_14 : decode cX3_setFace 14 = .ok (.imul, 1) := by decide +kernel
theorem dX3_setFace_15 : decode cX3_setFace 15 = .ok (.iload_n 2, 1) := by decide +kernel
theorem dX3_setFace_16 : decode cX3_setFace 16 = .ok (.iadd, 1) := by decide +kernel
theorem dX3_setFace_17 : decode cX3_setFace 17 = .ok (.iload_n 3, 1) := by decide +kernel
theorem dX3_setFace_18 : decode cX3_setFace 18 = .ok (.castore, 1) := by decide +kernel
theorem dX3_setFace_19 : decode cX3_setFace 19 = .ok (.aload_n 0, 1) := by decide +kernel
theorem dX3_setFace_20 : decode cX3_setFace 20 = .ok (.getfield 25, 3) := by decide +kernel
theorem dX3_setFace_23 : decode cX3_setFace 23 = .ok (.iload_n 1, 1) := by decide +kernel
theorem dX3_setFace_24 : decode cX3_setFace 24 = .ok (.iconst 3, 1) := by decide +kernel
theorem dX3_setFace_25 : decode cX3_setFace 25 = .ok (.imul, 1) := by decide +kernel
theorem dX3_setFace_26 : decode cX3_setFace 26 = .ok (.iload_n 2, 1) := by decide +kernel
theorem dX3_setFace_27 : decode cX3_setFace 27 = .ok (.iadd, 1) := by decide +kernel
theorem dX3_setFace_28 : decode cX3_setFace 28 = .ok (.iload 4, 2) := by decide +kernel
theorem dX3_setFace_30 : decode cX3_setFace 30 = .ok (.iastore, 1) := by decide +kernel
theorem dX3_setFace_31 : decode cX3_setFace 31 = .ok (.return_, 1) := by decide +kernel
theorem dX3_nodes_0 : decode cX3_nodes 0 = .ok (.aload_n 0, 1) := by decide +kernel
theorem dX3_nodes_1 : decode cX3_nodes 1 = .ok (.getfield 28, 3) := by decide +kernel
theorem dX3_nodes_4 : decode cX3_nodes 4 = .ok (.ireturn, 1) := by decide +kernel
theorem dX3_loans_0 : decode cX3_loans 0 = .ok (.aload_n 0, 1) := by decide +kernel
theorem dX3_loans_1 : decode cX3_loans 1 = .ok (.getfield 32, 3) := by decide +kernel
theorem dX3_loans_4 : decode cX3_loans 4 = .ok (.ireturn, 1) := by decide +kernel
theorem dX3_root_0 : decode cX3_root 0 = .ok (.aload_n 0, 1) := by decide +kernel
theorem dX3_root_1 : decode cX3_root 1 = .ok (.getfield 35, 3) := by decide +kernel
theorem dX3_root_4 : decode cX3_root 4 = .ok (.ireturn, 1) := by decide +kernel
theorem dX3_kind_0 : decode cX3_kind 0 = .ok (.aload_n 0, 1) := by decide +kernel
theorem dX3_kind_1 : decode cX3_kind 1 = .ok (.iload_n 1, 1) := by decide +kernel
theorem dX3_kind_2 : decode cX3_kind 2 = .ok (.invokevirtual 70, 3) := by decide +kernel
theorem dX3_kind_5 : decode cX3_kind 5 = .ok (.ifCond .eq 12, 3) := by decide +kernel
theorem dX3_kind_8 : decode cX3_kind 8 = .ok (.aload_n 0, 1) := by decide +kernel
theorem dX3_kind_9 : decode cX3_kind 9 = .ok (.getfield 9, 3) := by decide +kernel
theorem dX3_kind_12 : decode cX3_kind 12 = .ok (.iload_n 1, 1) := by decide +kernel
theorem dX3_kind_13 : decode cX3_kind 13 = .ok (.caload, 1) := by decide +kernel
theorem dX3_kind_14 : decode cX3_kind 14 = .ok (.goto 4, 3) := by decide +kernel
theorem dX3_kind_17 : decode cX3_kind 17 = .ok (.iconst 0, 1) := by decide +kernel
theorem dX3_kind_18 : decode cX3_kind 18 = .ok (.ireturn, 1) := by decide +kernel
theorem dX3_first_0 : decode cX3_first 0 = .ok (.aload_n 0, 1) := by decide +kernel
theorem dX3_first_1 : decode cX3_first 1 = .ok (.iload_n 1, 1) := by decide +kernel
theorem dX3_first_2 : decode cX3_first 2 = .ok (.invokevirtual 70, 3) := by decide +kernel
theorem dX3_first_5 : decode cX3_first 5 = .ok (.ifCond .eq 12, 3) := by decide +kernel
theorem dX3_first_8 : decode cX3_first 8 = .ok (.aload_n 0, 1) := by decide +kernel
theorem dX3_first_9 : decode cX3_first 9 = .ok (.getfield 15, 3) := by decide +kernel
theorem dX3_first_12 : decode cX3_first 12 = .ok (.iload_n 1, 1) := by decide +kernel
theorem dX3_first_13 : decode cX3_first 13 = .ok (.iaload, 1) := by decide +kernel
theorem dX3_first_14 : decode cX3_first 14 = .ok (.goto 4, 3) := by decide +kernel
theorem dX3_first_17 : decode cX3_first 17 = .ok (.iconst (-1), 1) := by decide +kernel
theorem dX3_first_18 : decode cX3_first 18 = .ok (.ireturn, 1) := by decide +kernel
theorem dX3_second_0 : decode cX3_second 0 = .ok (.aload_n 0, 1) := by decide +kernel
theorem dX3_second_1 : decode cX3_second 1 = .ok (.iload_n 1, 1) := by decide +kernel
theorem dX3_second_2 : decode cX3_second 2 = .ok (.invokevirtual 70, 3) := by decide +kernel
theorem dX3_second_5 : decode cX3_second 5 = .ok (.ifCond .eq 12, 3) := by decide +kernel
theorem dX3_second_8 : decode cX3_second 8 = .ok (.aload_n 0, 1) := by decide +kernel
theorem dX3_second_9 : decode cX3_second 9 = .ok (.getfield 19, 3) := by decide +kernel
theorem dX3_second_12 : decode cX3_second 12 = .ok (.iload_n 1, 1) := by decide +kernel
theorem dX3_second_13 : decode cX3_second 13 = .ok (.iaload, 1) := by decide +kernel
theorem dX3_second_14 : decode cX3_second 14 = .ok (.goto 4, 3) := by decide +kernel
theorem dX3_second_17 : decode cX3_second 17 = .ok (.iconst (-1), 1) := by decide +kernel
theorem dX3_second_18 : decode cX3_second 18 = .ok (.ireturn, 1) := by decide +kernel
theorem dX3_loanBit_0 : decode cX3_loanBit 0 = .ok (.aload_n 0, 1) := by decide +kernel
theorem dX3_loanBit_1 : decode cX3_loanBit 1 = .ok (.iload_n 1, 1) := by decide +kernel
theorem dX3_loanBit_2 : decode cX3_loanBit 2 = .ok (.invokevirtual 74, 3) := by decide +kernel
theorem dX3_loanBit_5 : decode cX3_loanBit 5 = .ok (.istore_n 2, 1) := by decide +kernel
theorem dX3_loanBit_6 : decode cX3_loanBit 6 = .ok (.iload_n 2, 1) := by decide +kernel
theorem dX3_loanBit_7 : decode cX3_loanBit 7 = .ok (.iconst 5, 1) := by decide +kernel
theorem dX3_loanBit_8 : decode cX3_loanBit 8 = .ok (.if_icmp .lt 15, 3) := by decide +kernel
theorem dX3_loanBit_11 : decode cX3_loanBit 11 = .ok (.iload_n 2, 1) := by decide +kernel
theorem dX3_loanBit_12 : decode cX3_loanBit 12 = .ok (.bipush 8, 2) := by decide +kernel
theorem dX3_loanBit_14 : decode cX3_loanBit 14 = .ok (.if_icmp .ge 9, 3) := by decide +kernel
theorem dX3_loanBit_17 : decode cX3_loanBit 17 = .ok (.iconst 1, 1) := by decide +kernel
theorem dX3_loanBit_18 : decode cX3_loanBit 18 = .ok (.iload_n 2, 1) := by decide +kernel
theorem dX3_loanBit_19 : decode cX3_loanBit 19 = .ok (.ishl, 1) := by decide +kernel
theorem dX3_loanBit_20 : decode cX3_loanBit 20 = .ok (.goto 4, 3) := by decide +kernel
theorem dX3_loanBit_23 : decode cX3_loanBit 23 = .ok (.iconst 0, 1) := by decide +kernel
theorem dX3_loanBit_24 : decode cX3_loanBit 24 = .ok (.ireturn, 1) := by decide +kernel
theorem dX3_hasHead_0 : decode cX3_hasHead 0 = .ok (.iload_n 1, 1) := by decide +kernel
theorem dX3_hasHead_1 : decode cX3_hasHead 1 = .ok (.iload_n 2, 1) := by decide +kernel
theorem dX3_hasHead_2 : decode cX3_hasHead 2 = .ok (.invokestatic 66, 3) := by decide +kernel
theorem dX3_hasHead_5 : decode cX3_hasHead 5 = .ok (.ifCond .eq 25, 3) := by decide +kernel
theorem dX3_hasHead_8 : decode cX3_hasHead 8 = .ok (.iload_n 3, 1) := by decide +kernel
theorem dX3_hasHead_9 : decode cX3_hasHead 9 = .ok (.ifCond .eq 21, 3) := by decide +kernel
theorem dX3_hasHead_12 : decode cX3_hasHead 12 = .ok (.aload_n 0, 1) := by decide +kernel
theorem dX3_hasHead_13 : decode cX3_hasHead 13 = .ok (.getfield 22, 3) := by decide +kernel
theorem dX3_hasHead_16 : decode cX3_hasHead 16 = .ok (.iload_n 1, 1) := by decide +kernel
theorem dX3_hasHead_17 : decode cX3_hasHead 17 = .ok (.iconst 3, 1) := by decide +kernel
theorem dX3_hasHead_18 : decode cX3_hasHead 18 = .ok (.imul, 1) := by decide +kernel
theorem dX3_hasHead_19 : decode cX3_hasHead 19 = .ok (.iload_n 2, 1) := by decide +kernel
theorem dX3_hasHead_20 : decode cX3_hasHead 20 = .ok (.iadd, 1) := by decide +kernel
theorem dX3_hasHead_21 : decode cX3_hasHead 21 = .ok (.caload, 1) := by decide +kernel
theorem dX3_hasHead_22 : decode cX3_hasHead 22 = .ok (.iload_n 3, 1) := by decide +kernel
theorem dX3_hasHead_23 : decode cX3_hasHead 23 = .ok (.if_icmp .ne 7, 3) := by decide +kernel
theorem dX3_hasHead_26 : decode cX3_hasHead 26 = .ok (.iconst 1, 1) := by decide +kernel
theorem dX3_hasHead_27 : decode cX3_hasHead 27 = .ok (.goto 4, 3) := by decide +kernel
theorem dX3_hasHead_30 : decode cX3_hasHead 30 = .ok (.iconst 0, 1) := by decide +kernel
theorem dX3_hasHead_31 : decode cX3_hasHead 31 = .ok (.ireturn, 1) := by decide +kernel
theorem dX3_body_0 : decode cX3_body 0 = .ok (.iload_n 1, 1) := by decide +kernel
theorem dX3_body_1 : decode cX3_body 1 = .ok (.iload_n 2, 1) := by decide +kernel
theorem dX3_body_2 : decode cX3_body 2 = .ok (.invokestatic 66, 3) := by decide +kernel
theorem dX3_body_5 : decode cX3_body 5 = .ok (.ifCond .eq 16, 3) := by decide +kernel
theorem dX3_body_8 : decode cX3_body 8 = .ok (.aload_n 0, 1) := by decide +kernel
theorem dX3_body_9 : decode cX3_body 9 = .ok (.getfield 25, 3) := by decide +kernel
theorem dX3_body_12 : decode cX3_body 12 = .ok (.iload_n 1, 1) := by decide +kernel
theorem dX3_body_13 : decode cX3_body 13 = .ok (.iconst 3, 1) := by decide +kernel
theorem dX3_body_14 : decode cX3_body 14 = .ok (.imul, 1) := by decide +kernel
theorem dX3_body_15 : decode cX3_body 15 = .ok (.iload_n 2, 1) := by decide +kernel
theorem dX3_body_16 : decode cX3_body 16 = .ok (.iadd, 1) := by decide +kernel
theorem dX3_body_17 : decode cX3_body 17 = .ok (.iaload, 1) := by decide +kernel
theorem dX3_body_18 : decode cX3_body 18 = .ok (.goto 4, 3) := by decide +kernel
theorem dX3_body_21 : decode cX3_body 21 = .ok (.iconst (-1), 1) := by decide +kernel
theorem dX3_body_22 : decode cX3_body 22 = .ok (.ireturn, 1) := by decide +kernel
theorem dX3_singles_0 : decode cX3_singles 0 = .ok (.iconst 0, 1) := by decide +kernel
theorem dX3_singles_1 : decode cX3_singles 1 = .ok (.istore_n 1, 1) := by decide +kernel
theorem dX3_singles_2 : decode cX3_singles 2 = .ok (.iconst 0, 1) := by decide +kernel
theorem dX3_singles_3 : decode cX3_singles 3 = .ok (.istore_n 2, 1) := by decide +kernel
theorem dX3_singles_4 : decode cX3_singles 4 = .ok (.iload_n 2, 1) := by decide +kernel
theorem dX3_singles_5 : decode cX3_singles 5 = .ok (.bipush 8, 2) := by decide +kernel
theorem dX3_singles_7 : decode cX3_singles 7 = .ok (.if_icmp .ge 26, 3) := by decide +kernel
theorem dX3_singles_10 : decode cX3_singles 10 = .ok (.aload_n 0, 1) := by decide +kernel
theorem dX3_singles_11 : decode cX3_singles 11 = .ok (.getfield 22, 3) := by decide +kernel
theorem dX3_singles_14 : decode cX3_singles 14 = .ok (.iload_n 2, 1) := by decide +kernel
theorem dX3_singles_15 : decode cX3_singles 15 = .ok (.iconst 3, 1) := by decide +kernel
theorem dX3_singles_16 : decode cX3_singles 16 = .ok (.imul, 1) := by decide +kernel
theorem dX3_singles_17 : decode cX3_singles 17 = .ok (.caload, 1) := by decide +kernel
theorem dX3_singles_18 : decode cX3_singles 18 = .ok (.ifCond .eq 9, 3) := by decide +kernel
theorem dX3_singles_21 : decode cX3_singles 21 = .ok (.iload_n 1, 1) := by decide +kernel
theorem dX3_singles_22 : decode cX3_singles 22 = .ok (.iconst 1, 1) := by decide +kernel
theorem dX3_singles_23 : decode cX3_singles 23 = .ok (.iload_n 2, 1) := by decide +kernel
theorem dX3_singles_24 : decode cX3_singles 24 = .ok (.ishl, 1) := by decide +kernel
theorem dX3_singles_25 : decode cX3_singles 25 = .ok (.ior, 1) := by decide +kernel
theorem dX3_singles_26 : decode cX3_singles 26 = .ok (.istore_n 1, 1) := by decide +kernel
theorem dX3_singles_27 : decode cX3_singles 27 = .ok (.iinc 2 1, 3) := by decide +kernel
theorem dX3_singles_30 : decode cX3_singles 30 = .ok (.goto (-26), 3) := by decide +kernel
theorem dX3_singles_33 : decode cX3_singles 33 = .ok (.iload_n 1, 1) := by decide +kernel
theorem dX3_singles_34 : decode cX3_singles 34 = .ok (.ireturn, 1) := by decide +kernel
theorem dX3_afterUse_0 : decode cX3_afterUse 0 = .ok (.iload_n 0, 1) := by decide +kernel
theorem dX3_afterUse_1 : decode cX3_afterUse 1 = .ok (.bipush 8, 2) := by decide +kernel
theorem dX3_afterUse_3 : decode cX3_afterUse 3 = .ok (.if_icmp .lt 5, 3) := by decide +kernel
theorem dX3_afterUse_6 : decode cX3_afterUse 6 = .ok (.iload_n 1, 1) := by decide +kernel
theorem dX3_afterUse_7 : decode cX3_afterUse 7 = .ok (.ireturn, 1) := by decide +kernel
theorem dX3_afterUse_8 : decode cX3_afterUse 8 = .ok (.iconst 1, 1) := by decide +kernel
theorem dX3_afterUse_9 : decode cX3_afterUse 9 = .ok (.iload_n 0, 1) := by decide +kernel
theorem dX3_afterUse_10 : decode cX3_afterUse 10 = .ok (.ishl, 1) := by decide +kernel
theorem dX3_afterUse_11 : decode cX3_afterUse 11 = .ok (.istore_n 2, 1) := by decide +kernel
theorem dX3_afterUse_12 : decode cX3_afterUse 12 = .ok (.iload_n 1, 1) := by decide +kernel
theorem dX3_afterUse_13 : decode cX3_afterUse 13 = .ok (.iload_n 2, 1) := by decide +kernel
theorem dX3_afterUse_14 : decode cX3_afterUse 14 = .ok (.iand, 1) := by decide +kernel
theorem dX3_afterUse_15 : decode cX3_afterUse 15 = .ok (.ifCond .eq 9, 3) := by decide +kernel
theorem dX3_afterUse_18 : decode cX3_afterUse 18 = .ok (.iload_n 1, 1) := by decide +kernel
theorem dX3_afterUse_19 : decode cX3_afterUse 19 = .ok (.iload_n 2, 1) := by decide +kernel
theorem dX3_afterUse_20 : decode cX3_afterUse 20 = .ok (.ixor, 1) := by decide +kernel
theorem dX3_afterUse_21 : decode cX3_afterUse 21 = .ok (.goto 4, 3) := by decide +kernel
theorem dX3_afterUse_24 : decode cX3_afterUse 24 = .ok (.iconst (-1), 1) := by decide +kernel
theorem dX3_afterUse_25 : decode cX3_afterUse 25 = .ok (.ireturn, 1) := by decide +kernel
theorem dX3_isFace_0 : decode cX3_isFace 0 = .ok (.iload_n 0, 1) := by decide +kernel
theorem dX3_isFace_1 : decode cX3_isFace 1 = .ok (.ifCond .lt 22, 3) := by decide +kernel
theorem dX3_isFace_4 : decode cX3_isFace 4 = .ok (.iload_n 0, 1) := by decide +kernel
theorem dX3_isFace_5 : decode cX3_isFace 5 = .ok (.bipush 12, 2) := by decide +kernel
theorem dX3_isFace_7 : decode cX3_isFace 7 = .ok (.if_icmp .ge 16, 3) := by decide +kernel
theorem dX3_isFace_10 : decode cX3_isFace 10 = .ok (.iload_n 1, 1) := by decide +kernel
theorem dX3_isFace_11 : decode cX3_isFace 11 = .ok (.ifCond .lt 12, 3) := by decide +kernel
theorem dX3_isFace_14 : decode cX3_isFace 14 = .ok (.iload_n 1, 1) := by decide +kernel
theorem dX3_isFace_15 : decode cX3_isFace 15 = .ok (.iconst 3, 1) := by decide +kernel
theorem dX3_isFace_16 : decode cX3_isFace 16 = .ok (.if_icmp .ge 7, 3) := by decide +kernel
theorem dX3_isFace_19 : decode cX3_isFace 19 = .ok (.iconst 1, 1) := by decide +kernel
theorem dX3_isFace_20 : decode cX3_isFace 20 = .ok (.goto 4, 3) := by decide +kernel
theorem dX3_isFace_23 : decode cX3_isFace 23 = .ok (.iconst 0, 1) := by decide +kernel
theorem dX3_isFace_24 : decode cX3_isFace 24 = .ok (.ireturn, 1) := by decide +kernel
theorem dX3_isNode_0 : decode cX3_isNode 0 = .ok (.iload_n 1, 1) := by decide +kernel
theorem dX3_isNode_1 : decode cX3_isNode 1 = .ok (.ifCond .lt 21, 3) := by decide +kernel
theorem dX3_isNode_4 : decode cX3_isNode 4 = .ok (.iload_n 1, 1) := by decide +kernel
theorem dX3_isNode_5 : decode cX3_isNode 5 = .ok (.aload_n 0, 1) := by decide +kernel
theorem dX3_isNode_6 : decode cX3_isNode 6 = .ok (.getfield 28, 3) := by decide +kernel
theorem dX3_isNode_9 : decode cX3_isNode 9 = .ok (.if_icmp .ge 13, 3) := by decide +kernel
theorem dX3_isNode_12 : decode cX3_isNode 12 = .ok (.iload_n 1, 1) := by decide +kernel
theorem dX3_isNode_13 : decode cX3_isNode 13 = .ok (.bipush 60, 2) := by decide +kernel
theorem dX3_isNode_15 : decode cX3_isNode 15 = .ok (.if_icmp .ge 7, 3) := by decide +kernel
theorem dX3_isNode_18 : decode cX3_isNode 18 = .ok (.iconst 1, 1) := by decide +kernel
theorem dX3_isNode_19 : decode cX3_isNode 19 = .ok (.goto 4, 3) := by decide +kernel
theorem dX3_isNode_22 : decode cX3_isNode 22 = .ok (.iconst 0, 1) := by decide +kernel
theorem dX3_isNode_23 : decode cX3_isNode 23 = .ok (.ireturn, 1) := by decide +kernel
theorem dX4_init_0 : decode cX4_init 0 = .ok (.aload_n 0, 1) := by decide +kernel
theorem dX4_init_1 : decode cX4_init 1 = .ok (.invokespecial 3, 3) := by decide +kernel
theorem dX4_init_4 : decode cX4_init 4 = .ok (.aload_n 0, 1) := by decide +kernel
theorem dX4_init_5 : decode cX4_init 5 = .ok (.sipush 2640, 3) := by decide +kernel
theorem dX4_init_8 : decode cX4_init 8 = .ok (.newarray .long, 2) := by decide +kernel
theorem dX4_init_10 : decode cX4_init 10 = .ok (.putfield 11, 3) := by decide +kernel
theorem dX4_init_13 : decode cX4_init 13 = .ok (.aload_n 0, 1) := by decide +kernel
theorem dX4_init_14 : decode cX4_init 14 = .ok (.iconst 4, 1) := by decide +kernel
theorem dX4_init_15 : decode cX4_init 15 = .ok (.newarray .long, 2) := by decide +kernel
theorem dX4_init_17 : decode cX4_init 17 = .ok (.putfield 15, 3) := by decide +kernel
theorem dX4_init_20 : decode cX4_init 20 = .ok (.aload_n 0, 1) := by decide +kernel
theorem dX4_init_21 : decode cX4_init 21 = .ok (.bipush 64, 2) := by decide +kernel
theorem dX4_init_23 : decode cX4_init 23 = .ok (.newarray .long, 2) := by decide +kernel
theorem dX4_init_25 : decode cX4_init 25 = .ok (.putfield 18, 3) := by decide +kernel
theorem dX4_init_28 : decode cX4_init 28 = .ok (.aload_n 0, 1) := by decide +kernel
theorem dX4_init_29 : decode cX4_init 29 = .ok (.iconst 0, 1) := by decide +kernel
theorem dX4_init_30 : decode cX4_init 30 = .ok (.putfield 21, 3) := by decide +kernel
theorem dX4_init_33 : decode cX4_init 33 = .ok (.aload_n 0, 1) := by decide +kernel
theorem dX4_init_34 : decode cX4_init 34 = .ok (.aload_n 1, 1) := by decide +kernel
theorem dX4_init_35 : decode cX4_init 35 = .ok (.putfield 25, 3) := by decide +kernel
theorem dX4_init_38 : decode cX4_init 38 = .ok (.iconst 0, 1) := by decide +kernel
theorem dX4_init_39 : decode cX4_init 39 = .ok (.istore_n 2, 1) := by decide +kernel
theorem dX4_init_40 : decode cX4_init 40 = .ok (.iload_n 2, 1) := by decide +kernel
theorem dX4_init_41 : decode cX4_init 41 = .ok (.aload_n 0, 1) := by decide +kernel
theorem dX4_init_42 : decode cX4_init 42 = .ok (.getfield 18, 3) := by decide +kernel
theorem dX4_init_45 : decode cX4_init 45 = .ok (.arraylength, 1) := by decide +kernel
theorem dX4_init_46 : decode cX4_init 46 = .ok (.if_icmp .ge 41, 3) := by decide +kernel
theorem dX4_init_49 : decode cX4_init 49 = .ok (.iconst 0, 1) := by decide +kernel
theorem dX4_init_50 : decode cX4_init 50 = .ok (.istore_n 3, 1) := by decide +kernel
theorem dX4_init_51 : decode cX4_init 51 = .ok (.iload_n 3, 1) := by decide +kernel
theorem dX4_init_52 : decode cX4_init 52 = .ok (.bipush 63, 2) := by decide +kernel
theorem dX4_init_54 : decode cX4_init 54 = .ok (.if_icmp .gt 27, 3) := by decide +kernel
theorem dX4_init_57 : decode cX4_init 57 = .ok (.iload_n 2, 1) := by decide +kernel
theorem dX4_init_58 : decode cX4_init 58 = .ok (.iload_n 3, 1) := by decide +kernel
theorem dX4_init_59 : decode cX4_init 59 = .ok (.iand, 1) := by decide +kernel
theorem dX4_init_60 : decode cX4_init 60 = .ok (.ifCond .ne 15, 3) := by decide +kernel
theorem dX4_init_63 : decode cX4_init 63 = .ok (.aload_n 0, 1) := by decide +kernel
theorem dX4_init_64 : decode cX4_init 64 = .ok (.getfield 18, 3) := by decide +kernel
theorem dX4_init_67 : decode cX4_init 67 = .ok (.iload_n 2, 1) := by decide +kernel
theorem dX4_init_68 : decode cX4_init 68 = .ok (.dup2, 1) := by decide +kernel
theorem dX4_init_69 : decode cX4_init 69 = .ok (.laload, 1) := by decide +kernel
theorem dX4_init_70 : decode cX4_init 70 = .ok (.lconst 1, 1) := by decide +kernel
theorem dX4_init_71 : decode cX4_init 71 = .ok (.iload_n 3, 1) := by decide +kernel
theorem dX4_init_72 : decode cX4_init 72 = .ok (.lshl, 1) := by decide +kernel
theorem dX4_init_73 : decode cX4_init 73 = .ok (.lor, 1) := by decide +kernel
theorem dX4_init_74 : decode cX4_init 74 = .ok (.lastore, 1) := by decide +kernel
theorem dX4_init_75 : decode cX4_init 75 = .ok (.iinc 3 1, 3) := by decide +kernel
theorem dX4_init_78 : decode cX4_init 78 = .ok (.goto (-27), 3) := by decide +kernel
theorem dX4_init_81 : decode cX4_init 81 = .ok (.iinc 2 1, 3) := by decide +kernel
theorem dX4_init_84 : decode cX4_init 84 = .ok (.goto (-44), 3) := by decide +kernel
theorem dX4_init_87 : decode cX4_init 87 = .ok (.return_, 1) := by decide +kernel
theorem dX4_compute_0 : decode cX4_compute 0 = .ok (.aload_n 0, 1) := by decide +kernel
theorem dX4_compute_1 : decode cX4_compute 1 = .ok (.invokevirtual 29, 3) := by decide +kernel
theorem dX4_compute_4 : decode cX4_compute 4 = .ok (.iconst 1, 1) := by decide +kernel
theorem dX4_compute_5 : decode cX4_compute 5 = .ok (.istore_n 1, 1) := by decide +kernel
theorem dX4_compute_6 : decode cX4_compute 6 = .ok (.aload_n 0, 1) := by decide +kernel
theorem dX4_compute_7 : decode cX4_compute 7 = .ok (.iconst 0, 1) := by decide +kernel
theorem dX4_compute_8 : decode cX4_compute 8 = .ok (.putfield 21, 3) := by decide +kernel
theorem dX4_compute_11 : decode cX4_compute 11 = .ok (.iconst 1, 1) := by decide +kernel
theorem dX4_compute_12 : decode cX4_compute 12 = .ok (.istore_n 2, 1) := by decide +kernel
theorem dX4_compute_13 : decode cX4_compute 13 = .ok (.iload_n 2, 1) := by decide +kernel
theorem dX4_compute_14 : decode cX4_compute 14 = .ok (.bipush 10, 2) := by decide +kernel
theorem dX4_compute_16 : decode cX4_compute 16 = .ok (.if_icmp .gt 64, 3) := by decide +kernel
theorem dX4_compute_19 : decode cX4_compute 19 = .ok (.iload_n 1, 1) := by decide +kernel
theorem dX4_compute_20 : decode cX4_compute 20 = .ok (.ifCond .eq 60, 3) := by decide +kernel
theorem dX4_compute_23 : decode cX4_compute 23 = .ok (.iconst 0, 1) := by decide +kernel
theorem dX4_compute_24 : decode cX4_compute 24 = .ok (.istore_n 1, 1) := by decide +kernel
theorem dX4_compute_25 : decode cX4_compute 25 = .ok (.iconst 0, 1) := by decide +kernel
theorem dX4_compute_26 : decode cX4_compute 26 = .ok (.istore_n 3, 1) := by decide +kernel
theorem dX4_compute_27 : decode cX4_compute 27 = .ok (.iload_n 3, 1) := by decide +kernel
theorem dX4_compute_28 : decode cX4_compute 28 = .ok (.aload_n 0, 1) := by decide +kernel
theorem dX4_compute_29 : decode cX4_compute 29 = .ok (.getfield 25, 3) := by decide +kernel
theorem dX4_compute_32 : decode cX4_compute 32 = .ok (.invokevirtual 32, 3) := by decide +kernel
theorem dX4_compute_35 : decode cX4_compute 35 = .ok (.if_icmp .ge 34, 3) := by decide +kernel
theorem dX4_compute_38 : decode cX4_compute 38 = .ok (.aload_n 0, 1) := by decide +kernel
theorem dX4_compute_39 : decode cX4_compute 39 = .ok (.iload_n 3, 1) := by decide +kernel
theorem dX4_compute_40 : decode cX4_compute 40 = .ok (.iload_n 2, 1) := by decide +kernel
theorem dX4_compute_41 : decode cX4_compute 41 = .ok (.invokevirtual 38, 3) := by decide +kernel
theorem dX4_compute_44 : decode cX4_compute 44 = .ok (.iload_n 1, 1) := by decide +kernel
theorem dX4_compute_45 : decode cX4_compute 45 = .ok (.ifCond .ne 12, 3) := by decide +kernel
theorem dX4_compute_48 : decode cX4_compute 48 = .ok (.aload_n 0, 1) := by decide +kernel
theorem dX4_compute_49 : decode cX4_compute 49 = .ok (.iload_n 3, 1) := by decide +kernel
theorem dX4_compute_50 : decode cX4_compute 50 = .ok (.iload_n 2, 1) := by decide +kernel
theorem dX4_compute_51 : decode cX4_compute 51 = .ok (.invokevirtual 42, 3) := by decide +kernel
theorem dX4_compute_54 : decode cX4_compute 54 = .ok (.ifCond .eq 7, 3) := by decide +kernel
theorem dX4_compute_57 : decode cX4_compute 57 = .ok (.iconst 1, 1) := by decide +kernel
theorem dX4_compute_58 : decode cX4_compute 58 = .ok (.goto 4, 3) := by decide +kernel
theorem dX4_compute_61 : decode cX4_compute 61 = .ok (.iconst 0, 1) := by decide +kernel
theorem dX4_compute_62 : decode cX4_compute 62 = .ok (.istore_n 1, 1) := by decide +kernel
theorem dX4_compute_63 : decode cX4_compute 63 = .ok (.iinc 3 1, 3) := by decide +kernel
theorem dX4_compute_66 : decode cX4_compute 66 = .ok (.goto (-39), 3) := by decide +kernel
theorem dX4_compute_69 : decode cX4_compute 69 = .ok (.aload_n 0, 1) := by decide +kernel
theorem dX4_compute_70 : decode cX4_compute 70 = .ok (.iload_n 2, 1) := by decide +kernel
theorem dX4_compute_71 : decode cX4_compute 71 = .ok (.putfield 21, 3) := by decide +kernel
theorem dX4_compute_74 : decode cX4_compute 74 = .ok (.iinc 2 1, 3) := by decide +kernel
theorem dX4_compute_77 : decode cX4_compute 77 = .ok (.goto (-64), 3) := by decide +kernel
theorem dX4_compute_80 : decode cX4_compute 80 = .ok (.return_, 1) := by decide +kernel
theorem dX4_proves_0 : decode cX4_proves 0 = .ok (.iload_n 2, 1) := by decide +kernel
theorem dX4_proves_1 : decode cX4_proves 1 = .ok (.ifCond .lt 14, 3) := by decide +kernel
theorem dX4_proves_4 : decode cX4_proves 4 = .ok (.iload_n 2, 1) := by decide +kernel
theorem dX4_proves_5 : decode cX4_proves 5 = .ok (.sipush 256, 3) := by decide +kernel
theorem dX4_proves_8 : decode cX4_proves 8 = .ok (.if_icmp .ge 7, 3) := by decide +kernel
theorem dX4_proves_11 : decode cX4_proves 11 = .ok (.iload_n 3, 1) := by decide +kernel
theorem dX4_proves_12 : decode cX4_proves 12 = .ok (.ifCond .ge 5, 3) := by decide +kernel
theorem dX4_proves_15 : decode cX4_proves 15 = .ok (.iconst 0, 1) := by decide +kernel
theorem dX4_proves_16 : decode cX4_proves 16 = .ok (.ireturn, 1) := by decide +kernel
theorem dX4_proves_17 : decode cX4_proves 17 = .ok (.aload_n 0, 1) := by decide +kernel
theorem dX4_proves_18 : decode cX4_proves 18 = .ok (.iload_n 1, 1) := by decide +kernel
theorem dX4_proves_19 : decode cX4_proves 19 = .ok (.iload_n 3, 1) := by decide +kernel
theorem dX4_proves_20 : decode cX4_proves 20 = .ok (.aload_n 0, 1) := by decide +kernel
theorem dX4_proves_21 : decode cX4_proves 21 = .ok (.getfield 21, 3) := by decide +kernel
theorem dX4_proves_24 : decode cX4_proves 24 = .ok (.invokestatic 46, 3) := by decide +kernel
theorem dX4_proves_27 : decode cX4_proves 27 = .ok (.invokestatic 52, 3) := by decide +kernel
theorem dX4_proves_30 : decode cX4_proves 30 = .ok (.iload_n 2, 1) := by decide +kernel
theorem dX4_proves_31 : decode cX4_proves 31 = .ok (.invokevirtual 55, 3) := by decide +kernel
theorem dX4_proves_34 : decode cX4_proves 34 = .ok (.ireturn, 1) := by decide +kernel
theorem dX4_leastHeight_0 : decode cX4_leastHeight 0 = .ok (.iconst 1, 1) := by decide +kernel
theorem dX4_leastHeight_1 : decode cX4_leastHeight 1 = .ok (.istore_n 3, 1) := by decide +kernel
theorem dX4_leastHeight_2 : decode cX4_leastHeight 2 = .ok (.iload_n 3, 1) := by decide +kernel
theorem dX4_leastHeight_3 : decode cX4_leastHeight 3 = .ok (.bipush 10, 2) := by decide +kernel
theorem dX4_leastHeight_5 : decode cX4_leastHeight 5 = .ok (.if_icmp .gt 21, 3) := by decide +kernel
theorem dX4_leastHeight_8 : decode cX4_leastHeight 8 = .ok (.aload_n 0, 1) := by decide +kernel
theorem dX4_leastHeight_9 : decode cX4_leastHeight 9 = .ok (.iload_n 1, 1) := by decide +kernel
theorem dX4_leastHeight_10 : decode cX4_leastHeight 10 = .ok (.iload_n 2, 1) := by decide +kernel
theorem dX4_leastHeight_11 : decode cX4_leastHeight 11 = .ok (.iload_n 3, 1) := by decide +kernel
theorem dX4_leastHeight_12 : decode cX4_leastHeight 12 = .ok (.invokevirtual 58, 3) := by decide +kernel
theorem dX4_leastHeight_15 : decode cX4_leastHeight 15 = .ok (.ifCond .eq 5, 3) := by decide +kernel
theorem dX4_leastHeight_18 : decode cX4_leastHeight 18 = .ok (.iload_n 3, 1) := by decide +kernel
theorem dX4_leastHeight_19 : decode cX4_leastHeight 19 = .ok (.ireturn, 1) := by decide +kernel
theorem dX4_leastHeight_20 : decode cX4_leastHeight 20 = .ok (.iinc 3 1, 3) := by decide +kernel
theorem dX4_leastHeight_23 : decode cX4_leastHeight 23 = .ok (.goto (-21), 3) := by decide +kernel
theorem dX4_leastHeight_26 : decode cX4_leastHeight 26 = .ok (.bipush (-6), 2) := by decide +kernel
theorem dX4_leastHeight_28 : decode cX4_leastHeight 28 = .ok (.ireturn, 1) := by decide +kernel
theorem dX4_findAllSets_0 : decode cX4_findAllSets 0 = .ok (.aload_n 0, 1) := by decide +kernel
theorem dX4_findAllSets_1 : decode cX4_findAllSets 1 = .ok (.getfield 25, 3) := by decide +kernel
theorem dX4_findAllSets_4 : decode cX4_findAllSets 4 = .ok (.invokevirtual 62, 3) := by decide +kernel
theorem dX4_findAllSets_7 : decode cX4_findAllSets 7 = .ok (.istore_n 1, 1) := by decide +kernel
theorem dX4_findAllSets_8 : decode cX4_findAllSets 8 = .ok (.iconst 0, 1) := by decide +kernel
theorem dX4_findAllSets_9 : decode cX4_findAllSets 9 = .ok (.istore_n 2, 1) := by decide +kernel
theorem dX4_findAllSets_10 : decode cX4_findAllSets 10 = .ok (.iload_n 2, 1) := by decide +kernel
theorem dX4_findAllSets_11 : decode cX4_findAllSets 11 = .ok (.iconst 4, 1) := by decide +kernel
theorem dX4_findAllSets_12 : decode cX4_findAllSets 12 = .ok (.if_icmp .ge 55, 3) := by decide +kernel
theorem dX4_findAllSets_15 : decode cX4_findAllSets 15 = .ok (.aload_n 0, 1) := by decide +kernel
theorem dX4_findAllSets_16 : decode cX4_findAllSets 16 = .ok (.getfield 15, 3) := by decide +kernel
theorem dX4_findAllSets_19 : decode cX4_findAllSets 19 = .ok (.iload_n 2, 1) := by decide +kernel
theorem dX4_findAllSets_20 : decode cX4_findAllSets 20 = .ok (.lconst 0, 1) := by decide +kernel
theorem dX4_findAllSets_21 : decode cX4_findAllSets 21 = .ok (.lastore, 1) := by decide +kernel
theorem dX4_findAllSets_22 : decode cX4_findAllSets 22 = .ok (.iconst 0, 1) := by decide +kernel
theorem dX4_findAllSets_23 : decode cX4_findAllSets 23 = .ok (.istore_n 3, 1) := by decide +kernel
theorem dX4_findAllSets_24 : decode cX4_findAllSets 24 = .ok (.iload_n 3, 1) := by decide +kernel
theorem dX4_findAllSets_25 : decode cX4_findAllSets 25 = .ok (.bipush 63, 2) := by decide +kernel
theorem dX4_findAllSets_27 : decode cX4_findAllSets 27 = .ok (.if_icmp .gt 34, 3) := by decide +kernel
theorem dX4_findAllSets_30 : decode cX4_findAllSets 30 = .ok (.iload_n 2, 1) := by decide +kernel
theorem dX4_findAllSets_31 : decode cX4_findAllSets 31 = .ok (.bipush 6, 2) := by decide +kernel
theorem dX4_findAllSets_33 : decode cX4_findAllSets 33 = .ok (.ishl, 1) := by decide +kernel
theorem dX4_findAllSets_34 : decode cX4_findAllSets 34 = .ok (.iload_n 3, 1) := by decide +kernel
theorem dX4_findAllSets_35 : decode cX4_findAllSets 35 = .ok (.ior, 1) := by decide +kernel
theorem dX4_findAllSets_36 : decode cX4_findAllSets 36 = .ok (.iload_n 1, 1) := by decide +kernel
theorem dX4_findAllSets_37 : decode cX4_findAllSets 37 = .ok (.iconst (-1), 1) := by decide +kernel
theorem dX4_findAllSets_38 : decode cX4_findAllSets 38 = .ok (.ixor, 1) := by decide +kernel
theorem dX4_findAllSets_39 : decode cX4_findAllSets 39 = .ok (.iand, 1) := by decide +kernel
theorem dX4_findAllSets_40 : decode cX4_findAllSets 40 = .ok (.ifCond .ne 15, 3) := by decide +kernel
theorem dX4_findAllSets_43 : decode cX4_findAllSets 43 = .ok (.aload_n 0, 1) := by decide +kernel
theorem dX4_findAllSets_44 : decode cX4_findAllSets 44 = .ok (.getfield 15, 3) := by decide +kernel
theorem dX4_findAllSets_47 : decode cX4_findAllSets 47 = .ok (.iload_n 2, 1) := by decide +kernel
theorem dX4_findAllSets_48 : decode cX4_findAllSets 48 = .ok (.dup2, 1) := by decide +kernel
theorem dX4_findAllSets_49 : decode cX4_findAllSets 49 = .ok (.laload, 1) := by decide +kernel
theorem dX4_findAllSets_50 : decode cX4_findAllSets 50 = .ok (.lconst 1, 1) := by decide +kernel
theorem dX4_findAllSets_51 : decode cX4_findAllSets 51 = .ok (.iload_n 3, 1) := by decide +kernel
theorem dX4_findAllSets_52 : decode cX4_findAllSets 52 = .ok (.lshl, 1) := by decide +kernel
theorem dX4_findAllSets_53 : decode cX4_findAllSets 53 = .ok (.lor, 1) := by decide +kernel
theorem dX4_findAllSets_54 : decode cX4_findAllSets 54 = .ok (.lastore, 1) := by decide +kernel
theorem dX4_findAllSets_55 : decode cX4_findAllSets 55 = .ok (.iinc 3 1, 3) := by decide +kernel
theorem dX4_findAllSets_58 : decode cX4_findAllSets 58 = .ok (.goto (-34), 3) := by decide +kernel
theorem dX4_findAllSets_61 : decode cX4_findAllSets 61 = .ok (.iinc 2 1, 3) := by decide +kernel
theorem dX4_findAllSets_64 : decode cX4_findAllSets 64 = .ok (.goto (-54), 3) := by decide +kernel
theorem dX4_findAllSets_67 : decode cX4_findAllSets 67 = .ok (.return_, 1) := by decide +kernel
theorem dX4_fillRow_0 : decode cX4_fillRow 0 = .ok (.iload_n 1, 1) := by decide +kernel
theorem dX4_fillRow_1 : decode cX4_fillRow 1 = .ok (.iload_n 2, 1) := by decide +kernel
theorem dX4_fillRow_2 : decode cX4_fillRow 2 = .ok (.invokestatic 52, 3) := by decide +kernel
theorem dX4_fillRow_5 : decode cX4_fillRow 5 = .ok (.istore_n 3, 1) := by decide +kernel
theorem dX4_fillRow_6 : decode cX4_fillRow 6 = .ok (.aload_n 0, 1) := by decide +kernel
theorem dX4_fillRow_7 : decode cX4_fillRow 7 = .ok (.getfield 25, 3) := by decide +kernel
theorem dX4_fillRow_10 : decode cX4_fillRow 10 = .ok (.iload_n 1, 1) := by decide +kernel
theorem dX4_fillRow_11 : decode cX4_fillRow 11 = .ok (.invokevirtual 65, 3) := by decide +kernel
theorem dX4_fillRow_14 : decode cX4_fillRow 14 = .ok (.iload_n 2, 1) := by decide +kernel
theorem dX4_fillRow_15 : decode cX4_fillRow 15 = .ok (.iconst 1, 1) := by decide +kernel
theorem dX4_fillRow_16 : decode cX4_fillRow 16 = .ok (.isub, 1) := by decide +kernel
theorem dX4_fillRow_17 : decode cX4_fillRow 17 = .ok (.invokestatic 52, 3) := by decide +kernel
theorem dX4_fillRow_20 : decode cX4_fillRow 20 = .ok (.istore 4, 2) := by decide +kernel
theorem dX4_fillRow_22 : decode cX4_fillRow 22 = .ok (.aload_n 0, 1) := by decide +kernel
theorem dX4_fillRow_23 : decode cX4_fillRow 23 = .ok (.getfield 25, 3) := by decide +kernel
theorem dX4_fillRow_26 : decode cX4_fillRow 26 = .ok (.iload_n 1, 1) := by decide +kernel
theorem dX4_fillRow_27 : decode cX4_fillRow 27 = .ok (.invokevirtual 69, 3) := by decide +kernel
theorem dX4_fillRow_30 : decode cX4_fillRow 30 = .ok (.iload_n 2, 1) := by decide +kernel
theorem dX4_fillRow_31 : decode cX4_fillRow 31 = .ok (.iconst 1, 1) := by decide +kernel
theorem dX4_fillRow_32 : decode cX4_fillRow 32 = .ok (.isub, 1) := by decide +kernel
theorem dX4_fillRow_33 : decode cX4_fillRow 33 = .ok (.invokestatic 52, 3) := by decide +kernel
theorem dX4_fillRow_36 : decode cX4_fillRow 36 = .ok (.istore 5, 2) := by decide +kernel
theorem dX4_fillRow_38 : decode cX4_fillRow 38 = .ok (.aload_n 0, 1) := by decide +kernel
theorem dX4_fillRow_39 : decode cX4_fillRow 39 = .ok (.iload_n 3, 1) := by decide +kernel
theorem dX4_fillRow_40 : decode cX4_fillRow 40 = .ok (.invokevirtual 72, 3) := by decide +kernel
theorem dX4_fillRow_43 : decode cX4_fillRow 43 = .ok (.aload_n 0, 1) := by decide +kernel
theorem dX4_fillRow_44 : decode cX4_fillRow 44 = .ok (.getfield 25, 3) := by decide +kernel
theorem dX4_fillRow_47 : decode cX4_fillRow 47 = .ok (.iload_n 1, 1) := by decide +kernel
theorem dX4_fillRow_48 : decode cX4_fillRow 48 = .ok (.invokevirtual 76, 3) := by decide +kernel
theorem dX4_fillRow_51 : decode cX4_fillRow 51 = .ok (.istore 6, 2) := by decide +kernel
theorem dX4_fillRow_53 : decode cX4_fillRow 53 = .ok (.iload 6, 2) := by decide +kernel
theorem dX4_fillRow_55 : decode cX4_fillRow 55 = .ok (.lookupswitch 162 #[(33, 82), (38, 113), (42, 101), (43, 125), (49, 65), (84, 74), (91, 144)], 65) := by decide +kernel
theorem dX4_fillRow_120 : decode cX4_fillRow 120 = .ok (.aload_n 0, 1) := by decide +kernel
theorem dX4_fillRow_121 : decode cX4_fillRow 121 = .ok (.iload_n 3, 1) := by decide +kernel
theorem dX4_fillRow_122 : decode cX4_fillRow 122 = .ok (.iconst 0, 1) := by decide +kernel
theorem dX4_fillRow_123 : decode cX4_fillRow 123 = .ok (.invokevirtual 80, 3) := by decide +kernel
theorem dX4_fillRow_126 : decode cX4_fillRow 126 = .ok (.goto 99, 3) := by decide +kernel
theorem dX4_fillRow_129 : decode cX4_fillRow 129 = .ok (.aload_n 0, 1) := by decide +kernel
theorem dX4_fillRow_130 : decode cX4_fillRow 130 = .ok (.iload_n 3, 1) := by decide +kernel
theorem dX4_fillRow_131 : decode cX4_fillRow 131 = .ok (.invokevirtual 83, 3) := by decide +kernel
theorem dX4_fillRow_134 : decode cX4_fillRow 134 = .ok (.goto 91, 3) := by decide +kernel
theorem dX4_fillRow_137 : decode cX4_fillRow 137 = .ok (.aload_n 0, 1) := by decide +kernel
theorem dX4_fillRow_138 : decode cX4_fillRow 138 = .ok (.iload 4, 2) := by decide +kernel
theorem dX4_fillRow_140 : decode cX4_fillRow 140 = .ok (.iconst 0, 1) := by decide +kernel
theorem dX4_fillRow_141 : decode cX4_fillRow 141 = .ok (.invokevirtual 55, 3) := by decide +kernel
theorem dX4_fillRow_144 : decode cX4_fillRow 144 = .ok (.ifCond .eq 81, 3) := by decide +kernel
theorem dX4_fillRow_147 : decode cX4_fillRow 147 = .ok (.aload_n 0, 1) := by decide +kernel
theorem dX4_fillRow_148 : decode cX4_fillRow 148 = .ok (.iload_n 3, 1) := by decide +kernel
theorem dX4_fillRow_149 : decode cX4_fillRow 149 = .ok (.iconst 0, 1) := by decide +kernel
theorem dX4_fillRow_150 : decode cX4_fillRow 150 = .ok (.invokevirtual 80, 3) := by decide +kernel
theorem dX4_fillRow_153 : decode cX4_fillRow 153 = .ok (.goto 72, 3) := by decide +kernel
theorem dX4_fillRow_156 : decode cX4_fillRow 156 = .ok (.aload_n 0, 1) := by decide +kernel
theorem dX4_fillRow_157 : decode cX4_fillRow 157 = .ok (.iload_n 3, 1) := by decide +kernel
theorem dX4_fillRow_158 : decode cX4_fillRow 158 = .ok (.iload 4, 2) := by decide +kernel
theorem dX4_fillRow_160 : decode cX4_fillRow 160 = .ok (.iload 5, 2) := by decide +kernel
theorem dX4_fillRow_162 : decode cX4_fillRow 162 = .ok (.invokevirtual 86, 3) := by decide +kernel
theorem dX4_fillRow_165 : decode cX4_fillRow 165 = .ok (.goto 60, 3) := by decide +kernel
theorem dX4_fillRow_168 : decode cX4_fillRow 168 = .ok (.aload_n 0, 1) := by decide +kernel
theorem dX4_fillRow_169 : decode cX4_fillRow 169 = .ok (.iload_n 3, 1) := by decide +kernel
theorem dX4_fillRow_170 : decode cX4_fillRow 170 = .ok (.iload 4, 2) := by decide +kernel
theorem dX4_fillRow_172 : decode cX4_fillRow 172 = .ok (.iload 5, 2) := by decide +kernel
theorem dX4_fillRow_174 : decode cX4_fillRow 174 = .ok (.invokevirtual 90, 3) := by decide +kernel
theorem dX4_fillRow_177 : decode cX4_fillRow 177 = .ok (.goto 48, 3) := by decide +kernel
theorem dX4_fillRow_180 : decode cX4_fillRow 180 = .ok (.aload_n 0, 1) := by decide +kernel
theorem dX4_fillRow_181 : decode cX4_fillRow 181 = .ok (.iload_n 3, 1) := by decide +kernel
theorem dX4_fillRow_182 : decode cX4_fillRow 182 = .ok (.iload 4, 2) := by decide +kernel
theorem dX4_fillRow_184 : decode cX4_fillRow 184 = .ok (.iconst 0, 1) := by decide +kernel
theorem dX4_fillRow_185 : decode cX4_fillRow 185 = .ok (.invokevirtual 93, 3) := by decide +kernel
theorem dX4_fillRow_188 : decode cX4_fillRow 188 = .ok (.aload_n 0, 1) := by decide +kernel
theorem dX4_fillRow_189 : decode cX4_fillRow 189 = .ok (.iload_n 3, 1) := by decide +kernel
theorem dX4_fillRow_190 : decode cX4_fillRow 190 = .ok (.iload 5, 2) := by decide +kernel
theorem dX4_fillRow_192 : decode cX4_fillRow 192 = .ok (.iconst 0, 1) := by decide +kernel
theorem dX4_fillRow_193 : decode cX4_fillRow 193 = .ok (.invokevirtual 93, 3) := by decide +kernel
theorem dX4_fillRow_196 : decode cX4_fillRow 196 = .ok (.goto 29, 3) := by decide +kernel
theorem dX4_fillRow_199 : decode cX4_fillRow 199 = .ok (.aload_n 0, 1) := by decide +kernel
theorem dX4_fillRow_200 : decode cX4_fillRow 200 = .ok (.iload_n 3, 1) := by decide +kernel
theorem dX4_fillRow_201 : decode cX4_fillRow 201 = .ok (.iload 4, 2) := by decide +kernel
theorem dX4_fillRow_203 : decode cX4_fillRow 203 = .ok (.aload_n 0, 1) := by decide +kernel
theorem dX4_fillRow_204 : decode cX4_fillRow 204 = .ok (.getfield 25, 3) := by decide +kernel
theorem dX4_fillRow_207 : decode cX4_fillRow 207 = .ok (.iload_n 1, 1) := by decide +kernel
theorem dX4_fillRow_208 : decode cX4_fillRow 208 = .ok (.invokevirtual 96, 3) := by decide +kernel
theorem dX4_fillRow_211 : decode cX4_fillRow 211 = .ok (.invokevirtual 99, 3) := by decide +kernel
theorem dX4_fillRow_214 : decode cX4_fillRow 214 = .ok (.goto 11, 3) := by decide +kernel
theorem dX4_fillRow_217 : decode cX4_fillRow 217 = .ok (.aload_n 0, 1) := by decide +kernel
theorem dX4_fillRow_218 : decode cX4_fillRow 218 = .ok (.iload_n 3, 1) := by decide +kernel
theorem dX4_fillRow_219 : decode cX4_fillRow 219 = .ok (.iload 6, 2) := by decide +kernel
theorem dX4_fillRow_221 : decode cX4_fillRow 221 = .ok (.iload_n 2, 1) := by decide +kernel
theorem dX4_fillRow_222 : decode cX4_fillRow 222 = .ok (.invokevirtual 102, 3) := by decide +kernel
theorem dX4_fillRow_225 : decode cX4_fillRow 225 = .ok (.return_, 1) := by decide +kernel
theorem dX4_addAtom_0 : decode cX4_addAtom 0 = .ok (.iconst 0, 1) := by decide +kernel
theorem dX4_addAtom_1 : decode cX4_addAtom 1 = .ok (.istore 4, 2) := by decide +kernel
theorem dX4_addAtom_3 : decode cX4_addAtom 3 = .ok (.iload 4, 2) := by decide +kernel
theorem dX4_addAtom_5 : decode cX4_addAtom 5 = .ok (.bipush 12, 2) := by decide +kernel
theorem dX4_addAtom_7 : decode cX4_addAtom 7 = .ok (.if_icmp .ge 103, 3) := by decide +kernel
theorem dX4_addAtom_10 : decode cX4_addAtom 10 = .ok (.iload 4, 2) := by decide +kernel
theorem dX4_addAtom_12 : decode cX4_addAtom 12 = .ok (.bipush 8, 2) := by decide +kernel
theorem dX4_addAtom_14 : decode cX4_addAtom 14 = .ok (.if_icmp .ge 10, 3) := by decide +kernel
theorem dX4_addAtom_17 : decode cX4_addAtom 17 = .ok (.iconst 1, 1) := by decide +kernel
theorem dX4_addAtom_18 : decode cX4_addAtom 18 = .ok (.iload 4, 2) := by decide +kernel
theorem dX4_addAtom_20 : decode cX4_addAtom 20 = .ok (.ishl, 1) := by decide +kernel
theorem dX4_addAtom_21 : decode cX4_addAtom 21 = .ok (.goto 4, 3) := by decide +kernel
theorem dX4_addAtom_24 : decode cX4_addAtom 24 = .ok (.iconst 0, 1) := by decide +kernel
theorem dX4_addAtom_25 : decode cX4_addAtom 25 = .ok (.istore 5, 2) := by decide +kernel
theorem dX4_addAtom_27 : decode cX4_addAtom 27 = .ok (.iconst 0, 1) := by decide +kernel
theorem dX4_addAtom_28 : decode cX4_addAtom 28 = .ok (.istore 6, 2) := by decide +kernel
theorem dX4_addAtom_30 : decode cX4_addAtom 30 = .ok (.iload 6, 2) := by decide +kernel
theorem dX4_addAtom_32 : decode cX4_addAtom 32 = .ok (.iconst 3, 1) := by decide +kernel
theorem dX4_addAtom_33 : decode cX4_addAtom 33 = .ok (.if_icmp .ge 71, 3) := by decide +kernel
theorem dX4_addAtom_36 : decode cX4_addAtom 36 = .ok (.aload_n 0, 1) := by decide +kernel
theorem dX4_addAtom_37 : decode cX4_addAtom 37 = .ok (.getfield 25, 3) := by decide +kernel
theorem dX4_addAtom_40 : decode cX4_addAtom 40 = .ok (.iload 4, 2) := by decide +kernel
theorem dX4_addAtom_42 : decode cX4_addAtom 42 = .ok (.iload 6, 2) := by decide +kernel
theorem dX4_addAtom_44 : decode cX4_addAtom 44 = .ok (.iload_n 2, 1) := by decide +kernel
theorem dX4_addAtom_45 : decode cX4_addAtom 45 = .ok (.invokevirtual 106, 3) := by decide +kernel
theorem dX4_addAtom_48 : decode cX4_addAtom 48 = .ok (.ifCond .ne 6, 3) := by decide +kernel
theorem dX4_addAtom_51 : decode cX4_addAtom 51 = .ok (.goto 47, 3) := by decide +kernel
theorem dX4_addAtom_54 : decode cX4_addAtom 54 = .ok (.aload_n 0, 1) := by decide +kernel
theorem dX4_addAtom_55 : decode cX4_addAtom 55 = .ok (.getfield 25, 3) := by decide +kernel
theorem dX4_addAtom_58 : decode cX4_addAtom 58 = .ok (.iload 4, 2) := by decide +kernel
theorem dX4_addAtom_60 : decode cX4_addAtom 60 = .ok (.iload 6, 2) := by decide +kernel
theorem dX4_addAtom_62 : decode cX4_addAtom 62 = .ok (.invokevirtual 110, 3) := by decide +kernel
theorem dX4_addAtom_65 : decode cX4_addAtom 65 = .ok (.istore 7, 2) := by decide +kernel
theorem dX4_addAtom_67 : decode cX4_addAtom 67 = .ok (.iload 7, 2) := by decide +kernel
theorem dX4_addAtom_69 : decode cX4_addAtom 69 = .ok (.iconst (-1), 1) := by decide +kernel
theorem dX4_addAtom_70 : decode cX4_addAtom 70 = .ok (.if_icmp .ne 13, 3) := by decide +kernel
theorem dX4_addAtom_73 : decode cX4_addAtom 73 = .ok (.aload_n 0, 1) := by decide +kernel
theorem dX4_addAtom_74 : decode cX4_addAtom 74 = .ok (.iload_n 1, 1) := by decide +kernel
theorem dX4_addAtom_75 : decode cX4_addAtom 75 = .ok (.iload 5, 2) := by decide +kernel
theorem dX4_addAtom_77 : decode cX4_addAtom 77 = .ok (.invokevirtual 80, 3) := by decide +kernel
theorem dX4_addAtom_80 : decode cX4_addAtom 80 = .ok (.goto 18, 3) := by decide +kernel
theorem dX4_addAtom_83 : decode cX4_addAtom 83 = .ok (.aload_n 0, 1) := by decide +kernel
theorem dX4_addAtom_84 : decode cX4_addAtom 84 = .ok (.iload_n 1, 1) := by decide +kernel
theorem dX4_addAtom_85 : decode cX4_addAtom 85 = .ok (.iload 7, 2) := by decide +kernel
theorem dX4_addAtom_87 : decode cX4_addAtom 87 = .ok (.iload_n 3, 1) := by decide +kernel
theorem dX4_addAtom_88 : decode cX4_addAtom 88 = .ok (.iconst 1, 1) := by decide +kernel
theorem dX4_addAtom_89 : decode cX4_addAtom 89 = .ok (.isub, 1) := by decide +kernel
theorem dX4_addAtom_90 : decode cX4_addAtom 90 = .ok (.invokestatic 52, 3) := by decide +kernel
theorem dX4_addAtom_93 : decode cX4_addAtom 93 = .ok (.iload 5, 2) := by decide +kernel
theorem dX4_addAtom_95 : decode cX4_addAtom 95 = .ok (.invokevirtual 93, 3) := by decide +kernel
theorem dX4_addAtom_98 : decode cX4_addAtom 98 = .ok (.iinc 6 1, 3) := by decide +kernel
theorem dX4_addAtom_101 : decode cX4_addAtom 101 = .ok (.goto (-71), 3) := by decide +kernel
theorem dX4_addAtom_104 : decode cX4_addAtom 104 = .ok (.iinc 4 1, 3) := by decide +kernel
theorem dX4_addAtom_107 : decode cX4_addAtom 107 = .ok (.goto (-104), 3) := by decide +kernel
theorem dX4_addAtom_110 : decode cX4_addAtom 110 = .ok (.return_, 1) := by decide +kernel
theorem dX4_addUnions_0 : decode cX4_addUnions 0 = .ok (.iconst 0, 1) := by decide +kernel
theorem dX4_addUnions_1 : decode cX4_addUnions 1 = .ok (.istore 4, 2) := by decide +kernel
theorem dX4_addUnions_3 : decode cX4_addUnions 3 = .ok (.iload 4, 2) := by decide +kernel
theorem dX4_addUnions_5 : decode cX4_addUnions 5 = .ok (.iconst 4, 1) := by decide +kernel
theorem dX4_addUnions_6 : decode cX4_addUnions 6 = .ok (.if_icmp .ge 70, 3) := by decide +kernel
theorem dX4_addUnions_9 : decode cX4_addUnions 9 = .ok (.aload_n 0, 1) := by decide +kernel
theorem dX4_addUnions_10 : decode cX4_addUnions 10 = .ok (.iload_n 2, 1) := by decide +kernel
theorem dX4_addUnions_11 : decode cX4_addUnions 11 = .ok (.iload 4, 2) := by decide +kernel
theorem dX4_addUnions_13 : decode cX4_addUnions 13 = .ok (.invokevirtual 113, 3) := by decide +kernel
theorem dX4_addUnions_16 : decode cX4_addUnions 16 = .ok (.lstore 5, 2) := by decide +kernel
theorem dX4_addUnions_18 : decode cX4_addUnions 18 = .ok (.iconst 0, 1) := by decide +kernel
theorem dX4_addUnions_19 : decode cX4_addUnions 19 = .ok (.istore 7, 2) := by decide +kernel
theorem dX4_addUnions_21 : decode cX4_addUnions 21 = .ok (.iload 7, 2) := by decide +kernel
theorem dX4_addUnions_23 : decode cX4_addUnions 23 = .ok (.bipush 63, 2) := by decide +kernel
theorem dX4_addUnions_25 : decode cX4_addUnions 25 = .ok (.if_icmp .gt 45, 3) := by decide +kernel
theorem dX4_addUnions_28 : decode cX4_addUnions 28 = .ok (.lload 5, 2) := by decide +kernel
theorem dX4_addUnions_30 : decode cX4_addUnions 30 = .ok (.lconst 0, 1) := by decide +kernel
theorem dX4_addUnions_31 : decode cX4_addUnions 31 = .ok (.lcmp, 1) := by decide +kernel
theorem dX4_addUnions_32 : decode cX4_addUnions 32 = .ok (.ifCond .eq 38, 3) := by decide +kernel
theorem dX4_addUnions_35 : decode cX4_addUnions 35 = .ok (.lload 5, 2) := by decide +kernel
theorem dX4_addUnions_37 : decode cX4_addUnions 37 = .ok (.lconst 1, 1) := by decide +kernel
theorem dX4_addUnions_38 : decode cX4_addUnions 38 = .ok (.land, 1) := by decide +kernel
theorem dX4_addUnions_39 : decode cX4_addUnions 39 = .ok (.lconst 0, 1) := by decide +kernel
theorem dX4_addUnions_40 : decode cX4_addUnions 40 = .ok (.lcmp, 1) := by decide +kernel
theorem dX4_addUnions_41 : decode cX4_addUnions 41 = .ok (.ifCond .eq 17, 3) := by decide +kernel
theorem dX4_addUnions_44 : decode cX4_addUnions 44 = .ok (.aload_n 0, 1) := by decide +kernel
theorem dX4_addUnions_45 : decode cX4_addUnions 45 = .ok (.iload_n 1, 1) := by decide +kernel
theorem dX4_addUnions_46 : decode cX4_addUnions 46 = .ok (.iload_n 3, 1) := by decide +kernel
theorem dX4_addUnions_47 : decode cX4_addUnions 47 = .ok (.iload 4, 2) := by decide +kernel
theorem dX4_addUnions_49 : decode cX4_addUnions 49 = .ok (.bipush 6, 2) := by decide +kernel
theorem dX4_addUnions_51 : decode cX4_addUnions 51 = .ok (.ishl, 1) := by decide +kernel
theorem dX4_addUnions_52 : decode cX4_addUnions 52 = .ok (.iload 7, 2) := by decide +kernel
theorem dX4_addUnions_54 : decode cX4_addUnions 54 = .ok (.ior, 1) := by decide +kernel
theorem dX4_addUnions_55 : decode cX4_addUnions 55 = .ok (.invokevirtual 93, 3) := by decide +kernel
theorem dX4_addUnions_58 : decode cX4_addUnions 58 = .ok (.lload 5, 2) := by decide +kernel
theorem dX4_addUnions_60 : decode cX4_addUnions 60 = .ok (.iconst 1, 1) := by decide +kernel
theorem dX4_addUnions_61 : decode cX4_addUnions 61 = .ok (.lushr, 1) := by decide +kernel
theorem dX4_addUnions_62 : decode cX4_addUnions 62 = .ok (.lstore 5, 2) := by decide +kernel
theorem dX4_addUnions_64 : decode cX4_addUnions 64 = .ok (.iinc 7 1, 3) := by decide +kernel
theorem dX4_addUnions_67 : decode cX4_addUnions 67 = .ok (.goto (-46), 3) := by decide +kernel
theorem dX4_addUnions_70 : decode cX4_addUnions 70 = .ok (.iinc 4 1, 3) := by decide +kernel
theorem dX4_addUnions_73 : decode cX4_addUnions 73 = .ok (.goto (-70), 3) := by decide +kernel
theorem dX4_addUnions_76 : decode cX4_addUnions 76 = .ok (.return_, 1) := by decide +kernel
theorem dX4_addMoved_0 : decode cX4_addMoved 0 = .ok (.iload_n 3, 1) := by decide +kernel
theorem dX4_addMoved_1 : decode cX4_addMoved 1 = .ok (.bipush 63, 2) := by decide +kernel
theorem dX4_addMoved_3 : decode cX4_addMoved 3 = .ok (.iand, 1) := by decide +kernel
theorem dX4_addMoved_4 : decode cX4_addMoved 4 = .ok (.istore 4, 2) := by decide +kernel
theorem dX4_addMoved_6 : decode cX4_addMoved 6 = .ok (.iload_n 3, 1) := by decide +kernel
theorem dX4_addMoved_7 : decode cX4_addMoved 7 = .ok (.bipush 6, 2) := by decide +kernel
theorem dX4_addMoved_9 : decode cX4_addMoved 9 = .ok (.ishr, 1) := by decide +kernel
theorem dX4_addMoved_10 : decode cX4_addMoved 10 = .ok (.istore 5, 2) := by decide +kernel
theorem dX4_addMoved_12 : decode cX4_addMoved 12 = .ok (.aload_n 0, 1) := by decide +kernel
theorem dX4_addMoved_13 : decode cX4_addMoved 13 = .ok (.getfield 18, 3) := by decide +kernel
theorem dX4_addMoved_16 : decode cX4_addMoved 16 = .ok (.iload 4, 2) := by decide +kernel
theorem dX4_addMoved_18 : decode cX4_addMoved 18 = .ok (.laload, 1) := by decide +kernel
theorem dX4_addMoved_19 : decode cX4_addMoved 19 = .ok (.lstore 6, 2) := by decide +kernel
theorem dX4_addMoved_21 : decode cX4_addMoved 21 = .ok (.iconst 0, 1) := by decide +kernel
theorem dX4_addMoved_22 : decode cX4_addMoved 22 = .ok (.istore 8, 2) := by decide +kernel
theorem dX4_addMoved_24 : decode cX4_addMoved 24 = .ok (.iload 8, 2) := by decide +kernel
theorem dX4_addMoved_26 : decode cX4_addMoved 26 = .ok (.iconst 4, 1) := by decide +kernel
theorem dX4_addMoved_27 : decode cX4_addMoved 27 = .ok (.if_icmp .ge 40, 3) := by decide +kernel
theorem dX4_addMoved_30 : decode cX4_addMoved 30 = .ok (.iload 8, 2) := by decide +kernel
theorem dX4_addMoved_32 : decode cX4_addMoved 32 = .ok (.iload 5, 2) := by decide +kernel
theorem dX4_addMoved_34 : decode cX4_addMoved 34 = .ok (.iand, 1) := by decide +kernel
theorem dX4_addMoved_35 : decode cX4_addMoved 35 = .ok (.ifCond .ne 26, 3) := by decide +kernel
theorem dX4_addMoved_38 : decode cX4_addMoved 38 = .ok (.aload_n 0, 1) := by decide +kernel
theorem dX4_addMoved_39 : decode cX4_addMoved 39 = .ok (.iload_n 1, 1) := by decide +kernel
theorem dX4_addMoved_40 : decode cX4_addMoved 40 = .ok (.iload 8, 2) := by decide +kernel
theorem dX4_addMoved_42 : decode cX4_addMoved 42 = .ok (.iload 5, 2) := by decide +kernel
theorem dX4_addMoved_44 : decode cX4_addMoved 44 = .ok (.ior, 1) := by decide +kernel
theorem dX4_addMoved_45 : decode cX4_addMoved 45 = .ok (.aload_n 0, 1) := by decide +kernel
theorem dX4_addMoved_46 : decode cX4_addMoved 46 = .ok (.iload_n 2, 1) := by decide +kernel
theorem dX4_addMoved_47 : decode cX4_addMoved 47 = .ok (.iload 8, 2) := by decide +kernel
theorem dX4_addMoved_49 : decode cX4_addMoved 49 = .ok (.invokevirtual 113, 3) := by decide +kernel
theorem dX4_addMoved_52 : decode cX4_addMoved 52 = .ok (.lload 6, 2) := by decide +kernel
theorem dX4_addMoved_54 : decode cX4_addMoved 54 = .ok (.land, 1) := by decide +kernel
theorem dX4_addMoved_55 : decode cX4_addMoved 55 = .ok (.iload 4, 2) := by decide +kernel
theorem dX4_addMoved_57 : decode cX4_addMoved 57 = .ok (.lshl, 1) := by decide +kernel
theorem dX4_addMoved_58 : decode cX4_addMoved 58 = .ok (.invokevirtual 117, 3) := by decide +kernel
theorem dX4_addMoved_61 : decode cX4_addMoved 61 = .ok (.iinc 8 1, 3) := by decide +kernel
theorem dX4_addMoved_64 : decode cX4_addMoved 64 = .ok (.goto (-40), 3) := by decide +kernel
theorem dX4_addMoved_67 : decode cX4_addMoved 67 = .ok (.return_, 1) := by decide +kernel
theorem dX4_addReduced_0 : decode cX4_addReduced 0 = .ok (.iload_n 3, 1) := by decide +kernel
theorem dX4_addReduced_1 : decode cX4_addReduced 1 = .ok (.bipush 63, 2) := by decide +kernel
theorem dX4_addReduced_3 : decode cX4_addReduced 3 = .ok (.iand, 1) := by decide +kernel
theorem dX4_addReduced_4 : decode cX4_addReduced 4 = .ok (.istore 4, 2) := by decide +kernel
theorem dX4_addReduced_6 : decode cX4_addReduced 6 = .ok (.iload_n 3, 1) := by decide +kernel
theorem dX4_addReduced_7 : decode cX4_addReduced 7 = .ok (.bipush 6, 2) := by decide +kernel
theorem dX4_addReduced_9 : decode cX4_addReduced 9 = .ok (.ishr, 1) := by decide +kernel
theorem dX4_addReduced_10 : decode cX4_addReduced 10 = .ok (.istore 5, 2) := by decide +kernel
theorem dX4_addReduced_12 : decode cX4_addReduced 12 = .ok (.aload_n 0, 1) := by decide +kernel
theorem dX4_addReduced_13 : decode cX4_addReduced 13 = .ok (.getfield 18, 3) := by decide +kernel
theorem dX4_addReduced_16 : decode cX4_addReduced 16 = .ok (.iload 4, 2) := by decide +kernel
theorem dX4_addReduced_18 : decode cX4_addReduced 18 = .ok (.laload, 1) := by decide +kernel
theorem dX4_addReduced_19 : decode cX4_addReduced 19 = .ok (.lstore 6, 2) := by decide +kernel
theorem dX4_addReduced_21 : decode cX4_addReduced 21 = .ok (.iconst 0, 1) := by decide +kernel
theorem dX4_addReduced_22 : decode cX4_addReduced 22 = .ok (.istore 8, 2) := by decide +kernel
theorem dX4_addReduced_24 : decode cX4_addReduced 24 = .ok (.iload 8, 2) := by decide +kernel
theorem dX4_addReduced_26 : decode cX4_addReduced 26 = .ok (.iconst 4, 1) := by decide +kernel
theorem dX4_addReduced_27 : decode cX4_addReduced 27 = .ok (.if_icmp .ge 40, 3) := by decide +kernel
theorem dX4_addReduced_30 : decode cX4_addReduced 30 = .ok (.iload 8, 2) := by decide +kernel
theorem dX4_addReduced_32 : decode cX4_addReduced 32 = .ok (.iload 5, 2) := by decide +kernel
theorem dX4_addReduced_34 : decode cX4_addReduced 34 = .ok (.iand, 1) := by decide +kernel
theorem dX4_addReduced_35 : decode cX4_addReduced 35 = .ok (.ifCond .ne 26, 3) := by decide +kernel
theorem dX4_addReduced_38 : decode cX4_addReduced 38 = .ok (.aload_n 0, 1) := by decide +kernel
theorem dX4_addReduced_39 : decode cX4_addReduced 39 = .ok (.iload_n 1, 1) := by decide +kernel
theorem dX4_addReduced_40 : decode cX4_addReduced 40 = .ok (.iload 8, 2) := by decide +kernel
theorem dX4_addReduced_42 : decode cX4_addReduced 42 = .ok (.aload_n 0, 1) := by decide +kernel
theorem dX4_addReduced_43 : decode cX4_addReduced 43 = .ok (.iload_n 2, 1) := by decide +kernel
theorem dX4_addReduced_44 : decode cX4_addReduced 44 = .ok (.iload 8, 2) := by decide +kernel
theorem dX4_addReduced_46 : decode cX4_addReduced 46 = .ok (.iload 5, 2) := by decide +kernel
theorem dX4_addReduced_48 : decode cX4_addReduced 48 = .ok (.ior, 1) := by decide +kernel
theorem dX4_addReduced_49 : decode cX4_addReduced 49 = .ok (.invokevirtual 113, 3) := by decide +kernel
theorem dX4_addReduced_52 : decode cX4_addReduced 52 = .ok (.iload 4, 2) := by decide +kernel
theorem dX4_addReduced_54 : decode cX4_addReduced 54 = .ok (.lushr, 1) := by decide +kernel
theorem dX4_addReduced_55 : decode cX4_addReduced 55 = .ok (.lload 6, 2) := by decide +kernel
theorem dX4_addReduced_57 : decode cX4_addReduced 57 = .ok (.land, 1) := by decide +kernel
theorem dX4_addReduced_58 : decode cX4_addReduced 58 = .ok (.invokevirtual 117, 3) := by decide +kernel
theorem dX4_addReduced_61 : decode cX4_addReduced 61 = .ok (.iinc 8 1, 3) := by decide +kernel
theorem dX4_addReduced_64 : decode cX4_addReduced 64 = .ok (.goto (-40), 3) := by decide +kernel
theorem dX4_addReduced_67 : decode cX4_addReduced 67 = .ok (.return_, 1) := by decide +kernel
theorem dX4_addShared_0 : decode cX4_addShared 0 = .ok (.iconst 0, 1) := by decide +kernel
theorem dX4_addShared_1 : decode cX4_addShared 1 = .ok (.istore 4, 2) := by decide +kernel
theorem dX4_addShared_3 : decode cX4_addShared 3 = .ok (.iload 4, 2) := by decide +kernel
theorem dX4_addShared_5 : decode cX4_addShared 5 = .ok (.iconst 4, 1) := by decide +kernel
theorem dX4_addShared_6 : decode cX4_addShared 6 = .ok (.if_icmp .ge 31, 3) := by decide +kernel
theorem dX4_addShared_9 : decode cX4_addShared 9 = .ok (.aload_n 0, 1) := by decide +kernel
theorem dX4_addShared_10 : decode cX4_addShared 10 = .ok (.iload_n 1, 1) := by decide +kernel
theorem dX4_addShared_11 : decode cX4_addShared 11 = .ok (.iload 4, 2) := by decide +kernel
theorem dX4_addShared_13 : decode cX4_addShared 13 = .ok (.aload_n 0, 1) := by decide +kernel
theorem dX4_addShared_14 : decode cX4_addShared 14 = .ok (.iload_n 2, 1) := by decide +kernel
theorem dX4_addShared_15 : decode cX4_addShared 15 = .ok (.iload 4, 2) := by decide +kernel
theorem dX4_addShared_17 : decode cX4_addShared 17 = .ok (.invokevirtual 113, 3) := by decide +kernel
theorem dX4_addShared_20 : decode cX4_addShared 20 = .ok (.aload_n 0, 1) := by decide +kernel
theorem dX4_addShared_21 : decode cX4_addShared 21 = .ok (.iload_n 3, 1) := by decide +kernel
theorem dX4_addShared_22 : decode cX4_addShared 22 = .ok (.iload 4, 2) := by decide +kernel
theorem dX4_addShared_24 : decode cX4_addShared 24 = .ok (.invokevirtual 113, 3) := by decide +kernel
theorem dX4_addShared_27 : decode cX4_addShared 27 = .ok (.land, 1) := by decide +kernel
theorem dX4_addShared_28 : decode cX4_addShared 28 = .ok (.invokevirtual 117, 3) := by decide +kernel
theorem dX4_addShared_31 : decode cX4_addShared 31 = .ok (.iinc 4 1, 3) := by decide +kernel
theorem dX4_addShared_34 : decode cX4_addShared 34 = .ok (.goto (-31), 3) := by decide +kernel
theorem dX4_addShared_37 : decode cX4_addShared 37 = .ok (.return_, 1) := by decide +kernel
theorem dX4_addAllSets_0 : decode cX4_addAllSets 0 = .ok (.iconst 0, 1) := by decide +kernel
theorem dX4_addAllSets_1 : decode cX4_addAllSets 1 = .ok (.istore_n 2, 1) := by decide +kernel
theorem dX4_addAllSets_2 : decode cX4_addAllSets 2 = .ok (.iload_n 2, 1) := by decide +kernel
theorem dX4_addAllSets_3 : decode cX4_addAllSets 3 = .ok (.iconst 4, 1) := by decide +kernel
theorem dX4_addAllSets_4 : decode cX4_addAllSets 4 = .ok (.if_icmp .ge 21, 3) := by decide +kernel
theorem dX4_addAllSets_7 : decode cX4_addAllSets 7 = .ok (.aload_n 0, 1) := by decide +kernel
theorem dX4_addAllSets_8 : decode cX4_addAllSets 8 = .ok (.iload_n 1, 1) := by decide +kernel
theorem dX4_addAllSets_9 : decode cX4_addAllSets 9 = .ok (.iload_n 2, 1) := by decide +kernel
theorem dX4_addAllSets_10 : decode cX4_addAllSets 10 = .ok (.aload_n 0, 1) := by decide +kernel
theorem dX4_addAllSets_11 : decode cX4_addAllSets 11 = .ok (.getfield 15, 3) := by decide +kernel
theorem dX4_addAllSets_14 : decode cX4_addAllSets 14 = .ok (.iload_n 2, 1) := by decide +kernel
theorem dX4_addAllSets_15 : decode cX4_addAllSets 15 = .ok (.laload, 1) := by decide +kernel
theorem dX4_addAllSets_16 : decode cX4_addAllSets 16 = .ok (.invokevirtual 117, 3) := by decide +kernel
theorem dX4_addAllSets_19 : decode cX4_addAllSets 19 = .ok (.iinc 2 1, 3) := by decide +kernel
theorem dX4_addAllSets_22 : decode cX4_addAllSets 22 = .ok (.goto (-20), 3) := by decide +kernel
theorem dX4_addAllSets_25 : decode cX4_addAllSets 25 = .ok (.return_, 1) := by decide +kernel
theorem dX4_add_0 : decode cX4_add 0 = .ok (.aload_n 0, 1) := by decide +kernel
theorem dX4_add_1 : decode cX4_add 1 = .ok (.iload_n 1, 1) := by decide +kernel
theorem dX4_add_2 : decode cX4_add 2 = .ok (.iload_n 2, 1) := by decide +kernel
theorem dX4_add_3 : decode cX4_add 3 = .ok (.bipush 6, 2) := by decide +kernel
theorem dX4_add_5 : decode cX4_add 5 = .ok (.ishr, 1) := by decide +kernel
theorem dX4_add_6 : decode cX4_add 6 = .ok (.lconst 1, 1) := by decide +kernel
theorem dX4_add_7 : decode cX4_add 7 = .ok (.iload_n 2, 1) := by decide +kernel
theorem dX4_add_8 : decode cX4_add 8 = .ok (.bipush 63, 2) := by decide +kernel
theorem dX4_add_10 : decode cX4_add 10 = .ok (.iand, 1) := by decide +kernel
theorem dX4_add_11 : decode cX4_add 11 = .ok (.lshl, 1) := by decide +kernel
theorem dX4_add_12 : decode cX4_add 12 = .ok (.invokevirtual 117, 3) := by decide +kernel
theorem dX4_add_15 : decode cX4_add 15 = .ok (.return_, 1) := by decide +kernel
theorem dX4_has_0 : decode cX4_has 0 = .ok (.aload_n 0, 1) := by decide +kernel
theorem dX4_has_1 : decode cX4_has 1 = .ok (.iload_n 1, 1) := by decide +kernel
theorem dX4_has_2 : decode cX4_has 2 = .ok (.iload_n 2, 1) := by decide +kernel
theorem dX4_has_3 : decode cX4_has 3 = .ok (.bipush 6, 2) := by decide +kernel
theorem dX4_has_5 : decode cX4_has 5 = .ok (.ishr, 1) := by decide +kernel
theorem dX4_has_6 : decode cX4_has 6 = .ok (.invokevirtual 113, 3) := by decide +kernel
theorem dX4_has_9 : decode cX4_has 9 = .ok (.iload_n 2, 1) := by decide +kernel
theorem dX4_has_10 : decode cX4_has 10 = .ok (.bipush 63, 2) := by decide +kernel
theorem dX4_has_12 : decode cX4_has 12 = .ok (.iand, 1) := by decide +kernel
theorem dX4_has_13 : decode cX4_has 13 = .ok (.lushr, 1) := by decide +kernel
theorem dX4_has_14 : decode cX4_has 14 = .ok (.lconst 1, 1) := by decide +kernel
theorem dX4_has_15 : decode cX4_has 15 = .ok (.land, 1) := by decide +kernel
theorem dX4_has_16 : decode cX4_has 16 = .ok (.lconst 0, 1) := by decide +kernel
theorem dX4_has_17 : decode cX4_has 17 = .ok (.lcmp, 1) := by decide +kernel
theorem dX4_has_18 : decode cX4_has 18 = .ok (.ifCond .eq 7, 3) := by decide +kernel
theorem dX4_has_21 : decode cX4_has 21 = .ok (.iconst 1, 1) := by decide +kernel
theorem dX4_has_22 : decode cX4_has 22 = .ok (.goto 4, 3) := by decide +kernel
theorem dX4_has_25 : decode cX4_has 25 = .ok (.iconst 0, 1) := by decide +kernel
theorem dX4_has_26 : decode cX4_has 26 = .ok (.ireturn, 1) := by decide +kernel
theorem dX4_hasGrown_0 : decode cX4_hasGrown 0 = .ok (.iload_n 1, 1) := by decide +kernel
theorem dX4_hasGrown_1 : decode cX4_hasGrown 1 = .ok (.iload_n 2, 1) := by decide +kernel
theorem dX4_hasGrown_2 : decode cX4_hasGrown 2 = .ok (.invokestatic 52, 3) := by decide +kernel
theorem dX4_hasGrown_5 : decode cX4_hasGrown 5 = .ok (.istore_n 3, 1) := by decide +kernel
theorem dX4_hasGrown_6 : decode cX4_hasGrown 6 = .ok (.iload_n 1, 1) := by decide +kernel
theorem dX4_hasGrown_7 : decode cX4_hasGrown 7 = .ok (.iload_n 2, 1) := by decide +kernel
theorem dX4_hasGrown_8 : decode cX4_hasGrown 8 = .ok (.iconst 1, 1) := by decide +kernel
theorem dX4_hasGrown_9 : decode cX4_hasGrown 9 = .ok (.isub, 1) := by decide +kernel
theorem dX4_hasGrown_10 : decode cX4_hasGrown 10 = .ok (.invokestatic 52, 3) := by decide +kernel
theorem dX4_hasGrown_13 : decode cX4_hasGrown 13 = .ok (.istore 4, 2) := by decide +kernel
theorem dX4_hasGrown_15 : decode cX4_hasGrown 15 = .ok (.iconst 0, 1) := by decide +kernel
theorem dX4_hasGrown_16 : decode cX4_hasGrown 16 = .ok (.istore 5, 2) := by decide +kernel
theorem dX4_hasGrown_18 : decode cX4_hasGrown 18 = .ok (.iload 5, 2) := by decide +kernel
theorem dX4_hasGrown_20 : decode cX4_hasGrown 20 = .ok (.iconst 4, 1) := by decide +kernel
theorem dX4_hasGrown_21 : decode cX4_hasGrown 21 = .ok (.if_icmp .ge 30, 3) := by decide +kernel
theorem dX4_hasGrown_24 : decode cX4_hasGrown 24 = .ok (.aload_n 0, 1) := by decide +kernel
theorem dX4_hasGrown_25 : decode cX4_hasGrown 25 = .ok (.iload_n 3, 1) := by decide +kernel
theorem dX4_hasGrown_26 : decode cX4_hasGrown 26 = .ok (.iload 5, 2) := by decide +kernel
theorem dX4_hasGrown_28 : decode cX4_hasGrown 28 = .ok (.invokevirtual 113, 3) := by decide +kernel
theorem dX4_hasGrown_31 : decode cX4_hasGrown 31 = .ok (.aload_n 0, 1) := by decide +kernel
theorem dX4_hasGrown_32 : decode cX4_hasGrown 32 = .ok (.iload 4, 2) := by decide +kernel
theorem dX4_hasGrown_34 : decode cX4_hasGrown 34 = .ok (.iload 5, 2) := by decide +kernel
theorem dX4_hasGrown_36 : decode cX4_hasGrown 36 = .ok (.invokevirtual 113, 3) := by decide +kernel
theorem dX4_hasGrown_39 : decode cX4_hasGrown 39 = .ok (.lcmp, 1) := by decide +kernel
theorem dX4_hasGrown_40 : decode cX4_hasGrown 40 = .ok (.ifCond .eq 5, 3) := by decide +kernel
theorem dX4_hasGrown_43 : decode cX4_hasGrown 43 = .ok (.iconst 1, 1) := by decide +kernel
theorem dX4_hasGrown_44 : decode cX4_hasGrown 44 = .ok (.ireturn, 1) := by decide +kernel
theorem dX4_hasGrown_45 : decode cX4_hasGrown 45 = .ok (.iinc 5 1, 3) := by decide +kernel
theorem dX4_hasGrown_48 : decode cX4_hasGrown 48 = .ok (.goto (-30), 3) := by decide +kernel
theorem dX4_hasGrown_51 : decode cX4_hasGrown 51 = .ok (.iconst 0, 1) := by decide +kernel
theorem dX4_hasGrown_52 : decode cX4_hasGrown 52 = .ok (.ireturn, 1) := by decide +kernel
theorem dX4_clearRow_0 : decode cX4_clearRow 0 = .ok (.iconst 0, 1) := by decide +kernel
theorem dX4_clearRow_1 : decode cX4_clearRow 1 = .ok (.istore_n 2, 1) := by decide +kernel
theorem dX4_clearRow_2 : decode cX4_clearRow 2 = .ok (.iload_n 2, 1) := by decide +kernel
theorem dX4_clearRow_3 : decode cX4_clearRow 3 = .ok (.iconst 4, 1) := by decide +kernel
theorem dX4_clearRow_4 : decode cX4_clearRow 4 = .ok (.if_icmp .ge 33, 3) := by decide +kernel
theorem dX4_clearRow_7 : decode cX4_clearRow 7 = .ok (.iload_n 1, 1) := by decide +kernel
theorem dX4_clearRow_8 : decode cX4_clearRow 8 = .ok (.ifCond .lt 23, 3) := by decide +kernel
theorem dX4_clearRow_11 : decode cX4_clearRow 11 = .ok (.iload_n 1, 1) := by decide +kernel
theorem dX4_clearRow_12 : decode cX4_clearRow 12 = .ok (.iload_n 2, 1) := by decide +kernel
theorem dX4_clearRow_13 : decode cX4_clearRow 13 = .ok (.iadd, 1) := by decide +kernel
theorem dX4_clearRow_14 : decode cX4_clearRow 14 = .ok (.aload_n 0, 1) := by decide +kernel
theorem dX4_clearRow_15 : decode cX4_clearRow 15 = .ok (.getfield 11, 3) := by decide +kernel
theorem dX4_clearRow_18 : decode cX4_clearRow 18 = .ok (.arraylength, 1) := by decide +kernel
theorem dX4_clearRow_19 : decode cX4_clearRow 19 = .ok (.if_icmp .ge 12, 3) := by decide +kernel
theorem dX4_clearRow_22 : decode cX4_clearRow 22 = .ok (.aload_n 0, 1) := by decide +kernel
theorem dX4_clearRow_23 : decode cX4_clearRow 23 = .ok (.getfield 11, 3) := by decide +kernel
theorem dX4_clearRow_26 : decode cX4_clearRow 26 = .ok (.iload_n 1, 1) := by decide +kernel
theorem dX4_clearRow_27 : decode cX4_clearRow 27 = .ok (.iload_n 2, 1) := by decide +kernel
theorem dX4_clearRow_28 : decode cX4_clearRow 28 = .ok (.iadd, 1) := by decide +kernel
theorem dX4_clearRow_29 : decode cX4_clearRow 29 = .ok (.lconst 0, 1) := by decide +kernel
theorem dX4_clearRow_30 : decode cX4_clearRow 30 = .ok (.lastore, 1) := by decide +kernel
theorem dX4_clearRow_31 : decode cX4_clearRow 31 = .ok (.iinc 2 1, 3) := by decide +kernel
theorem dX4_clearRow_34 : decode cX4_clearRow 34 = .ok (.goto (-32), 3) := by decide +kernel
theorem dX4_clearRow_37 : decode cX4_clearRow 37 = .ok (.return_, 1) := by decide +kernel
theorem dX4_wordAt_0 : decode cX4_wordAt 0 = .ok (.iload_n 1, 1) := by decide +kernel
theorem dX4_wordAt_1 : decode cX4_wordAt 1 = .ok (.ifCond .lt 29, 3) := by decide +kernel
theorem dX4_wordAt_4 : decode cX4_wordAt 4 = .ok (.iload_n 2, 1) := by decide +kernel
theorem dX4_wordAt_5 : decode cX4_wordAt 5 = .ok (.ifCond .lt 25, 3) := by decide +kernel
theorem dX4_wordAt_8 : decode cX4_wordAt 8 = .ok (.iload_n 1, 1) := by decide +kernel
theorem dX4_wordAt_9 : decode cX4_wordAt 9 = .ok (.iload_n 2, 1) := by decide +kernel
theorem dX4_wordAt_10 : decode cX4_wordAt 10 = .ok (.iadd, 1) := by decide +kernel
theorem dX4_wordAt_11 : decode cX4_wordAt 11 = .ok (.aload_n 0, 1) := by decide +kernel
theorem dX4_wordAt_12 : decode cX4_wordAt 12 = .ok (.getfield 11, 3) := by decide +kernel
theorem dX4_wordAt_15 : decode cX4_wordAt 15 = .ok (.arraylength, 1) := by decide +kernel
theorem dX4_wordAt_16 : decode cX4_wordAt 16 = .ok (.if_icmp .ge 14, 3) := by decide +kernel
theorem dX4_wordAt_19 : decode cX4_wordAt 19 = .ok (.aload_n 0, 1) := by decide +kernel
theorem dX4_wordAt_20 : decode cX4_wordAt 20 = .ok (.getfield 11, 3) := by decide +kernel
theorem dX4_wordAt_23 : decode cX4_wordAt 23 = .ok (.iload_n 1, 1) := by decide +kernel
theorem dX4_wordAt_24 : decode cX4_wordAt 24 = .ok (.iload_n 2, 1) := by decide +kernel
theorem dX4_wordAt_25 : decode cX4_wordAt 25 = .ok (.iadd, 1) := by decide +kernel
theorem dX4_wordAt_26 : decode cX4_wordAt 26 = .ok (.laload, 1) := by decide +kernel
theorem dX4_wordAt_27 : decode cX4_wordAt 27 = .ok (.goto 4, 3) := by decide +kernel
theorem dX4_wordAt_30 : decode cX4_wordAt 30 = .ok (.lconst 0, 1) := by decide +kernel
theorem dX4_wordAt_31 : decode cX4_wordAt 31 = .ok (.lreturn, 1) := by decide +kernel
theorem dX4_orWord_0 : decode cX4_orWord 0 = .ok (.iload_n 1, 1) := by decide +kernel
theorem dX4_orWord_1 : decode cX4_orWord 1 = .ok (.ifCond .lt 30, 3) := by decide +kernel
theorem dX4_orWord_4 : decode cX4_orWord 4 = .ok (.iload_n 2, 1) := by decide +kernel
theorem dX4_orWord_5 : decode cX4_orWord 5 = .ok (.ifCond .lt 26, 3) := by decide +kernel
theorem dX4_orWord_8 : decode cX4_orWord 8 = .ok (.iload_n 1, 1) := by decide +kernel
theorem dX4_orWord_9 : decode cX4_orWord 9 = .ok (.iload_n 2, 1) := by decide +kernel
theorem dX4_orWord_10 : decode cX4_orWord 10 = .ok (.iadd, 1) := by decide +kernel
theorem dX4_orWord_11 : decode cX4_orWord 11 = .ok (.aload_n 0, 1) := by decide +kernel
theorem dX4_orWord_12 : decode cX4_orWord 12 = .ok (.getfield 11, 3) := by decide +kernel
theorem dX4_orWord_15 : decode cX4_orWord 15 = .ok (.arraylength, 1) := by decide +kernel
theorem dX4_orWord_16 : decode cX4_orWord 16 = .ok (.if_icmp .ge 15, 3) := by decide +kernel
theorem dX4_orWord_19 : decode cX4_orWord 19 = .ok (.aload_n 0, 1) := by decide +kernel
theorem dX4_orWord_20 : decode cX4_orWord 20 = .ok (.getfield 11, 3) := by decide +kernel
theorem dX4_orWord_23 : decode cX4_orWord 23 = .ok (.iload_n 1, 1) := by decide +kernel
theorem dX4_orWord_24 : decode cX4_orWord 24 = .ok (.iload_n 2, 1) := by decide +kernel
theorem dX4_orWord_25 : decode cX4_orWord 25 = .ok (.iadd, 1) := by decide +kernel
theorem dX4_orWord_26 : decode cX4_orWord 26 = .ok (.dup2, 1) := by decide +kernel
theorem dX4_orWord_27 : decode cX4_orWord 27 = .ok (.laload, 1) := by decide +kernel
theorem dX4_orWord_28 : decode cX4_orWord 28 = .ok (.lload_n 3, 1) := by decide +kernel
theorem dX4_orWord_29 : decode cX4_orWord 29 = .ok (.lor, 1) := by decide +kernel
theorem dX4_orWord_30 : decode cX4_orWord 30 = .ok (.lastore, 1) := by decide +kernel
theorem dX4_orWord_31 : decode cX4_orWord 31 = .ok (.return_, 1) := by decide +kernel
theorem dX4_rowOf_0 : decode cX4_rowOf 0 = .ok (.iload_n 0, 1) := by decide +kernel
theorem dX4_rowOf_1 : decode cX4_rowOf 1 = .ok (.ifCond .lt 20, 3) := by decide +kernel
theorem dX4_rowOf_4 : decode cX4_rowOf 4 = .ok (.iload_n 0, 1) := by decide +kernel
theorem dX4_rowOf_5 : decode cX4_rowOf 5 = .ok (.bipush 60, 2) := by decide +kernel
theorem dX4_rowOf_7 : decode cX4_rowOf 7 = .ok (.if_icmp .ge 14, 3) := by decide +kernel
theorem dX4_rowOf_10 : decode cX4_rowOf 10 = .ok (.iload_n 1, 1) := by decide +kernel
theorem dX4_rowOf_11 : decode cX4_rowOf 11 = .ok (.bipush 60, 2) := by decide +kernel
theorem dX4_rowOf_13 : decode cX4_rowOf 13 = .ok (.imul, 1) := by decide +kernel
theorem dX4_rowOf_14 : decode cX4_rowOf 14 = .ok (.iload_n 0, 1) := by decide +kernel
theorem dX4_rowOf_15 : decode cX4_rowOf 15 = .ok (.iadd, 1) := by decide +kernel
theorem dX4_rowOf_16 : decode cX4_rowOf 16 = .ok (.iconst 4, 1) := by decide +kernel
theorem dX4_rowOf_17 : decode cX4_rowOf 17 = .ok (.imul, 1) := by decide +kernel
theorem dX4_rowOf_18 : decode cX4_rowOf 18 = .ok (.goto 4, 3) := by decide +kernel
theorem dX4_rowOf_21 : decode cX4_rowOf 21 = .ok (.iconst (-1), 1) := by decide +kernel
theorem dX4_rowOf_22 : decode cX4_rowOf 22 = .ok (.ireturn, 1) := by decide +kernel
theorem dX5_init_0 : decode cX5_init 0 = .ok (.aload_n 0, 1) := by decide +kernel
theorem dX5_init_1 : decode cX5_init 1 = .ok (.invokespecial 3, 3) := by decide +kernel
theorem dX5_init_4 : decode cX5_init 4 = .ok (.aload_n 0, 1) := by decide +kernel
theorem dX5_init_5 : decode cX5_init 5 = .ok (.iconst 0, 1) := by decide +kernel
theorem dX5_init_6 : decode cX5_init 6 = .ok (.putfield 9, 3) := by decide +kernel
theorem dX5_init_9 : decode cX5_init 9 = .ok (.aload_n 0, 1) := by decide +kernel
theorem dX5_init_10 : decode cX5_init 10 = .ok (.bipush (-6), 2) := by decide +kernel
theorem dX5_init_12 : decode cX5_init 12 = .ok (.putfield 15, 3) := by decide +kernel
theorem dX5_init_15 : decode cX5_init 15 = .ok (.aload_n 0, 1) := by decide +kernel
theorem dX5_init_16 : decode cX5_init 16 = .ok (.aload_n 1, 1) := by decide +kernel
theorem dX5_init_17 : decode cX5_init 17 = .ok (.putfield 18, 3) := by decide +kernel
theorem dX5_init_20 : decode cX5_init 20 = .ok (.aload_n 0, 1) := by decide +kernel
theorem dX5_init_21 : decode cX5_init 21 = .ok (.aload_n 2, 1) := by decide +kernel
theorem dX5_init_22 : decode cX5_init 22 = .ok (.putfield 22, 3) := by decide +kernel
theorem dX5_init_25 : decode cX5_init 25 = .ok (.return_, 1) := by decide +kernel
theorem dX5_readWholeGoal_0 : decode cX5_readWholeGoal 0 = .ok (.aload_n 0, 1) := by decide +kernel
theorem dX5_readWholeGoal_1 : decode cX5_readWholeGoal 1 = .ok (.iconst 1, 1) := by decide +kernel
theorem dX5_readWholeGoal_2 : decode cX5_readWholeGoal 2 = .ok (.invokevirtual 26, 3) := by decide +kernel
theorem dX5_readWholeGoal_5 : decode cX5_readWholeGoal 5 = .ok (.istore_n 1, 1) := by decide +kernel
theorem dX5_readWholeGoal_6 : decode cX5_readWholeGoal 6 = .ok (.aload_n 0, 1) := by decide +kernel
theorem dX5_readWholeGoal_7 : decode cX5_readWholeGoal 7 = .ok (.invokevirtual 30, 3) := by decide +kernel
theorem dX5_readWholeGoal_10 : decode cX5_readWholeGoal 10 = .ok (.iload_n 1, 1) := by decide +kernel
theorem dX5_readWholeGoal_11 : decode cX5_readWholeGoal 11 = .ok (.ireturn, 1) := by decide +kernel
theorem dX5_readWholeOffer_0 : decode cX5_readWholeOffer 0 = .ok (.aload_n 0, 1) := by decide +kernel
theorem dX5_readWholeOffer_1 : decode cX5_readWholeOffer 1 = .ok (.iload_n 1, 1) := by decide +kernel
theorem dX5_readWholeOffer_2 : decode cX5_readWholeOffer 2 = .ok (.iconst 1, 1) := by decide +kernel
theorem dX5_readWholeOffer_3 : decode cX5_readWholeOffer 3 = .ok (.invokevirtual 33, 3) := by decide +kernel
theorem dX5_readWholeOffer_6 : decode cX5_readWholeOffer 6 = .ok (.aload_n 0, 1) := by decide +kernel
theorem dX5_readWholeOffer_7 : decode cX5_readWholeOffer 7 = .ok (.invokevirtual 30, 3) := by decide +kernel
theorem dX5_readWholeOffer_10 : decode cX5_readWholeOffer 10 = .ok (.return_, 1) := by decide +kernel
theorem dX5_failed_0 : decode cX5_failed 0 = .ok (.aload_n 0, 1) := by decide +kernel
theorem dX5_failed_1 : decode cX5_failed 1 = .ok (.getfield 15, 3) := by decide +kernel
theorem dX5_failed_4 : decode cX5_failed 4 = .ok (.bipush (-6), 2) := by decide +kernel
theorem dX5_failed_6 : decode cX5_failed 6 = .ok (.if_icmp .eq 7, 3) := by decide +kernel
theorem dX5_failed_9 : decode cX5_failed 9 = .ok (.iconst 1, 1) := by decide +kernel
theorem dX5_failed_10 : decode cX5_failed 10 = .ok (.goto 4, 3) := by decide +kernel
theorem dX5_failed_13 : decode cX5_failed 13 = .ok (.iconst 0, 1) := by decide +kernel
theorem dX5_failed_14 : decode cX5_failed 14 = .ok (.ireturn, 1) := by decide +kernel
theorem dX5_faultPlace_0 : decode cX5_faultPlace 0 = .ok (.aload_n 0, 1) := by decide +kernel
theorem dX5_faultPlace_1 : decode cX5_faultPlace 1 = .ok (.getfield 15, 3) := by decide +kernel
theorem dX5_faultPlace_4 : decode cX5_faultPlace 4 = .ok (.ireturn, 1) := by decide +kernel
theorem dX5_readGoal_0 : decode cX5_readGoal 0 = .ok (.aload_n 0, 1) := by decide +kernel
theorem dX5_readGoal_1 : decode cX5_readGoal 1 = .ok (.invokevirtual 37, 3) := by decide +kernel
theorem dX5_readGoal_4 : decode cX5_readGoal 4 = .ok (.istore_n 2, 1) := by decide +kernel
theorem dX5_readGoal_5 : decode cX5_readGoal 5 = .ok (.iload_n 1, 1) := by decide +kernel
theorem dX5_readGoal_6 : decode cX5_readGoal 6 = .ok (.bipush 60, 2) := by decide +kernel
theorem dX5_readGoal_8 : decode cX5_readGoal 8 = .ok (.if_icmp .le 8, 3) := by decide +kernel
theorem dX5_readGoal_11 : decode cX5_readGoal 11 = .ok (.aload_n 0, 1) := by decide +kernel
theorem dX5_readGoal_12 : decode cX5_readGoal 12 = .ok (.invokevirtual 41, 3) := by decide +kernel
theorem dX5_readGoal_15 : decode cX5_readGoal 15 = .ok (.ireturn, 1) := by decide +kernel
theorem dX5_readGoal_16 : decode cX5_readGoal 16 = .ok (.iload_n 2, 1) := by decide +kernel
theorem dX5_readGoal_17 : decode cX5_readGoal 17 = .ok (.invokestatic 45, 3) := by decide +kernel
theorem dX5_readGoal_20 : decode cX5_readGoal 20 = .ok (.ifCond .eq 24, 3) := by decide +kernel
theorem dX5_readGoal_23 : decode cX5_readGoal 23 = .ok (.aload_n 0, 1) := by decide +kernel
theorem dX5_readGoal_24 : decode cX5_readGoal 24 = .ok (.dup, 1) := by decide +kernel
theorem dX5_readGoal_25 : decode cX5_readGoal 25 = .ok (.getfield 9, 3) := by decide +kernel
theorem dX5_readGoal_28 : decode cX5_readGoal 28 = .ok (.iconst 1, 1) := by decide +kernel
theorem dX5_readGoal_29 : decode cX5_readGoal 29 = .ok (.iadd, 1) := by decide +kernel
theorem dX5_readGoal_30 : decode cX5_readGoal 30 = .ok (.putfield 9, 3) := by decide +kernel
theorem dX5_readGoal_33 : decode cX5_readGoal 33 = .ok (.aload_n 0, 1) := by decide +kernel
theorem dX5_readGoal_34 : decode cX5_readGoal 34 = .ok (.getfield 22, 3) := by decide +kernel
theorem dX5_readGoal_37 : decode cX5_readGoal 37 = .ok (.iload_n 2, 1) := by decide +kernel
theorem dX5_readGoal_38 : decode cX5_readGoal 38 = .ok (.iconst (-1), 1) := by decide +kernel
theorem dX5_readGoal_39 : decode cX5_readGoal 39 = .ok (.iconst (-1), 1) := by decide +kernel
theorem dX5_readGoal_40 : decode cX5_readGoal 40 = .ok (.invokevirtual 49, 3) := by decide +kernel
theorem dX5_readGoal_43 : decode cX5_readGoal 43 = .ok (.ireturn, 1) := by decide +kernel
theorem dX5_readGoal_44 : decode cX5_readGoal 44 = .ok (.iload_n 2, 1) := by decide +kernel
theorem dX5_readGoal_45 : decode cX5_readGoal 45 = .ok (.lookupswitch 111 #[(33, 72), (40, 99), (49, 51), (84, 51), (91, 105)], 51) := by decide +kernel
theorem dX5_readGoal_96 : decode cX5_readGoal 96 = .ok (.aload_n 0, 1) := by decide +kernel
theorem dX5_readGoal_97 : decode cX5_readGoal 97 = .ok (.dup, 1) := by decide +kernel
theorem dX5_readGoal_98 : decode cX5_readGoal 98 = .ok (.getfield 9, 3) := by decide +kernel
theorem dX5_readGoal_101 : decode cX5_readGoal 101 = .ok (.iconst 1, 1) := by decide +kernel
theorem dX5_readGoal_102 : decode cX5_readGoal 102 = .ok (.iadd, 1) := by decide +kernel
theorem dX5_readGoal_103 : decode cX5_readGoal 103 = .ok (.putfield 9, 3) := by decide +kernel
theorem dX5_readGoal_106 : decode cX5_readGoal 106 = .ok (.aload_n 0, 1) := by decide +kernel
theorem dX5_readGoal_107 : decode cX5_readGoal 107 = .ok (.getfield 22, 3) := by decide +kernel
theorem dX5_readGoal_110 : decode cX5_readGoal 110 = .ok (.iload_n 2, 1) := by decide +kernel
theorem dX5_readGoal_111 : decode cX5_readGoal 111 = .ok (.iconst (-1), 1) := by decide +kernel
theorem dX5_readGoal_112 : decode cX5_readGoal 112 = .ok (.iconst (-1), 1) := by decide +kernel
theorem dX5_readGoal_113 : decode cX5_readGoal 113 = .ok (.invokevirtual 49, 3) := by decide +kernel
theorem dX5_readGoal_116 : decode cX5_readGoal 116 = .ok (.ireturn, 1) := by decide +kernel
theorem dX5_readGoal_117 : decode cX5_readGoal 117 = .ok (.aload_n 0, 1) := by decide +kernel
theorem dX5_readGoal_118 : decode cX5_readGoal 118 = .ok (.dup, 1) := by decide +kernel
theorem dX5_readGoal_119 : decode cX5_readGoal 119 = .ok (.getfield 9, 3) := by decide +kernel
theorem dX5_readGoal_122 : decode cX5_readGoal 122 = .ok (.iconst 1, 1) := by decide +kernel
theorem dX5_readGoal_123 : decode cX5_readGoal 123 = .ok (.iadd, 1) := by decide +kernel
theorem dX5_readGoal_124 : decode cX5_readGoal 124 = .ok (.putfield 9, 3) := by decide +kernel
theorem dX5_readGoal_127 : decode cX5_readGoal 127 = .ok (.aload_n 0, 1) := by decide +kernel
theorem dX5_readGoal_128 : decode cX5_readGoal 128 = .ok (.getfield 22, 3) := by decide +kernel
theorem dX5_readGoal_131 : decode cX5_readGoal 131 = .ok (.iload_n 2, 1) := by decide +kernel
theorem dX5_readGoal_132 : decode cX5_readGoal 132 = .ok (.aload_n 0, 1) := by decide +kernel
theorem dX5_readGoal_133 : decode cX5_readGoal 133 = .ok (.iload_n 1, 1) := by decide +kernel
theorem dX5_readGoal_134 : decode cX5_readGoal 134 = .ok (.iconst 1, 1) := by decide +kernel
theorem dX5_readGoal_135 : decode cX5_readGoal 135 = .ok (.iadd, 1) := by decide +kernel
theorem dX5_readGoal_136 : decode cX5_readGoal 136 = .ok (.invokevirtual 26, 3) := by decide +kernel
theorem dX5_readGoal_139 : decode cX5_readGoal 139 = .ok (.iconst (-1), 1) := by decide +kernel
theorem dX5_readGoal_140 : decode cX5_readGoal 140 = .ok (.invokevirtual 49, 3) := by decide +kernel
theorem dX5_readGoal_143 : decode cX5_readGoal 143 = .ok (.ireturn, 1) := by decide +kernel
theorem dX5_readGoal_144 : decode cX5_readGoal 144 = .ok (.aload_n 0, 1) := by decide +kernel
theorem dX5_readGoal_145 : decode cX5_readGoal 145 = .ok (.iload_n 1, 1) := by decide +kernel
theorem dX5_readGoal_146 : decode cX5_readGoal 146 = .ok (.invokevirtual 55, 3) := by decide +kernel
theorem dX5_readGoal_149 : decode cX5_readGoal 149 = .ok (.ireturn, 1) := by decide +kernel
theorem dX5_readGoal_150 : decode cX5_readGoal 150 = .ok (.aload_n 0, 1) := by decide +kernel
theorem dX5_readGoal_151 : decode cX5_readGoal 151 = .ok (.iload_n 1, 1) := by decide +kernel
theorem dX5_readGoal_152 : decode cX5_readGoal 152 = .ok (.invokevirtual 58, 3) := by decide +kernel
theorem dX5_readGoal_155 : decode cX5_readGoal 155 = .ok (.ireturn, 1) := by decide +kernel
theorem dX5_readGoal_156 : decode cX5_readGoal 156 = .ok (.aload_n 0, 1) := by decide +kernel
theorem dX5_readGoal_157 : decode cX5_readGoal 157 = .ok (.invokevirtual 41, 3) := by decide +kernel
theorem dX5_readGoal_160 : decode cX5_readGoal 160 = .ok (.ireturn, 1) := by decide +kernel
theorem dX5_readPair_0 : decode cX5_readPair 0 = .ok (.aload_n 0, 1) := by decide +kernel
theorem dX5_readPair_1 : decode cX5_readPair 1 = .ok (.bipush 40, 2) := by decide +kernel
theorem dX5_readPair_3 : decode cX5_readPair 3 = .ok (.invokevirtual 61, 3) := by decide +kernel
theorem dX5_readPair_6 : decode cX5_readPair 6 = .ok (.aload_n 0, 1) := by decide +kernel
theorem dX5_readPair_7 : decode cX5_readPair 7 = .ok (.iload_n 1, 1) := by decide +kernel
theorem dX5_readPair_8 : decode cX5_readPair 8 = .ok (.iconst 1, 1) := by decide +kernel
theorem dX5_readPair_9 : decode cX5_readPair 9 = .ok (.iadd, 1) := by decide +kernel
theorem dX5_readPair_10 : decode cX5_readPair 10 = .ok (.invokevirtual 26, 3) := by decide +kernel
theorem dX5_readPair_13 : decode cX5_readPair 13 = .ok (.istore_n 2, 1) := by decide +kernel
theorem dX5_readPair_14 : decode cX5_readPair 14 = .ok (.aload_n 0, 1) := by decide +kernel
theorem dX5_readPair_15 : decode cX5_readPair 15 = .ok (.invokevirtual 37, 3) := by decide +kernel
theorem dX5_readPair_18 : decode cX5_readPair 18 = .ok (.istore_n 3, 1) := by decide +kernel
theorem dX5_readPair_19 : decode cX5_readPair 19 = .ok (.iload_n 3, 1) := by decide +kernel
theorem dX5_readPair_20 : decode cX5_readPair 20 = .ok (.bipush 42, 2) := by decide +kernel
theorem dX5_readPair_22 : decode cX5_readPair 22 = .ok (.if_icmp .eq 20, 3) := by decide +kernel
theorem dX5_readPair_25 : decode cX5_readPair 25 = .ok (.iload_n 3, 1) := by decide +kernel
theorem dX5_readPair_26 : decode cX5_readPair 26 = .ok (.bipush 38, 2) := by decide +kernel
theorem dX5_readPair_28 : decode cX5_readPair 28 = .ok (.if_icmp .eq 14, 3) := by decide +kernel
theorem dX5_readPair_31 : decode cX5_readPair 31 = .ok (.iload_n 3, 1) := by decide +kernel
theorem dX5_readPair_32 : decode cX5_readPair 32 = .ok (.bipush 43, 2) := by decide +kernel
theorem dX5_readPair_34 : decode cX5_readPair 34 = .ok (.if_icmp .eq 8, 3) := by decide +kernel
theorem dX5_readPair_37 : decode cX5_readPair 37 = .ok (.aload_n 0, 1) := by decide +kernel
theorem dX5_readPair_38 : decode cX5_readPair 38 = .ok (.invokevirtual 41, 3) := by decide +kernel
theorem dX5_readPair_41 : decode cX5_readPair 41 = .ok (.ireturn, 1) := by decide +kernel
theorem dX5_readPair_42 : decode cX5_readPair 42 = .ok (.aload_n 0, 1) := by decide +kernel
theorem dX5_readPair_43 : decode cX5_readPair 43 = .ok (.dup, 1) := by decide +kernel
theorem dX5_readPair_44 : decode cX5_readPair 44 = .ok (.getfield 9, 3) := by decide +kernel
theorem dX5_readPair_47 : decode cX5_readPair 47 = .ok (.iconst 1, 1) := by decide +kernel
theorem dX5_readPair_48 : decode cX5_readPair 48 = .ok (.iadd, 1) := by decide +kernel
theorem dX5_readPair_49 : decode cX5_readPair 49 = .ok (.putfield 9, 3) := by decide +kernel
theorem dX5_readPair_52 : decode cX5_readPair 52 = .ok (.aload_n 0, 1) := by decide +kernel
theorem dX5_readPair_53 : decode cX5_readPair 53 = .ok (.iload_n 1, 1) := by decide +kernel
theorem dX5_readPair_54 : decode cX5_readPair 54 = .ok (.iconst 1, 1) := by decide +kernel
theorem dX5_readPair_55 : decode cX5_readPair 55 = .ok (.iadd, 1) := by decide +kernel
theorem dX5_readPair_56 : decode cX5_readPair 56 = .ok (.invokevirtual 26, 3) := by decide +kernel
theorem dX5_readPair_59 : decode cX5_readPair 59 = .ok (.istore 4, 2) := by decide +kernel
theorem dX5_readPair_61 : decode cX5_readPair 61 = .ok (.aload_n 0, 1) := by decide +kernel
theorem dX5_readPair_62 : decode cX5_readPair 62 = .ok (.bipush 41, 2) := by decide +kernel
theorem dX5_readPair_64 : decode cX5_readPair 64 = .ok (.invokevirtual 61, 3) := by decide +kernel
theorem dX5_readPair_67 : decode cX5_readPair 67 = .ok (.aload_n 0, 1) := by decide +kernel
theorem dX5_readPair_68 : decode cX5_readPair 68 = .ok (.getfield 22, 3) := by decide +kernel
theorem dX5_readPair_71 : decode cX5_readPair 71 = .ok (.iload_n 3, 1) := by decide +kernel
theorem dX5_readPair_72 : decode cX5_readPair 72 = .ok (.iload_n 2, 1) := by decide +kernel
theorem dX5_readPair_73 : decode cX5_readPair 73 = .ok (.iload 4, 2) := by decide +kernel
theorem dX5_readPair_75 : decode cX5_readPair 75 = .ok (.invokevirtual 49, 3) := by decide +kernel
theorem dX5_readPair_78 : decode cX5_readPair 78 = .ok (.ireturn, 1) := by decide +kernel
theorem dX5_readLoan_0 : decode cX5_readLoan 0 = .ok (.aload_n 0, 1) := by decide +kernel
theorem dX5_readLoan_1 : decode cX5_readLoan 1 = .ok (.bipush 91, 2) := by decide +kernel
theorem dX5_readLoan_3 : decode cX5_readLoan 3 = .ok (.invokevirtual 61, 3) := by decide +kernel
theorem dX5_readLoan_6 : decode cX5_readLoan 6 = .ok (.aload_n 0, 1) := by decide +kernel
theorem dX5_readLoan_7 : decode cX5_readLoan 7 = .ok (.getfield 22, 3) := by decide +kernel
theorem dX5_readLoan_10 : decode cX5_readLoan 10 = .ok (.invokevirtual 65, 3) := by decide +kernel
theorem dX5_readLoan_13 : decode cX5_readLoan 13 = .ok (.istore_n 2, 1) := by decide +kernel
theorem dX5_readLoan_14 : decode cX5_readLoan 14 = .ok (.aload_n 0, 1) := by decide +kernel
theorem dX5_readLoan_15 : decode cX5_readLoan 15 = .ok (.iload_n 2, 1) := by decide +kernel
theorem dX5_readLoan_16 : decode cX5_readLoan 16 = .ok (.iload_n 1, 1) := by decide +kernel
theorem dX5_readLoan_17 : decode cX5_readLoan 17 = .ok (.invokevirtual 33, 3) := by decide +kernel
theorem dX5_readLoan_20 : decode cX5_readLoan 20 = .ok (.aload_n 0, 1) := by decide +kernel
theorem dX5_readLoan_21 : decode cX5_readLoan 21 = .ok (.bipush 93, 2) := by decide +kernel
theorem dX5_readLoan_23 : decode cX5_readLoan 23 = .ok (.invokevirtual 61, 3) := by decide +kernel
theorem dX5_readLoan_26 : decode cX5_readLoan 26 = .ok (.aload_n 0, 1) := by decide +kernel
theorem dX5_readLoan_27 : decode cX5_readLoan 27 = .ok (.getfield 22, 3) := by decide +kernel
theorem dX5_readLoan_30 : decode cX5_readLoan 30 = .ok (.bipush 91, 2) := by decide +kernel
theorem dX5_readLoan_32 : decode cX5_readLoan 32 = .ok (.aload_n 0, 1) := by decide +kernel
theorem dX5_readLoan_33 : decode cX5_readLoan 33 = .ok (.iload_n 1, 1) := by decide +kernel
theorem dX5_readLoan_34 : decode cX5_readLoan 34 = .ok (.iconst 1, 1) := by decide +kernel
theorem dX5_readLoan_35 : decode cX5_readLoan 35 = .ok (.iadd, 1) := by decide +kernel
theorem dX5_readLoan_36 : decode cX5_readLoan 36 = .ok (.invokevirtual 26, 3) := by decide +kernel
theorem dX5_readLoan_39 : decode cX5_readLoan 39 = .ok (.iload_n 2, 1) := by decide +kernel
theorem dX5_readLoan_40 : decode cX5_readLoan 40 = .ok (.invokevirtual 49, 3) := by decide +kernel
theorem dX5_readLoan_43 : decode cX5_readLoan 43 = .ok (.ireturn, 1) := by decide +kernel
theorem dX5_readOffer_0 : decode cX5_readOffer 0 = .ok (.aload_n 0, 1) := by decide +kernel
theorem dX5_readOffer_1 : decode cX5_readOffer 1 = .ok (.iload_n 1, 1) := by decide +kernel
theorem dX5_readOffer_2 : decode cX5_readOffer 2 = .ok (.iconst 0, 1) := by decide +kernel
theorem dX5_readOffer_3 : decode cX5_readOffer 3 = .ok (.iload_n 2, 1) := by decide +kernel
theorem dX5_readOffer_4 : decode cX5_readOffer 4 = .ok (.invokevirtual 68, 3) := by decide +kernel
theorem dX5_readOffer_7 : decode cX5_readOffer 7 = .ok (.iconst 1, 1) := by decide +kernel
theorem dX5_readOffer_8 : decode cX5_readOffer 8 = .ok (.istore_n 3, 1) := by decide +kernel
theorem dX5_readOffer_9 : decode cX5_readOffer 9 = .ok (.iload_n 3, 1) := by decide +kernel
theorem dX5_readOffer_10 : decode cX5_readOffer 10 = .ok (.iconst 3, 1) := by decide +kernel
theorem dX5_readOffer_11 : decode cX5_readOffer 11 = .ok (.if_icmp .ge 35, 3) := by decide +kernel
theorem dX5_readOffer_14 : decode cX5_readOffer 14 = .ok (.aload_n 0, 1) := by decide +kernel
theorem dX5_readOffer_15 : decode cX5_readOffer 15 = .ok (.invokevirtual 37, 3) := by decide +kernel
theorem dX5_readOffer_18 : decode cX5_readOffer 18 = .ok (.bipush 124, 2) := by decide +kernel
theorem dX5_readOffer_20 : decode cX5_readOffer 20 = .ok (.if_icmp .ne 26, 3) := by decide +kernel
theorem dX5_readOffer_23 : decode cX5_readOffer 23 = .ok (.aload_n 0, 1) := by decide +kernel
theorem dX5_readOffer_24 : decode cX5_readOffer 24 = .ok (.dup, 1) := by decide +kernel
theorem dX5_readOffer_25 : decode cX5_readOffer 25 = .ok (.getfield 9, 3) := by decide +kernel
theorem dX5_readOffer_28 : decode cX5_readOffer 28 = .ok (.iconst 1, 1) := by decide +kernel
theorem dX5_readOffer_29 : decode cX5_readOffer 29 = .ok (.iadd, 1) := by decide +kernel
theorem dX5_readOffer_30 : decode cX5_readOffer 30 = .ok (.putfield 9, 3) := by decide +kernel
theorem dX5_readOffer_33 : decode cX5_readOffer 33 = .ok (.aload_n 0, 1) := by decide +kernel
theorem dX5_readOffer_34 : decode cX5_readOffer 34 = .ok (.iload_n 1, 1) := by decide +kernel
theorem dX5_readOffer_35 : decode cX5_readOffer 35 = .ok (.iload_n 3, 1) := by decide +kernel
theorem dX5_readOffer_36 : decode cX5_readOffer 36 = .ok (.iload_n 2, 1) := by decide +kernel
theorem dX5_readOffer_37 : decode cX5_readOffer 37 = .ok (.invokevirtual 68, 3) := by decide +kernel
theorem dX5_readOffer_40 : decode cX5_readOffer 40 = .ok (.iinc 3 1, 3) := by decide +kernel
theorem dX5_readOffer_43 : decode cX5_readOffer 43 = .ok (.goto (-34), 3) := by decide +kernel
theorem dX5_readOffer_46 : decode cX5_readOffer 46 = .ok (.return_, 1) := by decide +kernel
theorem dX5_readFace_0 : decode cX5_readFace 0 = .ok (.aload_n 0, 1) := by decide +kernel
theorem dX5_readFace_1 : decode cX5_readFace 1 = .ok (.invokevirtual 37, 3) := by decide +kernel
theorem dX5_readFace_4 : decode cX5_readFace 4 = .ok (.istore 4, 2) := by decide +kernel
theorem dX5_readFace_6 : decode cX5_readFace 6 = .ok (.iload 4, 2) := by decide +kernel
theorem dX5_readFace_8 : decode cX5_readFace 8 = .ok (.invokestatic 45, 3) := by decide +kernel
theorem dX5_readFace_11 : decode cX5_readFace 11 = .ok (.ifCond .ne 9, 3) := by decide +kernel
theorem dX5_readFace_14 : decode cX5_readFace 14 = .ok (.aload_n 0, 1) := by decide +kernel
theorem dX5_readFace_15 : decode cX5_readFace 15 = .ok (.invokevirtual 41, 3) := by decide +kernel
theorem dX5_readFace_18 : decode cX5_readFace 18 = .ok (.pop, 1) := by decide +kernel
theorem dX5_readFace_19 : decode cX5_readFace 19 = .ok (.return_, 1) := by decide +kernel
theorem dX5_readFace_20 : decode cX5_readFace 20 = .ok (.aload_n 0, 1) := by decide +kernel
theorem dX5_readFace_21 : decode cX5_readFace 21 = .ok (.dup, 1) := by decide +kernel
theorem dX5_readFace_22 : decode cX5_readFace 22 = .ok (.getfield 9, 3) := by decide +kernel
theorem dX5_readFace_25 : decode cX5_readFace 25 = .ok (.iconst 1, 1) := by decide +kernel
theorem dX5_readFace_26 : decode cX5_readFace 26 = .ok (.iadd, 1) := by decide +kernel
theorem dX5_readFace_27 : decode cX5_readFace 27 = .ok (.putfield 9, 3) := by decide +kernel
theorem dX5_readFace_30 : decode cX5_readFace 30 = .ok (.iconst (-1), 1) := by decide +kernel
theorem dX5_readFace_31 : decode cX5_readFace 31 = .ok (.istore 5, 2) := by decide +kernel
theorem dX5_readFace_33 : decode cX5_readFace 33 = .ok (.aload_n 0, 1) := by decide +kernel
theorem dX5_readFace_34 : decode cX5_readFace 34 = .ok (.invokevirtual 37, 3) := by decide +kernel
theorem dX5_readFace_37 : decode cX5_readFace 37 = .ok (.bipush 60, 2) := by decide +kernel
theorem dX5_readFace_39 : decode cX5_readFace 39 = .ok (.if_icmp .ne 22, 3) := by decide +kernel
theorem dX5_readFace_42 : decode cX5_readFace 42 = .ok (.aload_n 0, 1) := by decide +kernel
theorem dX5_readFace_43 : decode cX5_readFace 43 = .ok (.dup, 1) := by decide +kernel
theorem dX5_readFace_44 : decode cX5_readFace 44 = .ok (.getfield 9, 3) := by decide +kernel
theorem dX5_readFace_47 : decode cX5_readFace 47 = .ok (.iconst 1, 1) := by decide +kernel
theorem dX5_readFace_48 : decode cX5_readFace 48 = .ok (.iadd, 1) := by decide +kernel
theorem dX5_readFace_49 : decode cX5_readFace 49 = .ok (.putfield 9, 3) := by decide +kernel
theorem dX5_readFace_52 : decode cX5_readFace 52 = .ok (.aload_n 0, 1) := by decide +kernel
theorem dX5_readFace_53 : decode cX5_readFace 53 = .ok (.iload_n 3, 1) := by decide +kernel
theorem dX5_readFace_54 : decode cX5_readFace 54 = .ok (.iconst 1, 1) := by decide +kernel
theorem dX5_readFace_55 : decode cX5_readFace 55 = .ok (.iadd, 1) := by decide +kernel
theorem dX5_readFace_56 : decode cX5_readFace 56 = .ok (.invokevirtual 26, 3) := by decide +kernel
theorem dX5_readFace_59 : decode cX5_readFace 59 = .ok (.istore 5, 2) := by decide +kernel
theorem dX5_readFace_61 : decode cX5_readFace 61 = .ok (.aload_n 0, 1) := by decide +kernel
theorem dX5_readFace_62 : decode cX5_readFace 62 = .ok (.getfield 22, 3) := by decide +kernel
theorem dX5_readFace_65 : decode cX5_readFace 65 = .ok (.iload_n 1, 1) := by decide +kernel
theorem dX5_readFace_66 : decode cX5_readFace 66 = .ok (.iload_n 2, 1) := by decide +kernel
theorem dX5_readFace_67 : decode cX5_readFace 67 = .ok (.iload 4, 2) := by decide +kernel
theorem dX5_readFace_69 : decode cX5_readFace 69 = .ok (.iload 5, 2) := by decide +kernel
theorem dX5_readFace_71 : decode cX5_readFace 71 = .ok (.invokevirtual 72, 3) := by decide +kernel
theorem dX5_readFace_74 : decode cX5_readFace 74 = .ok (.return_, 1) := by decide +kernel
theorem dX5_next_0 : decode cX5_next 0 = .ok (.aload_n 0, 1) := by decide +kernel
theorem dX5_next_1 : decode cX5_next 1 = .ok (.getfield 15, 3) := by decide +kernel
theorem dX5_next_4 : decode cX5_next 4 = .ok (.bipush (-6), 2) := by decide +kernel
theorem dX5_next_6 : decode cX5_next 6 = .ok (.if_icmp .ne 34, 3) := by decide +kernel
theorem dX5_next_9 : decode cX5_next 9 = .ok (.aload_n 0, 1) := by decide +kernel
theorem dX5_next_10 : decode cX5_next 10 = .ok (.getfield 9, 3) := by decide +kernel
theorem dX5_next_13 : decode cX5_next 13 = .ok (.ifCond .lt 27, 3) := by decide +kernel
theorem dX5_next_16 : decode cX5_next 16 = .ok (.aload_n 0, 1) := by decide +kernel
theorem dX5_next_17 : decode cX5_next 17 = .ok (.getfield 9, 3) := by decide +kernel
theorem dX5_next_20 : decode cX5_next 20 = .ok (.aload_n 0, 1) := by decide +kernel
theorem dX5_next_21 : decode cX5_next 21 = .ok (.getfield 18, 3) := by decide +kernel
theorem dX5_next_24 : decode cX5_next 24 = .ok (.arraylength, 1) := by decide +kernel
theorem dX5_next_25 : decode cX5_next 25 = .ok (.if_icmp .ge 15, 3) := by decide +kernel
theorem dX5_next_28 : decode cX5_next 28 = .ok (.aload_n 0, 1) := by decide +kernel
theorem dX5_next_29 : decode cX5_next 29 = .ok (.getfield 18, 3) := by decide +kernel
theorem dX5_next_32 : decode cX5_next 32 = .ok (.aload_n 0, 1) := by decide +kernel
theorem dX5_next_33 : decode cX5_next 33 = .ok (.getfield 9, 3) := by decide +kernel
theorem dX5_next_36 : decode cX5_next 36 = .ok (.caload, 1) := by decide +kernel
theorem dX5_next_37 : decode cX5_next 37 = .ok (.goto 4, 3) := by decide +kernel
theorem dX5_next_40 : decode cX5_next 40 = .ok (.iconst 0, 1) := by decide +kernel
theorem dX5_next_41 : decode cX5_next 41 = .ok (.ireturn, 1) := by decide +kernel
theorem dX5_expect_0 : decode cX5_expect 0 = .ok (.aload_n 0, 1) := by decide +kernel
theorem dX5_expect_1 : decode cX5_expect 1 = .ok (.invokevirtual 37, 3) := by decide +kernel
theorem dX5_expect_4 : decode cX5_expect 4 = .ok (.iload_n 1, 1) := by decide +kernel
theorem dX5_expect_5 : decode cX5_expect 5 = .ok (.if_icmp .ne 16, 3) := by decide +kernel
theorem dX5_expect_8 : decode cX5_expect 8 = .ok (.aload_n 0, 1) := by decide +kernel
theorem dX5_expect_9 : decode cX5_expect 9 = .ok (.dup, 1) := by decide +kernel
theorem dX5_expect_10 : decode cX5_expect 10 = .ok (.getfield 9, 3) := by decide +kernel
theorem dX5_expect_13 : decode cX5_expect 13 = .ok (.iconst 1, 1) := by decide +kernel
theorem dX5_expect_14 : decode cX5_expect 14 = .ok (.iadd, 1) := by decide +kernel
theorem dX5_expect_15 : decode cX5_expect 15 = .ok (.putfield 9, 3) := by decide +kernel
theorem dX5_expect_18 : decode cX5_expect 18 = .ok (.goto 8, 3) := by decide +kernel
theorem dX5_expect_21 : decode cX5_expect 21 = .ok (.aload_n 0, 1) := by decide +kernel
theorem dX5_expect_22 : decode cX5_expect 22 = .ok (.invokevirtual 41, 3) := by decide +kernel
theorem dX5_expect_25 : decode cX5_expect 25 = .ok (.pop, 1) := by decide +kernel
theorem dX5_expect_26 : decode cX5_expect 26 = .ok (.return_, 1) := by decide +kernel
theorem dX5_refuseMore_0 : decode cX5_refuseMore 0 = .ok (.aload_n 0, 1) := by decide +kernel
theorem dX5_refuseMore_1 : decode cX5_refuseMore 1 = .ok (.getfield 9, 3) := by decide +kernel
theorem dX5_refuseMore_4 : decode cX5_refuseMore 4 = .ok (.aload_n 0, 1) := by decide +kernel
theorem dX5_refuseMore_5 : decode cX5_refuseMore 5 = .ok (.getfield 18, 3) := by decide +kernel
theorem dX5_refuseMore_8 : decode cX5_refuseMore 8 = .ok (.arraylength, 1) := by decide +kernel
theorem dX5_refuseMore_9 : decode cX5_refuseMore 9 = .ok (.if_icmp .ge 8, 3) := by decide +kernel
theorem dX5_refuseMore_12 : decode cX5_refuseMore 12 = .ok (.aload_n 0, 1) := by decide +kernel
theorem dX5_refuseMore_13 : decode cX5_refuseMore 13 = .ok (.invokevirtual 41, 3) := by decide +kernel
theorem dX5_refuseMore_16 : decode cX5_refuseMore 16 = .ok (.pop, 1) := by decide +kernel
theorem dX5_refuseMore_17 : decode cX5_refuseMore 17 = .ok (.return_, 1) := by decide +kernel
theorem dX5_refuse_0 : decode cX5_refuse 0 = .ok (.aload_n 0, 1) := by decide +kernel
theorem dX5_refuse_1 : decode cX5_refuse 1 = .ok (.getfield 15, 3) := by decide +kernel
theorem dX5_refuse_4 : decode cX5_refuse 4 = .ok (.bipush (-6), 2) := by decide +kernel
theorem dX5_refuse_6 : decode cX5_refuse 6 = .ok (.if_icmp .ne 11, 3) := by decide +kernel
theorem dX5_refuse_9 : decode cX5_refuse 9 = .ok (.aload_n 0, 1) := by decide +kernel
theorem dX5_refuse_10 : decode cX5_refuse 10 = .ok (.aload_n 0, 1) := by decide +kernel
theorem dX5_refuse_11 : decode cX5_refuse 11 = .ok (.getfield 9, 3) := by decide +kernel
theorem dX5_refuse_14 : decode cX5_refuse 14 = .ok (.putfield 15, 3) := by decide +kernel
theorem dX5_refuse_17 : decode cX5_refuse 17 = .ok (.iconst (-1), 1) := by decide +kernel
theorem dX5_refuse_18 : decode cX5_refuse 18 = .ok (.ireturn, 1) := by decide +kernel
theorem dX5_isAtom_0 : decode cX5_isAtom 0 = .ok (.iload_n 0, 1) := by decide +kernel
theorem dX5_isAtom_1 : decode cX5_isAtom 1 = .ok (.bipush 97, 2) := by decide +kernel
theorem dX5_isAtom_3 : decode cX5_isAtom 3 = .ok (.if_icmp .lt 13, 3) := by decide +kernel
theorem dX5_isAtom_6 : decode cX5_isAtom 6 = .ok (.iload_n 0, 1) := by decide +kernel
theorem dX5_isAtom_7 : decode cX5_isAtom 7 = .ok (.bipush 104, 2) := by decide +kernel
theorem dX5_isAtom_9 : decode cX5_isAtom 9 = .ok (.if_icmp .gt 7, 3) := by decide +kernel
theorem dX5_isAtom_12 : decode cX5_isAtom 12 = .ok (.iconst 1, 1) := by decide +kernel
theorem dX5_isAtom_13 : decode cX5_isAtom 13 = .ok (.goto 4, 3) := by decide +kernel
theorem dX5_isAtom_16 : decode cX5_isAtom 16 = .ok (.iconst 0, 1) := by decide +kernel
theorem dX5_isAtom_17 : decode cX5_isAtom 17 = .ok (.ireturn, 1) := by decide +kernel
theorem dX6_init_0 : decode cX6_init 0 = .ok (.aload_n 0, 1) := by decide +kernel
theorem dX6_init_1 : decode cX6_init 1 = .ok (.invokespecial 3, 3) := by decide +kernel
theorem dX6_init_4 : decode cX6_init 4 = .ok (.aload_n 0, 1) := by decide +kernel
theorem dX6_init_5 : decode cX6_init 5 = .ok (.bipush 10, 2) := by decide +kernel
theorem dX6_init_7 : decode cX6_init 7 = .ok (.anewarray 9, 3) := by decide +kernel
theorem dX6_init_10 : decode cX6_init 10 = .ok (.putfield 11, 3) := by decide +kernel
theorem dX6_init_13 : decode cX6_init 13 = .ok (.return_, 1) := by decide +kernel
theorem dX6_at_0 : decode cX6_at 0 = .ok (.iload_n 1, 1) := by decide +kernel
theorem dX6_at_1 : decode cX6_at 1 = .ok (.ifCond .lt 18, 3) := by decide +kernel
theorem dX6_at_4 : decode cX6_at 4 = .ok (.iload_n 1, 1) := by decide +kernel
theorem dX6_at_5 : decode cX6_at 5 = .ok (.bipush 10, 2) := by decide +kernel
theorem dX6_at_7 : decode cX6_at 7 = .ok (.if_icmp .ge 12, 3) := by decide +kernel
theorem dX6_at_10 : decode cX6_at 10 = .ok (.aload_n 0, 1) := by decide +kernel
theorem dX6_at_11 : decode cX6_at 11 = .ok (.getfield 11, 3) := by decide +kernel
theorem dX6_at_14 : decode cX6_at 14 = .ok (.iload_n 1, 1) := by decide +kernel
theorem dX6_at_15 : decode cX6_at 15 = .ok (.aaload, 1) := by decide +kernel
theorem dX6_at_16 : decode cX6_at 16 = .ok (.goto 4, 3) := by decide +kernel
theorem dX6_at_19 : decode cX6_at 19 = .ok (.aconst_null, 1) := by decide +kernel
theorem dX6_at_20 : decode cX6_at 20 = .ok (.areturn, 1) := by decide +kernel
theorem dX6_set_0 : decode cX6_set 0 = .ok (.iload_n 1, 1) := by decide +kernel
theorem dX6_set_1 : decode cX6_set 1 = .ok (.ifCond .lt 16, 3) := by decide +kernel
theorem dX6_set_4 : decode cX6_set 4 = .ok (.iload_n 1, 1) := by decide +kernel
theorem dX6_set_5 : decode cX6_set 5 = .ok (.bipush 10, 2) := by decide +kernel
theorem dX6_set_7 : decode cX6_set 7 = .ok (.if_icmp .ge 10, 3) := by decide +kernel
theorem dX6_set_10 : decode cX6_set 10 = .ok (.aload_n 0, 1) := by decide +kernel
theorem dX6_set_11 : decode cX6_set 11 = .ok (.getfield 11, 3) := by decide +kernel
theorem dX6_set_14 : decode cX6_set 14 = .ok (.iload_n 1, 1) := by decide +kernel
theorem dX6_set_15 : decode cX6_set 15 = .ok (.aload_n 2, 1) := by decide +kernel
theorem dX6_set_16 : decode cX6_set 16 = .ok (.aastore, 1) := by decide +kernel
theorem dX6_set_17 : decode cX6_set 17 = .ok (.return_, 1) := by decide +kernel
theorem dX6_copyFrom_0 : decode cX6_copyFrom 0 = .ok (.iconst 0, 1) := by decide +kernel
theorem dX6_copyFrom_1 : decode cX6_copyFrom 1 = .ok (.istore_n 2, 1) := by decide +kernel
theorem dX6_copyFrom_2 : decode cX6_copyFrom 2 = .ok (.iload_n 2, 1) := by decide +kernel
theorem dX6_copyFrom_3 : decode cX6_copyFrom 3 = .ok (.bipush 10, 2) := by decide +kernel
theorem dX6_copyFrom_5 : decode cX6_copyFrom 5 = .ok (.if_icmp .ge 20, 3) := by decide +kernel
theorem dX6_copyFrom_8 : decode cX6_copyFrom 8 = .ok (.aload_n 0, 1) := by decide +kernel
theorem dX6_copyFrom_9 : decode cX6_copyFrom 9 = .ok (.getfield 11, 3) := by decide +kernel
theorem dX6_copyFrom_12 : decode cX6_copyFrom 12 = .ok (.iload_n 2, 1) := by decide +kernel
theorem dX6_copyFrom_13 : decode cX6_copyFrom 13 = .ok (.aload_n 1, 1) := by decide +kernel
theorem dX6_copyFrom_14 : decode cX6_copyFrom 14 = .ok (.iload_n 2, 1) := by decide +kernel
theorem dX6_copyFrom_15 : decode cX6_copyFrom 15 = .ok (.invokevirtual 17, 3) := by decide +kernel
theorem dX6_copyFrom_18 : decode cX6_copyFrom 18 = .ok (.aastore, 1) := by decide +kernel
theorem dX6_copyFrom_19 : decode cX6_copyFrom 19 = .ok (.iinc 2 1, 3) := by decide +kernel
theorem dX6_copyFrom_22 : decode cX6_copyFrom 22 = .ok (.goto (-20), 3) := by decide +kernel
theorem dX6_copyFrom_25 : decode cX6_copyFrom 25 = .ok (.return_, 1) := by decide +kernel
theorem dX6_firstFree_0 : decode cX6_firstFree 0 = .ok (.iload_n 1, 1) := by decide +kernel
theorem dX6_firstFree_1 : decode cX6_firstFree 1 = .ok (.istore_n 3, 1) := by decide +kernel
theorem dX6_firstFree_2 : decode cX6_firstFree 2 = .ok (.iload_n 3, 1) := by decide +kernel
theorem dX6_firstFree_3 : decode cX6_firstFree 3 = .ok (.iload_n 1, 1) := by decide +kernel
theorem dX6_firstFree_4 : decode cX6_firstFree 4 = .ok (.iload_n 2, 1) := by decide +kernel
theorem dX6_firstFree_5 : decode cX6_firstFree 5 = .ok (.iadd, 1) := by decide +kernel
theorem dX6_firstFree_6 : decode cX6_firstFree 6 = .ok (.if_icmp .ge 19, 3) := by decide +kernel
theorem dX6_firstFree_9 : decode cX6_firstFree 9 = .ok (.aload_n 0, 1) := by decide +kernel
theorem dX6_firstFree_10 : decode cX6_firstFree 10 = .ok (.iload_n 3, 1) := by decide +kernel
theorem dX6_firstFree_11 : decode cX6_firstFree 11 = .ok (.invokevirtual 17, 3) := by decide +kernel
theorem dX6_firstFree_14 : decode cX6_firstFree 14 = .ok (.ifnonnull 5, 3) := by decide +kernel
theorem dX6_firstFree_17 : decode cX6_firstFree 17 = .ok (.iload_n 3, 1) := by decide +kernel
theorem dX6_firstFree_18 : decode cX6_firstFree 18 = .ok (.ireturn, 1) := by decide +kernel
theorem dX6_firstFree_19 : decode cX6_firstFree 19 = .ok (.iinc 3 1, 3) := by decide +kernel
theorem dX6_firstFree_22 : decode cX6_firstFree 22 = .ok (.goto (-20), 3) := by decide +kernel
theorem dX6_firstFree_25 : decode cX6_firstFree 25 = .ok (.iconst (-1), 1) := by decide +kernel
theorem dX6_firstFree_26 : decode cX6_firstFree 26 = .ok (.ireturn, 1) := by decide +kernel
theorem dX6_present_0 : decode cX6_present 0 = .ok (.iconst 0, 1) := by decide +kernel
theorem dX6_present_1 : decode cX6_present 1 = .ok (.istore_n 3, 1) := by decide +kernel
theorem dX6_present_2 : decode cX6_present 2 = .ok (.iconst 0, 1) := by decide +kernel
theorem dX6_present_3 : decode cX6_present 3 = .ok (.istore 4, 2) := by decide +kernel
theorem dX6_present_5 : decode cX6_present 5 = .ok (.iload 4, 2) := by decide +kernel
theorem dX6_present_7 : decode cX6_present 7 = .ok (.iload_n 2, 1) := by decide +kernel
theorem dX6_present_8 : decode cX6_present 8 = .ok (.if_icmp .ge 27, 3) := by decide +kernel
theorem dX6_present_11 : decode cX6_present 11 = .ok (.aload_n 0, 1) := by decide +kernel
theorem dX6_present_12 : decode cX6_present 12 = .ok (.iload_n 1, 1) := by decide +kernel
theorem dX6_present_13 : decode cX6_present 13 = .ok (.iload 4, 2) := by decide +kernel
theorem dX6_present_15 : decode cX6_present 15 = .ok (.iadd, 1) := by decide +kernel
theorem dX6_present_16 : decode cX6_present 16 = .ok (.invokevirtual 17, 3) := by decide +kernel
theorem dX6_present_19 : decode cX6_present 19 = .ok (.ifnull 10, 3) := by decide +kernel
theorem dX6_present_22 : decode cX6_present 22 = .ok (.iload_n 3, 1) := by decide +kernel
theorem dX6_present_23 : decode cX6_present 23 = .ok (.iconst 1, 1) := by decide +kernel
theorem dX6_present_24 : decode cX6_present 24 = .ok (.iload 4, 2) := by decide +kernel
theorem dX6_present_26 : decode cX6_present 26 = .ok (.ishl, 1) := by decide +kernel
theorem dX6_present_27 : decode cX6_present 27 = .ok (.ior, 1) := by decide +kernel
theorem dX6_present_28 : decode cX6_present 28 = .ok (.istore_n 3, 1) := by decide +kernel
theorem dX6_present_29 : decode cX6_present 29 = .ok (.iinc 4 1, 3) := by decide +kernel
theorem dX6_present_32 : decode cX6_present 32 = .ok (.goto (-27), 3) := by decide +kernel
theorem dX6_present_35 : decode cX6_present 35 = .ok (.iload_n 3, 1) := by decide +kernel
theorem dX6_present_36 : decode cX6_present 36 = .ok (.ireturn, 1) := by decide +kernel
theorem dX6_nodes_0 : decode cX6_nodes 0 = .ok (.iconst 0, 1) := by decide +kernel
theorem dX6_nodes_1 : decode cX6_nodes 1 = .ok (.istore_n 1, 1) := by decide +kernel
theorem dX6_nodes_2 : decode cX6_nodes 2 = .ok (.aload_n 0, 1) := by decide +kernel
theorem dX6_nodes_3 : decode cX6_nodes 3 = .ok (.getfield 11, 3) := by decide +kernel
theorem dX6_nodes_6 : decode cX6_nodes 6 = .ok (.astore_n 2, 1) := by decide +kernel
theorem dX6_nodes_7 : decode cX6_nodes 7 = .ok (.aload_n 2, 1) := by decide +kernel
theorem dX6_nodes_8 : decode cX6_nodes 8 = .ok (.arraylength, 1) := by decide +kernel
theorem dX6_nodes_9 : decode cX6_nodes 9 = .ok (.istore_n 3, 1) := by decide +kernel
theorem dX6_nodes_10 : decode cX6_nodes 10 = .ok (.iconst 0, 1) := by decide +kernel
theorem dX6_nodes_11 : decode cX6_nodes 11 = .ok (.istore 4, 2) := by decide +kernel
theorem dX6_nodes_13 : decode cX6_nodes 13 = .ok (.iload 4, 2) := by decide +kernel
theorem dX6_nodes_15 : decode cX6_nodes 15 = .ok (.iload_n 3, 1) := by decide +kernel
theorem dX6_nodes_16 : decode cX6_nodes 16 = .ok (.if_icmp .ge 32, 3) := by decide +kernel
theorem dX6_nodes_19 : decode cX6_nodes 19 = .ok (.aload_n 2, 1) := by decide +kernel
theorem dX6_nodes_20 : decode cX6_nodes 20 = .ok (.iload 4, 2) := by decide +kernel
theorem dX6_nodes_22 : decode cX6_nodes 22 = .ok (.aaload, 1) := by decide +kernel
theorem dX6_nodes_23 : decode cX6_nodes 23 = .ok (.astore 5, 2) := by decide +kernel
theorem dX6_nodes_25 : decode cX6_nodes 25 = .ok (.iload_n 1, 1) := by decide +kernel
theorem dX6_nodes_26 : decode cX6_nodes 26 = .ok (.aload 5, 2) := by decide +kernel
theorem dX6_nodes_28 : decode cX6_nodes 28 = .ok (.ifnonnull 7, 3) := by decide +kernel
theorem dX6_nodes_31 : decode cX6_nodes 31 = .ok (.iconst 0, 1) := by decide +kernel
theorem dX6_nodes_32 : decode cX6_nodes 32 = .ok (.goto 8, 3) := by decide +kernel
theorem dX6_nodes_35 : decode cX6_nodes 35 = .ok (.aload 5, 2) := by decide +kernel
theorem dX6_nodes_37 : decode cX6_nodes 37 = .ok (.invokevirtual 21, 3) := by decide +kernel
theorem dX6_nodes_40 : decode cX6_nodes 40 = .ok (.iadd, 1) := by decide +kernel
theorem dX6_nodes_41 : decode cX6_nodes 41 = .ok (.istore_n 1, 1) := by decide +kernel
theorem dX6_nodes_42 : decode cX6_nodes 42 = .ok (.iinc 4 1, 3) := by decide +kernel
theorem dX6_nodes_45 : decode cX6_nodes 45 = .ok (.goto (-32), 3) := by decide +kernel
theorem dX6_nodes_48 : decode cX6_nodes 48 = .ok (.iload_n 1, 1) := by decide +kernel
theorem dX6_nodes_49 : decode cX6_nodes 49 = .ok (.ireturn, 1) := by decide +kernel
theorem dX6_loans_0 : decode cX6_loans 0 = .ok (.iconst 0, 1) := by decide +kernel
theorem dX6_loans_1 : decode cX6_loans 1 = .ok (.istore_n 1, 1) := by decide +kernel
theorem dX6_loans_2 : decode cX6_loans 2 = .ok (.aload_n 0, 1) := by decide +kernel
theorem dX6_loans_3 : decode cX6_loans 3 = .ok (.getfield 11, 3) := by decide +kernel
theorem dX6_loans_6 : decode cX6_loans 6 = .ok (.astore_n 2, 1) := by decide +kernel
theorem dX6_loans_7 : decode cX6_loans 7 = .ok (.aload_n 2, 1) := by decide +kernel
theorem dX6_loans_8 : decode cX6_loans 8 = .ok (.arraylength, 1) := by decide +kernel
theorem dX6_loans_9 : decode cX6_loans 9 = .ok (.istore_n 3, 1) := by decide +kernel
theorem dX6_loans_10 : decode cX6_loans 10 = .ok (.iconst 0, 1) := by decide +kernel
theorem dX6_loans_11 : decode cX6_loans 11 = .ok (.istore 4, 2) := by decide +kernel
theorem dX6_loans_13 : decode cX6_loans 13 = .ok (.iload 4, 2) := by decide +kernel
theorem dX6_loans_15 : decode cX6_loans 15 = .ok (.iload_n 3, 1) := by decide +kernel
theorem dX6_loans_16 : decode cX6_loans 16 = .ok (.if_icmp .ge 32, 3) := by decide +kernel
theorem dX6_loans_19 : decode cX6_loans 19 = .ok (.aload_n 2, 1) := by decide +kernel
theorem dX6_loans_20 : decode cX6_loans 20 = .ok (.iload 4, 2) := by decide +kernel
theorem dX6_loans_22 : decode cX6_loans 22 = .ok (.aaload, 1) := by decide +kernel
theorem dX6_loans_23 : decode cX6_loans 23 = .ok (.astore 5, 2) := by decide +kernel
theorem dX6_loans_25 : decode cX6_loans 25 = .ok (.iload_n 1, 1) := by decide +kernel
theorem dX6_loans_26 : decode cX6_loans 26 = .ok (.aload 5, 2) := by decide +kernel
theorem dX6_loans_28 : decode cX6_loans 28 = .ok (.ifnonnull 7, 3) := by decide +kernel
theorem dX6_loans_31 : decode cX6_loans 31 = .ok (.iconst 0, 1) := by decide +kernel
theorem dX6_loans_32 : decode cX6_loans 32 = .ok (.goto 8, 3) := by decide +kernel
theorem dX6_loans_35 : decode cX6_loans 35 = .ok (.aload 5, 2) := by decide +kernel
theorem dX6_loans_37 : decode cX6_loans 37 = .ok (.invokevirtual 25, 3) := by decide +kernel
theorem dX6_loans_40 : decode cX6_loans 40 = .ok (.iadd, 1) := by decide +kernel
theorem dX6_loans_41 : decode cX6_loans 41 = .ok (.istore_n 1, 1) := by decide +kernel
theorem dX6_loans_42 : decode cX6_loans 42 = .ok (.iinc 4 1, 3) := by decide +kernel
theorem dX6_loans_45 : decode cX6_loans 45 = .ok (.goto (-32), 3) := by decide +kernel
theorem dX6_loans_48 : decode cX6_loans 48 = .ok (.iload_n 1, 1) := by decide +kernel
theorem dX6_loans_49 : decode cX6_loans 49 = .ok (.ireturn, 1) := by decide +kernel
theorem dX6_hasRoom_0 : decode cX6_hasRoom 0 = .ok (.aload_n 0, 1) := by decide +kernel
theorem dX6_hasRoom_1 : decode cX6_hasRoom 1 = .ok (.iload_n 1, 1) := by decide +kernel
theorem dX6_hasRoom_2 : decode cX6_hasRoom 2 = .ok (.invokevirtual 17, 3) := by decide +kernel
theorem dX6_hasRoom_5 : decode cX6_hasRoom 5 = .ok (.astore_n 3, 1) := by decide +kernel
theorem dX6_hasRoom_6 : decode cX6_hasRoom 6 = .ok (.aload_n 3, 1) := by decide +kernel
theorem dX6_hasRoom_7 : decode cX6_hasRoom 7 = .ok (.ifnonnull 7, 3) := by decide +kernel
theorem dX6_hasRoom_10 : decode cX6_hasRoom 10 = .ok (.iconst 0, 1) := by decide +kernel
theorem dX6_hasRoom_11 : decode cX6_hasRoom 11 = .ok (.goto 7, 3) := by decide +kernel
theorem dX6_hasRoom_14 : decode cX6_hasRoom 14 = .ok (.aload_n 3, 1) := by decide +kernel
theorem dX6_hasRoom_15 : decode cX6_hasRoom 15 = .ok (.invokevirtual 21, 3) := by decide +kernel
theorem dX6_hasRoom_18 : decode cX6_hasRoom 18 = .ok (.istore 4, 2) := by decide +kernel
theorem dX6_hasRoom_20 : decode cX6_hasRoom 20 = .ok (.aload_n 3, 1) := by decide +kernel
theorem dX6_hasRoom_21 : decode cX6_hasRoom 21 = .ok (.ifnonnull 7, 3) := by decide +kernel
theorem dX6_hasRoom_24 : decode cX6_hasRoom 24 = .ok (.iconst 0, 1) := by decide +kernel
theorem dX6_hasRoom_25 : decode cX6_hasRoom 25 = .ok (.goto 7, 3) := by decide +kernel
theorem dX6_hasRoom_28 : decode cX6_hasRoom 28 = .ok (.aload_n 3, 1) := by decide +kernel
theorem dX6_hasRoom_29 : decode cX6_hasRoom 29 = .ok (.invokevirtual 25, 3) := by decide +kernel
theorem dX6_hasRoom_32 : decode cX6_hasRoom 32 = .ok (.istore 5, 2) := by decide +kernel
theorem dX6_hasRoom_34 : decode cX6_hasRoom 34 = .ok (.aload_n 0, 1) := by decide +kernel
theorem dX6_hasRoom_35 : decode cX6_hasRoom 35 = .ok (.invokevirtual 28, 3) := by decide +kernel
theorem dX6_hasRoom_38 : decode cX6_hasRoom 38 = .ok (.iload 4, 2) := by decide +kernel
theorem dX6_hasRoom_40 : decode cX6_hasRoom 40 = .ok (.isub, 1) := by decide +kernel
theorem dX6_hasRoom_41 : decode cX6_hasRoom 41 = .ok (.aload_n 2, 1) := by decide +kernel
theorem dX6_hasRoom_42 : decode cX6_hasRoom 42 = .ok (.invokevirtual 21, 3) := by decide +kernel
theorem dX6_hasRoom_45 : decode cX6_hasRoom 45 = .ok (.iadd, 1) := by decide +kernel
theorem dX6_hasRoom_46 : decode cX6_hasRoom 46 = .ok (.bipush 60, 2) := by decide +kernel
theorem dX6_hasRoom_48 : decode cX6_hasRoom 48 = .ok (.if_icmp .gt 23, 3) := by decide +kernel
theorem dX6_hasRoom_51 : decode cX6_hasRoom 51 = .ok (.aload_n 0, 1) := by decide +kernel
theorem dX6_hasRoom_52 : decode cX6_hasRoom 52 = .ok (.invokevirtual 29, 3) := by decide +kernel
theorem dX6_hasRoom_55 : decode cX6_hasRoom 55 = .ok (.iload 5, 2) := by decide +kernel
theorem dX6_hasRoom_57 : decode cX6_hasRoom 57 = .ok (.isub, 1) := by decide +kernel
theorem dX6_hasRoom_58 : decode cX6_hasRoom 58 = .ok (.aload_n 2, 1) := by decide +kernel
theorem dX6_hasRoom_59 : decode cX6_hasRoom 59 = .ok (.invokevirtual 25, 3) := by decide +kernel
theorem dX6_hasRoom_62 : decode cX6_hasRoom 62 = .ok (.iadd, 1) := by decide +kernel
theorem dX6_hasRoom_63 : decode cX6_hasRoom 63 = .ok (.iconst 3, 1) := by decide +kernel
theorem dX6_hasRoom_64 : decode cX6_hasRoom 64 = .ok (.if_icmp .gt 7, 3) := by decide +kernel
theorem dX6_hasRoom_67 : decode cX6_hasRoom 67 = .ok (.iconst 1, 1) := by decide +kernel
theorem dX6_hasRoom_68 : decode cX6_hasRoom 68 = .ok (.goto 4, 3) := by decide +kernel
theorem dX6_hasRoom_71 : decode cX6_hasRoom 71 = .ok (.iconst 0, 1) := by decide +kernel
theorem dX6_hasRoom_72 : decode cX6_hasRoom 72 = .ok (.ireturn, 1) := by decide +kernel
theorem dX7_init_0 : decode cX7_init 0 = .ok (.aload_n 0, 1) := by decide +kernel
theorem dX7_init_1 : decode cX7_init 1 = .ok (.invokespecial 3, 3) := by decide +kernel
theorem dX7_init_4 : decode cX7_init 4 = .ok (.aload_n 0, 1) := by decide +kernel
theorem dX7_init_5 : decode cX7_init 5 = .ok (.bipush 60, 2) := by decide +kernel
theorem dX7_init_7 : decode cX7_init 7 = .ok (.newarray .char, 2) := by decide +kernel
theorem dX7_init_9 : decode cX7_init 9 = .ok (.putfield 9, 3) := by decide +kernel
theorem dX7_init_12 : decode cX7_init 12 = .ok (.aload_n 0, 1) := by decide +kernel
theorem dX7_init_13 : decode cX7_init 13 = .ok (.iconst 0, 1) := by decide +kernel
theorem dX7_init_14 : decode cX7_init 14 = .ok (.putfield 15, 3) := by decide +kernel
theorem dX7_init_17 : decode cX7_init 17 = .ok (.return_, 1) := by decide +kernel
theorem dX7_append_0 : decode cX7_append 0 = .ok (.aload_n 0, 1) := by decide +kernel
theorem dX7_append_1 : decode cX7_append 1 = .ok (.getfield 15, 3) := by decide +kernel
theorem dX7_append_4 : decode cX7_append 4 = .ok (.ifCond .lt 15, 3) := by decide +kernel
theorem dX7_append_7 : decode cX7_append 7 = .ok (.aload_n 0, 1) := by decide +kernel
theorem dX7_append_8 : decode cX7_append 8 = .ok (.getfield 15, 3) := by decide +kernel
theorem dX7_append_11 : decode cX7_append 11 = .ok (.aload_n 0, 1) := by decide +kernel
theorem dX7_append_12 : decode cX7_append 12 = .ok (.getfield 9, 3) := by decide +kernel
theorem dX7_append_15 : decode cX7_append 15 = .ok (.arraylength, 1) := by decide +kernel
theorem dX7_append_16 : decode cX7_append 16 = .ok (.if_icmp .lt 5, 3) := by decide +kernel
theorem dX7_append_19 : decode cX7_append 19 = .ok (.iconst 0, 1) := by decide +kernel
theorem dX7_append_20 : decode cX7_append 20 = .ok (.ireturn, 1) := by decide +kernel
theorem dX7_append_21 : decode cX7_append 21 = .ok (.aload_n 0, 1) := by decide +kernel
theorem dX7_append_22 : decode cX7_append 22 = .ok (.getfield 9, 3) := by decide +kernel
theorem dX7_append_25 : decode cX7_append 25 = .ok (.aload_n 0, 1) := by decide +kernel
theorem dX7_append_26 : decode cX7_append 26 = .ok (.getfield 15, 3) := by decide +kernel
theorem dX7_append_29 : decode cX7_append 29 = .ok (.iload_n 1, 1) := by decide +kernel
theorem dX7_append_30 : decode cX7_append 30 = .ok (.castore, 1) := by decide +kernel
theorem dX7_append_31 : decode cX7_append 31 = .ok (.aload_n 0, 1) := by decide +kernel
theorem dX7_append_32 : decode cX7_append 32 = .ok (.dup, 1) := by decide +kernel
theorem dX7_append_33 : decode cX7_append 33 = .ok (.getfield 15, 3) := by decide +kernel
theorem dX7_append_36 : decode cX7_append 36 = .ok (.iconst 1, 1) := by decide +kernel
theorem dX7_append_37 : decode cX7_append 37 = .ok (.iadd, 1) := by decide +kernel
theorem dX7_append_38 : decode cX7_append 38 = .ok (.putfield 15, 3) := by decide +kernel
theorem dX7_append_41 : decode cX7_append 41 = .ok (.iconst 1, 1) := by decide +kernel
theorem dX7_append_42 : decode cX7_append 42 = .ok (.ireturn, 1) := by decide +kernel
theorem dX7_length_0 : decode cX7_length 0 = .ok (.aload_n 0, 1) := by decide +kernel
theorem dX7_length_1 : decode cX7_length 1 = .ok (.getfield 15, 3) := by decide +kernel
theorem dX7_length_4 : decode cX7_length 4 = .ok (.ireturn, 1) := by decide +kernel
theorem dX7_copy_0 : decode cX7_copy 0 = .ok (.iconst 0, 1) := by decide +kernel
theorem dX7_copy_1 : decode cX7_copy 1 = .ok (.aload_n 0, 1) := by decide +kernel
theorem dX7_copy_2 : decode cX7_copy 2 = .ok (.getfield 15, 3) := by decide +kernel
theorem dX7_copy_5 : decode cX7_copy 5 = .ok (.aload_n 0, 1) := by decide +kernel
theorem dX7_copy_6 : decode cX7_copy 6 = .ok (.getfield 9, 3) := by decide +kernel
theorem dX7_copy_9 : decode cX7_copy 9 = .ok (.arraylength, 1) := by decide +kernel
theorem dX7_copy_10 : decode cX7_copy 10 = .ok (.invokestatic 19, 3) := by decide +kernel
theorem dX7_copy_13 : decode cX7_copy 13 = .ok (.invokestatic 25, 3) := by decide +kernel
theorem dX7_copy_16 : decode cX7_copy 16 = .ok (.newarray .char, 2) := by decide +kernel
theorem dX7_copy_18 : decode cX7_copy 18 = .ok (.astore_n 1, 1) := by decide +kernel
theorem dX7_copy_19 : decode cX7_copy 19 = .ok (.iconst 0, 1) := by decide +kernel
theorem dX7_copy_20 : decode cX7_copy 20 = .ok (.istore_n 2, 1) := by decide +kernel
theorem dX7_copy_21 : decode cX7_copy 21 = .ok (.iload_n 2, 1) := by decide +kernel
theorem dX7_copy_22 : decode cX7_copy 22 = .ok (.aload_n 1, 1) := by decide +kernel
theorem dX7_copy_23 : decode cX7_copy 23 = .ok (.arraylength, 1) := by decide +kernel
theorem dX7_copy_24 : decode cX7_copy 24 = .ok (.if_icmp .ge 27, 3) := by decide +kernel
theorem dX7_copy_27 : decode cX7_copy 27 = .ok (.iload_n 2, 1) := by decide +kernel
theorem dX7_copy_28 : decode cX7_copy 28 = .ok (.aload_n 0, 1) := by decide +kernel
theorem dX7_copy_29 : decode cX7_copy 29 = .ok (.getfield 9, 3) := by decide +kernel
theorem dX7_copy_32 : decode cX7_copy 32 = .ok (.arraylength, 1) := by decide +kernel
theorem dX7_copy_33 : decode cX7_copy 33 = .ok (.if_icmp .ge 18, 3) := by decide +kernel
theorem dX7_copy_36 : decode cX7_copy 36 = .ok (.aload_n 1, 1) := by decide +kernel
theorem dX7_copy_37 : decode cX7_copy 37 = .ok (.iload_n 2, 1) := by decide +kernel
theorem dX7_copy_38 : decode cX7_copy 38 = .ok (.aload_n 0, 1) := by decide +kernel
theorem dX7_copy_39 : decode cX7_copy 39 = .ok (.getfield 9, 3) := by decide +kernel
theorem dX7_copy_42 : decode cX7_copy 42 = .ok (.iload_n 2, 1) := by decide +kernel
theorem dX7_copy_43 : decode cX7_copy 43 = .ok (.caload, 1) := by decide +kernel
theorem dX7_copy_44 : decode cX7_copy 44 = .ok (.castore, 1) := by decide +kernel
theorem dX7_copy_45 : decode cX7_copy 45 = .ok (.iinc 2 1, 3) := by decide +kernel
theorem dX7_copy_48 : decode cX7_copy 48 = .ok (.goto (-27), 3) := by decide +kernel
theorem dX7_copy_51 : decode cX7_copy 51 = .ok (.aload_n 1, 1) := by decide +kernel
theorem dX7_copy_52 : decode cX7_copy 52 = .ok (.areturn, 1) := by decide +kernel
theorem dX7_clear_0 : decode cX7_clear 0 = .ok (.aload_n 0, 1) := by decide +kernel
theorem dX7_clear_1 : decode cX7_clear 1 = .ok (.iconst 0, 1) := by decide +kernel
theorem dX7_clear_2 : decode cX7_clear 2 = .ok (.putfield 15, 3) := by decide +kernel
theorem dX7_clear_5 : decode cX7_clear 5 = .ok (.return_, 1) := by decide +kernel
theorem dX8_init_0 : decode cX8_init 0 = .ok (.aload_n 0, 1) := by decide +kernel
theorem dX8_init_1 : decode cX8_init 1 = .ok (.invokespecial 3, 3) := by decide +kernel
theorem dX8_init_4 : decode cX8_init 4 = .ok (.aload_n 0, 1) := by decide +kernel
theorem dX8_init_5 : decode cX8_init 5 = .ok (.bipush 60, 2) := by decide +kernel
theorem dX8_init_7 : decode cX8_init 7 = .ok (.newarray .int, 2) := by decide +kernel
theorem dX8_init_9 : decode cX8_init 9 = .ok (.putfield 9, 3) := by decide +kernel
theorem dX8_init_12 : decode cX8_init 12 = .ok (.aload_n 0, 1) := by decide +kernel
theorem dX8_init_13 : decode cX8_init 13 = .ok (.iconst 0, 1) := by decide +kernel
theorem dX8_init_14 : decode cX8_init 14 = .ok (.putfield 15, 3) := by decide +kernel
theorem dX8_init_17 : decode cX8_init 17 = .ok (.return_, 1) := by decide +kernel
theorem dX8_append_0 : decode cX8_append 0 = .ok (.aload_n 0, 1) := by decide +kernel
theorem dX8_append_1 : decode cX8_append 1 = .ok (.getfield 15, 3) := by decide +kernel
theorem dX8_append_4 : decode cX8_append 4 = .ok (.ifCond .lt 15, 3) := by decide +kernel
theorem dX8_append_7 : decode cX8_append 7 = .ok (.aload_n 0, 1) := by decide +kernel
theorem dX8_append_8 : decode cX8_append 8 = .ok (.getfield 15, 3) := by decide +kernel
theorem dX8_append_11 : decode cX8_append 11 = .ok (.aload_n 0, 1) := by decide +kernel
theorem dX8_append_12 : decode cX8_append 12 = .ok (.getfield 9, 3) := by decide +kernel
theorem dX8_append_15 : decode cX8_append 15 = .ok (.arraylength, 1) := by decide +kernel
theorem dX8_append_16 : decode cX8_append 16 = .ok (.if_icmp .lt 5, 3) := by decide +kernel
theorem dX8_append_19 : decode cX8_append 19 = .ok (.iconst 0, 1) := by decide +kernel
theorem dX8_append_20 : decode cX8_append 20 = .ok (.ireturn, 1) := by decide +kernel
theorem dX8_append_21 : decode cX8_append 21 = .ok (.aload_n 0, 1) := by decide +kernel
theorem dX8_append_22 : decode cX8_append 22 = .ok (.getfield 9, 3) := by decide +kernel
theorem dX8_append_25 : decode cX8_append 25 = .ok (.aload_n 0, 1) := by decide +kernel
theorem dX8_append_26 : decode cX8_append 26 = .ok (.getfield 15, 3) := by decide +kernel
theorem dX8_append_29 : decode cX8_append 29 = .ok (.iload_n 1, 1) := by decide +kernel
theorem dX8_append_30 : decode cX8_append 30 = .ok (.iastore, 1) := by decide +kernel
theorem dX8_append_31 : decode cX8_append 31 = .ok (.aload_n 0, 1) := by decide +kernel
theorem dX8_append_32 : decode cX8_append 32 = .ok (.dup, 1) := by decide +kernel
theorem dX8_append_33 : decode cX8_append 33 = .ok (.getfield 15, 3) := by decide +kernel
theorem dX8_append_36 : decode cX8_append 36 = .ok (.iconst 1, 1) := by decide +kernel
theorem dX8_append_37 : decode cX8_append 37 = .ok (.iadd, 1) := by decide +kernel
theorem dX8_append_38 : decode cX8_append 38 = .ok (.putfield 15, 3) := by decide +kernel
theorem dX8_append_41 : decode cX8_append 41 = .ok (.iconst 1, 1) := by decide +kernel
theorem dX8_append_42 : decode cX8_append 42 = .ok (.ireturn, 1) := by decide +kernel
theorem dX8_length_0 : decode cX8_length 0 = .ok (.aload_n 0, 1) := by decide +kernel
theorem dX8_length_1 : decode cX8_length 1 = .ok (.getfield 15, 3) := by decide +kernel
theorem dX8_length_4 : decode cX8_length 4 = .ok (.ireturn, 1) := by decide +kernel
theorem dX8_at_0 : decode cX8_at 0 = .ok (.iload_n 1, 1) := by decide +kernel
theorem dX8_at_1 : decode cX8_at 1 = .ok (.ifCond .lt 29, 3) := by decide +kernel
theorem dX8_at_4 : decode cX8_at 4 = .ok (.iload_n 1, 1) := by decide +kernel
theorem dX8_at_5 : decode cX8_at 5 = .ok (.aload_n 0, 1) := by decide +kernel
theorem dX8_at_6 : decode cX8_at 6 = .ok (.getfield 15, 3) := by decide +kernel
theorem dX8_at_9 : decode cX8_at 9 = .ok (.if_icmp .ge 21, 3) := by decide +kernel
theorem dX8_at_12 : decode cX8_at 12 = .ok (.iload_n 1, 1) := by decide +kernel
theorem dX8_at_13 : decode cX8_at 13 = .ok (.aload_n 0, 1) := by decide +kernel
theorem dX8_at_14 : decode cX8_at 14 = .ok (.getfield 9, 3) := by decide +kernel
theorem dX8_at_17 : decode cX8_at 17 = .ok (.arraylength, 1) := by decide +kernel
theorem dX8_at_18 : decode cX8_at 18 = .ok (.if_icmp .ge 12, 3) := by decide +kernel
theorem dX8_at_21 : decode cX8_at 21 = .ok (.aload_n 0, 1) := by decide +kernel
theorem dX8_at_22 : decode cX8_at 22 = .ok (.getfield 9, 3) := by decide +kernel
theorem dX8_at_25 : decode cX8_at 25 = .ok (.iload_n 1, 1) := by decide +kernel
theorem dX8_at_26 : decode cX8_at 26 = .ok (.iaload, 1) := by decide +kernel
theorem dX8_at_27 : decode cX8_at 27 = .ok (.goto 4, 3) := by decide +kernel
theorem dX8_at_30 : decode cX8_at 30 = .ok (.iconst (-1), 1) := by decide +kernel
theorem dX8_at_31 : decode cX8_at 31 = .ok (.ireturn, 1) := by decide +kernel
theorem dX8_clear_0 : decode cX8_clear 0 = .ok (.aload_n 0, 1) := by decide +kernel
theorem dX8_clear_1 : decode cX8_clear 1 = .ok (.iconst 0, 1) := by decide +kernel
theorem dX8_clear_2 : decode cX8_clear 2 = .ok (.putfield 15, 3) := by decide +kernel
theorem dX8_clear_5 : decode cX8_clear 5 = .ok (.return_, 1) := by decide +kernel
theorem dX9_init_0 : decode cX9_init 0 = .ok (.aload_n 0, 1) := by decide +kernel
theorem dX9_init_1 : decode cX9_init 1 = .ok (.invokespecial 5, 3) := by decide +kernel
theorem dX9_init_4 : decode cX9_init 4 = .ok (.aload_n 0, 1) := by decide +kernel
theorem dX9_init_5 : decode cX9_init 5 = .ok (.ldc 11, 2) := by decide +kernel
theorem dX9_init_7 : decode cX9_init 7 = .ok (.newarray .long, 2) := by decide +kernel
theorem dX9_init_9 : decode cX9_init 9 = .ok (.putfield 12, 3) := by decide +kernel
theorem dX9_init_12 : decode cX9_init 12 = .ok (.aload_n 0, 1) := by decide +kernel
theorem dX9_init_13 : decode cX9_init 13 = .ok (.lconst 0, 1) := by decide +kernel
theorem dX9_init_14 : decode cX9_init 14 = .ok (.putfield 16, 3) := by decide +kernel
theorem dX9_init_17 : decode cX9_init 17 = .ok (.aload_n 0, 1) := by decide +kernel
theorem dX9_init_18 : decode cX9_init 18 = .ok (.aload_n 1, 1) := by decide +kernel
theorem dX9_init_19 : decode cX9_init 19 = .ok (.putfield 20, 3) := by decide +kernel
theorem dX9_init_22 : decode cX9_init 22 = .ok (.aload_n 0, 1) := by decide +kernel
theorem dX9_init_23 : decode cX9_init 23 = .ok (.aload_n 2, 1) := by decide +kernel
theorem dX9_init_24 : decode cX9_init 24 = .ok (.putfield 24, 3) := by decide +kernel
theorem dX9_init_27 : decode cX9_init 27 = .ok (.return_, 1) := by decide +kernel
theorem dX9_forget_0 : decode cX9_forget 0 = .ok (.aload_n 0, 1) := by decide +kernel
theorem dX9_forget_1 : decode cX9_forget 1 = .ok (.dup, 1) := by decide +kernel
theorem dX9_forget_2 : decode cX9_forget 2 = .ok (.getfield 16, 3) := by decide +kernel
theorem dX9_forget_5 : decode cX9_forget 5 = .ok (.lconst 1, 1) := by decide +kernel
theorem dX9_forget_6 : decode cX9_forget 6 = .ok (.ladd, 1) := by decide +kernel
theorem dX9_forget_7 : decode cX9_forget 7 = .ok (.putfield 16, 3) := by decide +kernel
theorem dX9_forget_10 : decode cX9_forget 10 = .ok (.return_, 1) := by decide +kernel
theorem dX9_number_0 : decode cX9_number 0 = .ok (.aload_n 0, 1) := by decide +kernel
theorem dX9_number_1 : decode cX9_number 1 = .ok (.aload_n 0, 1) := by decide +kernel
theorem dX9_number_2 : decode cX9_number 2 = .ok (.getfield 20, 3) := by decide +kernel
theorem dX9_number_5 : decode cX9_number 5 = .ok (.invokevirtual 28, 3) := by decide +kernel
theorem dX9_number_8 : decode cX9_number 8 = .ok (.iload_n 1, 1) := by decide +kernel
theorem dX9_number_9 : decode cX9_number 9 = .ok (.iload_n 2, 1) := by decide +kernel
theorem dX9_number_10 : decode cX9_number 10 = .ok (.invokevirtual 34, 3) := by decide +kernel
theorem dX9_number_13 : decode cX9_number 13 = .ok (.l2i, 1) := by decide +kernel
theorem dX9_number_14 : decode cX9_number 14 = .ok (.ireturn, 1) := by decide +kernel
theorem dX9_tally_0 : decode cX9_tally 0 = .ok (.iload_n 3, 1) := by decide +kernel
theorem dX9_tally_1 : decode cX9_tally 1 = .ok (.ifCond .le 16, 3) := by decide +kernel
theorem dX9_tally_4 : decode cX9_tally 4 = .ok (.aload_n 0, 1) := by decide +kernel
theorem dX9_tally_5 : decode cX9_tally 5 = .ok (.getfield 24, 3) := by decide +kernel
theorem dX9_tally_8 : decode cX9_tally 8 = .ok (.iload_n 1, 1) := by decide +kernel
theorem dX9_tally_9 : decode cX9_tally 9 = .ok (.iload_n 2, 1) := by decide +kernel
theorem dX9_tally_10 : decode cX9_tally 10 = .ok (.iload_n 3, 1) := by decide +kernel
theorem dX9_tally_11 : decode cX9_tally 11 = .ok (.invokevirtual 38, 3) := by decide +kernel
theorem dX9_tally_14 : decode cX9_tally 14 = .ok (.ifCond .ne 5, 3) := by decide +kernel
theorem dX9_tally_17 : decode cX9_tally 17 = .ok (.lconst 0, 1) := by decide +kernel
theorem dX9_tally_18 : decode cX9_tally 18 = .ok (.lreturn, 1) := by decide +kernel
theorem dX9_tally_19 : decode cX9_tally 19 = .ok (.iload_n 1, 1) := by decide +kernel
theorem dX9_tally_20 : decode cX9_tally 20 = .ok (.sipush 256, 3) := by decide +kernel
theorem dX9_tally_23 : decode cX9_tally 23 = .ok (.imul, 1) := by decide +kernel
theorem dX9_tally_24 : decode cX9_tally 24 = .ok (.iload_n 2, 1) := by decide +kernel
theorem dX9_tally_25 : decode cX9_tally 25 = .ok (.iadd, 1) := by decide +kernel
theorem dX9_tally_26 : decode cX9_tally 26 = .ok (.bipush 10, 2) := by decide +kernel
theorem dX9_tally_28 : decode cX9_tally 28 = .ok (.imul, 1) := by decide +kernel
theorem dX9_tally_29 : decode cX9_tally 29 = .ok (.iload_n 3, 1) := by decide +kernel
theorem dX9_tally_30 : decode cX9_tally 30 = .ok (.iadd, 1) := by decide +kernel
theorem dX9_tally_31 : decode cX9_tally 31 = .ok (.iconst 1, 1) := by decide +kernel
theorem dX9_tally_32 : decode cX9_tally 32 = .ok (.isub, 1) := by decide +kernel
theorem dX9_tally_33 : decode cX9_tally 33 = .ok (.istore 4, 2) := by decide +kernel
theorem dX9_tally_35 : decode cX9_tally 35 = .ok (.iload 4, 2) := by decide +kernel
theorem dX9_tally_37 : decode cX9_tally 37 = .ok (.ifCond .lt 13, 3) := by decide +kernel
theorem dX9_tally_40 : decode cX9_tally 40 = .ok (.iload 4, 2) := by decide +kernel
theorem dX9_tally_42 : decode cX9_tally 42 = .ok (.aload_n 0, 1) := by decide +kernel
theorem dX9_tally_43 : decode cX9_tally 43 = .ok (.getfield 12, 3) := by decide +kernel
theorem dX9_tally_46 : decode cX9_tally 46 = .ok (.arraylength, 1) := by decide +kernel
theorem dX9_tally_47 : decode cX9_tally 47 = .ok (.if_icmp .lt 5, 3) := by decide +kernel
theorem dX9_tally_50 : decode cX9_tally 50 = .ok (.lconst 0, 1) := by decide +kernel
theorem dX9_tally_51 : decode cX9_tally 51 = .ok (.lreturn, 1) := by decide +kernel
theorem dX9_tally_52 : decode cX9_tally 52 = .ok (.aload_n 0, 1) := by decide +kernel
theorem dX9_tally_53 : decode cX9_tally 53 = .ok (.getfield 12, 3) := by decide +kernel
theorem dX9_tally_56 : decode cX9_tally 56 = .ok (.iload 4, 2) := by decide +kernel
theorem dX9_tally_58 : decode cX9_tally 58 = .ok (.laload, 1) := by decide +kernel
theorem dX9_tally_59 : decode cX9_tally 59 = .ok (.bipush 32, 2) := by decide +kernel
theorem dX9_tally_61 : decode cX9_tally 61 = .ok (.lushr, 1) := by decide +kernel
theorem dX9_tally_62 : decode cX9_tally 62 = .ok (.aload_n 0, 1) := by decide +kernel
theorem dX9_tally_63 : decode cX9_tally 63 = .ok (.getfield 16, 3) := by decide +kernel
theorem dX9_tally_66 : decode cX9_tally 66 = .ok (.lcmp, 1) := by decide +kernel
theorem dX9_tally_67 : decode cX9_tally 67 = .ok (.ifCond .eq 25, 3) := by decide +kernel
theorem dX9_tally_70 : decode cX9_tally 70 = .ok (.aload_n 0, 1) := by decide +kernel
theorem dX9_tally_71 : decode cX9_tally 71 = .ok (.getfield 12, 3) := by decide +kernel
theorem dX9_tally_74 : decode cX9_tally 74 = .ok (.iload 4, 2) := by decide +kernel
theorem dX9_tally_76 : decode cX9_tally 76 = .ok (.aload_n 0, 1) := by decide +kernel
theorem dX9_tally_77 : decode cX9_tally 77 = .ok (.getfield 16, 3) := by decide +kernel
theorem dX9_tally_80 : decode cX9_tally 80 = .ok (.bipush 32, 2) := by decide +kernel
theorem dX9_tally_82 : decode cX9_tally 82 = .ok (.lshl, 1) := by decide +kernel
theorem dX9_tally_83 : decode cX9_tally 83 = .ok (.aload_n 0, 1) := by decide +kernel
theorem dX9_tally_84 : decode cX9_tally 84 = .ok (.iload_n 1, 1) := by decide +kernel
theorem dX9_tally_85 : decode cX9_tally 85 = .ok (.iload_n 2, 1) := by decide +kernel
theorem dX9_tally_86 : decode cX9_tally 86 = .ok (.iload_n 3, 1) := by decide +kernel
theorem dX9_tally_87 : decode cX9_tally 87 = .ok (.invokevirtual 44, 3) := by decide +kernel
theorem dX9_tally_90 : decode cX9_tally 90 = .ok (.lor, 1) := by decide +kernel
theorem dX9_tally_91 : decode cX9_tally 91 = .ok (.lastore, 1) := by decide +kernel
theorem dX9_tally_92 : decode cX9_tally 92 = .ok (.aload_n 0, 1) := by decide +kernel
theorem dX9_tally_93 : decode cX9_tally 93 = .ok (.getfield 12, 3) := by decide +kernel
theorem dX9_tally_96 : decode cX9_tally 96 = .ok (.iload 4, 2) := by decide +kernel
theorem dX9_tally_98 : decode cX9_tally 98 = .ok (.laload, 1) := by decide +kernel
theorem dX9_tally_99 : decode cX9_tally 99 = .ok (.ldc2_w 47, 3) := by decide +kernel
theorem dX9_tally_102 : decode cX9_tally 102 = .ok (.land, 1) := by decide +kernel
theorem dX9_tally_103 : decode cX9_tally 103 = .ok (.lreturn, 1) := by decide +kernel
theorem dX9_tallyByKind_0 : decode cX9_tallyByKind 0 = .ok (.aload_n 0, 1) := by decide +kernel
theorem dX9_tallyByKind_1 : decode cX9_tallyByKind 1 = .ok (.getfield 20, 3) := by decide +kernel
theorem dX9_tallyByKind_4 : decode cX9_tallyByKind 4 = .ok (.iload_n 1, 1) := by decide +kernel
theorem dX9_tallyByKind_5 : decode cX9_tallyByKind 5 = .ok (.invokevirtual 49, 3) := by decide +kernel
theorem dX9_tallyByKind_8 : decode cX9_tallyByKind 8 = .ok (.istore 4, 2) := by decide +kernel
theorem dX9_tallyByKind_10 : decode cX9_tallyByKind 10 = .ok (.aload_n 0, 1) := by decide +kernel
theorem dX9_tallyByKind_11 : decode cX9_tallyByKind 11 = .ok (.getfield 20, 3) := by decide +kernel
theorem dX9_tallyByKind_14 : decode cX9_tallyByKind 14 = .ok (.iload_n 1, 1) := by decide +kernel
theorem dX9_tallyByKind_15 : decode cX9_tallyByKind 15 = .ok (.invokevirtual 53, 3) := by decide +kernel
theorem dX9_tallyByKind_18 : decode cX9_tallyByKind 18 = .ok (.istore 5, 2) := by decide +kernel
theorem dX9_tallyByKind_20 : decode cX9_tallyByKind 20 = .ok (.aload_n 0, 1) := by decide +kernel
theorem dX9_tallyByKind_21 : decode cX9_tallyByKind 21 = .ok (.getfield 20, 3) := by decide +kernel
theorem dX9_tallyByKind_24 : decode cX9_tallyByKind 24 = .ok (.iload_n 1, 1) := by decide +kernel
theorem dX9_tallyByKind_25 : decode cX9_tallyByKind 25 = .ok (.invokevirtual 56, 3) := by decide +kernel
theorem dX9_tallyByKind_28 : decode cX9_tallyByKind 28 = .ok (.istore 6, 2) := by decide +kernel
theorem dX9_tallyByKind_30 : decode cX9_tallyByKind 30 = .ok (.iload 6, 2) := by decide +kernel
theorem dX9_tallyByKind_32 : decode cX9_tallyByKind 32 = .ok (.lookupswitch 162 #[(33, 70), (38, 92), (42, 81), (43, 117), (49, 68), (84, 68), (91, 142)], 68) := by decide +kernel
theorem dX9_tallyByKind_100 : decode cX9_tallyByKind 100 = .ok (.lconst 1, 1) := by decide +kernel
theorem dX9_tallyByKind_101 : decode cX9_tallyByKind 101 = .ok (.lreturn, 1) := by decide +kernel
theorem dX9_tallyByKind_102 : decode cX9_tallyByKind 102 = .ok (.aload_n 0, 1) := by decide +kernel
theorem dX9_tallyByKind_103 : decode cX9_tallyByKind 103 = .ok (.iload 4, 2) := by decide +kernel
theorem dX9_tallyByKind_105 : decode cX9_tallyByKind 105 = .ok (.iload_n 2, 1) := by decide +kernel
theorem dX9_tallyByKind_106 : decode cX9_tallyByKind 106 = .ok (.iload_n 3, 1) := by decide +kernel
theorem dX9_tallyByKind_107 : decode cX9_tallyByKind 107 = .ok (.iconst 1, 1) := by decide +kernel
theorem dX9_tallyByKind_108 : decode cX9_tallyByKind 108 = .ok (.isub, 1) := by decide +kernel
theorem dX9_tallyByKind_109 : decode cX9_tallyByKind 109 = .ok (.invokevirtual 34, 3) := by decide +kernel
theorem dX9_tallyByKind_112 : decode cX9_tallyByKind 112 = .ok (.lreturn, 1) := by decide +kernel
theorem dX9_tallyByKind_113 : decode cX9_tallyByKind 113 = .ok (.aload_n 0, 1) := by decide +kernel
theorem dX9_tallyByKind_114 : decode cX9_tallyByKind 114 = .ok (.iload 4, 2) := by decide +kernel
theorem dX9_tallyByKind_116 : decode cX9_tallyByKind 116 = .ok (.iload 5, 2) := by decide +kernel
theorem dX9_tallyByKind_118 : decode cX9_tallyByKind 118 = .ok (.iload_n 2, 1) := by decide +kernel
theorem dX9_tallyByKind_119 : decode cX9_tallyByKind 119 = .ok (.iload_n 3, 1) := by decide +kernel
theorem dX9_tallyByKind_120 : decode cX9_tallyByKind 120 = .ok (.invokevirtual 60, 3) := by decide +kernel
theorem dX9_tallyByKind_123 : decode cX9_tallyByKind 123 = .ok (.lreturn, 1) := by decide +kernel
theorem dX9_tallyByKind_124 : decode cX9_tallyByKind 124 = .ok (.aload_n 0, 1) := by decide +kernel
theorem dX9_tallyByKind_125 : decode cX9_tallyByKind 125 = .ok (.iload 4, 2) := by decide +kernel
theorem dX9_tallyByKind_127 : decode cX9_tallyByKind 127 = .ok (.iload_n 2, 1) := by decide +kernel
theorem dX9_tallyByKind_128 : decode cX9_tallyByKind 128 = .ok (.iload_n 3, 1) := by decide +kernel
theorem dX9_tallyByKind_129 : decode cX9_tallyByKind 129 = .ok (.iconst 1, 1) := by decide +kernel
theorem dX9_tallyByKind_130 : decode cX9_tallyByKind 130 = .ok (.isub, 1) := by decide +kernel
theorem dX9_tallyByKind_131 : decode cX9_tallyByKind 131 = .ok (.invokevirtual 34, 3) := by decide +kernel
theorem dX9_tallyByKind_134 : decode cX9_tallyByKind 134 = .ok (.aload_n 0, 1) := by decide +kernel
theorem dX9_tallyByKind_135 : decode cX9_tallyByKind 135 = .ok (.iload 5, 2) := by decide +kernel
theorem dX9_tallyByKind_137 : decode cX9_tallyByKind 137 = .ok (.iload_n 2, 1) := by decide +kernel
theorem dX9_tallyByKind_138 : decode cX9_tallyByKind 138 = .ok (.iload_n 3, 1) := by decide +kernel
theorem dX9_tallyByKind_139 : decode cX9_tallyByKind 139 = .ok (.iconst 1, 1) := by decide +kernel
theorem dX9_tallyByKind_140 : decode cX9_tallyByKind 140 = .ok (.isub, 1) := by decide +kernel
theorem dX9_tallyByKind_141 : decode cX9_tallyByKind 141 = .ok (.invokevirtual 34, 3) := by decide +kernel
theorem dX9_tallyByKind_144 : decode cX9_tallyByKind 144 = .ok (.lmul, 1) := by decide +kernel
theorem dX9_tallyByKind_145 : decode cX9_tallyByKind 145 = .ok (.invokestatic 64, 3) := by decide +kernel
theorem dX9_tallyByKind_148 : decode cX9_tallyByKind 148 = .ok (.lreturn, 1) := by decide +kernel
theorem dX9_tallyByKind_149 : decode cX9_tallyByKind 149 = .ok (.aload_n 0, 1) := by decide +kernel
theorem dX9_tallyByKind_150 : decode cX9_tallyByKind 150 = .ok (.iload 4, 2) := by decide +kernel
theorem dX9_tallyByKind_152 : decode cX9_tallyByKind 152 = .ok (.iload_n 2, 1) := by decide +kernel
theorem dX9_tallyByKind_153 : decode cX9_tallyByKind 153 = .ok (.iload_n 3, 1) := by decide +kernel
theorem dX9_tallyByKind_154 : decode cX9_tallyByKind 154 = .ok (.iconst 1, 1) := by decide +kernel
theorem dX9_tallyByKind_155 : decode cX9_tallyByKind 155 = .ok (.isub, 1) := by decide +kernel
theorem dX9_tallyByKind_156 : decode cX9_tallyByKind 156 = .ok (.invokevirtual 34, 3) := by decide +kernel
theorem dX9_tallyByKind_159 : decode cX9_tallyByKind 159 = .ok (.aload_n 0, 1) := by decide +kernel
theorem dX9_tallyByKind_160 : decode cX9_tallyByKind 160 = .ok (.iload 5, 2) := by decide +kernel
theorem dX9_tallyByKind_162 : decode cX9_tallyByKind 162 = .ok (.iload_n 2, 1) := by decide +kernel
theorem dX9_tallyByKind_163 : decode cX9_tallyByKind 163 = .ok (.iload_n 3, 1) := by decide +kernel
theorem dX9_tallyByKind_164 : decode cX9_tallyByKind 164 = .ok (.iconst 1, 1) := by decide +kernel
theorem dX9_tallyByKind_165 : decode cX9_tallyByKind 165 = .ok (.isub, 1) := by decide +kernel
theorem dX9_tallyByKind_166 : decode cX9_tallyByKind 166 = .ok (.invokevirtual 34, 3) := by decide +kernel
theorem dX9_tallyByKind_169 : decode cX9_tallyByKind 169 = .ok (.ladd, 1) := by decide +kernel
theorem dX9_tallyByKind_170 : decode cX9_tallyByKind 170 = .ok (.invokestatic 64, 3) := by decide +kernel
theorem dX9_tallyByKind_173 : decode cX9_tallyByKind 173 = .ok (.lreturn, 1) := by decide +kernel
theorem dX9_tallyByKind_174 : decode cX9_tallyByKind 174 = .ok (.aload_n 0, 1) := by decide +kernel
theorem dX9_tallyByKind_175 : decode cX9_tallyByKind 175 = .ok (.iload 4, 2) := by decide +kernel
theorem dX9_tallyByKind_177 : decode cX9_tallyByKind 177 = .ok (.iload_n 2, 1) := by decide +kernel
theorem dX9_tallyByKind_178 : decode cX9_tallyByKind 178 = .ok (.aload_n 0, 1) := by decide +kernel
theorem dX9_tallyByKind_179 : decode cX9_tallyByKind 179 = .ok (.getfield 20, 3) := by decide +kernel
theorem dX9_tallyByKind_182 : decode cX9_tallyByKind 182 = .ok (.iload_n 1, 1) := by decide +kernel
theorem dX9_tallyByKind_183 : decode cX9_tallyByKind 183 = .ok (.invokevirtual 68, 3) := by decide +kernel
theorem dX9_tallyByKind_186 : decode cX9_tallyByKind 186 = .ok (.ior, 1) := by decide +kernel
theorem dX9_tallyByKind_187 : decode cX9_tallyByKind 187 = .ok (.iload_n 3, 1) := by decide +kernel
theorem dX9_tallyByKind_188 : decode cX9_tallyByKind 188 = .ok (.iconst 1, 1) := by decide +kernel
theorem dX9_tallyByKind_189 : decode cX9_tallyByKind 189 = .ok (.isub, 1) := by decide +kernel
theorem dX9_tallyByKind_190 : decode cX9_tallyByKind 190 = .ok (.invokevirtual 34, 3) := by decide +kernel
theorem dX9_tallyByKind_193 : decode cX9_tallyByKind 193 = .ok (.lreturn, 1) := by decide +kernel
theorem dX9_tallyByKind_194 : decode cX9_tallyByKind 194 = .ok (.aload_n 0, 1) := by decide +kernel
theorem dX9_tallyByKind_195 : decode cX9_tallyByKind 195 = .ok (.iload 6, 2) := by decide +kernel
theorem dX9_tallyByKind_197 : decode cX9_tallyByKind 197 = .ok (.iload_n 2, 1) := by decide +kernel
theorem dX9_tallyByKind_198 : decode cX9_tallyByKind 198 = .ok (.iload_n 3, 1) := by decide +kernel
theorem dX9_tallyByKind_199 : decode cX9_tallyByKind 199 = .ok (.invokevirtual 71, 3) := by decide +kernel
theorem dX9_tallyByKind_202 : decode cX9_tallyByKind 202 = .ok (.lreturn, 1) := by decide +kernel
theorem dX9_tallySplits_0 : decode cX9_tallySplits 0 = .ok (.lconst 0, 1) := by decide +kernel
theorem dX9_tallySplits_1 : decode cX9_tallySplits 1 = .ok (.lstore 5, 2) := by decide +kernel
theorem dX9_tallySplits_3 : decode cX9_tallySplits 3 = .ok (.iconst 0, 1) := by decide +kernel
theorem dX9_tallySplits_4 : decode cX9_tallySplits 4 = .ok (.istore 7, 2) := by decide +kernel
theorem dX9_tallySplits_6 : decode cX9_tallySplits 6 = .ok (.iload_n 3, 1) := by decide +kernel
theorem dX9_tallySplits_7 : decode cX9_tallySplits 7 = .ok (.invokestatic 75, 3) := by decide +kernel
theorem dX9_tallySplits_10 : decode cX9_tallySplits 10 = .ok (.istore 8, 2) := by decide +kernel
theorem dX9_tallySplits_12 : decode cX9_tallySplits 12 = .ok (.iload 8, 2) := by decide +kernel
theorem dX9_tallySplits_14 : decode cX9_tallySplits 14 = .ok (.ifCond .le 78, 3) := by decide +kernel
theorem dX9_tallySplits_17 : decode cX9_tallySplits 17 = .ok (.aload_n 0, 1) := by decide +kernel
theorem dX9_tallySplits_18 : decode cX9_tallySplits 18 = .ok (.getfield 24, 3) := by decide +kernel
theorem dX9_tallySplits_21 : decode cX9_tallySplits 21 = .ok (.iload_n 1, 1) := by decide +kernel
theorem dX9_tallySplits_22 : decode cX9_tallySplits 22 = .ok (.iload 7, 2) := by decide +kernel
theorem dX9_tallySplits_24 : decode cX9_tallySplits 24 = .ok (.iload 4, 2) := by decide +kernel
theorem dX9_tallySplits_26 : decode cX9_tallySplits 26 = .ok (.iconst 1, 1) := by decide +kernel
theorem dX9_tallySplits_27 : decode cX9_tallySplits 27 = .ok (.isub, 1) := by decide +kernel
theorem dX9_tallySplits_28 : decode cX9_tallySplits 28 = .ok (.invokevirtual 38, 3) := by decide +kernel
theorem dX9_tallySplits_31 : decode cX9_tallySplits 31 = .ok (.ifCond .eq 47, 3) := by decide +kernel
theorem dX9_tallySplits_34 : decode cX9_tallySplits 34 = .ok (.aload_n 0, 1) := by decide +kernel
theorem dX9_tallySplits_35 : decode cX9_tallySplits 35 = .ok (.iload_n 2, 1) := by decide +kernel
theorem dX9_tallySplits_36 : decode cX9_tallySplits 36 = .ok (.iload_n 3, 1) := by decide +kernel
theorem dX9_tallySplits_37 : decode cX9_tallySplits 37 = .ok (.iload 7, 2) := by decide +kernel
theorem dX9_tallySplits_39 : decode cX9_tallySplits 39 = .ok (.ixor, 1) := by decide +kernel
theorem dX9_tallySplits_40 : decode cX9_tallySplits 40 = .ok (.iload 4, 2) := by decide +kernel
theorem dX9_tallySplits_42 : decode cX9_tallySplits 42 = .ok (.iconst 1, 1) := by decide +kernel
theorem dX9_tallySplits_43 : decode cX9_tallySplits 43 = .ok (.isub, 1) := by decide +kernel
theorem dX9_tallySplits_44 : decode cX9_tallySplits 44 = .ok (.invokevirtual 34, 3) := by decide +kernel
theorem dX9_tallySplits_47 : decode cX9_tallySplits 47 = .ok (.lstore 9, 2) := by decide +kernel
theorem dX9_tallySplits_49 : decode cX9_tallySplits 49 = .ok (.lload 9, 2) := by decide +kernel
theorem dX9_tallySplits_51 : decode cX9_tallySplits 51 = .ok (.lconst 0, 1) := by decide +kernel
theorem dX9_tallySplits_52 : decode cX9_tallySplits 52 = .ok (.lcmp, 1) := by decide +kernel
theorem dX9_tallySplits_53 : decode cX9_tallySplits 53 = .ok (.ifCond .eq 25, 3) := by decide +kernel
theorem dX9_tallySplits_56 : decode cX9_tallySplits 56 = .ok (.lload 5, 2) := by decide +kernel
theorem dX9_tallySplits_58 : decode cX9_tallySplits 58 = .ok (.aload_n 0, 1) := by decide +kernel
theorem dX9_tallySplits_59 : decode cX9_tallySplits 59 = .ok (.iload_n 1, 1) := by decide +kernel
theorem dX9_tallySplits_60 : decode cX9_tallySplits 60 = .ok (.iload 7, 2) := by decide +kernel
theorem dX9_tallySplits_62 : decode cX9_tallySplits 62 = .ok (.iload 4, 2) := by decide +kernel
theorem dX9_tallySplits_64 : decode cX9_tallySplits 64 = .ok (.iconst 1, 1) := by decide +kernel
theorem dX9_tallySplits_65 : decode cX9_tallySplits 65 = .ok (.isub, 1) := by decide +kernel
theorem dX9_tallySplits_66 : decode cX9_tallySplits 66 = .ok (.invokevirtual 34, 3) := by decide +kernel
theorem dX9_tallySplits_69 : decode cX9_tallySplits 69 = .ok (.lload 9, 2) := by decide +kernel
theorem dX9_tallySplits_71 : decode cX9_tallySplits 71 = .ok (.lmul, 1) := by decide +kernel
theorem dX9_tallySplits_72 : decode cX9_tallySplits 72 = .ok (.ladd, 1) := by decide +kernel
theorem dX9_tallySplits_73 : decode cX9_tallySplits 73 = .ok (.invokestatic 64, 3) := by decide +kernel
theorem dX9_tallySplits_76 : decode cX9_tallySplits 76 = .ok (.lstore 5, 2) := by decide +kernel
theorem dX9_tallySplits_78 : decode cX9_tallySplits 78 = .ok (.iload 7, 2) := by decide +kernel
theorem dX9_tallySplits_80 : decode cX9_tallySplits 80 = .ok (.iload_n 3, 1) := by decide +kernel
theorem dX9_tallySplits_81 : decode cX9_tallySplits 81 = .ok (.invokestatic 78, 3) := by decide +kernel
theorem dX9_tallySplits_84 : decode cX9_tallySplits 84 = .ok (.istore 7, 2) := by decide +kernel
theorem dX9_tallySplits_86 : decode cX9_tallySplits 86 = .ok (.iinc 8 (-1), 3) := by decide +kernel
theorem dX9_tallySplits_89 : decode cX9_tallySplits 89 = .ok (.goto (-77), 3) := by decide +kernel
theorem dX9_tallySplits_92 : decode cX9_tallySplits 92 = .ok (.lload 5, 2) := by decide +kernel
theorem dX9_tallySplits_94 : decode cX9_tallySplits 94 = .ok (.lreturn, 1) := by decide +kernel
theorem dX9_tallyAtom_0 : decode cX9_tallyAtom 0 = .ok (.lconst 0, 1) := by decide +kernel
theorem dX9_tallyAtom_1 : decode cX9_tallyAtom 1 = .ok (.lstore 4, 2) := by decide +kernel
theorem dX9_tallyAtom_3 : decode cX9_tallyAtom 3 = .ok (.iconst 0, 1) := by decide +kernel
theorem dX9_tallyAtom_4 : decode cX9_tallyAtom 4 = .ok (.istore 6, 2) := by decide +kernel
theorem dX9_tallyAtom_6 : decode cX9_tallyAtom 6 = .ok (.iload 6, 2) := by decide +kernel
theorem dX9_tallyAtom_8 : decode cX9_tallyAtom 8 = .ok (.bipush 12, 2) := by decide +kernel
theorem dX9_tallyAtom_10 : decode cX9_tallyAtom 10 = .ok (.if_icmp .ge 79, 3) := by decide +kernel
theorem dX9_tallyAtom_13 : decode cX9_tallyAtom 13 = .ok (.iload 6, 2) := by decide +kernel
theorem dX9_tallyAtom_15 : decode cX9_tallyAtom 15 = .ok (.iload_n 2, 1) := by decide +kernel
theorem dX9_tallyAtom_16 : decode cX9_tallyAtom 16 = .ok (.invokestatic 82, 3) := by decide +kernel
theorem dX9_tallyAtom_19 : decode cX9_tallyAtom 19 = .ok (.istore 7, 2) := by decide +kernel
theorem dX9_tallyAtom_21 : decode cX9_tallyAtom 21 = .ok (.iconst 0, 1) := by decide +kernel
theorem dX9_tallyAtom_22 : decode cX9_tallyAtom 22 = .ok (.istore 8, 2) := by decide +kernel
theorem dX9_tallyAtom_24 : decode cX9_tallyAtom 24 = .ok (.iload 8, 2) := by decide +kernel
theorem dX9_tallyAtom_26 : decode cX9_tallyAtom 26 = .ok (.iconst 3, 1) := by decide +kernel
theorem dX9_tallyAtom_27 : decode cX9_tallyAtom 27 = .ok (.if_icmp .ge 56, 3) := by decide +kernel
theorem dX9_tallyAtom_30 : decode cX9_tallyAtom 30 = .ok (.iload 7, 2) := by decide +kernel
theorem dX9_tallyAtom_32 : decode cX9_tallyAtom 32 = .ok (.iconst (-1), 1) := by decide +kernel
theorem dX9_tallyAtom_33 : decode cX9_tallyAtom 33 = .ok (.if_icmp .eq 50, 3) := by decide +kernel
theorem dX9_tallyAtom_36 : decode cX9_tallyAtom 36 = .ok (.aload_n 0, 1) := by decide +kernel
theorem dX9_tallyAtom_37 : decode cX9_tallyAtom 37 = .ok (.getfield 20, 3) := by decide +kernel
theorem dX9_tallyAtom_40 : decode cX9_tallyAtom 40 = .ok (.iload 6, 2) := by decide +kernel
theorem dX9_tallyAtom_42 : decode cX9_tallyAtom 42 = .ok (.iload 8, 2) := by decide +kernel
theorem dX9_tallyAtom_44 : decode cX9_tallyAtom 44 = .ok (.iload_n 1, 1) := by decide +kernel
theorem dX9_tallyAtom_45 : decode cX9_tallyAtom 45 = .ok (.invokevirtual 85, 3) := by decide +kernel
theorem dX9_tallyAtom_48 : decode cX9_tallyAtom 48 = .ok (.ifCond .eq 29, 3) := by decide +kernel
theorem dX9_tallyAtom_51 : decode cX9_tallyAtom 51 = .ok (.lload 4, 2) := by decide +kernel
theorem dX9_tallyAtom_53 : decode cX9_tallyAtom 53 = .ok (.aload_n 0, 1) := by decide +kernel
theorem dX9_tallyAtom_54 : decode cX9_tallyAtom 54 = .ok (.aload_n 0, 1) := by decide +kernel
theorem dX9_tallyAtom_55 : decode cX9_tallyAtom 55 = .ok (.getfield 20, 3) := by decide +kernel
theorem dX9_tallyAtom_58 : decode cX9_tallyAtom 58 = .ok (.iload 6, 2) := by decide +kernel
theorem dX9_tallyAtom_60 : decode cX9_tallyAtom 60 = .ok (.iload 8, 2) := by decide +kernel
theorem dX9_tallyAtom_62 : decode cX9_tallyAtom 62 = .ok (.invokevirtual 89, 3) := by decide +kernel
theorem dX9_tallyAtom_65 : decode cX9_tallyAtom 65 = .ok (.iload 7, 2) := by decide +kernel
theorem dX9_tallyAtom_67 : decode cX9_tallyAtom 67 = .ok (.iload_n 3, 1) := by decide +kernel
theorem dX9_tallyAtom_68 : decode cX9_tallyAtom 68 = .ok (.invokevirtual 92, 3) := by decide +kernel
theorem dX9_tallyAtom_71 : decode cX9_tallyAtom 71 = .ok (.ladd, 1) := by decide +kernel
theorem dX9_tallyAtom_72 : decode cX9_tallyAtom 72 = .ok (.invokestatic 64, 3) := by decide +kernel
theorem dX9_tallyAtom_75 : decode cX9_tallyAtom 75 = .ok (.lstore 4, 2) := by decide +kernel
theorem dX9_tallyAtom_77 : decode cX9_tallyAtom 77 = .ok (.iinc 8 1, 3) := by decide +kernel
theorem dX9_tallyAtom_80 : decode cX9_tallyAtom 80 = .ok (.goto (-56), 3) := by decide +kernel
theorem dX9_tallyAtom_83 : decode cX9_tallyAtom 83 = .ok (.iinc 6 1, 3) := by decide +kernel
theorem dX9_tallyAtom_86 : decode cX9_tallyAtom 86 = .ok (.goto (-80), 3) := by decide +kernel
theorem dX9_tallyAtom_89 : decode cX9_tallyAtom 89 = .ok (.lload 4, 2) := by decide +kernel
theorem dX9_tallyAtom_91 : decode cX9_tallyAtom 91 = .ok (.lreturn, 1) := by decide +kernel
theorem dX9_tallyFace_0 : decode cX9_tallyFace 0 = .ok (.iload_n 1, 1) := by decide +kernel
theorem dX9_tallyFace_1 : decode cX9_tallyFace 1 = .ok (.iconst (-1), 1) := by decide +kernel
theorem dX9_tallyFace_2 : decode cX9_tallyFace 2 = .ok (.if_icmp .ne 13, 3) := by decide +kernel
theorem dX9_tallyFace_5 : decode cX9_tallyFace 5 = .ok (.iload_n 2, 1) := by decide +kernel
theorem dX9_tallyFace_6 : decode cX9_tallyFace 6 = .ok (.ifCond .ne 7, 3) := by decide +kernel
theorem dX9_tallyFace_9 : decode cX9_tallyFace 9 = .ok (.lconst 1, 1) := by decide +kernel
theorem dX9_tallyFace_10 : decode cX9_tallyFace 10 = .ok (.goto 4, 3) := by decide +kernel
theorem dX9_tallyFace_13 : decode cX9_tallyFace 13 = .ok (.lconst 0, 1) := by decide +kernel
theorem dX9_tallyFace_14 : decode cX9_tallyFace 14 = .ok (.lreturn, 1) := by decide +kernel
theorem dX9_tallyFace_15 : decode cX9_tallyFace 15 = .ok (.aload_n 0, 1) := by decide +kernel
theorem dX9_tallyFace_16 : decode cX9_tallyFace 16 = .ok (.iload_n 1, 1) := by decide +kernel
theorem dX9_tallyFace_17 : decode cX9_tallyFace 17 = .ok (.iload_n 2, 1) := by decide +kernel
theorem dX9_tallyFace_18 : decode cX9_tallyFace 18 = .ok (.iload_n 3, 1) := by decide +kernel
theorem dX9_tallyFace_19 : decode cX9_tallyFace 19 = .ok (.iconst 1, 1) := by decide +kernel
theorem dX9_tallyFace_20 : decode cX9_tallyFace 20 = .ok (.isub, 1) := by decide +kernel
theorem dX9_tallyFace_21 : decode cX9_tallyFace 21 = .ok (.invokevirtual 34, 3) := by decide +kernel
theorem dX9_tallyFace_24 : decode cX9_tallyFace 24 = .ok (.lreturn, 1) := by decide +kernel
theorem dX9_capped_0 : decode cX9_capped 0 = .ok (.lload_n 0, 1) := by decide +kernel
theorem dX9_capped_1 : decode cX9_capped 1 = .ok (.ldc2_w 95, 3) := by decide +kernel
theorem dX9_capped_4 : decode cX9_capped 4 = .ok (.invokestatic 97, 3) := by decide +kernel
theorem dX9_capped_7 : decode cX9_capped 7 = .ok (.lreturn, 1) := by decide +kernel
theorem dX10_init_0 : decode cX10_init 0 = .ok (.aload_n 0, 1) := by decide +kernel
theorem dX10_init_1 : decode cX10_init 1 = .ok (.invokespecial 3, 3) := by decide +kernel
theorem dX10_init_4 : decode cX10_init 4 = .ok (.aload_n 0, 1) := by decide +kernel
theorem dX10_init_5 : decode cX10_init 5 = .ok (.new 9, 3) := by decide +kernel
theorem dX10_init_8 : decode cX10_init 8 = .ok (.dup, 1) := by decide +kernel
theorem dX10_init_9 : decode cX10_init 9 = .ok (.invokespecial 11, 3) := by decide +kernel
theorem dX10_init_12 : decode cX10_init 12 = .ok (.putfield 12, 3) := by decide +kernel
theorem dX10_init_15 : decode cX10_init 15 = .ok (.aload_n 0, 1) := by decide +kernel
theorem dX10_init_16 : decode cX10_init 16 = .ok (.new 16, 3) := by decide +kernel
theorem dX10_init_19 : decode cX10_init 19 = .ok (.dup, 1) := by decide +kernel
theorem dX10_init_20 : decode cX10_init 20 = .ok (.invokespecial 18, 3) := by decide +kernel
theorem dX10_init_23 : decode cX10_init 23 = .ok (.putfield 19, 3) := by decide +kernel
theorem dX10_init_26 : decode cX10_init 26 = .ok (.aload_n 0, 1) := by decide +kernel
theorem dX10_init_27 : decode cX10_init 27 = .ok (.iconst 2, 1) := by decide +kernel
theorem dX10_init_28 : decode cX10_init 28 = .ok (.anewarray 16, 3) := by decide +kernel
theorem dX10_init_31 : decode cX10_init 31 = .ok (.putfield 23, 3) := by decide +kernel
theorem dX10_init_34 : decode cX10_init 34 = .ok (.aload_n 0, 1) := by decide +kernel
theorem dX10_init_35 : decode cX10_init 35 = .ok (.new 27, 3) := by decide +kernel
theorem dX10_init_38 : decode cX10_init 38 = .ok (.dup, 1) := by decide +kernel
theorem dX10_init_39 : decode cX10_init 39 = .ok (.invokespecial 29, 3) := by decide +kernel
theorem dX10_init_42 : decode cX10_init 42 = .ok (.putfield 30, 3) := by decide +kernel
theorem dX10_init_45 : decode cX10_init 45 = .ok (.aload_n 0, 1) := by decide +kernel
theorem dX10_init_46 : decode cX10_init 46 = .ok (.new 27, 3) := by decide +kernel
theorem dX10_init_49 : decode cX10_init 49 = .ok (.dup, 1) := by decide +kernel
theorem dX10_init_50 : decode cX10_init 50 = .ok (.invokespecial 29, 3) := by decide +kernel
theorem dX10_init_53 : decode cX10_init 53 = .ok (.putfield 34, 3) := by decide +kernel
theorem dX10_init_56 : decode cX10_init 56 = .ok (.aload_n 0, 1) := by decide +kernel
theorem dX10_init_57 : decode cX10_init 57 = .ok (.new 37, 3) := by decide +kernel
theorem dX10_init_60 : decode cX10_init 60 = .ok (.dup, 1) := by decide +kernel
theorem dX10_init_61 : decode cX10_init 61 = .ok (.aload_n 0, 1) := by decide +kernel
theorem dX10_init_62 : decode cX10_init 62 = .ok (.getfield 34, 3) := by decide +kernel
theorem dX10_init_65 : decode cX10_init 65 = .ok (.invokespecial 39, 3) := by decide +kernel
theorem dX10_init_68 : decode cX10_init 68 = .ok (.putfield 42, 3) := by decide +kernel
theorem dX10_init_71 : decode cX10_init 71 = .ok (.aload_n 0, 1) := by decide +kernel
theorem dX10_init_72 : decode cX10_init 72 = .ok (.new 46, 3) := by decide +kernel
theorem dX10_init_75 : decode cX10_init 75 = .ok (.dup, 1) := by decide +kernel
theorem dX10_init_76 : decode cX10_init 76 = .ok (.aload_n 0, 1) := by decide +kernel
theorem dX10_init_77 : decode cX10_init 77 = .ok (.getfield 34, 3) := by decide +kernel
theorem dX10_init_80 : decode cX10_init 80 = .ok (.aload_n 0, 1) := by decide +kernel
theorem dX10_init_81 : decode cX10_init 81 = .ok (.getfield 42, 3) := by decide +kernel
theorem dX10_init_84 : decode cX10_init 84 = .ok (.invokespecial 48, 3) := by decide +kernel
theorem dX10_init_87 : decode cX10_init 87 = .ok (.putfield 51, 3) := by decide +kernel
theorem dX10_init_90 : decode cX10_init 90 = .ok (.aload_n 0, 1) := by decide +kernel
theorem dX10_init_91 : decode cX10_init 91 = .ok (.new 55, 3) := by decide +kernel
theorem dX10_init_94 : decode cX10_init 94 = .ok (.dup, 1) := by decide +kernel
theorem dX10_init_95 : decode cX10_init 95 = .ok (.aload_n 0, 1) := by decide +kernel
theorem dX10_init_96 : decode cX10_init 96 = .ok (.getfield 34, 3) := by decide +kernel
theorem dX10_init_99 : decode cX10_init 99 = .ok (.aload_n 0, 1) := by decide +kernel
theorem dX10_init_100 : decode cX10_init 100 = .ok (.getfield 42, 3) := by decide +kernel
theorem dX10_init_103 : decode cX10_init 103 = .ok (.invokespecial 57, 3) := by decide +kernel
theorem dX10_init_106 : decode cX10_init 106 = .ok (.putfield 58, 3) := by decide +kernel
theorem dX10_init_109 : decode cX10_init 109 = .ok (.aload_n 0, 1) := by decide +kernel
theorem dX10_init_110 : decode cX10_init 110 = .ok (.new 62, 3) := by decide +kernel
theorem dX10_init_113 : decode cX10_init 113 = .ok (.dup, 1) := by decide +kernel
theorem dX10_init_114 : decode cX10_init 114 = .ok (.invokespecial 64, 3) := by decide +kernel
theorem dX10_init_117 : decode cX10_init 117 = .ok (.putfield 65, 3) := by decide +kernel
theorem dX10_init_120 : decode cX10_init 120 = .ok (.aload_n 0, 1) := by decide +kernel
theorem dX10_init_121 : decode cX10_init 121 = .ok (.new 69, 3) := by decide +kernel
theorem dX10_init_124 : decode cX10_init 124 = .ok (.dup, 1) := by decide +kernel
theorem dX10_init_125 : decode cX10_init 125 = .ok (.aload_n 0, 1) := by decide +kernel
theorem dX10_init_126 : decode cX10_init 126 = .ok (.getfield 34, 3) := by decide +kernel
theorem dX10_init_129 : decode cX10_init 129 = .ok (.aload_n 0, 1) := by decide +kernel
theorem dX10_init_130 : decode cX10_init 130 = .ok (.getfield 65, 3) := by decide +kernel
theorem dX10_init_133 : decode cX10_init 133 = .ok (.invokespecial 71, 3) := by decide +kernel
theorem dX10_init_136 : decode cX10_init 136 = .ok (.putfield 74, 3) := by decide +kernel
theorem dX10_init_139 : decode cX10_init 139 = .ok (.aload_n 0, 1) := by decide +kernel
theorem dX10_init_140 : decode cX10_init 140 = .ok (.bipush (-6), 2) := by decide +kernel
theorem dX10_init_142 : decode cX10_init 142 = .ok (.putfield 78, 3) := by decide +kernel
theorem dX10_init_145 : decode cX10_init 145 = .ok (.aload_n 0, 1) := by decide +kernel
theorem dX10_init_146 : decode cX10_init 146 = .ok (.iconst 1, 1) := by decide +kernel
theorem dX10_init_147 : decode cX10_init 147 = .ok (.putfield 82, 3) := by decide +kernel
theorem dX10_init_150 : decode cX10_init 150 = .ok (.return_, 1) := by decide +kernel
theorem dX10_say_0 : decode cX10_say 0 = .ok (.iload_n 1, 1) := by decide +kernel
theorem dX10_say_1 : decode cX10_say 1 = .ok (.bipush 33, 2) := by decide +kernel
theorem dX10_say_3 : decode cX10_say 3 = .ok (.if_icmp .lt 9, 3) := by decide +kernel
theorem dX10_say_6 : decode cX10_say 6 = .ok (.iload_n 1, 1) := by decide +kernel
theorem dX10_say_7 : decode cX10_say 7 = .ok (.bipush 126, 2) := by decide +kernel
theorem dX10_say_9 : decode cX10_say 9 = .ok (.if_icmp .le 6, 3) := by decide +kernel
theorem dX10_say_12 : decode cX10_say 12 = .ok (.bipush (-2), 2) := by decide +kernel
theorem dX10_say_14 : decode cX10_say 14 = .ok (.ireturn, 1) := by decide +kernel
theorem dX10_say_15 : decode cX10_say 15 = .ok (.aload_n 0, 1) := by decide +kernel
theorem dX10_say_16 : decode cX10_say 16 = .ok (.getfield 12, 3) := by decide +kernel
theorem dX10_say_19 : decode cX10_say 19 = .ok (.iload_n 1, 1) := by decide +kernel
theorem dX10_say_20 : decode cX10_say 20 = .ok (.i2c, 1) := by decide +kernel
theorem dX10_say_21 : decode cX10_say 21 = .ok (.invokevirtual 86, 3) := by decide +kernel
theorem dX10_say_24 : decode cX10_say 24 = .ok (.ifCond .eq 13, 3) := by decide +kernel
theorem dX10_say_27 : decode cX10_say 27 = .ok (.aload_n 0, 1) := by decide +kernel
theorem dX10_say_28 : decode cX10_say 28 = .ok (.getfield 12, 3) := by decide +kernel
theorem dX10_say_31 : decode cX10_say 31 = .ok (.invokevirtual 90, 3) := by decide +kernel
theorem dX10_say_34 : decode cX10_say 34 = .ok (.goto 5, 3) := by decide +kernel
theorem dX10_say_37 : decode cX10_say 37 = .ok (.bipush (-4), 2) := by decide +kernel
theorem dX10_say_39 : decode cX10_say 39 = .ok (.ireturn, 1) := by decide +kernel
theorem dX10_wipe_0 : decode cX10_wipe 0 = .ok (.aload_n 0, 1) := by decide +kernel
theorem dX10_wipe_1 : decode cX10_wipe 1 = .ok (.getfield 12, 3) := by decide +kernel
theorem dX10_wipe_4 : decode cX10_wipe 4 = .ok (.invokevirtual 90, 3) := by decide +kernel
theorem dX10_wipe_7 : decode cX10_wipe 7 = .ok (.istore_n 1, 1) := by decide +kernel
theorem dX10_wipe_8 : decode cX10_wipe 8 = .ok (.aload_n 0, 1) := by decide +kernel
theorem dX10_wipe_9 : decode cX10_wipe 9 = .ok (.getfield 12, 3) := by decide +kernel
theorem dX10_wipe_12 : decode cX10_wipe 12 = .ok (.invokevirtual 94, 3) := by decide +kernel
theorem dX10_wipe_15 : decode cX10_wipe 15 = .ok (.iload_n 1, 1) := by decide +kernel
theorem dX10_wipe_16 : decode cX10_wipe 16 = .ok (.ireturn, 1) := by decide +kernel
theorem dX10_resource_0 : decode cX10_resource 0 = .ok (.aload_n 0, 1) := by decide +kernel
theorem dX10_resource_1 : decode cX10_resource 1 = .ok (.iconst 1, 1) := by decide +kernel
theorem dX10_resource_2 : decode cX10_resource 2 = .ok (.iconst 5, 1) := by decide +kernel
theorem dX10_resource_3 : decode cX10_resource 3 = .ok (.invokevirtual 97, 3) := by decide +kernel
theorem dX10_resource_6 : decode cX10_resource 6 = .ok (.ireturn, 1) := by decide +kernel
theorem dX10_well_0 : decode cX10_well 0 = .ok (.aload_n 0, 1) := by decide +kernel
theorem dX10_well_1 : decode cX10_well 1 = .ok (.bipush 6, 2) := by decide +kernel
theorem dX10_well_3 : decode cX10_well 3 = .ok (.iconst 4, 1) := by decide +kernel
theorem dX10_well_4 : decode cX10_well 4 = .ok (.invokevirtual 97, 3) := by decide +kernel
theorem dX10_well_7 : decode cX10_well 7 = .ok (.ireturn, 1) := by decide +kernel
theorem dX10_goal_0 : decode cX10_goal 0 = .ok (.aload_n 0, 1) := by decide +kernel
theorem dX10_goal_1 : decode cX10_goal 1 = .ok (.iconst 0, 1) := by decide +kernel
theorem dX10_goal_2 : decode cX10_goal 2 = .ok (.invokevirtual 101, 3) := by decide +kernel
theorem dX10_goal_5 : decode cX10_goal 5 = .ok (.astore_n 1, 1) := by decide +kernel
theorem dX10_goal_6 : decode cX10_goal 6 = .ok (.aload_n 1, 1) := by decide +kernel
theorem dX10_goal_7 : decode cX10_goal 7 = .ok (.ifnonnull 6, 3) := by decide +kernel
theorem dX10_goal_10 : decode cX10_goal 10 = .ok (.bipush (-7), 2) := by decide +kernel
theorem dX10_goal_12 : decode cX10_goal 12 = .ok (.ireturn, 1) := by decide +kernel
theorem dX10_goal_13 : decode cX10_goal 13 = .ok (.aload_n 0, 1) := by decide +kernel
theorem dX10_goal_14 : decode cX10_goal 14 = .ok (.getfield 19, 3) := by decide +kernel
theorem dX10_goal_17 : decode cX10_goal 17 = .ok (.iconst 0, 1) := by decide +kernel
theorem dX10_goal_18 : decode cX10_goal 18 = .ok (.aload_n 1, 1) := by decide +kernel
theorem dX10_goal_19 : decode cX10_goal 19 = .ok (.invokevirtual 105, 3) := by decide +kernel
theorem dX10_goal_22 : decode cX10_goal 22 = .ok (.ifCond .ne 6, 3) := by decide +kernel
theorem dX10_goal_25 : decode cX10_goal 25 = .ok (.bipush (-4), 2) := by decide +kernel
theorem dX10_goal_27 : decode cX10_goal 27 = .ok (.ireturn, 1) := by decide +kernel
theorem dX10_goal_28 : decode cX10_goal 28 = .ok (.aload_n 0, 1) := by decide +kernel
theorem dX10_goal_29 : decode cX10_goal 29 = .ok (.iconst 0, 1) := by decide +kernel
theorem dX10_goal_30 : decode cX10_goal 30 = .ok (.aload_n 1, 1) := by decide +kernel
theorem dX10_goal_31 : decode cX10_goal 31 = .ok (.invokevirtual 109, 3) := by decide +kernel
theorem dX10_goal_34 : decode cX10_goal 34 = .ok (.aload_n 1, 1) := by decide +kernel
theorem dX10_goal_35 : decode cX10_goal 35 = .ok (.invokevirtual 113, 3) := by decide +kernel
theorem dX10_goal_38 : decode cX10_goal 38 = .ok (.ireturn, 1) := by decide +kernel
theorem dX10_fault_0 : decode cX10_fault 0 = .ok (.aload_n 0, 1) := by decide +kernel
theorem dX10_fault_1 : decode cX10_fault 1 = .ok (.getfield 78, 3) := by decide +kernel
theorem dX10_fault_4 : decode cX10_fault 4 = .ok (.ireturn, 1) := by decide +kernel
theorem dX10_drop_0 : decode cX10_drop 0 = .ok (.iload_n 1, 1) := by decide +kernel
theorem dX10_drop_1 : decode cX10_drop 1 = .ok (.tableswitch 49 0 2 #[27, 35, 44], 27) := by decide +kernel
theorem dX10_drop_28 : decode cX10_drop 28 = .ok (.aload_n 0, 1) := by decide +kernel
theorem dX10_drop_29 : decode cX10_drop 29 = .ok (.iconst 1, 1) := by decide +kernel
theorem dX10_drop_30 : decode cX10_drop 30 = .ok (.iconst 5, 1) := by decide +kernel
theorem dX10_drop_31 : decode cX10_drop 31 = .ok (.iload_n 2, 1) := by decide +kernel
theorem dX10_drop_32 : decode cX10_drop 32 = .ok (.invokevirtual 118, 3) := by decide +kernel
theorem dX10_drop_35 : decode cX10_drop 35 = .ok (.ireturn, 1) := by decide +kernel
theorem dX10_drop_36 : decode cX10_drop 36 = .ok (.aload_n 0, 1) := by decide +kernel
theorem dX10_drop_37 : decode cX10_drop 37 = .ok (.bipush 6, 2) := by decide +kernel
theorem dX10_drop_39 : decode cX10_drop 39 = .ok (.iconst 4, 1) := by decide +kernel
theorem dX10_drop_40 : decode cX10_drop 40 = .ok (.iload_n 2, 1) := by decide +kernel
theorem dX10_drop_41 : decode cX10_drop 41 = .ok (.invokevirtual 118, 3) := by decide +kernel
theorem dX10_drop_44 : decode cX10_drop 44 = .ok (.ireturn, 1) := by decide +kernel
theorem dX10_drop_45 : decode cX10_drop 45 = .ok (.aload_n 0, 1) := by decide +kernel
theorem dX10_drop_46 : decode cX10_drop 46 = .ok (.invokevirtual 122, 3) := by decide +kernel
theorem dX10_drop_49 : decode cX10_drop 49 = .ok (.ireturn, 1) := by decide +kernel
theorem dX10_drop_50 : decode cX10_drop 50 = .ok (.bipush (-2), 2) := by decide +kernel
theorem dX10_drop_52 : decode cX10_drop 52 = .ok (.ireturn, 1) := by decide +kernel
theorem dX10_height_0 : decode cX10_height 0 = .ok (.aload_n 0, 1) := by decide +kernel
theorem dX10_height_1 : decode cX10_height 1 = .ok (.iload_n 1, 1) := by decide +kernel
theorem dX10_height_2 : decode cX10_height 2 = .ok (.invokevirtual 125, 3) := by decide +kernel
theorem dX10_height_5 : decode cX10_height 5 = .ok (.ifCond .ne 5, 3) := by decide +kernel
theorem dX10_height_8 : decode cX10_height 8 = .ok (.iconst (-1), 1) := by decide +kernel
theorem dX10_height_9 : decode cX10_height 9 = .ok (.ireturn, 1) := by decide +kernel
theorem dX10_height_10 : decode cX10_height 10 = .ok (.aload_n 0, 1) := by decide +kernel
theorem dX10_height_11 : decode cX10_height 11 = .ok (.invokevirtual 129, 3) := by decide +kernel
theorem dX10_height_14 : decode cX10_height 14 = .ok (.ifCond .ne 6, 3) := by decide +kernel
theorem dX10_height_17 : decode cX10_height 17 = .ok (.bipush (-3), 2) := by decide +kernel
theorem dX10_height_19 : decode cX10_height 19 = .ok (.ireturn, 1) := by decide +kernel
theorem dX10_height_20 : decode cX10_height 20 = .ok (.aload_n 0, 1) := by decide +kernel
theorem dX10_height_21 : decode cX10_height 21 = .ok (.invokevirtual 133, 3) := by decide +kernel
theorem dX10_height_24 : decode cX10_height 24 = .ok (.aload_n 0, 1) := by decide +kernel
theorem dX10_height_25 : decode cX10_height 25 = .ok (.getfield 42, 3) := by decide +kernel
theorem dX10_height_28 : decode cX10_height 28 = .ok (.aload_n 0, 1) := by decide +kernel
theorem dX10_height_29 : decode cX10_height 29 = .ok (.getfield 34, 3) := by decide +kernel
theorem dX10_height_32 : decode cX10_height 32 = .ok (.invokevirtual 136, 3) := by decide +kernel
theorem dX10_height_35 : decode cX10_height 35 = .ok (.iload_n 1, 1) := by decide +kernel
theorem dX10_height_36 : decode cX10_height 36 = .ok (.invokevirtual 139, 3) := by decide +kernel
theorem dX10_height_39 : decode cX10_height 39 = .ok (.ireturn, 1) := by decide +kernel
theorem dX10_left_0 : decode cX10_left 0 = .ok (.iload_n 1, 1) := by decide +kernel
theorem dX10_left_1 : decode cX10_left 1 = .ok (.ifCond .lt 14, 3) := by decide +kernel
theorem dX10_left_4 : decode cX10_left 4 = .ok (.iload_n 1, 1) := by decide +kernel
theorem dX10_left_5 : decode cX10_left 5 = .ok (.bipush 10, 2) := by decide +kernel
theorem dX10_left_7 : decode cX10_left 7 = .ok (.if_icmp .gt 8, 3) := by decide +kernel
theorem dX10_left_10 : decode cX10_left 10 = .ok (.iload_n 2, 1) := by decide +kernel
theorem dX10_left_11 : decode cX10_left 11 = .ok (.iconst (-1), 1) := by decide +kernel
theorem dX10_left_12 : decode cX10_left 12 = .ok (.if_icmp .ge 6, 3) := by decide +kernel
theorem dX10_left_15 : decode cX10_left 15 = .ok (.bipush (-2), 2) := by decide +kernel
theorem dX10_left_17 : decode cX10_left 17 = .ok (.ireturn, 1) := by decide +kernel
theorem dX10_left_18 : decode cX10_left 18 = .ok (.aload_n 0, 1) := by decide +kernel
theorem dX10_left_19 : decode cX10_left 19 = .ok (.invokevirtual 129, 3) := by decide +kernel
theorem dX10_left_22 : decode cX10_left 22 = .ok (.ifCond .ne 6, 3) := by decide +kernel
theorem dX10_left_25 : decode cX10_left 25 = .ok (.bipush (-3), 2) := by decide +kernel
theorem dX10_left_27 : decode cX10_left 27 = .ok (.ireturn, 1) := by decide +kernel
theorem dX10_left_28 : decode cX10_left 28 = .ok (.aload_n 0, 1) := by decide +kernel
theorem dX10_left_29 : decode cX10_left 29 = .ok (.invokevirtual 133, 3) := by decide +kernel
theorem dX10_left_32 : decode cX10_left 32 = .ok (.aload_n 0, 1) := by decide +kernel
theorem dX10_left_33 : decode cX10_left 33 = .ok (.invokevirtual 142, 3) := by decide +kernel
theorem dX10_left_36 : decode cX10_left 36 = .ok (.istore_n 3, 1) := by decide +kernel
theorem dX10_left_37 : decode cX10_left 37 = .ok (.iconst 0, 1) := by decide +kernel
theorem dX10_left_38 : decode cX10_left 38 = .ok (.istore 4, 2) := by decide +kernel
theorem dX10_left_40 : decode cX10_left 40 = .ok (.iconst 0, 1) := by decide +kernel
theorem dX10_left_41 : decode cX10_left 41 = .ok (.istore 5, 2) := by decide +kernel
theorem dX10_left_43 : decode cX10_left 43 = .ok (.iload 5, 2) := by decide +kernel
theorem dX10_left_45 : decode cX10_left 45 = .ok (.iload_n 3, 1) := by decide +kernel
theorem dX10_left_46 : decode cX10_left 46 = .ok (.if_icmp .gt 54, 3) := by decide +kernel
theorem dX10_left_49 : decode cX10_left 49 = .ok (.iload 5, 2) := by decide +kernel
theorem dX10_left_51 : decode cX10_left 51 = .ok (.iload_n 3, 1) := by decide +kernel
theorem dX10_left_52 : decode cX10_left 52 = .ok (.iconst (-1), 1) := by decide +kernel
theorem dX10_left_53 : decode cX10_left 53 = .ok (.ixor, 1) := by decide +kernel
theorem dX10_left_54 : decode cX10_left 54 = .ok (.iand, 1) := by decide +kernel
theorem dX10_left_55 : decode cX10_left 55 = .ok (.ifCond .ne 39, 3) := by decide +kernel
theorem dX10_left_58 : decode cX10_left 58 = .ok (.aload_n 0, 1) := by decide +kernel
theorem dX10_left_59 : decode cX10_left 59 = .ok (.getfield 42, 3) := by decide +kernel
theorem dX10_left_62 : decode cX10_left 62 = .ok (.aload_n 0, 1) := by decide +kernel
theorem dX10_left_63 : decode cX10_left 63 = .ok (.getfield 34, 3) := by decide +kernel
theorem dX10_left_66 : decode cX10_left 66 = .ok (.invokevirtual 136, 3) := by decide +kernel
theorem dX10_left_69 : decode cX10_left 69 = .ok (.iload_n 3, 1) := by decide +kernel
theorem dX10_left_70 : decode cX10_left 70 = .ok (.iload 5, 2) := by decide +kernel
theorem dX10_left_72 : decode cX10_left 72 = .ok (.iconst (-1), 1) := by decide +kernel
theorem dX10_left_73 : decode cX10_left 73 = .ok (.ixor, 1) := by decide +kernel
theorem dX10_left_74 : decode cX10_left 74 = .ok (.iand, 1) := by decide +kernel
theorem dX10_left_75 : decode cX10_left 75 = .ok (.iload_n 1, 1) := by decide +kernel
theorem dX10_left_76 : decode cX10_left 76 = .ok (.invokevirtual 145, 3) := by decide +kernel
theorem dX10_left_79 : decode cX10_left 79 = .ok (.ifCond .eq 15, 3) := by decide +kernel
theorem dX10_left_82 : decode cX10_left 82 = .ok (.iload 4, 2) := by decide +kernel
theorem dX10_left_84 : decode cX10_left 84 = .ok (.iload_n 2, 1) := by decide +kernel
theorem dX10_left_85 : decode cX10_left 85 = .ok (.if_icmp .ne 6, 3) := by decide +kernel
theorem dX10_left_88 : decode cX10_left 88 = .ok (.iload 5, 2) := by decide +kernel
theorem dX10_left_90 : decode cX10_left 90 = .ok (.ireturn, 1) := by decide +kernel
theorem dX10_left_91 : decode cX10_left 91 = .ok (.iinc 4 1, 3) := by decide +kernel
theorem dX10_left_94 : decode cX10_left 94 = .ok (.iinc 5 1, 3) := by decide +kernel
theorem dX10_left_97 : decode cX10_left 97 = .ok (.goto (-54), 3) := by decide +kernel
theorem dX10_left_100 : decode cX10_left 100 = .ok (.iload_n 2, 1) := by decide +kernel
theorem dX10_left_101 : decode cX10_left 101 = .ok (.iconst (-1), 1) := by decide +kernel
theorem dX10_left_102 : decode cX10_left 102 = .ok (.if_icmp .ne 8, 3) := by decide +kernel
theorem dX10_left_105 : decode cX10_left 105 = .ok (.iload 4, 2) := by decide +kernel
theorem dX10_left_107 : decode cX10_left 107 = .ok (.goto 5, 3) := by decide +kernel
theorem dX10_left_110 : decode cX10_left 110 = .ok (.bipush (-6), 2) := by decide +kernel
theorem dX10_left_112 : decode cX10_left 112 = .ok (.ireturn, 1) := by decide +kernel
theorem dX10_ways_0 : decode cX10_ways 0 = .ok (.aload_n 0, 1) := by decide +kernel
theorem dX10_ways_1 : decode cX10_ways 1 = .ok (.iload_n 1, 1) := by decide +kernel
theorem dX10_ways_2 : decode cX10_ways 2 = .ok (.invokevirtual 125, 3) := by decide +kernel
theorem dX10_ways_5 : decode cX10_ways 5 = .ok (.ifCond .ne 5, 3) := by decide +kernel
theorem dX10_ways_8 : decode cX10_ways 8 = .ok (.iconst (-1), 1) := by decide +kernel
theorem dX10_ways_9 : decode cX10_ways 9 = .ok (.ireturn, 1) := by decide +kernel
theorem dX10_ways_10 : decode cX10_ways 10 = .ok (.iload_n 2, 1) := by decide +kernel
theorem dX10_ways_11 : decode cX10_ways 11 = .ok (.ifCond .lt 9, 3) := by decide +kernel
theorem dX10_ways_14 : decode cX10_ways 14 = .ok (.iload_n 2, 1) := by decide +kernel
theorem dX10_ways_15 : decode cX10_ways 15 = .ok (.bipush 10, 2) := by decide +kernel
theorem dX10_ways_17 : decode cX10_ways 17 = .ok (.if_icmp .le 6, 3) := by decide +kernel
theorem dX10_ways_20 : decode cX10_ways 20 = .ok (.bipush (-2), 2) := by decide +kernel
theorem dX10_ways_22 : decode cX10_ways 22 = .ok (.ireturn, 1) := by decide +kernel
theorem dX10_ways_23 : decode cX10_ways 23 = .ok (.aload_n 0, 1) := by decide +kernel
theorem dX10_ways_24 : decode cX10_ways 24 = .ok (.invokevirtual 129, 3) := by decide +kernel
theorem dX10_ways_27 : decode cX10_ways 27 = .ok (.ifCond .ne 6, 3) := by decide +kernel
theorem dX10_ways_30 : decode cX10_ways 30 = .ok (.bipush (-3), 2) := by decide +kernel
theorem dX10_ways_32 : decode cX10_ways 32 = .ok (.ireturn, 1) := by decide +kernel
theorem dX10_ways_33 : decode cX10_ways 33 = .ok (.aload_n 0, 1) := by decide +kernel
theorem dX10_ways_34 : decode cX10_ways 34 = .ok (.invokevirtual 133, 3) := by decide +kernel
theorem dX10_ways_37 : decode cX10_ways 37 = .ok (.aload_n 0, 1) := by decide +kernel
theorem dX10_ways_38 : decode cX10_ways 38 = .ok (.getfield 51, 3) := by decide +kernel
theorem dX10_ways_41 : decode cX10_ways 41 = .ok (.iload_n 1, 1) := by decide +kernel
theorem dX10_ways_42 : decode cX10_ways 42 = .ok (.iload_n 2, 1) := by decide +kernel
theorem dX10_ways_43 : decode cX10_ways 43 = .ok (.invokevirtual 149, 3) := by decide +kernel
theorem dX10_ways_46 : decode cX10_ways 46 = .ok (.ireturn, 1) := by decide +kernel
theorem dX10_fewest_0 : decode cX10_fewest 0 = .ok (.aload_n 0, 1) := by decide +kernel
theorem dX10_fewest_1 : decode cX10_fewest 1 = .ok (.invokevirtual 129, 3) := by decide +kernel
theorem dX10_fewest_4 : decode cX10_fewest 4 = .ok (.ifCond .ne 6, 3) := by decide +kernel
theorem dX10_fewest_7 : decode cX10_fewest 7 = .ok (.bipush (-3), 2) := by decide +kernel
theorem dX10_fewest_9 : decode cX10_fewest 9 = .ok (.ireturn, 1) := by decide +kernel
theorem dX10_fewest_10 : decode cX10_fewest 10 = .ok (.aload_n 0, 1) := by decide +kernel
theorem dX10_fewest_11 : decode cX10_fewest 11 = .ok (.invokevirtual 133, 3) := by decide +kernel
theorem dX10_fewest_14 : decode cX10_fewest 14 = .ok (.aload_n 0, 1) := by decide +kernel
theorem dX10_fewest_15 : decode cX10_fewest 15 = .ok (.invokevirtual 142, 3) := by decide +kernel
theorem dX10_fewest_18 : decode cX10_fewest 18 = .ok (.istore_n 1, 1) := by decide +kernel
theorem dX10_fewest_19 : decode cX10_fewest 19 = .ok (.bipush (-6), 2) := by decide +kernel
theorem dX10_fewest_21 : decode cX10_fewest 21 = .ok (.istore_n 2, 1) := by decide +kernel
theorem dX10_fewest_22 : decode cX10_fewest 22 = .ok (.bipush 6, 2) := by decide +kernel
theorem dX10_fewest_24 : decode cX10_fewest 24 = .ok (.istore_n 3, 1) := by decide +kernel
theorem dX10_fewest_25 : decode cX10_fewest 25 = .ok (.iconst 0, 1) := by decide +kernel
theorem dX10_fewest_26 : decode cX10_fewest 26 = .ok (.istore 4, 2) := by decide +kernel
theorem dX10_fewest_28 : decode cX10_fewest 28 = .ok (.iload 4, 2) := by decide +kernel
theorem dX10_fewest_30 : decode cX10_fewest 30 = .ok (.iload_n 1, 1) := by decide +kernel
theorem dX10_fewest_31 : decode cX10_fewest 31 = .ok (.if_icmp .gt 45, 3) := by decide +kernel
theorem dX10_fewest_34 : decode cX10_fewest 34 = .ok (.iload 4, 2) := by decide +kernel
theorem dX10_fewest_36 : decode cX10_fewest 36 = .ok (.iload_n 1, 1) := by decide +kernel
theorem dX10_fewest_37 : decode cX10_fewest 37 = .ok (.iconst (-1), 1) := by decide +kernel
theorem dX10_fewest_38 : decode cX10_fewest 38 = .ok (.ixor, 1) := by decide +kernel
theorem dX10_fewest_39 : decode cX10_fewest 39 = .ok (.iand, 1) := by decide +kernel
theorem dX10_fewest_40 : decode cX10_fewest 40 = .ok (.ifCond .ne 30, 3) := by decide +kernel
theorem dX10_fewest_43 : decode cX10_fewest 43 = .ok (.iload 4, 2) := by decide +kernel
theorem dX10_fewest_45 : decode cX10_fewest 45 = .ok (.invokestatic 152, 3) := by decide +kernel
theorem dX10_fewest_48 : decode cX10_fewest 48 = .ok (.iload_n 3, 1) := by decide +kernel
theorem dX10_fewest_49 : decode cX10_fewest 49 = .ok (.if_icmp .ge 21, 3) := by decide +kernel
theorem dX10_fewest_52 : decode cX10_fewest 52 = .ok (.aload_n 0, 1) := by decide +kernel
theorem dX10_fewest_53 : decode cX10_fewest 53 = .ok (.iload 4, 2) := by decide +kernel
theorem dX10_fewest_55 : decode cX10_fewest 55 = .ok (.invokevirtual 158, 3) := by decide +kernel
theorem dX10_fewest_58 : decode cX10_fewest 58 = .ok (.ifCond .eq 12, 3) := by decide +kernel
theorem dX10_fewest_61 : decode cX10_fewest 61 = .ok (.iload 4, 2) := by decide +kernel
theorem dX10_fewest_63 : decode cX10_fewest 63 = .ok (.istore_n 2, 1) := by decide +kernel
theorem dX10_fewest_64 : decode cX10_fewest 64 = .ok (.iload 4, 2) := by decide +kernel
theorem dX10_fewest_66 : decode cX10_fewest 66 = .ok (.invokestatic 152, 3) := by decide +kernel
theorem dX10_fewest_69 : decode cX10_fewest 69 = .ok (.istore_n 3, 1) := by decide +kernel
theorem dX10_fewest_70 : decode cX10_fewest 70 = .ok (.iinc 4 1, 3) := by decide +kernel
theorem dX10_fewest_73 : decode cX10_fewest 73 = .ok (.goto (-45), 3) := by decide +kernel
theorem dX10_fewest_76 : decode cX10_fewest 76 = .ok (.iload_n 2, 1) := by decide +kernel
theorem dX10_fewest_77 : decode cX10_fewest 77 = .ok (.ireturn, 1) := by decide +kernel
theorem dX10_needed_0 : decode cX10_needed 0 = .ok (.aload_n 0, 1) := by decide +kernel
theorem dX10_needed_1 : decode cX10_needed 1 = .ok (.invokevirtual 129, 3) := by decide +kernel
theorem dX10_needed_4 : decode cX10_needed 4 = .ok (.ifCond .ne 6, 3) := by decide +kernel
theorem dX10_needed_7 : decode cX10_needed 7 = .ok (.bipush (-3), 2) := by decide +kernel
theorem dX10_needed_9 : decode cX10_needed 9 = .ok (.ireturn, 1) := by decide +kernel
theorem dX10_needed_10 : decode cX10_needed 10 = .ok (.aload_n 0, 1) := by decide +kernel
theorem dX10_needed_11 : decode cX10_needed 11 = .ok (.invokevirtual 133, 3) := by decide +kernel
theorem dX10_needed_14 : decode cX10_needed 14 = .ok (.aload_n 0, 1) := by decide +kernel
theorem dX10_needed_15 : decode cX10_needed 15 = .ok (.invokevirtual 142, 3) := by decide +kernel
theorem dX10_needed_18 : decode cX10_needed 18 = .ok (.istore_n 1, 1) := by decide +kernel
theorem dX10_needed_19 : decode cX10_needed 19 = .ok (.iconst 0, 1) := by decide +kernel
theorem dX10_needed_20 : decode cX10_needed 20 = .ok (.istore_n 2, 1) := by decide +kernel
theorem dX10_needed_21 : decode cX10_needed 21 = .ok (.iconst 0, 1) := by decide +kernel
theorem dX10_needed_22 : decode cX10_needed 22 = .ok (.istore_n 3, 1) := by decide +kernel
theorem dX10_needed_23 : decode cX10_needed 23 = .ok (.iload_n 3, 1) := by decide +kernel
theorem dX10_needed_24 : decode cX10_needed 24 = .ok (.iconst 5, 1) := by decide +kernel
theorem dX10_needed_25 : decode cX10_needed 25 = .ok (.if_icmp .ge 37, 3) := by decide +kernel
theorem dX10_needed_28 : decode cX10_needed 28 = .ok (.iconst 1, 1) := by decide +kernel
theorem dX10_needed_29 : decode cX10_needed 29 = .ok (.iload_n 3, 1) := by decide +kernel
theorem dX10_needed_30 : decode cX10_needed 30 = .ok (.ishl, 1) := by decide +kernel
theorem dX10_needed_31 : decode cX10_needed 31 = .ok (.istore 4, 2) := by decide +kernel
theorem dX10_needed_33 : decode cX10_needed 33 = .ok (.iload_n 1, 1) := by decide +kernel
theorem dX10_needed_34 : decode cX10_needed 34 = .ok (.iload 4, 2) := by decide +kernel
theorem dX10_needed_36 : decode cX10_needed 36 = .ok (.iand, 1) := by decide +kernel
theorem dX10_needed_37 : decode cX10_needed 37 = .ok (.ifCond .eq 19, 3) := by decide +kernel
theorem dX10_needed_40 : decode cX10_needed 40 = .ok (.aload_n 0, 1) := by decide +kernel
theorem dX10_needed_41 : decode cX10_needed 41 = .ok (.iload_n 1, 1) := by decide +kernel
theorem dX10_needed_42 : decode cX10_needed 42 = .ok (.iload 4, 2) := by decide +kernel
theorem dX10_needed_44 : decode cX10_needed 44 = .ok (.ixor, 1) := by decide +kernel
theorem dX10_needed_45 : decode cX10_needed 45 = .ok (.invokevirtual 158, 3) := by decide +kernel
theorem dX10_needed_48 : decode cX10_needed 48 = .ok (.ifCond .ne 8, 3) := by decide +kernel
theorem dX10_needed_51 : decode cX10_needed 51 = .ok (.iload_n 2, 1) := by decide +kernel
theorem dX10_needed_52 : decode cX10_needed 52 = .ok (.iload 4, 2) := by decide +kernel
theorem dX10_needed_54 : decode cX10_needed 54 = .ok (.ior, 1) := by decide +kernel
theorem dX10_needed_55 : decode cX10_needed 55 = .ok (.istore_n 2, 1) := by decide +kernel
theorem dX10_needed_56 : decode cX10_needed 56 = .ok (.iinc 3 1, 3) := by decide +kernel
theorem dX10_needed_59 : decode cX10_needed 59 = .ok (.goto (-36), 3) := by decide +kernel
theorem dX10_needed_62 : decode cX10_needed 62 = .ok (.iload_n 2, 1) := by decide +kernel
theorem dX10_needed_63 : decode cX10_needed 63 = .ok (.ireturn, 1) := by decide +kernel
theorem dX10_term_0 : decode cX10_term 0 = .ok (.iload_n 1, 1) := by decide +kernel
theorem dX10_term_1 : decode cX10_term 1 = .ok (.iconst (-1), 1) := by decide +kernel
theorem dX10_term_2 : decode cX10_term 2 = .ok (.if_icmp .ge 6, 3) := by decide +kernel
theorem dX10_term_5 : decode cX10_term 5 = .ok (.bipush (-2), 2) := by decide +kernel
theorem dX10_term_7 : decode cX10_term 7 = .ok (.ireturn, 1) := by decide +kernel
theorem dX10_term_8 : decode cX10_term 8 = .ok (.aload_n 0, 1) := by decide +kernel
theorem dX10_term_9 : decode cX10_term 9 = .ok (.invokevirtual 129, 3) := by decide +kernel
theorem dX10_term_12 : decode cX10_term 12 = .ok (.ifCond .ne 6, 3) := by decide +kernel
theorem dX10_term_15 : decode cX10_term 15 = .ok (.bipush (-3), 2) := by decide +kernel
theorem dX10_term_17 : decode cX10_term 17 = .ok (.ireturn, 1) := by decide +kernel
theorem dX10_term_18 : decode cX10_term 18 = .ok (.aload_n 0, 1) := by decide +kernel
theorem dX10_term_19 : decode cX10_term 19 = .ok (.invokevirtual 133, 3) := by decide +kernel
theorem dX10_term_22 : decode cX10_term 22 = .ok (.aload_n 0, 1) := by decide +kernel
theorem dX10_term_23 : decode cX10_term 23 = .ok (.getfield 58, 3) := by decide +kernel
theorem dX10_term_26 : decode cX10_term 26 = .ok (.aload_n 0, 1) := by decide +kernel
theorem dX10_term_27 : decode cX10_term 27 = .ok (.invokevirtual 142, 3) := by decide +kernel
theorem dX10_term_30 : decode cX10_term 30 = .ok (.invokevirtual 161, 3) := by decide +kernel
theorem dX10_term_33 : decode cX10_term 33 = .ok (.aload_n 0, 1) := by decide +kernel
theorem dX10_term_34 : decode cX10_term 34 = .ok (.getfield 58, 3) := by decide +kernel
theorem dX10_term_37 : decode cX10_term 37 = .ok (.invokevirtual 165, 3) := by decide +kernel
theorem dX10_term_40 : decode cX10_term 40 = .ok (.ifCond .ne 6, 3) := by decide +kernel
theorem dX10_term_43 : decode cX10_term 43 = .ok (.bipush (-6), 2) := by decide +kernel
theorem dX10_term_45 : decode cX10_term 45 = .ok (.ireturn, 1) := by decide +kernel
theorem dX10_term_46 : decode cX10_term 46 = .ok (.iload_n 1, 1) := by decide +kernel
theorem dX10_term_47 : decode cX10_term 47 = .ok (.iconst (-1), 1) := by decide +kernel
theorem dX10_term_48 : decode cX10_term 48 = .ok (.if_icmp .ne 11, 3) := by decide +kernel
theorem dX10_term_51 : decode cX10_term 51 = .ok (.aload_n 0, 1) := by decide +kernel
theorem dX10_term_52 : decode cX10_term 52 = .ok (.getfield 58, 3) := by decide +kernel
theorem dX10_term_55 : decode cX10_term 55 = .ok (.invokevirtual 168, 3) := by decide +kernel
theorem dX10_term_58 : decode cX10_term 58 = .ok (.ireturn, 1) := by decide +kernel
theorem dX10_term_59 : decode cX10_term 59 = .ok (.iload_n 1, 1) := by decide +kernel
theorem dX10_term_60 : decode cX10_term 60 = .ok (.aload_n 0, 1) := by decide +kernel
theorem dX10_term_61 : decode cX10_term 61 = .ok (.getfield 58, 3) := by decide +kernel
theorem dX10_term_64 : decode cX10_term 64 = .ok (.invokevirtual 168, 3) := by decide +kernel
theorem dX10_term_67 : decode cX10_term 67 = .ok (.if_icmp .ge 14, 3) := by decide +kernel
theorem dX10_term_70 : decode cX10_term 70 = .ok (.aload_n 0, 1) := by decide +kernel
theorem dX10_term_71 : decode cX10_term 71 = .ok (.getfield 58, 3) := by decide +kernel
theorem dX10_term_74 : decode cX10_term 74 = .ok (.iload_n 1, 1) := by decide +kernel
theorem dX10_term_75 : decode cX10_term 75 = .ok (.invokevirtual 169, 3) := by decide +kernel
theorem dX10_term_78 : decode cX10_term 78 = .ok (.goto 5, 3) := by decide +kernel
theorem dX10_term_81 : decode cX10_term 81 = .ok (.bipush (-6), 2) := by decide +kernel
theorem dX10_term_83 : decode cX10_term 83 = .ok (.ireturn, 1) := by decide +kernel
theorem dX10_uses_0 : decode cX10_uses 0 = .ok (.iload_n 1, 1) := by decide +kernel
theorem dX10_uses_1 : decode cX10_uses 1 = .ok (.ifCond .eq 11, 3) := by decide +kernel
theorem dX10_uses_4 : decode cX10_uses 4 = .ok (.iload_n 1, 1) := by decide +kernel
theorem dX10_uses_5 : decode cX10_uses 5 = .ok (.iconst 1, 1) := by decide +kernel
theorem dX10_uses_6 : decode cX10_uses 6 = .ok (.if_icmp .eq 6, 3) := by decide +kernel
theorem dX10_uses_9 : decode cX10_uses 9 = .ok (.bipush (-2), 2) := by decide +kernel
theorem dX10_uses_11 : decode cX10_uses 11 = .ok (.ireturn, 1) := by decide +kernel
theorem dX10_uses_12 : decode cX10_uses 12 = .ok (.iload_n 2, 1) := by decide +kernel
theorem dX10_uses_13 : decode cX10_uses 13 = .ok (.ifCond .lt 17, 3) := by decide +kernel
theorem dX10_uses_16 : decode cX10_uses 16 = .ok (.iload_n 2, 1) := by decide +kernel
theorem dX10_uses_17 : decode cX10_uses 17 = .ok (.iload_n 1, 1) := by decide +kernel
theorem dX10_uses_18 : decode cX10_uses 18 = .ok (.ifCond .ne 8, 3) := by decide +kernel
theorem dX10_uses_21 : decode cX10_uses 21 = .ok (.bipush 8, 2) := by decide +kernel
theorem dX10_uses_23 : decode cX10_uses 23 = .ok (.goto 4, 3) := by decide +kernel
theorem dX10_uses_26 : decode cX10_uses 26 = .ok (.iconst 4, 1) := by decide +kernel
theorem dX10_uses_27 : decode cX10_uses 27 = .ok (.if_icmp .lt 5, 3) := by decide +kernel
theorem dX10_uses_30 : decode cX10_uses 30 = .ok (.iconst (-1), 1) := by decide +kernel
theorem dX10_uses_31 : decode cX10_uses 31 = .ok (.ireturn, 1) := by decide +kernel
theorem dX10_uses_32 : decode cX10_uses 32 = .ok (.aload_n 0, 1) := by decide +kernel
theorem dX10_uses_33 : decode cX10_uses 33 = .ok (.invokevirtual 129, 3) := by decide +kernel
theorem dX10_uses_36 : decode cX10_uses 36 = .ok (.ifCond .ne 6, 3) := by decide +kernel
theorem dX10_uses_39 : decode cX10_uses 39 = .ok (.bipush (-3), 2) := by decide +kernel
theorem dX10_uses_41 : decode cX10_uses 41 = .ok (.ireturn, 1) := by decide +kernel
theorem dX10_uses_42 : decode cX10_uses 42 = .ok (.aload_n 0, 1) := by decide +kernel
theorem dX10_uses_43 : decode cX10_uses 43 = .ok (.invokevirtual 133, 3) := by decide +kernel
theorem dX10_uses_46 : decode cX10_uses 46 = .ok (.aload_n 0, 1) := by decide +kernel
theorem dX10_uses_47 : decode cX10_uses 47 = .ok (.getfield 58, 3) := by decide +kernel
theorem dX10_uses_50 : decode cX10_uses 50 = .ok (.aload_n 0, 1) := by decide +kernel
theorem dX10_uses_51 : decode cX10_uses 51 = .ok (.invokevirtual 142, 3) := by decide +kernel
theorem dX10_uses_54 : decode cX10_uses 54 = .ok (.invokevirtual 161, 3) := by decide +kernel
theorem dX10_uses_57 : decode cX10_uses 57 = .ok (.aload_n 0, 1) := by decide +kernel
theorem dX10_uses_58 : decode cX10_uses 58 = .ok (.getfield 58, 3) := by decide +kernel
theorem dX10_uses_61 : decode cX10_uses 61 = .ok (.iload_n 1, 1) := by decide +kernel
theorem dX10_uses_62 : decode cX10_uses 62 = .ok (.ifCond .ne 7, 3) := by decide +kernel
theorem dX10_uses_65 : decode cX10_uses 65 = .ok (.iload_n 2, 1) := by decide +kernel
theorem dX10_uses_66 : decode cX10_uses 66 = .ok (.goto 7, 3) := by decide +kernel
theorem dX10_uses_69 : decode cX10_uses 69 = .ok (.bipush 8, 2) := by decide +kernel
theorem dX10_uses_71 : decode cX10_uses 71 = .ok (.iload_n 2, 1) := by decide +kernel
theorem dX10_uses_72 : decode cX10_uses 72 = .ok (.iadd, 1) := by decide +kernel
theorem dX10_uses_73 : decode cX10_uses 73 = .ok (.invokevirtual 172, 3) := by decide +kernel
theorem dX10_uses_76 : decode cX10_uses 76 = .ok (.ireturn, 1) := by decide +kernel
theorem dX10_put_0 : decode cX10_put 0 = .ok (.iload_n 1, 1) := by decide +kernel
theorem dX10_put_1 : decode cX10_put 1 = .ok (.ifCond .lt 10, 3) := by decide +kernel
theorem dX10_put_4 : decode cX10_put 4 = .ok (.iload_n 1, 1) := by decide +kernel
theorem dX10_put_5 : decode cX10_put 5 = .ok (.sipush 499, 3) := by decide +kernel
theorem dX10_put_8 : decode cX10_put 8 = .ok (.if_icmp .le 6, 3) := by decide +kernel
theorem dX10_put_11 : decode cX10_put 11 = .ok (.bipush (-2), 2) := by decide +kernel
theorem dX10_put_13 : decode cX10_put 13 = .ok (.ireturn, 1) := by decide +kernel
theorem dX10_put_14 : decode cX10_put 14 = .ok (.aload_n 0, 1) := by decide +kernel
theorem dX10_put_15 : decode cX10_put 15 = .ok (.getfield 65, 3) := by decide +kernel
theorem dX10_put_18 : decode cX10_put 18 = .ok (.iload_n 1, 1) := by decide +kernel
theorem dX10_put_19 : decode cX10_put 19 = .ok (.invokevirtual 175, 3) := by decide +kernel
theorem dX10_put_22 : decode cX10_put 22 = .ok (.ifCond .eq 13, 3) := by decide +kernel
theorem dX10_put_25 : decode cX10_put 25 = .ok (.aload_n 0, 1) := by decide +kernel
theorem dX10_put_26 : decode cX10_put 26 = .ok (.getfield 65, 3) := by decide +kernel
theorem dX10_put_29 : decode cX10_put 29 = .ok (.invokevirtual 177, 3) := by decide +kernel
theorem dX10_put_32 : decode cX10_put 32 = .ok (.goto 5, 3) := by decide +kernel
theorem dX10_put_35 : decode cX10_put 35 = .ok (.bipush (-4), 2) := by decide +kernel
theorem dX10_put_37 : decode cX10_put 37 = .ok (.ireturn, 1) := by decide +kernel
theorem dX10_trial_0 : decode cX10_trial 0 = .ok (.iload_n 1, 1) := by decide +kernel
theorem dX10_trial_1 : decode cX10_trial 1 = .ok (.ifCond .eq 11, 3) := by decide +kernel
theorem dX10_trial_4 : decode cX10_trial 4 = .ok (.iload_n 1, 1) := by decide +kernel
theorem dX10_trial_5 : decode cX10_trial 5 = .ok (.iconst 1, 1) := by decide +kernel
theorem dX10_trial_6 : decode cX10_trial 6 = .ok (.if_icmp .eq 6, 3) := by decide +kernel
theorem dX10_trial_9 : decode cX10_trial 9 = .ok (.bipush (-2), 2) := by decide +kernel
theorem dX10_trial_11 : decode cX10_trial 11 = .ok (.ireturn, 1) := by decide +kernel
theorem dX10_trial_12 : decode cX10_trial 12 = .ok (.iload_n 1, 1) := by decide +kernel
theorem dX10_trial_13 : decode cX10_trial 13 = .ok (.iconst 1, 1) := by decide +kernel
theorem dX10_trial_14 : decode cX10_trial 14 = .ok (.if_icmp .ne 13, 3) := by decide +kernel
theorem dX10_trial_17 : decode cX10_trial 17 = .ok (.aload_n 0, 1) := by decide +kernel
theorem dX10_trial_18 : decode cX10_trial 18 = .ok (.invokevirtual 129, 3) := by decide +kernel
theorem dX10_trial_21 : decode cX10_trial 21 = .ok (.ifCond .ne 6, 3) := by decide +kernel
theorem dX10_trial_24 : decode cX10_trial 24 = .ok (.bipush (-3), 2) := by decide +kernel
theorem dX10_trial_26 : decode cX10_trial 26 = .ok (.ireturn, 1) := by decide +kernel
theorem dX10_trial_27 : decode cX10_trial 27 = .ok (.aload_n 0, 1) := by decide +kernel
theorem dX10_trial_28 : decode cX10_trial 28 = .ok (.getfield 65, 3) := by decide +kernel
theorem dX10_trial_31 : decode cX10_trial 31 = .ok (.invokevirtual 178, 3) := by decide +kernel
theorem dX10_trial_34 : decode cX10_trial 34 = .ok (.iload_n 1, 1) := by decide +kernel
theorem dX10_trial_35 : decode cX10_trial 35 = .ok (.iconst 1, 1) := by decide +kernel
theorem dX10_trial_36 : decode cX10_trial 36 = .ok (.if_icmp .ne 59, 3) := by decide +kernel
theorem dX10_trial_39 : decode cX10_trial 39 = .ok (.aload_n 0, 1) := by decide +kernel
theorem dX10_trial_40 : decode cX10_trial 40 = .ok (.invokevirtual 133, 3) := by decide +kernel
theorem dX10_trial_43 : decode cX10_trial 43 = .ok (.aload_n 0, 1) := by decide +kernel
theorem dX10_trial_44 : decode cX10_trial 44 = .ok (.getfield 58, 3) := by decide +kernel
theorem dX10_trial_47 : decode cX10_trial 47 = .ok (.aload_n 0, 1) := by decide +kernel
theorem dX10_trial_48 : decode cX10_trial 48 = .ok (.invokevirtual 142, 3) := by decide +kernel
theorem dX10_trial_51 : decode cX10_trial 51 = .ok (.invokevirtual 161, 3) := by decide +kernel
theorem dX10_trial_54 : decode cX10_trial 54 = .ok (.iconst 0, 1) := by decide +kernel
theorem dX10_trial_55 : decode cX10_trial 55 = .ok (.istore_n 2, 1) := by decide +kernel
theorem dX10_trial_56 : decode cX10_trial 56 = .ok (.iload_n 2, 1) := by decide +kernel
theorem dX10_trial_57 : decode cX10_trial 57 = .ok (.aload_n 0, 1) := by decide +kernel
theorem dX10_trial_58 : decode cX10_trial 58 = .ok (.getfield 58, 3) := by decide +kernel
theorem dX10_trial_61 : decode cX10_trial 61 = .ok (.invokevirtual 168, 3) := by decide +kernel
theorem dX10_trial_64 : decode cX10_trial 64 = .ok (.if_icmp .ge 31, 3) := by decide +kernel
theorem dX10_trial_67 : decode cX10_trial 67 = .ok (.iload_n 2, 1) := by decide +kernel
theorem dX10_trial_68 : decode cX10_trial 68 = .ok (.bipush 60, 2) := by decide +kernel
theorem dX10_trial_70 : decode cX10_trial 70 = .ok (.if_icmp .ge 25, 3) := by decide +kernel
theorem dX10_trial_73 : decode cX10_trial 73 = .ok (.aload_n 0, 1) := by decide +kernel
theorem dX10_trial_74 : decode cX10_trial 74 = .ok (.getfield 65, 3) := by decide +kernel
theorem dX10_trial_77 : decode cX10_trial 77 = .ok (.aload_n 0, 1) := by decide +kernel
theorem dX10_trial_78 : decode cX10_trial 78 = .ok (.getfield 58, 3) := by decide +kernel
theorem dX10_trial_81 : decode cX10_trial 81 = .ok (.iload_n 2, 1) := by decide +kernel
theorem dX10_trial_82 : decode cX10_trial 82 = .ok (.invokevirtual 169, 3) := by decide +kernel
theorem dX10_trial_85 : decode cX10_trial 85 = .ok (.invokevirtual 175, 3) := by decide +kernel
theorem dX10_trial_88 : decode cX10_trial 88 = .ok (.pop, 1) := by decide +kernel
theorem dX10_trial_89 : decode cX10_trial 89 = .ok (.iinc 2 1, 3) := by decide +kernel
theorem dX10_trial_92 : decode cX10_trial 92 = .ok (.goto (-36), 3) := by decide +kernel
theorem dX10_trial_95 : decode cX10_trial 95 = .ok (.aload_n 0, 1) := by decide +kernel
theorem dX10_trial_96 : decode cX10_trial 96 = .ok (.getfield 65, 3) := by decide +kernel
theorem dX10_trial_99 : decode cX10_trial 99 = .ok (.invokevirtual 177, 3) := by decide +kernel
theorem dX10_trial_102 : decode cX10_trial 102 = .ok (.ireturn, 1) := by decide +kernel
theorem dX10_check_0 : decode cX10_check 0 = .ok (.iload_n 1, 1) := by decide +kernel
theorem dX10_check_1 : decode cX10_check 1 = .ok (.ifCond .lt 8, 3) := by decide +kernel
theorem dX10_check_4 : decode cX10_check 4 = .ok (.iload_n 1, 1) := by decide +kernel
theorem dX10_check_5 : decode cX10_check 5 = .ok (.iconst 2, 1) := by decide +kernel
theorem dX10_check_6 : decode cX10_check 6 = .ok (.if_icmp .le 6, 3) := by decide +kernel
theorem dX10_check_9 : decode cX10_check 9 = .ok (.bipush (-2), 2) := by decide +kernel
theorem dX10_check_11 : decode cX10_check 11 = .ok (.ireturn, 1) := by decide +kernel
theorem dX10_check_12 : decode cX10_check 12 = .ok (.aload_n 0, 1) := by decide +kernel
theorem dX10_check_13 : decode cX10_check 13 = .ok (.invokevirtual 129, 3) := by decide +kernel
theorem dX10_check_16 : decode cX10_check 16 = .ok (.ifCond .ne 6, 3) := by decide +kernel
theorem dX10_check_19 : decode cX10_check 19 = .ok (.bipush (-3), 2) := by decide +kernel
theorem dX10_check_21 : decode cX10_check 21 = .ok (.ireturn, 1) := by decide +kernel
theorem dX10_check_22 : decode cX10_check 22 = .ok (.aload_n 0, 1) := by decide +kernel
theorem dX10_check_23 : decode cX10_check 23 = .ok (.invokevirtual 133, 3) := by decide +kernel
theorem dX10_check_26 : decode cX10_check 26 = .ok (.aload_n 0, 1) := by decide +kernel
theorem dX10_check_27 : decode cX10_check 27 = .ok (.getfield 74, 3) := by decide +kernel
theorem dX10_check_30 : decode cX10_check 30 = .ok (.aload_n 0, 1) := by decide +kernel
theorem dX10_check_31 : decode cX10_check 31 = .ok (.invokevirtual 142, 3) := by decide +kernel
theorem dX10_check_34 : decode cX10_check 34 = .ok (.invokevirtual 179, 3) := by decide +kernel
theorem dX10_check_37 : decode cX10_check 37 = .ok (.iload_n 1, 1) := by decide +kernel
theorem dX10_check_38 : decode cX10_check 38 = .ok (.ifCond .ne 11, 3) := by decide +kernel
theorem dX10_check_41 : decode cX10_check 41 = .ok (.aload_n 0, 1) := by decide +kernel
theorem dX10_check_42 : decode cX10_check 42 = .ok (.getfield 74, 3) := by decide +kernel
theorem dX10_check_45 : decode cX10_check 45 = .ok (.invokevirtual 181, 3) := by decide +kernel
theorem dX10_check_48 : decode cX10_check 48 = .ok (.ireturn, 1) := by decide +kernel
theorem dX10_check_49 : decode cX10_check 49 = .ok (.iload_n 1, 1) := by decide +kernel
theorem dX10_check_50 : decode cX10_check 50 = .ok (.iconst 1, 1) := by decide +kernel
theorem dX10_check_51 : decode cX10_check 51 = .ok (.if_icmp .ne 13, 3) := by decide +kernel
theorem dX10_check_54 : decode cX10_check 54 = .ok (.aload_n 0, 1) := by decide +kernel
theorem dX10_check_55 : decode cX10_check 55 = .ok (.getfield 74, 3) := by decide +kernel
theorem dX10_check_58 : decode cX10_check 58 = .ok (.invokevirtual 184, 3) := by decide +kernel
theorem dX10_check_61 : decode cX10_check 61 = .ok (.goto 10, 3) := by decide +kernel
theorem dX10_check_64 : decode cX10_check 64 = .ok (.aload_n 0, 1) := by decide +kernel
theorem dX10_check_65 : decode cX10_check 65 = .ok (.getfield 74, 3) := by decide +kernel
theorem dX10_check_68 : decode cX10_check 68 = .ok (.invokevirtual 187, 3) := by decide +kernel
theorem dX10_check_71 : decode cX10_check 71 = .ok (.ireturn, 1) := by decide +kernel
theorem dX10_image_0 : decode cX10_image 0 = .ok (.iload_n 1, 1) := by decide +kernel
theorem dX10_image_1 : decode cX10_image 1 = .ok (.ifCond .lt 8, 3) := by decide +kernel
theorem dX10_image_4 : decode cX10_image 4 = .ok (.iload_n 1, 1) := by decide +kernel
theorem dX10_image_5 : decode cX10_image 5 = .ok (.iconst 2, 1) := by decide +kernel
theorem dX10_image_6 : decode cX10_image 6 = .ok (.if_icmp .lt 6, 3) := by decide +kernel
theorem dX10_image_9 : decode cX10_image 9 = .ok (.bipush (-2), 2) := by decide +kernel
theorem dX10_image_11 : decode cX10_image 11 = .ok (.ireturn, 1) := by decide +kernel
theorem dX10_image_12 : decode cX10_image 12 = .ok (.aload_n 0, 1) := by decide +kernel
theorem dX10_image_13 : decode cX10_image 13 = .ok (.getfield 23, 3) := by decide +kernel
theorem dX10_image_16 : decode cX10_image 16 = .ok (.iload_n 1, 1) := by decide +kernel
theorem dX10_image_17 : decode cX10_image 17 = .ok (.aaload, 1) := by decide +kernel
theorem dX10_image_18 : decode cX10_image 18 = .ok (.astore_n 2, 1) := by decide +kernel
theorem dX10_image_19 : decode cX10_image 19 = .ok (.aload_n 2, 1) := by decide +kernel
theorem dX10_image_20 : decode cX10_image 20 = .ok (.ifnonnull 18, 3) := by decide +kernel
theorem dX10_image_23 : decode cX10_image 23 = .ok (.new 16, 3) := by decide +kernel
theorem dX10_image_26 : decode cX10_image 26 = .ok (.dup, 1) := by decide +kernel
theorem dX10_image_27 : decode cX10_image 27 = .ok (.invokespecial 18, 3) := by decide +kernel
theorem dX10_image_30 : decode cX10_image 30 = .ok (.astore_n 2, 1) := by decide +kernel
theorem dX10_image_31 : decode cX10_image 31 = .ok (.aload_n 0, 1) := by decide +kernel
theorem dX10_image_32 : decode cX10_image 32 = .ok (.getfield 23, 3) := by decide +kernel
theorem dX10_image_35 : decode cX10_image 35 = .ok (.iload_n 1, 1) := by decide +kernel
theorem dX10_image_36 : decode cX10_image 36 = .ok (.aload_n 2, 1) := by decide +kernel
theorem dX10_image_37 : decode cX10_image 37 = .ok (.aastore, 1) := by decide +kernel
theorem dX10_image_38 : decode cX10_image 38 = .ok (.aload_n 2, 1) := by decide +kernel
theorem dX10_image_39 : decode cX10_image 39 = .ok (.aload_n 0, 1) := by decide +kernel
theorem dX10_image_40 : decode cX10_image 40 = .ok (.getfield 19, 3) := by decide +kernel
theorem dX10_image_43 : decode cX10_image 43 = .ok (.invokevirtual 190, 3) := by decide +kernel
theorem dX10_image_46 : decode cX10_image 46 = .ok (.iconst 1, 1) := by decide +kernel
theorem dX10_image_47 : decode cX10_image 47 = .ok (.ireturn, 1) := by decide +kernel
theorem dX10_restore_0 : decode cX10_restore 0 = .ok (.iload_n 1, 1) := by decide +kernel
theorem dX10_restore_1 : decode cX10_restore 1 = .ok (.ifCond .lt 8, 3) := by decide +kernel
theorem dX10_restore_4 : decode cX10_restore 4 = .ok (.iload_n 1, 1) := by decide +kernel
theorem dX10_restore_5 : decode cX10_restore 5 = .ok (.iconst 2, 1) := by decide +kernel
theorem dX10_restore_6 : decode cX10_restore 6 = .ok (.if_icmp .lt 6, 3) := by decide +kernel
theorem dX10_restore_9 : decode cX10_restore 9 = .ok (.bipush (-2), 2) := by decide +kernel
theorem dX10_restore_11 : decode cX10_restore 11 = .ok (.ireturn, 1) := by decide +kernel
theorem dX10_restore_12 : decode cX10_restore 12 = .ok (.aload_n 0, 1) := by decide +kernel
theorem dX10_restore_13 : decode cX10_restore 13 = .ok (.getfield 23, 3) := by decide +kernel
theorem dX10_restore_16 : decode cX10_restore 16 = .ok (.iload_n 1, 1) := by decide +kernel
theorem dX10_restore_17 : decode cX10_restore 17 = .ok (.aaload, 1) := by decide +kernel
theorem dX10_restore_18 : decode cX10_restore 18 = .ok (.astore_n 2, 1) := by decide +kernel
theorem dX10_restore_19 : decode cX10_restore 19 = .ok (.aload_n 2, 1) := by decide +kernel
theorem dX10_restore_20 : decode cX10_restore 20 = .ok (.ifnonnull 6, 3) := by decide +kernel
theorem dX10_restore_23 : decode cX10_restore 23 = .ok (.bipush (-3), 2) := by decide +kernel
theorem dX10_restore_25 : decode cX10_restore 25 = .ok (.ireturn, 1) := by decide +kernel
theorem dX10_restore_26 : decode cX10_restore 26 = .ok (.aload_n 0, 1) := by decide +kernel
theorem dX10_restore_27 : decode cX10_restore 27 = .ok (.getfield 19, 3) := by decide +kernel
theorem dX10_restore_30 : decode cX10_restore 30 = .ok (.aload_n 2, 1) := by decide +kernel
theorem dX10_restore_31 : decode cX10_restore 31 = .ok (.invokevirtual 190, 3) := by decide +kernel
theorem dX10_restore_34 : decode cX10_restore 34 = .ok (.aload_n 0, 1) := by decide +kernel
theorem dX10_restore_35 : decode cX10_restore 35 = .ok (.iconst 1, 1) := by decide +kernel
theorem dX10_restore_36 : decode cX10_restore 36 = .ok (.putfield 82, 3) := by decide +kernel
theorem dX10_restore_39 : decode cX10_restore 39 = .ok (.iconst 1, 1) := by decide +kernel
theorem dX10_restore_40 : decode cX10_restore 40 = .ok (.ireturn, 1) := by decide +kernel
theorem dX10_count_0 : decode cX10_count 0 = .ok (.iload_n 1, 1) := by decide +kernel
theorem dX10_count_1 : decode cX10_count 1 = .ok (.tableswitch 113 0 7 #[47, 52, 63, 76, 84, 92, 100, 108], 47) := by decide +kernel
theorem dX10_count_48 : decode cX10_count 48 = .ok (.aload_n 0, 1) := by decide +kernel
theorem dX10_count_49 : decode cX10_count 49 = .ok (.invokevirtual 142, 3) := by decide +kernel
theorem dX10_count_52 : decode cX10_count 52 = .ok (.ireturn, 1) := by decide +kernel
theorem dX10_count_53 : decode cX10_count 53 = .ok (.aload_n 0, 1) := by decide +kernel
theorem dX10_count_54 : decode cX10_count 54 = .ok (.getfield 19, 3) := by decide +kernel
theorem dX10_count_57 : decode cX10_count 57 = .ok (.bipush 6, 2) := by decide +kernel
theorem dX10_count_59 : decode cX10_count 59 = .ok (.iconst 4, 1) := by decide +kernel
theorem dX10_count_60 : decode cX10_count 60 = .ok (.invokevirtual 194, 3) := by decide +kernel
theorem dX10_count_63 : decode cX10_count 63 = .ok (.ireturn, 1) := by decide +kernel
theorem dX10_count_64 : decode cX10_count 64 = .ok (.aload_n 0, 1) := by decide +kernel
theorem dX10_count_65 : decode cX10_count 65 = .ok (.invokevirtual 129, 3) := by decide +kernel
theorem dX10_count_68 : decode cX10_count 68 = .ok (.ifCond .eq 7, 3) := by decide +kernel
theorem dX10_count_71 : decode cX10_count 71 = .ok (.iconst 1, 1) := by decide +kernel
theorem dX10_count_72 : decode cX10_count 72 = .ok (.goto 4, 3) := by decide +kernel
theorem dX10_count_75 : decode cX10_count 75 = .ok (.iconst 0, 1) := by decide +kernel
theorem dX10_count_76 : decode cX10_count 76 = .ok (.ireturn, 1) := by decide +kernel
theorem dX10_count_77 : decode cX10_count 77 = .ok (.aload_n 0, 1) := by decide +kernel
theorem dX10_count_78 : decode cX10_count 78 = .ok (.getfield 19, 3) := by decide +kernel
theorem dX10_count_81 : decode cX10_count 81 = .ok (.invokevirtual 197, 3) := by decide +kernel
theorem dX10_count_84 : decode cX10_count 84 = .ok (.ireturn, 1) := by decide +kernel
theorem dX10_count_85 : decode cX10_count 85 = .ok (.aload_n 0, 1) := by decide +kernel
theorem dX10_count_86 : decode cX10_count 86 = .ok (.getfield 19, 3) := by decide +kernel
theorem dX10_count_89 : decode cX10_count 89 = .ok (.invokevirtual 198, 3) := by decide +kernel
theorem dX10_count_92 : decode cX10_count 92 = .ok (.ireturn, 1) := by decide +kernel
theorem dX10_count_93 : decode cX10_count 93 = .ok (.aload_n 0, 1) := by decide +kernel
theorem dX10_count_94 : decode cX10_count 94 = .ok (.getfield 12, 3) := by decide +kernel
theorem dX10_count_97 : decode cX10_count 97 = .ok (.invokevirtual 90, 3) := by decide +kernel
theorem dX10_count_100 : decode cX10_count 100 = .ok (.ireturn, 1) := by decide +kernel
theorem dX10_count_101 : decode cX10_count 101 = .ok (.aload_n 0, 1) := by decide +kernel
theorem dX10_count_102 : decode cX10_count 102 = .ok (.getfield 65, 3) := by decide +kernel
theorem dX10_count_105 : decode cX10_count 105 = .ok (.invokevirtual 177, 3) := by decide +kernel
theorem dX10_count_108 : decode cX10_count 108 = .ok (.ireturn, 1) := by decide +kernel
theorem dX10_count_109 : decode cX10_count 109 = .ok (.aload_n 0, 1) := by decide +kernel
theorem dX10_count_110 : decode cX10_count 110 = .ok (.invokevirtual 201, 3) := by decide +kernel
theorem dX10_count_113 : decode cX10_count 113 = .ok (.ireturn, 1) := by decide +kernel
theorem dX10_count_114 : decode cX10_count 114 = .ok (.bipush (-2), 2) := by decide +kernel
theorem dX10_count_116 : decode cX10_count 116 = .ok (.ireturn, 1) := by decide +kernel
theorem dX10_readText_0 : decode cX10_readText 0 = .ok (.aload_n 0, 1) := by decide +kernel
theorem dX10_readText_1 : decode cX10_readText 1 = .ok (.getfield 12, 3) := by decide +kernel
theorem dX10_readText_4 : decode cX10_readText 4 = .ok (.invokevirtual 204, 3) := by decide +kernel
theorem dX10_readText_7 : decode cX10_readText 7 = .ok (.astore_n 2, 1) := by decide +kernel
theorem dX10_readText_8 : decode cX10_readText 8 = .ok (.aload_n 0, 1) := by decide +kernel
theorem dX10_readText_9 : decode cX10_readText 9 = .ok (.getfield 30, 3) := by decide +kernel
theorem dX10_readText_12 : decode cX10_readText 12 = .ok (.invokevirtual 208, 3) := by decide +kernel
theorem dX10_readText_15 : decode cX10_readText 15 = .ok (.new 209, 3) := by decide +kernel
theorem dX10_readText_18 : decode cX10_readText 18 = .ok (.dup, 1) := by decide +kernel
theorem dX10_readText_19 : decode cX10_readText 19 = .ok (.aload_n 2, 1) := by decide +kernel
theorem dX10_readText_20 : decode cX10_readText 20 = .ok (.aload_n 0, 1) := by decide +kernel
theorem dX10_readText_21 : decode cX10_readText 21 = .ok (.getfield 30, 3) := by decide +kernel
theorem dX10_readText_24 : decode cX10_readText 24 = .ok (.invokespecial 211, 3) := by decide +kernel
theorem dX10_readText_27 : decode cX10_readText 27 = .ok (.astore_n 3, 1) := by decide +kernel
theorem dX10_readText_28 : decode cX10_readText 28 = .ok (.iload_n 1, 1) := by decide +kernel
theorem dX10_readText_29 : decode cX10_readText 29 = .ok (.ifCond .eq 11, 3) := by decide +kernel
theorem dX10_readText_32 : decode cX10_readText 32 = .ok (.aload_n 3, 1) := by decide +kernel
theorem dX10_readText_33 : decode cX10_readText 33 = .ok (.iconst 0, 1) := by decide +kernel
theorem dX10_readText_34 : decode cX10_readText 34 = .ok (.invokevirtual 214, 3) := by decide +kernel
theorem dX10_readText_37 : decode cX10_readText 37 = .ok (.goto 8, 3) := by decide +kernel
theorem dX10_readText_40 : decode cX10_readText 40 = .ok (.aload_n 3, 1) := by decide +kernel
theorem dX10_readText_41 : decode cX10_readText 41 = .ok (.invokevirtual 217, 3) := by decide +kernel
theorem dX10_readText_44 : decode cX10_readText 44 = .ok (.pop, 1) := by decide +kernel
theorem dX10_readText_45 : decode cX10_readText 45 = .ok (.aload_n 3, 1) := by decide +kernel
theorem dX10_readText_46 : decode cX10_readText 46 = .ok (.invokevirtual 220, 3) := by decide +kernel
theorem dX10_readText_49 : decode cX10_readText 49 = .ok (.ifCond .eq 13, 3) := by decide +kernel
theorem dX10_readText_52 : decode cX10_readText 52 = .ok (.aload_n 0, 1) := by decide +kernel
theorem dX10_readText_53 : decode cX10_readText 53 = .ok (.aload_n 3, 1) := by decide +kernel
theorem dX10_readText_54 : decode cX10_readText 54 = .ok (.invokevirtual 223, 3) := by decide +kernel
theorem dX10_readText_57 : decode cX10_readText 57 = .ok (.putfield 78, 3) := by decide +kernel
theorem dX10_readText_60 : decode cX10_readText 60 = .ok (.aconst_null, 1) := by decide +kernel
theorem dX10_readText_61 : decode cX10_readText 61 = .ok (.areturn, 1) := by decide +kernel
theorem dX10_readText_62 : decode cX10_readText 62 = .ok (.new 114, 3) := by decide +kernel
theorem dX10_readText_65 : decode cX10_readText 65 = .ok (.dup, 1) := by decide +kernel
theorem dX10_readText_66 : decode cX10_readText 66 = .ok (.aload_n 2, 1) := by decide +kernel
theorem dX10_readText_67 : decode cX10_readText 67 = .ok (.aload_n 0, 1) := by decide +kernel
theorem dX10_readText_68 : decode cX10_readText 68 = .ok (.getfield 30, 3) := by decide +kernel
theorem dX10_readText_71 : decode cX10_readText 71 = .ok (.invokevirtual 226, 3) := by decide +kernel
theorem dX10_readText_74 : decode cX10_readText 74 = .ok (.aload_n 0, 1) := by decide +kernel
theorem dX10_readText_75 : decode cX10_readText 75 = .ok (.getfield 30, 3) := by decide +kernel
theorem dX10_readText_78 : decode cX10_readText 78 = .ok (.invokevirtual 227, 3) := by decide +kernel
theorem dX10_readText_81 : decode cX10_readText 81 = .ok (.invokespecial 228, 3) := by decide +kernel
theorem dX10_readText_84 : decode cX10_readText 84 = .ok (.areturn, 1) := by decide +kernel
theorem dX10_takeOffer_0 : decode cX10_takeOffer 0 = .ok (.aload_n 0, 1) := by decide +kernel
theorem dX10_takeOffer_1 : decode cX10_takeOffer 1 = .ok (.iconst 1, 1) := by decide +kernel
theorem dX10_takeOffer_2 : decode cX10_takeOffer 2 = .ok (.invokevirtual 101, 3) := by decide +kernel
theorem dX10_takeOffer_5 : decode cX10_takeOffer 5 = .ok (.astore_n 3, 1) := by decide +kernel
theorem dX10_takeOffer_6 : decode cX10_takeOffer 6 = .ok (.aload_n 3, 1) := by decide +kernel
theorem dX10_takeOffer_7 : decode cX10_takeOffer 7 = .ok (.ifnonnull 6, 3) := by decide +kernel
theorem dX10_takeOffer_10 : decode cX10_takeOffer 10 = .ok (.bipush (-7), 2) := by decide +kernel
theorem dX10_takeOffer_12 : decode cX10_takeOffer 12 = .ok (.ireturn, 1) := by decide +kernel
theorem dX10_takeOffer_13 : decode cX10_takeOffer 13 = .ok (.aload_n 0, 1) := by decide +kernel
theorem dX10_takeOffer_14 : decode cX10_takeOffer 14 = .ok (.getfield 19, 3) := by decide +kernel
theorem dX10_takeOffer_17 : decode cX10_takeOffer 17 = .ok (.iload_n 1, 1) := by decide +kernel
theorem dX10_takeOffer_18 : decode cX10_takeOffer 18 = .ok (.iload_n 2, 1) := by decide +kernel
theorem dX10_takeOffer_19 : decode cX10_takeOffer 19 = .ok (.invokevirtual 231, 3) := by decide +kernel
theorem dX10_takeOffer_22 : decode cX10_takeOffer 22 = .ok (.istore 4, 2) := by decide +kernel
theorem dX10_takeOffer_24 : decode cX10_takeOffer 24 = .ok (.iload 4, 2) := by decide +kernel
theorem dX10_takeOffer_26 : decode cX10_takeOffer 26 = .ok (.iconst (-1), 1) := by decide +kernel
theorem dX10_takeOffer_27 : decode cX10_takeOffer 27 = .ok (.if_icmp .eq 16, 3) := by decide +kernel
theorem dX10_takeOffer_30 : decode cX10_takeOffer 30 = .ok (.aload_n 0, 1) := by decide +kernel
theorem dX10_takeOffer_31 : decode cX10_takeOffer 31 = .ok (.getfield 19, 3) := by decide +kernel
theorem dX10_takeOffer_34 : decode cX10_takeOffer 34 = .ok (.iload 4, 2) := by decide +kernel
theorem dX10_takeOffer_36 : decode cX10_takeOffer 36 = .ok (.aload_n 3, 1) := by decide +kernel
theorem dX10_takeOffer_37 : decode cX10_takeOffer 37 = .ok (.invokevirtual 105, 3) := by decide +kernel
theorem dX10_takeOffer_40 : decode cX10_takeOffer 40 = .ok (.ifCond .ne 6, 3) := by decide +kernel
theorem dX10_takeOffer_43 : decode cX10_takeOffer 43 = .ok (.bipush (-4), 2) := by decide +kernel
theorem dX10_takeOffer_45 : decode cX10_takeOffer 45 = .ok (.ireturn, 1) := by decide +kernel
theorem dX10_takeOffer_46 : decode cX10_takeOffer 46 = .ok (.aload_n 0, 1) := by decide +kernel
theorem dX10_takeOffer_47 : decode cX10_takeOffer 47 = .ok (.iload 4, 2) := by decide +kernel
theorem dX10_takeOffer_49 : decode cX10_takeOffer 49 = .ok (.aload_n 3, 1) := by decide +kernel
theorem dX10_takeOffer_50 : decode cX10_takeOffer 50 = .ok (.invokevirtual 109, 3) := by decide +kernel
theorem dX10_takeOffer_53 : decode cX10_takeOffer 53 = .ok (.iload 4, 2) := by decide +kernel
theorem dX10_takeOffer_55 : decode cX10_takeOffer 55 = .ok (.iload_n 1, 1) := by decide +kernel
theorem dX10_takeOffer_56 : decode cX10_takeOffer 56 = .ok (.isub, 1) := by decide +kernel
theorem dX10_takeOffer_57 : decode cX10_takeOffer 57 = .ok (.ireturn, 1) := by decide +kernel
theorem dX10_settle_0 : decode cX10_settle 0 = .ok (.aload_n 0, 1) := by decide +kernel
theorem dX10_settle_1 : decode cX10_settle 1 = .ok (.getfield 19, 3) := by decide +kernel
theorem dX10_settle_4 : decode cX10_settle 4 = .ok (.iload_n 1, 1) := by decide +kernel
theorem dX10_settle_5 : decode cX10_settle 5 = .ok (.aload_n 2, 1) := by decide +kernel
theorem dX10_settle_6 : decode cX10_settle 6 = .ok (.invokevirtual 234, 3) := by decide +kernel
theorem dX10_settle_9 : decode cX10_settle 9 = .ok (.aload_n 0, 1) := by decide +kernel
theorem dX10_settle_10 : decode cX10_settle 10 = .ok (.getfield 12, 3) := by decide +kernel
theorem dX10_settle_13 : decode cX10_settle 13 = .ok (.invokevirtual 94, 3) := by decide +kernel
theorem dX10_settle_16 : decode cX10_settle 16 = .ok (.aload_n 0, 1) := by decide +kernel
theorem dX10_settle_17 : decode cX10_settle 17 = .ok (.iconst 1, 1) := by decide +kernel
theorem dX10_settle_18 : decode cX10_settle 18 = .ok (.putfield 82, 3) := by decide +kernel
theorem dX10_settle_21 : decode cX10_settle 21 = .ok (.return_, 1) := by decide +kernel
theorem dX10_dropNumbered_0 : decode cX10_dropNumbered 0 = .ok (.iload_n 3, 1) := by decide +kernel
theorem dX10_dropNumbered_1 : decode cX10_dropNumbered 1 = .ok (.ifCond .lt 21, 3) := by decide +kernel
theorem dX10_dropNumbered_4 : decode cX10_dropNumbered 4 = .ok (.iload_n 3, 1) := by decide +kernel
theorem dX10_dropNumbered_5 : decode cX10_dropNumbered 5 = .ok (.iload_n 2, 1) := by decide +kernel
theorem dX10_dropNumbered_6 : decode cX10_dropNumbered 6 = .ok (.if_icmp .ge 16, 3) := by decide +kernel
theorem dX10_dropNumbered_9 : decode cX10_dropNumbered 9 = .ok (.aload_n 0, 1) := by decide +kernel
theorem dX10_dropNumbered_10 : decode cX10_dropNumbered 10 = .ok (.getfield 19, 3) := by decide +kernel
theorem dX10_dropNumbered_13 : decode cX10_dropNumbered 13 = .ok (.iload_n 1, 1) := by decide +kernel
theorem dX10_dropNumbered_14 : decode cX10_dropNumbered 14 = .ok (.iload_n 3, 1) := by decide +kernel
theorem dX10_dropNumbered_15 : decode cX10_dropNumbered 15 = .ok (.iadd, 1) := by decide +kernel
theorem dX10_dropNumbered_16 : decode cX10_dropNumbered 16 = .ok (.invokevirtual 237, 3) := by decide +kernel
theorem dX10_dropNumbered_19 : decode cX10_dropNumbered 19 = .ok (.ifnonnull 5, 3) := by decide +kernel
theorem dX10_dropNumbered_22 : decode cX10_dropNumbered 22 = .ok (.iconst (-1), 1) := by decide +kernel
theorem dX10_dropNumbered_23 : decode cX10_dropNumbered 23 = .ok (.ireturn, 1) := by decide +kernel
theorem dX10_dropNumbered_24 : decode cX10_dropNumbered 24 = .ok (.aload_n 0, 1) := by decide +kernel
theorem dX10_dropNumbered_25 : decode cX10_dropNumbered 25 = .ok (.getfield 19, 3) := by decide +kernel
theorem dX10_dropNumbered_28 : decode cX10_dropNumbered 28 = .ok (.iload_n 1, 1) := by decide +kernel
theorem dX10_dropNumbered_29 : decode cX10_dropNumbered 29 = .ok (.iload_n 3, 1) := by decide +kernel
theorem dX10_dropNumbered_30 : decode cX10_dropNumbered 30 = .ok (.iadd, 1) := by decide +kernel
theorem dX10_dropNumbered_31 : decode cX10_dropNumbered 31 = .ok (.aconst_null, 1) := by decide +kernel
theorem dX10_dropNumbered_32 : decode cX10_dropNumbered 32 = .ok (.invokevirtual 234, 3) := by decide +kernel
theorem dX10_dropNumbered_35 : decode cX10_dropNumbered 35 = .ok (.aload_n 0, 1) := by decide +kernel
theorem dX10_dropNumbered_36 : decode cX10_dropNumbered 36 = .ok (.iconst 1, 1) := by decide +kernel
theorem dX10_dropNumbered_37 : decode cX10_dropNumbered 37 = .ok (.putfield 82, 3) := by decide +kernel
theorem dX10_dropNumbered_40 : decode cX10_dropNumbered 40 = .ok (.aload_n 0, 1) := by decide +kernel
theorem dX10_dropNumbered_41 : decode cX10_dropNumbered 41 = .ok (.getfield 19, 3) := by decide +kernel
theorem dX10_dropNumbered_44 : decode cX10_dropNumbered 44 = .ok (.iload_n 1, 1) := by decide +kernel
theorem dX10_dropNumbered_45 : decode cX10_dropNumbered 45 = .ok (.iload_n 2, 1) := by decide +kernel
theorem dX10_dropNumbered_46 : decode cX10_dropNumbered 46 = .ok (.invokevirtual 194, 3) := by decide +kernel
theorem dX10_dropNumbered_49 : decode cX10_dropNumbered 49 = .ok (.invokestatic 152, 3) := by decide +kernel
theorem dX10_dropNumbered_52 : decode cX10_dropNumbered 52 = .ok (.ireturn, 1) := by decide +kernel
theorem dX10_dropGoal_0 : decode cX10_dropGoal 0 = .ok (.aload_n 0, 1) := by decide +kernel
theorem dX10_dropGoal_1 : decode cX10_dropGoal 1 = .ok (.invokevirtual 129, 3) := by decide +kernel
theorem dX10_dropGoal_4 : decode cX10_dropGoal 4 = .ok (.ifCond .ne 6, 3) := by decide +kernel
theorem dX10_dropGoal_7 : decode cX10_dropGoal 7 = .ok (.bipush (-3), 2) := by decide +kernel
theorem dX10_dropGoal_9 : decode cX10_dropGoal 9 = .ok (.ireturn, 1) := by decide +kernel
theorem dX10_dropGoal_10 : decode cX10_dropGoal 10 = .ok (.aload_n 0, 1) := by decide +kernel
theorem dX10_dropGoal_11 : decode cX10_dropGoal 11 = .ok (.getfield 19, 3) := by decide +kernel
theorem dX10_dropGoal_14 : decode cX10_dropGoal 14 = .ok (.iconst 0, 1) := by decide +kernel
theorem dX10_dropGoal_15 : decode cX10_dropGoal 15 = .ok (.aconst_null, 1) := by decide +kernel
theorem dX10_dropGoal_16 : decode cX10_dropGoal 16 = .ok (.invokevirtual 234, 3) := by decide +kernel
theorem dX10_dropGoal_19 : decode cX10_dropGoal 19 = .ok (.aload_n 0, 1) := by decide +kernel
theorem dX10_dropGoal_20 : decode cX10_dropGoal 20 = .ok (.iconst 1, 1) := by decide +kernel
theorem dX10_dropGoal_21 : decode cX10_dropGoal 21 = .ok (.putfield 82, 3) := by decide +kernel
theorem dX10_dropGoal_24 : decode cX10_dropGoal 24 = .ok (.iconst 0, 1) := by decide +kernel
theorem dX10_dropGoal_25 : decode cX10_dropGoal 25 = .ok (.ireturn, 1) := by decide +kernel
theorem dX10_hasGoal_0 : decode cX10_hasGoal 0 = .ok (.aload_n 0, 1) := by decide +kernel
theorem dX10_hasGoal_1 : decode cX10_hasGoal 1 = .ok (.getfield 19, 3) := by decide +kernel
theorem dX10_hasGoal_4 : decode cX10_hasGoal 4 = .ok (.iconst 0, 1) := by decide +kernel
theorem dX10_hasGoal_5 : decode cX10_hasGoal 5 = .ok (.invokevirtual 237, 3) := by decide +kernel
theorem dX10_hasGoal_8 : decode cX10_hasGoal 8 = .ok (.ifnull 7, 3) := by decide +kernel
theorem dX10_hasGoal_11 : decode cX10_hasGoal 11 = .ok (.iconst 1, 1) := by decide +kernel
theorem dX10_hasGoal_12 : decode cX10_hasGoal 12 = .ok (.goto 4, 3) := by decide +kernel
theorem dX10_hasGoal_15 : decode cX10_hasGoal 15 = .ok (.iconst 0, 1) := by decide +kernel
theorem dX10_hasGoal_16 : decode cX10_hasGoal 16 = .ok (.ireturn, 1) := by decide +kernel
theorem dX10_allResources_0 : decode cX10_allResources 0 = .ok (.aload_n 0, 1) := by decide +kernel
end
section
theorem dX10_allResources_1 : decode cX10_allResources 1 = .ok (.getfield 19, 3) := by decide +kernel
theorem dX10_allResources_4 : decode cX10_allResources 4 = .ok (.iconst 1, 1) := by decide +kernel
theorem dX10_allResources_5 : decode cX10_allResources 5 = .ok (.iconst 5, 1) := by decide +kernel
theorem dX10_allResources_6 : decode cX10_allResources 6 = .ok (.invokevirtual 194, 3) := by decide +kernel
theorem dX10_allResources_9 : decode cX10_allResources 9 = .ok (.ireturn, 1) := by decide +kernel
theorem dX10_isSetOfResources_0 : decode cX10_isSetOfResources 0 = .ok (.iload_n 1, 1) := by decide +kernel
theorem dX10_isSetOfResources_1 : decode cX10_isSetOfResources 1 = .ok (.ifCond .lt 18, 3) := by decide +kernel
theorem dX10_isSetOfResources_4 : decode cX10_isSetOfResources 4 = .ok (.iload_n 1, 1) := by decide +kernel
theorem dX10_isSetOfResources_5 : decode cX10_isSetOfResources 5 = .ok (.aload_n 0, 1) := by decide +kernel
theorem dX10_isSetOfResources_6 : decode cX10_isSetOfResources 6 = .ok (.invokevirtual 142, 3) := by decide +kernel
theorem dX10_isSetOfResources_9 : decode cX10_isSetOfResources 9 = .ok (.iconst (-1), 1) := by decide +kernel
theorem dX10_isSetOfResources_10 : decode cX10_isSetOfResources 10 = .ok (.ixor, 1) := by decide +kernel
theorem dX10_isSetOfResources_11 : decode cX10_isSetOfResources 11 = .ok (.iand, 1) := by decide +kernel
theorem dX10_isSetOfResources_12 : decode cX10_isSetOfResources 12 = .ok (.ifCond .ne 7, 3) := by decide +kernel
theorem dX10_isSetOfResources_15 : decode cX10_isSetOfResources 15 = .ok (.iconst 1, 1) := by decide +kernel
theorem dX10_isSetOfResources_16 : decode cX10_isSetOfResources 16 = .ok (.goto 4, 3) := by decide +kernel
theorem dX10_isSetOfResources_19 : decode cX10_isSetOfResources 19 = .ok (.iconst 0, 1) := by decide +kernel
theorem dX10_isSetOfResources_20 : decode cX10_isSetOfResources 20 = .ok (.ireturn, 1) := by decide +kernel
theorem dX10_isProvable_0 : decode cX10_isProvable 0 = .ok (.aload_n 0, 1) := by decide +kernel
theorem dX10_isProvable_1 : decode cX10_isProvable 1 = .ok (.getfield 42, 3) := by decide +kernel
theorem dX10_isProvable_4 : decode cX10_isProvable 4 = .ok (.aload_n 0, 1) := by decide +kernel
theorem dX10_isProvable_5 : decode cX10_isProvable 5 = .ok (.getfield 34, 3) := by decide +kernel
theorem dX10_isProvable_8 : decode cX10_isProvable 8 = .ok (.invokevirtual 136, 3) := by decide +kernel
theorem dX10_isProvable_11 : decode cX10_isProvable 11 = .ok (.iload_n 1, 1) := by decide +kernel
theorem dX10_isProvable_12 : decode cX10_isProvable 12 = .ok (.bipush 10, 2) := by decide +kernel
theorem dX10_isProvable_14 : decode cX10_isProvable 14 = .ok (.invokevirtual 145, 3) := by decide +kernel
theorem dX10_isProvable_17 : decode cX10_isProvable 17 = .ok (.ireturn, 1) := by decide +kernel
theorem dX10_savedPlaces_0 : decode cX10_savedPlaces 0 = .ok (.iconst 0, 1) := by decide +kernel
theorem dX10_savedPlaces_1 : decode cX10_savedPlaces 1 = .ok (.istore_n 1, 1) := by decide +kernel
theorem dX10_savedPlaces_2 : decode cX10_savedPlaces 2 = .ok (.iconst 0, 1) := by decide +kernel
theorem dX10_savedPlaces_3 : decode cX10_savedPlaces 3 = .ok (.istore_n 2, 1) := by decide +kernel
theorem dX10_savedPlaces_4 : decode cX10_savedPlaces 4 = .ok (.iload_n 2, 1) := by decide +kernel
theorem dX10_savedPlaces_5 : decode cX10_savedPlaces 5 = .ok (.iconst 2, 1) := by decide +kernel
theorem dX10_savedPlaces_6 : decode cX10_savedPlaces 6 = .ok (.if_icmp .ge 24, 3) := by decide +kernel
theorem dX10_savedPlaces_9 : decode cX10_savedPlaces 9 = .ok (.aload_n 0, 1) := by decide +kernel
theorem dX10_savedPlaces_10 : decode cX10_savedPlaces 10 = .ok (.getfield 23, 3) := by decide +kernel
theorem dX10_savedPlaces_13 : decode cX10_savedPlaces 13 = .ok (.iload_n 2, 1) := by decide +kernel
theorem dX10_savedPlaces_14 : decode cX10_savedPlaces 14 = .ok (.aaload, 1) := by decide +kernel
theorem dX10_savedPlaces_15 : decode cX10_savedPlaces 15 = .ok (.ifnull 9, 3) := by decide +kernel
theorem dX10_savedPlaces_18 : decode cX10_savedPlaces 18 = .ok (.iload_n 1, 1) := by decide +kernel
theorem dX10_savedPlaces_19 : decode cX10_savedPlaces 19 = .ok (.iconst 1, 1) := by decide +kernel
theorem dX10_savedPlaces_20 : decode cX10_savedPlaces 20 = .ok (.iload_n 2, 1) := by decide +kernel
theorem dX10_savedPlaces_21 : decode cX10_savedPlaces 21 = .ok (.ishl, 1) := by decide +kernel
theorem dX10_savedPlaces_22 : decode cX10_savedPlaces 22 = .ok (.ior, 1) := by decide +kernel
theorem dX10_savedPlaces_23 : decode cX10_savedPlaces 23 = .ok (.istore_n 1, 1) := by decide +kernel
theorem dX10_savedPlaces_24 : decode cX10_savedPlaces 24 = .ok (.iinc 2 1, 3) := by decide +kernel
theorem dX10_savedPlaces_27 : decode cX10_savedPlaces 27 = .ok (.goto (-23), 3) := by decide +kernel
theorem dX10_savedPlaces_30 : decode cX10_savedPlaces 30 = .ok (.iload_n 1, 1) := by decide +kernel
theorem dX10_savedPlaces_31 : decode cX10_savedPlaces 31 = .ok (.ireturn, 1) := by decide +kernel
theorem dX10_prepare_0 : decode cX10_prepare 0 = .ok (.aload_n 0, 1) := by decide +kernel
theorem dX10_prepare_1 : decode cX10_prepare 1 = .ok (.getfield 82, 3) := by decide +kernel
theorem dX10_prepare_4 : decode cX10_prepare 4 = .ok (.ifCond .eq 40, 3) := by decide +kernel
theorem dX10_prepare_7 : decode cX10_prepare 7 = .ok (.aload_n 0, 1) := by decide +kernel
theorem dX10_prepare_8 : decode cX10_prepare 8 = .ok (.getfield 34, 3) := by decide +kernel
theorem dX10_prepare_11 : decode cX10_prepare 11 = .ok (.aload_n 0, 1) := by decide +kernel
theorem dX10_prepare_12 : decode cX10_prepare 12 = .ok (.getfield 19, 3) := by decide +kernel
theorem dX10_prepare_15 : decode cX10_prepare 15 = .ok (.invokevirtual 240, 3) := by decide +kernel
theorem dX10_prepare_18 : decode cX10_prepare 18 = .ok (.aload_n 0, 1) := by decide +kernel
theorem dX10_prepare_19 : decode cX10_prepare 19 = .ok (.getfield 42, 3) := by decide +kernel
theorem dX10_prepare_22 : decode cX10_prepare 22 = .ok (.invokevirtual 243, 3) := by decide +kernel
theorem dX10_prepare_25 : decode cX10_prepare 25 = .ok (.aload_n 0, 1) := by decide +kernel
theorem dX10_prepare_26 : decode cX10_prepare 26 = .ok (.getfield 51, 3) := by decide +kernel
theorem dX10_prepare_29 : decode cX10_prepare 29 = .ok (.invokevirtual 246, 3) := by decide +kernel
theorem dX10_prepare_32 : decode cX10_prepare 32 = .ok (.aload_n 0, 1) := by decide +kernel
theorem dX10_prepare_33 : decode cX10_prepare 33 = .ok (.getfield 58, 3) := by decide +kernel
theorem dX10_prepare_36 : decode cX10_prepare 36 = .ok (.invokevirtual 249, 3) := by decide +kernel
theorem dX10_prepare_39 : decode cX10_prepare 39 = .ok (.aload_n 0, 1) := by decide +kernel
theorem dX10_prepare_40 : decode cX10_prepare 40 = .ok (.iconst 0, 1) := by decide +kernel
theorem dX10_prepare_41 : decode cX10_prepare 41 = .ok (.putfield 82, 3) := by decide +kernel
theorem dX10_prepare_44 : decode cX10_prepare 44 = .ok (.return_, 1) := by decide +kernel
theorem dX10_partsOf_0 : decode cX10_partsOf 0 = .ok (.iconst 1, 1) := by decide +kernel
theorem dX10_partsOf_1 : decode cX10_partsOf 1 = .ok (.iload_n 0, 1) := by decide +kernel
theorem dX10_partsOf_2 : decode cX10_partsOf 2 = .ok (.sipush 255, 3) := by decide +kernel
theorem dX10_partsOf_5 : decode cX10_partsOf 5 = .ok (.iand, 1) := by decide +kernel
theorem dX10_partsOf_6 : decode cX10_partsOf 6 = .ok (.invokestatic 152, 3) := by decide +kernel
theorem dX10_partsOf_9 : decode cX10_partsOf 9 = .ok (.ishl, 1) := by decide +kernel
theorem dX10_partsOf_10 : decode cX10_partsOf 10 = .ok (.ireturn, 1) := by decide +kernel
theorem dX10_nextPart_0 : decode cX10_nextPart 0 = .ok (.iload_n 0, 1) := by decide +kernel
theorem dX10_nextPart_1 : decode cX10_nextPart 1 = .ok (.iload_n 1, 1) := by decide +kernel
theorem dX10_nextPart_2 : decode cX10_nextPart 2 = .ok (.isub, 1) := by decide +kernel
theorem dX10_nextPart_3 : decode cX10_nextPart 3 = .ok (.iload_n 1, 1) := by decide +kernel
theorem dX10_nextPart_4 : decode cX10_nextPart 4 = .ok (.iand, 1) := by decide +kernel
theorem dX10_nextPart_5 : decode cX10_nextPart 5 = .ok (.ireturn, 1) := by decide +kernel
theorem dX11_init_0 : decode cX11_init 0 = .ok (.aload_n 0, 1) := by decide +kernel
theorem dX11_init_1 : decode cX11_init 1 = .ok (.invokespecial 1, 3) := by decide +kernel
theorem dX11_init_4 : decode cX11_init 4 = .ok (.aload_n 0, 1) := by decide +kernel
theorem dX11_init_5 : decode cX11_init 5 = .ok (.sipush 660, 3) := by decide +kernel
theorem dX11_init_8 : decode cX11_init 8 = .ok (.newarray .int, 2) := by decide +kernel
theorem dX11_init_10 : decode cX11_init 10 = .ok (.putfield 7, 3) := by decide +kernel
theorem dX11_init_13 : decode cX11_init 13 = .ok (.aload_n 0, 1) := by decide +kernel
theorem dX11_init_14 : decode cX11_init 14 = .ok (.bipush 11, 2) := by decide +kernel
theorem dX11_init_16 : decode cX11_init 16 = .ok (.newarray .int, 2) := by decide +kernel
theorem dX11_init_18 : decode cX11_init 18 = .ok (.putfield 13, 3) := by decide +kernel
theorem dX11_init_21 : decode cX11_init 21 = .ok (.aload_n 0, 1) := by decide +kernel
theorem dX11_init_22 : decode cX11_init 22 = .ok (.bipush (-6), 2) := by decide +kernel
theorem dX11_init_24 : decode cX11_init 24 = .ok (.putfield 16, 3) := by decide +kernel
theorem dX11_init_27 : decode cX11_init 27 = .ok (.aload_n 0, 1) := by decide +kernel
theorem dX11_init_28 : decode cX11_init 28 = .ok (.bipush 60, 2) := by decide +kernel
theorem dX11_init_30 : decode cX11_init 30 = .ok (.newarray .int, 2) := by decide +kernel
theorem dX11_init_32 : decode cX11_init 32 = .ok (.putfield 20, 3) := by decide +kernel
theorem dX11_init_35 : decode cX11_init 35 = .ok (.aload_n 0, 1) := by decide +kernel
theorem dX11_init_36 : decode cX11_init 36 = .ok (.bipush 64, 2) := by decide +kernel
theorem dX11_init_38 : decode cX11_init 38 = .ok (.newarray .int, 2) := by decide +kernel
theorem dX11_init_40 : decode cX11_init 40 = .ok (.putfield 23, 3) := by decide +kernel
theorem dX11_init_43 : decode cX11_init 43 = .ok (.aload_n 0, 1) := by decide +kernel
theorem dX11_init_44 : decode cX11_init 44 = .ok (.bipush 64, 2) := by decide +kernel
theorem dX11_init_46 : decode cX11_init 46 = .ok (.newarray .int, 2) := by decide +kernel
theorem dX11_init_48 : decode cX11_init 48 = .ok (.putfield 26, 3) := by decide +kernel
theorem dX11_init_51 : decode cX11_init 51 = .ok (.aload_n 0, 1) := by decide +kernel
theorem dX11_init_52 : decode cX11_init 52 = .ok (.bipush 64, 2) := by decide +kernel
theorem dX11_init_54 : decode cX11_init 54 = .ok (.newarray .int, 2) := by decide +kernel
theorem dX11_init_56 : decode cX11_init 56 = .ok (.putfield 29, 3) := by decide +kernel
theorem dX11_init_59 : decode cX11_init 59 = .ok (.aload_n 0, 1) := by decide +kernel
theorem dX11_init_60 : decode cX11_init 60 = .ok (.bipush 12, 2) := by decide +kernel
theorem dX11_init_62 : decode cX11_init 62 = .ok (.newarray .int, 2) := by decide +kernel
theorem dX11_init_64 : decode cX11_init 64 = .ok (.putfield 32, 3) := by decide +kernel
theorem dX11_init_67 : decode cX11_init 67 = .ok (.aload_n 0, 1) := by decide +kernel
theorem dX11_init_68 : decode cX11_init 68 = .ok (.bipush 36, 2) := by decide +kernel
theorem dX11_init_70 : decode cX11_init 70 = .ok (.newarray .int, 2) := by decide +kernel
theorem dX11_init_72 : decode cX11_init 72 = .ok (.putfield 35, 3) := by decide +kernel
theorem dX11_init_75 : decode cX11_init 75 = .ok (.aload_n 0, 1) := by decide +kernel
theorem dX11_init_76 : decode cX11_init 76 = .ok (.bipush 36, 2) := by decide +kernel
theorem dX11_init_78 : decode cX11_init 78 = .ok (.newarray .int, 2) := by decide +kernel
theorem dX11_init_80 : decode cX11_init 80 = .ok (.putfield 38, 3) := by decide +kernel
theorem dX11_init_83 : decode cX11_init 83 = .ok (.aload_n 0, 1) := by decide +kernel
theorem dX11_init_84 : decode cX11_init 84 = .ok (.sipush 128, 3) := by decide +kernel
theorem dX11_init_87 : decode cX11_init 87 = .ok (.newarray .int, 2) := by decide +kernel
theorem dX11_init_89 : decode cX11_init 89 = .ok (.putfield 41, 3) := by decide +kernel
theorem dX11_init_92 : decode cX11_init 92 = .ok (.aload_n 0, 1) := by decide +kernel
theorem dX11_init_93 : decode cX11_init 93 = .ok (.sipush 128, 3) := by decide +kernel
theorem dX11_init_96 : decode cX11_init 96 = .ok (.newarray .int, 2) := by decide +kernel
theorem dX11_init_98 : decode cX11_init 98 = .ok (.putfield 44, 3) := by decide +kernel
theorem dX11_init_101 : decode cX11_init 101 = .ok (.aload_n 0, 1) := by decide +kernel
theorem dX11_init_102 : decode cX11_init 102 = .ok (.sipush 128, 3) := by decide +kernel
theorem dX11_init_105 : decode cX11_init 105 = .ok (.newarray .int, 2) := by decide +kernel
theorem dX11_init_107 : decode cX11_init 107 = .ok (.putfield 47, 3) := by decide +kernel
theorem dX11_init_110 : decode cX11_init 110 = .ok (.aload_n 0, 1) := by decide +kernel
theorem dX11_init_111 : decode cX11_init 111 = .ok (.sipush 128, 3) := by decide +kernel
theorem dX11_init_114 : decode cX11_init 114 = .ok (.newarray .int, 2) := by decide +kernel
theorem dX11_init_116 : decode cX11_init 116 = .ok (.putfield 50, 3) := by decide +kernel
theorem dX11_init_119 : decode cX11_init 119 = .ok (.aload_n 0, 1) := by decide +kernel
theorem dX11_init_120 : decode cX11_init 120 = .ok (.iconst 1, 1) := by decide +kernel
theorem dX11_init_121 : decode cX11_init 121 = .ok (.putfield 53, 3) := by decide +kernel
theorem dX11_init_124 : decode cX11_init 124 = .ok (.aload_n 0, 1) := by decide +kernel
theorem dX11_init_125 : decode cX11_init 125 = .ok (.sipush 15360, 3) := by decide +kernel
theorem dX11_init_128 : decode cX11_init 128 = .ok (.newarray .int, 2) := by decide +kernel
theorem dX11_init_130 : decode cX11_init 130 = .ok (.putfield 57, 3) := by decide +kernel
theorem dX11_init_133 : decode cX11_init 133 = .ok (.aload_n 0, 1) := by decide +kernel
theorem dX11_init_134 : decode cX11_init 134 = .ok (.sipush 15360, 3) := by decide +kernel
theorem dX11_init_137 : decode cX11_init 137 = .ok (.newarray .long, 2) := by decide +kernel
theorem dX11_init_139 : decode cX11_init 139 = .ok (.putfield 60, 3) := by decide +kernel
theorem dX11_init_142 : decode cX11_init 142 = .ok (.aload_n 0, 1) := by decide +kernel
theorem dX11_init_143 : decode cX11_init 143 = .ok (.sipush 15360, 3) := by decide +kernel
theorem dX11_init_146 : decode cX11_init 146 = .ok (.newarray .long, 2) := by decide +kernel
theorem dX11_init_148 : decode cX11_init 148 = .ok (.putfield 64, 3) := by decide +kernel
theorem dX11_init_151 : decode cX11_init 151 = .ok (.aload_n 0, 1) := by decide +kernel
theorem dX11_init_152 : decode cX11_init 152 = .ok (.sipush 1024, 3) := by decide +kernel
theorem dX11_init_155 : decode cX11_init 155 = .ok (.newarray .int, 2) := by decide +kernel
theorem dX11_init_157 : decode cX11_init 157 = .ok (.putfield 67, 3) := by decide +kernel
theorem dX11_init_160 : decode cX11_init 160 = .ok (.aload_n 0, 1) := by decide +kernel
theorem dX11_init_161 : decode cX11_init 161 = .ok (.bipush 64, 2) := by decide +kernel
theorem dX11_init_163 : decode cX11_init 163 = .ok (.newarray .int, 2) := by decide +kernel
theorem dX11_init_165 : decode cX11_init 165 = .ok (.putfield 70, 3) := by decide +kernel
theorem dX11_init_168 : decode cX11_init 168 = .ok (.aload_n 0, 1) := by decide +kernel
theorem dX11_init_169 : decode cX11_init 169 = .ok (.bipush 64, 2) := by decide +kernel
theorem dX11_init_171 : decode cX11_init 171 = .ok (.newarray .int, 2) := by decide +kernel
theorem dX11_init_173 : decode cX11_init 173 = .ok (.putfield 73, 3) := by decide +kernel
theorem dX11_init_176 : decode cX11_init 176 = .ok (.aload_n 0, 1) := by decide +kernel
theorem dX11_init_177 : decode cX11_init 177 = .ok (.bipush 64, 2) := by decide +kernel
theorem dX11_init_179 : decode cX11_init 179 = .ok (.newarray .int, 2) := by decide +kernel
theorem dX11_init_181 : decode cX11_init 181 = .ok (.putfield 76, 3) := by decide +kernel
theorem dX11_init_184 : decode cX11_init 184 = .ok (.aload_n 0, 1) := by decide +kernel
theorem dX11_init_185 : decode cX11_init 185 = .ok (.sipush 1200, 3) := by decide +kernel
theorem dX11_init_188 : decode cX11_init 188 = .ok (.newarray .int, 2) := by decide +kernel
theorem dX11_init_190 : decode cX11_init 190 = .ok (.putfield 79, 3) := by decide +kernel
theorem dX11_init_193 : decode cX11_init 193 = .ok (.aload_n 0, 1) := by decide +kernel
theorem dX11_init_194 : decode cX11_init 194 = .ok (.bipush 20, 2) := by decide +kernel
theorem dX11_init_196 : decode cX11_init 196 = .ok (.newarray .int, 2) := by decide +kernel
theorem dX11_init_198 : decode cX11_init 198 = .ok (.putfield 82, 3) := by decide +kernel
theorem dX11_init_201 : decode cX11_init 201 = .ok (.aload_n 0, 1) := by decide +kernel
theorem dX11_init_202 : decode cX11_init 202 = .ok (.iconst 2, 1) := by decide +kernel
theorem dX11_init_203 : decode cX11_init 203 = .ok (.newarray .boolean, 2) := by decide +kernel
theorem dX11_init_205 : decode cX11_init 205 = .ok (.putfield 85, 3) := by decide +kernel
theorem dX11_init_208 : decode cX11_init 208 = .ok (.iconst 0, 1) := by decide +kernel
theorem dX11_init_209 : decode cX11_init 209 = .ok (.istore_n 1, 1) := by decide +kernel
theorem dX11_init_210 : decode cX11_init 210 = .ok (.iload_n 1, 1) := by decide +kernel
theorem dX11_init_211 : decode cX11_init 211 = .ok (.bipush 10, 2) := by decide +kernel
theorem dX11_init_213 : decode cX11_init 213 = .ok (.if_icmp .ge 17, 3) := by decide +kernel
theorem dX11_init_216 : decode cX11_init 216 = .ok (.aload_n 0, 1) := by decide +kernel
theorem dX11_init_217 : decode cX11_init 217 = .ok (.getfield 13, 3) := by decide +kernel
theorem dX11_init_220 : decode cX11_init 220 = .ok (.iload_n 1, 1) := by decide +kernel
theorem dX11_init_221 : decode cX11_init 221 = .ok (.bipush (-6), 2) := by decide +kernel
theorem dX11_init_223 : decode cX11_init 223 = .ok (.iastore, 1) := by decide +kernel
theorem dX11_init_224 : decode cX11_init 224 = .ok (.iinc 1 1, 3) := by decide +kernel
theorem dX11_init_227 : decode cX11_init 227 = .ok (.goto (-17), 3) := by decide +kernel
theorem dX11_init_230 : decode cX11_init 230 = .ok (.return_, 1) := by decide +kernel
theorem dX11_in_0 : decode cX11_in 0 = .ok (.iload_n 0, 1) := by decide +kernel
theorem dX11_in_1 : decode cX11_in 1 = .ok (.iload_n 1, 1) := by decide +kernel
theorem dX11_in_2 : decode cX11_in 2 = .ok (.if_icmp .lt 12, 3) := by decide +kernel
theorem dX11_in_5 : decode cX11_in 5 = .ok (.iload_n 0, 1) := by decide +kernel
theorem dX11_in_6 : decode cX11_in 6 = .ok (.iload_n 2, 1) := by decide +kernel
theorem dX11_in_7 : decode cX11_in 7 = .ok (.if_icmp .gt 7, 3) := by decide +kernel
theorem dX11_in_10 : decode cX11_in 10 = .ok (.iconst 1, 1) := by decide +kernel
theorem dX11_in_11 : decode cX11_in 11 = .ok (.goto 4, 3) := by decide +kernel
theorem dX11_in_14 : decode cX11_in 14 = .ok (.iconst 0, 1) := by decide +kernel
theorem dX11_in_15 : decode cX11_in 15 = .ok (.ireturn, 1) := by decide +kernel
theorem dX11_has_0 : decode cX11_has 0 = .ok (.iload_n 0, 1) := by decide +kernel
theorem dX11_has_1 : decode cX11_has 1 = .ok (.iload_n 1, 1) := by decide +kernel
theorem dX11_has_2 : decode cX11_has 2 = .ok (.ishr, 1) := by decide +kernel
theorem dX11_has_3 : decode cX11_has 3 = .ok (.iconst 1, 1) := by decide +kernel
theorem dX11_has_4 : decode cX11_has 4 = .ok (.iand, 1) := by decide +kernel
theorem dX11_has_5 : decode cX11_has 5 = .ok (.iconst 1, 1) := by decide +kernel
theorem dX11_has_6 : decode cX11_has 6 = .ok (.if_icmp .ne 7, 3) := by decide +kernel
theorem dX11_has_9 : decode cX11_has 9 = .ok (.iconst 1, 1) := by decide +kernel
theorem dX11_has_10 : decode cX11_has 10 = .ok (.goto 4, 3) := by decide +kernel
theorem dX11_has_13 : decode cX11_has 13 = .ok (.iconst 0, 1) := by decide +kernel
theorem dX11_has_14 : decode cX11_has 14 = .ok (.ireturn, 1) := by decide +kernel
theorem dX11_push_0 : decode cX11_push 0 = .ok (.aload_n 0, 1) := by decide +kernel
theorem dX11_push_1 : decode cX11_push 1 = .ok (.getfield 41, 3) := by decide +kernel
theorem dX11_push_4 : decode cX11_push 4 = .ok (.aload_n 0, 1) := by decide +kernel
theorem dX11_push_5 : decode cX11_push 5 = .ok (.getfield 89, 3) := by decide +kernel
theorem dX11_push_8 : decode cX11_push 8 = .ok (.iload_n 1, 1) := by decide +kernel
theorem dX11_push_9 : decode cX11_push 9 = .ok (.iastore, 1) := by decide +kernel
theorem dX11_push_10 : decode cX11_push 10 = .ok (.aload_n 0, 1) := by decide +kernel
theorem dX11_push_11 : decode cX11_push 11 = .ok (.getfield 44, 3) := by decide +kernel
theorem dX11_push_14 : decode cX11_push 14 = .ok (.aload_n 0, 1) := by decide +kernel
theorem dX11_push_15 : decode cX11_push 15 = .ok (.getfield 89, 3) := by decide +kernel
theorem dX11_push_18 : decode cX11_push 18 = .ok (.iload_n 2, 1) := by decide +kernel
theorem dX11_push_19 : decode cX11_push 19 = .ok (.iastore, 1) := by decide +kernel
theorem dX11_push_20 : decode cX11_push 20 = .ok (.aload_n 0, 1) := by decide +kernel
theorem dX11_push_21 : decode cX11_push 21 = .ok (.getfield 47, 3) := by decide +kernel
theorem dX11_push_24 : decode cX11_push 24 = .ok (.aload_n 0, 1) := by decide +kernel
theorem dX11_push_25 : decode cX11_push 25 = .ok (.getfield 89, 3) := by decide +kernel
theorem dX11_push_28 : decode cX11_push 28 = .ok (.iload_n 3, 1) := by decide +kernel
theorem dX11_push_29 : decode cX11_push 29 = .ok (.iastore, 1) := by decide +kernel
theorem dX11_push_30 : decode cX11_push 30 = .ok (.aload_n 0, 1) := by decide +kernel
theorem dX11_push_31 : decode cX11_push 31 = .ok (.getfield 50, 3) := by decide +kernel
theorem dX11_push_34 : decode cX11_push 34 = .ok (.aload_n 0, 1) := by decide +kernel
theorem dX11_push_35 : decode cX11_push 35 = .ok (.getfield 89, 3) := by decide +kernel
theorem dX11_push_38 : decode cX11_push 38 = .ok (.iconst 0, 1) := by decide +kernel
theorem dX11_push_39 : decode cX11_push 39 = .ok (.iastore, 1) := by decide +kernel
theorem dX11_push_40 : decode cX11_push 40 = .ok (.aload_n 0, 1) := by decide +kernel
theorem dX11_push_41 : decode cX11_push 41 = .ok (.dup, 1) := by decide +kernel
theorem dX11_push_42 : decode cX11_push 42 = .ok (.getfield 89, 3) := by decide +kernel
theorem dX11_push_45 : decode cX11_push 45 = .ok (.iconst 1, 1) := by decide +kernel
theorem dX11_push_46 : decode cX11_push 46 = .ok (.iadd, 1) := by decide +kernel
theorem dX11_push_47 : decode cX11_push 47 = .ok (.putfield 89, 3) := by decide +kernel
theorem dX11_push_50 : decode cX11_push 50 = .ok (.return_, 1) := by decide +kernel
theorem dX11_begin_0 : decode cX11_begin 0 = .ok (.aload_n 0, 1) := by decide +kernel
theorem dX11_begin_1 : decode cX11_begin 1 = .ok (.getfield 92, 3) := by decide +kernel
theorem dX11_begin_4 : decode cX11_begin 4 = .ok (.istore_n 3, 1) := by decide +kernel
theorem dX11_begin_5 : decode cX11_begin 5 = .ok (.aload_n 0, 1) := by decide +kernel
theorem dX11_begin_6 : decode cX11_begin 6 = .ok (.dup, 1) := by decide +kernel
theorem dX11_begin_7 : decode cX11_begin 7 = .ok (.getfield 92, 3) := by decide +kernel
theorem dX11_begin_10 : decode cX11_begin 10 = .ok (.iconst 1, 1) := by decide +kernel
theorem dX11_begin_11 : decode cX11_begin 11 = .ok (.iadd, 1) := by decide +kernel
theorem dX11_begin_12 : decode cX11_begin 12 = .ok (.putfield 92, 3) := by decide +kernel
theorem dX11_begin_15 : decode cX11_begin 15 = .ok (.aload_n 0, 1) := by decide +kernel
theorem dX11_begin_16 : decode cX11_begin 16 = .ok (.getfield 95, 3) := by decide +kernel
theorem dX11_begin_19 : decode cX11_begin 19 = .ok (.ifCond .eq 140, 3) := by decide +kernel
theorem dX11_begin_22 : decode cX11_begin 22 = .ok (.aload_n 0, 1) := by decide +kernel
theorem dX11_begin_23 : decode cX11_begin 23 = .ok (.getfield 23, 3) := by decide +kernel
theorem dX11_begin_26 : decode cX11_begin 26 = .ok (.iload_n 3, 1) := by decide +kernel
theorem dX11_begin_27 : decode cX11_begin 27 = .ok (.iload_n 1, 1) := by decide +kernel
theorem dX11_begin_28 : decode cX11_begin 28 = .ok (.iastore, 1) := by decide +kernel
theorem dX11_begin_29 : decode cX11_begin 29 = .ok (.aload_n 0, 1) := by decide +kernel
theorem dX11_begin_30 : decode cX11_begin 30 = .ok (.getfield 26, 3) := by decide +kernel
theorem dX11_begin_33 : decode cX11_begin 33 = .ok (.iload_n 3, 1) := by decide +kernel
theorem dX11_begin_34 : decode cX11_begin 34 = .ok (.iload_n 2, 1) := by decide +kernel
theorem dX11_begin_35 : decode cX11_begin 35 = .ok (.iastore, 1) := by decide +kernel
theorem dX11_begin_36 : decode cX11_begin 36 = .ok (.aload_n 0, 1) := by decide +kernel
theorem dX11_begin_37 : decode cX11_begin 37 = .ok (.getfield 29, 3) := by decide +kernel
theorem dX11_begin_40 : decode cX11_begin 40 = .ok (.iload_n 3, 1) := by decide +kernel
theorem dX11_begin_41 : decode cX11_begin 41 = .ok (.bipush (-6), 2) := by decide +kernel
theorem dX11_begin_43 : decode cX11_begin 43 = .ok (.iastore, 1) := by decide +kernel
theorem dX11_begin_44 : decode cX11_begin 44 = .ok (.aload_n 0, 1) := by decide +kernel
theorem dX11_begin_45 : decode cX11_begin 45 = .ok (.getfield 89, 3) := by decide +kernel
theorem dX11_begin_48 : decode cX11_begin 48 = .ok (.iconst 1, 1) := by decide +kernel
theorem dX11_begin_49 : decode cX11_begin 49 = .ok (.isub, 1) := by decide +kernel
theorem dX11_begin_50 : decode cX11_begin 50 = .ok (.istore 4, 2) := by decide +kernel
theorem dX11_begin_52 : decode cX11_begin 52 = .ok (.aload_n 0, 1) := by decide +kernel
theorem dX11_begin_53 : decode cX11_begin 53 = .ok (.getfield 41, 3) := by decide +kernel
theorem dX11_begin_56 : decode cX11_begin 56 = .ok (.iload 4, 2) := by decide +kernel
theorem dX11_begin_58 : decode cX11_begin 58 = .ok (.iaload, 1) := by decide +kernel
theorem dX11_begin_59 : decode cX11_begin 59 = .ok (.tableswitch 87 0 4 #[33, 87, 41, 87, 57], 33) := by decide +kernel
theorem dX11_begin_92 : decode cX11_begin 92 = .ok (.aload_n 0, 1) := by decide +kernel
theorem dX11_begin_93 : decode cX11_begin 93 = .ok (.iload_n 3, 1) := by decide +kernel
theorem dX11_begin_94 : decode cX11_begin 94 = .ok (.putfield 98, 3) := by decide +kernel
theorem dX11_begin_97 : decode cX11_begin 97 = .ok (.goto 62, 3) := by decide +kernel
theorem dX11_begin_100 : decode cX11_begin 100 = .ok (.aload_n 0, 1) := by decide +kernel
theorem dX11_begin_101 : decode cX11_begin 101 = .ok (.getfield 29, 3) := by decide +kernel
theorem dX11_begin_104 : decode cX11_begin 104 = .ok (.aload_n 0, 1) := by decide +kernel
theorem dX11_begin_105 : decode cX11_begin 105 = .ok (.getfield 44, 3) := by decide +kernel
theorem dX11_begin_108 : decode cX11_begin 108 = .ok (.iload 4, 2) := by decide +kernel
theorem dX11_begin_110 : decode cX11_begin 110 = .ok (.iaload, 1) := by decide +kernel
theorem dX11_begin_111 : decode cX11_begin 111 = .ok (.iload_n 3, 1) := by decide +kernel
theorem dX11_begin_112 : decode cX11_begin 112 = .ok (.iastore, 1) := by decide +kernel
theorem dX11_begin_113 : decode cX11_begin 113 = .ok (.goto 46, 3) := by decide +kernel
theorem dX11_begin_116 : decode cX11_begin 116 = .ok (.aload_n 0, 1) := by decide +kernel
theorem dX11_begin_117 : decode cX11_begin 117 = .ok (.getfield 38, 3) := by decide +kernel
theorem dX11_begin_120 : decode cX11_begin 120 = .ok (.iconst 3, 1) := by decide +kernel
theorem dX11_begin_121 : decode cX11_begin 121 = .ok (.aload_n 0, 1) := by decide +kernel
theorem dX11_begin_122 : decode cX11_begin 122 = .ok (.getfield 47, 3) := by decide +kernel
theorem dX11_begin_125 : decode cX11_begin 125 = .ok (.iload 4, 2) := by decide +kernel
theorem dX11_begin_127 : decode cX11_begin 127 = .ok (.iaload, 1) := by decide +kernel
theorem dX11_begin_128 : decode cX11_begin 128 = .ok (.imul, 1) := by decide +kernel
theorem dX11_begin_129 : decode cX11_begin 129 = .ok (.aload_n 0, 1) := by decide +kernel
theorem dX11_begin_130 : decode cX11_begin 130 = .ok (.getfield 50, 3) := by decide +kernel
theorem dX11_begin_133 : decode cX11_begin 133 = .ok (.iload 4, 2) := by decide +kernel
theorem dX11_begin_135 : decode cX11_begin 135 = .ok (.iconst 1, 1) := by decide +kernel
theorem dX11_begin_136 : decode cX11_begin 136 = .ok (.isub, 1) := by decide +kernel
theorem dX11_begin_137 : decode cX11_begin 137 = .ok (.iaload, 1) := by decide +kernel
theorem dX11_begin_138 : decode cX11_begin 138 = .ok (.iadd, 1) := by decide +kernel
theorem dX11_begin_139 : decode cX11_begin 139 = .ok (.iconst 1, 1) := by decide +kernel
theorem dX11_begin_140 : decode cX11_begin 140 = .ok (.isub, 1) := by decide +kernel
theorem dX11_begin_141 : decode cX11_begin 141 = .ok (.iload_n 3, 1) := by decide +kernel
theorem dX11_begin_142 : decode cX11_begin 142 = .ok (.iastore, 1) := by decide +kernel
theorem dX11_begin_143 : decode cX11_begin 143 = .ok (.goto 16, 3) := by decide +kernel
theorem dX11_begin_146 : decode cX11_begin 146 = .ok (.aload_n 0, 1) := by decide +kernel
theorem dX11_begin_147 : decode cX11_begin 147 = .ok (.getfield 26, 3) := by decide +kernel
theorem dX11_begin_150 : decode cX11_begin 150 = .ok (.aload_n 0, 1) := by decide +kernel
theorem dX11_begin_151 : decode cX11_begin 151 = .ok (.getfield 44, 3) := by decide +kernel
theorem dX11_begin_154 : decode cX11_begin 154 = .ok (.iload 4, 2) := by decide +kernel
theorem dX11_begin_156 : decode cX11_begin 156 = .ok (.iaload, 1) := by decide +kernel
theorem dX11_begin_157 : decode cX11_begin 157 = .ok (.iload_n 3, 1) := by decide +kernel
theorem dX11_begin_158 : decode cX11_begin 158 = .ok (.iastore, 1) := by decide +kernel
theorem dX11_begin_159 : decode cX11_begin 159 = .ok (.iload_n 3, 1) := by decide +kernel
theorem dX11_begin_160 : decode cX11_begin 160 = .ok (.ireturn, 1) := by decide +kernel
theorem dX11_complete_0 : decode cX11_complete 0 = .ok (.aload_n 0, 1) := by decide +kernel
theorem dX11_complete_1 : decode cX11_complete 1 = .ok (.getfield 41, 3) := by decide +kernel
theorem dX11_complete_4 : decode cX11_complete 4 = .ok (.aload_n 0, 1) := by decide +kernel
theorem dX11_complete_5 : decode cX11_complete 5 = .ok (.getfield 89, 3) := by decide +kernel
theorem dX11_complete_8 : decode cX11_complete 8 = .ok (.iconst 1, 1) := by decide +kernel
theorem dX11_complete_9 : decode cX11_complete 9 = .ok (.isub, 1) := by decide +kernel
theorem dX11_complete_10 : decode cX11_complete 10 = .ok (.iaload, 1) := by decide +kernel
theorem dX11_complete_11 : decode cX11_complete 11 = .ok (.iconst 3, 1) := by decide +kernel
theorem dX11_complete_12 : decode cX11_complete 12 = .ok (.if_icmp .ne 16, 3) := by decide +kernel
theorem dX11_complete_15 : decode cX11_complete 15 = .ok (.aload_n 0, 1) := by decide +kernel
theorem dX11_complete_16 : decode cX11_complete 16 = .ok (.dup, 1) := by decide +kernel
theorem dX11_complete_17 : decode cX11_complete 17 = .ok (.getfield 89, 3) := by decide +kernel
theorem dX11_complete_20 : decode cX11_complete 20 = .ok (.iconst 1, 1) := by decide +kernel
theorem dX11_complete_21 : decode cX11_complete 21 = .ok (.isub, 1) := by decide +kernel
theorem dX11_complete_22 : decode cX11_complete 22 = .ok (.putfield 89, 3) := by decide +kernel
theorem dX11_complete_25 : decode cX11_complete 25 = .ok (.goto (-25), 3) := by decide +kernel
theorem dX11_complete_28 : decode cX11_complete 28 = .ok (.aload_n 0, 1) := by decide +kernel
theorem dX11_complete_29 : decode cX11_complete 29 = .ok (.getfield 41, 3) := by decide +kernel
theorem dX11_complete_32 : decode cX11_complete 32 = .ok (.aload_n 0, 1) := by decide +kernel
theorem dX11_complete_33 : decode cX11_complete 33 = .ok (.getfield 89, 3) := by decide +kernel
theorem dX11_complete_36 : decode cX11_complete 36 = .ok (.iconst 1, 1) := by decide +kernel
theorem dX11_complete_37 : decode cX11_complete 37 = .ok (.isub, 1) := by decide +kernel
theorem dX11_complete_38 : decode cX11_complete 38 = .ok (.iaload, 1) := by decide +kernel
theorem dX11_complete_39 : decode cX11_complete 39 = .ok (.tableswitch 50 0 2 #[25, 34, 42], 25) := by decide +kernel
theorem dX11_complete_64 : decode cX11_complete 64 = .ok (.aload_n 0, 1) := by decide +kernel
theorem dX11_complete_65 : decode cX11_complete 65 = .ok (.bipush 6, 2) := by decide +kernel
theorem dX11_complete_67 : decode cX11_complete 67 = .ok (.putfield 101, 3) := by decide +kernel
theorem dX11_complete_70 : decode cX11_complete 70 = .ok (.goto 34, 3) := by decide +kernel
theorem dX11_complete_73 : decode cX11_complete 73 = .ok (.aload_n 0, 1) := by decide +kernel
theorem dX11_complete_74 : decode cX11_complete 74 = .ok (.iconst 1, 1) := by decide +kernel
theorem dX11_complete_75 : decode cX11_complete 75 = .ok (.putfield 101, 3) := by decide +kernel
theorem dX11_complete_78 : decode cX11_complete 78 = .ok (.goto 26, 3) := by decide +kernel
theorem dX11_complete_81 : decode cX11_complete 81 = .ok (.aload_n 0, 1) := by decide +kernel
theorem dX11_complete_82 : decode cX11_complete 82 = .ok (.iconst 2, 1) := by decide +kernel
theorem dX11_complete_83 : decode cX11_complete 83 = .ok (.putfield 101, 3) := by decide +kernel
theorem dX11_complete_86 : decode cX11_complete 86 = .ok (.goto 18, 3) := by decide +kernel
theorem dX11_complete_89 : decode cX11_complete 89 = .ok (.aload_n 0, 1) := by decide +kernel
theorem dX11_complete_90 : decode cX11_complete 90 = .ok (.dup, 1) := by decide +kernel
theorem dX11_complete_91 : decode cX11_complete 91 = .ok (.getfield 89, 3) := by decide +kernel
theorem dX11_complete_94 : decode cX11_complete 94 = .ok (.iconst 1, 1) := by decide +kernel
theorem dX11_complete_95 : decode cX11_complete 95 = .ok (.isub, 1) := by decide +kernel
theorem dX11_complete_96 : decode cX11_complete 96 = .ok (.putfield 89, 3) := by decide +kernel
theorem dX11_complete_99 : decode cX11_complete 99 = .ok (.aload_n 0, 1) := by decide +kernel
theorem dX11_complete_100 : decode cX11_complete 100 = .ok (.iconst 5, 1) := by decide +kernel
theorem dX11_complete_101 : decode cX11_complete 101 = .ok (.putfield 101, 3) := by decide +kernel
theorem dX11_complete_104 : decode cX11_complete 104 = .ok (.return_, 1) := by decide +kernel
theorem dX11_isLetter_0 : decode cX11_isLetter 0 = .ok (.iload_n 0, 1) := by decide +kernel
theorem dX11_isLetter_1 : decode cX11_isLetter 1 = .ok (.bipush 97, 2) := by decide +kernel
theorem dX11_isLetter_3 : decode cX11_isLetter 3 = .ok (.bipush 104, 2) := by decide +kernel
theorem dX11_isLetter_5 : decode cX11_isLetter 5 = .ok (.invokestatic 104, 3) := by decide +kernel
theorem dX11_isLetter_8 : decode cX11_isLetter 8 = .ok (.ireturn, 1) := by decide +kernel
theorem dX11_readGoal_0 : decode cX11_readGoal 0 = .ok (.iload_n 1, 1) := by decide +kernel
theorem dX11_readGoal_1 : decode cX11_readGoal 1 = .ok (.invokestatic 108, 3) := by decide +kernel
theorem dX11_readGoal_4 : decode cX11_readGoal 4 = .ok (.ifCond .eq 16, 3) := by decide +kernel
theorem dX11_readGoal_7 : decode cX11_readGoal 7 = .ok (.aload_n 0, 1) := by decide +kernel
theorem dX11_readGoal_8 : decode cX11_readGoal 8 = .ok (.iconst 0, 1) := by decide +kernel
theorem dX11_readGoal_9 : decode cX11_readGoal 9 = .ok (.iload_n 1, 1) := by decide +kernel
theorem dX11_readGoal_10 : decode cX11_readGoal 10 = .ok (.invokevirtual 112, 3) := by decide +kernel
theorem dX11_readGoal_13 : decode cX11_readGoal 13 = .ok (.pop, 1) := by decide +kernel
theorem dX11_readGoal_14 : decode cX11_readGoal 14 = .ok (.aload_n 0, 1) := by decide +kernel
theorem dX11_readGoal_15 : decode cX11_readGoal 15 = .ok (.invokevirtual 116, 3) := by decide +kernel
theorem dX11_readGoal_18 : decode cX11_readGoal 18 = .ok (.iconst 1, 1) := by decide +kernel
theorem dX11_readGoal_19 : decode cX11_readGoal 19 = .ok (.ireturn, 1) := by decide +kernel
theorem dX11_readGoal_20 : decode cX11_readGoal 20 = .ok (.iload_n 1, 1) := by decide +kernel
theorem dX11_readGoal_21 : decode cX11_readGoal 21 = .ok (.lookupswitch 117 #[(33, 79), (40, 95), (49, 51), (84, 65), (91, 111)], 51) := by decide +kernel
theorem dX11_readGoal_72 : decode cX11_readGoal 72 = .ok (.aload_n 0, 1) := by decide +kernel
theorem dX11_readGoal_73 : decode cX11_readGoal 73 = .ok (.iconst 1, 1) := by decide +kernel
theorem dX11_readGoal_74 : decode cX11_readGoal 74 = .ok (.bipush (-6), 2) := by decide +kernel
theorem dX11_readGoal_76 : decode cX11_readGoal 76 = .ok (.invokevirtual 112, 3) := by decide +kernel
theorem dX11_readGoal_79 : decode cX11_readGoal 79 = .ok (.pop, 1) := by decide +kernel
theorem dX11_readGoal_80 : decode cX11_readGoal 80 = .ok (.aload_n 0, 1) := by decide +kernel
theorem dX11_readGoal_81 : decode cX11_readGoal 81 = .ok (.invokevirtual 116, 3) := by decide +kernel
theorem dX11_readGoal_84 : decode cX11_readGoal 84 = .ok (.iconst 1, 1) := by decide +kernel
theorem dX11_readGoal_85 : decode cX11_readGoal 85 = .ok (.ireturn, 1) := by decide +kernel
theorem dX11_readGoal_86 : decode cX11_readGoal 86 = .ok (.aload_n 0, 1) := by decide +kernel
theorem dX11_readGoal_87 : decode cX11_readGoal 87 = .ok (.iconst 2, 1) := by decide +kernel
theorem dX11_readGoal_88 : decode cX11_readGoal 88 = .ok (.bipush (-6), 2) := by decide +kernel
theorem dX11_readGoal_90 : decode cX11_readGoal 90 = .ok (.invokevirtual 112, 3) := by decide +kernel
theorem dX11_readGoal_93 : decode cX11_readGoal 93 = .ok (.pop, 1) := by decide +kernel
theorem dX11_readGoal_94 : decode cX11_readGoal 94 = .ok (.aload_n 0, 1) := by decide +kernel
theorem dX11_readGoal_95 : decode cX11_readGoal 95 = .ok (.invokevirtual 116, 3) := by decide +kernel
theorem dX11_readGoal_98 : decode cX11_readGoal 98 = .ok (.iconst 1, 1) := by decide +kernel
theorem dX11_readGoal_99 : decode cX11_readGoal 99 = .ok (.ireturn, 1) := by decide +kernel
theorem dX11_readGoal_100 : decode cX11_readGoal 100 = .ok (.aload_n 0, 1) := by decide +kernel
theorem dX11_readGoal_101 : decode cX11_readGoal 101 = .ok (.iconst 3, 1) := by decide +kernel
theorem dX11_readGoal_102 : decode cX11_readGoal 102 = .ok (.aload_n 0, 1) := by decide +kernel
theorem dX11_readGoal_103 : decode cX11_readGoal 103 = .ok (.iconst 3, 1) := by decide +kernel
theorem dX11_readGoal_104 : decode cX11_readGoal 104 = .ok (.bipush (-6), 2) := by decide +kernel
theorem dX11_readGoal_106 : decode cX11_readGoal 106 = .ok (.invokevirtual 112, 3) := by decide +kernel
theorem dX11_readGoal_109 : decode cX11_readGoal 109 = .ok (.bipush (-6), 2) := by decide +kernel
theorem dX11_readGoal_111 : decode cX11_readGoal 111 = .ok (.invokevirtual 119, 3) := by decide +kernel
theorem dX11_readGoal_114 : decode cX11_readGoal 114 = .ok (.iconst 1, 1) := by decide +kernel
theorem dX11_readGoal_115 : decode cX11_readGoal 115 = .ok (.ireturn, 1) := by decide +kernel
theorem dX11_readGoal_116 : decode cX11_readGoal 116 = .ok (.aload_n 0, 1) := by decide +kernel
theorem dX11_readGoal_117 : decode cX11_readGoal 117 = .ok (.iconst 1, 1) := by decide +kernel
theorem dX11_readGoal_118 : decode cX11_readGoal 118 = .ok (.aload_n 0, 1) := by decide +kernel
theorem dX11_readGoal_119 : decode cX11_readGoal 119 = .ok (.iconst 4, 1) := by decide +kernel
theorem dX11_readGoal_120 : decode cX11_readGoal 120 = .ok (.bipush (-6), 2) := by decide +kernel
theorem dX11_readGoal_122 : decode cX11_readGoal 122 = .ok (.invokevirtual 112, 3) := by decide +kernel
theorem dX11_readGoal_125 : decode cX11_readGoal 125 = .ok (.bipush (-6), 2) := by decide +kernel
theorem dX11_readGoal_127 : decode cX11_readGoal 127 = .ok (.invokevirtual 119, 3) := by decide +kernel
theorem dX11_readGoal_130 : decode cX11_readGoal 130 = .ok (.iconst 1, 1) := by decide +kernel
theorem dX11_readGoal_131 : decode cX11_readGoal 131 = .ok (.ireturn, 1) := by decide +kernel
theorem dX11_readGoal_132 : decode cX11_readGoal 132 = .ok (.aload_n 0, 1) := by decide +kernel
theorem dX11_readGoal_133 : decode cX11_readGoal 133 = .ok (.invokevirtual 123, 3) := by decide +kernel
theorem dX11_readGoal_136 : decode cX11_readGoal 136 = .ok (.iconst 1, 1) := by decide +kernel
theorem dX11_readGoal_137 : decode cX11_readGoal 137 = .ok (.ireturn, 1) := by decide +kernel
theorem dX11_readGoal_138 : decode cX11_readGoal 138 = .ok (.iconst 0, 1) := by decide +kernel
theorem dX11_readGoal_139 : decode cX11_readGoal 139 = .ok (.ireturn, 1) := by decide +kernel
theorem dX11_beginLoan_0 : decode cX11_beginLoan 0 = .ok (.aload_n 0, 1) := by decide +kernel
theorem dX11_beginLoan_1 : decode cX11_beginLoan 1 = .ok (.bipush 7, 2) := by decide +kernel
theorem dX11_beginLoan_3 : decode cX11_beginLoan 3 = .ok (.bipush (-6), 2) := by decide +kernel
theorem dX11_beginLoan_5 : decode cX11_beginLoan 5 = .ok (.invokevirtual 112, 3) := by decide +kernel
theorem dX11_beginLoan_8 : decode cX11_beginLoan 8 = .ok (.istore_n 1, 1) := by decide +kernel
theorem dX11_beginLoan_9 : decode cX11_beginLoan 9 = .ok (.iconst 5, 1) := by decide +kernel
theorem dX11_beginLoan_10 : decode cX11_beginLoan 10 = .ok (.aload_n 0, 1) := by decide +kernel
theorem dX11_beginLoan_11 : decode cX11_beginLoan 11 = .ok (.getfield 126, 3) := by decide +kernel
theorem dX11_beginLoan_14 : decode cX11_beginLoan 14 = .ok (.iadd, 1) := by decide +kernel
theorem dX11_beginLoan_15 : decode cX11_beginLoan 15 = .ok (.istore_n 2, 1) := by decide +kernel
theorem dX11_beginLoan_16 : decode cX11_beginLoan 16 = .ok (.aload_n 0, 1) := by decide +kernel
theorem dX11_beginLoan_17 : decode cX11_beginLoan 17 = .ok (.dup, 1) := by decide +kernel
theorem dX11_beginLoan_18 : decode cX11_beginLoan 18 = .ok (.getfield 126, 3) := by decide +kernel
theorem dX11_beginLoan_21 : decode cX11_beginLoan 21 = .ok (.iconst 1, 1) := by decide +kernel
theorem dX11_beginLoan_22 : decode cX11_beginLoan 22 = .ok (.iadd, 1) := by decide +kernel
theorem dX11_beginLoan_23 : decode cX11_beginLoan 23 = .ok (.putfield 126, 3) := by decide +kernel
theorem dX11_beginLoan_26 : decode cX11_beginLoan 26 = .ok (.aload_n 0, 1) := by decide +kernel
theorem dX11_beginLoan_27 : decode cX11_beginLoan 27 = .ok (.getfield 95, 3) := by decide +kernel
theorem dX11_beginLoan_30 : decode cX11_beginLoan 30 = .ok (.ifCond .eq 17, 3) := by decide +kernel
theorem dX11_beginLoan_33 : decode cX11_beginLoan 33 = .ok (.aload_n 0, 1) := by decide +kernel
theorem dX11_beginLoan_34 : decode cX11_beginLoan 34 = .ok (.getfield 29, 3) := by decide +kernel
theorem dX11_beginLoan_37 : decode cX11_beginLoan 37 = .ok (.iload_n 1, 1) := by decide +kernel
theorem dX11_beginLoan_38 : decode cX11_beginLoan 38 = .ok (.iload_n 2, 1) := by decide +kernel
theorem dX11_beginLoan_39 : decode cX11_beginLoan 39 = .ok (.iastore, 1) := by decide +kernel
theorem dX11_beginLoan_40 : decode cX11_beginLoan 40 = .ok (.aload_n 0, 1) := by decide +kernel
theorem dX11_beginLoan_41 : decode cX11_beginLoan 41 = .ok (.getfield 32, 3) := by decide +kernel
theorem dX11_beginLoan_44 : decode cX11_beginLoan 44 = .ok (.iload_n 2, 1) := by decide +kernel
theorem dX11_beginLoan_45 : decode cX11_beginLoan 45 = .ok (.iconst 0, 1) := by decide +kernel
theorem dX11_beginLoan_46 : decode cX11_beginLoan 46 = .ok (.iastore, 1) := by decide +kernel
theorem dX11_beginLoan_47 : decode cX11_beginLoan 47 = .ok (.aload_n 0, 1) := by decide +kernel
theorem dX11_beginLoan_48 : decode cX11_beginLoan 48 = .ok (.bipush 6, 2) := by decide +kernel
theorem dX11_beginLoan_50 : decode cX11_beginLoan 50 = .ok (.iload_n 1, 1) := by decide +kernel
theorem dX11_beginLoan_51 : decode cX11_beginLoan 51 = .ok (.iload_n 2, 1) := by decide +kernel
theorem dX11_beginLoan_52 : decode cX11_beginLoan 52 = .ok (.invokevirtual 119, 3) := by decide +kernel
theorem dX11_beginLoan_55 : decode cX11_beginLoan 55 = .ok (.aload_n 0, 1) := by decide +kernel
theorem dX11_beginLoan_56 : decode cX11_beginLoan 56 = .ok (.iconst 3, 1) := by decide +kernel
theorem dX11_beginLoan_57 : decode cX11_beginLoan 57 = .ok (.putfield 101, 3) := by decide +kernel
theorem dX11_beginLoan_60 : decode cX11_beginLoan 60 = .ok (.return_, 1) := by decide +kernel
theorem dX11_readSign_0 : decode cX11_readSign 0 = .ok (.iload_n 1, 1) := by decide +kernel
theorem dX11_readSign_1 : decode cX11_readSign 1 = .ok (.bipush 42, 2) := by decide +kernel
theorem dX11_readSign_3 : decode cX11_readSign 3 = .ok (.if_icmp .ne 7, 3) := by decide +kernel
theorem dX11_readSign_6 : decode cX11_readSign 6 = .ok (.iconst 4, 1) := by decide +kernel
theorem dX11_readSign_7 : decode cX11_readSign 7 = .ok (.goto 26, 3) := by decide +kernel
theorem dX11_readSign_10 : decode cX11_readSign 10 = .ok (.iload_n 1, 1) := by decide +kernel
theorem dX11_readSign_11 : decode cX11_readSign 11 = .ok (.bipush 38, 2) := by decide +kernel
theorem dX11_readSign_13 : decode cX11_readSign 13 = .ok (.if_icmp .ne 7, 3) := by decide +kernel
theorem dX11_readSign_16 : decode cX11_readSign 16 = .ok (.iconst 5, 1) := by decide +kernel
theorem dX11_readSign_17 : decode cX11_readSign 17 = .ok (.goto 16, 3) := by decide +kernel
theorem dX11_readSign_20 : decode cX11_readSign 20 = .ok (.iload_n 1, 1) := by decide +kernel
theorem dX11_readSign_21 : decode cX11_readSign 21 = .ok (.bipush 43, 2) := by decide +kernel
theorem dX11_readSign_23 : decode cX11_readSign 23 = .ok (.if_icmp .ne 8, 3) := by decide +kernel
theorem dX11_readSign_26 : decode cX11_readSign 26 = .ok (.bipush 6, 2) := by decide +kernel
theorem dX11_readSign_28 : decode cX11_readSign 28 = .ok (.goto 5, 3) := by decide +kernel
theorem dX11_readSign_31 : decode cX11_readSign 31 = .ok (.bipush (-6), 2) := by decide +kernel
theorem dX11_readSign_33 : decode cX11_readSign 33 = .ok (.istore_n 2, 1) := by decide +kernel
theorem dX11_readSign_34 : decode cX11_readSign 34 = .ok (.iload_n 2, 1) := by decide +kernel
theorem dX11_readSign_35 : decode cX11_readSign 35 = .ok (.ifCond .ge 5, 3) := by decide +kernel
theorem dX11_readSign_38 : decode cX11_readSign 38 = .ok (.iconst 0, 1) := by decide +kernel
theorem dX11_readSign_39 : decode cX11_readSign 39 = .ok (.ireturn, 1) := by decide +kernel
theorem dX11_readSign_40 : decode cX11_readSign 40 = .ok (.aload_n 0, 1) := by decide +kernel
theorem dX11_readSign_41 : decode cX11_readSign 41 = .ok (.getfield 95, 3) := by decide +kernel
theorem dX11_readSign_44 : decode cX11_readSign 44 = .ok (.ifCond .eq 20, 3) := by decide +kernel
theorem dX11_readSign_47 : decode cX11_readSign 47 = .ok (.aload_n 0, 1) := by decide +kernel
theorem dX11_readSign_48 : decode cX11_readSign 48 = .ok (.getfield 23, 3) := by decide +kernel
theorem dX11_readSign_51 : decode cX11_readSign 51 = .ok (.aload_n 0, 1) := by decide +kernel
theorem dX11_readSign_52 : decode cX11_readSign 52 = .ok (.getfield 44, 3) := by decide +kernel
theorem dX11_readSign_55 : decode cX11_readSign 55 = .ok (.aload_n 0, 1) := by decide +kernel
theorem dX11_readSign_56 : decode cX11_readSign 56 = .ok (.getfield 89, 3) := by decide +kernel
theorem dX11_readSign_59 : decode cX11_readSign 59 = .ok (.iconst 1, 1) := by decide +kernel
theorem dX11_readSign_60 : decode cX11_readSign 60 = .ok (.isub, 1) := by decide +kernel
theorem dX11_readSign_61 : decode cX11_readSign 61 = .ok (.iaload, 1) := by decide +kernel
theorem dX11_readSign_62 : decode cX11_readSign 62 = .ok (.iload_n 2, 1) := by decide +kernel
theorem dX11_readSign_63 : decode cX11_readSign 63 = .ok (.iastore, 1) := by decide +kernel
theorem dX11_readSign_64 : decode cX11_readSign 64 = .ok (.aload_n 0, 1) := by decide +kernel
theorem dX11_readSign_65 : decode cX11_readSign 65 = .ok (.getfield 41, 3) := by decide +kernel
theorem dX11_readSign_68 : decode cX11_readSign 68 = .ok (.aload_n 0, 1) := by decide +kernel
theorem dX11_readSign_69 : decode cX11_readSign 69 = .ok (.getfield 89, 3) := by decide +kernel
theorem dX11_readSign_72 : decode cX11_readSign 72 = .ok (.iconst 1, 1) := by decide +kernel
theorem dX11_readSign_73 : decode cX11_readSign 73 = .ok (.isub, 1) := by decide +kernel
theorem dX11_readSign_74 : decode cX11_readSign 74 = .ok (.iconst 2, 1) := by decide +kernel
theorem dX11_readSign_75 : decode cX11_readSign 75 = .ok (.iastore, 1) := by decide +kernel
theorem dX11_readSign_76 : decode cX11_readSign 76 = .ok (.aload_n 0, 1) := by decide +kernel
theorem dX11_readSign_77 : decode cX11_readSign 77 = .ok (.iconst 0, 1) := by decide +kernel
theorem dX11_readSign_78 : decode cX11_readSign 78 = .ok (.putfield 101, 3) := by decide +kernel
theorem dX11_readSign_81 : decode cX11_readSign 81 = .ok (.iconst 1, 1) := by decide +kernel
theorem dX11_readSign_82 : decode cX11_readSign 82 = .ok (.ireturn, 1) := by decide +kernel
theorem dX11_readHead_0 : decode cX11_readHead 0 = .ok (.iload_n 1, 1) := by decide +kernel
theorem dX11_readHead_1 : decode cX11_readHead 1 = .ok (.invokestatic 108, 3) := by decide +kernel
theorem dX11_readHead_4 : decode cX11_readHead 4 = .ok (.ifCond .ne 5, 3) := by decide +kernel
theorem dX11_readHead_7 : decode cX11_readHead 7 = .ok (.iconst 0, 1) := by decide +kernel
theorem dX11_readHead_8 : decode cX11_readHead 8 = .ok (.ireturn, 1) := by decide +kernel
theorem dX11_readHead_9 : decode cX11_readHead 9 = .ok (.aload_n 0, 1) := by decide +kernel
theorem dX11_readHead_10 : decode cX11_readHead 10 = .ok (.getfield 89, 3) := by decide +kernel
theorem dX11_readHead_13 : decode cX11_readHead 13 = .ok (.iconst 1, 1) := by decide +kernel
theorem dX11_readHead_14 : decode cX11_readHead 14 = .ok (.isub, 1) := by decide +kernel
theorem dX11_readHead_15 : decode cX11_readHead 15 = .ok (.istore_n 2, 1) := by decide +kernel
theorem dX11_readHead_16 : decode cX11_readHead 16 = .ok (.aload_n 0, 1) := by decide +kernel
theorem dX11_readHead_17 : decode cX11_readHead 17 = .ok (.getfield 95, 3) := by decide +kernel
theorem dX11_readHead_20 : decode cX11_readHead 20 = .ok (.ifCond .eq 53, 3) := by decide +kernel
theorem dX11_readHead_23 : decode cX11_readHead 23 = .ok (.iconst 3, 1) := by decide +kernel
theorem dX11_readHead_24 : decode cX11_readHead 24 = .ok (.aload_n 0, 1) := by decide +kernel
theorem dX11_readHead_25 : decode cX11_readHead 25 = .ok (.getfield 47, 3) := by decide +kernel
theorem dX11_readHead_28 : decode cX11_readHead 28 = .ok (.iload_n 2, 1) := by decide +kernel
theorem dX11_readHead_29 : decode cX11_readHead 29 = .ok (.iaload, 1) := by decide +kernel
theorem dX11_readHead_30 : decode cX11_readHead 30 = .ok (.imul, 1) := by decide +kernel
theorem dX11_readHead_31 : decode cX11_readHead 31 = .ok (.aload_n 0, 1) := by decide +kernel
theorem dX11_readHead_32 : decode cX11_readHead 32 = .ok (.getfield 50, 3) := by decide +kernel
theorem dX11_readHead_35 : decode cX11_readHead 35 = .ok (.iload_n 2, 1) := by decide +kernel
theorem dX11_readHead_36 : decode cX11_readHead 36 = .ok (.iaload, 1) := by decide +kernel
theorem dX11_readHead_37 : decode cX11_readHead 37 = .ok (.iadd, 1) := by decide +kernel
theorem dX11_readHead_38 : decode cX11_readHead 38 = .ok (.istore_n 3, 1) := by decide +kernel
theorem dX11_readHead_39 : decode cX11_readHead 39 = .ok (.aload_n 0, 1) := by decide +kernel
theorem dX11_readHead_40 : decode cX11_readHead 40 = .ok (.getfield 35, 3) := by decide +kernel
theorem dX11_readHead_43 : decode cX11_readHead 43 = .ok (.iload_n 3, 1) := by decide +kernel
theorem dX11_readHead_44 : decode cX11_readHead 44 = .ok (.iload_n 1, 1) := by decide +kernel
theorem dX11_readHead_45 : decode cX11_readHead 45 = .ok (.iastore, 1) := by decide +kernel
theorem dX11_readHead_46 : decode cX11_readHead 46 = .ok (.aload_n 0, 1) := by decide +kernel
theorem dX11_readHead_47 : decode cX11_readHead 47 = .ok (.getfield 38, 3) := by decide +kernel
theorem dX11_readHead_50 : decode cX11_readHead 50 = .ok (.iload_n 3, 1) := by decide +kernel
theorem dX11_readHead_51 : decode cX11_readHead 51 = .ok (.bipush (-6), 2) := by decide +kernel
theorem dX11_readHead_53 : decode cX11_readHead 53 = .ok (.iastore, 1) := by decide +kernel
theorem dX11_readHead_54 : decode cX11_readHead 54 = .ok (.aload_n 0, 1) := by decide +kernel
theorem dX11_readHead_55 : decode cX11_readHead 55 = .ok (.getfield 32, 3) := by decide +kernel
theorem dX11_readHead_58 : decode cX11_readHead 58 = .ok (.aload_n 0, 1) := by decide +kernel
theorem dX11_readHead_59 : decode cX11_readHead 59 = .ok (.getfield 47, 3) := by decide +kernel
theorem dX11_readHead_62 : decode cX11_readHead 62 = .ok (.iload_n 2, 1) := by decide +kernel
theorem dX11_readHead_63 : decode cX11_readHead 63 = .ok (.iaload, 1) := by decide +kernel
theorem dX11_readHead_64 : decode cX11_readHead 64 = .ok (.aload_n 0, 1) := by decide +kernel
theorem dX11_readHead_65 : decode cX11_readHead 65 = .ok (.getfield 50, 3) := by decide +kernel
theorem dX11_readHead_68 : decode cX11_readHead 68 = .ok (.iload_n 2, 1) := by decide +kernel
theorem dX11_readHead_69 : decode cX11_readHead 69 = .ok (.iaload, 1) := by decide +kernel
theorem dX11_readHead_70 : decode cX11_readHead 70 = .ok (.iconst 1, 1) := by decide +kernel
theorem dX11_readHead_71 : decode cX11_readHead 71 = .ok (.iadd, 1) := by decide +kernel
theorem dX11_readHead_72 : decode cX11_readHead 72 = .ok (.iastore, 1) := by decide +kernel
theorem dX11_readHead_73 : decode cX11_readHead 73 = .ok (.aload_n 0, 1) := by decide +kernel
theorem dX11_readHead_74 : decode cX11_readHead 74 = .ok (.getfield 50, 3) := by decide +kernel
theorem dX11_readHead_77 : decode cX11_readHead 77 = .ok (.iload_n 2, 1) := by decide +kernel
theorem dX11_readHead_78 : decode cX11_readHead 78 = .ok (.dup2, 1) := by decide +kernel
theorem dX11_readHead_79 : decode cX11_readHead 79 = .ok (.iaload, 1) := by decide +kernel
theorem dX11_readHead_80 : decode cX11_readHead 80 = .ok (.iconst 1, 1) := by decide +kernel
theorem dX11_readHead_81 : decode cX11_readHead 81 = .ok (.iadd, 1) := by decide +kernel
theorem dX11_readHead_82 : decode cX11_readHead 82 = .ok (.iastore, 1) := by decide +kernel
theorem dX11_readHead_83 : decode cX11_readHead 83 = .ok (.aload_n 0, 1) := by decide +kernel
theorem dX11_readHead_84 : decode cX11_readHead 84 = .ok (.iconst 4, 1) := by decide +kernel
theorem dX11_readHead_85 : decode cX11_readHead 85 = .ok (.putfield 101, 3) := by decide +kernel
theorem dX11_readHead_88 : decode cX11_readHead 88 = .ok (.iconst 1, 1) := by decide +kernel
theorem dX11_readHead_89 : decode cX11_readHead 89 = .ok (.ireturn, 1) := by decide +kernel
theorem dX11_readBehind_0 : decode cX11_readBehind 0 = .ok (.aload_n 0, 1) := by decide +kernel
theorem dX11_readBehind_1 : decode cX11_readBehind 1 = .ok (.getfield 89, 3) := by decide +kernel
theorem dX11_readBehind_4 : decode cX11_readBehind 4 = .ok (.iconst 1, 1) := by decide +kernel
theorem dX11_readBehind_5 : decode cX11_readBehind 5 = .ok (.isub, 1) := by decide +kernel
theorem dX11_readBehind_6 : decode cX11_readBehind 6 = .ok (.istore_n 2, 1) := by decide +kernel
theorem dX11_readBehind_7 : decode cX11_readBehind 7 = .ok (.iload_n 1, 1) := by decide +kernel
theorem dX11_readBehind_8 : decode cX11_readBehind 8 = .ok (.bipush 60, 2) := by decide +kernel
theorem dX11_readBehind_10 : decode cX11_readBehind 10 = .ok (.if_icmp .ne 31, 3) := by decide +kernel
theorem dX11_readBehind_13 : decode cX11_readBehind 13 = .ok (.aload_n 0, 1) := by decide +kernel
theorem dX11_readBehind_14 : decode cX11_readBehind 14 = .ok (.getfield 101, 3) := by decide +kernel
theorem dX11_readBehind_17 : decode cX11_readBehind 17 = .ok (.iconst 4, 1) := by decide +kernel
theorem dX11_readBehind_18 : decode cX11_readBehind 18 = .ok (.if_icmp .ne 23, 3) := by decide +kernel
theorem dX11_readBehind_21 : decode cX11_readBehind 21 = .ok (.aload_n 0, 1) := by decide +kernel
theorem dX11_readBehind_22 : decode cX11_readBehind 22 = .ok (.iconst 4, 1) := by decide +kernel
theorem dX11_readBehind_23 : decode cX11_readBehind 23 = .ok (.bipush (-6), 2) := by decide +kernel
theorem dX11_readBehind_25 : decode cX11_readBehind 25 = .ok (.aload_n 0, 1) := by decide +kernel
theorem dX11_readBehind_26 : decode cX11_readBehind 26 = .ok (.getfield 47, 3) := by decide +kernel
theorem dX11_readBehind_29 : decode cX11_readBehind 29 = .ok (.iload_n 2, 1) := by decide +kernel
theorem dX11_readBehind_30 : decode cX11_readBehind 30 = .ok (.iaload, 1) := by decide +kernel
theorem dX11_readBehind_31 : decode cX11_readBehind 31 = .ok (.invokevirtual 119, 3) := by decide +kernel
theorem dX11_readBehind_34 : decode cX11_readBehind 34 = .ok (.aload_n 0, 1) := by decide +kernel
theorem dX11_readBehind_35 : decode cX11_readBehind 35 = .ok (.iconst 0, 1) := by decide +kernel
theorem dX11_readBehind_36 : decode cX11_readBehind 36 = .ok (.putfield 101, 3) := by decide +kernel
theorem dX11_readBehind_39 : decode cX11_readBehind 39 = .ok (.iconst 1, 1) := by decide +kernel
theorem dX11_readBehind_40 : decode cX11_readBehind 40 = .ok (.ireturn, 1) := by decide +kernel
theorem dX11_readBehind_41 : decode cX11_readBehind 41 = .ok (.iload_n 1, 1) := by decide +kernel
theorem dX11_readBehind_42 : decode cX11_readBehind 42 = .ok (.bipush 124, 2) := by decide +kernel
theorem dX11_readBehind_44 : decode cX11_readBehind 44 = .ok (.if_icmp .ne 20, 3) := by decide +kernel
theorem dX11_readBehind_47 : decode cX11_readBehind 47 = .ok (.aload_n 0, 1) := by decide +kernel
theorem dX11_readBehind_48 : decode cX11_readBehind 48 = .ok (.getfield 50, 3) := by decide +kernel
theorem dX11_readBehind_51 : decode cX11_readBehind 51 = .ok (.iload_n 2, 1) := by decide +kernel
theorem dX11_readBehind_52 : decode cX11_readBehind 52 = .ok (.iaload, 1) := by decide +kernel
theorem dX11_readBehind_53 : decode cX11_readBehind 53 = .ok (.iconst 3, 1) := by decide +kernel
theorem dX11_readBehind_54 : decode cX11_readBehind 54 = .ok (.if_icmp .ge 10, 3) := by decide +kernel
theorem dX11_readBehind_57 : decode cX11_readBehind 57 = .ok (.aload_n 0, 1) := by decide +kernel
theorem dX11_readBehind_58 : decode cX11_readBehind 58 = .ok (.iconst 3, 1) := by decide +kernel
theorem dX11_readBehind_59 : decode cX11_readBehind 59 = .ok (.putfield 101, 3) := by decide +kernel
theorem dX11_readBehind_62 : decode cX11_readBehind 62 = .ok (.iconst 1, 1) := by decide +kernel
theorem dX11_readBehind_63 : decode cX11_readBehind 63 = .ok (.ireturn, 1) := by decide +kernel
theorem dX11_readBehind_64 : decode cX11_readBehind 64 = .ok (.iload_n 1, 1) := by decide +kernel
theorem dX11_readBehind_65 : decode cX11_readBehind 65 = .ok (.bipush 93, 2) := by decide +kernel
theorem dX11_readBehind_67 : decode cX11_readBehind 67 = .ok (.if_icmp .ne 28, 3) := by decide +kernel
theorem dX11_readBehind_70 : decode cX11_readBehind 70 = .ok (.aload_n 0, 1) := by decide +kernel
theorem dX11_readBehind_71 : decode cX11_readBehind 71 = .ok (.getfield 41, 3) := by decide +kernel
theorem dX11_readBehind_74 : decode cX11_readBehind 74 = .ok (.iload_n 2, 1) := by decide +kernel
theorem dX11_readBehind_75 : decode cX11_readBehind 75 = .ok (.iaload, 1) := by decide +kernel
theorem dX11_readBehind_76 : decode cX11_readBehind 76 = .ok (.bipush 6, 2) := by decide +kernel
theorem dX11_readBehind_78 : decode cX11_readBehind 78 = .ok (.if_icmp .ne 17, 3) := by decide +kernel
theorem dX11_readBehind_81 : decode cX11_readBehind 81 = .ok (.aload_n 0, 1) := by decide +kernel
theorem dX11_readBehind_82 : decode cX11_readBehind 82 = .ok (.getfield 41, 3) := by decide +kernel
theorem dX11_readBehind_85 : decode cX11_readBehind 85 = .ok (.iload_n 2, 1) := by decide +kernel
theorem dX11_readBehind_86 : decode cX11_readBehind 86 = .ok (.iconst 3, 1) := by decide +kernel
theorem dX11_readBehind_87 : decode cX11_readBehind 87 = .ok (.iastore, 1) := by decide +kernel
theorem dX11_readBehind_88 : decode cX11_readBehind 88 = .ok (.aload_n 0, 1) := by decide +kernel
theorem dX11_readBehind_89 : decode cX11_readBehind 89 = .ok (.iconst 0, 1) := by decide +kernel
theorem dX11_readBehind_90 : decode cX11_readBehind 90 = .ok (.putfield 101, 3) := by decide +kernel
theorem dX11_readBehind_93 : decode cX11_readBehind 93 = .ok (.iconst 1, 1) := by decide +kernel
theorem dX11_readBehind_94 : decode cX11_readBehind 94 = .ok (.ireturn, 1) := by decide +kernel
theorem dX11_readBehind_95 : decode cX11_readBehind 95 = .ok (.iconst 0, 1) := by decide +kernel
theorem dX11_readBehind_96 : decode cX11_readBehind 96 = .ok (.ireturn, 1) := by decide +kernel
theorem dX11_reads_0 : decode cX11_reads 0 = .ok (.aload_n 0, 1) := by decide +kernel
theorem dX11_reads_1 : decode cX11_reads 1 = .ok (.getfield 101, 3) := by decide +kernel
theorem dX11_reads_4 : decode cX11_reads 4 = .ok (.tableswitch 88 0 5 #[40, 46, 52, 76, 82, 82], 40) := by decide +kernel
theorem dX11_reads_44 : decode cX11_reads 44 = .ok (.aload_n 0, 1) := by decide +kernel
theorem dX11_reads_45 : decode cX11_reads 45 = .ok (.iload_n 1, 1) := by decide +kernel
theorem dX11_reads_46 : decode cX11_reads 46 = .ok (.invokevirtual 129, 3) := by decide +kernel
theorem dX11_reads_49 : decode cX11_reads 49 = .ok (.ireturn, 1) := by decide +kernel
theorem dX11_reads_50 : decode cX11_reads 50 = .ok (.aload_n 0, 1) := by decide +kernel
theorem dX11_reads_51 : decode cX11_reads 51 = .ok (.iload_n 1, 1) := by decide +kernel
theorem dX11_reads_52 : decode cX11_reads 52 = .ok (.invokevirtual 132, 3) := by decide +kernel
theorem dX11_reads_55 : decode cX11_reads 55 = .ok (.ireturn, 1) := by decide +kernel
theorem dX11_reads_56 : decode cX11_reads 56 = .ok (.iload_n 1, 1) := by decide +kernel
theorem dX11_reads_57 : decode cX11_reads 57 = .ok (.bipush 41, 2) := by decide +kernel
theorem dX11_reads_59 : decode cX11_reads 59 = .ok (.if_icmp .eq 5, 3) := by decide +kernel
theorem dX11_reads_62 : decode cX11_reads 62 = .ok (.iconst 0, 1) := by decide +kernel
theorem dX11_reads_63 : decode cX11_reads 63 = .ok (.ireturn, 1) := by decide +kernel
theorem dX11_reads_64 : decode cX11_reads 64 = .ok (.aload_n 0, 1) := by decide +kernel
theorem dX11_reads_65 : decode cX11_reads 65 = .ok (.dup, 1) := by decide +kernel
theorem dX11_reads_66 : decode cX11_reads 66 = .ok (.getfield 89, 3) := by decide +kernel
theorem dX11_reads_69 : decode cX11_reads 69 = .ok (.iconst 1, 1) := by decide +kernel
theorem dX11_reads_70 : decode cX11_reads 70 = .ok (.isub, 1) := by decide +kernel
theorem dX11_reads_71 : decode cX11_reads 71 = .ok (.putfield 89, 3) := by decide +kernel
theorem dX11_reads_74 : decode cX11_reads 74 = .ok (.aload_n 0, 1) := by decide +kernel
theorem dX11_reads_75 : decode cX11_reads 75 = .ok (.invokevirtual 116, 3) := by decide +kernel
theorem dX11_reads_78 : decode cX11_reads 78 = .ok (.iconst 1, 1) := by decide +kernel
theorem dX11_reads_79 : decode cX11_reads 79 = .ok (.ireturn, 1) := by decide +kernel
theorem dX11_reads_80 : decode cX11_reads 80 = .ok (.aload_n 0, 1) := by decide +kernel
theorem dX11_reads_81 : decode cX11_reads 81 = .ok (.iload_n 1, 1) := by decide +kernel
theorem dX11_reads_82 : decode cX11_reads 82 = .ok (.invokevirtual 135, 3) := by decide +kernel
theorem dX11_reads_85 : decode cX11_reads 85 = .ok (.ireturn, 1) := by decide +kernel
theorem dX11_reads_86 : decode cX11_reads 86 = .ok (.aload_n 0, 1) := by decide +kernel
theorem dX11_reads_87 : decode cX11_reads 87 = .ok (.iload_n 1, 1) := by decide +kernel
theorem dX11_reads_88 : decode cX11_reads 88 = .ok (.invokevirtual 138, 3) := by decide +kernel
theorem dX11_reads_91 : decode cX11_reads 91 = .ok (.ireturn, 1) := by decide +kernel
theorem dX11_reads_92 : decode cX11_reads 92 = .ok (.iconst 0, 1) := by decide +kernel
theorem dX11_reads_93 : decode cX11_reads 93 = .ok (.ireturn, 1) := by decide +kernel
theorem dX11_read_0 : decode cX11_read 0 = .ok (.aload_n 0, 1) := by decide +kernel
theorem dX11_read_1 : decode cX11_read 1 = .ok (.iconst 0, 1) := by decide +kernel
theorem dX11_read_2 : decode cX11_read 2 = .ok (.putfield 89, 3) := by decide +kernel
theorem dX11_read_5 : decode cX11_read 5 = .ok (.aload_n 0, 1) := by decide +kernel
theorem dX11_read_6 : decode cX11_read 6 = .ok (.iload_n 2, 1) := by decide +kernel
theorem dX11_read_7 : decode cX11_read 7 = .ok (.ifCond .ge 7, 3) := by decide +kernel
theorem dX11_read_10 : decode cX11_read 10 = .ok (.iconst 0, 1) := by decide +kernel
theorem dX11_read_11 : decode cX11_read 11 = .ok (.goto 4, 3) := by decide +kernel
theorem dX11_read_14 : decode cX11_read 14 = .ok (.iconst 5, 1) := by decide +kernel
theorem dX11_read_15 : decode cX11_read 15 = .ok (.bipush (-6), 2) := by decide +kernel
theorem dX11_read_17 : decode cX11_read 17 = .ok (.iload_n 2, 1) := by decide +kernel
theorem dX11_read_18 : decode cX11_read 18 = .ok (.invokevirtual 119, 3) := by decide +kernel
theorem dX11_read_21 : decode cX11_read 21 = .ok (.aload_n 0, 1) := by decide +kernel
theorem dX11_read_22 : decode cX11_read 22 = .ok (.iload_n 2, 1) := by decide +kernel
theorem dX11_read_23 : decode cX11_read 23 = .ok (.ifCond .ge 7, 3) := by decide +kernel
theorem dX11_read_26 : decode cX11_read 26 = .ok (.iconst 0, 1) := by decide +kernel
theorem dX11_read_27 : decode cX11_read 27 = .ok (.goto 4, 3) := by decide +kernel
theorem dX11_read_30 : decode cX11_read 30 = .ok (.iconst 3, 1) := by decide +kernel
theorem dX11_read_31 : decode cX11_read 31 = .ok (.putfield 101, 3) := by decide +kernel
theorem dX11_read_34 : decode cX11_read 34 = .ok (.iconst 0, 1) := by decide +kernel
theorem dX11_read_35 : decode cX11_read 35 = .ok (.istore_n 3, 1) := by decide +kernel
theorem dX11_read_36 : decode cX11_read 36 = .ok (.iload_n 3, 1) := by decide +kernel
theorem dX11_read_37 : decode cX11_read 37 = .ok (.aload_n 0, 1) := by decide +kernel
theorem dX11_read_38 : decode cX11_read 38 = .ok (.getfield 13, 3) := by decide +kernel
theorem dX11_read_41 : decode cX11_read 41 = .ok (.iload_n 1, 1) := by decide +kernel
theorem dX11_read_42 : decode cX11_read 42 = .ok (.iaload, 1) := by decide +kernel
theorem dX11_read_43 : decode cX11_read 43 = .ok (.if_icmp .ge 29, 3) := by decide +kernel
theorem dX11_read_46 : decode cX11_read 46 = .ok (.aload_n 0, 1) := by decide +kernel
theorem dX11_read_47 : decode cX11_read 47 = .ok (.aload_n 0, 1) := by decide +kernel
theorem dX11_read_48 : decode cX11_read 48 = .ok (.getfield 7, 3) := by decide +kernel
theorem dX11_read_51 : decode cX11_read 51 = .ok (.bipush 60, 2) := by decide +kernel
theorem dX11_read_53 : decode cX11_read 53 = .ok (.iload_n 1, 1) := by decide +kernel
theorem dX11_read_54 : decode cX11_read 54 = .ok (.imul, 1) := by decide +kernel
theorem dX11_read_55 : decode cX11_read 55 = .ok (.iload_n 3, 1) := by decide +kernel
theorem dX11_read_56 : decode cX11_read 56 = .ok (.iadd, 1) := by decide +kernel
theorem dX11_read_57 : decode cX11_read 57 = .ok (.iaload, 1) := by decide +kernel
theorem dX11_read_58 : decode cX11_read 58 = .ok (.invokevirtual 141, 3) := by decide +kernel
theorem dX11_read_61 : decode cX11_read 61 = .ok (.ifCond .ne 5, 3) := by decide +kernel
theorem dX11_read_64 : decode cX11_read 64 = .ok (.iload_n 3, 1) := by decide +kernel
theorem dX11_read_65 : decode cX11_read 65 = .ok (.ireturn, 1) := by decide +kernel
theorem dX11_read_66 : decode cX11_read 66 = .ok (.iinc 3 1, 3) := by decide +kernel
theorem dX11_read_69 : decode cX11_read 69 = .ok (.goto (-33), 3) := by decide +kernel
theorem dX11_read_72 : decode cX11_read 72 = .ok (.aload_n 0, 1) := by decide +kernel
theorem dX11_read_73 : decode cX11_read 73 = .ok (.getfield 101, 3) := by decide +kernel
theorem dX11_read_76 : decode cX11_read 76 = .ok (.bipush 6, 2) := by decide +kernel
theorem dX11_read_78 : decode cX11_read 78 = .ok (.if_icmp .eq 34, 3) := by decide +kernel
theorem dX11_read_81 : decode cX11_read 81 = .ok (.aload_n 0, 1) := by decide +kernel
theorem dX11_read_82 : decode cX11_read 82 = .ok (.getfield 101, 3) := by decide +kernel
theorem dX11_read_85 : decode cX11_read 85 = .ok (.iconst 4, 1) := by decide +kernel
theorem dX11_read_86 : decode cX11_read 86 = .ok (.if_icmp .eq 11, 3) := by decide +kernel
theorem dX11_read_89 : decode cX11_read 89 = .ok (.aload_n 0, 1) := by decide +kernel
theorem dX11_read_90 : decode cX11_read 90 = .ok (.getfield 101, 3) := by decide +kernel
theorem dX11_read_93 : decode cX11_read 93 = .ok (.iconst 5, 1) := by decide +kernel
theorem dX11_read_94 : decode cX11_read 94 = .ok (.if_icmp .ne 22, 3) := by decide +kernel
theorem dX11_read_97 : decode cX11_read 97 = .ok (.aload_n 0, 1) := by decide +kernel
theorem dX11_read_98 : decode cX11_read 98 = .ok (.getfield 41, 3) := by decide +kernel
theorem dX11_read_101 : decode cX11_read 101 = .ok (.aload_n 0, 1) := by decide +kernel
theorem dX11_read_102 : decode cX11_read 102 = .ok (.getfield 89, 3) := by decide +kernel
theorem dX11_read_105 : decode cX11_read 105 = .ok (.iconst 1, 1) := by decide +kernel
theorem dX11_read_106 : decode cX11_read 106 = .ok (.isub, 1) := by decide +kernel
theorem dX11_read_107 : decode cX11_read 107 = .ok (.iaload, 1) := by decide +kernel
theorem dX11_read_108 : decode cX11_read 108 = .ok (.iconst 5, 1) := by decide +kernel
theorem dX11_read_109 : decode cX11_read 109 = .ok (.if_icmp .ne 7, 3) := by decide +kernel
theorem dX11_read_112 : decode cX11_read 112 = .ok (.iconst 1, 1) := by decide +kernel
theorem dX11_read_113 : decode cX11_read 113 = .ok (.goto 4, 3) := by decide +kernel
theorem dX11_read_116 : decode cX11_read 116 = .ok (.iconst 0, 1) := by decide +kernel
theorem dX11_read_117 : decode cX11_read 117 = .ok (.istore_n 3, 1) := by decide +kernel
theorem dX11_read_118 : decode cX11_read 118 = .ok (.iload_n 3, 1) := by decide +kernel
theorem dX11_read_119 : decode cX11_read 119 = .ok (.ifCond .eq 8, 3) := by decide +kernel
theorem dX11_read_122 : decode cX11_read 122 = .ok (.bipush (-6), 2) := by decide +kernel
theorem dX11_read_124 : decode cX11_read 124 = .ok (.goto 9, 3) := by decide +kernel
theorem dX11_read_127 : decode cX11_read 127 = .ok (.aload_n 0, 1) := by decide +kernel
theorem dX11_read_128 : decode cX11_read 128 = .ok (.getfield 13, 3) := by decide +kernel
theorem dX11_read_131 : decode cX11_read 131 = .ok (.iload_n 1, 1) := by decide +kernel
theorem dX11_read_132 : decode cX11_read 132 = .ok (.iaload, 1) := by decide +kernel
theorem dX11_read_133 : decode cX11_read 133 = .ok (.ireturn, 1) := by decide +kernel
theorem dX11_offerOf_0 : decode cX11_offerOf 0 = .ok (.iload_n 0, 1) := by decide +kernel
theorem dX11_offerOf_1 : decode cX11_offerOf 1 = .ok (.ifCond .ne 8, 3) := by decide +kernel
theorem dX11_offerOf_4 : decode cX11_offerOf 4 = .ok (.bipush (-6), 2) := by decide +kernel
theorem dX11_offerOf_6 : decode cX11_offerOf 6 = .ok (.goto 18, 3) := by decide +kernel
theorem dX11_offerOf_9 : decode cX11_offerOf 9 = .ok (.iload_n 0, 1) := by decide +kernel
theorem dX11_offerOf_10 : decode cX11_offerOf 10 = .ok (.bipush 6, 2) := by decide +kernel
theorem dX11_offerOf_12 : decode cX11_offerOf 12 = .ok (.if_icmp .ge 9, 3) := by decide +kernel
theorem dX11_offerOf_15 : decode cX11_offerOf 15 = .ok (.iload_n 0, 1) := by decide +kernel
theorem dX11_offerOf_16 : decode cX11_offerOf 16 = .ok (.iconst 1, 1) := by decide +kernel
theorem dX11_offerOf_17 : decode cX11_offerOf 17 = .ok (.isub, 1) := by decide +kernel
theorem dX11_offerOf_18 : decode cX11_offerOf 18 = .ok (.goto 6, 3) := by decide +kernel
theorem dX11_offerOf_21 : decode cX11_offerOf 21 = .ok (.iload_n 0, 1) := by decide +kernel
theorem dX11_offerOf_22 : decode cX11_offerOf 22 = .ok (.iconst 2, 1) := by decide +kernel
theorem dX11_offerOf_23 : decode cX11_offerOf 23 = .ok (.iadd, 1) := by decide +kernel
theorem dX11_offerOf_24 : decode cX11_offerOf 24 = .ok (.ireturn, 1) := by decide +kernel
theorem dX11_readAll_0 : decode cX11_readAll 0 = .ok (.aload_n 0, 1) := by decide +kernel
theorem dX11_readAll_1 : decode cX11_readAll 1 = .ok (.iconst 0, 1) := by decide +kernel
theorem dX11_readAll_2 : decode cX11_readAll 2 = .ok (.putfield 92, 3) := by decide +kernel
theorem dX11_readAll_5 : decode cX11_readAll 5 = .ok (.aload_n 0, 1) := by decide +kernel
theorem dX11_readAll_6 : decode cX11_readAll 6 = .ok (.iconst 0, 1) := by decide +kernel
theorem dX11_readAll_7 : decode cX11_readAll 7 = .ok (.putfield 126, 3) := by decide +kernel
theorem dX11_readAll_10 : decode cX11_readAll 10 = .ok (.aload_n 0, 1) := by decide +kernel
theorem dX11_readAll_11 : decode cX11_readAll 11 = .ok (.iload_n 1, 1) := by decide +kernel
theorem dX11_readAll_12 : decode cX11_readAll 12 = .ok (.putfield 95, 3) := by decide +kernel
theorem dX11_readAll_15 : decode cX11_readAll 15 = .ok (.iconst 0, 1) := by decide +kernel
theorem dX11_readAll_16 : decode cX11_readAll 16 = .ok (.istore_n 3, 1) := by decide +kernel
theorem dX11_readAll_17 : decode cX11_readAll 17 = .ok (.iload_n 3, 1) := by decide +kernel
theorem dX11_readAll_18 : decode cX11_readAll 18 = .ok (.bipush 12, 2) := by decide +kernel
theorem dX11_readAll_20 : decode cX11_readAll 20 = .ok (.if_icmp .ge 20, 3) := by decide +kernel
theorem dX11_readAll_23 : decode cX11_readAll 23 = .ok (.iload_n 1, 1) := by decide +kernel
theorem dX11_readAll_24 : decode cX11_readAll 24 = .ok (.ifCond .eq 16, 3) := by decide +kernel
theorem dX11_readAll_27 : decode cX11_readAll 27 = .ok (.aload_n 0, 1) := by decide +kernel
theorem dX11_readAll_28 : decode cX11_readAll 28 = .ok (.getfield 32, 3) := by decide +kernel
theorem dX11_readAll_31 : decode cX11_readAll 31 = .ok (.iload_n 3, 1) := by decide +kernel
theorem dX11_readAll_32 : decode cX11_readAll 32 = .ok (.iconst 0, 1) := by decide +kernel
theorem dX11_readAll_33 : decode cX11_readAll 33 = .ok (.iastore, 1) := by decide +kernel
theorem dX11_readAll_34 : decode cX11_readAll 34 = .ok (.iinc 3 1, 3) := by decide +kernel
theorem dX11_readAll_37 : decode cX11_readAll 37 = .ok (.goto (-20), 3) := by decide +kernel
theorem dX11_readAll_40 : decode cX11_readAll 40 = .ok (.iconst 0, 1) := by decide +kernel
theorem dX11_readAll_41 : decode cX11_readAll 41 = .ok (.istore_n 3, 1) := by decide +kernel
theorem dX11_readAll_42 : decode cX11_readAll 42 = .ok (.iload_n 3, 1) := by decide +kernel
theorem dX11_readAll_43 : decode cX11_readAll 43 = .ok (.bipush 10, 2) := by decide +kernel
theorem dX11_readAll_45 : decode cX11_readAll 45 = .ok (.if_icmp .ge 33, 3) := by decide +kernel
theorem dX11_readAll_48 : decode cX11_readAll 48 = .ok (.iload_n 3, 1) := by decide +kernel
theorem dX11_readAll_49 : decode cX11_readAll 49 = .ok (.iload_n 2, 1) := by decide +kernel
theorem dX11_readAll_50 : decode cX11_readAll 50 = .ok (.if_icmp .eq 22, 3) := by decide +kernel
theorem dX11_readAll_53 : decode cX11_readAll 53 = .ok (.aload_n 0, 1) := by decide +kernel
theorem dX11_readAll_54 : decode cX11_readAll 54 = .ok (.getfield 13, 3) := by decide +kernel
theorem dX11_readAll_57 : decode cX11_readAll 57 = .ok (.iload_n 3, 1) := by decide +kernel
theorem dX11_readAll_58 : decode cX11_readAll 58 = .ok (.iaload, 1) := by decide +kernel
theorem dX11_readAll_59 : decode cX11_readAll 59 = .ok (.ifCond .lt 13, 3) := by decide +kernel
theorem dX11_readAll_62 : decode cX11_readAll 62 = .ok (.aload_n 0, 1) := by decide +kernel
theorem dX11_readAll_63 : decode cX11_readAll 63 = .ok (.iload_n 3, 1) := by decide +kernel
theorem dX11_readAll_64 : decode cX11_readAll 64 = .ok (.iload_n 3, 1) := by decide +kernel
theorem dX11_readAll_65 : decode cX11_readAll 65 = .ok (.invokestatic 144, 3) := by decide +kernel
theorem dX11_readAll_68 : decode cX11_readAll 68 = .ok (.invokevirtual 148, 3) := by decide +kernel
theorem dX11_readAll_71 : decode cX11_readAll 71 = .ok (.pop, 1) := by decide +kernel
theorem dX11_readAll_72 : decode cX11_readAll 72 = .ok (.iinc 3 1, 3) := by decide +kernel
theorem dX11_readAll_75 : decode cX11_readAll 75 = .ok (.goto (-33), 3) := by decide +kernel
theorem dX11_readAll_78 : decode cX11_readAll 78 = .ok (.return_, 1) := by decide +kernel
theorem dX11_say_0 : decode cX11_say 0 = .ok (.iload_n 1, 1) := by decide +kernel
theorem dX11_say_1 : decode cX11_say 1 = .ok (.bipush 33, 2) := by decide +kernel
theorem dX11_say_3 : decode cX11_say 3 = .ok (.bipush 126, 2) := by decide +kernel
theorem dX11_say_5 : decode cX11_say 5 = .ok (.invokestatic 104, 3) := by decide +kernel
theorem dX11_say_8 : decode cX11_say 8 = .ok (.ifCond .ne 6, 3) := by decide +kernel
theorem dX11_say_11 : decode cX11_say 11 = .ok (.bipush (-2), 2) := by decide +kernel
theorem dX11_say_13 : decode cX11_say 13 = .ok (.ireturn, 1) := by decide +kernel
theorem dX11_say_14 : decode cX11_say 14 = .ok (.aload_n 0, 1) := by decide +kernel
theorem dX11_say_15 : decode cX11_say 15 = .ok (.getfield 13, 3) := by decide +kernel
theorem dX11_say_18 : decode cX11_say 18 = .ok (.bipush 10, 2) := by decide +kernel
theorem dX11_say_20 : decode cX11_say 20 = .ok (.iaload, 1) := by decide +kernel
theorem dX11_say_21 : decode cX11_say 21 = .ok (.bipush 60, 2) := by decide +kernel
theorem dX11_say_23 : decode cX11_say 23 = .ok (.if_icmp .ne 6, 3) := by decide +kernel
theorem dX11_say_26 : decode cX11_say 26 = .ok (.bipush (-4), 2) := by decide +kernel
theorem dX11_say_28 : decode cX11_say 28 = .ok (.ireturn, 1) := by decide +kernel
theorem dX11_say_29 : decode cX11_say 29 = .ok (.aload_n 0, 1) := by decide +kernel
theorem dX11_say_30 : decode cX11_say 30 = .ok (.getfield 7, 3) := by decide +kernel
theorem dX11_say_33 : decode cX11_say 33 = .ok (.sipush 600, 3) := by decide +kernel
theorem dX11_say_36 : decode cX11_say 36 = .ok (.aload_n 0, 1) := by decide +kernel
theorem dX11_say_37 : decode cX11_say 37 = .ok (.getfield 13, 3) := by decide +kernel
theorem dX11_say_40 : decode cX11_say 40 = .ok (.bipush 10, 2) := by decide +kernel
theorem dX11_say_42 : decode cX11_say 42 = .ok (.iaload, 1) := by decide +kernel
theorem dX11_say_43 : decode cX11_say 43 = .ok (.iadd, 1) := by decide +kernel
theorem dX11_say_44 : decode cX11_say 44 = .ok (.iload_n 1, 1) := by decide +kernel
theorem dX11_say_45 : decode cX11_say 45 = .ok (.iastore, 1) := by decide +kernel
theorem dX11_say_46 : decode cX11_say 46 = .ok (.aload_n 0, 1) := by decide +kernel
theorem dX11_say_47 : decode cX11_say 47 = .ok (.getfield 13, 3) := by decide +kernel
theorem dX11_say_50 : decode cX11_say 50 = .ok (.bipush 10, 2) := by decide +kernel
theorem dX11_say_52 : decode cX11_say 52 = .ok (.dup2, 1) := by decide +kernel
theorem dX11_say_53 : decode cX11_say 53 = .ok (.iaload, 1) := by decide +kernel
theorem dX11_say_54 : decode cX11_say 54 = .ok (.iconst 1, 1) := by decide +kernel
theorem dX11_say_55 : decode cX11_say 55 = .ok (.iadd, 1) := by decide +kernel
theorem dX11_say_56 : decode cX11_say 56 = .ok (.iastore, 1) := by decide +kernel
theorem dX11_say_57 : decode cX11_say 57 = .ok (.aload_n 0, 1) := by decide +kernel
theorem dX11_say_58 : decode cX11_say 58 = .ok (.getfield 13, 3) := by decide +kernel
theorem dX11_say_61 : decode cX11_say 61 = .ok (.bipush 10, 2) := by decide +kernel
theorem dX11_say_63 : decode cX11_say 63 = .ok (.iaload, 1) := by decide +kernel
theorem dX11_say_64 : decode cX11_say 64 = .ok (.ireturn, 1) := by decide +kernel
theorem dX11_wipe_0 : decode cX11_wipe 0 = .ok (.aload_n 0, 1) := by decide +kernel
theorem dX11_wipe_1 : decode cX11_wipe 1 = .ok (.getfield 13, 3) := by decide +kernel
theorem dX11_wipe_4 : decode cX11_wipe 4 = .ok (.bipush 10, 2) := by decide +kernel
theorem dX11_wipe_6 : decode cX11_wipe 6 = .ok (.iaload, 1) := by decide +kernel
theorem dX11_wipe_7 : decode cX11_wipe 7 = .ok (.istore_n 1, 1) := by decide +kernel
theorem dX11_wipe_8 : decode cX11_wipe 8 = .ok (.aload_n 0, 1) := by decide +kernel
theorem dX11_wipe_9 : decode cX11_wipe 9 = .ok (.getfield 13, 3) := by decide +kernel
theorem dX11_wipe_12 : decode cX11_wipe 12 = .ok (.bipush 10, 2) := by decide +kernel
theorem dX11_wipe_14 : decode cX11_wipe 14 = .ok (.iconst 0, 1) := by decide +kernel
theorem dX11_wipe_15 : decode cX11_wipe 15 = .ok (.iastore, 1) := by decide +kernel
theorem dX11_wipe_16 : decode cX11_wipe 16 = .ok (.iload_n 1, 1) := by decide +kernel
theorem dX11_wipe_17 : decode cX11_wipe 17 = .ok (.ireturn, 1) := by decide +kernel
theorem dX11_take_0 : decode cX11_take 0 = .ok (.aload_n 0, 1) := by decide +kernel
theorem dX11_take_1 : decode cX11_take 1 = .ok (.iconst 1, 1) := by decide +kernel
theorem dX11_take_2 : decode cX11_take 2 = .ok (.putfield 53, 3) := by decide +kernel
theorem dX11_take_5 : decode cX11_take 5 = .ok (.aload_n 0, 1) := by decide +kernel
theorem dX11_take_6 : decode cX11_take 6 = .ok (.iconst 0, 1) := by decide +kernel
theorem dX11_take_7 : decode cX11_take 7 = .ok (.putfield 92, 3) := by decide +kernel
theorem dX11_take_10 : decode cX11_take 10 = .ok (.aload_n 0, 1) := by decide +kernel
theorem dX11_take_11 : decode cX11_take 11 = .ok (.iconst 0, 1) := by decide +kernel
theorem dX11_take_12 : decode cX11_take 12 = .ok (.putfield 126, 3) := by decide +kernel
theorem dX11_take_15 : decode cX11_take 15 = .ok (.aload_n 0, 1) := by decide +kernel
theorem dX11_take_16 : decode cX11_take 16 = .ok (.iconst 0, 1) := by decide +kernel
theorem dX11_take_17 : decode cX11_take 17 = .ok (.putfield 95, 3) := by decide +kernel
theorem dX11_take_20 : decode cX11_take 20 = .ok (.aload_n 0, 1) := by decide +kernel
theorem dX11_take_21 : decode cX11_take 21 = .ok (.bipush 10, 2) := by decide +kernel
theorem dX11_take_23 : decode cX11_take 23 = .ok (.iload_n 3, 1) := by decide +kernel
theorem dX11_take_24 : decode cX11_take 24 = .ok (.ifCond .eq 8, 3) := by decide +kernel
theorem dX11_take_27 : decode cX11_take 27 = .ok (.bipush (-6), 2) := by decide +kernel
theorem dX11_take_29 : decode cX11_take 29 = .ok (.goto 4, 3) := by decide +kernel
theorem dX11_take_32 : decode cX11_take 32 = .ok (.iconst 0, 1) := by decide +kernel
theorem dX11_take_33 : decode cX11_take 33 = .ok (.invokevirtual 148, 3) := by decide +kernel
theorem dX11_take_36 : decode cX11_take 36 = .ok (.istore 4, 2) := by decide +kernel
theorem dX11_take_38 : decode cX11_take 38 = .ok (.iload 4, 2) := by decide +kernel
theorem dX11_take_40 : decode cX11_take 40 = .ok (.ifCond .lt 12, 3) := by decide +kernel
theorem dX11_take_43 : decode cX11_take 43 = .ok (.aload_n 0, 1) := by decide +kernel
theorem dX11_take_44 : decode cX11_take 44 = .ok (.iload 4, 2) := by decide +kernel
theorem dX11_take_46 : decode cX11_take 46 = .ok (.putfield 16, 3) := by decide +kernel
theorem dX11_take_49 : decode cX11_take 49 = .ok (.bipush (-7), 2) := by decide +kernel
theorem dX11_take_51 : decode cX11_take 51 = .ok (.ireturn, 1) := by decide +kernel
theorem dX11_take_52 : decode cX11_take 52 = .ok (.bipush (-6), 2) := by decide +kernel
theorem dX11_take_54 : decode cX11_take 54 = .ok (.istore 5, 2) := by decide +kernel
theorem dX11_take_56 : decode cX11_take 56 = .ok (.iload_n 2, 1) := by decide +kernel
theorem dX11_take_57 : decode cX11_take 57 = .ok (.istore 6, 2) := by decide +kernel
theorem dX11_take_59 : decode cX11_take 59 = .ok (.iload 6, 2) := by decide +kernel
theorem dX11_take_61 : decode cX11_take 61 = .ok (.iload_n 1, 1) := by decide +kernel
theorem dX11_take_62 : decode cX11_take 62 = .ok (.if_icmp .lt 32, 3) := by decide +kernel
theorem dX11_take_65 : decode cX11_take 65 = .ok (.iload_n 3, 1) := by decide +kernel
theorem dX11_take_66 : decode cX11_take 66 = .ok (.ifCond .ne 13, 3) := by decide +kernel
theorem dX11_take_69 : decode cX11_take 69 = .ok (.aload_n 0, 1) := by decide +kernel
theorem dX11_take_70 : decode cX11_take 70 = .ok (.getfield 13, 3) := by decide +kernel
theorem dX11_take_73 : decode cX11_take 73 = .ok (.iload 6, 2) := by decide +kernel
theorem dX11_take_75 : decode cX11_take 75 = .ok (.iaload, 1) := by decide +kernel
theorem dX11_take_76 : decode cX11_take 76 = .ok (.ifCond .ge 8, 3) := by decide +kernel
theorem dX11_take_79 : decode cX11_take 79 = .ok (.iload 6, 2) := by decide +kernel
theorem dX11_take_81 : decode cX11_take 81 = .ok (.goto 5, 3) := by decide +kernel
theorem dX11_take_84 : decode cX11_take 84 = .ok (.iload 5, 2) := by decide +kernel
theorem dX11_take_86 : decode cX11_take 86 = .ok (.istore 5, 2) := by decide +kernel
theorem dX11_take_88 : decode cX11_take 88 = .ok (.iinc 6 (-1), 3) := by decide +kernel
theorem dX11_take_91 : decode cX11_take 91 = .ok (.goto (-32), 3) := by decide +kernel
theorem dX11_take_94 : decode cX11_take 94 = .ok (.aload_n 0, 1) := by decide +kernel
theorem dX11_take_95 : decode cX11_take 95 = .ok (.getfield 92, 3) := by decide +kernel
theorem dX11_take_98 : decode cX11_take 98 = .ok (.istore 6, 2) := by decide +kernel
theorem dX11_take_100 : decode cX11_take 100 = .ok (.aload_n 0, 1) := by decide +kernel
theorem dX11_take_101 : decode cX11_take 101 = .ok (.getfield 126, 3) := by decide +kernel
theorem dX11_take_104 : decode cX11_take 104 = .ok (.istore 7, 2) := by decide +kernel
theorem dX11_take_106 : decode cX11_take 106 = .ok (.aload_n 0, 1) := by decide +kernel
theorem dX11_take_107 : decode cX11_take 107 = .ok (.iconst 0, 1) := by decide +kernel
theorem dX11_take_108 : decode cX11_take 108 = .ok (.iload_n 3, 1) := by decide +kernel
theorem dX11_take_109 : decode cX11_take 109 = .ok (.ifCond .eq 7, 3) := by decide +kernel
theorem dX11_take_112 : decode cX11_take 112 = .ok (.iconst 0, 1) := by decide +kernel
theorem dX11_take_113 : decode cX11_take 113 = .ok (.goto 5, 3) := by decide +kernel
theorem dX11_take_116 : decode cX11_take 116 = .ok (.bipush (-6), 2) := by decide +kernel
theorem dX11_take_118 : decode cX11_take 118 = .ok (.invokevirtual 151, 3) := by decide +kernel
theorem dX11_take_121 : decode cX11_take 121 = .ok (.iload 5, 2) := by decide +kernel
theorem dX11_take_123 : decode cX11_take 123 = .ok (.ifCond .lt 26, 3) := by decide +kernel
theorem dX11_take_126 : decode cX11_take 126 = .ok (.aload_n 0, 1) := by decide +kernel
theorem dX11_take_127 : decode cX11_take 127 = .ok (.getfield 92, 3) := by decide +kernel
theorem dX11_take_130 : decode cX11_take 130 = .ok (.iload 6, 2) := by decide +kernel
theorem dX11_take_132 : decode cX11_take 132 = .ok (.iadd, 1) := by decide +kernel
theorem dX11_take_133 : decode cX11_take 133 = .ok (.bipush 60, 2) := by decide +kernel
theorem dX11_take_135 : decode cX11_take 135 = .ok (.if_icmp .gt 14, 3) := by decide +kernel
theorem dX11_take_138 : decode cX11_take 138 = .ok (.aload_n 0, 1) := by decide +kernel
theorem dX11_take_139 : decode cX11_take 139 = .ok (.getfield 126, 3) := by decide +kernel
theorem dX11_take_142 : decode cX11_take 142 = .ok (.iload 7, 2) := by decide +kernel
theorem dX11_take_144 : decode cX11_take 144 = .ok (.iadd, 1) := by decide +kernel
theorem dX11_take_145 : decode cX11_take 145 = .ok (.iconst 3, 1) := by decide +kernel
theorem dX11_take_146 : decode cX11_take 146 = .ok (.if_icmp .le 6, 3) := by decide +kernel
theorem dX11_take_149 : decode cX11_take 149 = .ok (.bipush (-4), 2) := by decide +kernel
theorem dX11_take_151 : decode cX11_take 151 = .ok (.ireturn, 1) := by decide +kernel
theorem dX11_take_152 : decode cX11_take 152 = .ok (.iconst 0, 1) := by decide +kernel
theorem dX11_take_153 : decode cX11_take 153 = .ok (.istore 8, 2) := by decide +kernel
theorem dX11_take_155 : decode cX11_take 155 = .ok (.iload 8, 2) := by decide +kernel
theorem dX11_take_157 : decode cX11_take 157 = .ok (.aload_n 0, 1) := by decide +kernel
theorem dX11_take_158 : decode cX11_take 158 = .ok (.getfield 13, 3) := by decide +kernel
theorem dX11_take_161 : decode cX11_take 161 = .ok (.bipush 10, 2) := by decide +kernel
theorem dX11_take_163 : decode cX11_take 163 = .ok (.iaload, 1) := by decide +kernel
theorem dX11_take_164 : decode cX11_take 164 = .ok (.if_icmp .ge 33, 3) := by decide +kernel
theorem dX11_take_167 : decode cX11_take 167 = .ok (.aload_n 0, 1) := by decide +kernel
theorem dX11_take_168 : decode cX11_take 168 = .ok (.getfield 7, 3) := by decide +kernel
theorem dX11_take_171 : decode cX11_take 171 = .ok (.bipush 60, 2) := by decide +kernel
theorem dX11_take_173 : decode cX11_take 173 = .ok (.iload 5, 2) := by decide +kernel
theorem dX11_take_175 : decode cX11_take 175 = .ok (.imul, 1) := by decide +kernel
theorem dX11_take_176 : decode cX11_take 176 = .ok (.iload 8, 2) := by decide +kernel
theorem dX11_take_178 : decode cX11_take 178 = .ok (.iadd, 1) := by decide +kernel
theorem dX11_take_179 : decode cX11_take 179 = .ok (.aload_n 0, 1) := by decide +kernel
theorem dX11_take_180 : decode cX11_take 180 = .ok (.getfield 7, 3) := by decide +kernel
theorem dX11_take_183 : decode cX11_take 183 = .ok (.sipush 600, 3) := by decide +kernel
theorem dX11_take_186 : decode cX11_take 186 = .ok (.iload 8, 2) := by decide +kernel
theorem dX11_take_188 : decode cX11_take 188 = .ok (.iadd, 1) := by decide +kernel
theorem dX11_take_189 : decode cX11_take 189 = .ok (.iaload, 1) := by decide +kernel
theorem dX11_take_190 : decode cX11_take 190 = .ok (.iastore, 1) := by decide +kernel
theorem dX11_take_191 : decode cX11_take 191 = .ok (.iinc 8 1, 3) := by decide +kernel
theorem dX11_take_194 : decode cX11_take 194 = .ok (.goto (-39), 3) := by decide +kernel
theorem dX11_take_197 : decode cX11_take 197 = .ok (.aload_n 0, 1) := by decide +kernel
theorem dX11_take_198 : decode cX11_take 198 = .ok (.getfield 13, 3) := by decide +kernel
theorem dX11_take_201 : decode cX11_take 201 = .ok (.iload 5, 2) := by decide +kernel
theorem dX11_take_203 : decode cX11_take 203 = .ok (.aload_n 0, 1) := by decide +kernel
theorem dX11_take_204 : decode cX11_take 204 = .ok (.getfield 13, 3) := by decide +kernel
theorem dX11_take_207 : decode cX11_take 207 = .ok (.bipush 10, 2) := by decide +kernel
theorem dX11_take_209 : decode cX11_take 209 = .ok (.iaload, 1) := by decide +kernel
theorem dX11_take_210 : decode cX11_take 210 = .ok (.iastore, 1) := by decide +kernel
theorem dX11_take_211 : decode cX11_take 211 = .ok (.aload_n 0, 1) := by decide +kernel
theorem dX11_take_212 : decode cX11_take 212 = .ok (.getfield 13, 3) := by decide +kernel
theorem dX11_take_215 : decode cX11_take 215 = .ok (.bipush 10, 2) := by decide +kernel
theorem dX11_take_217 : decode cX11_take 217 = .ok (.iconst 0, 1) := by decide +kernel
theorem dX11_take_218 : decode cX11_take 218 = .ok (.iastore, 1) := by decide +kernel
theorem dX11_take_219 : decode cX11_take 219 = .ok (.iload_n 3, 1) := by decide +kernel
theorem dX11_take_220 : decode cX11_take 220 = .ok (.ifCond .eq 8, 3) := by decide +kernel
theorem dX11_take_223 : decode cX11_take 223 = .ok (.iload 6, 2) := by decide +kernel
theorem dX11_take_225 : decode cX11_take 225 = .ok (.goto 7, 3) := by decide +kernel
theorem dX11_take_228 : decode cX11_take 228 = .ok (.iload 5, 2) := by decide +kernel
theorem dX11_take_230 : decode cX11_take 230 = .ok (.iload_n 1, 1) := by decide +kernel
theorem dX11_take_231 : decode cX11_take 231 = .ok (.isub, 1) := by decide +kernel
theorem dX11_take_232 : decode cX11_take 232 = .ok (.ireturn, 1) := by decide +kernel
theorem dX11_resource_0 : decode cX11_resource 0 = .ok (.aload_n 0, 1) := by decide +kernel
theorem dX11_resource_1 : decode cX11_resource 1 = .ok (.iconst 1, 1) := by decide +kernel
theorem dX11_resource_2 : decode cX11_resource 2 = .ok (.iconst 5, 1) := by decide +kernel
theorem dX11_resource_3 : decode cX11_resource 3 = .ok (.iconst 0, 1) := by decide +kernel
theorem dX11_resource_4 : decode cX11_resource 4 = .ok (.invokevirtual 155, 3) := by decide +kernel
theorem dX11_resource_7 : decode cX11_resource 7 = .ok (.ireturn, 1) := by decide +kernel
theorem dX11_well_0 : decode cX11_well 0 = .ok (.aload_n 0, 1) := by decide +kernel
theorem dX11_well_1 : decode cX11_well 1 = .ok (.bipush 6, 2) := by decide +kernel
theorem dX11_well_3 : decode cX11_well 3 = .ok (.bipush 9, 2) := by decide +kernel
theorem dX11_well_5 : decode cX11_well 5 = .ok (.iconst 0, 1) := by decide +kernel
theorem dX11_well_6 : decode cX11_well 6 = .ok (.invokevirtual 155, 3) := by decide +kernel
theorem dX11_well_9 : decode cX11_well 9 = .ok (.ireturn, 1) := by decide +kernel
theorem dX11_goal_0 : decode cX11_goal 0 = .ok (.aload_n 0, 1) := by decide +kernel
theorem dX11_goal_1 : decode cX11_goal 1 = .ok (.iconst 0, 1) := by decide +kernel
theorem dX11_goal_2 : decode cX11_goal 2 = .ok (.iconst 0, 1) := by decide +kernel
theorem dX11_goal_3 : decode cX11_goal 3 = .ok (.iconst 1, 1) := by decide +kernel
theorem dX11_goal_4 : decode cX11_goal 4 = .ok (.invokevirtual 155, 3) := by decide +kernel
theorem dX11_goal_7 : decode cX11_goal 7 = .ok (.ireturn, 1) := by decide +kernel
theorem dX11_fault_0 : decode cX11_fault 0 = .ok (.aload_n 0, 1) := by decide +kernel
theorem dX11_fault_1 : decode cX11_fault 1 = .ok (.getfield 16, 3) := by decide +kernel
theorem dX11_fault_4 : decode cX11_fault 4 = .ok (.ireturn, 1) := by decide +kernel
theorem dX11_there_0 : decode cX11_there 0 = .ok (.iconst 0, 1) := by decide +kernel
theorem dX11_there_1 : decode cX11_there 1 = .ok (.istore_n 3, 1) := by decide +kernel
theorem dX11_there_2 : decode cX11_there 2 = .ok (.iload_n 1, 1) := by decide +kernel
theorem dX11_there_3 : decode cX11_there 3 = .ok (.istore 4, 2) := by decide +kernel
theorem dX11_there_5 : decode cX11_there 5 = .ok (.iload 4, 2) := by decide +kernel
theorem dX11_there_7 : decode cX11_there 7 = .ok (.iload_n 2, 1) := by decide +kernel
theorem dX11_there_8 : decode cX11_there 8 = .ok (.if_icmp .gt 32, 3) := by decide +kernel
theorem dX11_there_11 : decode cX11_there 11 = .ok (.iload_n 3, 1) := by decide +kernel
theorem dX11_there_12 : decode cX11_there 12 = .ok (.aload_n 0, 1) := by decide +kernel
theorem dX11_there_13 : decode cX11_there 13 = .ok (.getfield 13, 3) := by decide +kernel
theorem dX11_there_16 : decode cX11_there 16 = .ok (.iload 4, 2) := by decide +kernel
theorem dX11_there_18 : decode cX11_there 18 = .ok (.iaload, 1) := by decide +kernel
theorem dX11_there_19 : decode cX11_there 19 = .ok (.ifCond .lt 12, 3) := by decide +kernel
theorem dX11_there_22 : decode cX11_there 22 = .ok (.iconst 1, 1) := by decide +kernel
theorem dX11_there_23 : decode cX11_there 23 = .ok (.iload 4, 2) := by decide +kernel
theorem dX11_there_25 : decode cX11_there 25 = .ok (.iload_n 1, 1) := by decide +kernel
theorem dX11_there_26 : decode cX11_there 26 = .ok (.isub, 1) := by decide +kernel
theorem dX11_there_27 : decode cX11_there 27 = .ok (.ishl, 1) := by decide +kernel
theorem dX11_there_28 : decode cX11_there 28 = .ok (.goto 4, 3) := by decide +kernel
theorem dX11_there_31 : decode cX11_there 31 = .ok (.iconst 0, 1) := by decide +kernel
theorem dX11_there_32 : decode cX11_there 32 = .ok (.ior, 1) := by decide +kernel
theorem dX11_there_33 : decode cX11_there 33 = .ok (.istore_n 3, 1) := by decide +kernel
theorem dX11_there_34 : decode cX11_there 34 = .ok (.iinc 4 1, 3) := by decide +kernel
theorem dX11_there_37 : decode cX11_there 37 = .ok (.goto (-32), 3) := by decide +kernel
theorem dX11_there_40 : decode cX11_there 40 = .ok (.iload_n 3, 1) := by decide +kernel
theorem dX11_there_41 : decode cX11_there 41 = .ok (.ireturn, 1) := by decide +kernel
theorem dX11_bits_0 : decode cX11_bits 0 = .ok (.iconst 0, 1) := by decide +kernel
theorem dX11_bits_1 : decode cX11_bits 1 = .ok (.istore_n 1, 1) := by decide +kernel
theorem dX11_bits_2 : decode cX11_bits 2 = .ok (.iconst 0, 1) := by decide +kernel
theorem dX11_bits_3 : decode cX11_bits 3 = .ok (.istore_n 2, 1) := by decide +kernel
theorem dX11_bits_4 : decode cX11_bits 4 = .ok (.iload_n 2, 1) := by decide +kernel
theorem dX11_bits_5 : decode cX11_bits 5 = .ok (.bipush 12, 2) := by decide +kernel
theorem dX11_bits_7 : decode cX11_bits 7 = .ok (.if_icmp .ge 17, 3) := by decide +kernel
theorem dX11_bits_10 : decode cX11_bits 10 = .ok (.iload_n 1, 1) := by decide +kernel
theorem dX11_bits_11 : decode cX11_bits 11 = .ok (.iload_n 0, 1) := by decide +kernel
theorem dX11_bits_12 : decode cX11_bits 12 = .ok (.iload_n 2, 1) := by decide +kernel
theorem dX11_bits_13 : decode cX11_bits 13 = .ok (.ishr, 1) := by decide +kernel
theorem dX11_bits_14 : decode cX11_bits 14 = .ok (.iconst 1, 1) := by decide +kernel
theorem dX11_bits_15 : decode cX11_bits 15 = .ok (.iand, 1) := by decide +kernel
theorem dX11_bits_16 : decode cX11_bits 16 = .ok (.iadd, 1) := by decide +kernel
theorem dX11_bits_17 : decode cX11_bits 17 = .ok (.istore_n 1, 1) := by decide +kernel
theorem dX11_bits_18 : decode cX11_bits 18 = .ok (.iinc 2 1, 3) := by decide +kernel
theorem dX11_bits_21 : decode cX11_bits 21 = .ok (.goto (-17), 3) := by decide +kernel
theorem dX11_bits_24 : decode cX11_bits 24 = .ok (.iload_n 1, 1) := by decide +kernel
theorem dX11_bits_25 : decode cX11_bits 25 = .ok (.ireturn, 1) := by decide +kernel
theorem dX11_drop_0 : decode cX11_drop 0 = .ok (.iload_n 1, 1) := by decide +kernel
theorem dX11_drop_1 : decode cX11_drop 1 = .ok (.iconst 0, 1) := by decide +kernel
theorem dX11_drop_2 : decode cX11_drop 2 = .ok (.iconst 2, 1) := by decide +kernel
theorem dX11_drop_3 : decode cX11_drop 3 = .ok (.invokestatic 104, 3) := by decide +kernel
theorem dX11_drop_6 : decode cX11_drop 6 = .ok (.ifCond .ne 6, 3) := by decide +kernel
theorem dX11_drop_9 : decode cX11_drop 9 = .ok (.bipush (-2), 2) := by decide +kernel
theorem dX11_drop_11 : decode cX11_drop 11 = .ok (.ireturn, 1) := by decide +kernel
theorem dX11_drop_12 : decode cX11_drop 12 = .ok (.iload_n 1, 1) := by decide +kernel
theorem dX11_drop_13 : decode cX11_drop 13 = .ok (.ifCond .ne 23, 3) := by decide +kernel
theorem dX11_drop_16 : decode cX11_drop 16 = .ok (.iload_n 2, 1) := by decide +kernel
theorem dX11_drop_17 : decode cX11_drop 17 = .ok (.iconst 0, 1) := by decide +kernel
theorem dX11_drop_18 : decode cX11_drop 18 = .ok (.iconst 4, 1) := by decide +kernel
theorem dX11_drop_19 : decode cX11_drop 19 = .ok (.invokestatic 104, 3) := by decide +kernel
theorem dX11_drop_22 : decode cX11_drop 22 = .ok (.ifCond .eq 40, 3) := by decide +kernel
theorem dX11_drop_25 : decode cX11_drop 25 = .ok (.aload_n 0, 1) := by decide +kernel
theorem dX11_drop_26 : decode cX11_drop 26 = .ok (.getfield 13, 3) := by decide +kernel
theorem dX11_drop_29 : decode cX11_drop 29 = .ok (.iconst 1, 1) := by decide +kernel
theorem dX11_drop_30 : decode cX11_drop 30 = .ok (.iload_n 2, 1) := by decide +kernel
theorem dX11_drop_31 : decode cX11_drop 31 = .ok (.iadd, 1) := by decide +kernel
theorem dX11_drop_32 : decode cX11_drop 32 = .ok (.iaload, 1) := by decide +kernel
theorem dX11_drop_33 : decode cX11_drop 33 = .ok (.ifCond .lt 29, 3) := by decide +kernel
theorem dX11_drop_36 : decode cX11_drop 36 = .ok (.iload_n 1, 1) := by decide +kernel
theorem dX11_drop_37 : decode cX11_drop 37 = .ok (.iconst 1, 1) := by decide +kernel
theorem dX11_drop_38 : decode cX11_drop 38 = .ok (.if_icmp .ne 26, 3) := by decide +kernel
theorem dX11_drop_41 : decode cX11_drop 41 = .ok (.iload_n 2, 1) := by decide +kernel
theorem dX11_drop_42 : decode cX11_drop 42 = .ok (.iconst 0, 1) := by decide +kernel
theorem dX11_drop_43 : decode cX11_drop 43 = .ok (.iconst 3, 1) := by decide +kernel
theorem dX11_drop_44 : decode cX11_drop 44 = .ok (.invokestatic 104, 3) := by decide +kernel
theorem dX11_drop_47 : decode cX11_drop 47 = .ok (.ifCond .eq 15, 3) := by decide +kernel
theorem dX11_drop_50 : decode cX11_drop 50 = .ok (.aload_n 0, 1) := by decide +kernel
theorem dX11_drop_51 : decode cX11_drop 51 = .ok (.getfield 13, 3) := by decide +kernel
theorem dX11_drop_54 : decode cX11_drop 54 = .ok (.bipush 6, 2) := by decide +kernel
theorem dX11_drop_56 : decode cX11_drop 56 = .ok (.iload_n 2, 1) := by decide +kernel
theorem dX11_drop_57 : decode cX11_drop 57 = .ok (.iadd, 1) := by decide +kernel
theorem dX11_drop_58 : decode cX11_drop 58 = .ok (.iaload, 1) := by decide +kernel
theorem dX11_drop_59 : decode cX11_drop 59 = .ok (.ifCond .ge 5, 3) := by decide +kernel
theorem dX11_drop_62 : decode cX11_drop 62 = .ok (.iconst (-1), 1) := by decide +kernel
theorem dX11_drop_63 : decode cX11_drop 63 = .ok (.ireturn, 1) := by decide +kernel
theorem dX11_drop_64 : decode cX11_drop 64 = .ok (.iload_n 1, 1) := by decide +kernel
theorem dX11_drop_65 : decode cX11_drop 65 = .ok (.iconst 2, 1) := by decide +kernel
theorem dX11_drop_66 : decode cX11_drop 66 = .ok (.if_icmp .ne 15, 3) := by decide +kernel
theorem dX11_drop_69 : decode cX11_drop 69 = .ok (.aload_n 0, 1) := by decide +kernel
theorem dX11_drop_70 : decode cX11_drop 70 = .ok (.getfield 13, 3) := by decide +kernel
theorem dX11_drop_73 : decode cX11_drop 73 = .ok (.iconst 0, 1) := by decide +kernel
theorem dX11_drop_74 : decode cX11_drop 74 = .ok (.iaload, 1) := by decide +kernel
theorem dX11_drop_75 : decode cX11_drop 75 = .ok (.ifCond .ge 6, 3) := by decide +kernel
theorem dX11_drop_78 : decode cX11_drop 78 = .ok (.bipush (-3), 2) := by decide +kernel
theorem dX11_drop_80 : decode cX11_drop 80 = .ok (.ireturn, 1) := by decide +kernel
theorem dX11_drop_81 : decode cX11_drop 81 = .ok (.aload_n 0, 1) := by decide +kernel
theorem dX11_drop_82 : decode cX11_drop 82 = .ok (.getfield 13, 3) := by decide +kernel
theorem dX11_drop_85 : decode cX11_drop 85 = .ok (.iload_n 1, 1) := by decide +kernel
theorem dX11_drop_86 : decode cX11_drop 86 = .ok (.ifCond .ne 9, 3) := by decide +kernel
theorem dX11_drop_89 : decode cX11_drop 89 = .ok (.iconst 1, 1) := by decide +kernel
theorem dX11_drop_90 : decode cX11_drop 90 = .ok (.iload_n 2, 1) := by decide +kernel
theorem dX11_drop_91 : decode cX11_drop 91 = .ok (.iadd, 1) := by decide +kernel
theorem dX11_drop_92 : decode cX11_drop 92 = .ok (.goto 16, 3) := by decide +kernel
theorem dX11_drop_95 : decode cX11_drop 95 = .ok (.iload_n 1, 1) := by decide +kernel
theorem dX11_drop_96 : decode cX11_drop 96 = .ok (.iconst 1, 1) := by decide +kernel
theorem dX11_drop_97 : decode cX11_drop 97 = .ok (.if_icmp .ne 10, 3) := by decide +kernel
theorem dX11_drop_100 : decode cX11_drop 100 = .ok (.bipush 6, 2) := by decide +kernel
theorem dX11_drop_102 : decode cX11_drop 102 = .ok (.iload_n 2, 1) := by decide +kernel
theorem dX11_drop_103 : decode cX11_drop 103 = .ok (.iadd, 1) := by decide +kernel
theorem dX11_drop_104 : decode cX11_drop 104 = .ok (.goto 4, 3) := by decide +kernel
theorem dX11_drop_107 : decode cX11_drop 107 = .ok (.iconst 0, 1) := by decide +kernel
theorem dX11_drop_108 : decode cX11_drop 108 = .ok (.bipush (-6), 2) := by decide +kernel
theorem dX11_drop_110 : decode cX11_drop 110 = .ok (.iastore, 1) := by decide +kernel
theorem dX11_drop_111 : decode cX11_drop 111 = .ok (.aload_n 0, 1) := by decide +kernel
theorem dX11_drop_112 : decode cX11_drop 112 = .ok (.iconst 1, 1) := by decide +kernel
theorem dX11_drop_113 : decode cX11_drop 113 = .ok (.putfield 53, 3) := by decide +kernel
theorem dX11_drop_116 : decode cX11_drop 116 = .ok (.iload_n 1, 1) := by decide +kernel
theorem dX11_drop_117 : decode cX11_drop 117 = .ok (.ifCond .ne 15, 3) := by decide +kernel
theorem dX11_drop_120 : decode cX11_drop 120 = .ok (.aload_n 0, 1) := by decide +kernel
theorem dX11_drop_121 : decode cX11_drop 121 = .ok (.iconst 1, 1) := by decide +kernel
theorem dX11_drop_122 : decode cX11_drop 122 = .ok (.iconst 5, 1) := by decide +kernel
theorem dX11_drop_123 : decode cX11_drop 123 = .ok (.invokevirtual 159, 3) := by decide +kernel
theorem dX11_drop_126 : decode cX11_drop 126 = .ok (.invokestatic 162, 3) := by decide +kernel
theorem dX11_drop_129 : decode cX11_drop 129 = .ok (.goto 23, 3) := by decide +kernel
theorem dX11_drop_132 : decode cX11_drop 132 = .ok (.iload_n 1, 1) := by decide +kernel
theorem dX11_drop_133 : decode cX11_drop 133 = .ok (.iconst 1, 1) := by decide +kernel
theorem dX11_drop_134 : decode cX11_drop 134 = .ok (.if_icmp .ne 17, 3) := by decide +kernel
theorem dX11_drop_137 : decode cX11_drop 137 = .ok (.aload_n 0, 1) := by decide +kernel
theorem dX11_drop_138 : decode cX11_drop 138 = .ok (.bipush 6, 2) := by decide +kernel
theorem dX11_drop_140 : decode cX11_drop 140 = .ok (.bipush 9, 2) := by decide +kernel
theorem dX11_drop_142 : decode cX11_drop 142 = .ok (.invokevirtual 159, 3) := by decide +kernel
theorem dX11_drop_145 : decode cX11_drop 145 = .ok (.invokestatic 162, 3) := by decide +kernel
theorem dX11_drop_148 : decode cX11_drop 148 = .ok (.goto 4, 3) := by decide +kernel
theorem dX11_drop_151 : decode cX11_drop 151 = .ok (.iconst 0, 1) := by decide +kernel
theorem dX11_drop_152 : decode cX11_drop 152 = .ok (.ireturn, 1) := by decide +kernel
theorem dX11_lay_0 : decode cX11_lay 0 = .ok (.aload_n 0, 1) := by decide +kernel
theorem dX11_lay_1 : decode cX11_lay 1 = .ok (.getfield 53, 3) := by decide +kernel
theorem dX11_lay_4 : decode cX11_lay 4 = .ok (.ifCond .ne 4, 3) := by decide +kernel
theorem dX11_lay_7 : decode cX11_lay 7 = .ok (.return_, 1) := by decide +kernel
theorem dX11_lay_8 : decode cX11_lay 8 = .ok (.aload_n 0, 1) := by decide +kernel
theorem dX11_lay_9 : decode cX11_lay 9 = .ok (.iconst 0, 1) := by decide +kernel
theorem dX11_lay_10 : decode cX11_lay 10 = .ok (.putfield 53, 3) := by decide +kernel
theorem dX11_lay_13 : decode cX11_lay 13 = .ok (.aload_n 0, 1) := by decide +kernel
theorem dX11_lay_14 : decode cX11_lay 14 = .ok (.iconst 1, 1) := by decide +kernel
theorem dX11_lay_15 : decode cX11_lay 15 = .ok (.bipush (-6), 2) := by decide +kernel
theorem dX11_lay_17 : decode cX11_lay 17 = .ok (.invokevirtual 151, 3) := by decide +kernel
theorem dX11_lay_20 : decode cX11_lay 20 = .ok (.iconst 0, 1) := by decide +kernel
theorem dX11_lay_21 : decode cX11_lay 21 = .ok (.istore_n 1, 1) := by decide +kernel
theorem dX11_lay_22 : decode cX11_lay 22 = .ok (.iload_n 1, 1) := by decide +kernel
theorem dX11_lay_23 : decode cX11_lay 23 = .ok (.sipush 256, 3) := by decide +kernel
theorem dX11_lay_26 : decode cX11_lay 26 = .ok (.aload_n 0, 1) := by decide +kernel
theorem dX11_lay_27 : decode cX11_lay 27 = .ok (.getfield 92, 3) := by decide +kernel
theorem dX11_lay_30 : decode cX11_lay 30 = .ok (.imul, 1) := by decide +kernel
theorem dX11_lay_31 : decode cX11_lay 31 = .ok (.if_icmp .ge 16, 3) := by decide +kernel
theorem dX11_lay_34 : decode cX11_lay 34 = .ok (.aload_n 0, 1) := by decide +kernel
theorem dX11_lay_35 : decode cX11_lay 35 = .ok (.getfield 57, 3) := by decide +kernel
theorem dX11_lay_38 : decode cX11_lay 38 = .ok (.iload_n 1, 1) := by decide +kernel
theorem dX11_lay_39 : decode cX11_lay 39 = .ok (.iconst 0, 1) := by decide +kernel
theorem dX11_lay_40 : decode cX11_lay 40 = .ok (.iastore, 1) := by decide +kernel
theorem dX11_lay_41 : decode cX11_lay 41 = .ok (.iinc 1 1, 3) := by decide +kernel
theorem dX11_lay_44 : decode cX11_lay 44 = .ok (.goto (-22), 3) := by decide +kernel
theorem dX11_lay_47 : decode cX11_lay 47 = .ok (.iconst 1, 1) := by decide +kernel
theorem dX11_lay_48 : decode cX11_lay 48 = .ok (.istore_n 1, 1) := by decide +kernel
theorem dX11_lay_49 : decode cX11_lay 49 = .ok (.iload_n 1, 1) := by decide +kernel
theorem dX11_lay_50 : decode cX11_lay 50 = .ok (.bipush 10, 2) := by decide +kernel
theorem dX11_lay_52 : decode cX11_lay 52 = .ok (.if_icmp .gt 63, 3) := by decide +kernel
theorem dX11_lay_55 : decode cX11_lay 55 = .ok (.iconst 0, 1) := by decide +kernel
theorem dX11_lay_56 : decode cX11_lay 56 = .ok (.istore_n 2, 1) := by decide +kernel
theorem dX11_lay_57 : decode cX11_lay 57 = .ok (.iload_n 2, 1) := by decide +kernel
theorem dX11_lay_58 : decode cX11_lay 58 = .ok (.sipush 256, 3) := by decide +kernel
theorem dX11_lay_61 : decode cX11_lay 61 = .ok (.aload_n 0, 1) := by decide +kernel
theorem dX11_lay_62 : decode cX11_lay 62 = .ok (.getfield 92, 3) := by decide +kernel
theorem dX11_lay_65 : decode cX11_lay 65 = .ok (.imul, 1) := by decide +kernel
theorem dX11_lay_66 : decode cX11_lay 66 = .ok (.if_icmp .ge 43, 3) := by decide +kernel
theorem dX11_lay_69 : decode cX11_lay 69 = .ok (.aload_n 0, 1) := by decide +kernel
theorem dX11_lay_70 : decode cX11_lay 70 = .ok (.getfield 57, 3) := by decide +kernel
theorem dX11_lay_73 : decode cX11_lay 73 = .ok (.iload_n 2, 1) := by decide +kernel
theorem dX11_lay_74 : decode cX11_lay 74 = .ok (.iaload, 1) := by decide +kernel
theorem dX11_lay_75 : decode cX11_lay 75 = .ok (.ifCond .ne 28, 3) := by decide +kernel
theorem dX11_lay_78 : decode cX11_lay 78 = .ok (.aload_n 0, 1) := by decide +kernel
theorem dX11_lay_79 : decode cX11_lay 79 = .ok (.iload_n 2, 1) := by decide +kernel
theorem dX11_lay_80 : decode cX11_lay 80 = .ok (.sipush 256, 3) := by decide +kernel
theorem dX11_lay_83 : decode cX11_lay 83 = .ok (.idiv, 1) := by decide +kernel
theorem dX11_lay_84 : decode cX11_lay 84 = .ok (.iload_n 2, 1) := by decide +kernel
theorem dX11_lay_85 : decode cX11_lay 85 = .ok (.sipush 256, 3) := by decide +kernel
theorem dX11_lay_88 : decode cX11_lay 88 = .ok (.irem, 1) := by decide +kernel
theorem dX11_lay_89 : decode cX11_lay 89 = .ok (.iload_n 1, 1) := by decide +kernel
theorem dX11_lay_90 : decode cX11_lay 90 = .ok (.invokevirtual 165, 3) := by decide +kernel
theorem dX11_lay_93 : decode cX11_lay 93 = .ok (.ifCond .eq 10, 3) := by decide +kernel
theorem dX11_lay_96 : decode cX11_lay 96 = .ok (.aload_n 0, 1) := by decide +kernel
theorem dX11_lay_97 : decode cX11_lay 97 = .ok (.getfield 57, 3) := by decide +kernel
theorem dX11_lay_100 : decode cX11_lay 100 = .ok (.iload_n 2, 1) := by decide +kernel
theorem dX11_lay_101 : decode cX11_lay 101 = .ok (.iload_n 1, 1) := by decide +kernel
theorem dX11_lay_102 : decode cX11_lay 102 = .ok (.iastore, 1) := by decide +kernel
theorem dX11_lay_103 : decode cX11_lay 103 = .ok (.iinc 2 1, 3) := by decide +kernel
theorem dX11_lay_106 : decode cX11_lay 106 = .ok (.goto (-49), 3) := by decide +kernel
theorem dX11_lay_109 : decode cX11_lay 109 = .ok (.iinc 1 1, 3) := by decide +kernel
theorem dX11_lay_112 : decode cX11_lay 112 = .ok (.goto (-63), 3) := by decide +kernel
theorem dX11_lay_115 : decode cX11_lay 115 = .ok (.return_, 1) := by decide +kernel
theorem dX11_isBelow_0 : decode cX11_isBelow 0 = .ok (.aload_n 0, 1) := by decide +kernel
theorem dX11_isBelow_1 : decode cX11_isBelow 1 = .ok (.getfield 57, 3) := by decide +kernel
theorem dX11_isBelow_4 : decode cX11_isBelow 4 = .ok (.sipush 256, 3) := by decide +kernel
theorem dX11_isBelow_7 : decode cX11_isBelow 7 = .ok (.iload_n 1, 1) := by decide +kernel
theorem dX11_isBelow_8 : decode cX11_isBelow 8 = .ok (.imul, 1) := by decide +kernel
theorem dX11_isBelow_9 : decode cX11_isBelow 9 = .ok (.iload_n 2, 1) := by decide +kernel
theorem dX11_isBelow_10 : decode cX11_isBelow 10 = .ok (.iadd, 1) := by decide +kernel
theorem dX11_isBelow_11 : decode cX11_isBelow 11 = .ok (.iaload, 1) := by decide +kernel
theorem dX11_isBelow_12 : decode cX11_isBelow 12 = .ok (.istore 4, 2) := by decide +kernel
theorem dX11_isBelow_14 : decode cX11_isBelow 14 = .ok (.iload 4, 2) := by decide +kernel
theorem dX11_isBelow_16 : decode cX11_isBelow 16 = .ok (.ifCond .le 13, 3) := by decide +kernel
theorem dX11_isBelow_19 : decode cX11_isBelow 19 = .ok (.iload 4, 2) := by decide +kernel
theorem dX11_isBelow_21 : decode cX11_isBelow 21 = .ok (.iload_n 3, 1) := by decide +kernel
theorem dX11_isBelow_22 : decode cX11_isBelow 22 = .ok (.if_icmp .ge 7, 3) := by decide +kernel
theorem dX11_isBelow_25 : decode cX11_isBelow 25 = .ok (.iconst 1, 1) := by decide +kernel
theorem dX11_isBelow_26 : decode cX11_isBelow 26 = .ok (.goto 4, 3) := by decide +kernel
theorem dX11_isBelow_29 : decode cX11_isBelow 29 = .ok (.iconst 0, 1) := by decide +kernel
theorem dX11_isBelow_30 : decode cX11_isBelow 30 = .ok (.ireturn, 1) := by decide +kernel
theorem dX11_isTold_0 : decode cX11_isTold 0 = .ok (.iconst 3, 1) := by decide +kernel
theorem dX11_isTold_1 : decode cX11_isTold 1 = .ok (.iload_n 1, 1) := by decide +kernel
theorem dX11_isTold_2 : decode cX11_isTold 2 = .ok (.imul, 1) := by decide +kernel
theorem dX11_isTold_3 : decode cX11_isTold 3 = .ok (.iload_n 2, 1) := by decide +kernel
theorem dX11_isTold_4 : decode cX11_isTold 4 = .ok (.iadd, 1) := by decide +kernel
theorem dX11_isTold_5 : decode cX11_isTold 5 = .ok (.istore 6, 2) := by decide +kernel
theorem dX11_isTold_7 : decode cX11_isTold 7 = .ok (.iload_n 2, 1) := by decide +kernel
theorem dX11_isTold_8 : decode cX11_isTold 8 = .ok (.aload_n 0, 1) := by decide +kernel
theorem dX11_isTold_9 : decode cX11_isTold 9 = .ok (.getfield 32, 3) := by decide +kernel
theorem dX11_isTold_12 : decode cX11_isTold 12 = .ok (.iload_n 1, 1) := by decide +kernel
theorem dX11_isTold_13 : decode cX11_isTold 13 = .ok (.iaload, 1) := by decide +kernel
theorem dX11_isTold_14 : decode cX11_isTold 14 = .ok (.if_icmp .ge 14, 3) := by decide +kernel
theorem dX11_isTold_17 : decode cX11_isTold 17 = .ok (.aload_n 0, 1) := by decide +kernel
theorem dX11_isTold_18 : decode cX11_isTold 18 = .ok (.getfield 35, 3) := by decide +kernel
theorem dX11_isTold_21 : decode cX11_isTold 21 = .ok (.iload 6, 2) := by decide +kernel
theorem dX11_isTold_23 : decode cX11_isTold 23 = .ok (.iaload, 1) := by decide +kernel
theorem dX11_isTold_24 : decode cX11_isTold 24 = .ok (.iload_n 3, 1) := by decide +kernel
theorem dX11_isTold_25 : decode cX11_isTold 25 = .ok (.if_icmp .eq 5, 3) := by decide +kernel
theorem dX11_isTold_28 : decode cX11_isTold 28 = .ok (.iconst 0, 1) := by decide +kernel
theorem dX11_isTold_29 : decode cX11_isTold 29 = .ok (.ireturn, 1) := by decide +kernel
theorem dX11_isTold_30 : decode cX11_isTold 30 = .ok (.aload_n 0, 1) := by decide +kernel
theorem dX11_isTold_31 : decode cX11_isTold 31 = .ok (.getfield 38, 3) := by decide +kernel
theorem dX11_isTold_34 : decode cX11_isTold 34 = .ok (.iload 6, 2) := by decide +kernel
theorem dX11_isTold_36 : decode cX11_isTold 36 = .ok (.iaload, 1) := by decide +kernel
theorem dX11_isTold_37 : decode cX11_isTold 37 = .ok (.ifCond .ge 16, 3) := by decide +kernel
theorem dX11_isTold_40 : decode cX11_isTold 40 = .ok (.iload 4, 2) := by decide +kernel
theorem dX11_isTold_42 : decode cX11_isTold 42 = .ok (.ifCond .ne 7, 3) := by decide +kernel
theorem dX11_isTold_45 : decode cX11_isTold 45 = .ok (.iconst 1, 1) := by decide +kernel
theorem dX11_isTold_46 : decode cX11_isTold 46 = .ok (.goto 22, 3) := by decide +kernel
theorem dX11_isTold_49 : decode cX11_isTold 49 = .ok (.iconst 0, 1) := by decide +kernel
theorem dX11_isTold_50 : decode cX11_isTold 50 = .ok (.goto 18, 3) := by decide +kernel
theorem dX11_isTold_53 : decode cX11_isTold 53 = .ok (.aload_n 0, 1) := by decide +kernel
theorem dX11_isTold_54 : decode cX11_isTold 54 = .ok (.aload_n 0, 1) := by decide +kernel
theorem dX11_isTold_55 : decode cX11_isTold 55 = .ok (.getfield 38, 3) := by decide +kernel
theorem dX11_isTold_58 : decode cX11_isTold 58 = .ok (.iload 6, 2) := by decide +kernel
theorem dX11_isTold_60 : decode cX11_isTold 60 = .ok (.iaload, 1) := by decide +kernel
theorem dX11_isTold_61 : decode cX11_isTold 61 = .ok (.iload 4, 2) := by decide +kernel
theorem dX11_isTold_63 : decode cX11_isTold 63 = .ok (.iload 5, 2) := by decide +kernel
theorem dX11_isTold_65 : decode cX11_isTold 65 = .ok (.invokevirtual 168, 3) := by decide +kernel
theorem dX11_isTold_68 : decode cX11_isTold 68 = .ok (.ireturn, 1) := by decide +kernel
theorem dX11_firstFor_0 : decode cX11_firstFor 0 = .ok (.iconst 0, 1) := by decide +kernel
theorem dX11_firstFor_1 : decode cX11_firstFor 1 = .ok (.istore 4, 2) := by decide +kernel
theorem dX11_firstFor_3 : decode cX11_firstFor 3 = .ok (.iload 4, 2) := by decide +kernel
theorem dX11_firstFor_5 : decode cX11_firstFor 5 = .ok (.bipush 24, 2) := by decide +kernel
theorem dX11_firstFor_7 : decode cX11_firstFor 7 = .ok (.if_icmp .ge 58, 3) := by decide +kernel
theorem dX11_firstFor_10 : decode cX11_firstFor 10 = .ok (.iload 4, 2) := by decide +kernel
theorem dX11_firstFor_12 : decode cX11_firstFor 12 = .ok (.iconst 3, 1) := by decide +kernel
theorem dX11_firstFor_13 : decode cX11_firstFor 13 = .ok (.idiv, 1) := by decide +kernel
theorem dX11_firstFor_14 : decode cX11_firstFor 14 = .ok (.istore 5, 2) := by decide +kernel
theorem dX11_firstFor_16 : decode cX11_firstFor 16 = .ok (.iload_n 2, 1) := by decide +kernel
theorem dX11_firstFor_17 : decode cX11_firstFor 17 = .ok (.iload 5, 2) := by decide +kernel
theorem dX11_firstFor_19 : decode cX11_firstFor 19 = .ok (.invokestatic 171, 3) := by decide +kernel
theorem dX11_firstFor_22 : decode cX11_firstFor 22 = .ok (.ifCond .eq 37, 3) := by decide +kernel
theorem dX11_firstFor_25 : decode cX11_firstFor 25 = .ok (.aload_n 0, 1) := by decide +kernel
theorem dX11_firstFor_26 : decode cX11_firstFor 26 = .ok (.iload 5, 2) := by decide +kernel
theorem dX11_firstFor_28 : decode cX11_firstFor 28 = .ok (.iload 4, 2) := by decide +kernel
theorem dX11_firstFor_30 : decode cX11_firstFor 30 = .ok (.iconst 3, 1) := by decide +kernel
theorem dX11_firstFor_31 : decode cX11_firstFor 31 = .ok (.irem, 1) := by decide +kernel
theorem dX11_firstFor_32 : decode cX11_firstFor 32 = .ok (.iload_n 1, 1) := by decide +kernel
theorem dX11_firstFor_33 : decode cX11_firstFor 33 = .ok (.iload_n 2, 1) := by decide +kernel
theorem dX11_firstFor_34 : decode cX11_firstFor 34 = .ok (.iconst 1, 1) := by decide +kernel
theorem dX11_firstFor_35 : decode cX11_firstFor 35 = .ok (.iload 5, 2) := by decide +kernel
theorem dX11_firstFor_37 : decode cX11_firstFor 37 = .ok (.ishl, 1) := by decide +kernel
theorem dX11_firstFor_38 : decode cX11_firstFor 38 = .ok (.iconst (-1), 1) := by decide +kernel
theorem dX11_firstFor_39 : decode cX11_firstFor 39 = .ok (.ixor, 1) := by decide +kernel
theorem dX11_firstFor_40 : decode cX11_firstFor 40 = .ok (.iand, 1) := by decide +kernel
theorem dX11_firstFor_41 : decode cX11_firstFor 41 = .ok (.iload_n 3, 1) := by decide +kernel
theorem dX11_firstFor_42 : decode cX11_firstFor 42 = .ok (.invokevirtual 175, 3) := by decide +kernel
theorem dX11_firstFor_45 : decode cX11_firstFor 45 = .ok (.ifCond .eq 14, 3) := by decide +kernel
theorem dX11_firstFor_48 : decode cX11_firstFor 48 = .ok (.bipush 10, 2) := by decide +kernel
theorem dX11_firstFor_50 : decode cX11_firstFor 50 = .ok (.iload 5, 2) := by decide +kernel
theorem dX11_firstFor_52 : decode cX11_firstFor 52 = .ok (.imul, 1) := by decide +kernel
theorem dX11_firstFor_53 : decode cX11_firstFor 53 = .ok (.iload 4, 2) := by decide +kernel
theorem dX11_firstFor_55 : decode cX11_firstFor 55 = .ok (.iconst 3, 1) := by decide +kernel
theorem dX11_firstFor_56 : decode cX11_firstFor 56 = .ok (.irem, 1) := by decide +kernel
theorem dX11_firstFor_57 : decode cX11_firstFor 57 = .ok (.iadd, 1) := by decide +kernel
theorem dX11_firstFor_58 : decode cX11_firstFor 58 = .ok (.ireturn, 1) := by decide +kernel
theorem dX11_firstFor_59 : decode cX11_firstFor 59 = .ok (.iinc 4 1, 3) := by decide +kernel
theorem dX11_firstFor_62 : decode cX11_firstFor 62 = .ok (.goto (-59), 3) := by decide +kernel
theorem dX11_firstFor_65 : decode cX11_firstFor 65 = .ok (.iconst 0, 1) := by decide +kernel
theorem dX11_firstFor_66 : decode cX11_firstFor 66 = .ok (.istore 4, 2) := by decide +kernel
theorem dX11_firstFor_68 : decode cX11_firstFor 68 = .ok (.iload 4, 2) := by decide +kernel
theorem dX11_firstFor_70 : decode cX11_firstFor 70 = .ok (.bipush 12, 2) := by decide +kernel
theorem dX11_firstFor_72 : decode cX11_firstFor 72 = .ok (.if_icmp .ge 46, 3) := by decide +kernel
theorem dX11_firstFor_75 : decode cX11_firstFor 75 = .ok (.aload_n 0, 1) := by decide +kernel
theorem dX11_firstFor_76 : decode cX11_firstFor 76 = .ok (.bipush 8, 2) := by decide +kernel
theorem dX11_firstFor_78 : decode cX11_firstFor 78 = .ok (.iload 4, 2) := by decide +kernel
theorem dX11_firstFor_80 : decode cX11_firstFor 80 = .ok (.iconst 3, 1) := by decide +kernel
theorem dX11_firstFor_81 : decode cX11_firstFor 81 = .ok (.idiv, 1) := by decide +kernel
theorem dX11_firstFor_82 : decode cX11_firstFor 82 = .ok (.iadd, 1) := by decide +kernel
theorem dX11_firstFor_83 : decode cX11_firstFor 83 = .ok (.iload 4, 2) := by decide +kernel
theorem dX11_firstFor_85 : decode cX11_firstFor 85 = .ok (.iconst 3, 1) := by decide +kernel
theorem dX11_firstFor_86 : decode cX11_firstFor 86 = .ok (.irem, 1) := by decide +kernel
theorem dX11_firstFor_87 : decode cX11_firstFor 87 = .ok (.iload_n 1, 1) := by decide +kernel
theorem dX11_firstFor_88 : decode cX11_firstFor 88 = .ok (.iload_n 2, 1) := by decide +kernel
theorem dX11_firstFor_89 : decode cX11_firstFor 89 = .ok (.iload_n 3, 1) := by decide +kernel
theorem dX11_firstFor_90 : decode cX11_firstFor 90 = .ok (.invokevirtual 175, 3) := by decide +kernel
theorem dX11_firstFor_93 : decode cX11_firstFor 93 = .ok (.ifCond .eq 19, 3) := by decide +kernel
theorem dX11_firstFor_96 : decode cX11_firstFor 96 = .ok (.bipush 100, 2) := by decide +kernel
theorem dX11_firstFor_98 : decode cX11_firstFor 98 = .ok (.bipush 10, 2) := by decide +kernel
theorem dX11_firstFor_100 : decode cX11_firstFor 100 = .ok (.iload 4, 2) := by decide +kernel
theorem dX11_firstFor_102 : decode cX11_firstFor 102 = .ok (.iconst 3, 1) := by decide +kernel
theorem dX11_firstFor_103 : decode cX11_firstFor 103 = .ok (.idiv, 1) := by decide +kernel
theorem dX11_firstFor_104 : decode cX11_firstFor 104 = .ok (.imul, 1) := by decide +kernel
theorem dX11_firstFor_105 : decode cX11_firstFor 105 = .ok (.iadd, 1) := by decide +kernel
theorem dX11_firstFor_106 : decode cX11_firstFor 106 = .ok (.iload 4, 2) := by decide +kernel
theorem dX11_firstFor_108 : decode cX11_firstFor 108 = .ok (.iconst 3, 1) := by decide +kernel
theorem dX11_firstFor_109 : decode cX11_firstFor 109 = .ok (.irem, 1) := by decide +kernel
theorem dX11_firstFor_110 : decode cX11_firstFor 110 = .ok (.iadd, 1) := by decide +kernel
theorem dX11_firstFor_111 : decode cX11_firstFor 111 = .ok (.ireturn, 1) := by decide +kernel
theorem dX11_firstFor_112 : decode cX11_firstFor 112 = .ok (.iinc 4 1, 3) := by decide +kernel
theorem dX11_firstFor_115 : decode cX11_firstFor 115 = .ok (.goto (-47), 3) := by decide +kernel
theorem dX11_firstFor_118 : decode cX11_firstFor 118 = .ok (.bipush (-6), 2) := by decide +kernel
theorem dX11_firstFor_120 : decode cX11_firstFor 120 = .ok (.ireturn, 1) := by decide +kernel
theorem dX11_firstPart_0 : decode cX11_firstPart 0 = .ok (.iconst 0, 1) := by decide +kernel
theorem dX11_firstPart_1 : decode cX11_firstPart 1 = .ok (.istore 4, 2) := by decide +kernel
theorem dX11_firstPart_3 : decode cX11_firstPart 3 = .ok (.iload 4, 2) := by decide +kernel
theorem dX11_firstPart_5 : decode cX11_firstPart 5 = .ok (.sipush 256, 3) := by decide +kernel
theorem dX11_firstPart_8 : decode cX11_firstPart 8 = .ok (.if_icmp .ge 57, 3) := by decide +kernel
theorem dX11_firstPart_11 : decode cX11_firstPart 11 = .ok (.iload 4, 2) := by decide +kernel
theorem dX11_firstPart_13 : decode cX11_firstPart 13 = .ok (.iload_n 2, 1) := by decide +kernel
theorem dX11_firstPart_14 : decode cX11_firstPart 14 = .ok (.iconst (-1), 1) := by decide +kernel
theorem dX11_firstPart_15 : decode cX11_firstPart 15 = .ok (.ixor, 1) := by decide +kernel
theorem dX11_firstPart_16 : decode cX11_firstPart 16 = .ok (.iand, 1) := by decide +kernel
theorem dX11_firstPart_17 : decode cX11_firstPart 17 = .ok (.ifCond .ne 42, 3) := by decide +kernel
theorem dX11_firstPart_20 : decode cX11_firstPart 20 = .ok (.aload_n 0, 1) := by decide +kernel
theorem dX11_firstPart_21 : decode cX11_firstPart 21 = .ok (.aload_n 0, 1) := by decide +kernel
theorem dX11_firstPart_22 : decode cX11_firstPart 22 = .ok (.getfield 26, 3) := by decide +kernel
theorem dX11_firstPart_25 : decode cX11_firstPart 25 = .ok (.iload_n 1, 1) := by decide +kernel
theorem dX11_firstPart_26 : decode cX11_firstPart 26 = .ok (.iaload, 1) := by decide +kernel
theorem dX11_firstPart_27 : decode cX11_firstPart 27 = .ok (.iload 4, 2) := by decide +kernel
theorem dX11_firstPart_29 : decode cX11_firstPart 29 = .ok (.iload_n 3, 1) := by decide +kernel
theorem dX11_firstPart_30 : decode cX11_firstPart 30 = .ok (.invokevirtual 168, 3) := by decide +kernel
theorem dX11_firstPart_33 : decode cX11_firstPart 33 = .ok (.ifCond .eq 26, 3) := by decide +kernel
theorem dX11_firstPart_36 : decode cX11_firstPart 36 = .ok (.aload_n 0, 1) := by decide +kernel
theorem dX11_firstPart_37 : decode cX11_firstPart 37 = .ok (.aload_n 0, 1) := by decide +kernel
theorem dX11_firstPart_38 : decode cX11_firstPart 38 = .ok (.getfield 29, 3) := by decide +kernel
theorem dX11_firstPart_41 : decode cX11_firstPart 41 = .ok (.iload_n 1, 1) := by decide +kernel
theorem dX11_firstPart_42 : decode cX11_firstPart 42 = .ok (.iaload, 1) := by decide +kernel
theorem dX11_firstPart_43 : decode cX11_firstPart 43 = .ok (.iload_n 2, 1) := by decide +kernel
theorem dX11_firstPart_44 : decode cX11_firstPart 44 = .ok (.iload 4, 2) := by decide +kernel
theorem dX11_firstPart_46 : decode cX11_firstPart 46 = .ok (.iconst (-1), 1) := by decide +kernel
theorem dX11_firstPart_47 : decode cX11_firstPart 47 = .ok (.ixor, 1) := by decide +kernel
theorem dX11_firstPart_48 : decode cX11_firstPart 48 = .ok (.iand, 1) := by decide +kernel
theorem dX11_firstPart_49 : decode cX11_firstPart 49 = .ok (.iload_n 3, 1) := by decide +kernel
theorem dX11_firstPart_50 : decode cX11_firstPart 50 = .ok (.invokevirtual 168, 3) := by decide +kernel
theorem dX11_firstPart_53 : decode cX11_firstPart 53 = .ok (.ifCond .eq 6, 3) := by decide +kernel
theorem dX11_firstPart_56 : decode cX11_firstPart 56 = .ok (.iload 4, 2) := by decide +kernel
theorem dX11_firstPart_58 : decode cX11_firstPart 58 = .ok (.ireturn, 1) := by decide +kernel
theorem dX11_firstPart_59 : decode cX11_firstPart 59 = .ok (.iinc 4 1, 3) := by decide +kernel
theorem dX11_firstPart_62 : decode cX11_firstPart 62 = .ok (.goto (-59), 3) := by decide +kernel
theorem dX11_firstPart_65 : decode cX11_firstPart 65 = .ok (.bipush (-6), 2) := by decide +kernel
theorem dX11_firstPart_67 : decode cX11_firstPart 67 = .ok (.ireturn, 1) := by decide +kernel
theorem dX11_isReached_0 : decode cX11_isReached 0 = .ok (.aload_n 0, 1) := by decide +kernel
theorem dX11_isReached_1 : decode cX11_isReached 1 = .ok (.getfield 26, 3) := by decide +kernel
theorem dX11_isReached_4 : decode cX11_isReached 4 = .ok (.iload_n 1, 1) := by decide +kernel
theorem dX11_isReached_5 : decode cX11_isReached 5 = .ok (.iaload, 1) := by decide +kernel
theorem dX11_isReached_6 : decode cX11_isReached 6 = .ok (.istore 4, 2) := by decide +kernel
theorem dX11_isReached_8 : decode cX11_isReached 8 = .ok (.aload_n 0, 1) := by decide +kernel
theorem dX11_isReached_9 : decode cX11_isReached 9 = .ok (.getfield 29, 3) := by decide +kernel
theorem dX11_isReached_12 : decode cX11_isReached 12 = .ok (.iload_n 1, 1) := by decide +kernel
theorem dX11_isReached_13 : decode cX11_isReached 13 = .ok (.iaload, 1) := by decide +kernel
theorem dX11_isReached_14 : decode cX11_isReached 14 = .ok (.istore 5, 2) := by decide +kernel
theorem dX11_isReached_16 : decode cX11_isReached 16 = .ok (.aload_n 0, 1) := by decide +kernel
theorem dX11_isReached_17 : decode cX11_isReached 17 = .ok (.getfield 23, 3) := by decide +kernel
theorem dX11_isReached_20 : decode cX11_isReached 20 = .ok (.iload_n 1, 1) := by decide +kernel
theorem dX11_isReached_21 : decode cX11_isReached 21 = .ok (.iaload, 1) := by decide +kernel
theorem dX11_isReached_22 : decode cX11_isReached 22 = .ok (.tableswitch 164 0 6 #[42, 59, 69, 71, 92, 108, 136], 42) := by decide +kernel
theorem dX11_isReached_64 : decode cX11_isReached 64 = .ok (.aload_n 0, 1) := by decide +kernel
theorem dX11_isReached_65 : decode cX11_isReached 65 = .ok (.iload 4, 2) := by decide +kernel
theorem dX11_isReached_67 : decode cX11_isReached 67 = .ok (.iload_n 2, 1) := by decide +kernel
theorem dX11_isReached_68 : decode cX11_isReached 68 = .ok (.iload_n 3, 1) := by decide +kernel
theorem dX11_isReached_69 : decode cX11_isReached 69 = .ok (.invokevirtual 179, 3) := by decide +kernel
theorem dX11_isReached_72 : decode cX11_isReached 72 = .ok (.ifCond .lt 7, 3) := by decide +kernel
theorem dX11_isReached_75 : decode cX11_isReached 75 = .ok (.iconst 1, 1) := by decide +kernel
theorem dX11_isReached_76 : decode cX11_isReached 76 = .ok (.goto 4, 3) := by decide +kernel
theorem dX11_isReached_79 : decode cX11_isReached 79 = .ok (.iconst 0, 1) := by decide +kernel
theorem dX11_isReached_80 : decode cX11_isReached 80 = .ok (.ireturn, 1) := by decide +kernel
theorem dX11_isReached_81 : decode cX11_isReached 81 = .ok (.iload_n 2, 1) := by decide +kernel
theorem dX11_isReached_82 : decode cX11_isReached 82 = .ok (.ifCond .ne 7, 3) := by decide +kernel
theorem dX11_isReached_85 : decode cX11_isReached 85 = .ok (.iconst 1, 1) := by decide +kernel
theorem dX11_isReached_86 : decode cX11_isReached 86 = .ok (.goto 4, 3) := by decide +kernel
theorem dX11_isReached_89 : decode cX11_isReached 89 = .ok (.iconst 0, 1) := by decide +kernel
theorem dX11_isReached_90 : decode cX11_isReached 90 = .ok (.ireturn, 1) := by decide +kernel
theorem dX11_isReached_91 : decode cX11_isReached 91 = .ok (.iconst 1, 1) := by decide +kernel
theorem dX11_isReached_92 : decode cX11_isReached 92 = .ok (.ireturn, 1) := by decide +kernel
theorem dX11_isReached_93 : decode cX11_isReached 93 = .ok (.iload_n 2, 1) := by decide +kernel
theorem dX11_isReached_94 : decode cX11_isReached 94 = .ok (.ifCond .ne 18, 3) := by decide +kernel
theorem dX11_isReached_97 : decode cX11_isReached 97 = .ok (.aload_n 0, 1) := by decide +kernel
theorem dX11_isReached_98 : decode cX11_isReached 98 = .ok (.iload 4, 2) := by decide +kernel
theorem dX11_isReached_100 : decode cX11_isReached 100 = .ok (.iconst 0, 1) := by decide +kernel
theorem dX11_isReached_101 : decode cX11_isReached 101 = .ok (.iload_n 3, 1) := by decide +kernel
theorem dX11_isReached_102 : decode cX11_isReached 102 = .ok (.invokevirtual 168, 3) := by decide +kernel
theorem dX11_isReached_105 : decode cX11_isReached 105 = .ok (.ifCond .eq 7, 3) := by decide +kernel
theorem dX11_isReached_108 : decode cX11_isReached 108 = .ok (.iconst 1, 1) := by decide +kernel
theorem dX11_isReached_109 : decode cX11_isReached 109 = .ok (.goto 4, 3) := by decide +kernel
theorem dX11_isReached_112 : decode cX11_isReached 112 = .ok (.iconst 0, 1) := by decide +kernel
theorem dX11_isReached_113 : decode cX11_isReached 113 = .ok (.ireturn, 1) := by decide +kernel
theorem dX11_isReached_114 : decode cX11_isReached 114 = .ok (.aload_n 0, 1) := by decide +kernel
theorem dX11_isReached_115 : decode cX11_isReached 115 = .ok (.iload_n 1, 1) := by decide +kernel
theorem dX11_isReached_116 : decode cX11_isReached 116 = .ok (.iload_n 2, 1) := by decide +kernel
theorem dX11_isReached_117 : decode cX11_isReached 117 = .ok (.iload_n 3, 1) := by decide +kernel
theorem dX11_isReached_118 : decode cX11_isReached 118 = .ok (.invokevirtual 183, 3) := by decide +kernel
theorem dX11_isReached_121 : decode cX11_isReached 121 = .ok (.ifCond .lt 7, 3) := by decide +kernel
theorem dX11_isReached_124 : decode cX11_isReached 124 = .ok (.iconst 1, 1) := by decide +kernel
theorem dX11_isReached_125 : decode cX11_isReached 125 = .ok (.goto 4, 3) := by decide +kernel
theorem dX11_isReached_128 : decode cX11_isReached 128 = .ok (.iconst 0, 1) := by decide +kernel
theorem dX11_isReached_129 : decode cX11_isReached 129 = .ok (.ireturn, 1) := by decide +kernel
theorem dX11_isReached_130 : decode cX11_isReached 130 = .ok (.aload_n 0, 1) := by decide +kernel
theorem dX11_isReached_131 : decode cX11_isReached 131 = .ok (.iload 4, 2) := by decide +kernel
theorem dX11_isReached_133 : decode cX11_isReached 133 = .ok (.iload_n 2, 1) := by decide +kernel
theorem dX11_isReached_134 : decode cX11_isReached 134 = .ok (.iload_n 3, 1) := by decide +kernel
theorem dX11_isReached_135 : decode cX11_isReached 135 = .ok (.invokevirtual 168, 3) := by decide +kernel
theorem dX11_isReached_138 : decode cX11_isReached 138 = .ok (.ifCond .eq 18, 3) := by decide +kernel
theorem dX11_isReached_141 : decode cX11_isReached 141 = .ok (.aload_n 0, 1) := by decide +kernel
theorem dX11_isReached_142 : decode cX11_isReached 142 = .ok (.iload 5, 2) := by decide +kernel
theorem dX11_isReached_144 : decode cX11_isReached 144 = .ok (.iload_n 2, 1) := by decide +kernel
theorem dX11_isReached_145 : decode cX11_isReached 145 = .ok (.iload_n 3, 1) := by decide +kernel
theorem dX11_isReached_146 : decode cX11_isReached 146 = .ok (.invokevirtual 168, 3) := by decide +kernel
theorem dX11_isReached_149 : decode cX11_isReached 149 = .ok (.ifCond .eq 7, 3) := by decide +kernel
theorem dX11_isReached_152 : decode cX11_isReached 152 = .ok (.iconst 1, 1) := by decide +kernel
theorem dX11_isReached_153 : decode cX11_isReached 153 = .ok (.goto 4, 3) := by decide +kernel
theorem dX11_isReached_156 : decode cX11_isReached 156 = .ok (.iconst 0, 1) := by decide +kernel
theorem dX11_isReached_157 : decode cX11_isReached 157 = .ok (.ireturn, 1) := by decide +kernel
theorem dX11_isReached_158 : decode cX11_isReached 158 = .ok (.aload_n 0, 1) := by decide +kernel
theorem dX11_isReached_159 : decode cX11_isReached 159 = .ok (.iload 4, 2) := by decide +kernel
theorem dX11_isReached_161 : decode cX11_isReached 161 = .ok (.iload_n 2, 1) := by decide +kernel
theorem dX11_isReached_162 : decode cX11_isReached 162 = .ok (.iload_n 3, 1) := by decide +kernel
theorem dX11_isReached_163 : decode cX11_isReached 163 = .ok (.invokevirtual 168, 3) := by decide +kernel
theorem dX11_isReached_166 : decode cX11_isReached 166 = .ok (.ifCond .ne 14, 3) := by decide +kernel
theorem dX11_isReached_169 : decode cX11_isReached 169 = .ok (.aload_n 0, 1) := by decide +kernel
theorem dX11_isReached_170 : decode cX11_isReached 170 = .ok (.iload 5, 2) := by decide +kernel
theorem dX11_isReached_172 : decode cX11_isReached 172 = .ok (.iload_n 2, 1) := by decide +kernel
theorem dX11_isReached_173 : decode cX11_isReached 173 = .ok (.iload_n 3, 1) := by decide +kernel
theorem dX11_isReached_174 : decode cX11_isReached 174 = .ok (.invokevirtual 168, 3) := by decide +kernel
theorem dX11_isReached_177 : decode cX11_isReached 177 = .ok (.ifCond .eq 7, 3) := by decide +kernel
theorem dX11_isReached_180 : decode cX11_isReached 180 = .ok (.iconst 1, 1) := by decide +kernel
theorem dX11_isReached_181 : decode cX11_isReached 181 = .ok (.goto 4, 3) := by decide +kernel
theorem dX11_isReached_184 : decode cX11_isReached 184 = .ok (.iconst 0, 1) := by decide +kernel
theorem dX11_isReached_185 : decode cX11_isReached 185 = .ok (.ireturn, 1) := by decide +kernel
theorem dX11_isReached_186 : decode cX11_isReached 186 = .ok (.iload_n 2, 1) := by decide +kernel
theorem dX11_isReached_187 : decode cX11_isReached 187 = .ok (.iload 5, 2) := by decide +kernel
theorem dX11_isReached_189 : decode cX11_isReached 189 = .ok (.invokestatic 171, 3) := by decide +kernel
theorem dX11_isReached_192 : decode cX11_isReached 192 = .ok (.ifCond .ne 23, 3) := by decide +kernel
theorem dX11_isReached_195 : decode cX11_isReached 195 = .ok (.aload_n 0, 1) := by decide +kernel
theorem dX11_isReached_196 : decode cX11_isReached 196 = .ok (.iload 4, 2) := by decide +kernel
theorem dX11_isReached_198 : decode cX11_isReached 198 = .ok (.iload_n 2, 1) := by decide +kernel
theorem dX11_isReached_199 : decode cX11_isReached 199 = .ok (.iconst 1, 1) := by decide +kernel
theorem dX11_isReached_200 : decode cX11_isReached 200 = .ok (.iload 5, 2) := by decide +kernel
theorem dX11_isReached_202 : decode cX11_isReached 202 = .ok (.ishl, 1) := by decide +kernel
theorem dX11_isReached_203 : decode cX11_isReached 203 = .ok (.ior, 1) := by decide +kernel
theorem dX11_isReached_204 : decode cX11_isReached 204 = .ok (.iload_n 3, 1) := by decide +kernel
theorem dX11_isReached_205 : decode cX11_isReached 205 = .ok (.invokevirtual 168, 3) := by decide +kernel
theorem dX11_isReached_208 : decode cX11_isReached 208 = .ok (.ifCond .eq 7, 3) := by decide +kernel
theorem dX11_isReached_211 : decode cX11_isReached 211 = .ok (.iconst 1, 1) := by decide +kernel
theorem dX11_isReached_212 : decode cX11_isReached 212 = .ok (.goto 4, 3) := by decide +kernel
theorem dX11_isReached_215 : decode cX11_isReached 215 = .ok (.iconst 0, 1) := by decide +kernel
theorem dX11_isReached_216 : decode cX11_isReached 216 = .ok (.ireturn, 1) := by decide +kernel
theorem dX11_isGoal_0 : decode cX11_isGoal 0 = .ok (.aload_n 0, 1) := by decide +kernel
theorem dX11_isGoal_1 : decode cX11_isGoal 1 = .ok (.getfield 13, 3) := by decide +kernel
theorem dX11_isGoal_4 : decode cX11_isGoal 4 = .ok (.iconst 0, 1) := by decide +kernel
theorem dX11_isGoal_5 : decode cX11_isGoal 5 = .ok (.iaload, 1) := by decide +kernel
theorem dX11_isGoal_6 : decode cX11_isGoal 6 = .ok (.ifCond .lt 7, 3) := by decide +kernel
theorem dX11_isGoal_9 : decode cX11_isGoal 9 = .ok (.iconst 1, 1) := by decide +kernel
theorem dX11_isGoal_10 : decode cX11_isGoal 10 = .ok (.goto 4, 3) := by decide +kernel
theorem dX11_isGoal_13 : decode cX11_isGoal 13 = .ok (.iconst 0, 1) := by decide +kernel
theorem dX11_isGoal_14 : decode cX11_isGoal 14 = .ok (.ireturn, 1) := by decide +kernel
theorem dX11_all_0 : decode cX11_all 0 = .ok (.aload_n 0, 1) := by decide +kernel
theorem dX11_all_1 : decode cX11_all 1 = .ok (.iconst 1, 1) := by decide +kernel
theorem dX11_all_2 : decode cX11_all 2 = .ok (.iconst 5, 1) := by decide +kernel
theorem dX11_all_3 : decode cX11_all 3 = .ok (.invokevirtual 159, 3) := by decide +kernel
theorem dX11_all_6 : decode cX11_all 6 = .ok (.ireturn, 1) := by decide +kernel
theorem dX11_heightOf_0 : decode cX11_heightOf 0 = .ok (.aload_n 0, 1) := by decide +kernel
theorem dX11_heightOf_1 : decode cX11_heightOf 1 = .ok (.getfield 57, 3) := by decide +kernel
theorem dX11_heightOf_4 : decode cX11_heightOf 4 = .ok (.sipush 256, 3) := by decide +kernel
theorem dX11_heightOf_7 : decode cX11_heightOf 7 = .ok (.aload_n 0, 1) := by decide +kernel
theorem dX11_heightOf_8 : decode cX11_heightOf 8 = .ok (.getfield 98, 3) := by decide +kernel
theorem dX11_heightOf_11 : decode cX11_heightOf 11 = .ok (.imul, 1) := by decide +kernel
theorem dX11_heightOf_12 : decode cX11_heightOf 12 = .ok (.iload_n 1, 1) := by decide +kernel
theorem dX11_heightOf_13 : decode cX11_heightOf 13 = .ok (.iadd, 1) := by decide +kernel
theorem dX11_heightOf_14 : decode cX11_heightOf 14 = .ok (.iaload, 1) := by decide +kernel
theorem dX11_heightOf_15 : decode cX11_heightOf 15 = .ok (.ifCond .ne 8, 3) := by decide +kernel
theorem dX11_heightOf_18 : decode cX11_heightOf 18 = .ok (.bipush (-6), 2) := by decide +kernel
theorem dX11_heightOf_20 : decode cX11_heightOf 20 = .ok (.goto 18, 3) := by decide +kernel
theorem dX11_heightOf_23 : decode cX11_heightOf 23 = .ok (.aload_n 0, 1) := by decide +kernel
theorem dX11_heightOf_24 : decode cX11_heightOf 24 = .ok (.getfield 57, 3) := by decide +kernel
theorem dX11_heightOf_27 : decode cX11_heightOf 27 = .ok (.sipush 256, 3) := by decide +kernel
theorem dX11_heightOf_30 : decode cX11_heightOf 30 = .ok (.aload_n 0, 1) := by decide +kernel
theorem dX11_heightOf_31 : decode cX11_heightOf 31 = .ok (.getfield 98, 3) := by decide +kernel
theorem dX11_heightOf_34 : decode cX11_heightOf 34 = .ok (.imul, 1) := by decide +kernel
theorem dX11_heightOf_35 : decode cX11_heightOf 35 = .ok (.iload_n 1, 1) := by decide +kernel
theorem dX11_heightOf_36 : decode cX11_heightOf 36 = .ok (.iadd, 1) := by decide +kernel
theorem dX11_heightOf_37 : decode cX11_heightOf 37 = .ok (.iaload, 1) := by decide +kernel
theorem dX11_heightOf_38 : decode cX11_heightOf 38 = .ok (.ireturn, 1) := by decide +kernel
theorem dX11_areThere_0 : decode cX11_areThere 0 = .ok (.iload_n 1, 1) := by decide +kernel
theorem dX11_areThere_1 : decode cX11_areThere 1 = .ok (.ifCond .lt 18, 3) := by decide +kernel
theorem dX11_areThere_4 : decode cX11_areThere 4 = .ok (.iload_n 1, 1) := by decide +kernel
theorem dX11_areThere_5 : decode cX11_areThere 5 = .ok (.aload_n 0, 1) := by decide +kernel
theorem dX11_areThere_6 : decode cX11_areThere 6 = .ok (.invokevirtual 186, 3) := by decide +kernel
theorem dX11_areThere_9 : decode cX11_areThere 9 = .ok (.iconst (-1), 1) := by decide +kernel
theorem dX11_areThere_10 : decode cX11_areThere 10 = .ok (.ixor, 1) := by decide +kernel
theorem dX11_areThere_11 : decode cX11_areThere 11 = .ok (.iand, 1) := by decide +kernel
theorem dX11_areThere_12 : decode cX11_areThere 12 = .ok (.ifCond .ne 7, 3) := by decide +kernel
theorem dX11_areThere_15 : decode cX11_areThere 15 = .ok (.iconst 1, 1) := by decide +kernel
theorem dX11_areThere_16 : decode cX11_areThere 16 = .ok (.goto 4, 3) := by decide +kernel
theorem dX11_areThere_19 : decode cX11_areThere 19 = .ok (.iconst 0, 1) := by decide +kernel
theorem dX11_areThere_20 : decode cX11_areThere 20 = .ok (.ireturn, 1) := by decide +kernel
theorem dX11_height_0 : decode cX11_height 0 = .ok (.aload_n 0, 1) := by decide +kernel
theorem dX11_height_1 : decode cX11_height 1 = .ok (.iload_n 1, 1) := by decide +kernel
theorem dX11_height_2 : decode cX11_height 2 = .ok (.invokevirtual 190, 3) := by decide +kernel
theorem dX11_height_5 : decode cX11_height 5 = .ok (.ifCond .ne 5, 3) := by decide +kernel
theorem dX11_height_8 : decode cX11_height 8 = .ok (.iconst (-1), 1) := by decide +kernel
theorem dX11_height_9 : decode cX11_height 9 = .ok (.ireturn, 1) := by decide +kernel
theorem dX11_height_10 : decode cX11_height 10 = .ok (.aload_n 0, 1) := by decide +kernel
theorem dX11_height_11 : decode cX11_height 11 = .ok (.invokevirtual 193, 3) := by decide +kernel
theorem dX11_height_14 : decode cX11_height 14 = .ok (.ifCond .ne 6, 3) := by decide +kernel
theorem dX11_height_17 : decode cX11_height 17 = .ok (.bipush (-3), 2) := by decide +kernel
theorem dX11_height_19 : decode cX11_height 19 = .ok (.ireturn, 1) := by decide +kernel
theorem dX11_height_20 : decode cX11_height 20 = .ok (.aload_n 0, 1) := by decide +kernel
theorem dX11_height_21 : decode cX11_height 21 = .ok (.invokevirtual 197, 3) := by decide +kernel
theorem dX11_height_24 : decode cX11_height 24 = .ok (.aload_n 0, 1) := by decide +kernel
theorem dX11_height_25 : decode cX11_height 25 = .ok (.iload_n 1, 1) := by decide +kernel
theorem dX11_height_26 : decode cX11_height 26 = .ok (.invokevirtual 200, 3) := by decide +kernel
theorem dX11_height_29 : decode cX11_height 29 = .ok (.ireturn, 1) := by decide +kernel
theorem dX11_left_0 : decode cX11_left 0 = .ok (.iload_n 1, 1) := by decide +kernel
theorem dX11_left_1 : decode cX11_left 1 = .ok (.iconst 0, 1) := by decide +kernel
theorem dX11_left_2 : decode cX11_left 2 = .ok (.bipush 10, 2) := by decide +kernel
theorem dX11_left_4 : decode cX11_left 4 = .ok (.invokestatic 104, 3) := by decide +kernel
theorem dX11_left_7 : decode cX11_left 7 = .ok (.ifCond .eq 8, 3) := by decide +kernel
theorem dX11_left_10 : decode cX11_left 10 = .ok (.iload_n 2, 1) := by decide +kernel
theorem dX11_left_11 : decode cX11_left 11 = .ok (.iconst (-1), 1) := by decide +kernel
theorem dX11_left_12 : decode cX11_left 12 = .ok (.if_icmp .ge 6, 3) := by decide +kernel
theorem dX11_left_15 : decode cX11_left 15 = .ok (.bipush (-2), 2) := by decide +kernel
theorem dX11_left_17 : decode cX11_left 17 = .ok (.ireturn, 1) := by decide +kernel
theorem dX11_left_18 : decode cX11_left 18 = .ok (.aload_n 0, 1) := by decide +kernel
theorem dX11_left_19 : decode cX11_left 19 = .ok (.invokevirtual 193, 3) := by decide +kernel
theorem dX11_left_22 : decode cX11_left 22 = .ok (.ifCond .ne 6, 3) := by decide +kernel
theorem dX11_left_25 : decode cX11_left 25 = .ok (.bipush (-3), 2) := by decide +kernel
theorem dX11_left_27 : decode cX11_left 27 = .ok (.ireturn, 1) := by decide +kernel
theorem dX11_left_28 : decode cX11_left 28 = .ok (.aload_n 0, 1) := by decide +kernel
theorem dX11_left_29 : decode cX11_left 29 = .ok (.invokevirtual 197, 3) := by decide +kernel
theorem dX11_left_32 : decode cX11_left 32 = .ok (.iconst 0, 1) := by decide +kernel
theorem dX11_left_33 : decode cX11_left 33 = .ok (.istore_n 3, 1) := by decide +kernel
theorem dX11_left_34 : decode cX11_left 34 = .ok (.iconst 0, 1) := by decide +kernel
theorem dX11_left_35 : decode cX11_left 35 = .ok (.istore 4, 2) := by decide +kernel
theorem dX11_left_37 : decode cX11_left 37 = .ok (.iload 4, 2) := by decide +kernel
theorem dX11_left_39 : decode cX11_left 39 = .ok (.bipush 32, 2) := by decide +kernel
theorem dX11_left_41 : decode cX11_left 41 = .ok (.if_icmp .ge 55, 3) := by decide +kernel
theorem dX11_left_44 : decode cX11_left 44 = .ok (.iload 4, 2) := by decide +kernel
theorem dX11_left_46 : decode cX11_left 46 = .ok (.aload_n 0, 1) := by decide +kernel
theorem dX11_left_47 : decode cX11_left 47 = .ok (.invokevirtual 186, 3) := by decide +kernel
theorem dX11_left_50 : decode cX11_left 50 = .ok (.iconst (-1), 1) := by decide +kernel
theorem dX11_left_51 : decode cX11_left 51 = .ok (.ixor, 1) := by decide +kernel
theorem dX11_left_52 : decode cX11_left 52 = .ok (.iand, 1) := by decide +kernel
theorem dX11_left_53 : decode cX11_left 53 = .ok (.ifCond .ne 37, 3) := by decide +kernel
theorem dX11_left_56 : decode cX11_left 56 = .ok (.aload_n 0, 1) := by decide +kernel
theorem dX11_left_57 : decode cX11_left 57 = .ok (.aload_n 0, 1) := by decide +kernel
theorem dX11_left_58 : decode cX11_left 58 = .ok (.getfield 98, 3) := by decide +kernel
theorem dX11_left_61 : decode cX11_left 61 = .ok (.aload_n 0, 1) := by decide +kernel
theorem dX11_left_62 : decode cX11_left 62 = .ok (.invokevirtual 186, 3) := by decide +kernel
theorem dX11_left_65 : decode cX11_left 65 = .ok (.iload 4, 2) := by decide +kernel
theorem dX11_left_67 : decode cX11_left 67 = .ok (.iconst (-1), 1) := by decide +kernel
theorem dX11_left_68 : decode cX11_left 68 = .ok (.ixor, 1) := by decide +kernel
theorem dX11_left_69 : decode cX11_left 69 = .ok (.iand, 1) := by decide +kernel
theorem dX11_left_70 : decode cX11_left 70 = .ok (.iload_n 1, 1) := by decide +kernel
theorem dX11_left_71 : decode cX11_left 71 = .ok (.iconst 1, 1) := by decide +kernel
theorem dX11_left_72 : decode cX11_left 72 = .ok (.iadd, 1) := by decide +kernel
theorem dX11_left_73 : decode cX11_left 73 = .ok (.invokevirtual 168, 3) := by decide +kernel
theorem dX11_left_76 : decode cX11_left 76 = .ok (.ifCond .eq 14, 3) := by decide +kernel
theorem dX11_left_79 : decode cX11_left 79 = .ok (.iload_n 3, 1) := by decide +kernel
theorem dX11_left_80 : decode cX11_left 80 = .ok (.iload_n 2, 1) := by decide +kernel
theorem dX11_left_81 : decode cX11_left 81 = .ok (.if_icmp .ne 6, 3) := by decide +kernel
theorem dX11_left_84 : decode cX11_left 84 = .ok (.iload 4, 2) := by decide +kernel
theorem dX11_left_86 : decode cX11_left 86 = .ok (.ireturn, 1) := by decide +kernel
theorem dX11_left_87 : decode cX11_left 87 = .ok (.iinc 3 1, 3) := by decide +kernel
theorem dX11_left_90 : decode cX11_left 90 = .ok (.iinc 4 1, 3) := by decide +kernel
theorem dX11_left_93 : decode cX11_left 93 = .ok (.goto (-56), 3) := by decide +kernel
theorem dX11_left_96 : decode cX11_left 96 = .ok (.iload_n 2, 1) := by decide +kernel
theorem dX11_left_97 : decode cX11_left 97 = .ok (.iconst (-1), 1) := by decide +kernel
theorem dX11_left_98 : decode cX11_left 98 = .ok (.if_icmp .ne 7, 3) := by decide +kernel
theorem dX11_left_101 : decode cX11_left 101 = .ok (.iload_n 3, 1) := by decide +kernel
theorem dX11_left_102 : decode cX11_left 102 = .ok (.goto 5, 3) := by decide +kernel
theorem dX11_left_105 : decode cX11_left 105 = .ok (.bipush (-6), 2) := by decide +kernel
theorem dX11_left_107 : decode cX11_left 107 = .ok (.ireturn, 1) := by decide +kernel
theorem dX11_capped_0 : decode cX11_capped 0 = .ok (.lload_n 0, 1) := by decide +kernel
theorem dX11_capped_1 : decode cX11_capped 1 = .ok (.ldc2_w 203, 3) := by decide +kernel
theorem dX11_capped_4 : decode cX11_capped 4 = .ok (.lcmp, 1) := by decide +kernel
theorem dX11_capped_5 : decode cX11_capped 5 = .ok (.ifCond .le 9, 3) := by decide +kernel
theorem dX11_capped_8 : decode cX11_capped 8 = .ok (.ldc2_w 203, 3) := by decide +kernel
theorem dX11_capped_11 : decode cX11_capped 11 = .ok (.goto 4, 3) := by decide +kernel
theorem dX11_capped_14 : decode cX11_capped 14 = .ok (.lload_n 0, 1) := by decide +kernel
theorem dX11_capped_15 : decode cX11_capped 15 = .ok (.lreturn, 1) := by decide +kernel
theorem dX11_waysBelow_0 : decode cX11_waysBelow 0 = .ok (.aload_n 0, 1) := by decide +kernel
theorem dX11_waysBelow_1 : decode cX11_waysBelow 1 = .ok (.getfield 60, 3) := by decide +kernel
theorem dX11_waysBelow_4 : decode cX11_waysBelow 4 = .ok (.sipush 256, 3) := by decide +kernel
theorem dX11_waysBelow_7 : decode cX11_waysBelow 7 = .ok (.iload_n 1, 1) := by decide +kernel
theorem dX11_waysBelow_8 : decode cX11_waysBelow 8 = .ok (.imul, 1) := by decide +kernel
theorem dX11_waysBelow_9 : decode cX11_waysBelow 9 = .ok (.iload_n 2, 1) := by decide +kernel
theorem dX11_waysBelow_10 : decode cX11_waysBelow 10 = .ok (.iadd, 1) := by decide +kernel
theorem dX11_waysBelow_11 : decode cX11_waysBelow 11 = .ok (.laload, 1) := by decide +kernel
theorem dX11_waysBelow_12 : decode cX11_waysBelow 12 = .ok (.lreturn, 1) := by decide +kernel
theorem dX11_waysBy_0 : decode cX11_waysBy 0 = .ok (.lconst 0, 1) := by decide +kernel
theorem dX11_waysBy_1 : decode cX11_waysBy 1 = .ok (.lstore 4, 2) := by decide +kernel
theorem dX11_waysBy_3 : decode cX11_waysBy 3 = .ok (.iconst 0, 1) := by decide +kernel
theorem dX11_waysBy_4 : decode cX11_waysBy 4 = .ok (.istore 6, 2) := by decide +kernel
theorem dX11_waysBy_6 : decode cX11_waysBy 6 = .ok (.iload 6, 2) := by decide +kernel
theorem dX11_waysBy_8 : decode cX11_waysBy 8 = .ok (.aload_n 0, 1) := by decide +kernel
theorem dX11_waysBy_9 : decode cX11_waysBy 9 = .ok (.getfield 32, 3) := by decide +kernel
theorem dX11_waysBy_12 : decode cX11_waysBy 12 = .ok (.iload_n 1, 1) := by decide +kernel
theorem dX11_waysBy_13 : decode cX11_waysBy 13 = .ok (.iaload, 1) := by decide +kernel
theorem dX11_waysBy_14 : decode cX11_waysBy 14 = .ok (.if_icmp .ge 67, 3) := by decide +kernel
theorem dX11_waysBy_17 : decode cX11_waysBy 17 = .ok (.iconst 3, 1) := by decide +kernel
theorem dX11_waysBy_18 : decode cX11_waysBy 18 = .ok (.iload_n 1, 1) := by decide +kernel
theorem dX11_waysBy_19 : decode cX11_waysBy 19 = .ok (.imul, 1) := by decide +kernel
theorem dX11_waysBy_20 : decode cX11_waysBy 20 = .ok (.iload 6, 2) := by decide +kernel
theorem dX11_waysBy_22 : decode cX11_waysBy 22 = .ok (.iadd, 1) := by decide +kernel
theorem dX11_waysBy_23 : decode cX11_waysBy 23 = .ok (.istore 7, 2) := by decide +kernel
theorem dX11_waysBy_25 : decode cX11_waysBy 25 = .ok (.aload_n 0, 1) := by decide +kernel
theorem dX11_waysBy_26 : decode cX11_waysBy 26 = .ok (.getfield 35, 3) := by decide +kernel
theorem dX11_waysBy_29 : decode cX11_waysBy 29 = .ok (.iload 7, 2) := by decide +kernel
theorem dX11_waysBy_31 : decode cX11_waysBy 31 = .ok (.iaload, 1) := by decide +kernel
theorem dX11_waysBy_32 : decode cX11_waysBy 32 = .ok (.iload_n 2, 1) := by decide +kernel
theorem dX11_waysBy_33 : decode cX11_waysBy 33 = .ok (.if_icmp .ne 42, 3) := by decide +kernel
theorem dX11_waysBy_36 : decode cX11_waysBy 36 = .ok (.lload 4, 2) := by decide +kernel
theorem dX11_waysBy_38 : decode cX11_waysBy 38 = .ok (.aload_n 0, 1) := by decide +kernel
theorem dX11_waysBy_39 : decode cX11_waysBy 39 = .ok (.getfield 38, 3) := by decide +kernel
theorem dX11_waysBy_42 : decode cX11_waysBy 42 = .ok (.iload 7, 2) := by decide +kernel
theorem dX11_waysBy_44 : decode cX11_waysBy 44 = .ok (.iaload, 1) := by decide +kernel
theorem dX11_waysBy_45 : decode cX11_waysBy 45 = .ok (.ifCond .ge 15, 3) := by decide +kernel
theorem dX11_waysBy_48 : decode cX11_waysBy 48 = .ok (.iload_n 3, 1) := by decide +kernel
theorem dX11_waysBy_49 : decode cX11_waysBy 49 = .ok (.ifCond .ne 7, 3) := by decide +kernel
theorem dX11_waysBy_52 : decode cX11_waysBy 52 = .ok (.lconst 1, 1) := by decide +kernel
theorem dX11_waysBy_53 : decode cX11_waysBy 53 = .ok (.goto 19, 3) := by decide +kernel
theorem dX11_waysBy_56 : decode cX11_waysBy 56 = .ok (.lconst 0, 1) := by decide +kernel
theorem dX11_waysBy_57 : decode cX11_waysBy 57 = .ok (.goto 15, 3) := by decide +kernel
theorem dX11_waysBy_60 : decode cX11_waysBy 60 = .ok (.aload_n 0, 1) := by decide +kernel
theorem dX11_waysBy_61 : decode cX11_waysBy 61 = .ok (.aload_n 0, 1) := by decide +kernel
theorem dX11_waysBy_62 : decode cX11_waysBy 62 = .ok (.getfield 38, 3) := by decide +kernel
theorem dX11_waysBy_65 : decode cX11_waysBy 65 = .ok (.iload 7, 2) := by decide +kernel
theorem dX11_waysBy_67 : decode cX11_waysBy 67 = .ok (.iaload, 1) := by decide +kernel
theorem dX11_waysBy_68 : decode cX11_waysBy 68 = .ok (.iload_n 3, 1) := by decide +kernel
theorem dX11_waysBy_69 : decode cX11_waysBy 69 = .ok (.invokevirtual 205, 3) := by decide +kernel
theorem dX11_waysBy_72 : decode cX11_waysBy 72 = .ok (.ladd, 1) := by decide +kernel
theorem dX11_waysBy_73 : decode cX11_waysBy 73 = .ok (.lstore 4, 2) := by decide +kernel
theorem dX11_waysBy_75 : decode cX11_waysBy 75 = .ok (.iinc 6 1, 3) := by decide +kernel
theorem dX11_waysBy_78 : decode cX11_waysBy 78 = .ok (.goto (-72), 3) := by decide +kernel
theorem dX11_waysBy_81 : decode cX11_waysBy 81 = .ok (.lload 4, 2) := by decide +kernel
theorem dX11_waysBy_83 : decode cX11_waysBy 83 = .ok (.lreturn, 1) := by decide +kernel
theorem dX11_waysOfAtom_0 : decode cX11_waysOfAtom 0 = .ok (.lconst 0, 1) := by decide +kernel
theorem dX11_waysOfAtom_1 : decode cX11_waysOfAtom 1 = .ok (.lstore_n 3, 1) := by decide +kernel
theorem dX11_waysOfAtom_2 : decode cX11_waysOfAtom 2 = .ok (.iconst 0, 1) := by decide +kernel
theorem dX11_waysOfAtom_3 : decode cX11_waysOfAtom 3 = .ok (.istore 5, 2) := by decide +kernel
theorem dX11_waysOfAtom_5 : decode cX11_waysOfAtom 5 = .ok (.iload 5, 2) := by decide +kernel
theorem dX11_waysOfAtom_7 : decode cX11_waysOfAtom 7 = .ok (.bipush 12, 2) := by decide +kernel
theorem dX11_waysOfAtom_9 : decode cX11_waysOfAtom 9 = .ok (.if_icmp .ge 57, 3) := by decide +kernel
theorem dX11_waysOfAtom_12 : decode cX11_waysOfAtom 12 = .ok (.iload 5, 2) := by decide +kernel
theorem dX11_waysOfAtom_14 : decode cX11_waysOfAtom 14 = .ok (.bipush 7, 2) := by decide +kernel
theorem dX11_waysOfAtom_16 : decode cX11_waysOfAtom 16 = .ok (.if_icmp .le 17, 3) := by decide +kernel
theorem dX11_waysOfAtom_19 : decode cX11_waysOfAtom 19 = .ok (.lload_n 3, 1) := by decide +kernel
theorem dX11_waysOfAtom_20 : decode cX11_waysOfAtom 20 = .ok (.aload_n 0, 1) := by decide +kernel
theorem dX11_waysOfAtom_21 : decode cX11_waysOfAtom 21 = .ok (.iload 5, 2) := by decide +kernel
theorem dX11_waysOfAtom_23 : decode cX11_waysOfAtom 23 = .ok (.iload_n 1, 1) := by decide +kernel
theorem dX11_waysOfAtom_24 : decode cX11_waysOfAtom 24 = .ok (.iload_n 2, 1) := by decide +kernel
theorem dX11_waysOfAtom_25 : decode cX11_waysOfAtom 25 = .ok (.invokevirtual 209, 3) := by decide +kernel
theorem dX11_waysOfAtom_28 : decode cX11_waysOfAtom 28 = .ok (.ladd, 1) := by decide +kernel
theorem dX11_waysOfAtom_29 : decode cX11_waysOfAtom 29 = .ok (.lstore_n 3, 1) := by decide +kernel
theorem dX11_waysOfAtom_30 : decode cX11_waysOfAtom 30 = .ok (.goto 30, 3) := by decide +kernel
theorem dX11_waysOfAtom_33 : decode cX11_waysOfAtom 33 = .ok (.iload_n 2, 1) := by decide +kernel
theorem dX11_waysOfAtom_34 : decode cX11_waysOfAtom 34 = .ok (.iload 5, 2) := by decide +kernel
theorem dX11_waysOfAtom_36 : decode cX11_waysOfAtom 36 = .ok (.invokestatic 171, 3) := by decide +kernel
theorem dX11_waysOfAtom_39 : decode cX11_waysOfAtom 39 = .ok (.ifCond .eq 21, 3) := by decide +kernel
theorem dX11_waysOfAtom_42 : decode cX11_waysOfAtom 42 = .ok (.lload_n 3, 1) := by decide +kernel
theorem dX11_waysOfAtom_43 : decode cX11_waysOfAtom 43 = .ok (.aload_n 0, 1) := by decide +kernel
theorem dX11_waysOfAtom_44 : decode cX11_waysOfAtom 44 = .ok (.iload 5, 2) := by decide +kernel
theorem dX11_waysOfAtom_46 : decode cX11_waysOfAtom 46 = .ok (.iload_n 1, 1) := by decide +kernel
theorem dX11_waysOfAtom_47 : decode cX11_waysOfAtom 47 = .ok (.iload_n 2, 1) := by decide +kernel
theorem dX11_waysOfAtom_48 : decode cX11_waysOfAtom 48 = .ok (.iconst 1, 1) := by decide +kernel
theorem dX11_waysOfAtom_49 : decode cX11_waysOfAtom 49 = .ok (.iload 5, 2) := by decide +kernel
theorem dX11_waysOfAtom_51 : decode cX11_waysOfAtom 51 = .ok (.ishl, 1) := by decide +kernel
theorem dX11_waysOfAtom_52 : decode cX11_waysOfAtom 52 = .ok (.iconst (-1), 1) := by decide +kernel
theorem dX11_waysOfAtom_53 : decode cX11_waysOfAtom 53 = .ok (.ixor, 1) := by decide +kernel
theorem dX11_waysOfAtom_54 : decode cX11_waysOfAtom 54 = .ok (.iand, 1) := by decide +kernel
theorem dX11_waysOfAtom_55 : decode cX11_waysOfAtom 55 = .ok (.invokevirtual 209, 3) := by decide +kernel
theorem dX11_waysOfAtom_58 : decode cX11_waysOfAtom 58 = .ok (.ladd, 1) := by decide +kernel
theorem dX11_waysOfAtom_59 : decode cX11_waysOfAtom 59 = .ok (.lstore_n 3, 1) := by decide +kernel
theorem dX11_waysOfAtom_60 : decode cX11_waysOfAtom 60 = .ok (.iinc 5 1, 3) := by decide +kernel
theorem dX11_waysOfAtom_63 : decode cX11_waysOfAtom 63 = .ok (.goto (-58), 3) := by decide +kernel
theorem dX11_waysOfAtom_66 : decode cX11_waysOfAtom 66 = .ok (.lload_n 3, 1) := by decide +kernel
theorem dX11_waysOfAtom_67 : decode cX11_waysOfAtom 67 = .ok (.lreturn, 1) := by decide +kernel
theorem dX11_waysOfParts_0 : decode cX11_waysOfParts 0 = .ok (.lconst 0, 1) := by decide +kernel
theorem dX11_waysOfParts_1 : decode cX11_waysOfParts 1 = .ok (.lstore_n 3, 1) := by decide +kernel
theorem dX11_waysOfParts_2 : decode cX11_waysOfParts 2 = .ok (.iconst 0, 1) := by decide +kernel
theorem dX11_waysOfParts_3 : decode cX11_waysOfParts 3 = .ok (.istore 5, 2) := by decide +kernel
theorem dX11_waysOfParts_5 : decode cX11_waysOfParts 5 = .ok (.iload 5, 2) := by decide +kernel
theorem dX11_waysOfParts_7 : decode cX11_waysOfParts 7 = .ok (.sipush 256, 3) := by decide +kernel
theorem dX11_waysOfParts_10 : decode cX11_waysOfParts 10 = .ok (.if_icmp .ge 56, 3) := by decide +kernel
theorem dX11_waysOfParts_13 : decode cX11_waysOfParts 13 = .ok (.iload 5, 2) := by decide +kernel
theorem dX11_waysOfParts_15 : decode cX11_waysOfParts 15 = .ok (.iload_n 2, 1) := by decide +kernel
theorem dX11_waysOfParts_16 : decode cX11_waysOfParts 16 = .ok (.iconst (-1), 1) := by decide +kernel
theorem dX11_waysOfParts_17 : decode cX11_waysOfParts 17 = .ok (.ixor, 1) := by decide +kernel
theorem dX11_waysOfParts_18 : decode cX11_waysOfParts 18 = .ok (.iand, 1) := by decide +kernel
theorem dX11_waysOfParts_19 : decode cX11_waysOfParts 19 = .ok (.ifCond .ne 41, 3) := by decide +kernel
theorem dX11_waysOfParts_22 : decode cX11_waysOfParts 22 = .ok (.lload_n 3, 1) := by decide +kernel
theorem dX11_waysOfParts_23 : decode cX11_waysOfParts 23 = .ok (.aload_n 0, 1) := by decide +kernel
theorem dX11_waysOfParts_24 : decode cX11_waysOfParts 24 = .ok (.aload_n 0, 1) := by decide +kernel
theorem dX11_waysOfParts_25 : decode cX11_waysOfParts 25 = .ok (.getfield 26, 3) := by decide +kernel
theorem dX11_waysOfParts_28 : decode cX11_waysOfParts 28 = .ok (.iload_n 1, 1) := by decide +kernel
theorem dX11_waysOfParts_29 : decode cX11_waysOfParts 29 = .ok (.iaload, 1) := by decide +kernel
theorem dX11_waysOfParts_30 : decode cX11_waysOfParts 30 = .ok (.iload 5, 2) := by decide +kernel
theorem dX11_waysOfParts_32 : decode cX11_waysOfParts 32 = .ok (.invokevirtual 205, 3) := by decide +kernel
theorem dX11_waysOfParts_35 : decode cX11_waysOfParts 35 = .ok (.aload_n 0, 1) := by decide +kernel
theorem dX11_waysOfParts_36 : decode cX11_waysOfParts 36 = .ok (.aload_n 0, 1) := by decide +kernel
theorem dX11_waysOfParts_37 : decode cX11_waysOfParts 37 = .ok (.getfield 29, 3) := by decide +kernel
theorem dX11_waysOfParts_40 : decode cX11_waysOfParts 40 = .ok (.iload_n 1, 1) := by decide +kernel
theorem dX11_waysOfParts_41 : decode cX11_waysOfParts 41 = .ok (.iaload, 1) := by decide +kernel
theorem dX11_waysOfParts_42 : decode cX11_waysOfParts 42 = .ok (.iload_n 2, 1) := by decide +kernel
theorem dX11_waysOfParts_43 : decode cX11_waysOfParts 43 = .ok (.iload 5, 2) := by decide +kernel
theorem dX11_waysOfParts_45 : decode cX11_waysOfParts 45 = .ok (.iconst (-1), 1) := by decide +kernel
theorem dX11_waysOfParts_46 : decode cX11_waysOfParts 46 = .ok (.ixor, 1) := by decide +kernel
theorem dX11_waysOfParts_47 : decode cX11_waysOfParts 47 = .ok (.iand, 1) := by decide +kernel
theorem dX11_waysOfParts_48 : decode cX11_waysOfParts 48 = .ok (.invokevirtual 205, 3) := by decide +kernel
theorem dX11_waysOfParts_51 : decode cX11_waysOfParts 51 = .ok (.lmul, 1) := by decide +kernel
theorem dX11_waysOfParts_52 : decode cX11_waysOfParts 52 = .ok (.invokestatic 213, 3) := by decide +kernel
theorem dX11_waysOfParts_55 : decode cX11_waysOfParts 55 = .ok (.ladd, 1) := by decide +kernel
theorem dX11_waysOfParts_56 : decode cX11_waysOfParts 56 = .ok (.invokestatic 213, 3) := by decide +kernel
theorem dX11_waysOfParts_59 : decode cX11_waysOfParts 59 = .ok (.lstore_n 3, 1) := by decide +kernel
theorem dX11_waysOfParts_60 : decode cX11_waysOfParts 60 = .ok (.iinc 5 1, 3) := by decide +kernel
theorem dX11_waysOfParts_63 : decode cX11_waysOfParts 63 = .ok (.goto (-58), 3) := by decide +kernel
theorem dX11_waysOfParts_66 : decode cX11_waysOfParts 66 = .ok (.lload_n 3, 1) := by decide +kernel
theorem dX11_waysOfParts_67 : decode cX11_waysOfParts 67 = .ok (.lreturn, 1) := by decide +kernel
theorem dX11_waysOf_0 : decode cX11_waysOf 0 = .ok (.aload_n 0, 1) := by decide +kernel
theorem dX11_waysOf_1 : decode cX11_waysOf 1 = .ok (.getfield 26, 3) := by decide +kernel
theorem dX11_waysOf_4 : decode cX11_waysOf 4 = .ok (.iload_n 1, 1) := by decide +kernel
theorem dX11_waysOf_5 : decode cX11_waysOf 5 = .ok (.iaload, 1) := by decide +kernel
theorem dX11_waysOf_6 : decode cX11_waysOf 6 = .ok (.istore_n 3, 1) := by decide +kernel
theorem dX11_waysOf_7 : decode cX11_waysOf 7 = .ok (.aload_n 0, 1) := by decide +kernel
theorem dX11_waysOf_8 : decode cX11_waysOf 8 = .ok (.getfield 29, 3) := by decide +kernel
theorem dX11_waysOf_11 : decode cX11_waysOf 11 = .ok (.iload_n 1, 1) := by decide +kernel
theorem dX11_waysOf_12 : decode cX11_waysOf 12 = .ok (.iaload, 1) := by decide +kernel
theorem dX11_waysOf_13 : decode cX11_waysOf 13 = .ok (.istore 4, 2) := by decide +kernel
theorem dX11_waysOf_15 : decode cX11_waysOf 15 = .ok (.aload_n 0, 1) := by decide +kernel
theorem dX11_waysOf_16 : decode cX11_waysOf 16 = .ok (.getfield 23, 3) := by decide +kernel
theorem dX11_waysOf_19 : decode cX11_waysOf 19 = .ok (.iload_n 1, 1) := by decide +kernel
theorem dX11_waysOf_20 : decode cX11_waysOf 20 = .ok (.iaload, 1) := by decide +kernel
theorem dX11_waysOf_21 : decode cX11_waysOf 21 = .ok (.tableswitch 114 0 6 #[43, 50, 60, 62, 77, 84, 99], 43) := by decide +kernel
theorem dX11_waysOf_64 : decode cX11_waysOf 64 = .ok (.aload_n 0, 1) := by decide +kernel
theorem dX11_waysOf_65 : decode cX11_waysOf 65 = .ok (.iload_n 3, 1) := by decide +kernel
theorem dX11_waysOf_66 : decode cX11_waysOf 66 = .ok (.iload_n 2, 1) := by decide +kernel
theorem dX11_waysOf_67 : decode cX11_waysOf 67 = .ok (.invokevirtual 217, 3) := by decide +kernel
theorem dX11_waysOf_70 : decode cX11_waysOf 70 = .ok (.lreturn, 1) := by decide +kernel
theorem dX11_waysOf_71 : decode cX11_waysOf 71 = .ok (.iload_n 2, 1) := by decide +kernel
theorem dX11_waysOf_72 : decode cX11_waysOf 72 = .ok (.ifCond .ne 7, 3) := by decide +kernel
theorem dX11_waysOf_75 : decode cX11_waysOf 75 = .ok (.lconst 1, 1) := by decide +kernel
theorem dX11_waysOf_76 : decode cX11_waysOf 76 = .ok (.goto 4, 3) := by decide +kernel
theorem dX11_waysOf_79 : decode cX11_waysOf 79 = .ok (.lconst 0, 1) := by decide +kernel
theorem dX11_waysOf_80 : decode cX11_waysOf 80 = .ok (.lreturn, 1) := by decide +kernel
theorem dX11_waysOf_81 : decode cX11_waysOf 81 = .ok (.lconst 1, 1) := by decide +kernel
theorem dX11_waysOf_82 : decode cX11_waysOf 82 = .ok (.lreturn, 1) := by decide +kernel
theorem dX11_waysOf_83 : decode cX11_waysOf 83 = .ok (.iload_n 2, 1) := by decide +kernel
theorem dX11_waysOf_84 : decode cX11_waysOf 84 = .ok (.ifCond .ne 12, 3) := by decide +kernel
theorem dX11_waysOf_87 : decode cX11_waysOf 87 = .ok (.aload_n 0, 1) := by decide +kernel
theorem dX11_waysOf_88 : decode cX11_waysOf 88 = .ok (.iload_n 3, 1) := by decide +kernel
theorem dX11_waysOf_89 : decode cX11_waysOf 89 = .ok (.iconst 0, 1) := by decide +kernel
theorem dX11_waysOf_90 : decode cX11_waysOf 90 = .ok (.invokevirtual 205, 3) := by decide +kernel
theorem dX11_waysOf_93 : decode cX11_waysOf 93 = .ok (.goto 4, 3) := by decide +kernel
theorem dX11_waysOf_96 : decode cX11_waysOf 96 = .ok (.lconst 0, 1) := by decide +kernel
theorem dX11_waysOf_97 : decode cX11_waysOf 97 = .ok (.lreturn, 1) := by decide +kernel
theorem dX11_waysOf_98 : decode cX11_waysOf 98 = .ok (.aload_n 0, 1) := by decide +kernel
theorem dX11_waysOf_99 : decode cX11_waysOf 99 = .ok (.iload_n 1, 1) := by decide +kernel
theorem dX11_waysOf_100 : decode cX11_waysOf 100 = .ok (.iload_n 2, 1) := by decide +kernel
theorem dX11_waysOf_101 : decode cX11_waysOf 101 = .ok (.invokevirtual 220, 3) := by decide +kernel
theorem dX11_waysOf_104 : decode cX11_waysOf 104 = .ok (.lreturn, 1) := by decide +kernel
theorem dX11_waysOf_105 : decode cX11_waysOf 105 = .ok (.aload_n 0, 1) := by decide +kernel
theorem dX11_waysOf_106 : decode cX11_waysOf 106 = .ok (.iload_n 3, 1) := by decide +kernel
theorem dX11_waysOf_107 : decode cX11_waysOf 107 = .ok (.iload_n 2, 1) := by decide +kernel
theorem dX11_waysOf_108 : decode cX11_waysOf 108 = .ok (.invokevirtual 205, 3) := by decide +kernel
theorem dX11_waysOf_111 : decode cX11_waysOf 111 = .ok (.aload_n 0, 1) := by decide +kernel
theorem dX11_waysOf_112 : decode cX11_waysOf 112 = .ok (.iload 4, 2) := by decide +kernel
theorem dX11_waysOf_114 : decode cX11_waysOf 114 = .ok (.iload_n 2, 1) := by decide +kernel
theorem dX11_waysOf_115 : decode cX11_waysOf 115 = .ok (.invokevirtual 205, 3) := by decide +kernel
theorem dX11_waysOf_118 : decode cX11_waysOf 118 = .ok (.lmul, 1) := by decide +kernel
theorem dX11_waysOf_119 : decode cX11_waysOf 119 = .ok (.lreturn, 1) := by decide +kernel
theorem dX11_waysOf_120 : decode cX11_waysOf 120 = .ok (.aload_n 0, 1) := by decide +kernel
theorem dX11_waysOf_121 : decode cX11_waysOf 121 = .ok (.iload_n 3, 1) := by decide +kernel
theorem dX11_waysOf_122 : decode cX11_waysOf 122 = .ok (.iload_n 2, 1) := by decide +kernel
theorem dX11_waysOf_123 : decode cX11_waysOf 123 = .ok (.invokevirtual 205, 3) := by decide +kernel
theorem dX11_waysOf_126 : decode cX11_waysOf 126 = .ok (.aload_n 0, 1) := by decide +kernel
theorem dX11_waysOf_127 : decode cX11_waysOf 127 = .ok (.iload 4, 2) := by decide +kernel
theorem dX11_waysOf_129 : decode cX11_waysOf 129 = .ok (.iload_n 2, 1) := by decide +kernel
theorem dX11_waysOf_130 : decode cX11_waysOf 130 = .ok (.invokevirtual 205, 3) := by decide +kernel
theorem dX11_waysOf_133 : decode cX11_waysOf 133 = .ok (.ladd, 1) := by decide +kernel
theorem dX11_waysOf_134 : decode cX11_waysOf 134 = .ok (.lreturn, 1) := by decide +kernel
theorem dX11_waysOf_135 : decode cX11_waysOf 135 = .ok (.iload_n 2, 1) := by decide +kernel
theorem dX11_waysOf_136 : decode cX11_waysOf 136 = .ok (.iload 4, 2) := by decide +kernel
theorem dX11_waysOf_138 : decode cX11_waysOf 138 = .ok (.invokestatic 171, 3) := by decide +kernel
theorem dX11_waysOf_141 : decode cX11_waysOf 141 = .ok (.ifCond .eq 7, 3) := by decide +kernel
theorem dX11_waysOf_144 : decode cX11_waysOf 144 = .ok (.lconst 0, 1) := by decide +kernel
theorem dX11_waysOf_145 : decode cX11_waysOf 145 = .ok (.goto 14, 3) := by decide +kernel
theorem dX11_waysOf_148 : decode cX11_waysOf 148 = .ok (.aload_n 0, 1) := by decide +kernel
theorem dX11_waysOf_149 : decode cX11_waysOf 149 = .ok (.iload_n 3, 1) := by decide +kernel
theorem dX11_waysOf_150 : decode cX11_waysOf 150 = .ok (.iload_n 2, 1) := by decide +kernel
theorem dX11_waysOf_151 : decode cX11_waysOf 151 = .ok (.iconst 1, 1) := by decide +kernel
theorem dX11_waysOf_152 : decode cX11_waysOf 152 = .ok (.iload 4, 2) := by decide +kernel
theorem dX11_waysOf_154 : decode cX11_waysOf 154 = .ok (.ishl, 1) := by decide +kernel
theorem dX11_waysOf_155 : decode cX11_waysOf 155 = .ok (.ior, 1) := by decide +kernel
theorem dX11_waysOf_156 : decode cX11_waysOf 156 = .ok (.invokevirtual 205, 3) := by decide +kernel
theorem dX11_waysOf_159 : decode cX11_waysOf 159 = .ok (.lreturn, 1) := by decide +kernel
theorem dX11_ways_0 : decode cX11_ways 0 = .ok (.aload_n 0, 1) := by decide +kernel
theorem dX11_ways_1 : decode cX11_ways 1 = .ok (.iload_n 1, 1) := by decide +kernel
theorem dX11_ways_2 : decode cX11_ways 2 = .ok (.invokevirtual 190, 3) := by decide +kernel
theorem dX11_ways_5 : decode cX11_ways 5 = .ok (.ifCond .ne 5, 3) := by decide +kernel
theorem dX11_ways_8 : decode cX11_ways 8 = .ok (.iconst (-1), 1) := by decide +kernel
theorem dX11_ways_9 : decode cX11_ways 9 = .ok (.ireturn, 1) := by decide +kernel
theorem dX11_ways_10 : decode cX11_ways 10 = .ok (.iload_n 2, 1) := by decide +kernel
theorem dX11_ways_11 : decode cX11_ways 11 = .ok (.iconst 0, 1) := by decide +kernel
theorem dX11_ways_12 : decode cX11_ways 12 = .ok (.bipush 10, 2) := by decide +kernel
theorem dX11_ways_14 : decode cX11_ways 14 = .ok (.invokestatic 104, 3) := by decide +kernel
theorem dX11_ways_17 : decode cX11_ways 17 = .ok (.ifCond .ne 6, 3) := by decide +kernel
theorem dX11_ways_20 : decode cX11_ways 20 = .ok (.bipush (-2), 2) := by decide +kernel
theorem dX11_ways_22 : decode cX11_ways 22 = .ok (.ireturn, 1) := by decide +kernel
theorem dX11_ways_23 : decode cX11_ways 23 = .ok (.aload_n 0, 1) := by decide +kernel
theorem dX11_ways_24 : decode cX11_ways 24 = .ok (.invokevirtual 193, 3) := by decide +kernel
theorem dX11_ways_27 : decode cX11_ways 27 = .ok (.ifCond .ne 6, 3) := by decide +kernel
theorem dX11_ways_30 : decode cX11_ways 30 = .ok (.bipush (-3), 2) := by decide +kernel
theorem dX11_ways_32 : decode cX11_ways 32 = .ok (.ireturn, 1) := by decide +kernel
theorem dX11_ways_33 : decode cX11_ways 33 = .ok (.aload_n 0, 1) := by decide +kernel
theorem dX11_ways_34 : decode cX11_ways 34 = .ok (.invokevirtual 197, 3) := by decide +kernel
theorem dX11_ways_37 : decode cX11_ways 37 = .ok (.iconst 0, 1) := by decide +kernel
theorem dX11_ways_38 : decode cX11_ways 38 = .ok (.istore_n 3, 1) := by decide +kernel
theorem dX11_ways_39 : decode cX11_ways 39 = .ok (.iload_n 3, 1) := by decide +kernel
theorem dX11_ways_40 : decode cX11_ways 40 = .ok (.sipush 256, 3) := by decide +kernel
theorem dX11_ways_43 : decode cX11_ways 43 = .ok (.aload_n 0, 1) := by decide +kernel
theorem dX11_ways_44 : decode cX11_ways 44 = .ok (.getfield 92, 3) := by decide +kernel
theorem dX11_ways_47 : decode cX11_ways 47 = .ok (.imul, 1) := by decide +kernel
theorem dX11_ways_48 : decode cX11_ways 48 = .ok (.if_icmp .ge 16, 3) := by decide +kernel
theorem dX11_ways_51 : decode cX11_ways 51 = .ok (.aload_n 0, 1) := by decide +kernel
theorem dX11_ways_52 : decode cX11_ways 52 = .ok (.getfield 60, 3) := by decide +kernel
theorem dX11_ways_55 : decode cX11_ways 55 = .ok (.iload_n 3, 1) := by decide +kernel
theorem dX11_ways_56 : decode cX11_ways 56 = .ok (.lconst 0, 1) := by decide +kernel
theorem dX11_ways_57 : decode cX11_ways 57 = .ok (.lastore, 1) := by decide +kernel
theorem dX11_ways_58 : decode cX11_ways 58 = .ok (.iinc 3 1, 3) := by decide +kernel
theorem dX11_ways_61 : decode cX11_ways 61 = .ok (.goto (-22), 3) := by decide +kernel
theorem dX11_ways_64 : decode cX11_ways 64 = .ok (.iconst 1, 1) := by decide +kernel
theorem dX11_ways_65 : decode cX11_ways 65 = .ok (.istore_n 3, 1) := by decide +kernel
theorem dX11_ways_66 : decode cX11_ways 66 = .ok (.iload_n 3, 1) := by decide +kernel
theorem dX11_ways_67 : decode cX11_ways 67 = .ok (.iload_n 2, 1) := by decide +kernel
theorem dX11_ways_68 : decode cX11_ways 68 = .ok (.if_icmp .gt 93, 3) := by decide +kernel
theorem dX11_ways_71 : decode cX11_ways 71 = .ok (.iconst 0, 1) := by decide +kernel
theorem dX11_ways_72 : decode cX11_ways 72 = .ok (.istore 4, 2) := by decide +kernel
theorem dX11_ways_74 : decode cX11_ways 74 = .ok (.iload 4, 2) := by decide +kernel
theorem dX11_ways_76 : decode cX11_ways 76 = .ok (.sipush 256, 3) := by decide +kernel
theorem dX11_ways_79 : decode cX11_ways 79 = .ok (.aload_n 0, 1) := by decide +kernel
theorem dX11_ways_80 : decode cX11_ways 80 = .ok (.getfield 92, 3) := by decide +kernel
theorem dX11_ways_83 : decode cX11_ways 83 = .ok (.imul, 1) := by decide +kernel
theorem dX11_ways_84 : decode cX11_ways 84 = .ok (.if_icmp .ge 35, 3) := by decide +kernel
theorem dX11_ways_87 : decode cX11_ways 87 = .ok (.aload_n 0, 1) := by decide +kernel
theorem dX11_ways_88 : decode cX11_ways 88 = .ok (.getfield 64, 3) := by decide +kernel
theorem dX11_ways_91 : decode cX11_ways 91 = .ok (.iload 4, 2) := by decide +kernel
theorem dX11_ways_93 : decode cX11_ways 93 = .ok (.aload_n 0, 1) := by decide +kernel
theorem dX11_ways_94 : decode cX11_ways 94 = .ok (.iload 4, 2) := by decide +kernel
theorem dX11_ways_96 : decode cX11_ways 96 = .ok (.sipush 256, 3) := by decide +kernel
theorem dX11_ways_99 : decode cX11_ways 99 = .ok (.idiv, 1) := by decide +kernel
theorem dX11_ways_100 : decode cX11_ways 100 = .ok (.iload 4, 2) := by decide +kernel
theorem dX11_ways_102 : decode cX11_ways 102 = .ok (.sipush 256, 3) := by decide +kernel
theorem dX11_ways_105 : decode cX11_ways 105 = .ok (.irem, 1) := by decide +kernel
theorem dX11_ways_106 : decode cX11_ways 106 = .ok (.invokevirtual 223, 3) := by decide +kernel
theorem dX11_ways_109 : decode cX11_ways 109 = .ok (.invokestatic 213, 3) := by decide +kernel
theorem dX11_ways_112 : decode cX11_ways 112 = .ok (.lastore, 1) := by decide +kernel
theorem dX11_ways_113 : decode cX11_ways 113 = .ok (.iinc 4 1, 3) := by decide +kernel
theorem dX11_ways_116 : decode cX11_ways 116 = .ok (.goto (-42), 3) := by decide +kernel
theorem dX11_ways_119 : decode cX11_ways 119 = .ok (.iconst 0, 1) := by decide +kernel
theorem dX11_ways_120 : decode cX11_ways 120 = .ok (.istore 4, 2) := by decide +kernel
theorem dX11_ways_122 : decode cX11_ways 122 = .ok (.iload 4, 2) := by decide +kernel
theorem dX11_ways_124 : decode cX11_ways 124 = .ok (.sipush 256, 3) := by decide +kernel
theorem dX11_ways_127 : decode cX11_ways 127 = .ok (.aload_n 0, 1) := by decide +kernel
theorem dX11_ways_128 : decode cX11_ways 128 = .ok (.getfield 92, 3) := by decide +kernel
theorem dX11_ways_131 : decode cX11_ways 131 = .ok (.imul, 1) := by decide +kernel
theorem dX11_ways_132 : decode cX11_ways 132 = .ok (.if_icmp .ge 23, 3) := by decide +kernel
theorem dX11_ways_135 : decode cX11_ways 135 = .ok (.aload_n 0, 1) := by decide +kernel
theorem dX11_ways_136 : decode cX11_ways 136 = .ok (.getfield 60, 3) := by decide +kernel
theorem dX11_ways_139 : decode cX11_ways 139 = .ok (.iload 4, 2) := by decide +kernel
theorem dX11_ways_141 : decode cX11_ways 141 = .ok (.aload_n 0, 1) := by decide +kernel
theorem dX11_ways_142 : decode cX11_ways 142 = .ok (.getfield 64, 3) := by decide +kernel
theorem dX11_ways_145 : decode cX11_ways 145 = .ok (.iload 4, 2) := by decide +kernel
theorem dX11_ways_147 : decode cX11_ways 147 = .ok (.laload, 1) := by decide +kernel
theorem dX11_ways_148 : decode cX11_ways 148 = .ok (.lastore, 1) := by decide +kernel
theorem dX11_ways_149 : decode cX11_ways 149 = .ok (.iinc 4 1, 3) := by decide +kernel
theorem dX11_ways_152 : decode cX11_ways 152 = .ok (.goto (-30), 3) := by decide +kernel
theorem dX11_ways_155 : decode cX11_ways 155 = .ok (.iinc 3 1, 3) := by decide +kernel
theorem dX11_ways_158 : decode cX11_ways 158 = .ok (.goto (-92), 3) := by decide +kernel
theorem dX11_ways_161 : decode cX11_ways 161 = .ok (.aload_n 0, 1) := by decide +kernel
theorem dX11_ways_162 : decode cX11_ways 162 = .ok (.getfield 60, 3) := by decide +kernel
theorem dX11_ways_165 : decode cX11_ways 165 = .ok (.sipush 256, 3) := by decide +kernel
theorem dX11_ways_168 : decode cX11_ways 168 = .ok (.aload_n 0, 1) := by decide +kernel
theorem dX11_ways_169 : decode cX11_ways 169 = .ok (.getfield 98, 3) := by decide +kernel
theorem dX11_ways_172 : decode cX11_ways 172 = .ok (.imul, 1) := by decide +kernel
theorem dX11_ways_173 : decode cX11_ways 173 = .ok (.iload_n 1, 1) := by decide +kernel
theorem dX11_ways_174 : decode cX11_ways 174 = .ok (.iadd, 1) := by decide +kernel
theorem dX11_ways_175 : decode cX11_ways 175 = .ok (.laload, 1) := by decide +kernel
theorem dX11_ways_176 : decode cX11_ways 176 = .ok (.l2i, 1) := by decide +kernel
theorem dX11_ways_177 : decode cX11_ways 177 = .ok (.ireturn, 1) := by decide +kernel
theorem dX11_fewest_0 : decode cX11_fewest 0 = .ok (.aload_n 0, 1) := by decide +kernel
theorem dX11_fewest_1 : decode cX11_fewest 1 = .ok (.invokevirtual 193, 3) := by decide +kernel
theorem dX11_fewest_4 : decode cX11_fewest 4 = .ok (.ifCond .ne 6, 3) := by decide +kernel
theorem dX11_fewest_7 : decode cX11_fewest 7 = .ok (.bipush (-3), 2) := by decide +kernel
theorem dX11_fewest_9 : decode cX11_fewest 9 = .ok (.ireturn, 1) := by decide +kernel
theorem dX11_fewest_10 : decode cX11_fewest 10 = .ok (.aload_n 0, 1) := by decide +kernel
theorem dX11_fewest_11 : decode cX11_fewest 11 = .ok (.invokevirtual 197, 3) := by decide +kernel
theorem dX11_fewest_14 : decode cX11_fewest 14 = .ok (.bipush (-6), 2) := by decide +kernel
theorem dX11_fewest_16 : decode cX11_fewest 16 = .ok (.istore_n 1, 1) := by decide +kernel
theorem dX11_fewest_17 : decode cX11_fewest 17 = .ok (.iconst 0, 1) := by decide +kernel
theorem dX11_fewest_18 : decode cX11_fewest 18 = .ok (.istore_n 2, 1) := by decide +kernel
theorem dX11_fewest_19 : decode cX11_fewest 19 = .ok (.iload_n 2, 1) := by decide +kernel
theorem dX11_fewest_20 : decode cX11_fewest 20 = .ok (.bipush 32, 2) := by decide +kernel
theorem dX11_fewest_22 : decode cX11_fewest 22 = .ok (.if_icmp .ge 42, 3) := by decide +kernel
theorem dX11_fewest_25 : decode cX11_fewest 25 = .ok (.aload_n 0, 1) := by decide +kernel
theorem dX11_fewest_26 : decode cX11_fewest 26 = .ok (.iload_n 2, 1) := by decide +kernel
theorem dX11_fewest_27 : decode cX11_fewest 27 = .ok (.invokevirtual 190, 3) := by decide +kernel
theorem dX11_fewest_30 : decode cX11_fewest 30 = .ok (.ifCond .eq 28, 3) := by decide +kernel
theorem dX11_fewest_33 : decode cX11_fewest 33 = .ok (.aload_n 0, 1) := by decide +kernel
theorem dX11_fewest_34 : decode cX11_fewest 34 = .ok (.iload_n 2, 1) := by decide +kernel
theorem dX11_fewest_35 : decode cX11_fewest 35 = .ok (.invokevirtual 200, 3) := by decide +kernel
theorem dX11_fewest_38 : decode cX11_fewest 38 = .ok (.ifCond .le 20, 3) := by decide +kernel
theorem dX11_fewest_41 : decode cX11_fewest 41 = .ok (.iload_n 1, 1) := by decide +kernel
theorem dX11_fewest_42 : decode cX11_fewest 42 = .ok (.ifCond .lt 14, 3) := by decide +kernel
theorem dX11_fewest_45 : decode cX11_fewest 45 = .ok (.iload_n 2, 1) := by decide +kernel
theorem dX11_fewest_46 : decode cX11_fewest 46 = .ok (.invokestatic 162, 3) := by decide +kernel
theorem dX11_fewest_49 : decode cX11_fewest 49 = .ok (.iload_n 1, 1) := by decide +kernel
theorem dX11_fewest_50 : decode cX11_fewest 50 = .ok (.invokestatic 162, 3) := by decide +kernel
theorem dX11_fewest_53 : decode cX11_fewest 53 = .ok (.if_icmp .ge 5, 3) := by decide +kernel
theorem dX11_fewest_56 : decode cX11_fewest 56 = .ok (.iload_n 2, 1) := by decide +kernel
theorem dX11_fewest_57 : decode cX11_fewest 57 = .ok (.istore_n 1, 1) := by decide +kernel
theorem dX11_fewest_58 : decode cX11_fewest 58 = .ok (.iinc 2 1, 3) := by decide +kernel
theorem dX11_fewest_61 : decode cX11_fewest 61 = .ok (.goto (-42), 3) := by decide +kernel
theorem dX11_fewest_64 : decode cX11_fewest 64 = .ok (.iload_n 1, 1) := by decide +kernel
theorem dX11_fewest_65 : decode cX11_fewest 65 = .ok (.ireturn, 1) := by decide +kernel
theorem dX11_needed_0 : decode cX11_needed 0 = .ok (.aload_n 0, 1) := by decide +kernel
theorem dX11_needed_1 : decode cX11_needed 1 = .ok (.invokevirtual 193, 3) := by decide +kernel
theorem dX11_needed_4 : decode cX11_needed 4 = .ok (.ifCond .ne 6, 3) := by decide +kernel
theorem dX11_needed_7 : decode cX11_needed 7 = .ok (.bipush (-3), 2) := by decide +kernel
theorem dX11_needed_9 : decode cX11_needed 9 = .ok (.ireturn, 1) := by decide +kernel
theorem dX11_needed_10 : decode cX11_needed 10 = .ok (.aload_n 0, 1) := by decide +kernel
theorem dX11_needed_11 : decode cX11_needed 11 = .ok (.invokevirtual 197, 3) := by decide +kernel
theorem dX11_needed_14 : decode cX11_needed 14 = .ok (.iconst 0, 1) := by decide +kernel
theorem dX11_needed_15 : decode cX11_needed 15 = .ok (.istore_n 1, 1) := by decide +kernel
theorem dX11_needed_16 : decode cX11_needed 16 = .ok (.iconst 0, 1) := by decide +kernel
theorem dX11_needed_17 : decode cX11_needed 17 = .ok (.istore_n 2, 1) := by decide +kernel
theorem dX11_needed_18 : decode cX11_needed 18 = .ok (.iload_n 2, 1) := by decide +kernel
theorem dX11_needed_19 : decode cX11_needed 19 = .ok (.iconst 5, 1) := by decide +kernel
theorem dX11_needed_20 : decode cX11_needed 20 = .ok (.if_icmp .ge 47, 3) := by decide +kernel
theorem dX11_needed_23 : decode cX11_needed 23 = .ok (.iload_n 1, 1) := by decide +kernel
theorem dX11_needed_24 : decode cX11_needed 24 = .ok (.aload_n 0, 1) := by decide +kernel
theorem dX11_needed_25 : decode cX11_needed 25 = .ok (.invokevirtual 186, 3) := by decide +kernel
theorem dX11_needed_28 : decode cX11_needed 28 = .ok (.iload_n 2, 1) := by decide +kernel
theorem dX11_needed_29 : decode cX11_needed 29 = .ok (.invokestatic 171, 3) := by decide +kernel
theorem dX11_needed_32 : decode cX11_needed 32 = .ok (.ifCond .eq 26, 3) := by decide +kernel
theorem dX11_needed_35 : decode cX11_needed 35 = .ok (.aload_n 0, 1) := by decide +kernel
theorem dX11_needed_36 : decode cX11_needed 36 = .ok (.aload_n 0, 1) := by decide +kernel
theorem dX11_needed_37 : decode cX11_needed 37 = .ok (.invokevirtual 186, 3) := by decide +kernel
theorem dX11_needed_40 : decode cX11_needed 40 = .ok (.iconst 1, 1) := by decide +kernel
theorem dX11_needed_41 : decode cX11_needed 41 = .ok (.iload_n 2, 1) := by decide +kernel
theorem dX11_needed_42 : decode cX11_needed 42 = .ok (.ishl, 1) := by decide +kernel
theorem dX11_needed_43 : decode cX11_needed 43 = .ok (.iconst (-1), 1) := by decide +kernel
theorem dX11_needed_44 : decode cX11_needed 44 = .ok (.ixor, 1) := by decide +kernel
theorem dX11_needed_45 : decode cX11_needed 45 = .ok (.iand, 1) := by decide +kernel
theorem dX11_needed_46 : decode cX11_needed 46 = .ok (.invokevirtual 200, 3) := by decide +kernel
theorem dX11_needed_49 : decode cX11_needed 49 = .ok (.ifCond .ge 9, 3) := by decide +kernel
theorem dX11_needed_52 : decode cX11_needed 52 = .ok (.iconst 1, 1) := by decide +kernel
theorem dX11_needed_53 : decode cX11_needed 53 = .ok (.iload_n 2, 1) := by decide +kernel
theorem dX11_needed_54 : decode cX11_needed 54 = .ok (.ishl, 1) := by decide +kernel
theorem dX11_needed_55 : decode cX11_needed 55 = .ok (.goto 4, 3) := by decide +kernel
theorem dX11_needed_58 : decode cX11_needed 58 = .ok (.iconst 0, 1) := by decide +kernel
theorem dX11_needed_59 : decode cX11_needed 59 = .ok (.ior, 1) := by decide +kernel
theorem dX11_needed_60 : decode cX11_needed 60 = .ok (.istore_n 1, 1) := by decide +kernel
theorem dX11_needed_61 : decode cX11_needed 61 = .ok (.iinc 2 1, 3) := by decide +kernel
theorem dX11_needed_64 : decode cX11_needed 64 = .ok (.goto (-46), 3) := by decide +kernel
theorem dX11_needed_67 : decode cX11_needed 67 = .ok (.iload_n 1, 1) := by decide +kernel
theorem dX11_needed_68 : decode cX11_needed 68 = .ok (.ireturn, 1) := by decide +kernel
theorem dX11_await_0 : decode cX11_await 0 = .ok (.aload_n 0, 1) := by decide +kernel
theorem dX11_await_1 : decode cX11_await 1 = .ok (.getfield 70, 3) := by decide +kernel
theorem dX11_await_4 : decode cX11_await 4 = .ok (.aload_n 0, 1) := by decide +kernel
theorem dX11_await_5 : decode cX11_await 5 = .ok (.getfield 226, 3) := by decide +kernel
theorem dX11_await_8 : decode cX11_await 8 = .ok (.iload_n 1, 1) := by decide +kernel
theorem dX11_await_9 : decode cX11_await 9 = .ok (.iastore, 1) := by decide +kernel
theorem dX11_await_10 : decode cX11_await 10 = .ok (.aload_n 0, 1) := by decide +kernel
theorem dX11_await_11 : decode cX11_await 11 = .ok (.getfield 73, 3) := by decide +kernel
theorem dX11_await_14 : decode cX11_await 14 = .ok (.aload_n 0, 1) := by decide +kernel
theorem dX11_await_15 : decode cX11_await 15 = .ok (.getfield 226, 3) := by decide +kernel
theorem dX11_await_18 : decode cX11_await 18 = .ok (.iload_n 2, 1) := by decide +kernel
theorem dX11_await_19 : decode cX11_await 19 = .ok (.iastore, 1) := by decide +kernel
theorem dX11_await_20 : decode cX11_await 20 = .ok (.aload_n 0, 1) := by decide +kernel
theorem dX11_await_21 : decode cX11_await 21 = .ok (.getfield 76, 3) := by decide +kernel
theorem dX11_await_24 : decode cX11_await 24 = .ok (.aload_n 0, 1) := by decide +kernel
theorem dX11_await_25 : decode cX11_await 25 = .ok (.getfield 226, 3) := by decide +kernel
theorem dX11_await_28 : decode cX11_await 28 = .ok (.iload_n 3, 1) := by decide +kernel
theorem dX11_await_29 : decode cX11_await 29 = .ok (.iastore, 1) := by decide +kernel
theorem dX11_await_30 : decode cX11_await 30 = .ok (.aload_n 0, 1) := by decide +kernel
theorem dX11_await_31 : decode cX11_await 31 = .ok (.dup, 1) := by decide +kernel
theorem dX11_await_32 : decode cX11_await 32 = .ok (.getfield 226, 3) := by decide +kernel
theorem dX11_await_35 : decode cX11_await 35 = .ok (.iconst 1, 1) := by decide +kernel
theorem dX11_await_36 : decode cX11_await 36 = .ok (.iadd, 1) := by decide +kernel
theorem dX11_await_37 : decode cX11_await 37 = .ok (.putfield 226, 3) := by decide +kernel
theorem dX11_await_40 : decode cX11_await 40 = .ok (.return_, 1) := by decide +kernel
theorem dX11_tell_0 : decode cX11_tell 0 = .ok (.aload_n 0, 1) := by decide +kernel
theorem dX11_tell_1 : decode cX11_tell 1 = .ok (.getfield 67, 3) := by decide +kernel
theorem dX11_tell_4 : decode cX11_tell 4 = .ok (.aload_n 0, 1) := by decide +kernel
theorem dX11_tell_5 : decode cX11_tell 5 = .ok (.getfield 229, 3) := by decide +kernel
theorem dX11_tell_8 : decode cX11_tell 8 = .ok (.iload_n 1, 1) := by decide +kernel
theorem dX11_tell_9 : decode cX11_tell 9 = .ok (.iastore, 1) := by decide +kernel
theorem dX11_tell_10 : decode cX11_tell 10 = .ok (.aload_n 0, 1) := by decide +kernel
theorem dX11_tell_11 : decode cX11_tell 11 = .ok (.dup, 1) := by decide +kernel
theorem dX11_tell_12 : decode cX11_tell 12 = .ok (.getfield 229, 3) := by decide +kernel
theorem dX11_tell_15 : decode cX11_tell 15 = .ok (.iconst 1, 1) := by decide +kernel
theorem dX11_tell_16 : decode cX11_tell 16 = .ok (.iadd, 1) := by decide +kernel
theorem dX11_tell_17 : decode cX11_tell 17 = .ok (.putfield 229, 3) := by decide +kernel
theorem dX11_tell_20 : decode cX11_tell 20 = .ok (.return_, 1) := by decide +kernel
theorem dX11_tellAtom_0 : decode cX11_tellAtom 0 = .ok (.aload_n 0, 1) := by decide +kernel
theorem dX11_tellAtom_1 : decode cX11_tellAtom 1 = .ok (.iload_n 1, 1) := by decide +kernel
theorem dX11_tellAtom_2 : decode cX11_tellAtom 2 = .ok (.iload_n 2, 1) := by decide +kernel
theorem dX11_tellAtom_3 : decode cX11_tellAtom 3 = .ok (.iload_n 3, 1) := by decide +kernel
theorem dX11_tellAtom_4 : decode cX11_tellAtom 4 = .ok (.invokevirtual 179, 3) := by decide +kernel
theorem dX11_tellAtom_7 : decode cX11_tellAtom 7 = .ok (.istore 4, 2) := by decide +kernel
theorem dX11_tellAtom_9 : decode cX11_tellAtom 9 = .ok (.aload_n 0, 1) := by decide +kernel
theorem dX11_tellAtom_10 : decode cX11_tellAtom 10 = .ok (.iload 4, 2) := by decide +kernel
theorem dX11_tellAtom_12 : decode cX11_tellAtom 12 = .ok (.invokevirtual 232, 3) := by decide +kernel
theorem dX11_tellAtom_15 : decode cX11_tellAtom 15 = .ok (.iload 4, 2) := by decide +kernel
theorem dX11_tellAtom_17 : decode cX11_tellAtom 17 = .ok (.bipush 100, 2) := by decide +kernel
theorem dX11_tellAtom_19 : decode cX11_tellAtom 19 = .ok (.if_icmp .ge 11, 3) := by decide +kernel
theorem dX11_tellAtom_22 : decode cX11_tellAtom 22 = .ok (.iload 4, 2) := by decide +kernel
theorem dX11_tellAtom_24 : decode cX11_tellAtom 24 = .ok (.bipush 10, 2) := by decide +kernel
theorem dX11_tellAtom_26 : decode cX11_tellAtom 26 = .ok (.idiv, 1) := by decide +kernel
theorem dX11_tellAtom_27 : decode cX11_tellAtom 27 = .ok (.goto 14, 3) := by decide +kernel
theorem dX11_tellAtom_30 : decode cX11_tellAtom 30 = .ok (.bipush 8, 2) := by decide +kernel
theorem dX11_tellAtom_32 : decode cX11_tellAtom 32 = .ok (.iload 4, 2) := by decide +kernel
theorem dX11_tellAtom_34 : decode cX11_tellAtom 34 = .ok (.bipush 100, 2) := by decide +kernel
theorem dX11_tellAtom_36 : decode cX11_tellAtom 36 = .ok (.isub, 1) := by decide +kernel
theorem dX11_tellAtom_37 : decode cX11_tellAtom 37 = .ok (.bipush 10, 2) := by decide +kernel
theorem dX11_tellAtom_39 : decode cX11_tellAtom 39 = .ok (.idiv, 1) := by decide +kernel
theorem dX11_tellAtom_40 : decode cX11_tellAtom 40 = .ok (.iadd, 1) := by decide +kernel
theorem dX11_tellAtom_41 : decode cX11_tellAtom 41 = .ok (.istore 5, 2) := by decide +kernel
theorem dX11_tellAtom_43 : decode cX11_tellAtom 43 = .ok (.aload_n 0, 1) := by decide +kernel
theorem dX11_tellAtom_44 : decode cX11_tellAtom 44 = .ok (.getfield 38, 3) := by decide +kernel
theorem dX11_tellAtom_47 : decode cX11_tellAtom 47 = .ok (.iconst 3, 1) := by decide +kernel
theorem dX11_tellAtom_48 : decode cX11_tellAtom 48 = .ok (.iload 5, 2) := by decide +kernel
theorem dX11_tellAtom_50 : decode cX11_tellAtom 50 = .ok (.imul, 1) := by decide +kernel
theorem dX11_tellAtom_51 : decode cX11_tellAtom 51 = .ok (.iload 4, 2) := by decide +kernel
theorem dX11_tellAtom_53 : decode cX11_tellAtom 53 = .ok (.bipush 10, 2) := by decide +kernel
theorem dX11_tellAtom_55 : decode cX11_tellAtom 55 = .ok (.irem, 1) := by decide +kernel
theorem dX11_tellAtom_56 : decode cX11_tellAtom 56 = .ok (.iadd, 1) := by decide +kernel
theorem dX11_tellAtom_57 : decode cX11_tellAtom 57 = .ok (.iaload, 1) := by decide +kernel
theorem dX11_tellAtom_58 : decode cX11_tellAtom 58 = .ok (.istore 6, 2) := by decide +kernel
theorem dX11_tellAtom_60 : decode cX11_tellAtom 60 = .ok (.iload 6, 2) := by decide +kernel
theorem dX11_tellAtom_62 : decode cX11_tellAtom 62 = .ok (.ifCond .lt 31, 3) := by decide +kernel
theorem dX11_tellAtom_65 : decode cX11_tellAtom 65 = .ok (.aload_n 0, 1) := by decide +kernel
theorem dX11_tellAtom_66 : decode cX11_tellAtom 66 = .ok (.iload 6, 2) := by decide +kernel
theorem dX11_tellAtom_68 : decode cX11_tellAtom 68 = .ok (.iload 4, 2) := by decide +kernel
theorem dX11_tellAtom_70 : decode cX11_tellAtom 70 = .ok (.bipush 100, 2) := by decide +kernel
theorem dX11_tellAtom_72 : decode cX11_tellAtom 72 = .ok (.if_icmp .ge 14, 3) := by decide +kernel
theorem dX11_tellAtom_75 : decode cX11_tellAtom 75 = .ok (.iload_n 2, 1) := by decide +kernel
theorem dX11_tellAtom_76 : decode cX11_tellAtom 76 = .ok (.iconst 1, 1) := by decide +kernel
theorem dX11_tellAtom_77 : decode cX11_tellAtom 77 = .ok (.iload 5, 2) := by decide +kernel
theorem dX11_tellAtom_79 : decode cX11_tellAtom 79 = .ok (.ishl, 1) := by decide +kernel
theorem dX11_tellAtom_80 : decode cX11_tellAtom 80 = .ok (.iconst (-1), 1) := by decide +kernel
theorem dX11_tellAtom_81 : decode cX11_tellAtom 81 = .ok (.ixor, 1) := by decide +kernel
theorem dX11_tellAtom_82 : decode cX11_tellAtom 82 = .ok (.iand, 1) := by decide +kernel
theorem dX11_tellAtom_83 : decode cX11_tellAtom 83 = .ok (.goto 4, 3) := by decide +kernel
theorem dX11_tellAtom_86 : decode cX11_tellAtom 86 = .ok (.iload_n 2, 1) := by decide +kernel
theorem dX11_tellAtom_87 : decode cX11_tellAtom 87 = .ok (.iload_n 3, 1) := by decide +kernel
theorem dX11_tellAtom_88 : decode cX11_tellAtom 88 = .ok (.iconst 1, 1) := by decide +kernel
theorem dX11_tellAtom_89 : decode cX11_tellAtom 89 = .ok (.isub, 1) := by decide +kernel
theorem dX11_tellAtom_90 : decode cX11_tellAtom 90 = .ok (.invokevirtual 236, 3) := by decide +kernel
theorem dX11_tellAtom_93 : decode cX11_tellAtom 93 = .ok (.return_, 1) := by decide +kernel
theorem dX11_tellOne_0 : decode cX11_tellOne 0 = .ok (.aload_n 0, 1) := by decide +kernel
theorem dX11_tellOne_1 : decode cX11_tellOne 1 = .ok (.getfield 26, 3) := by decide +kernel
theorem dX11_tellOne_4 : decode cX11_tellOne 4 = .ok (.iload_n 1, 1) := by decide +kernel
theorem dX11_tellOne_5 : decode cX11_tellOne 5 = .ok (.iaload, 1) := by decide +kernel
theorem dX11_tellOne_6 : decode cX11_tellOne 6 = .ok (.istore 4, 2) := by decide +kernel
theorem dX11_tellOne_8 : decode cX11_tellOne 8 = .ok (.aload_n 0, 1) := by decide +kernel
theorem dX11_tellOne_9 : decode cX11_tellOne 9 = .ok (.getfield 29, 3) := by decide +kernel
theorem dX11_tellOne_12 : decode cX11_tellOne 12 = .ok (.iload_n 1, 1) := by decide +kernel
theorem dX11_tellOne_13 : decode cX11_tellOne 13 = .ok (.iaload, 1) := by decide +kernel
theorem dX11_tellOne_14 : decode cX11_tellOne 14 = .ok (.istore 5, 2) := by decide +kernel
theorem dX11_tellOne_16 : decode cX11_tellOne 16 = .ok (.aload_n 0, 1) := by decide +kernel
theorem dX11_tellOne_17 : decode cX11_tellOne 17 = .ok (.getfield 23, 3) := by decide +kernel
theorem dX11_tellOne_20 : decode cX11_tellOne 20 = .ok (.iload_n 1, 1) := by decide +kernel
theorem dX11_tellOne_21 : decode cX11_tellOne 21 = .ok (.iaload, 1) := by decide +kernel
theorem dX11_tellOne_22 : decode cX11_tellOne 22 = .ok (.tableswitch 210 0 7 #[46, 210, 210, 57, 70, 118, 141, 192], 46) := by decide +kernel
theorem dX11_tellOne_68 : decode cX11_tellOne 68 = .ok (.aload_n 0, 1) := by decide +kernel
theorem dX11_tellOne_69 : decode cX11_tellOne 69 = .ok (.iload 4, 2) := by decide +kernel
theorem dX11_tellOne_71 : decode cX11_tellOne 71 = .ok (.iload_n 2, 1) := by decide +kernel
theorem dX11_tellOne_72 : decode cX11_tellOne 72 = .ok (.iload_n 3, 1) := by decide +kernel
theorem dX11_tellOne_73 : decode cX11_tellOne 73 = .ok (.invokevirtual 239, 3) := by decide +kernel
theorem dX11_tellOne_76 : decode cX11_tellOne 76 = .ok (.goto 156, 3) := by decide +kernel
theorem dX11_tellOne_79 : decode cX11_tellOne 79 = .ok (.aload_n 0, 1) := by decide +kernel
theorem dX11_tellOne_80 : decode cX11_tellOne 80 = .ok (.iload 4, 2) := by decide +kernel
theorem dX11_tellOne_82 : decode cX11_tellOne 82 = .ok (.iload_n 2, 1) := by decide +kernel
theorem dX11_tellOne_83 : decode cX11_tellOne 83 = .ok (.iload_n 3, 1) := by decide +kernel
theorem dX11_tellOne_84 : decode cX11_tellOne 84 = .ok (.iconst 1, 1) := by decide +kernel
theorem dX11_tellOne_85 : decode cX11_tellOne 85 = .ok (.isub, 1) := by decide +kernel
theorem dX11_tellOne_86 : decode cX11_tellOne 86 = .ok (.invokevirtual 236, 3) := by decide +kernel
theorem dX11_tellOne_89 : decode cX11_tellOne 89 = .ok (.goto 143, 3) := by decide +kernel
theorem dX11_tellOne_92 : decode cX11_tellOne 92 = .ok (.aload_n 0, 1) := by decide +kernel
theorem dX11_tellOne_93 : decode cX11_tellOne 93 = .ok (.iload_n 1, 1) := by decide +kernel
theorem dX11_tellOne_94 : decode cX11_tellOne 94 = .ok (.iload_n 2, 1) := by decide +kernel
theorem dX11_tellOne_95 : decode cX11_tellOne 95 = .ok (.iload_n 3, 1) := by decide +kernel
theorem dX11_tellOne_96 : decode cX11_tellOne 96 = .ok (.invokevirtual 183, 3) := by decide +kernel
theorem dX11_tellOne_99 : decode cX11_tellOne 99 = .ok (.istore 6, 2) := by decide +kernel
theorem dX11_tellOne_101 : decode cX11_tellOne 101 = .ok (.aload_n 0, 1) := by decide +kernel
theorem dX11_tellOne_102 : decode cX11_tellOne 102 = .ok (.sipush 200, 3) := by decide +kernel
theorem dX11_tellOne_105 : decode cX11_tellOne 105 = .ok (.iload 6, 2) := by decide +kernel
theorem dX11_tellOne_107 : decode cX11_tellOne 107 = .ok (.iadd, 1) := by decide +kernel
theorem dX11_tellOne_108 : decode cX11_tellOne 108 = .ok (.invokevirtual 232, 3) := by decide +kernel
theorem dX11_tellOne_111 : decode cX11_tellOne 111 = .ok (.aload_n 0, 1) := by decide +kernel
theorem dX11_tellOne_112 : decode cX11_tellOne 112 = .ok (.iload 5, 2) := by decide +kernel
theorem dX11_tellOne_114 : decode cX11_tellOne 114 = .ok (.iload_n 2, 1) := by decide +kernel
theorem dX11_tellOne_115 : decode cX11_tellOne 115 = .ok (.iload 6, 2) := by decide +kernel
theorem dX11_tellOne_117 : decode cX11_tellOne 117 = .ok (.iconst (-1), 1) := by decide +kernel
theorem dX11_tellOne_118 : decode cX11_tellOne 118 = .ok (.ixor, 1) := by decide +kernel
theorem dX11_tellOne_119 : decode cX11_tellOne 119 = .ok (.iand, 1) := by decide +kernel
theorem dX11_tellOne_120 : decode cX11_tellOne 120 = .ok (.iload_n 3, 1) := by decide +kernel
theorem dX11_tellOne_121 : decode cX11_tellOne 121 = .ok (.iconst 1, 1) := by decide +kernel
theorem dX11_tellOne_122 : decode cX11_tellOne 122 = .ok (.isub, 1) := by decide +kernel
theorem dX11_tellOne_123 : decode cX11_tellOne 123 = .ok (.invokevirtual 236, 3) := by decide +kernel
theorem dX11_tellOne_126 : decode cX11_tellOne 126 = .ok (.aload_n 0, 1) := by decide +kernel
theorem dX11_tellOne_127 : decode cX11_tellOne 127 = .ok (.iload 4, 2) := by decide +kernel
theorem dX11_tellOne_129 : decode cX11_tellOne 129 = .ok (.iload 6, 2) := by decide +kernel
theorem dX11_tellOne_131 : decode cX11_tellOne 131 = .ok (.iload_n 3, 1) := by decide +kernel
theorem dX11_tellOne_132 : decode cX11_tellOne 132 = .ok (.iconst 1, 1) := by decide +kernel
theorem dX11_tellOne_133 : decode cX11_tellOne 133 = .ok (.isub, 1) := by decide +kernel
theorem dX11_tellOne_134 : decode cX11_tellOne 134 = .ok (.invokevirtual 236, 3) := by decide +kernel
theorem dX11_tellOne_137 : decode cX11_tellOne 137 = .ok (.goto 95, 3) := by decide +kernel
theorem dX11_tellOne_140 : decode cX11_tellOne 140 = .ok (.aload_n 0, 1) := by decide +kernel
theorem dX11_tellOne_141 : decode cX11_tellOne 141 = .ok (.iload 5, 2) := by decide +kernel
theorem dX11_tellOne_143 : decode cX11_tellOne 143 = .ok (.iload_n 2, 1) := by decide +kernel
theorem dX11_tellOne_144 : decode cX11_tellOne 144 = .ok (.iload_n 3, 1) := by decide +kernel
theorem dX11_tellOne_145 : decode cX11_tellOne 145 = .ok (.iconst 1, 1) := by decide +kernel
theorem dX11_tellOne_146 : decode cX11_tellOne 146 = .ok (.isub, 1) := by decide +kernel
theorem dX11_tellOne_147 : decode cX11_tellOne 147 = .ok (.invokevirtual 236, 3) := by decide +kernel
theorem dX11_tellOne_150 : decode cX11_tellOne 150 = .ok (.aload_n 0, 1) := by decide +kernel
theorem dX11_tellOne_151 : decode cX11_tellOne 151 = .ok (.iload 4, 2) := by decide +kernel
theorem dX11_tellOne_153 : decode cX11_tellOne 153 = .ok (.iload_n 2, 1) := by decide +kernel
theorem dX11_tellOne_154 : decode cX11_tellOne 154 = .ok (.iload_n 3, 1) := by decide +kernel
theorem dX11_tellOne_155 : decode cX11_tellOne 155 = .ok (.iconst 1, 1) := by decide +kernel
theorem dX11_tellOne_156 : decode cX11_tellOne 156 = .ok (.isub, 1) := by decide +kernel
theorem dX11_tellOne_157 : decode cX11_tellOne 157 = .ok (.invokevirtual 236, 3) := by decide +kernel
theorem dX11_tellOne_160 : decode cX11_tellOne 160 = .ok (.goto 72, 3) := by decide +kernel
theorem dX11_tellOne_163 : decode cX11_tellOne 163 = .ok (.aload_n 0, 1) := by decide +kernel
theorem dX11_tellOne_164 : decode cX11_tellOne 164 = .ok (.iload 4, 2) := by decide +kernel
theorem dX11_tellOne_166 : decode cX11_tellOne 166 = .ok (.iload_n 2, 1) := by decide +kernel
theorem dX11_tellOne_167 : decode cX11_tellOne 167 = .ok (.iload_n 3, 1) := by decide +kernel
theorem dX11_tellOne_168 : decode cX11_tellOne 168 = .ok (.invokevirtual 168, 3) := by decide +kernel
theorem dX11_tellOne_171 : decode cX11_tellOne 171 = .ok (.istore 7, 2) := by decide +kernel
theorem dX11_tellOne_173 : decode cX11_tellOne 173 = .ok (.aload_n 0, 1) := by decide +kernel
theorem dX11_tellOne_174 : decode cX11_tellOne 174 = .ok (.iload 7, 2) := by decide +kernel
theorem dX11_tellOne_176 : decode cX11_tellOne 176 = .ok (.ifCond .eq 9, 3) := by decide +kernel
theorem dX11_tellOne_179 : decode cX11_tellOne 179 = .ok (.sipush 300, 3) := by decide +kernel
theorem dX11_tellOne_182 : decode cX11_tellOne 182 = .ok (.goto 6, 3) := by decide +kernel
theorem dX11_tellOne_185 : decode cX11_tellOne 185 = .ok (.sipush 301, 3) := by decide +kernel
theorem dX11_tellOne_188 : decode cX11_tellOne 188 = .ok (.invokevirtual 232, 3) := by decide +kernel
theorem dX11_tellOne_191 : decode cX11_tellOne 191 = .ok (.aload_n 0, 1) := by decide +kernel
theorem dX11_tellOne_192 : decode cX11_tellOne 192 = .ok (.iload 7, 2) := by decide +kernel
theorem dX11_tellOne_194 : decode cX11_tellOne 194 = .ok (.ifCond .eq 8, 3) := by decide +kernel
theorem dX11_tellOne_197 : decode cX11_tellOne 197 = .ok (.iload 4, 2) := by decide +kernel
theorem dX11_tellOne_199 : decode cX11_tellOne 199 = .ok (.goto 5, 3) := by decide +kernel
theorem dX11_tellOne_202 : decode cX11_tellOne 202 = .ok (.iload 5, 2) := by decide +kernel
theorem dX11_tellOne_204 : decode cX11_tellOne 204 = .ok (.iload_n 2, 1) := by decide +kernel
theorem dX11_tellOne_205 : decode cX11_tellOne 205 = .ok (.iload_n 3, 1) := by decide +kernel
theorem dX11_tellOne_206 : decode cX11_tellOne 206 = .ok (.iconst 1, 1) := by decide +kernel
theorem dX11_tellOne_207 : decode cX11_tellOne 207 = .ok (.isub, 1) := by decide +kernel
theorem dX11_tellOne_208 : decode cX11_tellOne 208 = .ok (.invokevirtual 236, 3) := by decide +kernel
theorem dX11_tellOne_211 : decode cX11_tellOne 211 = .ok (.goto 21, 3) := by decide +kernel
theorem dX11_tellOne_214 : decode cX11_tellOne 214 = .ok (.aload_n 0, 1) := by decide +kernel
theorem dX11_tellOne_215 : decode cX11_tellOne 215 = .ok (.iload 4, 2) := by decide +kernel
theorem dX11_tellOne_217 : decode cX11_tellOne 217 = .ok (.iload_n 2, 1) := by decide +kernel
theorem dX11_tellOne_218 : decode cX11_tellOne 218 = .ok (.iconst 1, 1) := by decide +kernel
theorem dX11_tellOne_219 : decode cX11_tellOne 219 = .ok (.iload 5, 2) := by decide +kernel
theorem dX11_tellOne_221 : decode cX11_tellOne 221 = .ok (.ishl, 1) := by decide +kernel
theorem dX11_tellOne_222 : decode cX11_tellOne 222 = .ok (.ior, 1) := by decide +kernel
theorem dX11_tellOne_223 : decode cX11_tellOne 223 = .ok (.iload_n 3, 1) := by decide +kernel
theorem dX11_tellOne_224 : decode cX11_tellOne 224 = .ok (.iconst 1, 1) := by decide +kernel
theorem dX11_tellOne_225 : decode cX11_tellOne 225 = .ok (.isub, 1) := by decide +kernel
theorem dX11_tellOne_226 : decode cX11_tellOne 226 = .ok (.invokevirtual 236, 3) := by decide +kernel
theorem dX11_tellOne_229 : decode cX11_tellOne 229 = .ok (.goto 3, 3) := by decide +kernel
theorem dX11_tellOne_232 : decode cX11_tellOne 232 = .ok (.return_, 1) := by decide +kernel
theorem dX11_layWay_0 : decode cX11_layWay 0 = .ok (.aload_n 0, 1) := by decide +kernel
theorem dX11_layWay_1 : decode cX11_layWay 1 = .ok (.invokevirtual 197, 3) := by decide +kernel
theorem dX11_layWay_4 : decode cX11_layWay 4 = .ok (.aload_n 0, 1) := by decide +kernel
theorem dX11_layWay_5 : decode cX11_layWay 5 = .ok (.iconst 0, 1) := by decide +kernel
theorem dX11_layWay_6 : decode cX11_layWay 6 = .ok (.putfield 229, 3) := by decide +kernel
theorem dX11_layWay_9 : decode cX11_layWay 9 = .ok (.aload_n 0, 1) := by decide +kernel
theorem dX11_layWay_10 : decode cX11_layWay 10 = .ok (.iconst 0, 1) := by decide +kernel
theorem dX11_layWay_11 : decode cX11_layWay 11 = .ok (.putfield 226, 3) := by decide +kernel
theorem dX11_layWay_14 : decode cX11_layWay 14 = .ok (.aload_n 0, 1) := by decide +kernel
theorem dX11_layWay_15 : decode cX11_layWay 15 = .ok (.aload_n 0, 1) := by decide +kernel
theorem dX11_layWay_16 : decode cX11_layWay 16 = .ok (.invokevirtual 186, 3) := by decide +kernel
theorem dX11_layWay_19 : decode cX11_layWay 19 = .ok (.invokevirtual 200, 3) := by decide +kernel
theorem dX11_layWay_22 : decode cX11_layWay 22 = .ok (.ifCond .ge 5, 3) := by decide +kernel
theorem dX11_layWay_25 : decode cX11_layWay 25 = .ok (.iconst 0, 1) := by decide +kernel
theorem dX11_layWay_26 : decode cX11_layWay 26 = .ok (.ireturn, 1) := by decide +kernel
theorem dX11_layWay_27 : decode cX11_layWay 27 = .ok (.aload_n 0, 1) := by decide +kernel
theorem dX11_layWay_28 : decode cX11_layWay 28 = .ok (.aload_n 0, 1) := by decide +kernel
theorem dX11_layWay_29 : decode cX11_layWay 29 = .ok (.getfield 98, 3) := by decide +kernel
theorem dX11_layWay_32 : decode cX11_layWay 32 = .ok (.aload_n 0, 1) := by decide +kernel
theorem dX11_layWay_33 : decode cX11_layWay 33 = .ok (.invokevirtual 186, 3) := by decide +kernel
theorem dX11_layWay_36 : decode cX11_layWay 36 = .ok (.aload_n 0, 1) := by decide +kernel
theorem dX11_layWay_37 : decode cX11_layWay 37 = .ok (.aload_n 0, 1) := by decide +kernel
theorem dX11_layWay_38 : decode cX11_layWay 38 = .ok (.invokevirtual 186, 3) := by decide +kernel
theorem dX11_layWay_41 : decode cX11_layWay 41 = .ok (.invokevirtual 200, 3) := by decide +kernel
theorem dX11_layWay_44 : decode cX11_layWay 44 = .ok (.invokevirtual 236, 3) := by decide +kernel
theorem dX11_layWay_47 : decode cX11_layWay 47 = .ok (.aload_n 0, 1) := by decide +kernel
theorem dX11_layWay_48 : decode cX11_layWay 48 = .ok (.getfield 226, 3) := by decide +kernel
theorem dX11_layWay_51 : decode cX11_layWay 51 = .ok (.ifCond .le 47, 3) := by decide +kernel
theorem dX11_layWay_54 : decode cX11_layWay 54 = .ok (.aload_n 0, 1) := by decide +kernel
theorem dX11_layWay_55 : decode cX11_layWay 55 = .ok (.dup, 1) := by decide +kernel
theorem dX11_layWay_56 : decode cX11_layWay 56 = .ok (.getfield 226, 3) := by decide +kernel
theorem dX11_layWay_59 : decode cX11_layWay 59 = .ok (.iconst 1, 1) := by decide +kernel
theorem dX11_layWay_60 : decode cX11_layWay 60 = .ok (.isub, 1) := by decide +kernel
theorem dX11_layWay_61 : decode cX11_layWay 61 = .ok (.putfield 226, 3) := by decide +kernel
theorem dX11_layWay_64 : decode cX11_layWay 64 = .ok (.aload_n 0, 1) := by decide +kernel
theorem dX11_layWay_65 : decode cX11_layWay 65 = .ok (.aload_n 0, 1) := by decide +kernel
theorem dX11_layWay_66 : decode cX11_layWay 66 = .ok (.getfield 70, 3) := by decide +kernel
theorem dX11_layWay_69 : decode cX11_layWay 69 = .ok (.aload_n 0, 1) := by decide +kernel
theorem dX11_layWay_70 : decode cX11_layWay 70 = .ok (.getfield 226, 3) := by decide +kernel
theorem dX11_layWay_73 : decode cX11_layWay 73 = .ok (.iaload, 1) := by decide +kernel
theorem dX11_layWay_74 : decode cX11_layWay 74 = .ok (.aload_n 0, 1) := by decide +kernel
theorem dX11_layWay_75 : decode cX11_layWay 75 = .ok (.getfield 73, 3) := by decide +kernel
theorem dX11_layWay_78 : decode cX11_layWay 78 = .ok (.aload_n 0, 1) := by decide +kernel
theorem dX11_layWay_79 : decode cX11_layWay 79 = .ok (.getfield 226, 3) := by decide +kernel
theorem dX11_layWay_82 : decode cX11_layWay 82 = .ok (.iaload, 1) := by decide +kernel
theorem dX11_layWay_83 : decode cX11_layWay 83 = .ok (.aload_n 0, 1) := by decide +kernel
theorem dX11_layWay_84 : decode cX11_layWay 84 = .ok (.getfield 76, 3) := by decide +kernel
theorem dX11_layWay_87 : decode cX11_layWay 87 = .ok (.aload_n 0, 1) := by decide +kernel
theorem dX11_layWay_88 : decode cX11_layWay 88 = .ok (.getfield 226, 3) := by decide +kernel
theorem dX11_layWay_91 : decode cX11_layWay 91 = .ok (.iaload, 1) := by decide +kernel
theorem dX11_layWay_92 : decode cX11_layWay 92 = .ok (.invokevirtual 242, 3) := by decide +kernel
theorem dX11_layWay_95 : decode cX11_layWay 95 = .ok (.goto (-48), 3) := by decide +kernel
theorem dX11_layWay_98 : decode cX11_layWay 98 = .ok (.iconst 1, 1) := by decide +kernel
theorem dX11_layWay_99 : decode cX11_layWay 99 = .ok (.ireturn, 1) := by decide +kernel
theorem dX11_term_0 : decode cX11_term 0 = .ok (.iload_n 1, 1) := by decide +kernel
theorem dX11_term_1 : decode cX11_term 1 = .ok (.iconst (-1), 1) := by decide +kernel
theorem dX11_term_2 : decode cX11_term 2 = .ok (.if_icmp .ge 6, 3) := by decide +kernel
theorem dX11_term_5 : decode cX11_term 5 = .ok (.bipush (-2), 2) := by decide +kernel
theorem dX11_term_7 : decode cX11_term 7 = .ok (.ireturn, 1) := by decide +kernel
theorem dX11_term_8 : decode cX11_term 8 = .ok (.aload_n 0, 1) := by decide +kernel
theorem dX11_term_9 : decode cX11_term 9 = .ok (.invokevirtual 193, 3) := by decide +kernel
theorem dX11_term_12 : decode cX11_term 12 = .ok (.ifCond .ne 6, 3) := by decide +kernel
theorem dX11_term_15 : decode cX11_term 15 = .ok (.bipush (-3), 2) := by decide +kernel
theorem dX11_term_17 : decode cX11_term 17 = .ok (.ireturn, 1) := by decide +kernel
theorem dX11_term_18 : decode cX11_term 18 = .ok (.aload_n 0, 1) := by decide +kernel
theorem dX11_term_19 : decode cX11_term 19 = .ok (.invokevirtual 245, 3) := by decide +kernel
theorem dX11_term_22 : decode cX11_term 22 = .ok (.ifCond .ne 6, 3) := by decide +kernel
theorem dX11_term_25 : decode cX11_term 25 = .ok (.bipush (-6), 2) := by decide +kernel
theorem dX11_term_27 : decode cX11_term 27 = .ok (.ireturn, 1) := by decide +kernel
theorem dX11_term_28 : decode cX11_term 28 = .ok (.iload_n 1, 1) := by decide +kernel
theorem dX11_term_29 : decode cX11_term 29 = .ok (.iconst (-1), 1) := by decide +kernel
theorem dX11_term_30 : decode cX11_term 30 = .ok (.if_icmp .ne 10, 3) := by decide +kernel
theorem dX11_term_33 : decode cX11_term 33 = .ok (.aload_n 0, 1) := by decide +kernel
theorem dX11_term_34 : decode cX11_term 34 = .ok (.getfield 229, 3) := by decide +kernel
theorem dX11_term_37 : decode cX11_term 37 = .ok (.goto 22, 3) := by decide +kernel
theorem dX11_term_40 : decode cX11_term 40 = .ok (.iload_n 1, 1) := by decide +kernel
theorem dX11_term_41 : decode cX11_term 41 = .ok (.aload_n 0, 1) := by decide +kernel
theorem dX11_term_42 : decode cX11_term 42 = .ok (.getfield 229, 3) := by decide +kernel
theorem dX11_term_45 : decode cX11_term 45 = .ok (.if_icmp .ge 12, 3) := by decide +kernel
theorem dX11_term_48 : decode cX11_term 48 = .ok (.aload_n 0, 1) := by decide +kernel
theorem dX11_term_49 : decode cX11_term 49 = .ok (.getfield 67, 3) := by decide +kernel
theorem dX11_term_52 : decode cX11_term 52 = .ok (.iload_n 1, 1) := by decide +kernel
theorem dX11_term_53 : decode cX11_term 53 = .ok (.iaload, 1) := by decide +kernel
theorem dX11_term_54 : decode cX11_term 54 = .ok (.goto 5, 3) := by decide +kernel
theorem dX11_term_57 : decode cX11_term 57 = .ok (.bipush (-6), 2) := by decide +kernel
theorem dX11_term_59 : decode cX11_term 59 = .ok (.ireturn, 1) := by decide +kernel
theorem dX11_uses_0 : decode cX11_uses 0 = .ok (.iload_n 1, 1) := by decide +kernel
theorem dX11_uses_1 : decode cX11_uses 1 = .ok (.iconst 0, 1) := by decide +kernel
theorem dX11_uses_2 : decode cX11_uses 2 = .ok (.iconst 1, 1) := by decide +kernel
theorem dX11_uses_3 : decode cX11_uses 3 = .ok (.invokestatic 104, 3) := by decide +kernel
theorem dX11_uses_6 : decode cX11_uses 6 = .ok (.ifCond .ne 6, 3) := by decide +kernel
theorem dX11_uses_9 : decode cX11_uses 9 = .ok (.bipush (-2), 2) := by decide +kernel
theorem dX11_uses_11 : decode cX11_uses 11 = .ok (.ireturn, 1) := by decide +kernel
theorem dX11_uses_12 : decode cX11_uses 12 = .ok (.iload_n 2, 1) := by decide +kernel
theorem dX11_uses_13 : decode cX11_uses 13 = .ok (.iconst 0, 1) := by decide +kernel
theorem dX11_uses_14 : decode cX11_uses 14 = .ok (.iload_n 1, 1) := by decide +kernel
theorem dX11_uses_15 : decode cX11_uses 15 = .ok (.ifCond .ne 8, 3) := by decide +kernel
theorem dX11_uses_18 : decode cX11_uses 18 = .ok (.bipush 7, 2) := by decide +kernel
theorem dX11_uses_20 : decode cX11_uses 20 = .ok (.goto 4, 3) := by decide +kernel
theorem dX11_uses_23 : decode cX11_uses 23 = .ok (.iconst 3, 1) := by decide +kernel
theorem dX11_uses_24 : decode cX11_uses 24 = .ok (.invokestatic 104, 3) := by decide +kernel
theorem dX11_uses_27 : decode cX11_uses 27 = .ok (.ifCond .ne 5, 3) := by decide +kernel
theorem dX11_uses_30 : decode cX11_uses 30 = .ok (.iconst (-1), 1) := by decide +kernel
theorem dX11_uses_31 : decode cX11_uses 31 = .ok (.ireturn, 1) := by decide +kernel
theorem dX11_uses_32 : decode cX11_uses 32 = .ok (.aload_n 0, 1) := by decide +kernel
theorem dX11_uses_33 : decode cX11_uses 33 = .ok (.invokevirtual 193, 3) := by decide +kernel
theorem dX11_uses_36 : decode cX11_uses 36 = .ok (.ifCond .ne 6, 3) := by decide +kernel
theorem dX11_uses_39 : decode cX11_uses 39 = .ok (.bipush (-3), 2) := by decide +kernel
theorem dX11_uses_41 : decode cX11_uses 41 = .ok (.ireturn, 1) := by decide +kernel
theorem dX11_uses_42 : decode cX11_uses 42 = .ok (.aload_n 0, 1) := by decide +kernel
theorem dX11_uses_43 : decode cX11_uses 43 = .ok (.invokevirtual 245, 3) := by decide +kernel
theorem dX11_uses_46 : decode cX11_uses 46 = .ok (.pop, 1) := by decide +kernel
theorem dX11_uses_47 : decode cX11_uses 47 = .ok (.iconst 0, 1) := by decide +kernel
theorem dX11_uses_48 : decode cX11_uses 48 = .ok (.istore_n 3, 1) := by decide +kernel
theorem dX11_uses_49 : decode cX11_uses 49 = .ok (.iconst 0, 1) := by decide +kernel
theorem dX11_uses_50 : decode cX11_uses 50 = .ok (.istore 4, 2) := by decide +kernel
theorem dX11_uses_52 : decode cX11_uses 52 = .ok (.iload 4, 2) := by decide +kernel
theorem dX11_uses_54 : decode cX11_uses 54 = .ok (.aload_n 0, 1) := by decide +kernel
theorem dX11_uses_55 : decode cX11_uses 55 = .ok (.getfield 229, 3) := by decide +kernel
theorem dX11_uses_58 : decode cX11_uses 58 = .ok (.if_icmp .ge 49, 3) := by decide +kernel
theorem dX11_uses_61 : decode cX11_uses 61 = .ok (.iload_n 3, 1) := by decide +kernel
theorem dX11_uses_62 : decode cX11_uses 62 = .ok (.aload_n 0, 1) := by decide +kernel
theorem dX11_uses_63 : decode cX11_uses 63 = .ok (.getfield 67, 3) := by decide +kernel
theorem dX11_uses_66 : decode cX11_uses 66 = .ok (.iload 4, 2) := by decide +kernel
theorem dX11_uses_68 : decode cX11_uses 68 = .ok (.iaload, 1) := by decide +kernel
theorem dX11_uses_69 : decode cX11_uses 69 = .ok (.sipush 200, 3) := by decide +kernel
theorem dX11_uses_72 : decode cX11_uses 72 = .ok (.if_icmp .ge 26, 3) := by decide +kernel
theorem dX11_uses_75 : decode cX11_uses 75 = .ok (.aload_n 0, 1) := by decide +kernel
theorem dX11_uses_76 : decode cX11_uses 76 = .ok (.getfield 67, 3) := by decide +kernel
theorem dX11_uses_79 : decode cX11_uses 79 = .ok (.iload 4, 2) := by decide +kernel
theorem dX11_uses_81 : decode cX11_uses 81 = .ok (.iaload, 1) := by decide +kernel
theorem dX11_uses_82 : decode cX11_uses 82 = .ok (.bipush 10, 2) := by decide +kernel
theorem dX11_uses_84 : decode cX11_uses 84 = .ok (.idiv, 1) := by decide +kernel
theorem dX11_uses_85 : decode cX11_uses 85 = .ok (.bipush 10, 2) := by decide +kernel
theorem dX11_uses_87 : decode cX11_uses 87 = .ok (.iload_n 1, 1) := by decide +kernel
theorem dX11_uses_88 : decode cX11_uses 88 = .ok (.imul, 1) := by decide +kernel
theorem dX11_uses_89 : decode cX11_uses 89 = .ok (.iload_n 2, 1) := by decide +kernel
theorem dX11_uses_90 : decode cX11_uses 90 = .ok (.iadd, 1) := by decide +kernel
theorem dX11_uses_91 : decode cX11_uses 91 = .ok (.if_icmp .ne 7, 3) := by decide +kernel
theorem dX11_uses_94 : decode cX11_uses 94 = .ok (.iconst 1, 1) := by decide +kernel
theorem dX11_uses_95 : decode cX11_uses 95 = .ok (.goto 4, 3) := by decide +kernel
theorem dX11_uses_98 : decode cX11_uses 98 = .ok (.iconst 0, 1) := by decide +kernel
theorem dX11_uses_99 : decode cX11_uses 99 = .ok (.iadd, 1) := by decide +kernel
theorem dX11_uses_100 : decode cX11_uses 100 = .ok (.istore_n 3, 1) := by decide +kernel
theorem dX11_uses_101 : decode cX11_uses 101 = .ok (.iinc 4 1, 3) := by decide +kernel
theorem dX11_uses_104 : decode cX11_uses 104 = .ok (.goto (-52), 3) := by decide +kernel
theorem dX11_uses_107 : decode cX11_uses 107 = .ok (.iload_n 3, 1) := by decide +kernel
theorem dX11_uses_108 : decode cX11_uses 108 = .ok (.ireturn, 1) := by decide +kernel
theorem dX11_put_0 : decode cX11_put 0 = .ok (.iload_n 1, 1) := by decide +kernel
theorem dX11_put_1 : decode cX11_put 1 = .ok (.iconst 0, 1) := by decide +kernel
theorem dX11_put_2 : decode cX11_put 2 = .ok (.sipush 499, 3) := by decide +kernel
theorem dX11_put_5 : decode cX11_put 5 = .ok (.invokestatic 104, 3) := by decide +kernel
theorem dX11_put_8 : decode cX11_put 8 = .ok (.ifCond .ne 6, 3) := by decide +kernel
theorem dX11_put_11 : decode cX11_put 11 = .ok (.bipush (-2), 2) := by decide +kernel
theorem dX11_put_13 : decode cX11_put 13 = .ok (.ireturn, 1) := by decide +kernel
theorem dX11_put_14 : decode cX11_put 14 = .ok (.aload_n 0, 1) := by decide +kernel
theorem dX11_put_15 : decode cX11_put 15 = .ok (.getfield 248, 3) := by decide +kernel
theorem dX11_put_18 : decode cX11_put 18 = .ok (.bipush 60, 2) := by decide +kernel
theorem dX11_put_20 : decode cX11_put 20 = .ok (.if_icmp .ne 6, 3) := by decide +kernel
theorem dX11_put_23 : decode cX11_put 23 = .ok (.bipush (-4), 2) := by decide +kernel
theorem dX11_put_25 : decode cX11_put 25 = .ok (.ireturn, 1) := by decide +kernel
theorem dX11_put_26 : decode cX11_put 26 = .ok (.aload_n 0, 1) := by decide +kernel
theorem dX11_put_27 : decode cX11_put 27 = .ok (.getfield 20, 3) := by decide +kernel
theorem dX11_put_30 : decode cX11_put 30 = .ok (.aload_n 0, 1) := by decide +kernel
theorem dX11_put_31 : decode cX11_put 31 = .ok (.getfield 248, 3) := by decide +kernel
theorem dX11_put_34 : decode cX11_put 34 = .ok (.iload_n 1, 1) := by decide +kernel
theorem dX11_put_35 : decode cX11_put 35 = .ok (.iastore, 1) := by decide +kernel
theorem dX11_put_36 : decode cX11_put 36 = .ok (.aload_n 0, 1) := by decide +kernel
theorem dX11_put_37 : decode cX11_put 37 = .ok (.dup, 1) := by decide +kernel
theorem dX11_put_38 : decode cX11_put 38 = .ok (.getfield 248, 3) := by decide +kernel
theorem dX11_put_41 : decode cX11_put 41 = .ok (.iconst 1, 1) := by decide +kernel
theorem dX11_put_42 : decode cX11_put 42 = .ok (.iadd, 1) := by decide +kernel
theorem dX11_put_43 : decode cX11_put 43 = .ok (.putfield 248, 3) := by decide +kernel
theorem dX11_put_46 : decode cX11_put 46 = .ok (.aload_n 0, 1) := by decide +kernel
theorem dX11_put_47 : decode cX11_put 47 = .ok (.getfield 248, 3) := by decide +kernel
theorem dX11_put_50 : decode cX11_put 50 = .ok (.ireturn, 1) := by decide +kernel
theorem dX11_trial_0 : decode cX11_trial 0 = .ok (.iload_n 1, 1) := by decide +kernel
theorem dX11_trial_1 : decode cX11_trial 1 = .ok (.iconst 0, 1) := by decide +kernel
theorem dX11_trial_2 : decode cX11_trial 2 = .ok (.iconst 1, 1) := by decide +kernel
theorem dX11_trial_3 : decode cX11_trial 3 = .ok (.invokestatic 104, 3) := by decide +kernel
theorem dX11_trial_6 : decode cX11_trial 6 = .ok (.ifCond .ne 6, 3) := by decide +kernel
theorem dX11_trial_9 : decode cX11_trial 9 = .ok (.bipush (-2), 2) := by decide +kernel
theorem dX11_trial_11 : decode cX11_trial 11 = .ok (.ireturn, 1) := by decide +kernel
theorem dX11_trial_12 : decode cX11_trial 12 = .ok (.iload_n 1, 1) := by decide +kernel
theorem dX11_trial_13 : decode cX11_trial 13 = .ok (.iconst 1, 1) := by decide +kernel
theorem dX11_trial_14 : decode cX11_trial 14 = .ok (.if_icmp .ne 13, 3) := by decide +kernel
theorem dX11_trial_17 : decode cX11_trial 17 = .ok (.aload_n 0, 1) := by decide +kernel
theorem dX11_trial_18 : decode cX11_trial 18 = .ok (.invokevirtual 193, 3) := by decide +kernel
theorem dX11_trial_21 : decode cX11_trial 21 = .ok (.ifCond .ne 6, 3) := by decide +kernel
theorem dX11_trial_24 : decode cX11_trial 24 = .ok (.bipush (-3), 2) := by decide +kernel
theorem dX11_trial_26 : decode cX11_trial 26 = .ok (.ireturn, 1) := by decide +kernel
theorem dX11_trial_27 : decode cX11_trial 27 = .ok (.aload_n 0, 1) := by decide +kernel
theorem dX11_trial_28 : decode cX11_trial 28 = .ok (.iconst 0, 1) := by decide +kernel
theorem dX11_trial_29 : decode cX11_trial 29 = .ok (.putfield 248, 3) := by decide +kernel
theorem dX11_trial_32 : decode cX11_trial 32 = .ok (.iload_n 1, 1) := by decide +kernel
theorem dX11_trial_33 : decode cX11_trial 33 = .ok (.iconst 1, 1) := by decide +kernel
theorem dX11_trial_34 : decode cX11_trial 34 = .ok (.if_icmp .ne 52, 3) := by decide +kernel
theorem dX11_trial_37 : decode cX11_trial 37 = .ok (.aload_n 0, 1) := by decide +kernel
theorem dX11_trial_38 : decode cX11_trial 38 = .ok (.invokevirtual 245, 3) := by decide +kernel
theorem dX11_trial_41 : decode cX11_trial 41 = .ok (.pop, 1) := by decide +kernel
theorem dX11_trial_42 : decode cX11_trial 42 = .ok (.iconst 0, 1) := by decide +kernel
theorem dX11_trial_43 : decode cX11_trial 43 = .ok (.istore_n 2, 1) := by decide +kernel
theorem dX11_trial_44 : decode cX11_trial 44 = .ok (.iload_n 2, 1) := by decide +kernel
theorem dX11_trial_45 : decode cX11_trial 45 = .ok (.aload_n 0, 1) := by decide +kernel
theorem dX11_trial_46 : decode cX11_trial 46 = .ok (.getfield 229, 3) := by decide +kernel
theorem dX11_trial_49 : decode cX11_trial 49 = .ok (.if_icmp .ge 37, 3) := by decide +kernel
theorem dX11_trial_52 : decode cX11_trial 52 = .ok (.iload_n 2, 1) := by decide +kernel
theorem dX11_trial_53 : decode cX11_trial 53 = .ok (.bipush 60, 2) := by decide +kernel
theorem dX11_trial_55 : decode cX11_trial 55 = .ok (.if_icmp .ge 31, 3) := by decide +kernel
theorem dX11_trial_58 : decode cX11_trial 58 = .ok (.aload_n 0, 1) := by decide +kernel
theorem dX11_trial_59 : decode cX11_trial 59 = .ok (.getfield 20, 3) := by decide +kernel
theorem dX11_trial_62 : decode cX11_trial 62 = .ok (.iload_n 2, 1) := by decide +kernel
theorem dX11_trial_63 : decode cX11_trial 63 = .ok (.aload_n 0, 1) := by decide +kernel
theorem dX11_trial_64 : decode cX11_trial 64 = .ok (.getfield 67, 3) := by decide +kernel
theorem dX11_trial_67 : decode cX11_trial 67 = .ok (.iload_n 2, 1) := by decide +kernel
theorem dX11_trial_68 : decode cX11_trial 68 = .ok (.iaload, 1) := by decide +kernel
theorem dX11_trial_69 : decode cX11_trial 69 = .ok (.iastore, 1) := by decide +kernel
theorem dX11_trial_70 : decode cX11_trial 70 = .ok (.aload_n 0, 1) := by decide +kernel
theorem dX11_trial_71 : decode cX11_trial 71 = .ok (.dup, 1) := by decide +kernel
theorem dX11_trial_72 : decode cX11_trial 72 = .ok (.getfield 248, 3) := by decide +kernel
theorem dX11_trial_75 : decode cX11_trial 75 = .ok (.iconst 1, 1) := by decide +kernel
theorem dX11_trial_76 : decode cX11_trial 76 = .ok (.iadd, 1) := by decide +kernel
theorem dX11_trial_77 : decode cX11_trial 77 = .ok (.putfield 248, 3) := by decide +kernel
theorem dX11_trial_80 : decode cX11_trial 80 = .ok (.iinc 2 1, 3) := by decide +kernel
theorem dX11_trial_83 : decode cX11_trial 83 = .ok (.goto (-39), 3) := by decide +kernel
theorem dX11_trial_86 : decode cX11_trial 86 = .ok (.aload_n 0, 1) := by decide +kernel
theorem dX11_trial_87 : decode cX11_trial 87 = .ok (.getfield 248, 3) := by decide +kernel
theorem dX11_trial_90 : decode cX11_trial 90 = .ok (.ireturn, 1) := by decide +kernel
theorem dX11_checkAtom_0 : decode cX11_checkAtom 0 = .ok (.aload_n 0, 1) := by decide +kernel
theorem dX11_checkAtom_1 : decode cX11_checkAtom 1 = .ok (.getfield 251, 3) := by decide +kernel
theorem dX11_checkAtom_4 : decode cX11_checkAtom 4 = .ok (.aload_n 0, 1) := by decide +kernel
theorem dX11_checkAtom_5 : decode cX11_checkAtom 5 = .ok (.getfield 248, 3) := by decide +kernel
theorem dX11_checkAtom_8 : decode cX11_checkAtom 8 = .ok (.if_icmp .ne 5, 3) := by decide +kernel
theorem dX11_checkAtom_11 : decode cX11_checkAtom 11 = .ok (.iconst 2, 1) := by decide +kernel
theorem dX11_checkAtom_12 : decode cX11_checkAtom 12 = .ok (.ireturn, 1) := by decide +kernel
theorem dX11_checkAtom_13 : decode cX11_checkAtom 13 = .ok (.aload_n 0, 1) := by decide +kernel
theorem dX11_checkAtom_14 : decode cX11_checkAtom 14 = .ok (.getfield 20, 3) := by decide +kernel
theorem dX11_checkAtom_17 : decode cX11_checkAtom 17 = .ok (.aload_n 0, 1) := by decide +kernel
theorem dX11_checkAtom_18 : decode cX11_checkAtom 18 = .ok (.getfield 251, 3) := by decide +kernel
theorem dX11_checkAtom_21 : decode cX11_checkAtom 21 = .ok (.iaload, 1) := by decide +kernel
theorem dX11_checkAtom_22 : decode cX11_checkAtom 22 = .ok (.istore 4, 2) := by decide +kernel
theorem dX11_checkAtom_24 : decode cX11_checkAtom 24 = .ok (.iload 4, 2) := by decide +kernel
theorem dX11_checkAtom_26 : decode cX11_checkAtom 26 = .ok (.bipush 100, 2) := by decide +kernel
theorem dX11_checkAtom_28 : decode cX11_checkAtom 28 = .ok (.if_icmp .ge 11, 3) := by decide +kernel
theorem dX11_checkAtom_31 : decode cX11_checkAtom 31 = .ok (.iload 4, 2) := by decide +kernel
theorem dX11_checkAtom_33 : decode cX11_checkAtom 33 = .ok (.bipush 10, 2) := by decide +kernel
theorem dX11_checkAtom_35 : decode cX11_checkAtom 35 = .ok (.idiv, 1) := by decide +kernel
theorem dX11_checkAtom_36 : decode cX11_checkAtom 36 = .ok (.goto 11, 3) := by decide +kernel
theorem dX11_checkAtom_39 : decode cX11_checkAtom 39 = .ok (.iload 4, 2) := by decide +kernel
theorem dX11_checkAtom_41 : decode cX11_checkAtom 41 = .ok (.bipush 100, 2) := by decide +kernel
theorem dX11_checkAtom_43 : decode cX11_checkAtom 43 = .ok (.isub, 1) := by decide +kernel
theorem dX11_checkAtom_44 : decode cX11_checkAtom 44 = .ok (.bipush 10, 2) := by decide +kernel
theorem dX11_checkAtom_46 : decode cX11_checkAtom 46 = .ok (.idiv, 1) := by decide +kernel
theorem dX11_checkAtom_47 : decode cX11_checkAtom 47 = .ok (.istore 5, 2) := by decide +kernel
theorem dX11_checkAtom_49 : decode cX11_checkAtom 49 = .ok (.iload 4, 2) := by decide +kernel
theorem dX11_checkAtom_51 : decode cX11_checkAtom 51 = .ok (.bipush 100, 2) := by decide +kernel
theorem dX11_checkAtom_53 : decode cX11_checkAtom 53 = .ok (.if_icmp .ge 27, 3) := by decide +kernel
theorem dX11_checkAtom_56 : decode cX11_checkAtom 56 = .ok (.iload 5, 2) := by decide +kernel
theorem dX11_checkAtom_58 : decode cX11_checkAtom 58 = .ok (.bipush 8, 2) := by decide +kernel
theorem dX11_checkAtom_60 : decode cX11_checkAtom 60 = .ok (.if_icmp .ge 16, 3) := by decide +kernel
theorem dX11_checkAtom_63 : decode cX11_checkAtom 63 = .ok (.iload_n 2, 1) := by decide +kernel
theorem dX11_checkAtom_64 : decode cX11_checkAtom 64 = .ok (.iload 5, 2) := by decide +kernel
theorem dX11_checkAtom_66 : decode cX11_checkAtom 66 = .ok (.invokestatic 171, 3) := by decide +kernel
theorem dX11_checkAtom_69 : decode cX11_checkAtom 69 = .ok (.ifCond .eq 7, 3) := by decide +kernel
theorem dX11_checkAtom_72 : decode cX11_checkAtom 72 = .ok (.iconst 1, 1) := by decide +kernel
theorem dX11_checkAtom_73 : decode cX11_checkAtom 73 = .ok (.goto 26, 3) := by decide +kernel
theorem dX11_checkAtom_76 : decode cX11_checkAtom 76 = .ok (.iconst 0, 1) := by decide +kernel
theorem dX11_checkAtom_77 : decode cX11_checkAtom 77 = .ok (.goto 22, 3) := by decide +kernel
theorem dX11_checkAtom_80 : decode cX11_checkAtom 80 = .ok (.iload 4, 2) := by decide +kernel
theorem dX11_checkAtom_82 : decode cX11_checkAtom 82 = .ok (.sipush 200, 3) := by decide +kernel
theorem dX11_checkAtom_85 : decode cX11_checkAtom 85 = .ok (.if_icmp .ge 13, 3) := by decide +kernel
theorem dX11_checkAtom_88 : decode cX11_checkAtom 88 = .ok (.iload 5, 2) := by decide +kernel
theorem dX11_checkAtom_90 : decode cX11_checkAtom 90 = .ok (.iconst 4, 1) := by decide +kernel
theorem dX11_checkAtom_91 : decode cX11_checkAtom 91 = .ok (.if_icmp .ge 7, 3) := by decide +kernel
theorem dX11_checkAtom_94 : decode cX11_checkAtom 94 = .ok (.iconst 1, 1) := by decide +kernel
theorem dX11_checkAtom_95 : decode cX11_checkAtom 95 = .ok (.goto 4, 3) := by decide +kernel
theorem dX11_checkAtom_98 : decode cX11_checkAtom 98 = .ok (.iconst 0, 1) := by decide +kernel
theorem dX11_checkAtom_99 : decode cX11_checkAtom 99 = .ok (.istore 6, 2) := by decide +kernel
theorem dX11_checkAtom_101 : decode cX11_checkAtom 101 = .ok (.iload 4, 2) := by decide +kernel
theorem dX11_checkAtom_103 : decode cX11_checkAtom 103 = .ok (.bipush 100, 2) := by decide +kernel
theorem dX11_checkAtom_105 : decode cX11_checkAtom 105 = .ok (.if_icmp .ge 8, 3) := by decide +kernel
theorem dX11_checkAtom_108 : decode cX11_checkAtom 108 = .ok (.iload 5, 2) := by decide +kernel
theorem dX11_checkAtom_110 : decode cX11_checkAtom 110 = .ok (.goto 8, 3) := by decide +kernel
theorem dX11_checkAtom_113 : decode cX11_checkAtom 113 = .ok (.bipush 8, 2) := by decide +kernel
theorem dX11_checkAtom_115 : decode cX11_checkAtom 115 = .ok (.iload 5, 2) := by decide +kernel
theorem dX11_checkAtom_117 : decode cX11_checkAtom 117 = .ok (.iadd, 1) := by decide +kernel
theorem dX11_checkAtom_118 : decode cX11_checkAtom 118 = .ok (.istore 7, 2) := by decide +kernel
theorem dX11_checkAtom_120 : decode cX11_checkAtom 120 = .ok (.iload 6, 2) := by decide +kernel
theorem dX11_checkAtom_122 : decode cX11_checkAtom 122 = .ok (.ifCond .eq 37, 3) := by decide +kernel
theorem dX11_checkAtom_125 : decode cX11_checkAtom 125 = .ok (.iload 4, 2) := by decide +kernel
theorem dX11_checkAtom_127 : decode cX11_checkAtom 127 = .ok (.bipush 10, 2) := by decide +kernel
theorem dX11_checkAtom_129 : decode cX11_checkAtom 129 = .ok (.irem, 1) := by decide +kernel
theorem dX11_checkAtom_130 : decode cX11_checkAtom 130 = .ok (.aload_n 0, 1) := by decide +kernel
theorem dX11_checkAtom_131 : decode cX11_checkAtom 131 = .ok (.getfield 32, 3) := by decide +kernel
theorem dX11_checkAtom_134 : decode cX11_checkAtom 134 = .ok (.iload 7, 2) := by decide +kernel
theorem dX11_checkAtom_136 : decode cX11_checkAtom 136 = .ok (.iaload, 1) := by decide +kernel
theorem dX11_checkAtom_137 : decode cX11_checkAtom 137 = .ok (.if_icmp .ge 22, 3) := by decide +kernel
theorem dX11_checkAtom_140 : decode cX11_checkAtom 140 = .ok (.aload_n 0, 1) := by decide +kernel
theorem dX11_checkAtom_141 : decode cX11_checkAtom 141 = .ok (.getfield 35, 3) := by decide +kernel
theorem dX11_checkAtom_144 : decode cX11_checkAtom 144 = .ok (.iconst 3, 1) := by decide +kernel
theorem dX11_checkAtom_145 : decode cX11_checkAtom 145 = .ok (.iload 7, 2) := by decide +kernel
theorem dX11_checkAtom_147 : decode cX11_checkAtom 147 = .ok (.imul, 1) := by decide +kernel
theorem dX11_checkAtom_148 : decode cX11_checkAtom 148 = .ok (.iload 4, 2) := by decide +kernel
theorem dX11_checkAtom_150 : decode cX11_checkAtom 150 = .ok (.bipush 10, 2) := by decide +kernel
theorem dX11_checkAtom_152 : decode cX11_checkAtom 152 = .ok (.irem, 1) := by decide +kernel
theorem dX11_checkAtom_153 : decode cX11_checkAtom 153 = .ok (.iadd, 1) := by decide +kernel
theorem dX11_checkAtom_154 : decode cX11_checkAtom 154 = .ok (.iaload, 1) := by decide +kernel
theorem dX11_checkAtom_155 : decode cX11_checkAtom 155 = .ok (.iload_n 1, 1) := by decide +kernel
theorem dX11_checkAtom_156 : decode cX11_checkAtom 156 = .ok (.if_icmp .eq 5, 3) := by decide +kernel
theorem dX11_checkAtom_159 : decode cX11_checkAtom 159 = .ok (.iconst 3, 1) := by decide +kernel
theorem dX11_checkAtom_160 : decode cX11_checkAtom 160 = .ok (.ireturn, 1) := by decide +kernel
theorem dX11_checkAtom_161 : decode cX11_checkAtom 161 = .ok (.aload_n 0, 1) := by decide +kernel
theorem dX11_checkAtom_162 : decode cX11_checkAtom 162 = .ok (.dup, 1) := by decide +kernel
theorem dX11_checkAtom_163 : decode cX11_checkAtom 163 = .ok (.getfield 251, 3) := by decide +kernel
theorem dX11_checkAtom_166 : decode cX11_checkAtom 166 = .ok (.iconst 1, 1) := by decide +kernel
theorem dX11_checkAtom_167 : decode cX11_checkAtom 167 = .ok (.iadd, 1) := by decide +kernel
theorem dX11_checkAtom_168 : decode cX11_checkAtom 168 = .ok (.putfield 251, 3) := by decide +kernel
theorem dX11_checkAtom_171 : decode cX11_checkAtom 171 = .ok (.iload 4, 2) := by decide +kernel
theorem dX11_checkAtom_173 : decode cX11_checkAtom 173 = .ok (.bipush 100, 2) := by decide +kernel
theorem dX11_checkAtom_175 : decode cX11_checkAtom 175 = .ok (.if_icmp .ge 14, 3) := by decide +kernel
theorem dX11_checkAtom_178 : decode cX11_checkAtom 178 = .ok (.iload_n 2, 1) := by decide +kernel
theorem dX11_checkAtom_179 : decode cX11_checkAtom 179 = .ok (.iconst 1, 1) := by decide +kernel
theorem dX11_checkAtom_180 : decode cX11_checkAtom 180 = .ok (.iload 5, 2) := by decide +kernel
theorem dX11_checkAtom_182 : decode cX11_checkAtom 182 = .ok (.ishl, 1) := by decide +kernel
theorem dX11_checkAtom_183 : decode cX11_checkAtom 183 = .ok (.iconst (-1), 1) := by decide +kernel
theorem dX11_checkAtom_184 : decode cX11_checkAtom 184 = .ok (.ixor, 1) := by decide +kernel
theorem dX11_checkAtom_185 : decode cX11_checkAtom 185 = .ok (.iand, 1) := by decide +kernel
theorem dX11_checkAtom_186 : decode cX11_checkAtom 186 = .ok (.goto 4, 3) := by decide +kernel
theorem dX11_checkAtom_189 : decode cX11_checkAtom 189 = .ok (.iload_n 2, 1) := by decide +kernel
theorem dX11_checkAtom_190 : decode cX11_checkAtom 190 = .ok (.istore 8, 2) := by decide +kernel
theorem dX11_checkAtom_192 : decode cX11_checkAtom 192 = .ok (.aload_n 0, 1) := by decide +kernel
theorem dX11_checkAtom_193 : decode cX11_checkAtom 193 = .ok (.getfield 38, 3) := by decide +kernel
theorem dX11_checkAtom_196 : decode cX11_checkAtom 196 = .ok (.iconst 3, 1) := by decide +kernel
theorem dX11_checkAtom_197 : decode cX11_checkAtom 197 = .ok (.iload 7, 2) := by decide +kernel
theorem dX11_checkAtom_199 : decode cX11_checkAtom 199 = .ok (.imul, 1) := by decide +kernel
theorem dX11_checkAtom_200 : decode cX11_checkAtom 200 = .ok (.iload 4, 2) := by decide +kernel
theorem dX11_checkAtom_202 : decode cX11_checkAtom 202 = .ok (.bipush 10, 2) := by decide +kernel
theorem dX11_checkAtom_204 : decode cX11_checkAtom 204 = .ok (.irem, 1) := by decide +kernel
theorem dX11_checkAtom_205 : decode cX11_checkAtom 205 = .ok (.iadd, 1) := by decide +kernel
theorem dX11_checkAtom_206 : decode cX11_checkAtom 206 = .ok (.iaload, 1) := by decide +kernel
theorem dX11_checkAtom_207 : decode cX11_checkAtom 207 = .ok (.istore 9, 2) := by decide +kernel
theorem dX11_checkAtom_209 : decode cX11_checkAtom 209 = .ok (.iload 9, 2) := by decide +kernel
theorem dX11_checkAtom_211 : decode cX11_checkAtom 211 = .ok (.ifCond .lt 16, 3) := by decide +kernel
theorem dX11_checkAtom_214 : decode cX11_checkAtom 214 = .ok (.aload_n 0, 1) := by decide +kernel
theorem dX11_checkAtom_215 : decode cX11_checkAtom 215 = .ok (.iload 9, 2) := by decide +kernel
theorem dX11_checkAtom_217 : decode cX11_checkAtom 217 = .ok (.iload 8, 2) := by decide +kernel
theorem dX11_checkAtom_219 : decode cX11_checkAtom 219 = .ok (.iload_n 3, 1) := by decide +kernel
theorem dX11_checkAtom_220 : decode cX11_checkAtom 220 = .ok (.iconst 1, 1) := by decide +kernel
theorem dX11_checkAtom_221 : decode cX11_checkAtom 221 = .ok (.iadd, 1) := by decide +kernel
theorem dX11_checkAtom_222 : decode cX11_checkAtom 222 = .ok (.invokevirtual 236, 3) := by decide +kernel
theorem dX11_checkAtom_225 : decode cX11_checkAtom 225 = .ok (.iconst 0, 1) := by decide +kernel
theorem dX11_checkAtom_226 : decode cX11_checkAtom 226 = .ok (.ireturn, 1) := by decide +kernel
theorem dX11_checkAtom_227 : decode cX11_checkAtom 227 = .ok (.iload 8, 2) := by decide +kernel
theorem dX11_checkAtom_229 : decode cX11_checkAtom 229 = .ok (.ifCond .ne 7, 3) := by decide +kernel
theorem dX11_checkAtom_232 : decode cX11_checkAtom 232 = .ok (.iconst 0, 1) := by decide +kernel
theorem dX11_checkAtom_233 : decode cX11_checkAtom 233 = .ok (.goto 4, 3) := by decide +kernel
theorem dX11_checkAtom_236 : decode cX11_checkAtom 236 = .ok (.iconst 4, 1) := by decide +kernel
theorem dX11_checkAtom_237 : decode cX11_checkAtom 237 = .ok (.ireturn, 1) := by decide +kernel
theorem dX11_checkParts_0 : decode cX11_checkParts 0 = .ok (.aload_n 0, 1) := by decide +kernel
theorem dX11_checkParts_1 : decode cX11_checkParts 1 = .ok (.getfield 251, 3) := by decide +kernel
theorem dX11_checkParts_4 : decode cX11_checkParts 4 = .ok (.aload_n 0, 1) := by decide +kernel
theorem dX11_checkParts_5 : decode cX11_checkParts 5 = .ok (.getfield 248, 3) := by decide +kernel
theorem dX11_checkParts_8 : decode cX11_checkParts 8 = .ok (.if_icmp .ne 5, 3) := by decide +kernel
theorem dX11_checkParts_11 : decode cX11_checkParts 11 = .ok (.iconst 2, 1) := by decide +kernel
theorem dX11_checkParts_12 : decode cX11_checkParts 12 = .ok (.ireturn, 1) := by decide +kernel
theorem dX11_checkParts_13 : decode cX11_checkParts 13 = .ok (.aload_n 0, 1) := by decide +kernel
theorem dX11_checkParts_14 : decode cX11_checkParts 14 = .ok (.getfield 20, 3) := by decide +kernel
theorem dX11_checkParts_17 : decode cX11_checkParts 17 = .ok (.aload_n 0, 1) := by decide +kernel
theorem dX11_checkParts_18 : decode cX11_checkParts 18 = .ok (.getfield 251, 3) := by decide +kernel
theorem dX11_checkParts_21 : decode cX11_checkParts 21 = .ok (.iaload, 1) := by decide +kernel
theorem dX11_checkParts_22 : decode cX11_checkParts 22 = .ok (.sipush 200, 3) := by decide +kernel
theorem dX11_checkParts_25 : decode cX11_checkParts 25 = .ok (.isub, 1) := by decide +kernel
theorem dX11_checkParts_26 : decode cX11_checkParts 26 = .ok (.istore 4, 2) := by decide +kernel
theorem dX11_checkParts_28 : decode cX11_checkParts 28 = .ok (.iload 4, 2) := by decide +kernel
theorem dX11_checkParts_30 : decode cX11_checkParts 30 = .ok (.ifCond .lt 12, 3) := by decide +kernel
theorem dX11_checkParts_33 : decode cX11_checkParts 33 = .ok (.iload 4, 2) := by decide +kernel
theorem dX11_checkParts_35 : decode cX11_checkParts 35 = .ok (.iload_n 2, 1) := by decide +kernel
theorem dX11_checkParts_36 : decode cX11_checkParts 36 = .ok (.iconst (-1), 1) := by decide +kernel
theorem dX11_checkParts_37 : decode cX11_checkParts 37 = .ok (.ixor, 1) := by decide +kernel
theorem dX11_checkParts_38 : decode cX11_checkParts 38 = .ok (.iand, 1) := by decide +kernel
theorem dX11_checkParts_39 : decode cX11_checkParts 39 = .ok (.ifCond .eq 5, 3) := by decide +kernel
theorem dX11_checkParts_42 : decode cX11_checkParts 42 = .ok (.iconst 3, 1) := by decide +kernel
theorem dX11_checkParts_43 : decode cX11_checkParts 43 = .ok (.ireturn, 1) := by decide +kernel
theorem dX11_checkParts_44 : decode cX11_checkParts 44 = .ok (.aload_n 0, 1) := by decide +kernel
theorem dX11_checkParts_45 : decode cX11_checkParts 45 = .ok (.dup, 1) := by decide +kernel
theorem dX11_checkParts_46 : decode cX11_checkParts 46 = .ok (.getfield 251, 3) := by decide +kernel
theorem dX11_checkParts_49 : decode cX11_checkParts 49 = .ok (.iconst 1, 1) := by decide +kernel
theorem dX11_checkParts_50 : decode cX11_checkParts 50 = .ok (.iadd, 1) := by decide +kernel
theorem dX11_checkParts_51 : decode cX11_checkParts 51 = .ok (.putfield 251, 3) := by decide +kernel
theorem dX11_checkParts_54 : decode cX11_checkParts 54 = .ok (.aload_n 0, 1) := by decide +kernel
theorem dX11_checkParts_55 : decode cX11_checkParts 55 = .ok (.aload_n 0, 1) := by decide +kernel
theorem dX11_checkParts_56 : decode cX11_checkParts 56 = .ok (.getfield 29, 3) := by decide +kernel
theorem dX11_checkParts_59 : decode cX11_checkParts 59 = .ok (.iload_n 1, 1) := by decide +kernel
theorem dX11_checkParts_60 : decode cX11_checkParts 60 = .ok (.iaload, 1) := by decide +kernel
theorem dX11_checkParts_61 : decode cX11_checkParts 61 = .ok (.iload_n 2, 1) := by decide +kernel
theorem dX11_checkParts_62 : decode cX11_checkParts 62 = .ok (.iload 4, 2) := by decide +kernel
theorem dX11_checkParts_64 : decode cX11_checkParts 64 = .ok (.iconst (-1), 1) := by decide +kernel
theorem dX11_checkParts_65 : decode cX11_checkParts 65 = .ok (.ixor, 1) := by decide +kernel
theorem dX11_checkParts_66 : decode cX11_checkParts 66 = .ok (.iand, 1) := by decide +kernel
theorem dX11_checkParts_67 : decode cX11_checkParts 67 = .ok (.iload_n 3, 1) := by decide +kernel
theorem dX11_checkParts_68 : decode cX11_checkParts 68 = .ok (.iconst 1, 1) := by decide +kernel
theorem dX11_checkParts_69 : decode cX11_checkParts 69 = .ok (.iadd, 1) := by decide +kernel
theorem dX11_checkParts_70 : decode cX11_checkParts 70 = .ok (.invokevirtual 236, 3) := by decide +kernel
theorem dX11_checkParts_73 : decode cX11_checkParts 73 = .ok (.aload_n 0, 1) := by decide +kernel
theorem dX11_checkParts_74 : decode cX11_checkParts 74 = .ok (.aload_n 0, 1) := by decide +kernel
theorem dX11_checkParts_75 : decode cX11_checkParts 75 = .ok (.getfield 26, 3) := by decide +kernel
theorem dX11_checkParts_78 : decode cX11_checkParts 78 = .ok (.iload_n 1, 1) := by decide +kernel
theorem dX11_checkParts_79 : decode cX11_checkParts 79 = .ok (.iaload, 1) := by decide +kernel
theorem dX11_checkParts_80 : decode cX11_checkParts 80 = .ok (.iload 4, 2) := by decide +kernel
theorem dX11_checkParts_82 : decode cX11_checkParts 82 = .ok (.iload_n 3, 1) := by decide +kernel
theorem dX11_checkParts_83 : decode cX11_checkParts 83 = .ok (.iconst 1, 1) := by decide +kernel
theorem dX11_checkParts_84 : decode cX11_checkParts 84 = .ok (.iadd, 1) := by decide +kernel
theorem dX11_checkParts_85 : decode cX11_checkParts 85 = .ok (.invokevirtual 236, 3) := by decide +kernel
theorem dX11_checkParts_88 : decode cX11_checkParts 88 = .ok (.iconst 0, 1) := by decide +kernel
theorem dX11_checkParts_89 : decode cX11_checkParts 89 = .ok (.ireturn, 1) := by decide +kernel
theorem dX11_checkPlus_0 : decode cX11_checkPlus 0 = .ok (.aload_n 0, 1) := by decide +kernel
theorem dX11_checkPlus_1 : decode cX11_checkPlus 1 = .ok (.getfield 251, 3) := by decide +kernel
theorem dX11_checkPlus_4 : decode cX11_checkPlus 4 = .ok (.aload_n 0, 1) := by decide +kernel
theorem dX11_checkPlus_5 : decode cX11_checkPlus 5 = .ok (.getfield 248, 3) := by decide +kernel
theorem dX11_checkPlus_8 : decode cX11_checkPlus 8 = .ok (.if_icmp .ne 5, 3) := by decide +kernel
theorem dX11_checkPlus_11 : decode cX11_checkPlus 11 = .ok (.iconst 2, 1) := by decide +kernel
theorem dX11_checkPlus_12 : decode cX11_checkPlus 12 = .ok (.ireturn, 1) := by decide +kernel
theorem dX11_checkPlus_13 : decode cX11_checkPlus 13 = .ok (.aload_n 0, 1) := by decide +kernel
theorem dX11_checkPlus_14 : decode cX11_checkPlus 14 = .ok (.getfield 20, 3) := by decide +kernel
theorem dX11_checkPlus_17 : decode cX11_checkPlus 17 = .ok (.aload_n 0, 1) := by decide +kernel
theorem dX11_checkPlus_18 : decode cX11_checkPlus 18 = .ok (.getfield 251, 3) := by decide +kernel
theorem dX11_checkPlus_21 : decode cX11_checkPlus 21 = .ok (.iaload, 1) := by decide +kernel
theorem dX11_checkPlus_22 : decode cX11_checkPlus 22 = .ok (.sipush 300, 3) := by decide +kernel
theorem dX11_checkPlus_25 : decode cX11_checkPlus 25 = .ok (.sipush 301, 3) := by decide +kernel
theorem dX11_checkPlus_28 : decode cX11_checkPlus 28 = .ok (.invokestatic 104, 3) := by decide +kernel
theorem dX11_checkPlus_31 : decode cX11_checkPlus 31 = .ok (.ifCond .ne 5, 3) := by decide +kernel
theorem dX11_checkPlus_34 : decode cX11_checkPlus 34 = .ok (.iconst 3, 1) := by decide +kernel
theorem dX11_checkPlus_35 : decode cX11_checkPlus 35 = .ok (.ireturn, 1) := by decide +kernel
theorem dX11_checkPlus_36 : decode cX11_checkPlus 36 = .ok (.aload_n 0, 1) := by decide +kernel
theorem dX11_checkPlus_37 : decode cX11_checkPlus 37 = .ok (.aload_n 0, 1) := by decide +kernel
theorem dX11_checkPlus_38 : decode cX11_checkPlus 38 = .ok (.getfield 20, 3) := by decide +kernel
theorem dX11_checkPlus_41 : decode cX11_checkPlus 41 = .ok (.aload_n 0, 1) := by decide +kernel
theorem dX11_checkPlus_42 : decode cX11_checkPlus 42 = .ok (.getfield 251, 3) := by decide +kernel
theorem dX11_checkPlus_45 : decode cX11_checkPlus 45 = .ok (.iaload, 1) := by decide +kernel
theorem dX11_checkPlus_46 : decode cX11_checkPlus 46 = .ok (.sipush 300, 3) := by decide +kernel
theorem dX11_checkPlus_49 : decode cX11_checkPlus 49 = .ok (.if_icmp .ne 12, 3) := by decide +kernel
theorem dX11_checkPlus_52 : decode cX11_checkPlus 52 = .ok (.aload_n 0, 1) := by decide +kernel
theorem dX11_checkPlus_53 : decode cX11_checkPlus 53 = .ok (.getfield 26, 3) := by decide +kernel
theorem dX11_checkPlus_56 : decode cX11_checkPlus 56 = .ok (.iload_n 1, 1) := by decide +kernel
theorem dX11_checkPlus_57 : decode cX11_checkPlus 57 = .ok (.iaload, 1) := by decide +kernel
theorem dX11_checkPlus_58 : decode cX11_checkPlus 58 = .ok (.goto 9, 3) := by decide +kernel
theorem dX11_checkPlus_61 : decode cX11_checkPlus 61 = .ok (.aload_n 0, 1) := by decide +kernel
theorem dX11_checkPlus_62 : decode cX11_checkPlus 62 = .ok (.getfield 29, 3) := by decide +kernel
theorem dX11_checkPlus_65 : decode cX11_checkPlus 65 = .ok (.iload_n 1, 1) := by decide +kernel
theorem dX11_checkPlus_66 : decode cX11_checkPlus 66 = .ok (.iaload, 1) := by decide +kernel
theorem dX11_checkPlus_67 : decode cX11_checkPlus 67 = .ok (.iload_n 2, 1) := by decide +kernel
theorem dX11_checkPlus_68 : decode cX11_checkPlus 68 = .ok (.iload_n 3, 1) := by decide +kernel
theorem dX11_checkPlus_69 : decode cX11_checkPlus 69 = .ok (.iconst 1, 1) := by decide +kernel
theorem dX11_checkPlus_70 : decode cX11_checkPlus 70 = .ok (.iadd, 1) := by decide +kernel
theorem dX11_checkPlus_71 : decode cX11_checkPlus 71 = .ok (.invokevirtual 236, 3) := by decide +kernel
theorem dX11_checkPlus_74 : decode cX11_checkPlus 74 = .ok (.aload_n 0, 1) := by decide +kernel
theorem dX11_checkPlus_75 : decode cX11_checkPlus 75 = .ok (.dup, 1) := by decide +kernel
theorem dX11_checkPlus_76 : decode cX11_checkPlus 76 = .ok (.getfield 251, 3) := by decide +kernel
theorem dX11_checkPlus_79 : decode cX11_checkPlus 79 = .ok (.iconst 1, 1) := by decide +kernel
theorem dX11_checkPlus_80 : decode cX11_checkPlus 80 = .ok (.iadd, 1) := by decide +kernel
theorem dX11_checkPlus_81 : decode cX11_checkPlus 81 = .ok (.putfield 251, 3) := by decide +kernel
theorem dX11_checkPlus_84 : decode cX11_checkPlus 84 = .ok (.iconst 0, 1) := by decide +kernel
theorem dX11_checkPlus_85 : decode cX11_checkPlus 85 = .ok (.ireturn, 1) := by decide +kernel
theorem dX11_checkOne_0 : decode cX11_checkOne 0 = .ok (.aload_n 0, 1) := by decide +kernel
theorem dX11_checkOne_1 : decode cX11_checkOne 1 = .ok (.getfield 23, 3) := by decide +kernel
theorem dX11_checkOne_4 : decode cX11_checkOne 4 = .ok (.iload_n 1, 1) := by decide +kernel
theorem dX11_checkOne_5 : decode cX11_checkOne 5 = .ok (.iaload, 1) := by decide +kernel
theorem dX11_checkOne_6 : decode cX11_checkOne 6 = .ok (.tableswitch 137 0 6 #[42, 55, 65, 67, 91, 99, 129], 42) := by decide +kernel
theorem dX11_checkOne_48 : decode cX11_checkOne 48 = .ok (.aload_n 0, 1) := by decide +kernel
theorem dX11_checkOne_49 : decode cX11_checkOne 49 = .ok (.aload_n 0, 1) := by decide +kernel
theorem dX11_checkOne_50 : decode cX11_checkOne 50 = .ok (.getfield 26, 3) := by decide +kernel
theorem dX11_checkOne_53 : decode cX11_checkOne 53 = .ok (.iload_n 1, 1) := by decide +kernel
theorem dX11_checkOne_54 : decode cX11_checkOne 54 = .ok (.iaload, 1) := by decide +kernel
theorem dX11_checkOne_55 : decode cX11_checkOne 55 = .ok (.iload_n 2, 1) := by decide +kernel
theorem dX11_checkOne_56 : decode cX11_checkOne 56 = .ok (.iload_n 3, 1) := by decide +kernel
theorem dX11_checkOne_57 : decode cX11_checkOne 57 = .ok (.invokevirtual 254, 3) := by decide +kernel
theorem dX11_checkOne_60 : decode cX11_checkOne 60 = .ok (.ireturn, 1) := by decide +kernel
theorem dX11_checkOne_61 : decode cX11_checkOne 61 = .ok (.iload_n 2, 1) := by decide +kernel
theorem dX11_checkOne_62 : decode cX11_checkOne 62 = .ok (.ifCond .ne 7, 3) := by decide +kernel
theorem dX11_checkOne_65 : decode cX11_checkOne 65 = .ok (.iconst 0, 1) := by decide +kernel
theorem dX11_checkOne_66 : decode cX11_checkOne 66 = .ok (.goto 4, 3) := by decide +kernel
theorem dX11_checkOne_69 : decode cX11_checkOne 69 = .ok (.iconst 4, 1) := by decide +kernel
theorem dX11_checkOne_70 : decode cX11_checkOne 70 = .ok (.ireturn, 1) := by decide +kernel
theorem dX11_checkOne_71 : decode cX11_checkOne 71 = .ok (.iconst 0, 1) := by decide +kernel
theorem dX11_checkOne_72 : decode cX11_checkOne 72 = .ok (.ireturn, 1) := by decide +kernel
theorem dX11_checkOne_73 : decode cX11_checkOne 73 = .ok (.aload_n 0, 1) := by decide +kernel
theorem dX11_checkOne_74 : decode cX11_checkOne 74 = .ok (.aload_n 0, 1) := by decide +kernel
theorem dX11_checkOne_75 : decode cX11_checkOne 75 = .ok (.getfield 26, 3) := by decide +kernel
theorem dX11_checkOne_78 : decode cX11_checkOne 78 = .ok (.iload_n 1, 1) := by decide +kernel
theorem dX11_checkOne_79 : decode cX11_checkOne 79 = .ok (.iaload, 1) := by decide +kernel
theorem dX11_checkOne_80 : decode cX11_checkOne 80 = .ok (.iload_n 2, 1) := by decide +kernel
theorem dX11_checkOne_81 : decode cX11_checkOne 81 = .ok (.iload_n 3, 1) := by decide +kernel
theorem dX11_checkOne_82 : decode cX11_checkOne 82 = .ok (.iconst 1, 1) := by decide +kernel
theorem dX11_checkOne_83 : decode cX11_checkOne 83 = .ok (.iadd, 1) := by decide +kernel
theorem dX11_checkOne_84 : decode cX11_checkOne 84 = .ok (.invokevirtual 236, 3) := by decide +kernel
theorem dX11_checkOne_87 : decode cX11_checkOne 87 = .ok (.iload_n 2, 1) := by decide +kernel
theorem dX11_checkOne_88 : decode cX11_checkOne 88 = .ok (.ifCond .ne 7, 3) := by decide +kernel
theorem dX11_checkOne_91 : decode cX11_checkOne 91 = .ok (.iconst 0, 1) := by decide +kernel
theorem dX11_checkOne_92 : decode cX11_checkOne 92 = .ok (.goto 4, 3) := by decide +kernel
theorem dX11_checkOne_95 : decode cX11_checkOne 95 = .ok (.iconst 4, 1) := by decide +kernel
theorem dX11_checkOne_96 : decode cX11_checkOne 96 = .ok (.ireturn, 1) := by decide +kernel
theorem dX11_checkOne_97 : decode cX11_checkOne 97 = .ok (.aload_n 0, 1) := by decide +kernel
theorem dX11_checkOne_98 : decode cX11_checkOne 98 = .ok (.iload_n 1, 1) := by decide +kernel
theorem dX11_checkOne_99 : decode cX11_checkOne 99 = .ok (.iload_n 2, 1) := by decide +kernel
theorem dX11_checkOne_100 : decode cX11_checkOne 100 = .ok (.iload_n 3, 1) := by decide +kernel
theorem dX11_checkOne_101 : decode cX11_checkOne 101 = .ok (.invokevirtual 257, 3) := by decide +kernel
theorem dX11_checkOne_104 : decode cX11_checkOne 104 = .ok (.ireturn, 1) := by decide +kernel
theorem dX11_checkOne_105 : decode cX11_checkOne 105 = .ok (.aload_n 0, 1) := by decide +kernel
theorem dX11_checkOne_106 : decode cX11_checkOne 106 = .ok (.aload_n 0, 1) := by decide +kernel
theorem dX11_checkOne_107 : decode cX11_checkOne 107 = .ok (.getfield 29, 3) := by decide +kernel
theorem dX11_checkOne_110 : decode cX11_checkOne 110 = .ok (.iload_n 1, 1) := by decide +kernel
theorem dX11_checkOne_111 : decode cX11_checkOne 111 = .ok (.iaload, 1) := by decide +kernel
theorem dX11_checkOne_112 : decode cX11_checkOne 112 = .ok (.iload_n 2, 1) := by decide +kernel
theorem dX11_checkOne_113 : decode cX11_checkOne 113 = .ok (.iload_n 3, 1) := by decide +kernel
theorem dX11_checkOne_114 : decode cX11_checkOne 114 = .ok (.iconst 1, 1) := by decide +kernel
theorem dX11_checkOne_115 : decode cX11_checkOne 115 = .ok (.iadd, 1) := by decide +kernel
theorem dX11_checkOne_116 : decode cX11_checkOne 116 = .ok (.invokevirtual 236, 3) := by decide +kernel
theorem dX11_checkOne_119 : decode cX11_checkOne 119 = .ok (.aload_n 0, 1) := by decide +kernel
theorem dX11_checkOne_120 : decode cX11_checkOne 120 = .ok (.aload_n 0, 1) := by decide +kernel
theorem dX11_checkOne_121 : decode cX11_checkOne 121 = .ok (.getfield 26, 3) := by decide +kernel
theorem dX11_checkOne_124 : decode cX11_checkOne 124 = .ok (.iload_n 1, 1) := by decide +kernel
theorem dX11_checkOne_125 : decode cX11_checkOne 125 = .ok (.iaload, 1) := by decide +kernel
theorem dX11_checkOne_126 : decode cX11_checkOne 126 = .ok (.iload_n 2, 1) := by decide +kernel
theorem dX11_checkOne_127 : decode cX11_checkOne 127 = .ok (.iload_n 3, 1) := by decide +kernel
theorem dX11_checkOne_128 : decode cX11_checkOne 128 = .ok (.iconst 1, 1) := by decide +kernel
theorem dX11_checkOne_129 : decode cX11_checkOne 129 = .ok (.iadd, 1) := by decide +kernel
theorem dX11_checkOne_130 : decode cX11_checkOne 130 = .ok (.invokevirtual 236, 3) := by decide +kernel
theorem dX11_checkOne_133 : decode cX11_checkOne 133 = .ok (.iconst 0, 1) := by decide +kernel
theorem dX11_checkOne_134 : decode cX11_checkOne 134 = .ok (.ireturn, 1) := by decide +kernel
theorem dX11_checkOne_135 : decode cX11_checkOne 135 = .ok (.aload_n 0, 1) := by decide +kernel
theorem dX11_checkOne_136 : decode cX11_checkOne 136 = .ok (.iload_n 1, 1) := by decide +kernel
theorem dX11_checkOne_137 : decode cX11_checkOne 137 = .ok (.iload_n 2, 1) := by decide +kernel
theorem dX11_checkOne_138 : decode cX11_checkOne 138 = .ok (.iload_n 3, 1) := by decide +kernel
theorem dX11_checkOne_139 : decode cX11_checkOne 139 = .ok (.invokevirtual 260, 3) := by decide +kernel
theorem dX11_checkOne_142 : decode cX11_checkOne 142 = .ok (.ireturn, 1) := by decide +kernel
theorem dX11_checkOne_143 : decode cX11_checkOne 143 = .ok (.aload_n 0, 1) := by decide +kernel
theorem dX11_checkOne_144 : decode cX11_checkOne 144 = .ok (.aload_n 0, 1) := by decide +kernel
theorem dX11_checkOne_145 : decode cX11_checkOne 145 = .ok (.getfield 26, 3) := by decide +kernel
theorem dX11_checkOne_148 : decode cX11_checkOne 148 = .ok (.iload_n 1, 1) := by decide +kernel
theorem dX11_checkOne_149 : decode cX11_checkOne 149 = .ok (.iaload, 1) := by decide +kernel
theorem dX11_checkOne_150 : decode cX11_checkOne 150 = .ok (.iload_n 2, 1) := by decide +kernel
theorem dX11_checkOne_151 : decode cX11_checkOne 151 = .ok (.iconst 1, 1) := by decide +kernel
theorem dX11_checkOne_152 : decode cX11_checkOne 152 = .ok (.aload_n 0, 1) := by decide +kernel
theorem dX11_checkOne_153 : decode cX11_checkOne 153 = .ok (.getfield 29, 3) := by decide +kernel
theorem dX11_checkOne_156 : decode cX11_checkOne 156 = .ok (.iload_n 1, 1) := by decide +kernel
theorem dX11_checkOne_157 : decode cX11_checkOne 157 = .ok (.iaload, 1) := by decide +kernel
theorem dX11_checkOne_158 : decode cX11_checkOne 158 = .ok (.ishl, 1) := by decide +kernel
theorem dX11_checkOne_159 : decode cX11_checkOne 159 = .ok (.ior, 1) := by decide +kernel
theorem dX11_checkOne_160 : decode cX11_checkOne 160 = .ok (.iload_n 3, 1) := by decide +kernel
theorem dX11_checkOne_161 : decode cX11_checkOne 161 = .ok (.iconst 1, 1) := by decide +kernel
theorem dX11_checkOne_162 : decode cX11_checkOne 162 = .ok (.iadd, 1) := by decide +kernel
theorem dX11_checkOne_163 : decode cX11_checkOne 163 = .ok (.invokevirtual 236, 3) := by decide +kernel
theorem dX11_checkOne_166 : decode cX11_checkOne 166 = .ok (.iload_n 2, 1) := by decide +kernel
theorem dX11_checkOne_167 : decode cX11_checkOne 167 = .ok (.aload_n 0, 1) := by decide +kernel
theorem dX11_checkOne_168 : decode cX11_checkOne 168 = .ok (.getfield 29, 3) := by decide +kernel
theorem dX11_checkOne_171 : decode cX11_checkOne 171 = .ok (.iload_n 1, 1) := by decide +kernel
theorem dX11_checkOne_172 : decode cX11_checkOne 172 = .ok (.iaload, 1) := by decide +kernel
theorem dX11_checkOne_173 : decode cX11_checkOne 173 = .ok (.invokestatic 171, 3) := by decide +kernel
theorem dX11_checkOne_176 : decode cX11_checkOne 176 = .ok (.ifCond .eq 7, 3) := by decide +kernel
theorem dX11_checkOne_179 : decode cX11_checkOne 179 = .ok (.iconst 5, 1) := by decide +kernel
theorem dX11_checkOne_180 : decode cX11_checkOne 180 = .ok (.goto 4, 3) := by decide +kernel
theorem dX11_checkOne_183 : decode cX11_checkOne 183 = .ok (.iconst 0, 1) := by decide +kernel
theorem dX11_checkOne_184 : decode cX11_checkOne 184 = .ok (.ireturn, 1) := by decide +kernel
theorem dX11_checked_0 : decode cX11_checked 0 = .ok (.aload_n 0, 1) := by decide +kernel
theorem dX11_checked_1 : decode cX11_checked 1 = .ok (.invokevirtual 197, 3) := by decide +kernel
theorem dX11_checked_4 : decode cX11_checked 4 = .ok (.aload_n 0, 1) := by decide +kernel
theorem dX11_checked_5 : decode cX11_checked 5 = .ok (.iconst 0, 1) := by decide +kernel
theorem dX11_checked_6 : decode cX11_checked 6 = .ok (.putfield 251, 3) := by decide +kernel
theorem dX11_checked_9 : decode cX11_checked 9 = .ok (.aload_n 0, 1) := by decide +kernel
theorem dX11_checked_10 : decode cX11_checked 10 = .ok (.iconst 0, 1) := by decide +kernel
theorem dX11_checked_11 : decode cX11_checked 11 = .ok (.putfield 263, 3) := by decide +kernel
theorem dX11_checked_14 : decode cX11_checked 14 = .ok (.aload_n 0, 1) := by decide +kernel
theorem dX11_checked_15 : decode cX11_checked 15 = .ok (.iconst 0, 1) := by decide +kernel
theorem dX11_checked_16 : decode cX11_checked 16 = .ok (.putfield 226, 3) := by decide +kernel
theorem dX11_checked_19 : decode cX11_checked 19 = .ok (.aload_n 0, 1) := by decide +kernel
theorem dX11_checked_20 : decode cX11_checked 20 = .ok (.aload_n 0, 1) := by decide +kernel
theorem dX11_checked_21 : decode cX11_checked 21 = .ok (.getfield 98, 3) := by decide +kernel
theorem dX11_checked_24 : decode cX11_checked 24 = .ok (.aload_n 0, 1) := by decide +kernel
theorem dX11_checked_25 : decode cX11_checked 25 = .ok (.invokevirtual 186, 3) := by decide +kernel
theorem dX11_checked_28 : decode cX11_checked 28 = .ok (.iconst 1, 1) := by decide +kernel
theorem dX11_checked_29 : decode cX11_checked 29 = .ok (.invokevirtual 236, 3) := by decide +kernel
theorem dX11_checked_32 : decode cX11_checked 32 = .ok (.aload_n 0, 1) := by decide +kernel
theorem dX11_checked_33 : decode cX11_checked 33 = .ok (.getfield 226, 3) := by decide +kernel
theorem dX11_checked_36 : decode cX11_checked 36 = .ok (.ifCond .le 84, 3) := by decide +kernel
theorem dX11_checked_39 : decode cX11_checked 39 = .ok (.aload_n 0, 1) := by decide +kernel
theorem dX11_checked_40 : decode cX11_checked 40 = .ok (.dup, 1) := by decide +kernel
theorem dX11_checked_41 : decode cX11_checked 41 = .ok (.getfield 226, 3) := by decide +kernel
theorem dX11_checked_44 : decode cX11_checked 44 = .ok (.iconst 1, 1) := by decide +kernel
theorem dX11_checked_45 : decode cX11_checked 45 = .ok (.isub, 1) := by decide +kernel
theorem dX11_checked_46 : decode cX11_checked 46 = .ok (.putfield 226, 3) := by decide +kernel
theorem dX11_checked_49 : decode cX11_checked 49 = .ok (.aload_n 0, 1) := by decide +kernel
theorem dX11_checked_50 : decode cX11_checked 50 = .ok (.getfield 76, 3) := by decide +kernel
theorem dX11_checked_53 : decode cX11_checked 53 = .ok (.aload_n 0, 1) := by decide +kernel
theorem dX11_checked_54 : decode cX11_checked 54 = .ok (.getfield 226, 3) := by decide +kernel
theorem dX11_checked_57 : decode cX11_checked 57 = .ok (.iaload, 1) := by decide +kernel
theorem dX11_checked_58 : decode cX11_checked 58 = .ok (.istore_n 1, 1) := by decide +kernel
theorem dX11_checked_59 : decode cX11_checked 59 = .ok (.iload_n 1, 1) := by decide +kernel
theorem dX11_checked_60 : decode cX11_checked 60 = .ok (.bipush 12, 2) := by decide +kernel
theorem dX11_checked_62 : decode cX11_checked 62 = .ok (.if_icmp .le 5, 3) := by decide +kernel
theorem dX11_checked_65 : decode cX11_checked 65 = .ok (.iconst 1, 1) := by decide +kernel
theorem dX11_checked_66 : decode cX11_checked 66 = .ok (.ireturn, 1) := by decide +kernel
theorem dX11_checked_67 : decode cX11_checked 67 = .ok (.aload_n 0, 1) := by decide +kernel
theorem dX11_checked_68 : decode cX11_checked 68 = .ok (.iload_n 1, 1) := by decide +kernel
theorem dX11_checked_69 : decode cX11_checked 69 = .ok (.aload_n 0, 1) := by decide +kernel
theorem dX11_checked_70 : decode cX11_checked 70 = .ok (.getfield 263, 3) := by decide +kernel
theorem dX11_checked_73 : decode cX11_checked 73 = .ok (.if_icmp .le 7, 3) := by decide +kernel
theorem dX11_checked_76 : decode cX11_checked 76 = .ok (.iload_n 1, 1) := by decide +kernel
theorem dX11_checked_77 : decode cX11_checked 77 = .ok (.goto 7, 3) := by decide +kernel
theorem dX11_checked_80 : decode cX11_checked 80 = .ok (.aload_n 0, 1) := by decide +kernel
theorem dX11_checked_81 : decode cX11_checked 81 = .ok (.getfield 263, 3) := by decide +kernel
theorem dX11_checked_84 : decode cX11_checked 84 = .ok (.putfield 263, 3) := by decide +kernel
theorem dX11_checked_87 : decode cX11_checked 87 = .ok (.aload_n 0, 1) := by decide +kernel
theorem dX11_checked_88 : decode cX11_checked 88 = .ok (.aload_n 0, 1) := by decide +kernel
theorem dX11_checked_89 : decode cX11_checked 89 = .ok (.getfield 70, 3) := by decide +kernel
theorem dX11_checked_92 : decode cX11_checked 92 = .ok (.aload_n 0, 1) := by decide +kernel
theorem dX11_checked_93 : decode cX11_checked 93 = .ok (.getfield 226, 3) := by decide +kernel
theorem dX11_checked_96 : decode cX11_checked 96 = .ok (.iaload, 1) := by decide +kernel
theorem dX11_checked_97 : decode cX11_checked 97 = .ok (.aload_n 0, 1) := by decide +kernel
theorem dX11_checked_98 : decode cX11_checked 98 = .ok (.getfield 73, 3) := by decide +kernel
theorem dX11_checked_101 : decode cX11_checked 101 = .ok (.aload_n 0, 1) := by decide +kernel
theorem dX11_checked_102 : decode cX11_checked 102 = .ok (.getfield 226, 3) := by decide +kernel
theorem dX11_checked_105 : decode cX11_checked 105 = .ok (.iaload, 1) := by decide +kernel
theorem dX11_checked_106 : decode cX11_checked 106 = .ok (.iload_n 1, 1) := by decide +kernel
theorem dX11_checked_107 : decode cX11_checked 107 = .ok (.invokevirtual 266, 3) := by decide +kernel
theorem dX11_checked_110 : decode cX11_checked 110 = .ok (.istore_n 2, 1) := by decide +kernel
theorem dX11_checked_111 : decode cX11_checked 111 = .ok (.iload_n 2, 1) := by decide +kernel
theorem dX11_checked_112 : decode cX11_checked 112 = .ok (.ifCond .le 5, 3) := by decide +kernel
theorem dX11_checked_115 : decode cX11_checked 115 = .ok (.iload_n 2, 1) := by decide +kernel
theorem dX11_checked_116 : decode cX11_checked 116 = .ok (.ireturn, 1) := by decide +kernel
theorem dX11_checked_117 : decode cX11_checked 117 = .ok (.goto (-85), 3) := by decide +kernel
theorem dX11_checked_120 : decode cX11_checked 120 = .ok (.aload_n 0, 1) := by decide +kernel
theorem dX11_checked_121 : decode cX11_checked 121 = .ok (.getfield 251, 3) := by decide +kernel
theorem dX11_checked_124 : decode cX11_checked 124 = .ok (.aload_n 0, 1) := by decide +kernel
theorem dX11_checked_125 : decode cX11_checked 125 = .ok (.getfield 248, 3) := by decide +kernel
theorem dX11_checked_128 : decode cX11_checked 128 = .ok (.if_icmp .ge 8, 3) := by decide +kernel
theorem dX11_checked_131 : decode cX11_checked 131 = .ok (.bipush 6, 2) := by decide +kernel
theorem dX11_checked_133 : decode cX11_checked 133 = .ok (.goto 4, 3) := by decide +kernel
theorem dX11_checked_136 : decode cX11_checked 136 = .ok (.iconst 0, 1) := by decide +kernel
theorem dX11_checked_137 : decode cX11_checked 137 = .ok (.ireturn, 1) := by decide +kernel
theorem dX11_check_0 : decode cX11_check 0 = .ok (.iload_n 1, 1) := by decide +kernel
theorem dX11_check_1 : decode cX11_check 1 = .ok (.iconst 0, 1) := by decide +kernel
theorem dX11_check_2 : decode cX11_check 2 = .ok (.iconst 2, 1) := by decide +kernel
theorem dX11_check_3 : decode cX11_check 3 = .ok (.invokestatic 104, 3) := by decide +kernel
theorem dX11_check_6 : decode cX11_check 6 = .ok (.ifCond .ne 6, 3) := by decide +kernel
theorem dX11_check_9 : decode cX11_check 9 = .ok (.bipush (-2), 2) := by decide +kernel
theorem dX11_check_11 : decode cX11_check 11 = .ok (.ireturn, 1) := by decide +kernel
theorem dX11_check_12 : decode cX11_check 12 = .ok (.aload_n 0, 1) := by decide +kernel
theorem dX11_check_13 : decode cX11_check 13 = .ok (.invokevirtual 193, 3) := by decide +kernel
theorem dX11_check_16 : decode cX11_check 16 = .ok (.ifCond .ne 6, 3) := by decide +kernel
theorem dX11_check_19 : decode cX11_check 19 = .ok (.bipush (-3), 2) := by decide +kernel
theorem dX11_check_21 : decode cX11_check 21 = .ok (.ireturn, 1) := by decide +kernel
theorem dX11_check_22 : decode cX11_check 22 = .ok (.aload_n 0, 1) := by decide +kernel
theorem dX11_check_23 : decode cX11_check 23 = .ok (.invokevirtual 269, 3) := by decide +kernel
theorem dX11_check_26 : decode cX11_check 26 = .ok (.istore_n 2, 1) := by decide +kernel
theorem dX11_check_27 : decode cX11_check 27 = .ok (.iload_n 1, 1) := by decide +kernel
theorem dX11_check_28 : decode cX11_check 28 = .ok (.ifCond .ne 7, 3) := by decide +kernel
theorem dX11_check_31 : decode cX11_check 31 = .ok (.iload_n 2, 1) := by decide +kernel
theorem dX11_check_32 : decode cX11_check 32 = .ok (.goto 19, 3) := by decide +kernel
theorem dX11_check_35 : decode cX11_check 35 = .ok (.iload_n 1, 1) := by decide +kernel
theorem dX11_check_36 : decode cX11_check 36 = .ok (.iconst 1, 1) := by decide +kernel
theorem dX11_check_37 : decode cX11_check 37 = .ok (.if_icmp .ne 10, 3) := by decide +kernel
theorem dX11_check_40 : decode cX11_check 40 = .ok (.aload_n 0, 1) := by decide +kernel
theorem dX11_check_41 : decode cX11_check 41 = .ok (.getfield 251, 3) := by decide +kernel
theorem dX11_check_44 : decode cX11_check 44 = .ok (.goto 7, 3) := by decide +kernel
theorem dX11_check_47 : decode cX11_check 47 = .ok (.aload_n 0, 1) := by decide +kernel
theorem dX11_check_48 : decode cX11_check 48 = .ok (.getfield 263, 3) := by decide +kernel
theorem dX11_check_51 : decode cX11_check 51 = .ok (.ireturn, 1) := by decide +kernel
theorem dX11_image_0 : decode cX11_image 0 = .ok (.iload_n 1, 1) := by decide +kernel
theorem dX11_image_1 : decode cX11_image 1 = .ok (.iconst 0, 1) := by decide +kernel
theorem dX11_image_2 : decode cX11_image 2 = .ok (.iconst 1, 1) := by decide +kernel
theorem dX11_image_3 : decode cX11_image 3 = .ok (.invokestatic 104, 3) := by decide +kernel
theorem dX11_image_6 : decode cX11_image 6 = .ok (.ifCond .ne 6, 3) := by decide +kernel
theorem dX11_image_9 : decode cX11_image 9 = .ok (.bipush (-2), 2) := by decide +kernel
theorem dX11_image_11 : decode cX11_image 11 = .ok (.ireturn, 1) := by decide +kernel
theorem dX11_image_12 : decode cX11_image 12 = .ok (.iconst 0, 1) := by decide +kernel
theorem dX11_image_13 : decode cX11_image 13 = .ok (.istore_n 2, 1) := by decide +kernel
theorem dX11_image_14 : decode cX11_image 14 = .ok (.iload_n 2, 1) := by decide +kernel
theorem dX11_image_15 : decode cX11_image 15 = .ok (.sipush 600, 3) := by decide +kernel
theorem dX11_image_18 : decode cX11_image 18 = .ok (.if_icmp .ge 27, 3) := by decide +kernel
theorem dX11_image_21 : decode cX11_image 21 = .ok (.aload_n 0, 1) := by decide +kernel
theorem dX11_image_22 : decode cX11_image 22 = .ok (.getfield 79, 3) := by decide +kernel
theorem dX11_image_25 : decode cX11_image 25 = .ok (.sipush 600, 3) := by decide +kernel
theorem dX11_image_28 : decode cX11_image 28 = .ok (.iload_n 1, 1) := by decide +kernel
theorem dX11_image_29 : decode cX11_image 29 = .ok (.imul, 1) := by decide +kernel
theorem dX11_image_30 : decode cX11_image 30 = .ok (.iload_n 2, 1) := by decide +kernel
theorem dX11_image_31 : decode cX11_image 31 = .ok (.iadd, 1) := by decide +kernel
theorem dX11_image_32 : decode cX11_image 32 = .ok (.aload_n 0, 1) := by decide +kernel
theorem dX11_image_33 : decode cX11_image 33 = .ok (.getfield 7, 3) := by decide +kernel
theorem dX11_image_36 : decode cX11_image 36 = .ok (.iload_n 2, 1) := by decide +kernel
theorem dX11_image_37 : decode cX11_image 37 = .ok (.iaload, 1) := by decide +kernel
theorem dX11_image_38 : decode cX11_image 38 = .ok (.iastore, 1) := by decide +kernel
theorem dX11_image_39 : decode cX11_image 39 = .ok (.iinc 2 1, 3) := by decide +kernel
theorem dX11_image_42 : decode cX11_image 42 = .ok (.goto (-28), 3) := by decide +kernel
theorem dX11_image_45 : decode cX11_image 45 = .ok (.iconst 0, 1) := by decide +kernel
theorem dX11_image_46 : decode cX11_image 46 = .ok (.istore_n 2, 1) := by decide +kernel
theorem dX11_image_47 : decode cX11_image 47 = .ok (.iload_n 2, 1) := by decide +kernel
theorem dX11_image_48 : decode cX11_image 48 = .ok (.bipush 10, 2) := by decide +kernel
theorem dX11_image_50 : decode cX11_image 50 = .ok (.if_icmp .ge 26, 3) := by decide +kernel
theorem dX11_image_53 : decode cX11_image 53 = .ok (.aload_n 0, 1) := by decide +kernel
theorem dX11_image_54 : decode cX11_image 54 = .ok (.getfield 82, 3) := by decide +kernel
theorem dX11_image_57 : decode cX11_image 57 = .ok (.bipush 10, 2) := by decide +kernel
theorem dX11_image_59 : decode cX11_image 59 = .ok (.iload_n 1, 1) := by decide +kernel
theorem dX11_image_60 : decode cX11_image 60 = .ok (.imul, 1) := by decide +kernel
theorem dX11_image_61 : decode cX11_image 61 = .ok (.iload_n 2, 1) := by decide +kernel
theorem dX11_image_62 : decode cX11_image 62 = .ok (.iadd, 1) := by decide +kernel
theorem dX11_image_63 : decode cX11_image 63 = .ok (.aload_n 0, 1) := by decide +kernel
theorem dX11_image_64 : decode cX11_image 64 = .ok (.getfield 13, 3) := by decide +kernel
theorem dX11_image_67 : decode cX11_image 67 = .ok (.iload_n 2, 1) := by decide +kernel
theorem dX11_image_68 : decode cX11_image 68 = .ok (.iaload, 1) := by decide +kernel
theorem dX11_image_69 : decode cX11_image 69 = .ok (.iastore, 1) := by decide +kernel
theorem dX11_image_70 : decode cX11_image 70 = .ok (.iinc 2 1, 3) := by decide +kernel
theorem dX11_image_73 : decode cX11_image 73 = .ok (.goto (-26), 3) := by decide +kernel
theorem dX11_image_76 : decode cX11_image 76 = .ok (.aload_n 0, 1) := by decide +kernel
theorem dX11_image_77 : decode cX11_image 77 = .ok (.getfield 85, 3) := by decide +kernel
theorem dX11_image_80 : decode cX11_image 80 = .ok (.iload_n 1, 1) := by decide +kernel
theorem dX11_image_81 : decode cX11_image 81 = .ok (.iconst 1, 1) := by decide +kernel
theorem dX11_image_82 : decode cX11_image 82 = .ok (.bastore, 1) := by decide +kernel
theorem dX11_image_83 : decode cX11_image 83 = .ok (.iconst 1, 1) := by decide +kernel
theorem dX11_image_84 : decode cX11_image 84 = .ok (.ireturn, 1) := by decide +kernel
theorem dX11_restore_0 : decode cX11_restore 0 = .ok (.iload_n 1, 1) := by decide +kernel
theorem dX11_restore_1 : decode cX11_restore 1 = .ok (.iconst 0, 1) := by decide +kernel
theorem dX11_restore_2 : decode cX11_restore 2 = .ok (.iconst 1, 1) := by decide +kernel
theorem dX11_restore_3 : decode cX11_restore 3 = .ok (.invokestatic 104, 3) := by decide +kernel
theorem dX11_restore_6 : decode cX11_restore 6 = .ok (.ifCond .ne 6, 3) := by decide +kernel
theorem dX11_restore_9 : decode cX11_restore 9 = .ok (.bipush (-2), 2) := by decide +kernel
theorem dX11_restore_11 : decode cX11_restore 11 = .ok (.ireturn, 1) := by decide +kernel
theorem dX11_restore_12 : decode cX11_restore 12 = .ok (.aload_n 0, 1) := by decide +kernel
theorem dX11_restore_13 : decode cX11_restore 13 = .ok (.getfield 85, 3) := by decide +kernel
theorem dX11_restore_16 : decode cX11_restore 16 = .ok (.iload_n 1, 1) := by decide +kernel
theorem dX11_restore_17 : decode cX11_restore 17 = .ok (.baload, 1) := by decide +kernel
theorem dX11_restore_18 : decode cX11_restore 18 = .ok (.ifCond .ne 6, 3) := by decide +kernel
theorem dX11_restore_21 : decode cX11_restore 21 = .ok (.bipush (-3), 2) := by decide +kernel
theorem dX11_restore_23 : decode cX11_restore 23 = .ok (.ireturn, 1) := by decide +kernel
theorem dX11_restore_24 : decode cX11_restore 24 = .ok (.iconst 0, 1) := by decide +kernel
theorem dX11_restore_25 : decode cX11_restore 25 = .ok (.istore_n 2, 1) := by decide +kernel
theorem dX11_restore_26 : decode cX11_restore 26 = .ok (.iload_n 2, 1) := by decide +kernel
theorem dX11_restore_27 : decode cX11_restore 27 = .ok (.sipush 600, 3) := by decide +kernel
theorem dX11_restore_30 : decode cX11_restore 30 = .ok (.if_icmp .ge 27, 3) := by decide +kernel
theorem dX11_restore_33 : decode cX11_restore 33 = .ok (.aload_n 0, 1) := by decide +kernel
theorem dX11_restore_34 : decode cX11_restore 34 = .ok (.getfield 7, 3) := by decide +kernel
theorem dX11_restore_37 : decode cX11_restore 37 = .ok (.iload_n 2, 1) := by decide +kernel
theorem dX11_restore_38 : decode cX11_restore 38 = .ok (.aload_n 0, 1) := by decide +kernel
theorem dX11_restore_39 : decode cX11_restore 39 = .ok (.getfield 79, 3) := by decide +kernel
theorem dX11_restore_42 : decode cX11_restore 42 = .ok (.sipush 600, 3) := by decide +kernel
theorem dX11_restore_45 : decode cX11_restore 45 = .ok (.iload_n 1, 1) := by decide +kernel
theorem dX11_restore_46 : decode cX11_restore 46 = .ok (.imul, 1) := by decide +kernel
theorem dX11_restore_47 : decode cX11_restore 47 = .ok (.iload_n 2, 1) := by decide +kernel
theorem dX11_restore_48 : decode cX11_restore 48 = .ok (.iadd, 1) := by decide +kernel
theorem dX11_restore_49 : decode cX11_restore 49 = .ok (.iaload, 1) := by decide +kernel
theorem dX11_restore_50 : decode cX11_restore 50 = .ok (.iastore, 1) := by decide +kernel
theorem dX11_restore_51 : decode cX11_restore 51 = .ok (.iinc 2 1, 3) := by decide +kernel
theorem dX11_restore_54 : decode cX11_restore 54 = .ok (.goto (-28), 3) := by decide +kernel
theorem dX11_restore_57 : decode cX11_restore 57 = .ok (.iconst 0, 1) := by decide +kernel
theorem dX11_restore_58 : decode cX11_restore 58 = .ok (.istore_n 2, 1) := by decide +kernel
theorem dX11_restore_59 : decode cX11_restore 59 = .ok (.iload_n 2, 1) := by decide +kernel
theorem dX11_restore_60 : decode cX11_restore 60 = .ok (.bipush 10, 2) := by decide +kernel
theorem dX11_restore_62 : decode cX11_restore 62 = .ok (.if_icmp .ge 26, 3) := by decide +kernel
theorem dX11_restore_65 : decode cX11_restore 65 = .ok (.aload_n 0, 1) := by decide +kernel
theorem dX11_restore_66 : decode cX11_restore 66 = .ok (.getfield 13, 3) := by decide +kernel
theorem dX11_restore_69 : decode cX11_restore 69 = .ok (.iload_n 2, 1) := by decide +kernel
theorem dX11_restore_70 : decode cX11_restore 70 = .ok (.aload_n 0, 1) := by decide +kernel
theorem dX11_restore_71 : decode cX11_restore 71 = .ok (.getfield 82, 3) := by decide +kernel
theorem dX11_restore_74 : decode cX11_restore 74 = .ok (.bipush 10, 2) := by decide +kernel
theorem dX11_restore_76 : decode cX11_restore 76 = .ok (.iload_n 1, 1) := by decide +kernel
theorem dX11_restore_77 : decode cX11_restore 77 = .ok (.imul, 1) := by decide +kernel
theorem dX11_restore_78 : decode cX11_restore 78 = .ok (.iload_n 2, 1) := by decide +kernel
theorem dX11_restore_79 : decode cX11_restore 79 = .ok (.iadd, 1) := by decide +kernel
theorem dX11_restore_80 : decode cX11_restore 80 = .ok (.iaload, 1) := by decide +kernel
theorem dX11_restore_81 : decode cX11_restore 81 = .ok (.iastore, 1) := by decide +kernel
theorem dX11_restore_82 : decode cX11_restore 82 = .ok (.iinc 2 1, 3) := by decide +kernel
theorem dX11_restore_85 : decode cX11_restore 85 = .ok (.goto (-26), 3) := by decide +kernel
theorem dX11_restore_88 : decode cX11_restore 88 = .ok (.aload_n 0, 1) := by decide +kernel
theorem dX11_restore_89 : decode cX11_restore 89 = .ok (.iconst 1, 1) := by decide +kernel
theorem dX11_restore_90 : decode cX11_restore 90 = .ok (.putfield 53, 3) := by decide +kernel
theorem dX11_restore_93 : decode cX11_restore 93 = .ok (.iconst 1, 1) := by decide +kernel
theorem dX11_restore_94 : decode cX11_restore 94 = .ok (.ireturn, 1) := by decide +kernel
theorem dX11_count_0 : decode cX11_count 0 = .ok (.iload_n 1, 1) := by decide +kernel
theorem dX11_count_1 : decode cX11_count 1 = .ok (.tableswitch 135 0 7 #[47, 52, 61, 74, 83, 92, 100, 105], 47) := by decide +kernel
theorem dX11_count_48 : decode cX11_count 48 = .ok (.aload_n 0, 1) := by decide +kernel
theorem dX11_count_49 : decode cX11_count 49 = .ok (.invokevirtual 186, 3) := by decide +kernel
theorem dX11_count_52 : decode cX11_count 52 = .ok (.ireturn, 1) := by decide +kernel
theorem dX11_count_53 : decode cX11_count 53 = .ok (.aload_n 0, 1) := by decide +kernel
theorem dX11_count_54 : decode cX11_count 54 = .ok (.bipush 6, 2) := by decide +kernel
theorem dX11_count_56 : decode cX11_count 56 = .ok (.bipush 9, 2) := by decide +kernel
theorem dX11_count_58 : decode cX11_count 58 = .ok (.invokevirtual 159, 3) := by decide +kernel
theorem dX11_count_61 : decode cX11_count 61 = .ok (.ireturn, 1) := by decide +kernel
theorem dX11_count_62 : decode cX11_count 62 = .ok (.aload_n 0, 1) := by decide +kernel
theorem dX11_count_63 : decode cX11_count 63 = .ok (.invokevirtual 193, 3) := by decide +kernel
theorem dX11_count_66 : decode cX11_count 66 = .ok (.ifCond .eq 7, 3) := by decide +kernel
theorem dX11_count_69 : decode cX11_count 69 = .ok (.iconst 1, 1) := by decide +kernel
theorem dX11_count_70 : decode cX11_count 70 = .ok (.goto 4, 3) := by decide +kernel
theorem dX11_count_73 : decode cX11_count 73 = .ok (.iconst 0, 1) := by decide +kernel
theorem dX11_count_74 : decode cX11_count 74 = .ok (.ireturn, 1) := by decide +kernel
theorem dX11_count_75 : decode cX11_count 75 = .ok (.aload_n 0, 1) := by decide +kernel
theorem dX11_count_76 : decode cX11_count 76 = .ok (.invokevirtual 197, 3) := by decide +kernel
theorem dX11_count_79 : decode cX11_count 79 = .ok (.aload_n 0, 1) := by decide +kernel
theorem dX11_count_80 : decode cX11_count 80 = .ok (.getfield 92, 3) := by decide +kernel
theorem dX11_count_83 : decode cX11_count 83 = .ok (.ireturn, 1) := by decide +kernel
theorem dX11_count_84 : decode cX11_count 84 = .ok (.aload_n 0, 1) := by decide +kernel
theorem dX11_count_85 : decode cX11_count 85 = .ok (.invokevirtual 197, 3) := by decide +kernel
theorem dX11_count_88 : decode cX11_count 88 = .ok (.aload_n 0, 1) := by decide +kernel
theorem dX11_count_89 : decode cX11_count 89 = .ok (.getfield 126, 3) := by decide +kernel
theorem dX11_count_92 : decode cX11_count 92 = .ok (.ireturn, 1) := by decide +kernel
theorem dX11_count_93 : decode cX11_count 93 = .ok (.aload_n 0, 1) := by decide +kernel
theorem dX11_count_94 : decode cX11_count 94 = .ok (.getfield 13, 3) := by decide +kernel
theorem dX11_count_97 : decode cX11_count 97 = .ok (.bipush 10, 2) := by decide +kernel
theorem dX11_count_99 : decode cX11_count 99 = .ok (.iaload, 1) := by decide +kernel
theorem dX11_count_100 : decode cX11_count 100 = .ok (.ireturn, 1) := by decide +kernel
theorem dX11_count_101 : decode cX11_count 101 = .ok (.aload_n 0, 1) := by decide +kernel
theorem dX11_count_102 : decode cX11_count 102 = .ok (.getfield 248, 3) := by decide +kernel
theorem dX11_count_105 : decode cX11_count 105 = .ok (.ireturn, 1) := by decide +kernel
theorem dX11_count_106 : decode cX11_count 106 = .ok (.aload_n 0, 1) := by decide +kernel
theorem dX11_count_107 : decode cX11_count 107 = .ok (.getfield 85, 3) := by decide +kernel
theorem dX11_count_110 : decode cX11_count 110 = .ok (.iconst 0, 1) := by decide +kernel
theorem dX11_count_111 : decode cX11_count 111 = .ok (.baload, 1) := by decide +kernel
theorem dX11_count_112 : decode cX11_count 112 = .ok (.ifCond .eq 7, 3) := by decide +kernel
theorem dX11_count_115 : decode cX11_count 115 = .ok (.iconst 1, 1) := by decide +kernel
theorem dX11_count_116 : decode cX11_count 116 = .ok (.goto 4, 3) := by decide +kernel
theorem dX11_count_119 : decode cX11_count 119 = .ok (.iconst 0, 1) := by decide +kernel
theorem dX11_count_120 : decode cX11_count 120 = .ok (.aload_n 0, 1) := by decide +kernel
theorem dX11_count_121 : decode cX11_count 121 = .ok (.getfield 85, 3) := by decide +kernel
theorem dX11_count_124 : decode cX11_count 124 = .ok (.iconst 1, 1) := by decide +kernel
theorem dX11_count_125 : decode cX11_count 125 = .ok (.baload, 1) := by decide +kernel
theorem dX11_count_126 : decode cX11_count 126 = .ok (.ifCond .eq 7, 3) := by decide +kernel
theorem dX11_count_129 : decode cX11_count 129 = .ok (.iconst 2, 1) := by decide +kernel
theorem dX11_count_130 : decode cX11_count 130 = .ok (.goto 4, 3) := by decide +kernel
theorem dX11_count_133 : decode cX11_count 133 = .ok (.iconst 0, 1) := by decide +kernel
theorem dX11_count_134 : decode cX11_count 134 = .ok (.iadd, 1) := by decide +kernel
theorem dX11_count_135 : decode cX11_count 135 = .ok (.ireturn, 1) := by decide +kernel
theorem dX11_count_136 : decode cX11_count 136 = .ok (.bipush (-2), 2) := by decide +kernel
theorem dX11_count_138 : decode cX11_count 138 = .ok (.ireturn, 1) := by decide +kernel
theorem dJ6_bitCount_0f7a4_0 : decode cJ6_bitCount_0f7a4 0 = .ok (.iload_n 0, 1) := by decide +kernel
theorem dJ6_bitCount_0f7a4_1 : decode cJ6_bitCount_0f7a4 1 = .ok (.iload_n 0, 1) := by decide +kernel
theorem dJ6_bitCount_0f7a4_2 : decode cJ6_bitCount_0f7a4 2 = .ok (.iconst 1, 1) := by decide +kernel
theorem dJ6_bitCount_0f7a4_3 : decode cJ6_bitCount_0f7a4 3 = .ok (.iushr, 1) := by decide +kernel
theorem dJ6_bitCount_0f7a4_4 : decode cJ6_bitCount_0f7a4 4 = .ok (.ldc_w 265, 3) := by decide +kernel
theorem dJ6_bitCount_0f7a4_7 : decode cJ6_bitCount_0f7a4 7 = .ok (.iand, 1) := by decide +kernel
theorem dJ6_bitCount_0f7a4_8 : decode cJ6_bitCount_0f7a4 8 = .ok (.isub, 1) := by decide +kernel
theorem dJ6_bitCount_0f7a4_9 : decode cJ6_bitCount_0f7a4 9 = .ok (.istore_n 0, 1) := by decide +kernel
theorem dJ6_bitCount_0f7a4_10 : decode cJ6_bitCount_0f7a4 10 = .ok (.iload_n 0, 1) := by decide +kernel
theorem dJ6_bitCount_0f7a4_11 : decode cJ6_bitCount_0f7a4 11 = .ok (.ldc_w 266, 3) := by decide +kernel
theorem dJ6_bitCount_0f7a4_14 : decode cJ6_bitCount_0f7a4 14 = .ok (.iand, 1) := by decide +kernel
theorem dJ6_bitCount_0f7a4_15 : decode cJ6_bitCount_0f7a4 15 = .ok (.iload_n 0, 1) := by decide +kernel
theorem dJ6_bitCount_0f7a4_16 : decode cJ6_bitCount_0f7a4 16 = .ok (.iconst 2, 1) := by decide +kernel
theorem dJ6_bitCount_0f7a4_17 : decode cJ6_bitCount_0f7a4 17 = .ok (.iushr, 1) := by decide +kernel
theorem dJ6_bitCount_0f7a4_18 : decode cJ6_bitCount_0f7a4 18 = .ok (.ldc_w 266, 3) := by decide +kernel
theorem dJ6_bitCount_0f7a4_21 : decode cJ6_bitCount_0f7a4 21 = .ok (.iand, 1) := by decide +kernel
theorem dJ6_bitCount_0f7a4_22 : decode cJ6_bitCount_0f7a4 22 = .ok (.iadd, 1) := by decide +kernel
theorem dJ6_bitCount_0f7a4_23 : decode cJ6_bitCount_0f7a4 23 = .ok (.istore_n 0, 1) := by decide +kernel
theorem dJ6_bitCount_0f7a4_24 : decode cJ6_bitCount_0f7a4 24 = .ok (.iload_n 0, 1) := by decide +kernel
theorem dJ6_bitCount_0f7a4_25 : decode cJ6_bitCount_0f7a4 25 = .ok (.iload_n 0, 1) := by decide +kernel
theorem dJ6_bitCount_0f7a4_26 : decode cJ6_bitCount_0f7a4 26 = .ok (.iconst 4, 1) := by decide +kernel
theorem dJ6_bitCount_0f7a4_27 : decode cJ6_bitCount_0f7a4 27 = .ok (.iushr, 1) := by decide +kernel
theorem dJ6_bitCount_0f7a4_28 : decode cJ6_bitCount_0f7a4 28 = .ok (.iadd, 1) := by decide +kernel
theorem dJ6_bitCount_0f7a4_29 : decode cJ6_bitCount_0f7a4 29 = .ok (.ldc_w 267, 3) := by decide +kernel
theorem dJ6_bitCount_0f7a4_32 : decode cJ6_bitCount_0f7a4 32 = .ok (.iand, 1) := by decide +kernel
theorem dJ6_bitCount_0f7a4_33 : decode cJ6_bitCount_0f7a4 33 = .ok (.istore_n 0, 1) := by decide +kernel
theorem dJ6_bitCount_0f7a4_34 : decode cJ6_bitCount_0f7a4 34 = .ok (.iload_n 0, 1) := by decide +kernel
theorem dJ6_bitCount_0f7a4_35 : decode cJ6_bitCount_0f7a4 35 = .ok (.iload_n 0, 1) := by decide +kernel
theorem dJ6_bitCount_0f7a4_36 : decode cJ6_bitCount_0f7a4 36 = .ok (.bipush 8, 2) := by decide +kernel
theorem dJ6_bitCount_0f7a4_38 : decode cJ6_bitCount_0f7a4 38 = .ok (.iushr, 1) := by decide +kernel
theorem dJ6_bitCount_0f7a4_39 : decode cJ6_bitCount_0f7a4 39 = .ok (.iadd, 1) := by decide +kernel
theorem dJ6_bitCount_0f7a4_40 : decode cJ6_bitCount_0f7a4 40 = .ok (.istore_n 0, 1) := by decide +kernel
theorem dJ6_bitCount_0f7a4_41 : decode cJ6_bitCount_0f7a4 41 = .ok (.iload_n 0, 1) := by decide +kernel
theorem dJ6_bitCount_0f7a4_42 : decode cJ6_bitCount_0f7a4 42 = .ok (.iload_n 0, 1) := by decide +kernel
theorem dJ6_bitCount_0f7a4_43 : decode cJ6_bitCount_0f7a4 43 = .ok (.bipush 16, 2) := by decide +kernel
theorem dJ6_bitCount_0f7a4_45 : decode cJ6_bitCount_0f7a4 45 = .ok (.iushr, 1) := by decide +kernel
theorem dJ6_bitCount_0f7a4_46 : decode cJ6_bitCount_0f7a4 46 = .ok (.iadd, 1) := by decide +kernel
theorem dJ6_bitCount_0f7a4_47 : decode cJ6_bitCount_0f7a4 47 = .ok (.istore_n 0, 1) := by decide +kernel
theorem dJ6_bitCount_0f7a4_48 : decode cJ6_bitCount_0f7a4 48 = .ok (.iload_n 0, 1) := by decide +kernel
theorem dJ6_bitCount_0f7a4_49 : decode cJ6_bitCount_0f7a4 49 = .ok (.bipush 63, 2) := by decide +kernel
theorem dJ6_bitCount_0f7a4_51 : decode cJ6_bitCount_0f7a4 51 = .ok (.iand, 1) := by decide +kernel
theorem dJ6_bitCount_0f7a4_52 : decode cJ6_bitCount_0f7a4 52 = .ok (.ireturn, 1) := by decide +kernel
theorem dJ9_max_7cf53_0 : decode cJ9_max_7cf53 0 = .ok (.iload_n 0, 1) := by decide +kernel
theorem dJ9_max_7cf53_1 : decode cJ9_max_7cf53 1 = .ok (.iload_n 1, 1) := by decide +kernel
theorem dJ9_max_7cf53_2 : decode cJ9_max_7cf53 2 = .ok (.if_icmp .lt 7, 3) := by decide +kernel
theorem dJ9_max_7cf53_5 : decode cJ9_max_7cf53 5 = .ok (.iload_n 0, 1) := by decide +kernel
theorem dJ9_max_7cf53_6 : decode cJ9_max_7cf53 6 = .ok (.goto 4, 3) := by decide +kernel
theorem dJ9_max_7cf53_9 : decode cJ9_max_7cf53 9 = .ok (.iload_n 1, 1) := by decide +kernel
theorem dJ9_max_7cf53_10 : decode cJ9_max_7cf53 10 = .ok (.ireturn, 1) := by decide +kernel
theorem dJ9_min_7cf53_0 : decode cJ9_min_7cf53 0 = .ok (.iload_n 0, 1) := by decide +kernel
theorem dJ9_min_7cf53_1 : decode cJ9_min_7cf53 1 = .ok (.iload_n 1, 1) := by decide +kernel
theorem dJ9_min_7cf53_2 : decode cJ9_min_7cf53 2 = .ok (.if_icmp .gt 7, 3) := by decide +kernel
theorem dJ9_min_7cf53_5 : decode cJ9_min_7cf53 5 = .ok (.iload_n 0, 1) := by decide +kernel
theorem dJ9_min_7cf53_6 : decode cJ9_min_7cf53 6 = .ok (.goto 4, 3) := by decide +kernel
theorem dJ9_min_7cf53_9 : decode cJ9_min_7cf53 9 = .ok (.iload_n 1, 1) := by decide +kernel
theorem dJ9_min_7cf53_10 : decode cJ9_min_7cf53 10 = .ok (.ireturn, 1) := by decide +kernel
theorem dJ9_min_f86c9_0 : decode cJ9_min_f86c9 0 = .ok (.lload_n 0, 1) := by decide +kernel
theorem dJ9_min_f86c9_1 : decode cJ9_min_f86c9 1 = .ok (.lload_n 2, 1) := by decide +kernel
theorem dJ9_min_f86c9_2 : decode cJ9_min_f86c9 2 = .ok (.lcmp, 1) := by decide +kernel
theorem dJ9_min_f86c9_3 : decode cJ9_min_f86c9 3 = .ok (.ifCond .gt 7, 3) := by decide +kernel
theorem dJ9_min_f86c9_6 : decode cJ9_min_f86c9 6 = .ok (.lload_n 0, 1) := by decide +kernel
theorem dJ9_min_f86c9_7 : decode cJ9_min_f86c9 7 = .ok (.goto 4, 3) := by decide +kernel
theorem dJ9_min_f86c9_10 : decode cJ9_min_f86c9 10 = .ok (.lload_n 2, 1) := by decide +kernel
theorem dJ9_min_f86c9_11 : decode cJ9_min_f86c9 11 = .ok (.lreturn, 1) := by decide +kernel
theorem dL_law_0 : decode cL_law 0 = .ok (.new 7, 3) := by decide +kernel
theorem dL_law_3 : decode cL_law 3 = .ok (.dup, 1) := by decide +kernel
theorem dL_law_4 : decode cL_law 4 = .ok (.invokespecial 9, 3) := by decide +kernel
theorem dL_law_7 : decode cL_law 7 = .ok (.astore_n 1, 1) := by decide +kernel
theorem dL_law_8 : decode cL_law 8 = .ok (.new 10, 3) := by decide +kernel
theorem dL_law_11 : decode cL_law 11 = .ok (.dup, 1) := by decide +kernel
theorem dL_law_12 : decode cL_law 12 = .ok (.invokespecial 12, 3) := by decide +kernel
theorem dL_law_15 : decode cL_law 15 = .ok (.astore_n 2, 1) := by decide +kernel
theorem dL_law_16 : decode cL_law 16 = .ok (.iconst 0, 1) := by decide +kernel
theorem dL_law_17 : decode cL_law 17 = .ok (.istore_n 3, 1) := by decide +kernel
theorem dL_law_18 : decode cL_law 18 = .ok (.iload_n 3, 1) := by decide +kernel
theorem dL_law_19 : decode cL_law 19 = .ok (.aload_n 0, 1) := by decide +kernel
theorem dL_law_20 : decode cL_law 20 = .ok (.arraylength, 1) := by decide +kernel
theorem dL_law_21 : decode cL_law 21 = .ok (.iconst 3, 1) := by decide +kernel
theorem dL_law_22 : decode cL_law 22 = .ok (.isub, 1) := by decide +kernel
theorem dL_law_23 : decode cL_law 23 = .ok (.if_icmp .gt 541, 3) := by decide +kernel
theorem dL_law_26 : decode cL_law 26 = .ok (.aload_n 0, 1) := by decide +kernel
theorem dL_law_27 : decode cL_law 27 = .ok (.iload_n 3, 1) := by decide +kernel
theorem dL_law_28 : decode cL_law 28 = .ok (.iaload, 1) := by decide +kernel
theorem dL_law_29 : decode cL_law 29 = .ok (.bipush 31, 2) := by decide +kernel
theorem dL_law_31 : decode cL_law 31 = .ok (.iand, 1) := by decide +kernel
theorem dL_law_32 : decode cL_law 32 = .ok (.tableswitch 526 0 19 #[96, 119, 132, 145, 158, 171, 184, 217, 240, 273, 306, 319, 332, 355, 388, 411, 434, 457, 480, 503], 96) := by decide +kernel
theorem dL_law_128 : decode cL_law 128 = .ok (.aload_n 1, 1) := by decide +kernel
theorem dL_law_129 : decode cL_law 129 = .ok (.aload_n 0, 1) := by decide +kernel
theorem dL_law_130 : decode cL_law 130 = .ok (.iload_n 3, 1) := by decide +kernel
theorem dL_law_131 : decode cL_law 131 = .ok (.iconst 1, 1) := by decide +kernel
theorem dL_law_132 : decode cL_law 132 = .ok (.iadd, 1) := by decide +kernel
theorem dL_law_133 : decode cL_law 133 = .ok (.iaload, 1) := by decide +kernel
theorem dL_law_134 : decode cL_law 134 = .ok (.invokevirtual 13, 3) := by decide +kernel
theorem dL_law_137 : decode cL_law 137 = .ok (.aload_n 2, 1) := by decide +kernel
theorem dL_law_138 : decode cL_law 138 = .ok (.aload_n 0, 1) := by decide +kernel
theorem dL_law_139 : decode cL_law 139 = .ok (.iload_n 3, 1) := by decide +kernel
theorem dL_law_140 : decode cL_law 140 = .ok (.iconst 1, 1) := by decide +kernel
theorem dL_law_141 : decode cL_law 141 = .ok (.iadd, 1) := by decide +kernel
theorem dL_law_142 : decode cL_law 142 = .ok (.iaload, 1) := by decide +kernel
theorem dL_law_143 : decode cL_law 143 = .ok (.invokevirtual 17, 3) := by decide +kernel
theorem dL_law_146 : decode cL_law 146 = .ok (.if_icmp .eq 412, 3) := by decide +kernel
theorem dL_law_149 : decode cL_law 149 = .ok (.iconst 0, 1) := by decide +kernel
theorem dL_law_150 : decode cL_law 150 = .ok (.ireturn, 1) := by decide +kernel
theorem dL_law_151 : decode cL_law 151 = .ok (.aload_n 1, 1) := by decide +kernel
theorem dL_law_152 : decode cL_law 152 = .ok (.invokevirtual 18, 3) := by decide +kernel
theorem dL_law_155 : decode cL_law 155 = .ok (.aload_n 2, 1) := by decide +kernel
theorem dL_law_156 : decode cL_law 156 = .ok (.invokevirtual 22, 3) := by decide +kernel
theorem dL_law_159 : decode cL_law 159 = .ok (.if_icmp .eq 399, 3) := by decide +kernel
theorem dL_law_162 : decode cL_law 162 = .ok (.iconst 0, 1) := by decide +kernel
theorem dL_law_163 : decode cL_law 163 = .ok (.ireturn, 1) := by decide +kernel
theorem dL_law_164 : decode cL_law 164 = .ok (.aload_n 1, 1) := by decide +kernel
theorem dL_law_165 : decode cL_law 165 = .ok (.invokevirtual 23, 3) := by decide +kernel
theorem dL_law_168 : decode cL_law 168 = .ok (.aload_n 2, 1) := by decide +kernel
theorem dL_law_169 : decode cL_law 169 = .ok (.invokevirtual 26, 3) := by decide +kernel
theorem dL_law_172 : decode cL_law 172 = .ok (.if_icmp .eq 386, 3) := by decide +kernel
theorem dL_law_175 : decode cL_law 175 = .ok (.iconst 0, 1) := by decide +kernel
theorem dL_law_176 : decode cL_law 176 = .ok (.ireturn, 1) := by decide +kernel
theorem dL_law_177 : decode cL_law 177 = .ok (.aload_n 1, 1) := by decide +kernel
theorem dL_law_178 : decode cL_law 178 = .ok (.invokevirtual 27, 3) := by decide +kernel
theorem dL_law_181 : decode cL_law 181 = .ok (.aload_n 2, 1) := by decide +kernel
theorem dL_law_182 : decode cL_law 182 = .ok (.invokevirtual 30, 3) := by decide +kernel
theorem dL_law_185 : decode cL_law 185 = .ok (.if_icmp .eq 373, 3) := by decide +kernel
theorem dL_law_188 : decode cL_law 188 = .ok (.iconst 0, 1) := by decide +kernel
theorem dL_law_189 : decode cL_law 189 = .ok (.ireturn, 1) := by decide +kernel
theorem dL_law_190 : decode cL_law 190 = .ok (.aload_n 1, 1) := by decide +kernel
theorem dL_law_191 : decode cL_law 191 = .ok (.invokevirtual 31, 3) := by decide +kernel
theorem dL_law_194 : decode cL_law 194 = .ok (.aload_n 2, 1) := by decide +kernel
theorem dL_law_195 : decode cL_law 195 = .ok (.invokevirtual 34, 3) := by decide +kernel
theorem dL_law_198 : decode cL_law 198 = .ok (.if_icmp .eq 360, 3) := by decide +kernel
theorem dL_law_201 : decode cL_law 201 = .ok (.iconst 0, 1) := by decide +kernel
theorem dL_law_202 : decode cL_law 202 = .ok (.ireturn, 1) := by decide +kernel
theorem dL_law_203 : decode cL_law 203 = .ok (.aload_n 1, 1) := by decide +kernel
theorem dL_law_204 : decode cL_law 204 = .ok (.invokevirtual 35, 3) := by decide +kernel
theorem dL_law_207 : decode cL_law 207 = .ok (.aload_n 2, 1) := by decide +kernel
theorem dL_law_208 : decode cL_law 208 = .ok (.invokevirtual 38, 3) := by decide +kernel
theorem dL_law_211 : decode cL_law 211 = .ok (.if_icmp .eq 347, 3) := by decide +kernel
theorem dL_law_214 : decode cL_law 214 = .ok (.iconst 0, 1) := by decide +kernel
theorem dL_law_215 : decode cL_law 215 = .ok (.ireturn, 1) := by decide +kernel
theorem dL_law_216 : decode cL_law 216 = .ok (.aload_n 1, 1) := by decide +kernel
theorem dL_law_217 : decode cL_law 217 = .ok (.aload_n 0, 1) := by decide +kernel
theorem dL_law_218 : decode cL_law 218 = .ok (.iload_n 3, 1) := by decide +kernel
theorem dL_law_219 : decode cL_law 219 = .ok (.iconst 1, 1) := by decide +kernel
theorem dL_law_220 : decode cL_law 220 = .ok (.iadd, 1) := by decide +kernel
theorem dL_law_221 : decode cL_law 221 = .ok (.iaload, 1) := by decide +kernel
theorem dL_law_222 : decode cL_law 222 = .ok (.aload_n 0, 1) := by decide +kernel
theorem dL_law_223 : decode cL_law 223 = .ok (.iload_n 3, 1) := by decide +kernel
theorem dL_law_224 : decode cL_law 224 = .ok (.iconst 2, 1) := by decide +kernel
theorem dL_law_225 : decode cL_law 225 = .ok (.iadd, 1) := by decide +kernel
theorem dL_law_226 : decode cL_law 226 = .ok (.iaload, 1) := by decide +kernel
theorem dL_law_227 : decode cL_law 227 = .ok (.invokevirtual 39, 3) := by decide +kernel
theorem dL_law_230 : decode cL_law 230 = .ok (.aload_n 2, 1) := by decide +kernel
theorem dL_law_231 : decode cL_law 231 = .ok (.aload_n 0, 1) := by decide +kernel
theorem dL_law_232 : decode cL_law 232 = .ok (.iload_n 3, 1) := by decide +kernel
theorem dL_law_233 : decode cL_law 233 = .ok (.iconst 1, 1) := by decide +kernel
theorem dL_law_234 : decode cL_law 234 = .ok (.iadd, 1) := by decide +kernel
theorem dL_law_235 : decode cL_law 235 = .ok (.iaload, 1) := by decide +kernel
theorem dL_law_236 : decode cL_law 236 = .ok (.aload_n 0, 1) := by decide +kernel
theorem dL_law_237 : decode cL_law 237 = .ok (.iload_n 3, 1) := by decide +kernel
theorem dL_law_238 : decode cL_law 238 = .ok (.iconst 2, 1) := by decide +kernel
theorem dL_law_239 : decode cL_law 239 = .ok (.iadd, 1) := by decide +kernel
theorem dL_law_240 : decode cL_law 240 = .ok (.iaload, 1) := by decide +kernel
theorem dL_law_241 : decode cL_law 241 = .ok (.invokevirtual 43, 3) := by decide +kernel
theorem dL_law_244 : decode cL_law 244 = .ok (.if_icmp .eq 314, 3) := by decide +kernel
theorem dL_law_247 : decode cL_law 247 = .ok (.iconst 0, 1) := by decide +kernel
theorem dL_law_248 : decode cL_law 248 = .ok (.ireturn, 1) := by decide +kernel
theorem dL_law_249 : decode cL_law 249 = .ok (.aload_n 1, 1) := by decide +kernel
theorem dL_law_250 : decode cL_law 250 = .ok (.aload_n 0, 1) := by decide +kernel
theorem dL_law_251 : decode cL_law 251 = .ok (.iload_n 3, 1) := by decide +kernel
theorem dL_law_252 : decode cL_law 252 = .ok (.iconst 1, 1) := by decide +kernel
theorem dL_law_253 : decode cL_law 253 = .ok (.iadd, 1) := by decide +kernel
theorem dL_law_254 : decode cL_law 254 = .ok (.iaload, 1) := by decide +kernel
theorem dL_law_255 : decode cL_law 255 = .ok (.invokevirtual 44, 3) := by decide +kernel
theorem dL_law_258 : decode cL_law 258 = .ok (.aload_n 2, 1) := by decide +kernel
theorem dL_law_259 : decode cL_law 259 = .ok (.aload_n 0, 1) := by decide +kernel
theorem dL_law_260 : decode cL_law 260 = .ok (.iload_n 3, 1) := by decide +kernel
theorem dL_law_261 : decode cL_law 261 = .ok (.iconst 1, 1) := by decide +kernel
theorem dL_law_262 : decode cL_law 262 = .ok (.iadd, 1) := by decide +kernel
theorem dL_law_263 : decode cL_law 263 = .ok (.iaload, 1) := by decide +kernel
theorem dL_law_264 : decode cL_law 264 = .ok (.invokevirtual 47, 3) := by decide +kernel
theorem dL_law_267 : decode cL_law 267 = .ok (.if_icmp .eq 291, 3) := by decide +kernel
theorem dL_law_270 : decode cL_law 270 = .ok (.iconst 0, 1) := by decide +kernel
theorem dL_law_271 : decode cL_law 271 = .ok (.ireturn, 1) := by decide +kernel
theorem dL_law_272 : decode cL_law 272 = .ok (.aload_n 1, 1) := by decide +kernel
theorem dL_law_273 : decode cL_law 273 = .ok (.aload_n 0, 1) := by decide +kernel
theorem dL_law_274 : decode cL_law 274 = .ok (.iload_n 3, 1) := by decide +kernel
theorem dL_law_275 : decode cL_law 275 = .ok (.iconst 1, 1) := by decide +kernel
theorem dL_law_276 : decode cL_law 276 = .ok (.iadd, 1) := by decide +kernel
theorem dL_law_277 : decode cL_law 277 = .ok (.iaload, 1) := by decide +kernel
theorem dL_law_278 : decode cL_law 278 = .ok (.aload_n 0, 1) := by decide +kernel
theorem dL_law_279 : decode cL_law 279 = .ok (.iload_n 3, 1) := by decide +kernel
theorem dL_law_280 : decode cL_law 280 = .ok (.iconst 2, 1) := by decide +kernel
theorem dL_law_281 : decode cL_law 281 = .ok (.iadd, 1) := by decide +kernel
theorem dL_law_282 : decode cL_law 282 = .ok (.iaload, 1) := by decide +kernel
theorem dL_law_283 : decode cL_law 283 = .ok (.invokevirtual 48, 3) := by decide +kernel
theorem dL_law_286 : decode cL_law 286 = .ok (.aload_n 2, 1) := by decide +kernel
theorem dL_law_287 : decode cL_law 287 = .ok (.aload_n 0, 1) := by decide +kernel
theorem dL_law_288 : decode cL_law 288 = .ok (.iload_n 3, 1) := by decide +kernel
theorem dL_law_289 : decode cL_law 289 = .ok (.iconst 1, 1) := by decide +kernel
theorem dL_law_290 : decode cL_law 290 = .ok (.iadd, 1) := by decide +kernel
theorem dL_law_291 : decode cL_law 291 = .ok (.iaload, 1) := by decide +kernel
theorem dL_law_292 : decode cL_law 292 = .ok (.aload_n 0, 1) := by decide +kernel
theorem dL_law_293 : decode cL_law 293 = .ok (.iload_n 3, 1) := by decide +kernel
theorem dL_law_294 : decode cL_law 294 = .ok (.iconst 2, 1) := by decide +kernel
theorem dL_law_295 : decode cL_law 295 = .ok (.iadd, 1) := by decide +kernel
theorem dL_law_296 : decode cL_law 296 = .ok (.iaload, 1) := by decide +kernel
theorem dL_law_297 : decode cL_law 297 = .ok (.invokevirtual 51, 3) := by decide +kernel
theorem dL_law_300 : decode cL_law 300 = .ok (.if_icmp .eq 258, 3) := by decide +kernel
theorem dL_law_303 : decode cL_law 303 = .ok (.iconst 0, 1) := by decide +kernel
theorem dL_law_304 : decode cL_law 304 = .ok (.ireturn, 1) := by decide +kernel
theorem dL_law_305 : decode cL_law 305 = .ok (.aload_n 1, 1) := by decide +kernel
theorem dL_law_306 : decode cL_law 306 = .ok (.aload_n 0, 1) := by decide +kernel
theorem dL_law_307 : decode cL_law 307 = .ok (.iload_n 3, 1) := by decide +kernel
theorem dL_law_308 : decode cL_law 308 = .ok (.iconst 1, 1) := by decide +kernel
theorem dL_law_309 : decode cL_law 309 = .ok (.iadd, 1) := by decide +kernel
theorem dL_law_310 : decode cL_law 310 = .ok (.iaload, 1) := by decide +kernel
theorem dL_law_311 : decode cL_law 311 = .ok (.aload_n 0, 1) := by decide +kernel
theorem dL_law_312 : decode cL_law 312 = .ok (.iload_n 3, 1) := by decide +kernel
theorem dL_law_313 : decode cL_law 313 = .ok (.iconst 2, 1) := by decide +kernel
theorem dL_law_314 : decode cL_law 314 = .ok (.iadd, 1) := by decide +kernel
theorem dL_law_315 : decode cL_law 315 = .ok (.iaload, 1) := by decide +kernel
theorem dL_law_316 : decode cL_law 316 = .ok (.invokevirtual 52, 3) := by decide +kernel
theorem dL_law_319 : decode cL_law 319 = .ok (.aload_n 2, 1) := by decide +kernel
theorem dL_law_320 : decode cL_law 320 = .ok (.aload_n 0, 1) := by decide +kernel
theorem dL_law_321 : decode cL_law 321 = .ok (.iload_n 3, 1) := by decide +kernel
theorem dL_law_322 : decode cL_law 322 = .ok (.iconst 1, 1) := by decide +kernel
theorem dL_law_323 : decode cL_law 323 = .ok (.iadd, 1) := by decide +kernel
theorem dL_law_324 : decode cL_law 324 = .ok (.iaload, 1) := by decide +kernel
theorem dL_law_325 : decode cL_law 325 = .ok (.aload_n 0, 1) := by decide +kernel
theorem dL_law_326 : decode cL_law 326 = .ok (.iload_n 3, 1) := by decide +kernel
theorem dL_law_327 : decode cL_law 327 = .ok (.iconst 2, 1) := by decide +kernel
theorem dL_law_328 : decode cL_law 328 = .ok (.iadd, 1) := by decide +kernel
theorem dL_law_329 : decode cL_law 329 = .ok (.iaload, 1) := by decide +kernel
theorem dL_law_330 : decode cL_law 330 = .ok (.invokevirtual 55, 3) := by decide +kernel
theorem dL_law_333 : decode cL_law 333 = .ok (.if_icmp .eq 225, 3) := by decide +kernel
theorem dL_law_336 : decode cL_law 336 = .ok (.iconst 0, 1) := by decide +kernel
theorem dL_law_337 : decode cL_law 337 = .ok (.ireturn, 1) := by decide +kernel
theorem dL_law_338 : decode cL_law 338 = .ok (.aload_n 1, 1) := by decide +kernel
theorem dL_law_339 : decode cL_law 339 = .ok (.invokevirtual 56, 3) := by decide +kernel
theorem dL_law_342 : decode cL_law 342 = .ok (.aload_n 2, 1) := by decide +kernel
theorem dL_law_343 : decode cL_law 343 = .ok (.invokevirtual 59, 3) := by decide +kernel
theorem dL_law_346 : decode cL_law 346 = .ok (.if_icmp .eq 212, 3) := by decide +kernel
theorem dL_law_349 : decode cL_law 349 = .ok (.iconst 0, 1) := by decide +kernel
theorem dL_law_350 : decode cL_law 350 = .ok (.ireturn, 1) := by decide +kernel
theorem dL_law_351 : decode cL_law 351 = .ok (.aload_n 1, 1) := by decide +kernel
theorem dL_law_352 : decode cL_law 352 = .ok (.invokevirtual 60, 3) := by decide +kernel
theorem dL_law_355 : decode cL_law 355 = .ok (.aload_n 2, 1) := by decide +kernel
theorem dL_law_356 : decode cL_law 356 = .ok (.invokevirtual 63, 3) := by decide +kernel
theorem dL_law_359 : decode cL_law 359 = .ok (.if_icmp .eq 199, 3) := by decide +kernel
theorem dL_law_362 : decode cL_law 362 = .ok (.iconst 0, 1) := by decide +kernel
theorem dL_law_363 : decode cL_law 363 = .ok (.ireturn, 1) := by decide +kernel
theorem dL_law_364 : decode cL_law 364 = .ok (.aload_n 1, 1) := by decide +kernel
theorem dL_law_365 : decode cL_law 365 = .ok (.aload_n 0, 1) := by decide +kernel
theorem dL_law_366 : decode cL_law 366 = .ok (.iload_n 3, 1) := by decide +kernel
theorem dL_law_367 : decode cL_law 367 = .ok (.iconst 1, 1) := by decide +kernel
theorem dL_law_368 : decode cL_law 368 = .ok (.iadd, 1) := by decide +kernel
theorem dL_law_369 : decode cL_law 369 = .ok (.iaload, 1) := by decide +kernel
theorem dL_law_370 : decode cL_law 370 = .ok (.invokevirtual 64, 3) := by decide +kernel
theorem dL_law_373 : decode cL_law 373 = .ok (.aload_n 2, 1) := by decide +kernel
theorem dL_law_374 : decode cL_law 374 = .ok (.aload_n 0, 1) := by decide +kernel
theorem dL_law_375 : decode cL_law 375 = .ok (.iload_n 3, 1) := by decide +kernel
theorem dL_law_376 : decode cL_law 376 = .ok (.iconst 1, 1) := by decide +kernel
theorem dL_law_377 : decode cL_law 377 = .ok (.iadd, 1) := by decide +kernel
theorem dL_law_378 : decode cL_law 378 = .ok (.iaload, 1) := by decide +kernel
theorem dL_law_379 : decode cL_law 379 = .ok (.invokevirtual 67, 3) := by decide +kernel
theorem dL_law_382 : decode cL_law 382 = .ok (.if_icmp .eq 176, 3) := by decide +kernel
theorem dL_law_385 : decode cL_law 385 = .ok (.iconst 0, 1) := by decide +kernel
theorem dL_law_386 : decode cL_law 386 = .ok (.ireturn, 1) := by decide +kernel
theorem dL_law_387 : decode cL_law 387 = .ok (.aload_n 1, 1) := by decide +kernel
theorem dL_law_388 : decode cL_law 388 = .ok (.aload_n 0, 1) := by decide +kernel
theorem dL_law_389 : decode cL_law 389 = .ok (.iload_n 3, 1) := by decide +kernel
theorem dL_law_390 : decode cL_law 390 = .ok (.iconst 1, 1) := by decide +kernel
theorem dL_law_391 : decode cL_law 391 = .ok (.iadd, 1) := by decide +kernel
theorem dL_law_392 : decode cL_law 392 = .ok (.iaload, 1) := by decide +kernel
theorem dL_law_393 : decode cL_law 393 = .ok (.aload_n 0, 1) := by decide +kernel
theorem dL_law_394 : decode cL_law 394 = .ok (.iload_n 3, 1) := by decide +kernel
theorem dL_law_395 : decode cL_law 395 = .ok (.iconst 2, 1) := by decide +kernel
theorem dL_law_396 : decode cL_law 396 = .ok (.iadd, 1) := by decide +kernel
theorem dL_law_397 : decode cL_law 397 = .ok (.iaload, 1) := by decide +kernel
theorem dL_law_398 : decode cL_law 398 = .ok (.invokevirtual 68, 3) := by decide +kernel
theorem dL_law_401 : decode cL_law 401 = .ok (.aload_n 2, 1) := by decide +kernel
theorem dL_law_402 : decode cL_law 402 = .ok (.aload_n 0, 1) := by decide +kernel
theorem dL_law_403 : decode cL_law 403 = .ok (.iload_n 3, 1) := by decide +kernel
theorem dL_law_404 : decode cL_law 404 = .ok (.iconst 1, 1) := by decide +kernel
theorem dL_law_405 : decode cL_law 405 = .ok (.iadd, 1) := by decide +kernel
theorem dL_law_406 : decode cL_law 406 = .ok (.iaload, 1) := by decide +kernel
theorem dL_law_407 : decode cL_law 407 = .ok (.aload_n 0, 1) := by decide +kernel
theorem dL_law_408 : decode cL_law 408 = .ok (.iload_n 3, 1) := by decide +kernel
theorem dL_law_409 : decode cL_law 409 = .ok (.iconst 2, 1) := by decide +kernel
theorem dL_law_410 : decode cL_law 410 = .ok (.iadd, 1) := by decide +kernel
theorem dL_law_411 : decode cL_law 411 = .ok (.iaload, 1) := by decide +kernel
theorem dL_law_412 : decode cL_law 412 = .ok (.invokevirtual 71, 3) := by decide +kernel
theorem dL_law_415 : decode cL_law 415 = .ok (.if_icmp .eq 143, 3) := by decide +kernel
theorem dL_law_418 : decode cL_law 418 = .ok (.iconst 0, 1) := by decide +kernel
theorem dL_law_419 : decode cL_law 419 = .ok (.ireturn, 1) := by decide +kernel
theorem dL_law_420 : decode cL_law 420 = .ok (.aload_n 1, 1) := by decide +kernel
theorem dL_law_421 : decode cL_law 421 = .ok (.aload_n 0, 1) := by decide +kernel
theorem dL_law_422 : decode cL_law 422 = .ok (.iload_n 3, 1) := by decide +kernel
theorem dL_law_423 : decode cL_law 423 = .ok (.iconst 1, 1) := by decide +kernel
theorem dL_law_424 : decode cL_law 424 = .ok (.iadd, 1) := by decide +kernel
theorem dL_law_425 : decode cL_law 425 = .ok (.iaload, 1) := by decide +kernel
theorem dL_law_426 : decode cL_law 426 = .ok (.invokevirtual 72, 3) := by decide +kernel
theorem dL_law_429 : decode cL_law 429 = .ok (.aload_n 2, 1) := by decide +kernel
theorem dL_law_430 : decode cL_law 430 = .ok (.aload_n 0, 1) := by decide +kernel
theorem dL_law_431 : decode cL_law 431 = .ok (.iload_n 3, 1) := by decide +kernel
theorem dL_law_432 : decode cL_law 432 = .ok (.iconst 1, 1) := by decide +kernel
theorem dL_law_433 : decode cL_law 433 = .ok (.iadd, 1) := by decide +kernel
theorem dL_law_434 : decode cL_law 434 = .ok (.iaload, 1) := by decide +kernel
theorem dL_law_435 : decode cL_law 435 = .ok (.invokevirtual 75, 3) := by decide +kernel
theorem dL_law_438 : decode cL_law 438 = .ok (.if_icmp .eq 120, 3) := by decide +kernel
theorem dL_law_441 : decode cL_law 441 = .ok (.iconst 0, 1) := by decide +kernel
theorem dL_law_442 : decode cL_law 442 = .ok (.ireturn, 1) := by decide +kernel
theorem dL_law_443 : decode cL_law 443 = .ok (.aload_n 1, 1) := by decide +kernel
theorem dL_law_444 : decode cL_law 444 = .ok (.aload_n 0, 1) := by decide +kernel
theorem dL_law_445 : decode cL_law 445 = .ok (.iload_n 3, 1) := by decide +kernel
theorem dL_law_446 : decode cL_law 446 = .ok (.iconst 1, 1) := by decide +kernel
theorem dL_law_447 : decode cL_law 447 = .ok (.iadd, 1) := by decide +kernel
theorem dL_law_448 : decode cL_law 448 = .ok (.iaload, 1) := by decide +kernel
theorem dL_law_449 : decode cL_law 449 = .ok (.invokevirtual 76, 3) := by decide +kernel
theorem dL_law_452 : decode cL_law 452 = .ok (.aload_n 2, 1) := by decide +kernel
theorem dL_law_453 : decode cL_law 453 = .ok (.aload_n 0, 1) := by decide +kernel
theorem dL_law_454 : decode cL_law 454 = .ok (.iload_n 3, 1) := by decide +kernel
theorem dL_law_455 : decode cL_law 455 = .ok (.iconst 1, 1) := by decide +kernel
theorem dL_law_456 : decode cL_law 456 = .ok (.iadd, 1) := by decide +kernel
theorem dL_law_457 : decode cL_law 457 = .ok (.iaload, 1) := by decide +kernel
theorem dL_law_458 : decode cL_law 458 = .ok (.invokevirtual 79, 3) := by decide +kernel
theorem dL_law_461 : decode cL_law 461 = .ok (.if_icmp .eq 97, 3) := by decide +kernel
theorem dL_law_464 : decode cL_law 464 = .ok (.iconst 0, 1) := by decide +kernel
theorem dL_law_465 : decode cL_law 465 = .ok (.ireturn, 1) := by decide +kernel
theorem dL_law_466 : decode cL_law 466 = .ok (.aload_n 1, 1) := by decide +kernel
theorem dL_law_467 : decode cL_law 467 = .ok (.aload_n 0, 1) := by decide +kernel
theorem dL_law_468 : decode cL_law 468 = .ok (.iload_n 3, 1) := by decide +kernel
theorem dL_law_469 : decode cL_law 469 = .ok (.iconst 1, 1) := by decide +kernel
theorem dL_law_470 : decode cL_law 470 = .ok (.iadd, 1) := by decide +kernel
theorem dL_law_471 : decode cL_law 471 = .ok (.iaload, 1) := by decide +kernel
theorem dL_law_472 : decode cL_law 472 = .ok (.invokevirtual 80, 3) := by decide +kernel
theorem dL_law_475 : decode cL_law 475 = .ok (.aload_n 2, 1) := by decide +kernel
theorem dL_law_476 : decode cL_law 476 = .ok (.aload_n 0, 1) := by decide +kernel
theorem dL_law_477 : decode cL_law 477 = .ok (.iload_n 3, 1) := by decide +kernel
theorem dL_law_478 : decode cL_law 478 = .ok (.iconst 1, 1) := by decide +kernel
theorem dL_law_479 : decode cL_law 479 = .ok (.iadd, 1) := by decide +kernel
theorem dL_law_480 : decode cL_law 480 = .ok (.iaload, 1) := by decide +kernel
theorem dL_law_481 : decode cL_law 481 = .ok (.invokevirtual 83, 3) := by decide +kernel
theorem dL_law_484 : decode cL_law 484 = .ok (.if_icmp .eq 74, 3) := by decide +kernel
theorem dL_law_487 : decode cL_law 487 = .ok (.iconst 0, 1) := by decide +kernel
theorem dL_law_488 : decode cL_law 488 = .ok (.ireturn, 1) := by decide +kernel
theorem dL_law_489 : decode cL_law 489 = .ok (.aload_n 1, 1) := by decide +kernel
theorem dL_law_490 : decode cL_law 490 = .ok (.aload_n 0, 1) := by decide +kernel
theorem dL_law_491 : decode cL_law 491 = .ok (.iload_n 3, 1) := by decide +kernel
theorem dL_law_492 : decode cL_law 492 = .ok (.iconst 1, 1) := by decide +kernel
theorem dL_law_493 : decode cL_law 493 = .ok (.iadd, 1) := by decide +kernel
theorem dL_law_494 : decode cL_law 494 = .ok (.iaload, 1) := by decide +kernel
theorem dL_law_495 : decode cL_law 495 = .ok (.invokevirtual 84, 3) := by decide +kernel
theorem dL_law_498 : decode cL_law 498 = .ok (.aload_n 2, 1) := by decide +kernel
theorem dL_law_499 : decode cL_law 499 = .ok (.aload_n 0, 1) := by decide +kernel
theorem dL_law_500 : decode cL_law 500 = .ok (.iload_n 3, 1) := by decide +kernel
theorem dL_law_501 : decode cL_law 501 = .ok (.iconst 1, 1) := by decide +kernel
theorem dL_law_502 : decode cL_law 502 = .ok (.iadd, 1) := by decide +kernel
theorem dL_law_503 : decode cL_law 503 = .ok (.iaload, 1) := by decide +kernel
theorem dL_law_504 : decode cL_law 504 = .ok (.invokevirtual 87, 3) := by decide +kernel
theorem dL_law_507 : decode cL_law 507 = .ok (.if_icmp .eq 51, 3) := by decide +kernel
theorem dL_law_510 : decode cL_law 510 = .ok (.iconst 0, 1) := by decide +kernel
theorem dL_law_511 : decode cL_law 511 = .ok (.ireturn, 1) := by decide +kernel
theorem dL_law_512 : decode cL_law 512 = .ok (.aload_n 1, 1) := by decide +kernel
theorem dL_law_513 : decode cL_law 513 = .ok (.aload_n 0, 1) := by decide +kernel
theorem dL_law_514 : decode cL_law 514 = .ok (.iload_n 3, 1) := by decide +kernel
theorem dL_law_515 : decode cL_law 515 = .ok (.iconst 1, 1) := by decide +kernel
theorem dL_law_516 : decode cL_law 516 = .ok (.iadd, 1) := by decide +kernel
theorem dL_law_517 : decode cL_law 517 = .ok (.iaload, 1) := by decide +kernel
theorem dL_law_518 : decode cL_law 518 = .ok (.invokevirtual 88, 3) := by decide +kernel
theorem dL_law_521 : decode cL_law 521 = .ok (.aload_n 2, 1) := by decide +kernel
theorem dL_law_522 : decode cL_law 522 = .ok (.aload_n 0, 1) := by decide +kernel
theorem dL_law_523 : decode cL_law 523 = .ok (.iload_n 3, 1) := by decide +kernel
theorem dL_law_524 : decode cL_law 524 = .ok (.iconst 1, 1) := by decide +kernel
theorem dL_law_525 : decode cL_law 525 = .ok (.iadd, 1) := by decide +kernel
theorem dL_law_526 : decode cL_law 526 = .ok (.iaload, 1) := by decide +kernel
theorem dL_law_527 : decode cL_law 527 = .ok (.invokevirtual 91, 3) := by decide +kernel
theorem dL_law_530 : decode cL_law 530 = .ok (.if_icmp .eq 28, 3) := by decide +kernel
theorem dL_law_533 : decode cL_law 533 = .ok (.iconst 0, 1) := by decide +kernel
theorem dL_law_534 : decode cL_law 534 = .ok (.ireturn, 1) := by decide +kernel
theorem dL_law_535 : decode cL_law 535 = .ok (.aload_n 1, 1) := by decide +kernel
theorem dL_law_536 : decode cL_law 536 = .ok (.aload_n 0, 1) := by decide +kernel
theorem dL_law_537 : decode cL_law 537 = .ok (.iload_n 3, 1) := by decide +kernel
theorem dL_law_538 : decode cL_law 538 = .ok (.iconst 1, 1) := by decide +kernel
theorem dL_law_539 : decode cL_law 539 = .ok (.iadd, 1) := by decide +kernel
theorem dL_law_540 : decode cL_law 540 = .ok (.iaload, 1) := by decide +kernel
theorem dL_law_541 : decode cL_law 541 = .ok (.invokevirtual 92, 3) := by decide +kernel
theorem dL_law_544 : decode cL_law 544 = .ok (.aload_n 2, 1) := by decide +kernel
theorem dL_law_545 : decode cL_law 545 = .ok (.aload_n 0, 1) := by decide +kernel
theorem dL_law_546 : decode cL_law 546 = .ok (.iload_n 3, 1) := by decide +kernel
theorem dL_law_547 : decode cL_law 547 = .ok (.iconst 1, 1) := by decide +kernel
theorem dL_law_548 : decode cL_law 548 = .ok (.iadd, 1) := by decide +kernel
theorem dL_law_549 : decode cL_law 549 = .ok (.iaload, 1) := by decide +kernel
theorem dL_law_550 : decode cL_law 550 = .ok (.invokevirtual 95, 3) := by decide +kernel
theorem dL_law_553 : decode cL_law 553 = .ok (.if_icmp .eq 5, 3) := by decide +kernel
theorem dL_law_556 : decode cL_law 556 = .ok (.iconst 0, 1) := by decide +kernel
theorem dL_law_557 : decode cL_law 557 = .ok (.ireturn, 1) := by decide +kernel
theorem dL_law_558 : decode cL_law 558 = .ok (.iinc 3 3, 3) := by decide +kernel
theorem dL_law_561 : decode cL_law 561 = .ok (.goto (-543), 3) := by decide +kernel
theorem dL_law_564 : decode cL_law 564 = .ok (.iconst 1, 1) := by decide +kernel
theorem dL_law_565 : decode cL_law 565 = .ok (.ireturn, 1) := by decide +kernel
end
section
/-! the abstract machine: states, how they lie in a heap, the judgements Ev (inside a method) and Ex (a method's contract) -/
abbrev MI : Type := MethodName × ByteArray × Nat × Option FieldType
abbrev St : Type := Nat × Nat × (Nat → Nat × Nat) × (Nat → Nat → Int32) × (Nat → Nat → Int64) × (Nat → Nat → Option Nat)
abbrev sn (σ : St) : Nat := σ.1
abbrev sz (σ : St) : Nat := σ.2.1
abbrev sh (σ : St) : Nat → Nat × Nat := σ.2.2.1
abbrev sI (σ : St) : Nat → Nat → Int32 := σ.2.2.2.1
abbrev sL (σ : St) : Nat → Nat → Int64 := σ.2.2.2.2.1
abbrev sP (σ : St) : Nat → Nat → Option Nat := σ.2.2.2.2.2
def up1 {α : Type} (f : Nat → α) (a : Nat) (v : α) : Nat → α := fun x => if x = a then v else f x
def up2 {α : Type} (f : Nat → Nat → α) (a k : Nat) (v : α) : Nat → Nat → α := fun x y => if x = a ∧ y = k then v else f x y
def row0 {α : Type} (f : Nat → Nat → α) (a : Nat) (v : α) : Nat → Nat → α := fun x y => if x = a then v else f x y
def setI (σ : St) (a k : Nat) (v : Int32) : St := (σ.1, σ.2.1, σ.2.2.1, up2 σ.2.2.2.1 a k v, σ.2.2.2.2.1, σ.2.2.2.2.2)
def setL (σ : St) (a k : Nat) (v : Int64) : St := (σ.1, σ.2.1, σ.2.2.1, σ.2.2.2.1, up2 σ.2.2.2.2.1 a k v, σ.2.2.2.2.2)
def setP (σ : St) (a k : Nat) (v : Option Nat) : St := (σ.1, σ.2.1, σ.2.2.1, σ.2.2.2.1, σ.2.2.2.2.1, up2 σ.2.2.2.2.2 a k v)
def newC (σ : St) (kind len : Nat) : St := (σ.1 + 1, σ.2.1 + len, up1 σ.2.2.1 σ.1 (kind, len), row0 σ.2.2.2.1 σ.1 0, row0 σ.2.2.2.2.1 σ.1 0, row0 σ.2.2.2.2.2 σ.1 none)
def isO (σ : St) (k a : Nat) : Bool := decide (1 ≤ a) && decide (a < sn σ) && (sh σ a).1 == k
def isA (σ : St) (k a : Nat) : Bool := decide (a < sn σ) && (sh σ a).1 == k
def alen (σ : St) (a : Nat) : Nat := (sh σ a).2
def inR (i : Int32) (n : Nat) : Bool := decide (0 ≤ i) && decide (i.toNatClampNeg < n)
def zok (v : Int32) : Bool := decide (v = 0) || decide (v = 1)
def chok (v : Int32) : Bool := decide ((v.toUInt32 % 65536).toInt32 = v)
abbrev GC : Type := va_G × (Nat → ClassId) × Nat × Nat
def al (G : GC) (k : Nat) : Nat := if k = 0 then G.2.2.1 else G.2.2.2 + k
def cv (G : GC) (v : Value) : Value := match v with
  | .ref k => .ref (al G k)
  | v => v
def cvl (G : GC) (q : Nat × Value) : Nat × Value := (q.1, cv G q.2)
def fcat (ty : FieldType) : Nat := match ty with
  | .long => 1
  | .object _ => 2
  | .array _ => 2
  | _ => 0
def fval (G : GC) (σ : St) (k a j : Nat) : Value := if fcat (kty k j) = 1 then .long (sL σ a j) else if fcat (kty k j) = 2 then va_rf ((sP σ a j).map (al G)) else .int (sI σ a j)
def acell (G : GC) (σ : St) (k a : Nat) : vp_A := if k = 14 then (alen σ a, .inr (.inl (sL σ a))) else if k = 16 ∨ k = 17 then (alen σ a, .inr (.inr (.inr (.inr (fun j => (sP σ a j).map (al G)))))) else (alen σ a, .inl (sI σ a))
def aty (k : Nat) : FieldType := if k = 12 then .char else if k = 13 then .int else if k = 14 then .long else if k = 15 then .boolean else if k = 16 then .object RX1 else .object RX6
def tysOf (G : GC) : List (ClassId × FieldType) := [(G.2.1 12, .char), (G.2.1 13, .int), (G.2.1 14, .long), (G.2.1 15, .boolean), (G.2.1 16, .object RX1), (G.2.1 17, .object RX6)]
def CellOK (G : GC) (σ : St) (H : Heap) (a : Nat) : Prop :=
  ((sh σ a).1 < 12 ∧ t_OB (al G a) (G.1.1 (sh σ a).1) (kN (sh σ a).1) (G.1.2 (sh σ a).1) H (fval G σ (sh σ a).1 a)) ∨
  (12 ≤ (sh σ a).1 ∧ (sh σ a).1 < 18 ∧ H[al G a]? = some (vp_cell (G.2.1 (sh σ a).1) (acell G σ (sh σ a).1 a)))
def Rep (G : GC) (σ : St) (s : State) (H : Heap) : Prop :=
  H.size = G.2.2.2 + sn σ ∧ 1 ≤ sn σ ∧ G.2.2.1 ≤ G.2.2.2 ∧ ((sh σ 0).1 = 13 ∧ va_X G.2.2.1 (alen σ 0) (sI σ 0) s H) ∧ ∀ a, 1 ≤ a → a < sn σ → CellOK G σ H a
def nests : List Cond := [.methodLinkNest RX10 11 yX7_init RX10, .methodLinkNest RX10 18 yX6_init RX10, .methodLinkNest RX10 29 yX3_init RX10, .methodLinkNest RX10 64 yX8_init RX10, .methodLinkNest RX9 75 yX10_partsOf RX10, .methodLinkNest RX9 78 yX10_nextPart RX10, .methodLinkNest RX0 81 yX10_partsOf RX10, .methodLinkNest RX0 92 yX10_nextPart RX10]
def Tb (G : GC) (s : State) : Prop := va_K G.1 vwCl (tysOf G) s ∧ va_AO RX1 s ∧ va_AO RX6 s ∧ ∀ w ∈ nests, va_Nw w s
def Fx (M : MI) (p : Program) (s : State) (m : MethodId) (args : Array Value) (meth : Method) (c : Code) : Prop :=
  p.tables.exec = Jvm.exec ∧ c.code = M.2.1 ∧ c.maxLocals = M.2.2.1 ∧ meth.sig.returnType = M.2.2.2 ∧ meth.locks = false ∧ s.vm.findClass M.1.cls = some m.cls ∧ (∀ w ∈ gtbl, w.before args s = true) ∧ (M.1.name = "<init>" → meth.name = "<init>")
def RI (r : Option Value) : Instr := match r with
  | none => .return_
  | some (.int _) => .ireturn
  | some (.long _) => .lreturn
  | some _ => .areturn
def RetOK (ret : Option FieldType) (r : Option Value) : Prop := match r with
  | none => ret = none
  | some (.int v) => ∃ ty, ret = some ty ∧ narrow ty (.int v) = .int v
  | some (.long _) => ret = some .long
  | some v => (∃ ty, ret = some ty ∧ ((∃ n, ty = .object n) ∨ ∃ t, ty = .array t)) ∧ (v = .null ∨ ∃ a, v = .ref a)
def Ev (M : MI) (d pc : Nat) (ls : List (Nat × Value)) (st : List Value) (σ : St) (r : Option Value) (σ' : St) : Prop :=
  sn σ ≤ sn σ' ∧ sz σ ≤ sz σ' ∧ ∀ (G : GC) (p : Program) (l : Launch) (e : Env) (R : Room) (s : State) (m : MethodId) (args : Array Value) (below : List Frame) (meth : Method) (c : Code) (H : Heap) (locs : List Loc) (cells slots : Nat) (Q : State → Prop) (ar : Array Slot),
    Fx M p s m args meth c → Tb G s → Rep G σ s H → lv_has ar M.2.2.1 (ls.map (cvl G)) → (∀ q ∈ locs, G.2.2.2 < q.base) →
    (d ≤ R.frames ∧ 40 * d ≤ R.locals ∧ cells + (sn σ' - sn σ) ≤ R.cells ∧ slots + (sz σ' - sz σ) ≤ R.slots) →
    (∀ (H' : Heap) (locs' : List Loc) (pc' : Nat) (ar' : Array Slot), Rep G σ' s H' → (∀ q ∈ locs', G.2.2.2 < q.base) → decode M.2.1 pc' = .ok (RI r, 1) → RetOK M.2.2.2 r →
      W p l e R s m args below meth c H' locs' (cells + (sn σ' - sn σ)) (slots + (sz σ' - sz σ)) Q (F0 m pc' ar' ((r.map (cv G)).toList))) →
    W p l e R s m args below meth c H locs cells slots Q (F0 m pc ar (st.map (cv G)))
def Wd (M : MI) : List Cond := Cond.code M.1 M.2.1 M.2.2.1 M.2.2.2 :: gtbl
def Ex (M : MI) (d : Nat) (av : List Value) (σ : St) (r : Option Value) (σ' : St) : Prop :=
  sn σ ≤ sn σ' ∧ sz σ ≤ sz σ' ∧ ∀ (l : Launch) (G : GC), Met l M.1 (Wd M) ({ frames := d, cells := sn σ' - sn σ, slots := sz σ' - sz σ, locals := 40 * d }) (va_Pc (av.map (cv G)) (fun U => Rep G σ U U.heap ∧ Tb G U)) (fun _ _ oc t => oc = .returned (r.map (cv G)) ∧ Rep G σ' t t.heap) (sn σ' - sn σ) (sz σ' - sz σ) (fun q => G.2.2.2 < q)
/-! plain lemmas -/
theorem al_pos {G : GC} {a : Nat} (h : 1 ≤ a) : al G a = G.2.2.2 + a := by unfold al; rw [if_neg (by omega)]
theorem al_inj {G : GC} {a x : Nat} (hb : G.2.2.1 ≤ G.2.2.2) (h : 1 ≤ a) (hx : x ≠ a) : al G x ≠ al G a := by
  rw [al_pos h]; unfold al; split <;> omega
theorem cv_cat (G : GC) (v : Value) : (cv G v).category = v.category := by cases v <;> rfl
theorem cv_rf (G : GC) (o : Option Nat) : cv G (va_rf o) = va_rf (o.map (al G)) := by cases o <;> rfl
theorem cvl_filt (G : GC) (i : Nat) (ls : List (Nat × Value)) : (ls.map (cvl G)).filter (fun q => !(q.1 == i) && !(q.1 + 1 == i && q.2.category == 2)) = (ls.filter (fun q => !(q.1 == i) && !(q.1 + 1 == i && q.2.category == 2))).map (cvl G) := by
  rw [List.filter_map]
  congr 2
  funext q
  simp [Function.comp, cvl, cv_cat]
theorem cvl_filt2 (G : GC) (i : Nat) (ls : List (Nat × Value)) : (ls.map (cvl G)).filter (fun q => !(q.1 == i) && (!(q.1 == i + 1) && !(q.1 + 1 == i && q.2.category == 2))) = (ls.filter (fun q => !(q.1 == i) && (!(q.1 == i + 1) && !(q.1 + 1 == i && q.2.category == 2)))).map (cvl G) := by
  rw [List.filter_map]
  congr 2
  funext q
  simp [Function.comp, cvl, cv_cat]
theorem cvl_args (G : GC) : ∀ (vs : List Value) (i : Nat), lv_args i (vs.map (cv G)) = (lv_args i vs).map (cvl G)
  | [], _ => rfl
  | v :: vs, i => by
    show (i, cv G v) :: lv_args (if (cv G v).category = 2 then i + 2 else i + 1) (vs.map (cv G)) = _
    rw [cv_cat, cvl_args G vs]
    rfl
theorem lg_len (G : GC) (vs : List Value) : (lg_sl (vs.map (cv G))).length = (lg_sl vs).length := by
  unfold lg_sl
  induction vs with
  | nil => rfl
  | cons v vs ih =>
    simp only [List.map_cons, List.flatMap_cons, List.length_append, cv_cat, ih]
    by_cases h : v.category = 2 <;> simp [h]
theorem cat_sum (G : GC) (st : List Value) : ((st.map (cv G)).map fun v => v.category).sum = (st.map fun v => v.category).sum := by
  rw [List.map_map]
  congr 1
  apply List.map_congr_left
  intro v _
  exact cv_cat G v
theorem Fx.hx {M : MI} {p : Program} {s : State} {m : MethodId} {args : Array Value} {meth : Method} {c : Code} (h : Fx M p s m args meth c) : p.tables.exec = Jvm.exec := h.1
theorem Fx.hb {M : MI} {p : Program} {s : State} {m : MethodId} {args : Array Value} {meth : Method} {c : Code} (h : Fx M p s m args meth c) : c.code = M.2.1 := h.2.1
theorem Fx.hml {M : MI} {p : Program} {s : State} {m : MethodId} {args : Array Value} {meth : Method} {c : Code} (h : Fx M p s m args meth c) : c.maxLocals = M.2.2.1 := h.2.2.1
theorem Fx.hr {M : MI} {p : Program} {s : State} {m : MethodId} {args : Array Value} {meth : Method} {c : Code} (h : Fx M p s m args meth c) : meth.sig.returnType = M.2.2.2 := h.2.2.2.1
theorem Fx.hlocks {M : MI} {p : Program} {s : State} {m : MethodId} {args : Array Value} {meth : Method} {c : Code} (h : Fx M p s m args meth c) : meth.locks = false := h.2.2.2.2.1
theorem Fx.hown {M : MI} {p : Program} {s : State} {m : MethodId} {args : Array Value} {meth : Method} {c : Code} (h : Fx M p s m args meth c) : s.vm.findClass M.1.cls = some m.cls := h.2.2.2.2.2.1
theorem Fx.hts {M : MI} {p : Program} {s : State} {m : MethodId} {args : Array Value} {meth : Method} {c : Code} (h : Fx M p s m args meth c) : ∀ w ∈ gtbl, w.before args s = true := h.2.2.2.2.2.2.1
theorem Rep.moved {G : GC} {σ : St} {s t : State} {H : Heap} (hv : s.vm.Alike t.vm) (h : Rep G σ s H) : Rep G σ t H := ⟨h.1, h.2.1, h.2.2.1, ⟨h.2.2.2.1.1, va_X.moved hv h.2.2.2.1.2⟩, h.2.2.2.2⟩
theorem Tb.moved {G : GC} {s t : State} (hv : s.WarmedH t.vm) (h : Tb G s) : Tb G t := by
  refine ⟨va_K.moved hv.alike h.1, va_AO.moved hv.alike h.2.1, va_AO.moved hv.alike h.2.2.1, fun w hw => ?_⟩
  have h1 := h.2.2.2 w hw
  simp only [nests, List.mem_cons, List.not_mem_nil, or_false] at hw
  rcases hw with rfl | rfl | rfl | rfl | rfl | rfl | rfl | rfl <;> exact va_Nw.warmM hv h1
/-! rows that touch locals and the stack alone -/
theorem ev_pure {M : MI} {d pc pc' : Nat} {ls ls' : List (Nat × Value)} {st st' : List Value} {σ σ' : St} {r : Option Value}
    (h : ∀ (G : GC) (p : Program) (l : Launch) (e : Env) (R : Room) (s : State) (m : MethodId) (args : Array Value) (below : List Frame) (meth : Method) (c : Code) (H : Heap) (locs : List Loc) (cells slots : Nat) (Q : State → Prop) (ar : Array Slot),
      Fx M p s m args meth c → lv_has ar M.2.2.1 (ls.map (cvl G)) → (∀ ar' : Array Slot, lv_has ar' M.2.2.1 (ls'.map (cvl G)) → W p l e R s m args below meth c H locs cells slots Q (F0 m pc' ar' (st'.map (cv G)))) →
      W p l e R s m args below meth c H locs cells slots Q (F0 m pc ar (st.map (cv G))))
    (k : Ev M d pc' ls' st' σ r σ') : Ev M d pc ls st σ r σ' :=
  ⟨k.1, k.2.1, fun G p l e R s m args below meth c H locs cells slots Q ar hF hT hR hl hL hr hk => h G p l e R s m args below meth c H locs cells slots Q ar hF hl (fun ar' hl' => k.2.2 G p l e R s m args below meth c H locs cells slots Q ar' hF hT hR hl' hL hr hk)⟩
section EVP
variable {M : MI} {d pc : Nat} {ls : List (Nat × Value)} {st : List Value} {σ σ' : St} {r : Option Value}
theorem ev_sub {ls' : List (Nat × Value)} (ks : List Nat) (h : lv_pick ls ks = ls') (k : Ev M d pc ls' st σ r σ') : Ev M d pc ls st σ r σ' :=
  ev_pure (fun _ _ _ _ _ _ _ _ _ _ _ _ _ _ _ _ ar hF hl kk => kk ar (lv_sub hl ks (by
    subst h
    unfold lv_pick
    rw [List.map_filterMap]
    congr 1
    funext q
    rw [List.getElem?_map]))) k
theorem ev_iconst {n : Int} {v : Int32} (hd : decode M.2.1 pc = .ok (.iconst n, 1)) (hv : Int32.ofInt n = v) (k : Ev M d (pc + 1) ls (.int v :: st) σ r σ') : Ev M d pc ls st σ r σ' :=
  ev_pure (fun _ _ _ _ _ _ _ _ _ _ _ _ _ _ _ _ ar hF hl kk => lv_iconst hF.hx hF.hb hd hv (kk ar hl)) k
theorem ev_bipush {n : Int} {v : Int32} (hd : decode M.2.1 pc = .ok (.bipush n, 2)) (hv : (Int8.ofInt n).toInt32 = v) (k : Ev M d (pc + 2) ls (.int v :: st) σ r σ') : Ev M d pc ls st σ r σ' :=
  ev_pure (fun _ _ _ _ _ _ _ _ _ _ _ _ _ _ _ _ ar hF hl kk => lv_bipush hF.hx hF.hb hd hv (kk ar hl)) k
theorem ev_sipush {n : Int} {v : Int32} (hd : decode M.2.1 pc = .ok (.sipush n, 3)) (hv : (Int16.ofInt n).toInt32 = v) (k : Ev M d (pc + 3) ls (.int v :: st) σ r σ') : Ev M d pc ls st σ r σ' :=
  ev_pure (fun _ _ _ _ _ _ _ _ _ _ _ _ _ _ _ _ ar hF hl kk => lv_sipush hF.hx hF.hb hd hv (kk ar hl)) k
theorem ev_lconst {n : Fin 2} {v : Int64} (hd : decode M.2.1 pc = .ok (.lconst n, 1)) (hv : Int64.ofNat (n : Nat) = v) (k : Ev M d (pc + 1) ls (.long v :: st) σ r σ') : Ev M d pc ls st σ r σ' :=
  ev_pure (fun _ _ _ _ _ _ _ _ _ _ _ _ _ _ _ _ ar hF hl kk => lv_lconst hF.hx hF.hb hd hv (kk ar hl)) k
theorem ev_null (hd : decode M.2.1 pc = .ok (.aconst_null, 1)) (k : Ev M d (pc + 1) ls (va_rf none :: st) σ r σ') : Ev M d pc ls st σ r σ' :=
  ev_pure (fun _ _ _ _ _ _ _ _ _ _ _ _ _ _ _ _ ar hF hl kk => lv_null hF.hx hF.hb hd (kk ar hl)) k
theorem ev_ldc {i : Nat} {v : Int32} (hd : decode M.2.1 pc = .ok (.ldc i, 2)) (hc : Cond.constant M.1.cls i v ∈ gtbl) (k : Ev M d (pc + 2) ls (.int v :: st) σ r σ') : Ev M d pc ls st σ r σ' :=
  ev_pure (fun _ _ _ _ _ _ _ _ _ _ _ _ _ _ _ _ ar hF hl kk => lv_ldc hF.hx hF.hb hF.hown (hF.hts _ hc) hd (kk ar hl)) k
theorem ev_ldcw {i : Nat} {v : Int32} (hd : decode M.2.1 pc = .ok (.ldc_w i, 3)) (hc : Cond.constant M.1.cls i v ∈ gtbl) (k : Ev M d (pc + 3) ls (.int v :: st) σ r σ') : Ev M d pc ls st σ r σ' :=
  ev_pure (fun _ _ _ _ _ _ _ _ _ _ _ _ _ _ _ _ ar hF hl kk => lv_ldcw hF.hx hF.hb hF.hown (hF.hts _ hc) hd (kk ar hl)) k
theorem ev_ldc2 {i : Nat} {v : Int64} (hd : decode M.2.1 pc = .ok (.ldc2_w i, 3)) (hc : Cond.constantLong M.1.cls i v ∈ gtbl) (k : Ev M d (pc + 3) ls (.long v :: st) σ r σ') : Ev M d pc ls st σ r σ' :=
  ev_pure (fun _ _ _ _ _ _ _ _ _ _ _ _ _ _ _ _ ar hF hl kk => lv_ldc2 hF.hx hF.hb hF.hown (hF.hts _ hc) hd (kk ar hl)) k
theorem cvl_at {G : GC} {j i : Nat} {v : Value} (h : ls[j]? = some (i, v)) : (ls.map (cvl G))[j]? = some (i, cv G v) := by rw [List.getElem?_map, h]; rfl
theorem ev_iload_n {n : Fin 4} {x : Int32} (j : Nat) (hd : decode M.2.1 pc = .ok (.iload_n n, 1)) (hl : ls[j]? = some ((n : Nat), .int x)) (k : Ev M d (pc + 1) ls (.int x :: st) σ r σ') : Ev M d pc ls st σ r σ' :=
  ev_pure (fun _ _ _ _ _ _ _ _ _ _ _ _ _ _ _ _ ar hF hl' kk => lv_iload_n hF.hx hF.hb hd rfl (lv_at hl' j (cvl_at hl)) (kk ar hl')) k
theorem ev_iload {n : Nat} {x : Int32} (j : Nat) (hd : decode M.2.1 pc = .ok (.iload n, 2)) (hl : ls[j]? = some (n, .int x)) (k : Ev M d (pc + 2) ls (.int x :: st) σ r σ') : Ev M d pc ls st σ r σ' :=
  ev_pure (fun _ _ _ _ _ _ _ _ _ _ _ _ _ _ _ _ ar hF hl' kk => lv_iload hF.hx hF.hb hd (lv_at hl' j (cvl_at hl)) (kk ar hl')) k
theorem ev_lload_n {n : Fin 4} {x : Int64} (j : Nat) (hd : decode M.2.1 pc = .ok (.lload_n n, 1)) (hl : ls[j]? = some ((n : Nat), .long x)) (k : Ev M d (pc + 1) ls (.long x :: st) σ r σ') : Ev M d pc ls st σ r σ' :=
  ev_pure (fun _ _ _ _ _ _ _ _ _ _ _ _ _ _ _ _ ar hF hl' kk => lv_lload_n hF.hx hF.hb hd rfl (lv_at hl' j (cvl_at hl)) (kk ar hl')) k
theorem ev_lload {n : Nat} {x : Int64} (j : Nat) (hd : decode M.2.1 pc = .ok (.lload n, 2)) (hl : ls[j]? = some (n, .long x)) (k : Ev M d (pc + 2) ls (.long x :: st) σ r σ') : Ev M d pc ls st σ r σ' :=
  ev_pure (fun _ _ _ _ _ _ _ _ _ _ _ _ _ _ _ _ ar hF hl' kk => lv_lload hF.hx hF.hb hd (lv_at hl' j (cvl_at hl)) (kk ar hl')) k
theorem ev_aload_n {n : Fin 4} {o : Option Nat} (j : Nat) (hd : decode M.2.1 pc = .ok (.aload_n n, 1)) (hl : ls[j]? = some ((n : Nat), va_rf o)) (k : Ev M d (pc + 1) ls (va_rf o :: st) σ r σ') : Ev M d pc ls st σ r σ' := by
  cases o with
  | none => exact ev_pure (fun _ _ _ _ _ _ _ _ _ _ _ _ _ _ _ _ ar hF hl' kk => lv_aload_nN hF.hx hF.hb hd rfl (lv_at hl' j (cvl_at hl)) (kk ar hl')) k
  | some a => exact ev_pure (fun _ _ _ _ _ _ _ _ _ _ _ _ _ _ _ _ ar hF hl' kk => lv_aload_n hF.hx hF.hb hd rfl (lv_at hl' j (cvl_at hl)) (kk ar hl')) k
theorem ev_aload {n : Nat} {o : Option Nat} (j : Nat) (hd : decode M.2.1 pc = .ok (.aload n, 2)) (hl : ls[j]? = some (n, va_rf o)) (k : Ev M d (pc + 2) ls (va_rf o :: st) σ r σ') : Ev M d pc ls st σ r σ' := by
  cases o with
  | none => exact ev_pure (fun _ _ _ _ _ _ _ _ _ _ _ _ _ _ _ _ ar hF hl' kk => lv_aloadN hF.hx hF.hb hd (lv_at hl' j (cvl_at hl)) (kk ar hl')) k
  | some a => exact ev_pure (fun _ _ _ _ _ _ _ _ _ _ _ _ _ _ _ _ ar hF hl' kk => lv_aload hF.hx hF.hb hd (lv_at hl' j (cvl_at hl)) (kk ar hl')) k
theorem ev_istore_n {n : Fin 4} {x : Int32} {ls' : List (Nat × Value)} (hd : decode M.2.1 pc = .ok (.istore_n n, 1)) (hn : (n : Nat) < M.2.2.1) (hl : ((n : Nat), Value.int x) :: ls.filter (fun q => !(q.1 == (n : Nat)) && !(q.1 + 1 == (n : Nat) && q.2.category == 2)) = ls') (k : Ev M d (pc + 1) ls' st σ r σ') : Ev M d pc ls (.int x :: st) σ r σ' :=
  ev_pure (fun G _ _ _ _ _ _ _ _ _ _ _ _ _ _ _ ar hF hl' kk => lv_istore_n hF.hx hF.hb hd rfl hl' hn (by rw [cvl_filt, ← hl]; rfl) (fun ar' h' => kk ar' h')) k
theorem ev_istore {n : Nat} {x : Int32} {ls' : List (Nat × Value)} (hd : decode M.2.1 pc = .ok (.istore n, 2)) (hn : n < M.2.2.1) (hl : (n, Value.int x) :: ls.filter (fun q => !(q.1 == n) && !(q.1 + 1 == n && q.2.category == 2)) = ls') (k : Ev M d (pc + 2) ls' st σ r σ') : Ev M d pc ls (.int x :: st) σ r σ' :=
  ev_pure (fun G _ _ _ _ _ _ _ _ _ _ _ _ _ _ _ ar hF hl' kk => lv_istore hF.hx hF.hb hd hl' hn (by rw [cvl_filt, ← hl]; rfl) (fun ar' h' => kk ar' h')) k
theorem ev_lstore_n {n : Fin 4} {x : Int64} {ls' : List (Nat × Value)} (hd : decode M.2.1 pc = .ok (.lstore_n n, 1)) (hn : (n : Nat) + 1 < M.2.2.1) (hl : ((n : Nat), Value.long x) :: ls.filter (fun q => !(q.1 == (n : Nat)) && (!(q.1 == (n : Nat) + 1) && !(q.1 + 1 == (n : Nat) && q.2.category == 2))) = ls') (k : Ev M d (pc + 1) ls' st σ r σ') : Ev M d pc ls (.long x :: st) σ r σ' :=
  ev_pure (fun G _ _ _ _ _ _ _ _ _ _ _ _ _ _ _ ar hF hl' kk => lv_lstore_n hF.hx hF.hb hd rfl hl' hn (by rw [cvl_filt2, ← hl]; rfl) (fun ar' h' => kk ar' h')) k
theorem ev_lstore {n : Nat} {x : Int64} {ls' : List (Nat × Value)} (hd : decode M.2.1 pc = .ok (.lstore n, 2)) (hn : n + 1 < M.2.2.1) (hl : (n, Value.long x) :: ls.filter (fun q => !(q.1 == n) && (!(q.1 == n + 1) && !(q.1 + 1 == n && q.2.category == 2))) = ls') (k : Ev M d (pc + 2) ls' st σ r σ') : Ev M d pc ls (.long x :: st) σ r σ' :=
  ev_pure (fun G _ _ _ _ _ _ _ _ _ _ _ _ _ _ _ ar hF hl' kk => lv_lstore hF.hx hF.hb hd hl' hn (by rw [cvl_filt2, ← hl]; rfl) (fun ar' h' => kk ar' h')) k
theorem ev_astore_n {n : Fin 4} {o : Option Nat} {ls' : List (Nat × Value)} (hd : decode M.2.1 pc = .ok (.astore_n n, 1)) (hn : (n : Nat) < M.2.2.1) (hl : ((n : Nat), va_rf o) :: ls.filter (fun q => !(q.1 == (n : Nat)) && !(q.1 + 1 == (n : Nat) && q.2.category == 2)) = ls') (k : Ev M d (pc + 1) ls' st σ r σ') : Ev M d pc ls (va_rf o :: st) σ r σ' := by
  cases o with
  | none => exact ev_pure (fun G _ _ _ _ _ _ _ _ _ _ _ _ _ _ _ ar hF hl' kk => lv_astore_nN hF.hx hF.hb hd rfl hl' hn (by rw [cvl_filt, ← hl]; rfl) (fun ar' h' => kk ar' h')) k
  | some a => exact ev_pure (fun G _ _ _ _ _ _ _ _ _ _ _ _ _ _ _ ar hF hl' kk => lv_astore_n hF.hx hF.hb hd rfl hl' hn (by rw [cvl_filt, ← hl]; rfl) (fun ar' h' => kk ar' h')) k
theorem ev_astore {n : Nat} {o : Option Nat} {ls' : List (Nat × Value)} (hd : decode M.2.1 pc = .ok (.astore n, 2)) (hn : n < M.2.2.1) (hl : (n, va_rf o) :: ls.filter (fun q => !(q.1 == n) && !(q.1 + 1 == n && q.2.category == 2)) = ls') (k : Ev M d (pc + 2) ls' st σ r σ') : Ev M d pc ls (va_rf o :: st) σ r σ' := by
  cases o with
  | none => exact ev_pure (fun G _ _ _ _ _ _ _ _ _ _ _ _ _ _ _ ar hF hl' kk => lv_astoreN hF.hx hF.hb hd hl' hn (by rw [cvl_filt, ← hl]; rfl) (fun ar' h' => kk ar' h')) k
  | some a => exact ev_pure (fun G _ _ _ _ _ _ _ _ _ _ _ _ _ _ _ ar hF hl' kk => lv_astore hF.hx hF.hb hd hl' hn (by rw [cvl_filt, ← hl]; rfl) (fun ar' h' => kk ar' h')) k
theorem ev_iinc {n : Nat} {i : Int} {x v : Int32} {ls' : List (Nat × Value)} (j : Nat) (hd : decode M.2.1 pc = .ok (.iinc n i, 3)) (hj : ls[j]? = some (n, .int x)) (hv : x + Int32.ofInt i = v) (hn : n < M.2.2.1) (hl : (n, Value.int v) :: ls.filter (fun q => !(q.1 == n) && !(q.1 + 1 == n && q.2.category == 2)) = ls') (k : Ev M d (pc + 3) ls' st σ r σ') : Ev M d pc ls st σ r σ' :=
  ev_pure (fun G _ _ _ _ _ _ _ _ _ _ _ _ _ _ _ ar hF hl' kk => lv_iinc hF.hx hF.hb hd hl' (cvl_at hj) hv hn (by rw [cvl_filt, ← hl]; rfl) (fun ar' h' => kk ar' h')) k
end EVP
end
section
section EVQ
variable {M : MI} {d pc : Nat} {ls : List (Nat × Value)} {st : List Value} {σ σ' : St} {r : Option Value}
theorem ev_iadd {x y : Int32} (hd : decode M.2.1 pc = .ok (.iadd, 1)) (k : Ev M d (pc + 1) ls (.int (x + y) :: st) σ r σ') : Ev M d pc ls (.int y :: .int x :: st) σ r σ' :=
  ev_pure (fun _ _ _ _ _ _ _ _ _ _ _ _ _ _ _ _ ar hF hl kk => lv_iadd hF.hx hF.hb hd (kk ar hl)) k
theorem ev_isub {x y : Int32} (hd : decode M.2.1 pc = .ok (.isub, 1)) (k : Ev M d (pc + 1) ls (.int (x - y) :: st) σ r σ') : Ev M d pc ls (.int y :: .int x :: st) σ r σ' :=
  ev_pure (fun _ _ _ _ _ _ _ _ _ _ _ _ _ _ _ _ ar hF hl kk => lv_isub hF.hx hF.hb hd (kk ar hl)) k
theorem ev_imul {x y : Int32} (hd : decode M.2.1 pc = .ok (.imul, 1)) (k : Ev M d (pc + 1) ls (.int (x * y) :: st) σ r σ') : Ev M d pc ls (.int y :: .int x :: st) σ r σ' :=
  ev_pure (fun _ _ _ _ _ _ _ _ _ _ _ _ _ _ _ _ ar hF hl kk => lv_imul hF.hx hF.hb hd (kk ar hl)) k
theorem ev_iand {x y : Int32} (hd : decode M.2.1 pc = .ok (.iand, 1)) (k : Ev M d (pc + 1) ls (.int (x &&& y) :: st) σ r σ') : Ev M d pc ls (.int y :: .int x :: st) σ r σ' :=
  ev_pure (fun _ _ _ _ _ _ _ _ _ _ _ _ _ _ _ _ ar hF hl kk => lv_iand hF.hx hF.hb hd (kk ar hl)) k
theorem ev_ior {x y : Int32} (hd : decode M.2.1 pc = .ok (.ior, 1)) (k : Ev M d (pc + 1) ls (.int (x ||| y) :: st) σ r σ') : Ev M d pc ls (.int y :: .int x :: st) σ r σ' :=
  ev_pure (fun _ _ _ _ _ _ _ _ _ _ _ _ _ _ _ _ ar hF hl kk => lv_ior hF.hx hF.hb hd (kk ar hl)) k
theorem ev_ixor {x y : Int32} (hd : decode M.2.1 pc = .ok (.ixor, 1)) (k : Ev M d (pc + 1) ls (.int (x ^^^ y) :: st) σ r σ') : Ev M d pc ls (.int y :: .int x :: st) σ r σ' :=
  ev_pure (fun _ _ _ _ _ _ _ _ _ _ _ _ _ _ _ _ ar hF hl kk => lv_ixor hF.hx hF.hb hd (kk ar hl)) k
theorem ev_ishl {x y : Int32} (hd : decode M.2.1 pc = .ok (.ishl, 1)) (k : Ev M d (pc + 1) ls (.int (x <<< (y &&& 31)) :: st) σ r σ') : Ev M d pc ls (.int y :: .int x :: st) σ r σ' :=
  ev_pure (fun _ _ _ _ _ _ _ _ _ _ _ _ _ _ _ _ ar hF hl kk => lv_ishl hF.hx hF.hb hd (kk ar hl)) k
theorem ev_ishr {x y : Int32} (hd : decode M.2.1 pc = .ok (.ishr, 1)) (k : Ev M d (pc + 1) ls (.int (x >>> (y &&& 31)) :: st) σ r σ') : Ev M d pc ls (.int y :: .int x :: st) σ r σ' :=
  ev_pure (fun _ _ _ _ _ _ _ _ _ _ _ _ _ _ _ _ ar hF hl kk => lv_ishr hF.hx hF.hb hd (kk ar hl)) k
theorem ev_idiv {x y : Int32} (hd : decode M.2.1 pc = .ok (.idiv, 1)) (h0 : ¬ y = 0) (k : Ev M d (pc + 1) ls (.int (x / y) :: st) σ r σ') : Ev M d pc ls (.int y :: .int x :: st) σ r σ' :=
  ev_pure (fun _ _ _ _ _ _ _ _ _ _ _ _ _ _ _ _ ar hF hl kk => lv_idiv hF.hx hF.hb hd h0 (kk ar hl)) k
theorem ev_irem {x y : Int32} (hd : decode M.2.1 pc = .ok (.irem, 1)) (h0 : ¬ y = 0) (k : Ev M d (pc + 1) ls (.int (x - x / y * y) :: st) σ r σ') : Ev M d pc ls (.int y :: .int x :: st) σ r σ' :=
  ev_pure (fun _ _ _ _ _ _ _ _ _ _ _ _ _ _ _ _ ar hF hl kk => lv_irem hF.hx hF.hb hd h0 (kk ar hl)) k
theorem ev_iushr {x y : Int32} (hd : decode M.2.1 pc = .ok (.iushr, 1)) (k : Ev M d (pc + 1) ls (.int ((x.toUInt32 >>> (y.toUInt32 &&& Int32.toUInt32 31)).toInt32) :: st) σ r σ') : Ev M d pc ls (.int y :: .int x :: st) σ r σ' :=
  ev_pure (fun _ _ _ _ _ _ _ _ _ _ _ _ _ _ _ _ ar hF hl kk => lv_iushr hF.hx hF.hb hd rfl (kk ar hl)) k
theorem ev_ladd {x y : Int64} (hd : decode M.2.1 pc = .ok (.ladd, 1)) (k : Ev M d (pc + 1) ls (.long (x + y) :: st) σ r σ') : Ev M d pc ls (.long y :: .long x :: st) σ r σ' :=
  ev_pure (fun _ _ _ _ _ _ _ _ _ _ _ _ _ _ _ _ ar hF hl kk => lv_ladd hF.hx hF.hb hd (kk ar hl)) k
theorem ev_lsub {x y : Int64} (hd : decode M.2.1 pc = .ok (.lsub, 1)) (k : Ev M d (pc + 1) ls (.long (x - y) :: st) σ r σ') : Ev M d pc ls (.long y :: .long x :: st) σ r σ' :=
  ev_pure (fun _ _ _ _ _ _ _ _ _ _ _ _ _ _ _ _ ar hF hl kk => lv_lsub hF.hx hF.hb hd (kk ar hl)) k
theorem ev_lmul {x y : Int64} (hd : decode M.2.1 pc = .ok (.lmul, 1)) (k : Ev M d (pc + 1) ls (.long (x * y) :: st) σ r σ') : Ev M d pc ls (.long y :: .long x :: st) σ r σ' :=
  ev_pure (fun _ _ _ _ _ _ _ _ _ _ _ _ _ _ _ _ ar hF hl kk => lv_lmul hF.hx hF.hb hd (kk ar hl)) k
theorem ev_land {x y : Int64} (hd : decode M.2.1 pc = .ok (.land, 1)) (k : Ev M d (pc + 1) ls (.long (x &&& y) :: st) σ r σ') : Ev M d pc ls (.long y :: .long x :: st) σ r σ' :=
  ev_pure (fun _ _ _ _ _ _ _ _ _ _ _ _ _ _ _ _ ar hF hl kk => lv_land hF.hx hF.hb hd (kk ar hl)) k
theorem ev_lor {x y : Int64} (hd : decode M.2.1 pc = .ok (.lor, 1)) (k : Ev M d (pc + 1) ls (.long (x ||| y) :: st) σ r σ') : Ev M d pc ls (.long y :: .long x :: st) σ r σ' :=
  ev_pure (fun _ _ _ _ _ _ _ _ _ _ _ _ _ _ _ _ ar hF hl kk => lv_lor hF.hx hF.hb hd (kk ar hl)) k
theorem ev_lcmp {x y : Int64} (hd : decode M.2.1 pc = .ok (.lcmp, 1)) (k : Ev M d (pc + 1) ls (.int (lg_cmp x y) :: st) σ r σ') : Ev M d pc ls (.long y :: .long x :: st) σ r σ' :=
  ev_pure (fun _ _ _ _ _ _ _ _ _ _ _ _ _ _ _ _ ar hF hl kk => W.lcmp hF.hx hF.hb hd (kk ar hl)) k
theorem ev_lshl {x : Int64} {y : Int32} (hd : decode M.2.1 pc = .ok (.lshl, 1)) (k : Ev M d (pc + 1) ls (.long (x <<< (y.toInt64 &&& 63)) :: st) σ r σ') : Ev M d pc ls (.int y :: .long x :: st) σ r σ' :=
  ev_pure (fun _ _ _ _ _ _ _ _ _ _ _ _ _ _ _ _ ar hF hl kk => lv_lshl hF.hx hF.hb hd rfl (kk ar hl)) k
theorem ev_lushr {x : Int64} {y : Int32} (hd : decode M.2.1 pc = .ok (.lushr, 1)) (k : Ev M d (pc + 1) ls (.long ((x.toUInt64 >>> (y.toInt64.toUInt64 &&& Int64.toUInt64 63)).toInt64) :: st) σ r σ') : Ev M d pc ls (.int y :: .long x :: st) σ r σ' :=
  ev_pure (fun _ _ _ _ _ _ _ _ _ _ _ _ _ _ _ _ ar hF hl kk => lv_lushr hF.hx hF.hb hd rfl (kk ar hl)) k
theorem ev_i2l {x : Int32} (hd : decode M.2.1 pc = .ok (.i2l, 1)) (k : Ev M d (pc + 1) ls (.long (x.toInt64) :: st) σ r σ') : Ev M d pc ls (.int x :: st) σ r σ' :=
  ev_pure (fun _ _ _ _ _ _ _ _ _ _ _ _ _ _ _ _ ar hF hl kk => lv_i2l hF.hx hF.hb hd rfl (kk ar hl)) k
theorem ev_l2i {x : Int64} (hd : decode M.2.1 pc = .ok (.l2i, 1)) (k : Ev M d (pc + 1) ls (.int (x.toInt32) :: st) σ r σ') : Ev M d pc ls (.long x :: st) σ r σ' :=
  ev_pure (fun _ _ _ _ _ _ _ _ _ _ _ _ _ _ _ _ ar hF hl kk => lv_l2i hF.hx hF.hb hd rfl (kk ar hl)) k
theorem ev_i2c {x : Int32} (hd : decode M.2.1 pc = .ok (.i2c, 1)) (k : Ev M d (pc + 1) ls (.int ((x.toUInt32 % 65536).toInt32) :: st) σ r σ') : Ev M d pc ls (.int x :: st) σ r σ' :=
  ev_pure (fun _ _ _ _ _ _ _ _ _ _ _ _ _ _ _ _ ar hF hl kk => lv_i2c hF.hx hF.hb hd rfl (kk ar hl)) k
theorem ev_dup {v : Value} (hd : decode M.2.1 pc = .ok (.dup, 1)) (hv : v.category = 1) (k : Ev M d (pc + 1) ls (v :: v :: st) σ r σ') : Ev M d pc ls (v :: st) σ r σ' :=
  ev_pure (fun G _ _ _ _ _ _ _ _ _ _ _ _ _ _ _ ar hF hl kk => lv_dup hF.hx hF.hb hd (by rw [cv_cat]; exact hv) (kk ar hl)) k
theorem ev_pop {v : Value} (hd : decode M.2.1 pc = .ok (.pop, 1)) (hv : v.category = 1) (k : Ev M d (pc + 1) ls st σ r σ') : Ev M d pc ls (v :: st) σ r σ' :=
  ev_pure (fun G _ _ _ _ _ _ _ _ _ _ _ _ _ _ _ ar hF hl kk => lv_pop hF.hx hF.hb hd (by rw [cv_cat]; exact hv) (kk ar hl)) k
theorem ev_dup2 {v w : Value} (hd : decode M.2.1 pc = .ok (.dup2, 1)) (hv : v.category = 1) (hw : w.category = 1) (k : Ev M d (pc + 1) ls (v :: w :: v :: w :: st) σ r σ') : Ev M d pc ls (v :: w :: st) σ r σ' :=
  ev_pure (fun G _ _ _ _ _ _ _ _ _ _ _ _ _ _ _ ar hF hl kk => lv_dup2_11 hF.hx hF.hb hd (by rw [cv_cat]; exact hv) (by rw [cv_cat]; exact hw) (kk ar hl)) k
theorem ev_if_eq {x : Int32} {off : Int} {tgt : Nat} (hd : decode M.2.1 pc = .ok (.ifCond .eq off, 3)) (ht : (pc : Int) + off = (tgt : Int)) (c1 : x = 0) (k : Ev M d tgt ls st σ r σ') : Ev M d pc ls (.int x :: st) σ r σ' :=
  ev_pure (fun _ _ _ _ _ _ _ _ _ _ _ _ _ _ _ _ ar hF hl kk => lv_if_eq hF.hx hF.hb hd ht (fun _ => kk ar hl) (fun h => absurd c1 h)) k
theorem ev_if_eq_n {x : Int32} {off : Int} (tgt : Nat) (hd : decode M.2.1 pc = .ok (.ifCond .eq off, 3)) (ht : (pc : Int) + off = (tgt : Int)) (c1 : ¬ x = 0) (k : Ev M d (pc + 3) ls st σ r σ') : Ev M d pc ls (.int x :: st) σ r σ' :=
  ev_pure (fun _ _ _ _ _ _ _ _ _ _ _ _ _ _ _ _ ar hF hl kk => lv_if_eq hF.hx hF.hb hd ht (fun h => absurd h c1) (fun _ => kk ar hl)) k
theorem ev_if_ne {x : Int32} {off : Int} {tgt : Nat} (hd : decode M.2.1 pc = .ok (.ifCond .ne off, 3)) (ht : (pc : Int) + off = (tgt : Int)) (c1 : ¬ x = 0) (k : Ev M d tgt ls st σ r σ') : Ev M d pc ls (.int x :: st) σ r σ' :=
  ev_pure (fun _ _ _ _ _ _ _ _ _ _ _ _ _ _ _ _ ar hF hl kk => lv_if_ne hF.hx hF.hb hd ht (fun _ => kk ar hl) (fun h => absurd h c1)) k
theorem ev_if_ne_n {x : Int32} {off : Int} (tgt : Nat) (hd : decode M.2.1 pc = .ok (.ifCond .ne off, 3)) (ht : (pc : Int) + off = (tgt : Int)) (c1 : x = 0) (k : Ev M d (pc + 3) ls st σ r σ') : Ev M d pc ls (.int x :: st) σ r σ' :=
  ev_pure (fun _ _ _ _ _ _ _ _ _ _ _ _ _ _ _ _ ar hF hl kk => lv_if_ne hF.hx hF.hb hd ht (fun h => absurd c1 h) (fun _ => kk ar hl)) k
theorem ev_if_lt {x : Int32} {off : Int} {tgt : Nat} (hd : decode M.2.1 pc = .ok (.ifCond .lt off, 3)) (ht : (pc : Int) + off = (tgt : Int)) (c1 : x < 0) (k : Ev M d tgt ls st σ r σ') : Ev M d pc ls (.int x :: st) σ r σ' :=
  ev_pure (fun _ _ _ _ _ _ _ _ _ _ _ _ _ _ _ _ ar hF hl kk => lv_if_lt hF.hx hF.hb hd ht (fun _ => kk ar hl) (fun h => absurd c1 h)) k
theorem ev_if_lt_n {x : Int32} {off : Int} (tgt : Nat) (hd : decode M.2.1 pc = .ok (.ifCond .lt off, 3)) (ht : (pc : Int) + off = (tgt : Int)) (c1 : ¬ x < 0) (k : Ev M d (pc + 3) ls st σ r σ') : Ev M d pc ls (.int x :: st) σ r σ' :=
  ev_pure (fun _ _ _ _ _ _ _ _ _ _ _ _ _ _ _ _ ar hF hl kk => lv_if_lt hF.hx hF.hb hd ht (fun h => absurd h c1) (fun _ => kk ar hl)) k
theorem ev_if_ge {x : Int32} {off : Int} {tgt : Nat} (hd : decode M.2.1 pc = .ok (.ifCond .ge off, 3)) (ht : (pc : Int) + off = (tgt : Int)) (c1 : 0 ≤ x) (k : Ev M d tgt ls st σ r σ') : Ev M d pc ls (.int x :: st) σ r σ' :=
  ev_pure (fun _ _ _ _ _ _ _ _ _ _ _ _ _ _ _ _ ar hF hl kk => lv_if_ge hF.hx hF.hb hd ht (fun _ => kk ar hl) (fun h => absurd c1 h)) k
theorem ev_if_ge_n {x : Int32} {off : Int} (tgt : Nat) (hd : decode M.2.1 pc = .ok (.ifCond .ge off, 3)) (ht : (pc : Int) + off = (tgt : Int)) (c1 : ¬ 0 ≤ x) (k : Ev M d (pc + 3) ls st σ r σ') : Ev M d pc ls (.int x :: st) σ r σ' :=
  ev_pure (fun _ _ _ _ _ _ _ _ _ _ _ _ _ _ _ _ ar hF hl kk => lv_if_ge hF.hx hF.hb hd ht (fun h => absurd h c1) (fun _ => kk ar hl)) k
theorem ev_if_gt {x : Int32} {off : Int} {tgt : Nat} (hd : decode M.2.1 pc = .ok (.ifCond .gt off, 3)) (ht : (pc : Int) + off = (tgt : Int)) (c1 : 0 < x) (k : Ev M d tgt ls st σ r σ') : Ev M d pc ls (.int x :: st) σ r σ' :=
  ev_pure (fun _ _ _ _ _ _ _ _ _ _ _ _ _ _ _ _ ar hF hl kk => lv_if_gt hF.hx hF.hb hd ht (fun _ => kk ar hl) (fun h => absurd c1 h)) k
theorem ev_if_gt_n {x : Int32} {off : Int} (tgt : Nat) (hd : decode M.2.1 pc = .ok (.ifCond .gt off, 3)) (ht : (pc : Int) + off = (tgt : Int)) (c1 : ¬ 0 < x) (k : Ev M d (pc + 3) ls st σ r σ') : Ev M d pc ls (.int x :: st) σ r σ' :=
  ev_pure (fun _ _ _ _ _ _ _ _ _ _ _ _ _ _ _ _ ar hF hl kk => lv_if_gt hF.hx hF.hb hd ht (fun h => absurd h c1) (fun _ => kk ar hl)) k
theorem ev_if_le {x : Int32} {off : Int} {tgt : Nat} (hd : decode M.2.1 pc = .ok (.ifCond .le off, 3)) (ht : (pc : Int) + off = (tgt : Int)) (c1 : x ≤ 0) (k : Ev M d tgt ls st σ r σ') : Ev M d pc ls (.int x :: st) σ r σ' :=
  ev_pure (fun _ _ _ _ _ _ _ _ _ _ _ _ _ _ _ _ ar hF hl kk => lv_if_le hF.hx hF.hb hd ht (fun _ => kk ar hl) (fun h => absurd c1 h)) k
theorem ev_if_le_n {x : Int32} {off : Int} (tgt : Nat) (hd : decode M.2.1 pc = .ok (.ifCond .le off, 3)) (ht : (pc : Int) + off = (tgt : Int)) (c1 : ¬ x ≤ 0) (k : Ev M d (pc + 3) ls st σ r σ') : Ev M d pc ls (.int x :: st) σ r σ' :=
  ev_pure (fun _ _ _ _ _ _ _ _ _ _ _ _ _ _ _ _ ar hF hl kk => lv_if_le hF.hx hF.hb hd ht (fun h => absurd h c1) (fun _ => kk ar hl)) k
theorem ev_icmp_eq {x y : Int32} {off : Int} {tgt : Nat} (hd : decode M.2.1 pc = .ok (.if_icmp .eq off, 3)) (ht : (pc : Int) + off = (tgt : Int)) (c1 : x = y) (k : Ev M d tgt ls st σ r σ') : Ev M d pc ls (.int y :: .int x :: st) σ r σ' :=
  ev_pure (fun _ _ _ _ _ _ _ _ _ _ _ _ _ _ _ _ ar hF hl kk => lv_icmp_eq hF.hx hF.hb hd ht (fun _ => kk ar hl) (fun h => absurd c1 h)) k
theorem ev_icmp_eq_n {x y : Int32} {off : Int} (tgt : Nat) (hd : decode M.2.1 pc = .ok (.if_icmp .eq off, 3)) (ht : (pc : Int) + off = (tgt : Int)) (c1 : ¬ x = y) (k : Ev M d (pc + 3) ls st σ r σ') : Ev M d pc ls (.int y :: .int x :: st) σ r σ' :=
  ev_pure (fun _ _ _ _ _ _ _ _ _ _ _ _ _ _ _ _ ar hF hl kk => lv_icmp_eq hF.hx hF.hb hd ht (fun h => absurd h c1) (fun _ => kk ar hl)) k
theorem ev_icmp_ne {x y : Int32} {off : Int} {tgt : Nat} (hd : decode M.2.1 pc = .ok (.if_icmp .ne off, 3)) (ht : (pc : Int) + off = (tgt : Int)) (c1 : ¬ x = y) (k : Ev M d tgt ls st σ r σ') : Ev M d pc ls (.int y :: .int x :: st) σ r σ' :=
  ev_pure (fun _ _ _ _ _ _ _ _ _ _ _ _ _ _ _ _ ar hF hl kk => lv_icmp_ne hF.hx hF.hb hd ht (fun _ => kk ar hl) (fun h => absurd h c1)) k
theorem ev_icmp_ne_n {x y : Int32} {off : Int} (tgt : Nat) (hd : decode M.2.1 pc = .ok (.if_icmp .ne off, 3)) (ht : (pc : Int) + off = (tgt : Int)) (c1 : x = y) (k : Ev M d (pc + 3) ls st σ r σ') : Ev M d pc ls (.int y :: .int x :: st) σ r σ' :=
  ev_pure (fun _ _ _ _ _ _ _ _ _ _ _ _ _ _ _ _ ar hF hl kk => lv_icmp_ne hF.hx hF.hb hd ht (fun h => absurd c1 h) (fun _ => kk ar hl)) k
theorem ev_icmp_lt {x y : Int32} {off : Int} {tgt : Nat} (hd : decode M.2.1 pc = .ok (.if_icmp .lt off, 3)) (ht : (pc : Int) + off = (tgt : Int)) (c1 : x < y) (k : Ev M d tgt ls st σ r σ') : Ev M d pc ls (.int y :: .int x :: st) σ r σ' :=
  ev_pure (fun _ _ _ _ _ _ _ _ _ _ _ _ _ _ _ _ ar hF hl kk => lv_icmp_lt hF.hx hF.hb hd ht (fun _ => kk ar hl) (fun h => absurd c1 h)) k
theorem ev_icmp_lt_n {x y : Int32} {off : Int} (tgt : Nat) (hd : decode M.2.1 pc = .ok (.if_icmp .lt off, 3)) (ht : (pc : Int) + off = (tgt : Int)) (c1 : ¬ x < y) (k : Ev M d (pc + 3) ls st σ r σ') : Ev M d pc ls (.int y :: .int x :: st) σ r σ' :=
  ev_pure (fun _ _ _ _ _ _ _ _ _ _ _ _ _ _ _ _ ar hF hl kk => lv_icmp_lt hF.hx hF.hb hd ht (fun h => absurd h c1) (fun _ => kk ar hl)) k
theorem ev_icmp_ge {x y : Int32} {off : Int} {tgt : Nat} (hd : decode M.2.1 pc = .ok (.if_icmp .ge off, 3)) (ht : (pc : Int) + off = (tgt : Int)) (c1 : y ≤ x) (k : Ev M d tgt ls st σ r σ') : Ev M d pc ls (.int y :: .int x :: st) σ r σ' :=
  ev_pure (fun _ _ _ _ _ _ _ _ _ _ _ _ _ _ _ _ ar hF hl kk => lv_icmp_ge hF.hx hF.hb hd ht (fun _ => kk ar hl) (fun h => absurd c1 h)) k
theorem ev_icmp_ge_n {x y : Int32} {off : Int} (tgt : Nat) (hd : decode M.2.1 pc = .ok (.if_icmp .ge off, 3)) (ht : (pc : Int) + off = (tgt : Int)) (c1 : ¬ y ≤ x) (k : Ev M d (pc + 3) ls st σ r σ') : Ev M d pc ls (.int y :: .int x :: st) σ r σ' :=
  ev_pure (fun _ _ _ _ _ _ _ _ _ _ _ _ _ _ _ _ ar hF hl kk => lv_icmp_ge hF.hx hF.hb hd ht (fun h => absurd h c1) (fun _ => kk ar hl)) k
theorem ev_icmp_gt {x y : Int32} {off : Int} {tgt : Nat} (hd : decode M.2.1 pc = .ok (.if_icmp .gt off, 3)) (ht : (pc : Int) + off = (tgt : Int)) (c1 : y < x) (k : Ev M d tgt ls st σ r σ') : Ev M d pc ls (.int y :: .int x :: st) σ r σ' :=
  ev_pure (fun _ _ _ _ _ _ _ _ _ _ _ _ _ _ _ _ ar hF hl kk => lv_icmp_gt hF.hx hF.hb hd ht (fun _ => kk ar hl) (fun h => absurd c1 h)) k
theorem ev_icmp_gt_n {x y : Int32} {off : Int} (tgt : Nat) (hd : decode M.2.1 pc = .ok (.if_icmp .gt off, 3)) (ht : (pc : Int) + off = (tgt : Int)) (c1 : ¬ y < x) (k : Ev M d (pc + 3) ls st σ r σ') : Ev M d pc ls (.int y :: .int x :: st) σ r σ' :=
  ev_pure (fun _ _ _ _ _ _ _ _ _ _ _ _ _ _ _ _ ar hF hl kk => lv_icmp_gt hF.hx hF.hb hd ht (fun h => absurd h c1) (fun _ => kk ar hl)) k
theorem ev_icmp_le {x y : Int32} {off : Int} {tgt : Nat} (hd : decode M.2.1 pc = .ok (.if_icmp .le off, 3)) (ht : (pc : Int) + off = (tgt : Int)) (c1 : x ≤ y) (k : Ev M d tgt ls st σ r σ') : Ev M d pc ls (.int y :: .int x :: st) σ r σ' :=
  ev_pure (fun _ _ _ _ _ _ _ _ _ _ _ _ _ _ _ _ ar hF hl kk => lv_icmp_le hF.hx hF.hb hd ht (fun _ => kk ar hl) (fun h => absurd c1 h)) k
theorem ev_icmp_le_n {x y : Int32} {off : Int} (tgt : Nat) (hd : decode M.2.1 pc = .ok (.if_icmp .le off, 3)) (ht : (pc : Int) + off = (tgt : Int)) (c1 : ¬ x ≤ y) (k : Ev M d (pc + 3) ls st σ r σ') : Ev M d pc ls (.int y :: .int x :: st) σ r σ' :=
  ev_pure (fun _ _ _ _ _ _ _ _ _ _ _ _ _ _ _ _ ar hF hl kk => lv_icmp_le hF.hx hF.hb hd ht (fun h => absurd h c1) (fun _ => kk ar hl)) k
theorem ev_goto {off : Int} {tgt : Nat} (hd : decode M.2.1 pc = .ok (.goto off, 3)) (ht : (pc : Int) + off = (tgt : Int)) (k : Ev M d tgt ls st σ r σ') : Ev M d pc ls st σ r σ' :=
  ev_pure (fun _ _ _ _ _ _ _ _ _ _ _ _ _ _ _ _ ar hF hl kk => lv_goto hF.hx hF.hb hd ht (kk ar hl)) k
theorem ev_ifnull {off : Int} {tgt : Nat} (hd : decode M.2.1 pc = .ok (.ifnull off, 3)) (ht : (pc : Int) + off = (tgt : Int)) (k : Ev M d tgt ls st σ r σ') : Ev M d pc ls (va_rf none :: st) σ r σ' :=
  ev_pure (fun _ _ _ _ _ _ _ _ _ _ _ _ _ _ _ _ ar hF hl kk => lv_ifnullN hF.hx hF.hb hd ht (kk ar hl)) k
theorem ev_ifnull_n {a : Nat} {off : Int} (hd : decode M.2.1 pc = .ok (.ifnull off, 3)) (k : Ev M d (pc + 3) ls st σ r σ') : Ev M d pc ls (va_rf (some a) :: st) σ r σ' :=
  ev_pure (fun _ _ _ _ _ _ _ _ _ _ _ _ _ _ _ _ ar hF hl kk => lv_ifnull hF.hx hF.hb hd (kk ar hl)) k
theorem ev_ifnonnull {a : Nat} {off : Int} {tgt : Nat} (hd : decode M.2.1 pc = .ok (.ifnonnull off, 3)) (ht : (pc : Int) + off = (tgt : Int)) (k : Ev M d tgt ls st σ r σ') : Ev M d pc ls (va_rf (some a) :: st) σ r σ' :=
  ev_pure (fun _ _ _ _ _ _ _ _ _ _ _ _ _ _ _ _ ar hF hl kk => lv_ifnonnull hF.hx hF.hb hd ht (kk ar hl)) k
theorem ev_ifnonnull_n {off : Int} (hd : decode M.2.1 pc = .ok (.ifnonnull off, 3)) (k : Ev M d (pc + 3) ls st σ r σ') : Ev M d pc ls (va_rf none :: st) σ r σ' :=
  ev_pure (fun _ _ _ _ _ _ _ _ _ _ _ _ _ _ _ _ ar hF hl kk => lv_ifnonnullN hF.hx hF.hb hd (kk ar hl)) k
theorem ev_tableIn {dflt lo hi : Int} {offs : Array Int} {len : Nat} {x : Int32} {off : Int} {tgt : Nat} (hd : decode M.2.1 pc = .ok (.tableswitch dflt lo hi offs, len)) (v : Int) (hv : x.toInt = v) (h1 : decide (¬ v < lo ∧ ¬ hi < v) = true) (ho : offs[(v - lo).toNat]? = some off) (ht : (pc : Int) + off = (tgt : Int)) (k : Ev M d tgt ls st σ r σ') : Ev M d pc ls (.int x :: st) σ r σ' :=
  ev_pure (fun _ _ _ _ _ _ _ _ _ _ _ _ _ _ _ _ ar hF hl kk => lv_tableIn hF.hx hF.hb hd (by rw [hv]; exact (of_decide_eq_true h1).1) (by rw [hv]; exact (of_decide_eq_true h1).2) (by rw [hv]; exact ho) ht (kk ar hl)) k
theorem ev_tableOut {dflt lo hi : Int} {offs : Array Int} {len : Nat} {x : Int32} {tgt : Nat} (hd : decode M.2.1 pc = .ok (.tableswitch dflt lo hi offs, len)) (h : x.toInt < lo ∨ hi < x.toInt) (ht : (pc : Int) + dflt = (tgt : Int)) (k : Ev M d tgt ls st σ r σ') : Ev M d pc ls (.int x :: st) σ r σ' :=
  ev_pure (fun _ _ _ _ _ _ _ _ _ _ _ _ _ _ _ _ ar hF hl kk => lv_tableOut hF.hx hF.hb hd h ht (kk ar hl)) k
theorem ev_lookup {dflt : Int} {ps : Array (Int × Int)} {len : Nat} {x : Int32} {off : Int} {tgt : Nat} (hd : decode M.2.1 pc = .ok (.lookupswitch dflt ps, len)) (hp : (ps.toList.zip (ps.toList.drop 1)).all (fun (a, next) => a.1 < next.1) = true) (ho : Op.lookupswitch.offset ps.toList dflt x.toInt = off) (ht : (pc : Int) + off = (tgt : Int)) (k : Ev M d tgt ls st σ r σ') : Ev M d pc ls (.int x :: st) σ r σ' :=
  ev_pure (fun _ _ _ _ _ _ _ _ _ _ _ _ _ _ _ _ ar hF hl kk => lv_lookup hF.hx hF.hb hd hp ho ht (kk ar hl)) k
theorem ne_toInt {x y : Int32} (h : ¬ x = y) : x.toInt ≠ y.toInt := fun e => h (Int32.toInt_inj.mp e)
end EVQ
end
section
/-! rows that touch the heap -/
theorem isO_spec {σ : St} {k a : Nat} (h : isO σ k a = true) : 1 ≤ a ∧ a < sn σ ∧ (sh σ a).1 = k := by
  simp only [isO, Bool.and_eq_true, decide_eq_true_eq, beq_iff_eq] at h
  exact ⟨h.1.1, h.1.2, h.2⟩
theorem isA_spec {σ : St} {k a : Nat} (h : isA σ k a = true) : a < sn σ ∧ (sh σ a).1 = k := by
  simp only [isA, Bool.and_eq_true, decide_eq_true_eq, beq_iff_eq] at h
  exact h
theorem inR_spec {i : Int32} {n : Nat} (h : inR i n = true) : ¬ (i < 0 ∨ n ≤ i.toNatClampNeg) ∧ i.toNatClampNeg < n := by
  simp only [inR, Bool.and_eq_true, decide_eq_true_eq] at h
  refine ⟨?_, h.2⟩
  rintro (h1 | h1)
  · exact absurd h.1 (by rw [Int32.not_le]; exact h1)
  · omega
def KF (k : Nat) : Prop := vwCl[k]? = some (kR k, kT k, kN k) ∧ (∀ w ∈ u_ws (kR k) (kT k) (kN k), w ∈ gtbl) ∧ (∀ j, j < kN k → parseFieldDescriptor (kT k j).2.2.1 = some (kty k j)) ∧ (∀ a, a < kN k → ∀ b, b < kN k → a ≠ b → (kT k a).2.1 ≠ (kT k b).2.1) ∧ k < 12
def FL (own : String) (i k j : Nat) : Prop := KF k ∧ j < kN k ∧ Cond.fieldLink own i (kT k j).1 (kT k j).2.1 (kT k j).2.2.1 ∈ gtbl
theorem kf0 : KF 0 := ⟨rfl, gwX0, tyX0_ok, nmX0, by decide⟩
theorem kf1 : KF 1 := ⟨rfl, gwX1, tyX1_ok, nmX1, by decide⟩
theorem kf2 : KF 2 := ⟨rfl, gwX2, tyX2_ok, nmX2, by decide⟩
theorem kf3 : KF 3 := ⟨rfl, gwX3, tyX3_ok, nmX3, by decide⟩
theorem kf4 : KF 4 := ⟨rfl, gwX4, tyX4_ok, nmX4, by decide⟩
theorem kf5 : KF 5 := ⟨rfl, gwX5, tyX5_ok, nmX5, by decide⟩
theorem kf6 : KF 6 := ⟨rfl, gwX6, tyX6_ok, nmX6, by decide⟩
theorem kf7 : KF 7 := ⟨rfl, gwX7, tyX7_ok, nmX7, by decide⟩
theorem kf8 : KF 8 := ⟨rfl, gwX8, tyX8_ok, nmX8, by decide⟩
theorem kf9 : KF 9 := ⟨rfl, gwX9, tyX9_ok, nmX9, by decide⟩
theorem kf10 : KF 10 := ⟨rfl, gwX10, tyX10_ok, nmX10, by decide⟩
theorem kf11 : KF 11 := ⟨rfl, gwX11, tyX11_ok, nmX11, by decide⟩
theorem cell_obj {G : GC} {σ : St} {s : State} {H : Heap} {k a : Nat} (hR : Rep G σ s H) (ho : isO σ k a = true) (hk : k < 12) : t_OB (al G a) (G.1.1 k) (kN k) (G.1.2 k) H (fval G σ k a) := by
  obtain ⟨h1, h2, rfl⟩ := isO_spec ho
  rcases hR.2.2.2.2 a h1 h2 with h | h
  · exact h.2
  · omega
theorem cell_arr {G : GC} {σ : St} {s : State} {H : Heap} {k a : Nat} (hR : Rep G σ s H) (h1 : 1 ≤ a) (ho : isA σ k a = true) (hk : 12 ≤ k) : H[al G a]? = some (vp_cell (G.2.1 k) (acell G σ k a)) ∧ k < 18 := by
  obtain ⟨h2, rfl⟩ := isA_spec ho
  rcases hR.2.2.2.2 a h1 h2 with h | h
  · omega
  · exact ⟨h.2.2, h.2.1⟩
theorem al_lt {G : GC} {σ : St} {s : State} {H : Heap} (hR : Rep G σ s H) {a : Nat} (h : a < sn σ) : al G a < H.size := by
  have h1 := hR.1
  have h2 := hR.2.1
  have h3 := hR.2.2.1
  unfold al
  split <;> omega
theorem fval_same {G : GC} {σ σ1 : St} {k x : Nat} (hI : sI σ1 x = sI σ x) (hL : sL σ1 x = sL σ x) (hP : sP σ1 x = sP σ x) : fval G σ1 k x = fval G σ k x := by
  funext j
  unfold fval
  rw [hI, hL, hP]
theorem acell_same {G : GC} {σ σ1 : St} {k x : Nat} (hs : sh σ1 x = sh σ x) (hI : sI σ1 x = sI σ x) (hL : sL σ1 x = sL σ x) (hP : sP σ1 x = sP σ x) : acell G σ1 k x = acell G σ k x := by
  unfold acell alen
  rw [hI, hL, hP, hs]
theorem cell_kept {G : GC} {σ σ1 : St} {H H1 : Heap} {x : Nat} (h : CellOK G σ H x) (hs : sh σ1 x = sh σ x) (hI : sI σ1 x = sI σ x) (hL : sL σ1 x = sL σ x) (hP : sP σ1 x = sP σ x) (hq : H1[al G x]? = H[al G x]?) : CellOK G σ1 H1 x := by
  unfold CellOK at h ⊢
  rw [hs, fval_same hI hL hP, acell_same hs hI hL hP, hq]
  rcases h with h | h
  · exact Or.inl ⟨h.1, h.2.kept hq⟩
  · exact Or.inr h
theorem rep_write {G : GC} {σ σ1 : St} {s : State} {H H1 : Heap} {a : Nat} (hR : Rep G σ s H) (ha : 1 ≤ a) (h1n : sn σ1 = sn σ) (h1s : sh σ1 = sh σ) (hoth : ∀ x, x ≠ a → sI σ1 x = sI σ x ∧ sL σ1 x = sL σ x ∧ sP σ1 x = sP σ x)
    (hz : H1.size = H.size) (oq : ∀ q : Nat, q ≠ al G a → H1[q]? = H[q]?) (hc : CellOK G σ1 H1 a) : Rep G σ1 s H1 := by
  have al0 : al G 0 = G.2.2.1 := rfl
  refine ⟨by rw [hz, h1n]; exact hR.1, by rw [h1n]; exact hR.2.1, hR.2.2.1, ⟨by rw [h1s]; exact hR.2.2.2.1.1, ?_⟩, fun x hx hxn => ?_⟩
  · have h := hR.2.2.2.1.2
    have e : alen σ1 0 = alen σ 0 := by unfold alen; rw [h1s]
    rw [e, (hoth 0 (by omega)).1]
    refine va_X.kept h (oq _ ?_)
    rw [← al0]
    exact al_inj hR.2.2.1 ha (by omega)
  · by_cases e : x = a
    · subst e; exact hc
    · rw [h1n] at hxn
      have h := hoth x e
      exact cell_kept (hR.2.2.2.2 x hx hxn) (by rw [h1s]) h.1 h.2.1 h.2.2 (oq _ (al_inj hR.2.2.1 ha e))
theorem row0_ne {α : Type} {f : Nat → Nat → α} {a x : Nat} {v : α} (h : x ≠ a) : row0 f a v x = f x := by funext y; simp [row0, h]
theorem rep_new {G : GC} {σ : St} {s : State} {H H1 : Heap} {k len : Nat} (hR : Rep G σ s H) (hz : H1.size = H.size + 1) (oq : ∀ q : Nat, q < H.size → H1[q]? = H[q]?) (hc : CellOK G (newC σ k len) H1 (sn σ)) : Rep G (newC σ k len) s H1 := by
  have hr : ∀ x, x ≠ sn σ → sI (newC σ k len) x = sI σ x ∧ sL (newC σ k len) x = sL σ x ∧ sP (newC σ k len) x = sP σ x := fun x hx => ⟨row0_ne hx, row0_ne hx, row0_ne hx⟩
  have hs : ∀ x, x ≠ sn σ → sh (newC σ k len) x = sh σ x := fun x hx => by show up1 _ _ _ x = _; simp [up1, hx]
  have hn := hR.2.1
  have hS : sn (newC σ k len) = sn σ + 1 := rfl
  refine ⟨by rw [hz, hR.1, hS]; omega, by rw [hS]; omega, hR.2.2.1, ⟨by rw [hs 0 (by omega)]; exact hR.2.2.2.1.1, ?_⟩, fun x hx hxn => ?_⟩
  · have e : alen (newC σ k len) 0 = alen σ 0 := by unfold alen; rw [hs 0 (by omega)]
    rw [e, (hr 0 (by omega)).1]
    exact va_X.kept hR.2.2.2.1.2 (oq _ (al_lt hR (a := 0) (by omega)))
  · rw [hS] at hxn
    by_cases e : x = sn σ
    · subst e; exact hc
    · have h := hr x e
      exact cell_kept (hR.2.2.2.2 x hx (by omega)) (hs x e) h.1 h.2.1 h.2.2 (oq _ (al_lt hR (by omega)))
theorem ev_hp {M : MI} {d pc pc' : Nat} {ls : List (Nat × Value)} {st st' : List Value} {σ σ1 σ' : St} {r : Option Value} (hn : sn σ ≤ sn σ1) (hz : sz σ ≤ sz σ1)
    (h : ∀ (G : GC) (p : Program) (l : Launch) (e : Env) (R : Room) (s : State) (m : MethodId) (args : Array Value) (below : List Frame) (meth : Method) (c : Code) (H : Heap) (locs : List Loc) (cells slots : Nat) (Q : State → Prop) (ar : Array Slot),
      Fx M p s m args meth c → Tb G s → Rep G σ s H → lv_has ar M.2.2.1 (ls.map (cvl G)) → (∀ q ∈ locs, G.2.2.2 < q.base) → (d ≤ R.frames ∧ 40 * d ≤ R.locals ∧ cells + (sn σ1 - sn σ) ≤ R.cells ∧ slots + (sz σ1 - sz σ) ≤ R.slots) →
      (∀ (H' : Heap) (locs' : List Loc), Rep G σ1 s H' → (∀ q ∈ locs', G.2.2.2 < q.base) → W p l e R s m args below meth c H' locs' (cells + (sn σ1 - sn σ)) (slots + (sz σ1 - sz σ)) Q (F0 m pc' ar (st'.map (cv G)))) →
      W p l e R s m args below meth c H locs cells slots Q (F0 m pc ar (st.map (cv G))))
    (k : Ev M d pc' ls st' σ1 r σ') : Ev M d pc ls st σ r σ' := by
  refine ⟨Nat.le_trans hn k.1, Nat.le_trans hz k.2.1, fun G p l e R s m args below meth c H locs cells slots Q ar hF hT hR hl hL hr hk => ?_⟩
  have k1 := k.1
  have k2 := k.2.1
  refine h G p l e R s m args below meth c H locs cells slots Q ar hF hT hR hl hL ⟨hr.1, hr.2.1, by omega, by omega⟩ (fun H' locs' hR' hL' => ?_)
  have e1 : cells + (sn σ1 - sn σ) + (sn σ' - sn σ1) = cells + (sn σ' - sn σ) := by omega
  have e2 : slots + (sz σ1 - sz σ) + (sz σ' - sz σ1) = slots + (sz σ' - sz σ) := by omega
  exact k.2.2 G p l e R s m args below meth c H' locs' _ _ Q ar hF hT hR' hl hL' ⟨hr.1, hr.2.1, by rw [e1]; exact hr.2.2.1, by rw [e2]; exact hr.2.2.2⟩ (fun H2 L2 pc2 ar2 a b c2 d2 => by rw [e1, e2]; exact hk H2 L2 pc2 ar2 a b c2 d2)
/-- nothing of the state moves -/
theorem ev_rd {M : MI} {d pc pc' : Nat} {ls : List (Nat × Value)} {st st' : List Value} {σ σ' : St} {r : Option Value}
    (h : ∀ (G : GC) (p : Program) (l : Launch) (e : Env) (R : Room) (s : State) (m : MethodId) (args : Array Value) (below : List Frame) (meth : Method) (c : Code) (H : Heap) (locs : List Loc) (cells slots : Nat) (Q : State → Prop) (ar : Array Slot),
      Fx M p s m args meth c → Tb G s → Rep G σ s H → d ≤ R.frames ∧ 40 * d ≤ R.locals → ar.size = M.2.2.1 →
      W p l e R s m args below meth c H locs cells slots Q (F0 m pc' ar (st'.map (cv G))) →
      W p l e R s m args below meth c H locs cells slots Q (F0 m pc ar (st.map (cv G))))
    (k : Ev M d pc' ls st' σ r σ') : Ev M d pc ls st σ r σ' :=
  ⟨k.1, k.2.1, fun G p l e R s m args below meth c H locs cells slots Q ar hF hT hR hl hL hr hk => h G p l e R s m args below meth c H locs cells slots Q ar hF hT hR ⟨hr.1, hr.2.1⟩ hl.1 (k.2.2 G p l e R s m args below meth c H locs cells slots Q ar hF hT hR hl hL hr hk)⟩
section EVH
variable {M : MI} {d pc : Nat} {ls : List (Nat × Value)} {st : List Value} {σ σ' : St} {r : Option Value}
theorem ev_get {i k j a : Nat} {v : Value} (hd : decode M.2.1 pc = .ok (.getfield i, 3)) (hf : FL M.1.cls i k j) (ho : isO σ k a = true) (hv : ∀ G, fval G σ k a j = cv G v) (kk : Ev M d (pc + 3) ls (v :: st) σ r σ') : Ev M d pc ls (.ref a :: st) σ r σ' := by
  refine ev_rd (fun G p l e R s m args below meth c H locs cells slots Q ar hF hT hR _ _ w => ?_) kk
  obtain ⟨⟨h1, h2, h3, h4, h5⟩, hj, hlk⟩ := hf
  obtain ⟨cell, q1, q2, q3, q4⟩ := cell_obj hR ho h5
  obtain ⟨hS, hfc, kC, hkC, hkind⟩ := hT.1.1 k _ h1
  obtain ⟨cf, kf, fi, f, hi, hsl⟩ := hS j hj
  refine W.getf hF.hx hF.hb hF.hown (hF.hts _ hlk) hi (u_facts hfc hkC (u_lays hF.hts h2 hj) hi).1 q1 (by rw [q3]; exact fun h => by cases h) (v := cv G v) ?_ rfl rfl hd w
  rw [hsl, q4 j hj, hv G]
theorem ev_getI {i k j a : Nat} (hd : decode M.2.1 pc = .ok (.getfield i, 3)) (hf : FL M.1.cls i k j) (hc : fcat (kty k j) = 0) (ho : isO σ k a = true) (kk : Ev M d (pc + 3) ls (.int (sI σ a j) :: st) σ r σ') : Ev M d pc ls (.ref a :: st) σ r σ' :=
  ev_get hd hf ho (fun G => by simp [fval, hc, cv]) kk
theorem ev_getL {i k j a : Nat} (hd : decode M.2.1 pc = .ok (.getfield i, 3)) (hf : FL M.1.cls i k j) (hc : fcat (kty k j) = 1) (ho : isO σ k a = true) (kk : Ev M d (pc + 3) ls (.long (sL σ a j) :: st) σ r σ') : Ev M d pc ls (.ref a :: st) σ r σ' :=
  ev_get hd hf ho (fun G => by simp [fval, hc, cv]) kk
theorem ev_getP {i k j a : Nat} {o : Option Nat} (hd : decode M.2.1 pc = .ok (.getfield i, 3)) (hf : FL M.1.cls i k j) (hc : fcat (kty k j) = 2) (ho : isO σ k a = true) (hv : sP σ a j = o) (kk : Ev M d (pc + 3) ls (va_rf o :: st) σ r σ') : Ev M d pc ls (.ref a :: st) σ r σ' :=
  ev_get hd hf ho (fun G => by rw [cv_rf]; simp [fval, hc, hv]) kk
theorem ev_put {i k j a : Nat} {v : Value} {σ1 : St} (hd : decode M.2.1 pc = .ok (.putfield i, 3)) (hf : FL M.1.cls i k j) (ho : isO σ k a = true) (hfin : (kT k j).2.2.2 = false ∨ (M.1.name = "<init>" ∧ (kT k j).1 = M.1.cls)) (hn : ∀ G, narrow (kty k j) (cv G v) = cv G v ∧ fits (kty k j) (cv G v) = true)
    (e1 : sn σ1 = sn σ) (e2 : sz σ1 = sz σ) (e3 : sh σ1 = sh σ) (hoth : ∀ x, x ≠ a → sI σ1 x = sI σ x ∧ sL σ1 x = sL σ x ∧ sP σ1 x = sP σ x) (hval : ∀ G y, y < kN k → fval G σ1 k a y = if y = j then cv G v else fval G σ k a y)
    (kk : Ev M d (pc + 3) ls st σ1 r σ') : Ev M d pc ls (v :: .ref a :: st) σ r σ' := by
  refine ev_hp (by omega) (by omega) (fun G p l e R s m args below meth c H locs cells slots Q ar hF hT hR hl hL hr w => ?_) kk
  obtain ⟨⟨h1, h2, h3, h4, h5⟩, hj, hlk⟩ := hf
  obtain ⟨cell, q1, q2, q3, q4⟩ := cell_obj hR ho h5
  obtain ⟨ha1, ha2, ha3⟩ := isO_spec ho
  obtain ⟨hS, hfc, kC, hkC, hkind⟩ := hT.1.1 k _ h1
  have hap := va_apart (own := M.1.cls) hF.hts h2 (kty k) h3 h4 hT.1 h1
  obtain ⟨cf, kf, fi, f, hi, hsl⟩ := hS j hj
  have hst := (u_facts hfc hkC (u_lays hF.hts h2 hj) hi).1
  have fin : ∀ (H' : Heap), H'[al G a]? = some (cell.setSlot f.slot (cv G v)) → H'.size = H.size → (∀ q : Nat, q ≠ al G a → H'[q]? = H[q]?) →
      W p l e R s m args below meth c H' (locs ++ [⟨al G a, f.slot⟩]) cells slots Q (F0 m (pc + 3) ar (st.map (cv G))) := by
    intro H' g1 g2 g3
    have g1' := g1
    rw [hsl] at g1'
    have w2 := w H' (locs ++ [⟨al G a, f.slot⟩]) (rep_write hR ha1 e1 e3 hoth g2 g3 (Or.inl ⟨by rw [e3, ha3]; exact h5, by
      rw [e3, ha3]
      refine t_OB.to (V := updV (fval G σ k a) j (cv G v)) ⟨_, g1', q2, q3, t_set q4 hap hj (cv G v)⟩ (fun y hy => ?_)
      rw [hval G y hy]
      rfl⟩)) (fun q hq => by
        rcases List.mem_append.mp hq with hq | hq
        · exact hL q hq
        · rw [List.mem_singleton.mp hq]
          show G.2.2.2 < al G a
          rw [al_pos ha1]; omega)
    rw [e1, e2, Nat.sub_self, Nat.sub_self] at w2
    exact w2
  have hlay := hF.hts _ (h2 _ (u_in_lay hj))
  unfold u_lay at hlay
  by_cases hb : (kT k j).2.2.2 = true
  · rw [if_pos hb] at hlay
    rcases hfin with hfin | hfin
    · rw [hfin] at hb; cases hb
    · have hcf : m.cls = cf := by
        obtain ⟨_, _, c', _, _, _, -, -, hf', -, -, -, hown2, -⟩ := Cond.laysFinal_spec hlay
        have z1 : c' = cf := by have := hi.symm.trans hf'; simp at this; exact this.1.symm
        rw [hfin.2] at hown2
        rw [← z1]; exact Option.some.inj (hF.hown.symm.trans hown2)
      have h6 := u_fits hfc hkC hkind (Or.inr hlay) hi (h3 j hj) (hn G).1 (hn G).2
      exact W.putFinK hF.hx hF.hb hF.hown (hF.hts _ hlk) hi hst hcf (hF.2.2.2.2.2.2.2 hfin.1) (by rw [q2]; exact h6) q1 q3 (by rw [hsl]; exact k2_hasslot (q4 j hj)) rfl rfl hd fin
  · rw [if_neg hb] at hlay
    have h6 := u_store hfc hkC hkind hlay hi (h3 j hj) (hn G).1 (hn G).2
    exact W.putK hF.hx hF.hb (f := f) ⟨hF.hown, hF.hts _ hlk, ⟨_, _, _, hi⟩, hst⟩ (by rw [q2]; exact h6) q1 q3 (by rw [hsl]; exact k2_hasslot (q4 j hj)) rfl rfl hd fin
theorem up2_ne {α : Type} {f : Nat → Nat → α} {a k x : Nat} {v : α} (h : x ≠ a) : up2 f a k v x = f x := by funext y; simp [up2, h]
theorem up2_row {α : Type} {f : Nat → Nat → α} {a k : Nat} {v : α} (y : Nat) : up2 f a k v a y = if y = k then v else f a y := by simp [up2]
theorem ev_putI {i k j a : Nat} {v : Int32} (hd : decode M.2.1 pc = .ok (.putfield i, 3)) (hf : FL M.1.cls i k j) (hc : fcat (kty k j) = 0) (hfin : (kT k j).2.2.2 = false ∨ (M.1.name = "<init>" ∧ (kT k j).1 = M.1.cls)) (ho : isO σ k a = true) (hn : narrow (kty k j) (.int v) = .int v ∧ fits (kty k j) (.int v) = true) (kk : Ev M d (pc + 3) ls st (setI σ a j v) r σ') : Ev M d pc ls (.int v :: .ref a :: st) σ r σ' :=
  ev_put (σ1 := setI σ a j v) hd hf ho hfin (fun _ => hn) rfl rfl rfl (fun x hx => ⟨up2_ne hx, rfl, rfl⟩) (fun G y _ => by
    by_cases hy : y = j
    · subst hy; rw [if_pos rfl]; unfold fval; rw [if_neg (by rw [hc]; decide), if_neg (by rw [hc]; decide)]; show Value.int (up2 _ _ _ _ _ _) = _; rw [up2_row, if_pos rfl]; rfl
    · rw [if_neg hy]; unfold fval; show (if _ then _ else if _ then _ else Value.int (up2 _ _ _ _ _ _)) = _; rw [up2_row, if_neg hy]; rfl) kk
theorem ev_putL {i k j a : Nat} {v : Int64} (hd : decode M.2.1 pc = .ok (.putfield i, 3)) (hf : FL M.1.cls i k j) (hc : kty k j = .long) (hfin : (kT k j).2.2.2 = false ∨ (M.1.name = "<init>" ∧ (kT k j).1 = M.1.cls)) (ho : isO σ k a = true) (kk : Ev M d (pc + 3) ls st (setL σ a j v) r σ') : Ev M d pc ls (.long v :: .ref a :: st) σ r σ' :=
  ev_put (σ1 := setL σ a j v) hd hf ho hfin (fun _ => by rw [hc]; exact ⟨rfl, rfl⟩) rfl rfl rfl (fun x hx => ⟨rfl, up2_ne hx, rfl⟩) (fun G y _ => by
    by_cases hy : y = j
    · subst hy; rw [if_pos rfl]; unfold fval; rw [if_pos (by rw [hc]; rfl)]; show Value.long (up2 _ _ _ _ _ _) = _; rw [up2_row, if_pos rfl]; rfl
    · rw [if_neg hy]; unfold fval; show (if _ then Value.long (up2 _ _ _ _ _ _) else _) = _; rw [up2_row, if_neg hy]; rfl) kk
theorem fits_rf {ty : FieldType} (h : fcat ty = 2) (o : Option Nat) : narrow ty (va_rf o) = va_rf o ∧ fits ty (va_rf o) = true := by
  cases ty <;> first | (cases h; done) | (cases o <;> exact ⟨rfl, rfl⟩)
theorem ev_putP {i k j a : Nat} {o : Option Nat} (hd : decode M.2.1 pc = .ok (.putfield i, 3)) (hf : FL M.1.cls i k j) (hc : fcat (kty k j) = 2) (hfin : (kT k j).2.2.2 = false ∨ (M.1.name = "<init>" ∧ (kT k j).1 = M.1.cls)) (ho : isO σ k a = true) (kk : Ev M d (pc + 3) ls st (setP σ a j o) r σ') : Ev M d pc ls (va_rf o :: .ref a :: st) σ r σ' :=
  ev_put (σ1 := setP σ a j o) hd hf ho hfin (fun _ => by rw [cv_rf]; exact fits_rf hc _) rfl rfl rfl (fun x hx => ⟨rfl, rfl, up2_ne hx⟩) (fun G y _ => by
    by_cases hy : y = j
    · subst hy; rw [if_pos rfl]; unfold fval; rw [if_neg (by rw [hc]; decide), if_pos hc]; show va_rf (Option.map _ (up2 _ _ _ _ _ _)) = _; rw [up2_row, if_pos rfl, cv_rf]
    · rw [if_neg hy]; unfold fval; show (if _ then _ else if _ then va_rf (Option.map _ (up2 _ _ _ _ _ _)) else _) = _; rw [up2_row, if_neg hy]; rfl) kk
theorem ev_objinit {i : Nat} {a : Nat} (hd : decode M.2.1 pc = .ok (.invokespecial i, 3)) (hlk : Cond.methodLink M.1.cls i objectInit ∈ gtbl) (hin : Cond.instanceMethod objectInit ∈ gtbl) (hco : Cond.code objectInit ⟨#[0xb1]⟩ 1 none ∈ gtbl) (hd1 : 1 ≤ d) (hst : (st.map fun v => v.category).sum ≤ 8) (kk : Ev M d (pc + 3) ls st σ r σ') : Ev M d pc ls (.ref a :: st) σ r σ' := by
  refine ev_rd (fun G p l e R s m args below meth c H locs cells slots Q ar hF hT hR hr hz w => ?_) kk
  refine W.objInit hF.hx hF.hb hF.hown (hF.hts _ hlk) (hF.hts _ hin) (hF.hts _ hco) rfl (by rw [hF.hml]; exact hz) (a := al G a) (rest := st.map (cv G)) rfl hd (by omega) ?_ w
  show 2 * 0 + ((st.map (cv G)).map fun v => v.category).sum + 12 ≤ R.locals
  rw [cat_sum]
  omega
end EVH
end
section
/-! arrays, new cells -/
theorem vnar_c (x : Int32) : vp_nar .char x = (x.toUInt32 % 65536).toInt32 := by rw [vp_nar_char]; rfl
def nar (k : Nat) (x : Int32) : Int32 := if k = 12 then (x.toUInt32 % 65536).toInt32 else if k = 15 then vp_nar .boolean x else x
theorem tys_at {G : GC} {s : State} (hT : Tb G s) {k : Nat} (h1 : 12 ≤ k) (h2 : k < 18) : ArrOfT s (G.2.1 k) (aty k) ∧ va_RA s (G.2.1 k) (aty k) := by
  have h := hT.1.2 (k - 12)
  rcases (show k = 12 ∨ k = 13 ∨ k = 14 ∨ k = 15 ∨ k = 16 ∨ k = 17 by omega) with rfl | rfl | rfl | rfl | rfl | rfl
  · exact h (G.2.1 12, .char) rfl
  · exact h (G.2.1 13, .int) rfl
  · exact h (G.2.1 14, .long) rfl
  · exact h (G.2.1 15, .boolean) rfl
  · exact h (G.2.1 16, .object RX1) rfl
  · exact h (G.2.1 17, .object RX6) rfl
def elt (G : GC) (σ : St) (k a j : Nat) : Value := if k = 14 then .long (sL σ a j) else if k = 16 ∨ k = 17 then va_rf ((sP σ a j).map (al G)) else .int (sI σ a j)
theorem acell_arrV (G : GC) (σ : St) (k a : Nat) (c : ClassId) : vp_cell c (acell G σ k a) = arrV c (alen σ a) (elt G σ k a) := by
  unfold acell elt
  by_cases h1 : k = 14
  · simp [h1, vp_cell]
  · by_cases h2 : k = 16 ∨ k = 17
    · rw [if_neg h1, if_pos h2]; simp only [vp_cell]; congr 1; funext j; rw [if_neg h1, if_pos h2]
    · rw [if_neg h1, if_neg h2]; simp only [vp_cell]; congr 1; funext j; rw [if_neg h1, if_neg h2]
/-- an array as the machine sees it, the script among them -/
theorem arr_seen {G : GC} {σ : St} {s : State} {H : Heap} {k a : Nat} (hR : Rep G σ s H) (hT : Tb G s) (ho : isA σ k a = true) (hk : 12 ≤ k) :
    ∃ cell : Cell, H[al G a]? = some cell ∧ s.isArrayOf cell (aty k) ∧ cell.vm ≠ .unknown ∧ cell.slots.size = alen σ a ∧ ∀ j, j < alen σ a → cell.slots[j]? = some (elt G σ k a j) := by
  by_cases h1 : 1 ≤ a
  · obtain ⟨hc, hk2⟩ := cell_arr hR h1 ho hk
    rw [acell_arrV] at hc
    exact ⟨_, hc, (tys_at hT hk hk2).1 _ _, (fun q => by cases q), arrV_size _ _ _, fun j hj => arrV_read _ _ hj⟩
  · obtain rfl : a = 0 := by omega
    obtain ⟨-, hk0⟩ := isA_spec ho
    obtain ⟨g1, scr, g2, g3, g4, g5, g6⟩ := hR.2.2.2.1
    rw [hk0] at g1
    subst g1
    exact ⟨scr, g2, g3, g4, g5, g6⟩
section EVA
variable {M : MI} {d pc : Nat} {ls : List (Nat × Value)} {st : List Value} {σ σ' : St} {r : Option Value}
theorem ev_alen {k a : Nat} (hd : decode M.2.1 pc = .ok (.arraylength, 1)) (ho : isA σ k a = true) (hk : 12 ≤ k) (kk : Ev M d (pc + 1) ls (.int (nI (alen σ a)) :: st) σ r σ') : Ev M d pc ls (.ref a :: st) σ r σ' := by
  refine ev_rd (fun G p l e R s m args below meth c H locs cells slots Q ar hF hT hR _ _ w => ?_) kk
  obtain ⟨cell, g1, g2, g3, g4, g5⟩ := arr_seen hR hT ho hk
  exact W.alen (n := nI (alen σ a)) hF.hx hF.hb g1 g2 (by rw [g4]; rfl) rfl rfl hd w
theorem ev_iald {a : Nat} {i : Int32} (hd : decode M.2.1 pc = .ok (.iaload, 1)) (ho : isA σ 13 a = true) (hi : inR i (alen σ a) = true) (kk : Ev M d (pc + 1) ls (.int (sI σ a i.toNatClampNeg) :: st) σ r σ') : Ev M d pc ls (.int i :: .ref a :: st) σ r σ' := by
  refine ev_rd (fun G p l e R s m args below meth c H locs cells slots Q ar hF hT hR _ _ w => ?_) kk
  obtain ⟨cell, g1, g2, g3, g4, g5⟩ := arr_seen hR hT ho (by decide)
  have hi := inR_spec hi
  exact W.iald (v := .int (sI σ a i.toNatClampNeg)) hF.hx hF.hb g1 g2 g3 (by rw [g4]; exact hi.1) (g5 _ hi.2) rfl rfl hd w
theorem ev_cald {a : Nat} {i : Int32} (hd : decode M.2.1 pc = .ok (.caload, 1)) (ho : isA σ 12 a = true) (hi : inR i (alen σ a) = true) (kk : Ev M d (pc + 1) ls (.int (sI σ a i.toNatClampNeg) :: st) σ r σ') : Ev M d pc ls (.int i :: .ref a :: st) σ r σ' := by
  refine ev_rd (fun G p l e R s m args below meth c H locs cells slots Q ar hF hT hR _ _ w => ?_) kk
  obtain ⟨cell, g1, g2, g3, g4, g5⟩ := arr_seen hR hT ho (by decide)
  have hi := inR_spec hi
  exact W.cald (v := .int (sI σ a i.toNatClampNeg)) hF.hx hF.hb g1 g2 g3 (by rw [g4]; exact hi.1) (g5 _ hi.2) rfl rfl hd w
theorem ev_zald {a : Nat} {i : Int32} (hd : decode M.2.1 pc = .ok (.baload, 1)) (ho : isA σ 15 a = true) (hi : inR i (alen σ a) = true) (kk : Ev M d (pc + 1) ls (.int (sI σ a i.toNatClampNeg) :: st) σ r σ') : Ev M d pc ls (.int i :: .ref a :: st) σ r σ' := by
  refine ev_rd (fun G p l e R s m args below meth c H locs cells slots Q ar hF hT hR _ _ w => ?_) kk
  obtain ⟨cell, g1, g2, g3, g4, g5⟩ := arr_seen hR hT ho (by decide)
  have hi := inR_spec hi
  exact W.zald (v := .int (sI σ a i.toNatClampNeg)) hF.hx hF.hb g1 g2 g3 (by rw [g4]; exact hi.1) (g5 _ hi.2) rfl rfl hd w
theorem ev_lald {a : Nat} {i : Int32} (hd : decode M.2.1 pc = .ok (.laload, 1)) (ho : isA σ 14 a = true) (hi : inR i (alen σ a) = true) (kk : Ev M d (pc + 1) ls (.long (sL σ a i.toNatClampNeg) :: st) σ r σ') : Ev M d pc ls (.int i :: .ref a :: st) σ r σ' := by
  refine ev_rd (fun G p l e R s m args below meth c H locs cells slots Q ar hF hT hR _ _ w => ?_) kk
  obtain ⟨cell, g1, g2, g3, g4, g5⟩ := arr_seen hR hT ho (by decide)
  have hi := inR_spec hi
  exact W.lald (v := .long (sL σ a i.toNatClampNeg)) hF.hx hF.hb g1 g2 g3 (by rw [g4]; exact hi.1) (g5 _ hi.2) rfl rfl hd w
theorem ev_aald {k a : Nat} {i : Int32} {o : Option Nat} (hd : decode M.2.1 pc = .ok (.aaload, 1)) (hk : k = 16 ∨ k = 17) (ho : isA σ k a = true) (hi : inR i (alen σ a) = true) (hv : sP σ a i.toNatClampNeg = o) (kk : Ev M d (pc + 1) ls (va_rf o :: st) σ r σ') : Ev M d pc ls (.int i :: .ref a :: st) σ r σ' := by
  refine ev_rd (fun G p l e R s m args below meth c H locs cells slots Q ar hF hT hR _ _ w => ?_) kk
  obtain ⟨cell, g1, g2, g3, g4, g5⟩ := arr_seen hR hT ho (by omega)
  have hi := inR_spec hi
  have h6 := g5 _ hi.2
  have h7 : elt G σ k a i.toNatClampNeg = cv G (va_rf o) := by unfold elt; rw [if_neg (by omega), if_pos hk, hv, cv_rf]
  rw [h7] at h6
  exact W.aald (ty := aty k) hF.hx hF.hb g1 g2 (by rcases hk with rfl | rfl <;> rfl) g3 (by rw [g4]; exact hi.1) h6 rfl rfl hd w
theorem arr_put {G : GC} {σ σ1 : St} {s : State} {H H1 : Heap} {k a j : Nat} {v : Value} (hR : Rep G σ s H) (ha : 1 ≤ a) (ho : isA σ k a = true) (hk : 12 ≤ k) (hk2 : k < 18)
    (e : H1[al G a]? = some ((arrV (G.2.1 k) (alen σ a) (elt G σ k a)).setSlot j v)) (z : H1.size = H.size) (oq : ∀ q : Nat, q ≠ al G a → H1[q]? = H[q]?)
    (e1 : sn σ1 = sn σ) (e3 : sh σ1 = sh σ) (hoth : ∀ x, x ≠ a → sI σ1 x = sI σ x ∧ sL σ1 x = sL σ x ∧ sP σ1 x = sP σ x) (hval : ∀ y, elt G σ1 k a y = if y = j then v else elt G σ k a y) : Rep G σ1 s H1 := by
  obtain ⟨h2, h3⟩ := isA_spec ho
  refine rep_write hR ha e1 e3 hoth z oq (Or.inr ⟨by rw [e3, h3]; exact hk, by rw [e3, h3]; exact hk2, ?_⟩)
  rw [e3, h3, acell_arrV, e, arrV_store]
  have hl : alen σ1 a = alen σ a := by unfold alen; rw [e3]
  rw [hl]
  congr 2
  funext y
  rw [hval]
  rfl
theorem loc_app {G : GC} {locs : List Loc} {a k : Nat} (hL : ∀ q ∈ locs, G.2.2.2 < q.base) (ha : 1 ≤ a) : ∀ q ∈ locs ++ [⟨al G a, k⟩], G.2.2.2 < q.base := fun q hq => by
  rcases List.mem_append.mp hq with hq | hq
  · exact hL q hq
  · rw [List.mem_singleton.mp hq]
    show G.2.2.2 < al G a
    rw [al_pos ha]; omega
theorem ev_iast {a : Nat} {i x : Int32} (hd : decode M.2.1 pc = .ok (.iastore, 1)) (ha : 1 ≤ a) (ho : isA σ 13 a = true) (hi : inR i (alen σ a) = true) (kk : Ev M d (pc + 1) ls st (setI σ a i.toNatClampNeg x) r σ') : Ev M d pc ls (.int x :: .int i :: .ref a :: st) σ r σ' := by
  refine ev_hp (σ1 := setI σ a i.toNatClampNeg x) (Nat.le_refl _) (Nat.le_refl _) (fun G p l e R s m args below meth c H locs cells slots Q ar hF hT hR hl hL hr w => ?_) kk
  obtain ⟨hc, -⟩ := cell_arr hR ha ho (by decide)
  rw [acell_arrV] at hc
  have hi := inR_spec hi
  refine W.iast hF.hx hF.hb hc ((tys_at hT (k := 13) (by decide) (by decide)).1 _ _) (fun q => by cases q) (by rw [arrV_size]; exact hi.1) rfl rfl hd fun H1 e z oq => ?_
  have w2 := w H1 _ (arr_put (σ1 := setI σ a i.toNatClampNeg x) hR ha ho (by decide) (by decide) e z oq rfl rfl (fun y hy => ⟨up2_ne hy, rfl, rfl⟩) (fun y => by
    show Value.int (up2 _ _ _ _ _ _) = _
    rw [up2_row]
    by_cases hy : y = i.toNatClampNeg <;> simp [hy, elt])) (loc_app (k := i.toNatClampNeg) hL ha)
  rw [show sn (setI σ a i.toNatClampNeg x) = sn σ from rfl, show sz (setI σ a i.toNatClampNeg x) = sz σ from rfl, Nat.sub_self, Nat.sub_self] at w2
  exact w2
theorem ev_cast {a : Nat} {i x : Int32} (hd : decode M.2.1 pc = .ok (.castore, 1)) (ha : 1 ≤ a) (ho : isA σ 12 a = true) (hi : inR i (alen σ a) = true) (kk : Ev M d (pc + 1) ls st (setI σ a i.toNatClampNeg ((x.toUInt32 % 65536).toInt32)) r σ') : Ev M d pc ls (.int x :: .int i :: .ref a :: st) σ r σ' := by
  refine ev_hp (σ1 := setI σ a i.toNatClampNeg ((x.toUInt32 % 65536).toInt32)) (Nat.le_refl _) (Nat.le_refl _) (fun G p l e R s m args below meth c H locs cells slots Q ar hF hT hR hl hL hr w => ?_) kk
  obtain ⟨hc, -⟩ := cell_arr hR ha ho (by decide)
  rw [acell_arrV] at hc
  have hi := inR_spec hi
  refine W.cast hF.hx hF.hb hc ((tys_at hT (k := 12) (by decide) (by decide)).1 _ _) (fun q => by cases q) (by rw [arrV_size]; exact hi.1) rfl rfl hd fun H1 e z oq => ?_
  have w2 := w H1 _ (arr_put (σ1 := setI σ a i.toNatClampNeg ((x.toUInt32 % 65536).toInt32)) hR ha ho (by decide) (by decide) e z oq rfl rfl (fun y hy => ⟨up2_ne hy, rfl, rfl⟩) (fun y => by
    show Value.int (up2 _ _ _ _ _ _) = _
    rw [up2_row]
    by_cases hy : y = i.toNatClampNeg
    · simp [hy]; rfl
    · simp [hy, elt])) (loc_app (k := i.toNatClampNeg) hL ha)
  rw [show sn (setI σ a i.toNatClampNeg ((x.toUInt32 % 65536).toInt32)) = sn σ from rfl, show sz (setI σ a i.toNatClampNeg ((x.toUInt32 % 65536).toInt32)) = sz σ from rfl, Nat.sub_self, Nat.sub_self] at w2
  exact w2
theorem ev_zast {a : Nat} {i x : Int32} (hd : decode M.2.1 pc = .ok (.bastore, 1)) (ha : 1 ≤ a) (ho : isA σ 15 a = true) (hi : inR i (alen σ a) = true) (hx : vp_nar .boolean x = x) (kk : Ev M d (pc + 1) ls st (setI σ a i.toNatClampNeg x) r σ') : Ev M d pc ls (.int x :: .int i :: .ref a :: st) σ r σ' := by
  refine ev_hp (σ1 := setI σ a i.toNatClampNeg x) (Nat.le_refl _) (Nat.le_refl _) (fun G p l e R s m args below meth c H locs cells slots Q ar hF hT hR hl hL hr w => ?_) kk
  obtain ⟨hc, -⟩ := cell_arr hR ha ho (by decide)
  rw [acell_arrV] at hc
  have hi := inR_spec hi
  refine W.zast hF.hx hF.hb hc ((tys_at hT (k := 15) (by decide) (by decide)).1 _ _) (fun q => by cases q) (by rw [arrV_size]; exact hi.1) rfl rfl hd fun H1 e z oq => ?_
  have w2 := w H1 _ (arr_put (σ1 := setI σ a i.toNatClampNeg x) hR ha ho (by decide) (by decide) e z oq rfl rfl (fun y hy => ⟨up2_ne hy, rfl, rfl⟩) (fun y => by
    show Value.int (up2 _ _ _ _ _ _) = _
    rw [up2_row]
    by_cases hy : y = i.toNatClampNeg
    · rw [if_pos hy, if_pos hy]; exact congrArg Value.int hx.symm
    · simp [hy, elt])) (loc_app (k := i.toNatClampNeg) hL ha)
  rw [show sn (setI σ a i.toNatClampNeg x) = sn σ from rfl, show sz (setI σ a i.toNatClampNeg x) = sz σ from rfl, Nat.sub_self, Nat.sub_self] at w2
  exact w2
theorem ev_last {a : Nat} {i : Int32} {x : Int64} (hd : decode M.2.1 pc = .ok (.lastore, 1)) (ha : 1 ≤ a) (ho : isA σ 14 a = true) (hi : inR i (alen σ a) = true) (kk : Ev M d (pc + 1) ls st (setL σ a i.toNatClampNeg x) r σ') : Ev M d pc ls (.long x :: .int i :: .ref a :: st) σ r σ' := by
  refine ev_hp (σ1 := setL σ a i.toNatClampNeg x) (Nat.le_refl _) (Nat.le_refl _) (fun G p l e R s m args below meth c H locs cells slots Q ar hF hT hR hl hL hr w => ?_) kk
  obtain ⟨hc, -⟩ := cell_arr hR ha ho (by decide)
  rw [acell_arrV] at hc
  have hi := inR_spec hi
  refine W.last hF.hx hF.hb hc ((tys_at hT (k := 14) (by decide) (by decide)).1 _ _) (fun q => by cases q) (by rw [arrV_size]; exact hi.1) rfl rfl hd fun H1 e z oq => ?_
  have w2 := w H1 _ (arr_put (σ1 := setL σ a i.toNatClampNeg x) hR ha ho (by decide) (by decide) e z oq rfl rfl (fun y hy => ⟨rfl, up2_ne hy, rfl⟩) (fun y => by
    show Value.long (up2 _ _ _ _ _ _) = _
    rw [up2_row]
    by_cases hy : y = i.toNatClampNeg <;> simp [hy, elt])) (loc_app (k := i.toNatClampNeg) hL ha)
  rw [show sn (setL σ a i.toNatClampNeg x) = sn σ from rfl, show sz (setL σ a i.toNatClampNeg x) = sz σ from rfl, Nat.sub_self, Nat.sub_self] at w2
  exact w2
theorem elt_setP {G : GC} {k a j : Nat} {o : Option Nat} (hk : k = 16 ∨ k = 17) (y : Nat) : elt G (setP σ a j o) k a y = if y = j then va_rf (o.map (al G)) else elt G σ k a y := by
  have h14 : ¬ k = 14 := by omega
  unfold elt
  simp only [if_neg h14, if_pos hk]
  show va_rf (Option.map _ (up2 _ _ _ _ _ _)) = _
  rw [up2_row]
  by_cases hy : y = j <;> simp [hy]
theorem ev_aastN {k a : Nat} {i : Int32} (hd : decode M.2.1 pc = .ok (.aastore, 1)) (hk : k = 16 ∨ k = 17) (ha : 1 ≤ a) (ho : isA σ k a = true) (hi : inR i (alen σ a) = true) (kk : Ev M d (pc + 1) ls st (setP σ a i.toNatClampNeg none) r σ') : Ev M d pc ls (va_rf none :: .int i :: .ref a :: st) σ r σ' := by
  refine ev_hp (σ1 := setP σ a i.toNatClampNeg none) (Nat.le_refl _) (Nat.le_refl _) (fun G p l e R s m args below meth c H locs cells slots Q ar hF hT hR hl hL hr w => ?_) kk
  have h12 : 12 ≤ k := by omega
  obtain ⟨hc, hk2⟩ := cell_arr hR ha ho h12
  rw [acell_arrV] at hc
  have hi := inR_spec hi
  have fin : ∀ (H1 : Heap), H1[al G a]? = some ((arrV (G.2.1 k) (alen σ a) (elt G σ k a)).setSlot i.toNatClampNeg .null) → H1.size = H.size → (∀ q : Nat, q ≠ al G a → H1[q]? = H[q]?) → W p l e R s m args below meth c H1 (locs ++ [⟨al G a, i.toNatClampNeg⟩]) cells slots Q (F0 m (pc + 1) ar (st.map (cv G))) := by
    intro H1 e z oq
    have w2 := w H1 _ (arr_put (σ1 := setP σ a i.toNatClampNeg none) hR ha ho h12 hk2 e z oq rfl rfl (fun y hy => ⟨rfl, rfl, up2_ne hy⟩) (fun y => elt_setP hk y)) (loc_app (k := i.toNatClampNeg) hL ha)
    rw [show sn (setP σ a i.toNatClampNeg none) = sn σ from rfl, show sz (setP σ a i.toNatClampNeg none) = sz σ from rfl, Nat.sub_self, Nat.sub_self] at w2
    exact w2
  rcases hk with rfl | rfl
  · exact va_WaastN (C := RX1) hF.hx hF.hb hc ((tys_at hT (k := 16) (by decide) (by decide)).1 _ _) (fun q => by cases q) (by rw [arrV_size]; exact hi.1) rfl rfl hd fin
  · exact va_WaastN (C := RX6) hF.hx hF.hb hc ((tys_at hT (k := 17) (by decide) (by decide)).1 _ _) (fun q => by cases q) (by rw [arrV_size]; exact hi.1) rfl rfl hd fin
theorem ev_aast {k ko a v : Nat} {i : Int32} (hd : decode M.2.1 pc = .ok (.aastore, 1)) (hk : (k = 16 ∧ ko = 1) ∨ (k = 17 ∧ ko = 6)) (ha : 1 ≤ a) (ho : isA σ k a = true) (hi : inR i (alen σ a) = true) (hv : isO σ ko v = true) (kk : Ev M d (pc + 1) ls st (setP σ a i.toNatClampNeg (some v)) r σ') : Ev M d pc ls (va_rf (some v) :: .int i :: .ref a :: st) σ r σ' := by
  refine ev_hp (σ1 := setP σ a i.toNatClampNeg (some v)) (Nat.le_refl _) (Nat.le_refl _) (fun G p l e R s m args below meth c H locs cells slots Q ar hF hT hR hl hL hr w => ?_) kk
  have h12 : 12 ≤ k := by omega
  obtain ⟨hc, hk2⟩ := cell_arr hR ha ho h12
  rw [acell_arrV] at hc
  have hi := inR_spec hi
  have fin : ∀ (H1 : Heap), H1[al G a]? = some ((arrV (G.2.1 k) (alen σ a) (elt G σ k a)).setSlot i.toNatClampNeg (.ref (al G v))) → H1.size = H.size → (∀ q : Nat, q ≠ al G a → H1[q]? = H[q]?) → W p l e R s m args below meth c H1 (locs ++ [⟨al G a, i.toNatClampNeg⟩]) cells slots Q (F0 m (pc + 1) ar (st.map (cv G))) := by
    intro H1 e z oq
    have w2 := w H1 _ (arr_put (σ1 := setP σ a i.toNatClampNeg (some v)) hR ha ho h12 hk2 e z oq rfl rfl (fun y hy => ⟨rfl, rfl, up2_ne hy⟩) (fun y => elt_setP (by omega) y)) (loc_app (k := i.toNatClampNeg) hL ha)
    rw [show sn (setP σ a i.toNatClampNeg (some v)) = sn σ from rfl, show sz (setP σ a i.toNatClampNeg (some v)) = sz σ from rfl, Nat.sub_self, Nat.sub_self] at w2
    exact w2
  obtain ⟨cellV, v1, v2, v3, -⟩ := cell_obj hR hv (by omega)
  have hty := tys_at hT h12 hk2
  have hko : aty k = .object (kR ko) := by rcases hk with ⟨rfl, rfl⟩ | ⟨rfl, rfl⟩ <;> rfl
  have hcls : ClassAt s (kR ko) (G.1.1 ko) := by
    rcases hk with ⟨rfl, rfl⟩ | ⟨rfl, rfl⟩
    · exact (hT.1.1 1 _ kf1.1).2
    · exact (hT.1.1 6 _ kf6.1).2
  rw [hko] at hty
  obtain ⟨kA, comp, k1, k2, k3, -⟩ := hty.2
  have hcomp : comp = G.1.1 ko := Option.some.inj (k3.symm.trans hcls.1)
  subst hcomp
  obtain ⟨kC, hkC, -⟩ := hcls.2
  exact W.aast hF.hx hF.hb hc (fun q h => by cases h) (fun h => by cases h) k1 k2 rfl hkC ⟨fun q => hi.1 (Or.inl q), by rw [arrV_size]; exact hi.2⟩ v1 (fun q h => by rw [v3] at h; cases h) (by rw [v2]; exact hkC) (by rw [v2]; exact va_assign hcls) rfl rfl hd fin
end EVA
end
section
/-! new objects and arrays; calls; a method's contract -/
def dfl (n : Nat) : Value := if n = 1 then .long 0 else if n = 2 then .null else .int 0
theorem dv_ok : ∀ k, k < 12 → ∀ j, j < kN k → defaultValue (kty k j) = dfl (fcat (kty k j)) := by decide +kernel
section EVN
variable {M : MI} {d pc : Nat} {ls : List (Nat × Value)} {st : List Value} {σ σ' : St} {r : Option Value}
theorem ev_new {i k : Nat} (hd : decode M.2.1 pc = .ok (.new i, 3)) (hK : KF k) (hlk : Cond.classLink M.1.cls i (kR k) ∈ gtbl) (hin : Cond.instantiable (kR k) (kN k) ∈ gtbl) (hini : Cond.initialized (kR k) ∈ gtbl) (kk : Ev M d (pc + 3) ls (va_rf (some (sn σ)) :: st) (newC σ k (kN k)) r σ') : Ev M d pc ls st σ r σ' := by
  refine ev_hp (σ1 := newC σ k (kN k)) (Nat.le_succ _) (Nat.le_add_right _ _) (fun G p l e R s m args below meth c H locs cells slots Q ar hF hT hR hl hL hr w => ?_) kk
  obtain ⟨h1, h2, h3, h4, h5⟩ := hK
  have hKn := hT.1.1 k _ h1
  have e1 : sn (newC σ k (kN k)) - sn σ = 1 := by show sn σ + 1 - sn σ = 1; omega
  have e2 : sz (newC σ k (kN k)) - sz σ = kN k := by show sz σ + kN k - sz σ = kN k; omega
  rw [e1, e2] at hr w
  refine W.newcK hF.hx hF.hb hF.hown (hF.hts _ hlk) (hF.hts _ hin) (hF.hts _ hini) rfl hd hr.2.2.1 hr.2.2.2 hKn.2.1 rfl fun H1 kC hkC g1 z1 o1 => ?_
  have hal : al G (sn σ) = H.size := by rw [hR.1, al_pos hR.2.1]
  have hs : sh (newC σ k (kN k)) (sn σ) = (k, kN k) := by show up1 _ _ _ _ = _; simp [up1]
  have hb := u_born (kty k) hF.hts h2 hKn hkC g1 h3
  have w2 := w H1 locs (rep_new hR z1 o1 (Or.inl ⟨by rw [hs]; exact h5, by
    rw [hs, hal]
    refine hb.to (fun j hj => ?_)
    rw [dv_ok k h5 j hj]
    unfold fval dfl
    by_cases f1 : fcat (kty k j) = 1
    · rw [if_pos f1, if_pos f1]; show _ = Value.long (row0 _ _ _ _ _); simp [row0]
    · rw [if_neg f1, if_neg f1]
      by_cases f2 : fcat (kty k j) = 2
      · rw [if_pos f2, if_pos f2]; show _ = va_rf (Option.map _ (row0 _ _ _ _ _)); simp [row0, va_rf]
      · rw [if_neg f2, if_neg f2]; show _ = Value.int (row0 _ _ _ _ _); simp [row0]⟩)) hL
  have e3 : (va_rf (some (sn σ)) :: st).map (cv G) = .ref H.size :: st.map (cv G) := by
    show cv G (.ref (sn σ)) :: _ = _
    show Value.ref (al G (sn σ)) :: _ = _
    rw [hal]
  rw [e3] at w2
  exact w2
theorem ev_newa {k : Nat} {at' : ArrayType} {n : Int32} (hd : decode M.2.1 pc = .ok (.newarray at', 2)) (hk : k = 12 ∧ at' = .char ∨ k = 13 ∧ at' = .int ∨ k = 14 ∧ at' = .long ∨ k = 15 ∧ at' = .boolean) (hcl : Cond.arrayClass (newarray.typeOf at') ∈ gtbl) (hn : ¬ n < 0) (hb : n.toNatClampNeg ≤ 1000000) (kk : Ev M d (pc + 2) ls (va_rf (some (sn σ)) :: st) (newC σ k n.toNatClampNeg) r σ') : Ev M d pc ls (.int n :: st) σ r σ' := by
  refine ev_hp (σ1 := newC σ k n.toNatClampNeg) (Nat.le_succ _) (Nat.le_add_right _ _) (fun G p l e R s m args below meth c H locs cells slots Q ar hF hT hR hl hL hr w => ?_) kk
  have e1 : sn (newC σ k n.toNatClampNeg) - sn σ = 1 := by show sn σ + 1 - sn σ = 1; omega
  have e2 : sz (newC σ k n.toNatClampNeg) - sz σ = n.toNatClampNeg := by show sz σ + n.toNatClampNeg - sz σ = n.toNatClampNeg; omega
  rw [e1, e2] at hr w
  have hk12 : 12 ≤ k ∧ k < 18 := by omega
  have hty : newarray.typeOf at' = aty k := by rcases hk with ⟨rfl, rfl⟩ | ⟨rfl, rfl⟩ | ⟨rfl, rfl⟩ | ⟨rfl, rfl⟩ <;> rfl
  refine va_newaK hF.hx hF.hb (hF.hts _ hcl) rfl hd rfl hn rfl (by
    have h8 : componentBytes (newarray.typeOf at') ≤ 8 := by rcases hk with ⟨rfl, rfl⟩ | ⟨rfl, rfl⟩ | ⟨rfl, rfl⟩ | ⟨rfl, rfl⟩ <;> decide
    calc n.toNatClampNeg * componentBytes (newarray.typeOf at') ≤ 1000000 * 8 := Nat.mul_le_mul hb h8
      _ ≤ 536870912 := by decide) hr.2.2.1 hr.2.2.2 rfl fun H1 cA g1 z1 o1 hAr hNm => ?_
  have hal : al G (sn σ) = H.size := by rw [hR.1, al_pos hR.2.1]
  have hs : sh (newC σ k n.toNatClampNeg) (sn σ) = (k, n.toNatClampNeg) := by show up1 _ _ _ _ = _; simp [up1]
  have hcA : cA = G.2.1 k := by
    have hra := (tys_at hT hk12.1 hk12.2).2
    rw [hty] at hNm
    have : s.vm.findClass ("[" ++ (aty k).toString) = some (G.2.1 k) := by
      rcases hk with ⟨rfl, rfl⟩ | ⟨rfl, rfl⟩ | ⟨rfl, rfl⟩ | ⟨rfl, rfl⟩ <;> exact hra
    exact Option.some.inj (hNm.symm.trans this)
  subst hcA
  have w2 := w H1 locs (rep_new hR z1 o1 (Or.inr ⟨by rw [hs]; exact hk12.1, by rw [hs]; exact hk12.2, by
    rw [hs, hal, g1, acell_arrV]
    have hl : alen (newC σ k n.toNatClampNeg) (sn σ) = n.toNatClampNeg := by unfold alen; rw [hs]
    rw [hl]
    congr 2
    funext j
    rw [hty]
    unfold elt
    rcases hk with ⟨rfl, rfl⟩ | ⟨rfl, rfl⟩ | ⟨rfl, rfl⟩ | ⟨rfl, rfl⟩
    · show _ = Value.int (row0 _ _ _ _ _); simp [row0]; rfl
    · show _ = Value.int (row0 _ _ _ _ _); simp [row0]; rfl
    · show _ = Value.long (row0 _ _ _ _ _); simp [row0]; rfl
    · show _ = Value.int (row0 _ _ _ _ _); simp [row0]; rfl⟩)) hL
  have e3 : (va_rf (some (sn σ)) :: st).map (cv G) = .ref H.size :: st.map (cv G) := by
    show Value.ref (al G (sn σ)) :: _ = _
    rw [hal]
  rw [e3] at w2
  exact w2
theorem ev_anew {k ko i : Nat} {n : Int32} (hd : decode M.2.1 pc = .ok (.anewarray i, 3)) (hk : k = 16 ∧ ko = 1 ∨ k = 17 ∧ ko = 6) (hlk : Cond.classLink M.1.cls i (kR ko) ∈ gtbl) (hn : ¬ n < 0) (hb : n.toNatClampNeg ≤ 1000000) (kk : Ev M d (pc + 3) ls (va_rf (some (sn σ)) :: st) (newC σ k n.toNatClampNeg) r σ') : Ev M d pc ls (.int n :: st) σ r σ' := by
  refine ev_hp (σ1 := newC σ k n.toNatClampNeg) (Nat.le_succ _) (Nat.le_add_right _ _) (fun G p l e R s m args below meth c H locs cells slots Q ar hF hT hR hl hL hr w => ?_) kk
  have e1 : sn (newC σ k n.toNatClampNeg) - sn σ = 1 := by show sn σ + 1 - sn σ = 1; omega
  have e2 : sz (newC σ k n.toNatClampNeg) - sz σ = n.toNatClampNeg := by show sz σ + n.toNatClampNeg - sz σ = n.toNatClampNeg; omega
  rw [e1, e2] at hr w
  have hk12 : 12 ≤ k ∧ k < 18 := by omega
  have hao : va_AO (kR ko) s := by rcases hk with ⟨rfl, rfl⟩ | ⟨rfl, rfl⟩; exact hT.2.1; exact hT.2.2.1
  have hty : aty k = .object (kR ko) := by rcases hk with ⟨rfl, rfl⟩ | ⟨rfl, rfl⟩ <;> rfl
  refine W.anew hF.hx hF.hb hF.hown (hF.hts _ hlk) (va_AO.use hao) rfl hd rfl hn (by omega) hr.2.2.1 hr.2.2.2 fun cA kA comp f1 f2 f3 f4 => ?_
  generalize hH1 : H.push ({ cls := cA, slots := Array.replicate n.toNatClampNeg .null, vm := .none } : Cell) = H1
  have z1 : H1.size = H.size + 1 := by rw [← hH1, Array.size_push]
  have g1 : H1[H.size]? = some (arrV cA n.toNatClampNeg (fun _ => .null)) := by rw [← hH1, Array.getElem?_push_size, ← arrV_new]
  have o1 : ∀ q : Nat, q < H.size → H1[q]? = H[q]? := fun q hq => by rw [← hH1, Array.getElem?_push, if_neg (Nat.ne_of_lt hq)]
  have hal : al G (sn σ) = H.size := by rw [hR.1, al_pos hR.2.1]
  have hs : sh (newC σ k n.toNatClampNeg) (sn σ) = (k, n.toNatClampNeg) := by show up1 _ _ _ _ = _; simp [up1]
  have hcA : cA = G.2.1 k := by
    have hra := (tys_at hT hk12.1 hk12.2).2
    rw [hty] at hra
    obtain ⟨_, _, _, _, _, q4⟩ := hra
    exact Option.some.inj (f1.symm.trans q4)
  subst hcA
  have w2 := w H1 locs (rep_new hR z1 o1 (Or.inr ⟨by rw [hs]; exact hk12.1, by rw [hs]; exact hk12.2, by
    rw [hs, hal, g1, acell_arrV]
    have hl : alen (newC σ k n.toNatClampNeg) (sn σ) = n.toNatClampNeg := by unfold alen; rw [hs]
    rw [hl]
    congr 2
    funext j
    unfold elt
    rw [if_neg (by omega), if_pos (by omega)]
    show _ = va_rf (Option.map _ (row0 _ _ _ _ _))
    simp [row0, va_rf]⟩)) hL
  have e3 : (va_rf (some (sn σ)) :: st).map (cv G) = .ref H.size :: st.map (cv G) := by
    show Value.ref (al G (sn σ)) :: _ = _
    rw [hal]
  rw [e3] at w2
  exact w2
end EVN
theorem gt_good {ws : List Cond} (h : ∀ w ∈ ws, w ∈ gtbl) : GoodIn gtbl ws := fun w hw => ⟨h w hw, good_of_word (List.mem_filter.mp (h w hw)).2⟩
/-- what the tables say of a method that is called: its code, its class, how many arguments -/
def CalB (M : MI) (n : Nat) : Prop := Cond.code M.1 M.2.1 M.2.2.1 M.2.2.2 ∈ gtbl ∧ Cond.initialized M.1.cls ∈ gtbl ∧ (M.1.cls ≠ "java/lang/invoke/MethodHandle" ∧ M.1.cls ≠ "java/lang/invoke/VarHandle" ∧ (parseMethodDescriptor M.1.desc).map (fun d => d.parameters.length) = some n) ∧ M.2.2.1 ≤ 21
theorem wd_in {M : MI} {n : Nat} (h : CalB M n) : ∀ w ∈ Wd M, w ∈ gtbl := fun w hw => by
  rcases List.mem_cons.mp hw with rfl | hw
  · exact h.1
  · exact hw
theorem blind {G : GC} {σ : St} {av : List Value} : FrameBlind (va_Pc (av.map (cv G)) (fun U => Rep G σ U U.heap ∧ Tb G U)) := fun a U g mk q => by
  obtain ⟨q0, q1, q2⟩ := q
  exact ⟨q0, Rep.moved (t := U.calling g mk a) (Vm.Alike.refl U.vm) q1, Tb.moved (t := U.calling g mk a) (State.WarmedH.refl U) q2⟩
theorem ev_after {M : MI} {d pc : Nat} {ls : List (Nat × Value)} {st0 st : List Value} {σ σ1 σ' : St} {r r1 : Option Value} (h1 : sn σ ≤ sn σ1) (h2 : sz σ ≤ sz σ1)
    (hrun : ∀ (G : GC) (p : Program) (l : Launch) (e : Env) (R : Room) (s : State) (m : MethodId) (args : Array Value) (below : List Frame) (meth : Method) (c : Code) (H : Heap) (locs : List Loc) (cells slots : Nat) (ar : Array Slot),
      Fx M p s m args meth c → Tb G s → Rep G σ s H → ar.size = M.2.2.1 → d ≤ R.frames ∧ 40 * d ≤ R.locals → (cells + (sn σ1 - sn σ) ≤ R.cells ∧ slots + (sz σ1 - sz σ) ≤ R.slots) →
      va_Run p l e R s m args below meth c H locs cells slots (sn σ1 - sn σ) (sz σ1 - sz σ) (F0 m pc ar (st0.map (cv G))) (st.map (cv G)) (fun _ oc t => oc = .returned (r1.map (cv G)) ∧ Rep G σ1 t t.heap) (fun q => G.2.2.2 < q))
    (kk : Ev M d (pc + 3) ls (r1.toList ++ st) σ1 r σ') : Ev M d pc ls st0 σ r σ' := by
  refine ev_hp h1 h2 (fun G p l e R s m args below meth c H locs cells slots Q ar hF hT hR hl hL hr w => ?_) kk
  intro T hT2 X
  obtain ⟨v, st₀, t, T', L, h0, X', hLf, e1, e2, ⟨hv, hRep⟩, stp⟩ := hrun G p l e R s m args below meth c H locs cells slots ar hF hT hR hl.1 ⟨hr.1, hr.2.1⟩ hr.2.2 T hT2 X
  have hv2 : v = r1.map (cv G) := by injection hv
  subst hv2
  have hal : s.vm.Alike t.vm := by rw [← e2]; exact X'.warmed.alike
  have hRep' : Rep G σ1 s T'.heap := by rw [e1]; exact Rep.moved hal.symm hRep
  obtain ⟨t2, a1, b1⟩ := w T'.heap (locs ++ L) hRep' (fun q hq => by
    rcases List.mem_append.mp hq with hq | hq
    · exact hL q hq
    · exact hLf q hq) T' rfl X'
  refine ⟨t2, stp t2 ?_, b1⟩
  have e3 : (r1.toList ++ st).map (cv G) = (r1.map (cv G)).toList ++ st.map (cv G) := by cases r1 <;> simp
  rw [e3] at a1
  exact a1
section EVC
variable {M M2 : MI} {d d2 pc i n : Nat} {ls : List (Nat × Value)} {st0 st As : List Value} {σ σ1 σ' : St} {r r1 : Option Value}
theorem locals_ok {d d2 x : Nat} (h : d2 + 1 ≤ d) (hx : x ≤ 21) : 8 + (x + 11) + 40 * d2 ≤ 40 * d := by omega
theorem ev_invV {k b : Nat} (hd : decode M.2.1 pc = .ok (.invokevirtual i, 3)) (hb : CalB M2 n) (hlk : Cond.methodLink M.1.cls i M2.1 ∈ gtbl) (hin : Cond.instanceMethod M2.1 ∈ gtbl) (hsel : Cond.selects M2.1.cls M2.1 M2.1 ∈ gtbl) (hK : KF k) (hkc : kR k = M2.1.cls) (hdd : d2 + 1 ≤ d)
    (ho : isO σ k b = true) (hn : As.length = n) (hst : st0 = As.reverse ++ .ref b :: st) (hw : (st.map fun v => v.category).sum ≤ 8) (hx : Ex M2 d2 (.ref b :: As) σ r1 σ1) (kk : Ev M d (pc + 3) ls (r1.toList ++ st) σ1 r σ') : Ev M d pc ls st0 σ r σ' := by
  refine ev_after hx.1 hx.2.1 (fun G p l e R s m args below meth c H locs cells slots ar hF hT hR hz hr hr2 => ?_) kk
  have hM := hx.2.2 l G
  obtain ⟨cell, q1, q2, q3, -⟩ := cell_obj hR ho hK.2.2.2.2
  have hcl : s.vm.findClass M2.1.cls = some cell.cls := by rw [← hkc, q2]; exact (hT.1.1 k _ hK.1).2.1
  have hb1 := isO_spec ho
  refine va_runV (b := al G b) (As := As.map (cv G)) (rest := st.map (cv G)) ⟨hF.hx, hF.hb, hF.hml, hF.hown, hF.hts⟩ hM (cwV n hF.hts (gt_good (fun w hw => ?_)) rfl rfl rfl ⟨rfl, hb.2.2.1⟩ ⟨Nat.le_trans hdd hr.1, Nat.le_trans (locals_ok hdd hb.2.2.2) hr.2⟩) ⟨blind, ⟨cell, q1, by rw [q3]; rfl, hcl⟩, fun U hU hW => ⟨rfl, by rw [hU]; exact Rep.moved hW.alike hR, Tb.moved hW hT⟩⟩ rfl (by rw [List.length_map]; exact hn) hz ?_ (lv_room (by rw [cat_sum]; exact hw)) hd hr2
  · unfold wsV at hw
    rcases List.mem_append.mp hw with hw | hw
    · simp only [List.mem_cons, List.not_mem_nil, or_false] at hw
      rcases hw with rfl | rfl | rfl | rfl
      · exact hlk
      · exact hin
      · exact hsel
      · exact hb.2.1
    · exact wd_in hb w hw
  · subst hst
    show (As.reverse ++ .ref b :: st).map (cv G) = _
    rw [List.map_append, List.map_reverse]
    rfl
theorem ev_invS (hd : decode M.2.1 pc = .ok (.invokestatic i, 3)) (hb : CalB M2 n) (hlk : Cond.methodLink M.1.cls i M2.1 ∈ gtbl) (hin : Cond.static M2.1 ∈ gtbl) (hdd : d2 + 1 ≤ d)
    (hn : As.length = n) (hst : st0 = As.reverse ++ st) (hw : (st.map fun v => v.category).sum ≤ 8) (hx : Ex M2 d2 As σ r1 σ1) (kk : Ev M d (pc + 3) ls (r1.toList ++ st) σ1 r σ') : Ev M d pc ls st0 σ r σ' := by
  refine ev_after hx.1 hx.2.1 (fun G p l e R s m args below meth c H locs cells slots ar hF hT hR hz hr hr2 => ?_) kk
  have hM := hx.2.2 l G
  refine va_runS (As := As.map (cv G)) (rest := st.map (cv G)) ⟨hF.hx, hF.hb, hF.hml, hF.hown, hF.hts⟩ hM (va_cwS n hF.hts (gt_good (fun w hw => ?_)) rfl rfl rfl hb.2.2.1 ⟨Nat.le_trans hdd hr.1, Nat.le_trans (locals_ok hdd hb.2.2.2) hr.2⟩) ⟨blind, fun U hU hW => ⟨rfl, by rw [hU]; exact Rep.moved hW.alike hR, Tb.moved hW hT⟩⟩ rfl (by rw [List.length_map]; exact hn) hz ?_ (lv_room (by rw [cat_sum]; exact hw)) hd hr2
  · unfold va_wsS at hw
    rcases List.mem_append.mp hw with hw | hw
    · simp only [List.mem_cons, List.not_mem_nil, or_false] at hw
      rcases hw with rfl | rfl | rfl
      · exact hlk
      · exact hin
      · exact hb.2.1
    · exact wd_in hb w hw
  · subst hst
    show (As.reverse ++ st).map (cv G) = _
    rw [List.map_append, List.map_reverse]
theorem ev_invSN {host : String} (hd : decode M.2.1 pc = .ok (.invokestatic i, 3)) (hb : CalB M2 n) (hlk : Cond.methodLinkNest M.1.cls i M2.1 host ∈ nests) (hin : Cond.static M2.1 ∈ gtbl) (hdd : d2 + 1 ≤ d)
    (hn : As.length = n) (hst : st0 = As.reverse ++ st) (hw : (st.map fun v => v.category).sum ≤ 8) (hx : Ex M2 d2 As σ r1 σ1) (kk : Ev M d (pc + 3) ls (r1.toList ++ st) σ1 r σ') : Ev M d pc ls st0 σ r σ' := by
  refine ev_after hx.1 hx.2.1 (fun G p l e R s m args below meth c H locs cells slots ar hF hT hR hz hr hr2 => ?_) kk
  have hM := hx.2.2 l G
  refine va_runSN (As := As.map (cv G)) (rest := st.map (cv G)) ⟨hF.hx, hF.hb, hF.hml, hF.hown, hF.hts⟩ hM ⟨va_cnB n hF.hts (gt_good (wd_in hb)) rfl rfl rfl (hT.2.2.2 _ hlk) (hF.hts _ hb.2.1) hb.2.2.1 ⟨Nat.le_trans hdd hr.1, Nat.le_trans (locals_ok hdd hb.2.2.2) hr.2⟩, hF.hts _ hin, trivial⟩ ⟨blind, fun U hU hW => ⟨rfl, by rw [hU]; exact Rep.moved hW.alike hR, Tb.moved hW hT⟩⟩ rfl (by rw [List.length_map]; exact hn) hz ?_ (lv_room (by rw [cat_sum]; exact hw)) hd hr2
  subst hst
  show (As.reverse ++ st).map (cv G) = _
  rw [List.map_append, List.map_reverse]
theorem ev_invI {b : Nat} (hd : decode M.2.1 pc = .ok (.invokespecial i, 3)) (hb : CalB M2 n) (hlk : Cond.methodLink M.1.cls i M2.1 ∈ gtbl) (hin : Cond.instanceMethod M2.1 ∈ gtbl) (hret : M2.2.2.2 = none) (hnm : M2.1.name = "<init>") (hdd : d2 + 1 ≤ d)
    (hn : As.length = n) (hst : st0 = As.reverse ++ .ref b :: st) (hw : (st.map fun v => v.category).sum ≤ 8) (hx : Ex M2 d2 (.ref b :: As) σ r1 σ1) (kk : Ev M d (pc + 3) ls (r1.toList ++ st) σ1 r σ') : Ev M d pc ls st0 σ r σ' := by
  refine ev_after hx.1 hx.2.1 (fun G p l e R s m args below meth c H locs cells slots ar hF hT hR hz hr hr2 => ?_) kk
  have hM := hx.2.2 l G
  refine va_runI (b := al G b) (As := As.map (cv G)) (rest := st.map (cv G)) ⟨hF.hx, hF.hb, hF.hml, hF.hown, hF.hts⟩ hM (cwI (bytes := M2.2.1) (maxL := M2.2.2.1) n hF.hts (gt_good (wd_in hb)) (by show Wd M2 = _; unfold Wd; rw [hret]) rfl rfl (hF.hts _ hb.2.1) (hF.hts _ hlk) (hF.hts _ hin) hnm hb.2.2.1 ⟨Nat.le_trans hdd hr.1, Nat.le_trans (locals_ok hdd hb.2.2.2) hr.2⟩) ⟨blind, fun U hU hW => ⟨rfl, by rw [hU]; exact Rep.moved hW.alike hR, Tb.moved hW hT⟩⟩ rfl (by rw [List.length_map]; exact hn) hz ?_ (lv_room (by rw [cat_sum]; exact hw)) hd hr2
  subst hst
  show (As.reverse ++ .ref b :: st).map (cv G) = _
  rw [List.map_append, List.map_reverse]
  rfl
theorem ev_invIN {b : Nat} {host : String} (hd : decode M.2.1 pc = .ok (.invokespecial i, 3)) (hb : CalB M2 n) (hlk : Cond.methodLinkNest M.1.cls i M2.1 host ∈ nests) (hin : Cond.instanceMethod M2.1 ∈ gtbl) (hret : M2.2.2.2 = none) (hnm : M2.1.name = "<init>") (hdd : d2 + 1 ≤ d)
    (hn : As.length = n) (hst : st0 = As.reverse ++ .ref b :: st) (hw : (st.map fun v => v.category).sum ≤ 8) (hx : Ex M2 d2 (.ref b :: As) σ r1 σ1) (kk : Ev M d (pc + 3) ls (r1.toList ++ st) σ1 r σ') : Ev M d pc ls st0 σ r σ' := by
  refine ev_after hx.1 hx.2.1 (fun G p l e R s m args below meth c H locs cells slots ar hF hT hR hz hr hr2 => ?_) kk
  have hM := hx.2.2 l G
  refine va_runIN (b := al G b) (As := As.map (cv G)) (rest := st.map (cv G)) (bytes := M2.2.1) (maxL := M2.2.2.1) ⟨hF.hx, hF.hb, hF.hml, hF.hown, hF.hts⟩ hM ⟨va_cnB (ret := none) n hF.hts (gt_good (wd_in hb)) (by show Wd M2 = _; unfold Wd; rw [hret]) rfl rfl (hT.2.2.2 _ hlk) (hF.hts _ hb.2.1) hb.2.2.1 ⟨Nat.le_trans hdd hr.1, Nat.le_trans (locals_ok hdd hb.2.2.2) hr.2⟩, hnm, hF.hts _ hin⟩ ⟨blind, fun U hU hW => ⟨rfl, by rw [hU]; exact Rep.moved hW.alike hR, Tb.moved hW hT⟩⟩ rfl (by rw [List.length_map]; exact hn) hz ?_ (lv_room (by rw [cat_sum]; exact hw)) hd hr2
  subst hst
  show (As.reverse ++ .ref b :: st).map (cv G) = _
  rw [List.map_append, List.map_reverse]
  rfl
end EVC
/-! the end of a method, and its contract -/
theorem ev_ret {M : MI} {d pc : Nat} {ls : List (Nat × Value)} {σ : St} {r : Option Value} (hd : decode M.2.1 pc = .ok (RI r, 1)) (hret : RetOK M.2.2.2 r) : Ev M d pc ls r.toList σ r σ := by
  refine ⟨Nat.le_refl _, Nat.le_refl _, fun G p l e R s m args below meth c H locs cells slots Q ar hF hT hR hl hL hr hk => ?_⟩
  have w := hk H locs pc ar hR hL hd hret
  have e3 : (r.map (cv G)).toList = r.toList.map (cv G) := by cases r <;> rfl
  rw [Nat.sub_self, Nat.sub_self, e3] at w
  exact w
theorem ex_of {M : MI} {d : Nat} {av : List Value} {ls : List (Nat × Value)} {σ σ' : St} {r : Option Value} (hpl : plainName M.1.cls = true) (hls : lv_args 0 av = ls) (hlen : (lg_sl av).length ≤ M.2.2.1) (h : Ev M d 0 ls [] σ r σ') : Ex M d av σ r σ' := by
  refine ⟨h.1, h.2.1, fun l G => ?_⟩
  refine Met.ofW (cc := M.2.1) (maxL := M.2.2.1) (ret := M.2.2.2) hpl rfl ?_
  intro p e s m args below meth c s₁ B hml hv
  obtain ⟨rfl, hRep, hTb⟩ := hv
  have hts := atoms_spec (ws := Wd M) B.pre
  have hF : Fx M p s m (av.map (cv G)).toArray meth c := ⟨B.exec, B.bytes, hml, B.returns, B.notSynchronized, findClass_of_methodNamed B.named, fun w hw => hts w (List.mem_cons_of_mem _ hw), fun hn => ((name_of_methodNamed B.named B.method).1).trans hn⟩
  have hl := lv_entry (av.map (cv G)) (n := M.2.2.1) (by rw [lg_len]; exact hlen)
  rw [lg_entry_eq]
  generalize (lg_sl (av.map (cv G)) ++ List.replicate (M.2.2.1 - (lg_sl (av.map (cv G))).length) Slot.unset).toArray = ar at hl ⊢
  rw [cvl_args, hls] at hl
  refine h.2.2 G p l e _ s m _ below meth c s.heap [] 0 0 _ ar hF hTb hRep hl (fun q hq => by cases hq) ⟨Nat.le_refl _, Nat.le_refl _, by show 0 + _ ≤ _; rw [Nat.zero_add]; exact Nat.le_refl _, by show 0 + _ ≤ _; rw [Nat.zero_add]; exact Nat.le_refl _⟩ (fun H' locs' pc' ar' hR' hL' hd' hret => ?_)
  rw [Nat.zero_add, Nat.zero_add]
  have fin : ∀ t : State, t.heap = H' → s.WarmedH t.vm → (Outcome.returned (r.map (cv G)) = .returned (r.map (cv G)) ∧ Rep G σ' t t.heap) := fun t ht hW => ⟨rfl, by rw [ht]; exact Rep.moved hW.alike hR'⟩
  match r, hret with
  | none, hret => exact W.vret hF.hx hF.hb (hF.hr.trans hret) fin hL' hd' hF.hlocks
  | some (.int v), hret =>
    obtain ⟨ty, h1, h2⟩ := hret
    exact W.zret hF.hx hF.hb (hF.hr.trans h1) h2 fin hL' hd' hF.hlocks
  | some (.long v), hret => exact W.lret hF.hx hF.hb (hF.hr.trans hret) fin hL' hd' hF.hlocks
  | some .null, hret =>
    obtain ⟨⟨ty, h1, h2⟩, -⟩ := hret
    exact W.aret hF.hx hF.hb (hF.hr.trans h1) h2 (Or.inl rfl) fin hL' hd' hF.hlocks
  | some (.ref a), hret =>
    obtain ⟨⟨ty, h1, h2⟩, -⟩ := hret
    exact W.aret hF.hx hF.hb (hF.hr.trans h1) h2 (Or.inr ⟨_, rfl⟩) fin hL' hd' hF.hlocks
  | some (.float a), hret => obtain ⟨-, h | ⟨_, h⟩⟩ := hret <;> cases h
  | some (.double a), hret => obtain ⟨-, h | ⟨_, h⟩⟩ := hret <;> cases h
  | some (.retAddr a), hret => obtain ⟨-, h | ⟨_, h⟩⟩ := hret <;> cases h

/-! forms for the generated walks -/
def lt {α β : Type} (x : α) (k : α → Option β) : Option β := k x
def op {α β : Type} (o : Option α) (k : α → Option β) : Option β := match o with
  | none => none
  | some v => k v
def on {α β : Type} (o : Option α) (a : Option β) (k : α → Option β) : Option β := match o with
  | none => a
  | some v => k v
def bd {α β : Type} (o : Option (α × St)) (k : α → St → Option β) : Option β := match o with
  | none => none
  | some (r, s) => k r s
def lp {α : Type} (z : α) (f : α → α) : Nat → α
  | 0 => z
  | n + 1 => f (lp z f n)
theorem lt_some {α β : Type} {x : α} {k : α → Option β} {y : β} (h : lt x k = some y) : ∃ z, z = x ∧ k z = some y := ⟨x, rfl, h⟩
theorem op_some {α β : Type} {o : Option α} {k : α → Option β} {y : β} (h : op o k = some y) : ∃ v, o = some v ∧ k v = some y := by
  cases o with
  | none => cases h
  | some v => exact ⟨v, rfl, h⟩
theorem on_some {α β : Type} {o : Option α} {a : Option β} {k : α → Option β} {y : β} (h : on o a k = some y) : (o = none ∧ a = some y) ∨ ∃ v, o = some v ∧ k v = some y := by
  cases o with
  | none => exact Or.inl ⟨rfl, h⟩
  | some v => exact Or.inr ⟨v, rfl, h⟩
theorem bd_some {α β : Type} {o : Option (α × St)} {k : α → St → Option β} {y : β} (h : bd o k = some y) : ∃ r s, o = some (r, s) ∧ k r s = some y := by
  cases o with
  | none => cases h
  | some v => exact ⟨v.1, v.2, rfl, h⟩
theorem it_some {β : Type} {c : Prop} [Decidable c] {a b : Option β} {y : β} (h : (if c then a else b) = some y) : (c ∧ a = some y) ∨ (¬ c ∧ b = some y) := by
  by_cases hc : c
  · rw [if_pos hc] at h; exact Or.inl ⟨hc, h⟩
  · rw [if_neg hc] at h; exact Or.inr ⟨hc, h⟩
theorem gd_some {β : Type} {c : Prop} [Decidable c] {a : Option β} {y : β} (h : (if c then a else none) = some y) : c ∧ a = some y := by
  rcases it_some h with h | h
  · exact h
  · cases h.2
section EVW
variable {M M2 : MI} {d d2 pc i n : Nat} {ls : List (Nat × Value)} {st0 st As : List Value} {σ σ1 σ2 σ' : St}
theorem ev_st {r : Option Value} (e : σ1 = σ2) (k : Ev M d pc ls st σ1 r σ') : Ev M d pc ls st σ2 r σ' := e ▸ k
theorem ev_topI {r : Option Value} {x y : Int32} (e : y = x) (k : Ev M d pc ls (.int y :: st) σ r σ') : Ev M d pc ls (.int x :: st) σ r σ' := e ▸ k
theorem ev_topL {r : Option Value} {x y : Int64} (e : y = x) (k : Ev M d pc ls (.long y :: st) σ r σ') : Ev M d pc ls (.long x :: st) σ r σ' := e ▸ k
theorem isO_I {a j k b : Nat} {v : Int32} (e : σ1 = setI σ a j v) (g : isO σ k b = true) : isO σ1 k b = true := by subst e; exact g
theorem isO_L {a j k b : Nat} {v : Int64} (e : σ1 = setL σ a j v) (g : isO σ k b = true) : isO σ1 k b = true := by subst e; exact g
theorem isO_P {a j k b : Nat} {v : Option Nat} (e : σ1 = setP σ a j v) (g : isO σ k b = true) : isO σ1 k b = true := by subst e; exact g
theorem isO_N {k b kk len : Nat} (e : σ1 = newC σ kk len) (g : isO σ k b = true) : isO σ1 k b = true := by
  subst e
  obtain ⟨g1, g2, g3⟩ := isO_spec g
  have hb : ¬ b = σ.1 := Nat.ne_of_lt g2
  have hs : sh (newC σ kk len) b = sh σ b := by show up1 _ _ _ b = _; simp only [up1]; rw [if_neg hb]
  have hn : b < sn (newC σ kk len) := Nat.lt_succ_of_lt g2
  simp only [isO, hs, g3, hn, g1, decide_true, Bool.true_and, beq_self_eq_true]
theorem isO_new {k len : Nat} (e : σ1 = newC σ k len) (h : isO σ1 k (sn σ) = true) : isO σ1 k (sn σ) = true := h
theorem ev_aload_nR {r : Option Value} {n : Fin 4} {a : Nat} (j : Nat) (hd : decode M.2.1 pc = .ok (.aload_n n, 1)) (hl : ls[j]? = some ((n : Nat), .ref a)) (k : Ev M d (pc + 1) ls (.ref a :: st) σ r σ') : Ev M d pc ls st σ r σ' := ev_aload_n (o := some a) j hd hl k
theorem ev_aloadR {r : Option Value} {n : Nat} {a : Nat} (j : Nat) (hd : decode M.2.1 pc = .ok (.aload n, 2)) (hl : ls[j]? = some (n, .ref a)) (k : Ev M d (pc + 2) ls (.ref a :: st) σ r σ') : Ev M d pc ls st σ r σ' := ev_aload (o := some a) j hd hl k
theorem ev_astore_nR {r : Option Value} {n : Fin 4} {a : Nat} {ls' : List (Nat × Value)} (hd : decode M.2.1 pc = .ok (.astore_n n, 1)) (hn : (n : Nat) < M.2.2.1) (hl : ((n : Nat), Value.ref a) :: ls.filter (fun q => !(q.1 == (n : Nat)) && !(q.1 + 1 == (n : Nat) && q.2.category == 2)) = ls') (k : Ev M d (pc + 1) ls' st σ r σ') : Ev M d pc ls (.ref a :: st) σ r σ' := ev_astore_n (o := some a) hd hn hl k
theorem ev_astoreR {r : Option Value} {n : Nat} {a : Nat} {ls' : List (Nat × Value)} (hd : decode M.2.1 pc = .ok (.astore n, 2)) (hn : n < M.2.2.1) (hl : (n, Value.ref a) :: ls.filter (fun q => !(q.1 == n) && !(q.1 + 1 == n && q.2.category == 2)) = ls') (k : Ev M d (pc + 2) ls' st σ r σ') : Ev M d pc ls (.ref a :: st) σ r σ' := ev_astore (o := some a) hd hn hl k
theorem ev_getPR {r : Option Value} {i k j a b : Nat} (hd : decode M.2.1 pc = .ok (.getfield i, 3)) (hf : FL M.1.cls i k j) (hc : fcat (kty k j) = 2) (ho : isO σ k a = true) (hv : sP σ a j = some b) (kk : Ev M d (pc + 3) ls (.ref b :: st) σ r σ') : Ev M d pc ls (.ref a :: st) σ r σ' := ev_getP (o := some b) hd hf hc ho hv kk
theorem ev_putPR {r : Option Value} {i k j a b : Nat} (hd : decode M.2.1 pc = .ok (.putfield i, 3)) (hf : FL M.1.cls i k j) (hc : fcat (kty k j) = 2) (hfin : (kT k j).2.2.2 = false ∨ (M.1.name = "<init>" ∧ (kT k j).1 = M.1.cls)) (ho : isO σ k a = true) (kk : Ev M d (pc + 3) ls st (setP σ a j (some b)) r σ') : Ev M d pc ls (.ref b :: .ref a :: st) σ r σ' := ev_putP (o := some b) hd hf hc hfin ho kk
theorem ev_newR {r : Option Value} {i k a : Nat} (hd : decode M.2.1 pc = .ok (.new i, 3)) (hK : KF k) (hlk : Cond.classLink M.1.cls i (kR k) ∈ gtbl) (hin : Cond.instantiable (kR k) (kN k) ∈ gtbl) (hini : Cond.initialized (kR k) ∈ gtbl) (ha : a = sn σ) (kk : Ev M d (pc + 3) ls (.ref a :: st) (newC σ k (kN k)) r σ') : Ev M d pc ls st σ r σ' := by subst ha; exact ev_new hd hK hlk hin hini kk
theorem ev_newaR {r : Option Value} {k a : Nat} {at' : ArrayType} {n : Int32} (hd : decode M.2.1 pc = .ok (.newarray at', 2)) (hk : k = 12 ∧ at' = .char ∨ k = 13 ∧ at' = .int ∨ k = 14 ∧ at' = .long ∨ k = 15 ∧ at' = .boolean) (hcl : Cond.arrayClass (newarray.typeOf at') ∈ gtbl) (hn : inR n 1000001 = true) (ha : a = sn σ) (kk : Ev M d (pc + 2) ls (.ref a :: st) (newC σ k n.toNatClampNeg) r σ') : Ev M d pc ls (.int n :: st) σ r σ' := by
  subst ha
  have h := inR_spec hn
  exact ev_newa hd hk hcl (fun q => h.1 (Or.inl q)) (by omega) kk
theorem ev_anewR {r : Option Value} {k ko i a : Nat} {n : Int32} (hd : decode M.2.1 pc = .ok (.anewarray i, 3)) (hk : k = 16 ∧ ko = 1 ∨ k = 17 ∧ ko = 6) (hlk : Cond.classLink M.1.cls i (kR ko) ∈ gtbl) (hn : inR n 1000001 = true) (ha : a = sn σ) (kk : Ev M d (pc + 3) ls (.ref a :: st) (newC σ k n.toNatClampNeg) r σ') : Ev M d pc ls (.int n :: st) σ r σ' := by
  subst ha
  have h := inR_spec hn
  exact ev_anew hd hk hlk (fun q => h.1 (Or.inl q)) (by omega) kk
theorem ev_aastR {r : Option Value} {k ko a v : Nat} {i : Int32} (hd : decode M.2.1 pc = .ok (.aastore, 1)) (hk : (k = 16 ∧ ko = 1) ∨ (k = 17 ∧ ko = 6)) (ha : 1 ≤ a) (ho : isA σ k a = true) (hi : inR i (alen σ a) = true) (hv : isO σ ko v = true) (kk : Ev M d (pc + 1) ls st (setP σ a i.toNatClampNeg (some v)) r σ') : Ev M d pc ls (.ref v :: .int i :: .ref a :: st) σ r σ' := ev_aast hd hk ha ho hi hv kk
theorem ev_retI {x r : Int32} (ty : FieldType) (hd : decode M.2.1 pc = .ok (.ireturn, 1)) (hM : M.2.2.2 = some ty) (hn : narrow ty (.int x) = .int x) (h : some (x, σ) = some (r, σ')) : Ev M d pc ls [.int x] σ (some (.int r)) σ' := by
  injection h with h; injection h with h1 h2; subst h1; subst h2
  exact ev_ret (r := some (.int x)) hd ⟨ty, hM, hn⟩
theorem ev_retL {x r : Int64} (hd : decode M.2.1 pc = .ok (.lreturn, 1)) (hM : M.2.2.2 = some .long) (h : some (x, σ) = some (r, σ')) : Ev M d pc ls [.long x] σ (some (.long r)) σ' := by
  injection h with h; injection h with h1 h2; subst h1; subst h2
  exact ev_ret (r := some (.long x)) hd hM
theorem ev_retV {r : Unit} (hd : decode M.2.1 pc = .ok (.return_, 1)) (hM : M.2.2.2 = none) (h : some ((), σ) = some (r, σ')) : Ev M d pc ls [] σ none σ' := by
  injection h with h; injection h with h1 h2; subst h2
  exact ev_ret (r := none) hd hM
theorem ev_retQ {x r : Option Nat} (ty : FieldType) (hd : decode M.2.1 pc = .ok (.areturn, 1)) (hM : M.2.2.2 = some ty) (hty : (∃ n, ty = .object n) ∨ ∃ t, ty = .array t) (h : some (x, σ) = some (r, σ')) : Ev M d pc ls [va_rf x] σ (some (va_rf r)) σ' := by
  injection h with h; injection h with h1 h2; subst h1; subst h2
  cases x with
  | none => exact ev_ret (r := some .null) hd ⟨⟨ty, hM, hty⟩, Or.inl rfl⟩
  | some a => exact ev_ret (r := some (.ref a)) hd ⟨⟨ty, hM, hty⟩, Or.inr ⟨a, rfl⟩⟩
theorem nz_of {x : Int32} (h : zok x = true) : narrow .boolean (.int x) = .int x ∧ fits .boolean (.int x) = true ∧ vp_nar .boolean x = x := by
  simp only [zok, Bool.or_eq_true, decide_eq_true_eq] at h
  rcases h with rfl | rfl <;> exact ⟨rfl, rfl, rfl⟩
theorem nc_of {x : Int32} (h : chok x = true) : narrow .char (.int x) = .int x := by
  simp only [chok, decide_eq_true_eq] at h
  show Value.int _ = _
  exact congrArg Value.int h
theorem ev_invVi {r : Option Value} {k b : Nat} {v : Int32} (hd : decode M.2.1 pc = .ok (.invokevirtual i, 3)) (hb : CalB M2 n) (hlk : Cond.methodLink M.1.cls i M2.1 ∈ gtbl) (hin : Cond.instanceMethod M2.1 ∈ gtbl) (hsel : Cond.selects M2.1.cls M2.1 M2.1 ∈ gtbl) (hK : KF k) (hkc : kR k = M2.1.cls) (hdd : d2 + 1 ≤ d)
    (ho : isO σ k b = true) (hn : As.length = n) (hst : st0 = As.reverse ++ .ref b :: st) (hw : (st.map fun v => v.category).sum ≤ 8) (hx : Ex M2 d2 (.ref b :: As) σ (some (.int v)) σ1) (kk : Ev M d (pc + 3) ls ((.int v) :: st) σ1 r σ') : Ev M d pc ls st0 σ r σ' := ev_invV hd hb hlk hin hsel hK hkc hdd ho hn hst hw hx kk
theorem ev_invSi {r : Option Value} {v : Int32} (hd : decode M.2.1 pc = .ok (.invokestatic i, 3)) (hb : CalB M2 n) (hlk : Cond.methodLink M.1.cls i M2.1 ∈ gtbl) (hin : Cond.static M2.1 ∈ gtbl) (hdd : d2 + 1 ≤ d)
    (hn : As.length = n) (hst : st0 = As.reverse ++ st) (hw : (st.map fun v => v.category).sum ≤ 8) (hx : Ex M2 d2 As σ (some (.int v)) σ1) (kk : Ev M d (pc + 3) ls ((.int v) :: st) σ1 r σ') : Ev M d pc ls st0 σ r σ' := ev_invS hd hb hlk hin hdd hn hst hw hx kk
theorem ev_invSNi {r : Option Value} {host : String} {v : Int32} (hd : decode M.2.1 pc = .ok (.invokestatic i, 3)) (hb : CalB M2 n) (hlk : Cond.methodLinkNest M.1.cls i M2.1 host ∈ nests) (hin : Cond.static M2.1 ∈ gtbl) (hdd : d2 + 1 ≤ d)
    (hn : As.length = n) (hst : st0 = As.reverse ++ st) (hw : (st.map fun v => v.category).sum ≤ 8) (hx : Ex M2 d2 As σ (some (.int v)) σ1) (kk : Ev M d (pc + 3) ls ((.int v) :: st) σ1 r σ') : Ev M d pc ls st0 σ r σ' := ev_invSN hd hb hlk hin hdd hn hst hw hx kk
theorem ev_invVl {r : Option Value} {k b : Nat} {v : Int64} (hd : decode M.2.1 pc = .ok (.invokevirtual i, 3)) (hb : CalB M2 n) (hlk : Cond.methodLink M.1.cls i M2.1 ∈ gtbl) (hin : Cond.instanceMethod M2.1 ∈ gtbl) (hsel : Cond.selects M2.1.cls M2.1 M2.1 ∈ gtbl) (hK : KF k) (hkc : kR k = M2.1.cls) (hdd : d2 + 1 ≤ d)
    (ho : isO σ k b = true) (hn : As.length = n) (hst : st0 = As.reverse ++ .ref b :: st) (hw : (st.map fun v => v.category).sum ≤ 8) (hx : Ex M2 d2 (.ref b :: As) σ (some (.long v)) σ1) (kk : Ev M d (pc + 3) ls ((.long v) :: st) σ1 r σ') : Ev M d pc ls st0 σ r σ' := ev_invV hd hb hlk hin hsel hK hkc hdd ho hn hst hw hx kk
theorem ev_invSl {r : Option Value} {v : Int64} (hd : decode M.2.1 pc = .ok (.invokestatic i, 3)) (hb : CalB M2 n) (hlk : Cond.methodLink M.1.cls i M2.1 ∈ gtbl) (hin : Cond.static M2.1 ∈ gtbl) (hdd : d2 + 1 ≤ d)
    (hn : As.length = n) (hst : st0 = As.reverse ++ st) (hw : (st.map fun v => v.category).sum ≤ 8) (hx : Ex M2 d2 As σ (some (.long v)) σ1) (kk : Ev M d (pc + 3) ls ((.long v) :: st) σ1 r σ') : Ev M d pc ls st0 σ r σ' := ev_invS hd hb hlk hin hdd hn hst hw hx kk
theorem ev_invSNl {r : Option Value} {host : String} {v : Int64} (hd : decode M.2.1 pc = .ok (.invokestatic i, 3)) (hb : CalB M2 n) (hlk : Cond.methodLinkNest M.1.cls i M2.1 host ∈ nests) (hin : Cond.static M2.1 ∈ gtbl) (hdd : d2 + 1 ≤ d)
    (hn : As.length = n) (hst : st0 = As.reverse ++ st) (hw : (st.map fun v => v.category).sum ≤ 8) (hx : Ex M2 d2 As σ (some (.long v)) σ1) (kk : Ev M d (pc + 3) ls ((.long v) :: st) σ1 r σ') : Ev M d pc ls st0 σ r σ' := ev_invSN hd hb hlk hin hdd hn hst hw hx kk
theorem ev_invVq {r : Option Value} {k b : Nat} {v : Option Nat} (hd : decode M.2.1 pc = .ok (.invokevirtual i, 3)) (hb : CalB M2 n) (hlk : Cond.methodLink M.1.cls i M2.1 ∈ gtbl) (hin : Cond.instanceMethod M2.1 ∈ gtbl) (hsel : Cond.selects M2.1.cls M2.1 M2.1 ∈ gtbl) (hK : KF k) (hkc : kR k = M2.1.cls) (hdd : d2 + 1 ≤ d)
    (ho : isO σ k b = true) (hn : As.length = n) (hst : st0 = As.reverse ++ .ref b :: st) (hw : (st.map fun v => v.category).sum ≤ 8) (hx : Ex M2 d2 (.ref b :: As) σ (some (va_rf v)) σ1) (kk : Ev M d (pc + 3) ls ((va_rf v) :: st) σ1 r σ') : Ev M d pc ls st0 σ r σ' := ev_invV hd hb hlk hin hsel hK hkc hdd ho hn hst hw hx kk
theorem ev_invSq {r : Option Value} {v : Option Nat} (hd : decode M.2.1 pc = .ok (.invokestatic i, 3)) (hb : CalB M2 n) (hlk : Cond.methodLink M.1.cls i M2.1 ∈ gtbl) (hin : Cond.static M2.1 ∈ gtbl) (hdd : d2 + 1 ≤ d)
    (hn : As.length = n) (hst : st0 = As.reverse ++ st) (hw : (st.map fun v => v.category).sum ≤ 8) (hx : Ex M2 d2 As σ (some (va_rf v)) σ1) (kk : Ev M d (pc + 3) ls ((va_rf v) :: st) σ1 r σ') : Ev M d pc ls st0 σ r σ' := ev_invS hd hb hlk hin hdd hn hst hw hx kk
theorem ev_invSNq {r : Option Value} {host : String} {v : Option Nat} (hd : decode M.2.1 pc = .ok (.invokestatic i, 3)) (hb : CalB M2 n) (hlk : Cond.methodLinkNest M.1.cls i M2.1 host ∈ nests) (hin : Cond.static M2.1 ∈ gtbl) (hdd : d2 + 1 ≤ d)
    (hn : As.length = n) (hst : st0 = As.reverse ++ st) (hw : (st.map fun v => v.category).sum ≤ 8) (hx : Ex M2 d2 As σ (some (va_rf v)) σ1) (kk : Ev M d (pc + 3) ls ((va_rf v) :: st) σ1 r σ') : Ev M d pc ls st0 σ r σ' := ev_invSN hd hb hlk hin hdd hn hst hw hx kk
theorem ev_invVv {r : Option Value} {k b : Nat}  (hd : decode M.2.1 pc = .ok (.invokevirtual i, 3)) (hb : CalB M2 n) (hlk : Cond.methodLink M.1.cls i M2.1 ∈ gtbl) (hin : Cond.instanceMethod M2.1 ∈ gtbl) (hsel : Cond.selects M2.1.cls M2.1 M2.1 ∈ gtbl) (hK : KF k) (hkc : kR k = M2.1.cls) (hdd : d2 + 1 ≤ d)
    (ho : isO σ k b = true) (hn : As.length = n) (hst : st0 = As.reverse ++ .ref b :: st) (hw : (st.map fun v => v.category).sum ≤ 8) (hx : Ex M2 d2 (.ref b :: As) σ none σ1) (kk : Ev M d (pc + 3) ls st σ1 r σ') : Ev M d pc ls st0 σ r σ' := ev_invV hd hb hlk hin hsel hK hkc hdd ho hn hst hw hx kk
theorem ev_invSv {r : Option Value}  (hd : decode M.2.1 pc = .ok (.invokestatic i, 3)) (hb : CalB M2 n) (hlk : Cond.methodLink M.1.cls i M2.1 ∈ gtbl) (hin : Cond.static M2.1 ∈ gtbl) (hdd : d2 + 1 ≤ d)
    (hn : As.length = n) (hst : st0 = As.reverse ++ st) (hw : (st.map fun v => v.category).sum ≤ 8) (hx : Ex M2 d2 As σ none σ1) (kk : Ev M d (pc + 3) ls st σ1 r σ') : Ev M d pc ls st0 σ r σ' := ev_invS hd hb hlk hin hdd hn hst hw hx kk
theorem ev_invSNv {r : Option Value} {host : String}  (hd : decode M.2.1 pc = .ok (.invokestatic i, 3)) (hb : CalB M2 n) (hlk : Cond.methodLinkNest M.1.cls i M2.1 host ∈ nests) (hin : Cond.static M2.1 ∈ gtbl) (hdd : d2 + 1 ≤ d)
    (hn : As.length = n) (hst : st0 = As.reverse ++ st) (hw : (st.map fun v => v.category).sum ≤ 8) (hx : Ex M2 d2 As σ none σ1) (kk : Ev M d (pc + 3) ls st σ1 r σ') : Ev M d pc ls st0 σ r σ' := ev_invSN hd hb hlk hin hdd hn hst hw hx kk
end EVW
end
