/-- a private method of a class that the tables say can be made, by its rows of tables_1 -/
def lw_okq (q : MethodName × Nat) : Prop := (q.1.cls ≠ "java/lang/invoke/MethodHandle" ∧ q.1.cls ≠ "java/lang/invoke/VarHandle") ∧ Cond.instantiable q.1.cls q.2 ∈ tables_1 ∧ Cond.privateMethod q.1 ∈ tables_1 ∧ Cond.instanceMethod q.1 ∈ tables_1
theorem lw_p0 : lw_okq (⟨"OnceProver", "readText", "(Z)LOnceProver$Item;"⟩, 12) := ⟨⟨by decide +kernel, by decide +kernel⟩, List.mem_of_getElem? (i := 15) (by decide +kernel), List.mem_of_getElem? (i := 238) (by decide +kernel), List.mem_of_getElem? (i := 239) (by decide +kernel)⟩
theorem lw_p1 : lw_okq (⟨"OnceProver$Reader", "readOffer", "(II)V"⟩, 4) := ⟨⟨by decide +kernel, by decide +kernel⟩, List.mem_of_getElem? (i := 256) (by decide +kernel), List.mem_of_getElem? (i := 279) (by decide +kernel), List.mem_of_getElem? (i := 280) (by decide +kernel)⟩
theorem lw_p2 : lw_okq (⟨"OnceProver$Reader", "readFace", "(III)V"⟩, 4) := ⟨⟨by decide +kernel, by decide +kernel⟩, List.mem_of_getElem? (i := 256) (by decide +kernel), List.mem_of_getElem? (i := 283) (by decide +kernel), List.mem_of_getElem? (i := 284) (by decide +kernel)⟩
theorem lw_p3 : lw_okq (⟨"OnceProver$Reader", "next", "()C"⟩, 4) := ⟨⟨by decide +kernel, by decide +kernel⟩, List.mem_of_getElem? (i := 256) (by decide +kernel), List.mem_of_getElem? (i := 287) (by decide +kernel), List.mem_of_getElem? (i := 288) (by decide +kernel)⟩
theorem lw_p4 : lw_okq (⟨"OnceProver$Reader", "refuse", "()I"⟩, 4) := ⟨⟨by decide +kernel, by decide +kernel⟩, List.mem_of_getElem? (i := 256) (by decide +kernel), List.mem_of_getElem? (i := 294) (by decide +kernel), List.mem_of_getElem? (i := 295) (by decide +kernel)⟩
theorem lw_p5 : lw_okq (⟨"OnceProver$Reader", "readGoal", "(I)I"⟩, 4) := ⟨⟨by decide +kernel, by decide +kernel⟩, List.mem_of_getElem? (i := 256) (by decide +kernel), List.mem_of_getElem? (i := 298) (by decide +kernel), List.mem_of_getElem? (i := 299) (by decide +kernel)⟩
theorem lw_p6 : lw_okq (⟨"OnceProver$Reader", "readPair", "(I)I"⟩, 4) := ⟨⟨by decide +kernel, by decide +kernel⟩, List.mem_of_getElem? (i := 256) (by decide +kernel), List.mem_of_getElem? (i := 306) (by decide +kernel), List.mem_of_getElem? (i := 307) (by decide +kernel)⟩
theorem lw_p7 : lw_okq (⟨"OnceProver$Reader", "expect", "(C)V"⟩, 4) := ⟨⟨by decide +kernel, by decide +kernel⟩, List.mem_of_getElem? (i := 256) (by decide +kernel), List.mem_of_getElem? (i := 310) (by decide +kernel), List.mem_of_getElem? (i := 311) (by decide +kernel)⟩
theorem lw_p8 : lw_okq (⟨"OnceProver$Reader", "readLoan", "(I)I"⟩, 4) := ⟨⟨by decide +kernel, by decide +kernel⟩, List.mem_of_getElem? (i := 256) (by decide +kernel), List.mem_of_getElem? (i := 314) (by decide +kernel), List.mem_of_getElem? (i := 315) (by decide +kernel)⟩
theorem lw_p9 : lw_okq (⟨"OnceProver$Reader", "refuseMore", "()V"⟩, 4) := ⟨⟨by decide +kernel, by decide +kernel⟩, List.mem_of_getElem? (i := 256) (by decide +kernel), List.mem_of_getElem? (i := 329) (by decide +kernel), List.mem_of_getElem? (i := 330) (by decide +kernel)⟩
theorem lw_p10 : lw_okq (⟨"OnceProver", "settle", "(ILOnceProver$Item;)V"⟩, 12) := ⟨⟨by decide +kernel, by decide +kernel⟩, List.mem_of_getElem? (i := 15) (by decide +kernel), List.mem_of_getElem? (i := 393) (by decide +kernel), List.mem_of_getElem? (i := 394) (by decide +kernel)⟩
theorem lw_p11 : lw_okq (⟨"OnceProver", "dropNumbered", "(III)I"⟩, 12) := ⟨⟨by decide +kernel, by decide +kernel⟩, List.mem_of_getElem? (i := 15) (by decide +kernel), List.mem_of_getElem? (i := 406) (by decide +kernel), List.mem_of_getElem? (i := 407) (by decide +kernel)⟩
theorem lw_p12 : lw_okq (⟨"OnceProver", "dropGoal", "()I"⟩, 12) := ⟨⟨by decide +kernel, by decide +kernel⟩, List.mem_of_getElem? (i := 15) (by decide +kernel), List.mem_of_getElem? (i := 421) (by decide +kernel), List.mem_of_getElem? (i := 422) (by decide +kernel)⟩
theorem lw_p13 : lw_okq (⟨"OnceProver", "hasGoal", "()Z"⟩, 12) := ⟨⟨by decide +kernel, by decide +kernel⟩, List.mem_of_getElem? (i := 15) (by decide +kernel), List.mem_of_getElem? (i := 425) (by decide +kernel), List.mem_of_getElem? (i := 426) (by decide +kernel)⟩
theorem lw_p14 : lw_okq (⟨"OnceProver", "isSetOfResources", "(I)Z"⟩, 12) := ⟨⟨by decide +kernel, by decide +kernel⟩, List.mem_of_getElem? (i := 15) (by decide +kernel), List.mem_of_getElem? (i := 433) (by decide +kernel), List.mem_of_getElem? (i := 434) (by decide +kernel)⟩
theorem lw_p15 : lw_okq (⟨"OnceProver", "allResources", "()I"⟩, 12) := ⟨⟨by decide +kernel, by decide +kernel⟩, List.mem_of_getElem? (i := 15) (by decide +kernel), List.mem_of_getElem? (i := 437) (by decide +kernel), List.mem_of_getElem? (i := 438) (by decide +kernel)⟩
def lw_privs_1 : List (MethodName × Nat) := [(⟨"OnceProver", "readText", "(Z)LOnceProver$Item;"⟩, 12), (⟨"OnceProver$Reader", "readOffer", "(II)V"⟩, 4), (⟨"OnceProver$Reader", "readFace", "(III)V"⟩, 4), (⟨"OnceProver$Reader", "next", "()C"⟩, 4), (⟨"OnceProver$Reader", "refuse", "()I"⟩, 4), (⟨"OnceProver$Reader", "readGoal", "(I)I"⟩, 4), (⟨"OnceProver$Reader", "readPair", "(I)I"⟩, 4), (⟨"OnceProver$Reader", "expect", "(C)V"⟩, 4), (⟨"OnceProver$Reader", "readLoan", "(I)I"⟩, 4), (⟨"OnceProver$Reader", "refuseMore", "()V"⟩, 4), (⟨"OnceProver", "settle", "(ILOnceProver$Item;)V"⟩, 12), (⟨"OnceProver", "dropNumbered", "(III)I"⟩, 12), (⟨"OnceProver", "dropGoal", "()I"⟩, 12), (⟨"OnceProver", "hasGoal", "()Z"⟩, 12), (⟨"OnceProver", "isSetOfResources", "(I)Z"⟩, 12), (⟨"OnceProver", "allResources", "()I"⟩, 12)]
theorem lw_r1 : ∀ q ∈ lw_privs_1, lw_okq q := List.forall_mem_cons.mpr ⟨lw_p0, List.forall_mem_cons.mpr ⟨lw_p1, List.forall_mem_cons.mpr ⟨lw_p2, List.forall_mem_cons.mpr ⟨lw_p3, List.forall_mem_cons.mpr ⟨lw_p4, List.forall_mem_cons.mpr ⟨lw_p5, List.forall_mem_cons.mpr ⟨lw_p6, List.forall_mem_cons.mpr ⟨lw_p7, List.forall_mem_cons.mpr ⟨lw_p8, List.forall_mem_cons.mpr ⟨lw_p9, List.forall_mem_cons.mpr ⟨lw_p10, List.forall_mem_cons.mpr ⟨lw_p11, List.forall_mem_cons.mpr ⟨lw_p12, List.forall_mem_cons.mpr ⟨lw_p13, List.forall_mem_cons.mpr ⟨lw_p14, List.forall_mem_cons.mpr ⟨lw_p15, fun _ h => absurd h List.not_mem_nil⟩⟩⟩⟩⟩⟩⟩⟩⟩⟩⟩⟩⟩⟩⟩⟩
theorem lw_p16 : lw_okq (⟨"OnceProver", "prepare", "()V"⟩, 12) := ⟨⟨by decide +kernel, by decide +kernel⟩, List.mem_of_getElem? (i := 15) (by decide +kernel), List.mem_of_getElem? (i := 441) (by decide +kernel), List.mem_of_getElem? (i := 442) (by decide +kernel)⟩
theorem lw_p17 : lw_okq (⟨"OnceProver$Reach", "findAllSets", "()V"⟩, 5) := ⟨⟨by decide +kernel, by decide +kernel⟩, List.mem_of_getElem? (i := 82) (by decide +kernel), List.mem_of_getElem? (i := 463) (by decide +kernel), List.mem_of_getElem? (i := 464) (by decide +kernel)⟩
theorem lw_p18 : lw_okq (⟨"OnceProver$Reach", "fillRow", "(II)V"⟩, 5) := ⟨⟨by decide +kernel, by decide +kernel⟩, List.mem_of_getElem? (i := 82) (by decide +kernel), List.mem_of_getElem? (i := 472) (by decide +kernel), List.mem_of_getElem? (i := 473) (by decide +kernel)⟩
theorem lw_p19 : lw_okq (⟨"OnceProver$Plan", "isNode", "(I)Z"⟩, 8) := ⟨⟨by decide +kernel, by decide +kernel⟩, List.mem_of_getElem? (i := 50) (by decide +kernel), List.mem_of_getElem? (i := 483) (by decide +kernel), List.mem_of_getElem? (i := 484) (by decide +kernel)⟩
theorem lw_p20 : lw_okq (⟨"OnceProver$Reach", "clearRow", "(I)V"⟩, 5) := ⟨⟨by decide +kernel, by decide +kernel⟩, List.mem_of_getElem? (i := 82) (by decide +kernel), List.mem_of_getElem? (i := 491) (by decide +kernel), List.mem_of_getElem? (i := 492) (by decide +kernel)⟩
theorem lw_p21 : lw_okq (⟨"OnceProver$Reach", "add", "(II)V"⟩, 5) := ⟨⟨by decide +kernel, by decide +kernel⟩, List.mem_of_getElem? (i := 82) (by decide +kernel), List.mem_of_getElem? (i := 499) (by decide +kernel), List.mem_of_getElem? (i := 500) (by decide +kernel)⟩
theorem lw_p22 : lw_okq (⟨"OnceProver$Reach", "orWord", "(IIJ)V"⟩, 5) := ⟨⟨by decide +kernel, by decide +kernel⟩, List.mem_of_getElem? (i := 82) (by decide +kernel), List.mem_of_getElem? (i := 503) (by decide +kernel), List.mem_of_getElem? (i := 504) (by decide +kernel)⟩
theorem lw_p23 : lw_okq (⟨"OnceProver$Reach", "addAllSets", "(I)V"⟩, 5) := ⟨⟨by decide +kernel, by decide +kernel⟩, List.mem_of_getElem? (i := 82) (by decide +kernel), List.mem_of_getElem? (i := 507) (by decide +kernel), List.mem_of_getElem? (i := 508) (by decide +kernel)⟩
theorem lw_p24 : lw_okq (⟨"OnceProver$Reach", "has", "(II)Z"⟩, 5) := ⟨⟨by decide +kernel, by decide +kernel⟩, List.mem_of_getElem? (i := 82) (by decide +kernel), List.mem_of_getElem? (i := 511) (by decide +kernel), List.mem_of_getElem? (i := 512) (by decide +kernel)⟩
theorem lw_p25 : lw_okq (⟨"OnceProver$Reach", "wordAt", "(II)J"⟩, 5) := ⟨⟨by decide +kernel, by decide +kernel⟩, List.mem_of_getElem? (i := 82) (by decide +kernel), List.mem_of_getElem? (i := 515) (by decide +kernel), List.mem_of_getElem? (i := 516) (by decide +kernel)⟩
theorem lw_p26 : lw_okq (⟨"OnceProver$Reach", "addUnions", "(III)V"⟩, 5) := ⟨⟨by decide +kernel, by decide +kernel⟩, List.mem_of_getElem? (i := 82) (by decide +kernel), List.mem_of_getElem? (i := 519) (by decide +kernel), List.mem_of_getElem? (i := 520) (by decide +kernel)⟩
theorem lw_p27 : lw_okq (⟨"OnceProver$Reach", "addMoved", "(III)V"⟩, 5) := ⟨⟨by decide +kernel, by decide +kernel⟩, List.mem_of_getElem? (i := 82) (by decide +kernel), List.mem_of_getElem? (i := 523) (by decide +kernel), List.mem_of_getElem? (i := 524) (by decide +kernel)⟩
theorem lw_p28 : lw_okq (⟨"OnceProver$Reach", "addShared", "(III)V"⟩, 5) := ⟨⟨by decide +kernel, by decide +kernel⟩, List.mem_of_getElem? (i := 82) (by decide +kernel), List.mem_of_getElem? (i := 527) (by decide +kernel), List.mem_of_getElem? (i := 528) (by decide +kernel)⟩
theorem lw_p29 : lw_okq (⟨"OnceProver$Reach", "addReduced", "(III)V"⟩, 5) := ⟨⟨by decide +kernel, by decide +kernel⟩, List.mem_of_getElem? (i := 82) (by decide +kernel), List.mem_of_getElem? (i := 536) (by decide +kernel), List.mem_of_getElem? (i := 537) (by decide +kernel)⟩
theorem lw_p30 : lw_okq (⟨"OnceProver$Reach", "addAtom", "(ICI)V"⟩, 5) := ⟨⟨by decide +kernel, by decide +kernel⟩, List.mem_of_getElem? (i := 82) (by decide +kernel), List.mem_of_getElem? (i := 540) (by decide +kernel), List.mem_of_getElem? (i := 541) (by decide +kernel)⟩
theorem lw_p31 : lw_okq (⟨"OnceProver$Reach", "hasGrown", "(II)Z"⟩, 5) := ⟨⟨by decide +kernel, by decide +kernel⟩, List.mem_of_getElem? (i := 82) (by decide +kernel), List.mem_of_getElem? (i := 552) (by decide +kernel), List.mem_of_getElem? (i := 553) (by decide +kernel)⟩
def lw_privs_2 : List (MethodName × Nat) := [(⟨"OnceProver", "prepare", "()V"⟩, 12), (⟨"OnceProver$Reach", "findAllSets", "()V"⟩, 5), (⟨"OnceProver$Reach", "fillRow", "(II)V"⟩, 5), (⟨"OnceProver$Plan", "isNode", "(I)Z"⟩, 8), (⟨"OnceProver$Reach", "clearRow", "(I)V"⟩, 5), (⟨"OnceProver$Reach", "add", "(II)V"⟩, 5), (⟨"OnceProver$Reach", "orWord", "(IIJ)V"⟩, 5), (⟨"OnceProver$Reach", "addAllSets", "(I)V"⟩, 5), (⟨"OnceProver$Reach", "has", "(II)Z"⟩, 5), (⟨"OnceProver$Reach", "wordAt", "(II)J"⟩, 5), (⟨"OnceProver$Reach", "addUnions", "(III)V"⟩, 5), (⟨"OnceProver$Reach", "addMoved", "(III)V"⟩, 5), (⟨"OnceProver$Reach", "addShared", "(III)V"⟩, 5), (⟨"OnceProver$Reach", "addReduced", "(III)V"⟩, 5), (⟨"OnceProver$Reach", "addAtom", "(ICI)V"⟩, 5), (⟨"OnceProver$Reach", "hasGrown", "(II)Z"⟩, 5)]
theorem lw_r2 : ∀ q ∈ lw_privs_2, lw_okq q := List.forall_mem_cons.mpr ⟨lw_p16, List.forall_mem_cons.mpr ⟨lw_p17, List.forall_mem_cons.mpr ⟨lw_p18, List.forall_mem_cons.mpr ⟨lw_p19, List.forall_mem_cons.mpr ⟨lw_p20, List.forall_mem_cons.mpr ⟨lw_p21, List.forall_mem_cons.mpr ⟨lw_p22, List.forall_mem_cons.mpr ⟨lw_p23, List.forall_mem_cons.mpr ⟨lw_p24, List.forall_mem_cons.mpr ⟨lw_p25, List.forall_mem_cons.mpr ⟨lw_p26, List.forall_mem_cons.mpr ⟨lw_p27, List.forall_mem_cons.mpr ⟨lw_p28, List.forall_mem_cons.mpr ⟨lw_p29, List.forall_mem_cons.mpr ⟨lw_p30, List.forall_mem_cons.mpr ⟨lw_p31, fun _ h => absurd h List.not_mem_nil⟩⟩⟩⟩⟩⟩⟩⟩⟩⟩⟩⟩⟩⟩⟩⟩
theorem lw_p32 : lw_okq (⟨"OnceProver", "isProvable", "(I)Z"⟩, 12) := ⟨⟨by decide +kernel, by decide +kernel⟩, List.mem_of_getElem? (i := 15) (by decide +kernel), List.mem_of_getElem? (i := 586) (by decide +kernel), List.mem_of_getElem? (i := 587) (by decide +kernel)⟩
theorem lw_p33 : lw_okq (⟨"OnceProver$FirstProof", "write", "(III)V"⟩, 6) := ⟨⟨by decide +kernel, by decide +kernel⟩, List.mem_of_getElem? (i := 125) (by decide +kernel), List.mem_of_getElem? (i := 604) (by decide +kernel), List.mem_of_getElem? (i := 605) (by decide +kernel)⟩
theorem lw_p34 : lw_okq (⟨"OnceProver$FirstProof", "writeSplit", "(IIII)V"⟩, 6) := ⟨⟨by decide +kernel, by decide +kernel⟩, List.mem_of_getElem? (i := 125) (by decide +kernel), List.mem_of_getElem? (i := 611) (by decide +kernel), List.mem_of_getElem? (i := 612) (by decide +kernel)⟩
theorem lw_p35 : lw_okq (⟨"OnceProver$FirstProof", "append", "(I)V"⟩, 6) := ⟨⟨by decide +kernel, by decide +kernel⟩, List.mem_of_getElem? (i := 125) (by decide +kernel), List.mem_of_getElem? (i := 619) (by decide +kernel), List.mem_of_getElem? (i := 620) (by decide +kernel)⟩
theorem lw_p36 : lw_okq (⟨"OnceProver$FirstProof", "writeChoice", "(IIII)V"⟩, 6) := ⟨⟨by decide +kernel, by decide +kernel⟩, List.mem_of_getElem? (i := 125) (by decide +kernel), List.mem_of_getElem? (i := 626) (by decide +kernel), List.mem_of_getElem? (i := 627) (by decide +kernel)⟩
theorem lw_p37 : lw_okq (⟨"OnceProver$FirstProof", "writeAtom", "(CII)V"⟩, 6) := ⟨⟨by decide +kernel, by decide +kernel⟩, List.mem_of_getElem? (i := 125) (by decide +kernel), List.mem_of_getElem? (i := 631) (by decide +kernel), List.mem_of_getElem? (i := 632) (by decide +kernel)⟩
theorem lw_p38 : lw_okq (⟨"OnceProver$FirstProof", "serves", "(III)Z"⟩, 6) := ⟨⟨by decide +kernel, by decide +kernel⟩, List.mem_of_getElem? (i := 125) (by decide +kernel), List.mem_of_getElem? (i := 640) (by decide +kernel), List.mem_of_getElem? (i := 641) (by decide +kernel)⟩
theorem lw_p39 : lw_okq (⟨"OnceProver$Judge", "visit", "(III)V"⟩, 5) := ⟨⟨by decide +kernel, by decide +kernel⟩, List.mem_of_getElem? (i := 163) (by decide +kernel), List.mem_of_getElem? (i := 684) (by decide +kernel), List.mem_of_getElem? (i := 685) (by decide +kernel)⟩
theorem lw_p40 : lw_okq (⟨"OnceProver$Judge", "demandEmpty", "(I)V"⟩, 5) := ⟨⟨by decide +kernel, by decide +kernel⟩, List.mem_of_getElem? (i := 163) (by decide +kernel), List.mem_of_getElem? (i := 690) (by decide +kernel), List.mem_of_getElem? (i := 691) (by decide +kernel)⟩
theorem lw_p41 : lw_okq (⟨"OnceProver$Judge", "visitSplit", "(III)V"⟩, 5) := ⟨⟨by decide +kernel, by decide +kernel⟩, List.mem_of_getElem? (i := 163) (by decide +kernel), List.mem_of_getElem? (i := 695) (by decide +kernel), List.mem_of_getElem? (i := 696) (by decide +kernel)⟩
theorem lw_p42 : lw_okq (⟨"OnceProver$Judge", "lacksNumber", "()Z"⟩, 5) := ⟨⟨by decide +kernel, by decide +kernel⟩, List.mem_of_getElem? (i := 163) (by decide +kernel), List.mem_of_getElem? (i := 703) (by decide +kernel), List.mem_of_getElem? (i := 704) (by decide +kernel)⟩
theorem lw_p43 : lw_okq (⟨"OnceProver$Judge", "refuseUnless", "(Z)Z"⟩, 5) := ⟨⟨by decide +kernel, by decide +kernel⟩, List.mem_of_getElem? (i := 163) (by decide +kernel), List.mem_of_getElem? (i := 708) (by decide +kernel), List.mem_of_getElem? (i := 709) (by decide +kernel)⟩
theorem lw_p44 : lw_okq (⟨"OnceProver$Judge", "visitChoice", "(III)V"⟩, 5) := ⟨⟨by decide +kernel, by decide +kernel⟩, List.mem_of_getElem? (i := 163) (by decide +kernel), List.mem_of_getElem? (i := 713) (by decide +kernel), List.mem_of_getElem? (i := 714) (by decide +kernel)⟩
theorem lw_p45 : lw_okq (⟨"OnceProver$Judge", "visitLoan", "(III)V"⟩, 5) := ⟨⟨by decide +kernel, by decide +kernel⟩, List.mem_of_getElem? (i := 163) (by decide +kernel), List.mem_of_getElem? (i := 717) (by decide +kernel), List.mem_of_getElem? (i := 718) (by decide +kernel)⟩
theorem lw_p46 : lw_okq (⟨"OnceProver$Judge", "visitAtom", "(CII)V"⟩, 5) := ⟨⟨by decide +kernel, by decide +kernel⟩, List.mem_of_getElem? (i := 163) (by decide +kernel), List.mem_of_getElem? (i := 722) (by decide +kernel), List.mem_of_getElem? (i := 723) (by decide +kernel)⟩
theorem lw_p47 : lw_okq (⟨"OnceProver", "savedPlaces", "()I"⟩, 12) := ⟨⟨by decide +kernel, by decide +kernel⟩, List.mem_of_getElem? (i := 15) (by decide +kernel), List.mem_of_getElem? (i := 750) (by decide +kernel), List.mem_of_getElem? (i := 751) (by decide +kernel)⟩
def lw_privs_3 : List (MethodName × Nat) := [(⟨"OnceProver", "isProvable", "(I)Z"⟩, 12), (⟨"OnceProver$FirstProof", "write", "(III)V"⟩, 6), (⟨"OnceProver$FirstProof", "writeSplit", "(IIII)V"⟩, 6), (⟨"OnceProver$FirstProof", "append", "(I)V"⟩, 6), (⟨"OnceProver$FirstProof", "writeChoice", "(IIII)V"⟩, 6), (⟨"OnceProver$FirstProof", "writeAtom", "(CII)V"⟩, 6), (⟨"OnceProver$FirstProof", "serves", "(III)Z"⟩, 6), (⟨"OnceProver$Judge", "visit", "(III)V"⟩, 5), (⟨"OnceProver$Judge", "demandEmpty", "(I)V"⟩, 5), (⟨"OnceProver$Judge", "visitSplit", "(III)V"⟩, 5), (⟨"OnceProver$Judge", "lacksNumber", "()Z"⟩, 5), (⟨"OnceProver$Judge", "refuseUnless", "(Z)Z"⟩, 5), (⟨"OnceProver$Judge", "visitChoice", "(III)V"⟩, 5), (⟨"OnceProver$Judge", "visitLoan", "(III)V"⟩, 5), (⟨"OnceProver$Judge", "visitAtom", "(CII)V"⟩, 5), (⟨"OnceProver", "savedPlaces", "()I"⟩, 12)]
theorem lw_r3 : ∀ q ∈ lw_privs_3, lw_okq q := List.forall_mem_cons.mpr ⟨lw_p32, List.forall_mem_cons.mpr ⟨lw_p33, List.forall_mem_cons.mpr ⟨lw_p34, List.forall_mem_cons.mpr ⟨lw_p35, List.forall_mem_cons.mpr ⟨lw_p36, List.forall_mem_cons.mpr ⟨lw_p37, List.forall_mem_cons.mpr ⟨lw_p38, List.forall_mem_cons.mpr ⟨lw_p39, List.forall_mem_cons.mpr ⟨lw_p40, List.forall_mem_cons.mpr ⟨lw_p41, List.forall_mem_cons.mpr ⟨lw_p42, List.forall_mem_cons.mpr ⟨lw_p43, List.forall_mem_cons.mpr ⟨lw_p44, List.forall_mem_cons.mpr ⟨lw_p45, List.forall_mem_cons.mpr ⟨lw_p46, List.forall_mem_cons.mpr ⟨lw_p47, fun _ h => absurd h List.not_mem_nil⟩⟩⟩⟩⟩⟩⟩⟩⟩⟩⟩⟩⟩⟩⟩⟩
theorem lw_p48 : lw_okq (⟨"OnceProver", "takeOffer", "(II)I"⟩, 12) := ⟨⟨by decide +kernel, by decide +kernel⟩, List.mem_of_getElem? (i := 15) (by decide +kernel), List.mem_of_getElem? (i := 782) (by decide +kernel), List.mem_of_getElem? (i := 783) (by decide +kernel)⟩
theorem lw_p49 : lw_okq (⟨"OnceProver$Ways", "tally", "(III)J"⟩, 4) := ⟨⟨by decide +kernel, by decide +kernel⟩, List.mem_of_getElem? (i := 105) (by decide +kernel), List.mem_of_getElem? (i := 806) (by decide +kernel), List.mem_of_getElem? (i := 807) (by decide +kernel)⟩
theorem lw_p50 : lw_okq (⟨"OnceProver$Ways", "tallyByKind", "(III)J"⟩, 4) := ⟨⟨by decide +kernel, by decide +kernel⟩, List.mem_of_getElem? (i := 105) (by decide +kernel), List.mem_of_getElem? (i := 811) (by decide +kernel), List.mem_of_getElem? (i := 812) (by decide +kernel)⟩
theorem lw_p51 : lw_okq (⟨"OnceProver$Ways", "tallySplits", "(IIII)J"⟩, 4) := ⟨⟨by decide +kernel, by decide +kernel⟩, List.mem_of_getElem? (i := 105) (by decide +kernel), List.mem_of_getElem? (i := 818) (by decide +kernel), List.mem_of_getElem? (i := 819) (by decide +kernel)⟩
theorem lw_p52 : lw_okq (⟨"OnceProver$Ways", "tallyAtom", "(CII)J"⟩, 4) := ⟨⟨by decide +kernel, by decide +kernel⟩, List.mem_of_getElem? (i := 105) (by decide +kernel), List.mem_of_getElem? (i := 832) (by decide +kernel), List.mem_of_getElem? (i := 833) (by decide +kernel)⟩
theorem lw_p53 : lw_okq (⟨"OnceProver$Ways", "tallyFace", "(III)J"⟩, 4) := ⟨⟨by decide +kernel, by decide +kernel⟩, List.mem_of_getElem? (i := 105) (by decide +kernel), List.mem_of_getElem? (i := 839) (by decide +kernel), List.mem_of_getElem? (i := 840) (by decide +kernel)⟩
def lw_privs_4 : List (MethodName × Nat) := [(⟨"OnceProver", "takeOffer", "(II)I"⟩, 12), (⟨"OnceProver$Ways", "tally", "(III)J"⟩, 4), (⟨"OnceProver$Ways", "tallyByKind", "(III)J"⟩, 4), (⟨"OnceProver$Ways", "tallySplits", "(IIII)J"⟩, 4), (⟨"OnceProver$Ways", "tallyAtom", "(CII)J"⟩, 4), (⟨"OnceProver$Ways", "tallyFace", "(III)J"⟩, 4)]
theorem lw_r4 : ∀ q ∈ lw_privs_4, lw_okq q := List.forall_mem_cons.mpr ⟨lw_p48, List.forall_mem_cons.mpr ⟨lw_p49, List.forall_mem_cons.mpr ⟨lw_p50, List.forall_mem_cons.mpr ⟨lw_p51, List.forall_mem_cons.mpr ⟨lw_p52, List.forall_mem_cons.mpr ⟨lw_p53, fun _ h => absurd h List.not_mem_nil⟩⟩⟩⟩⟩⟩
def lw_privs : List (MethodName × Nat) := lw_privs_1 ++ (lw_privs_2 ++ (lw_privs_3 ++ (lw_privs_4)))
def lw_tbl : List Cond := k2_sels lw_privs ++ tables_1
theorem lw_privs_ok : ∀ q ∈ lw_privs, lw_okq q := by
  show ∀ q ∈ lw_privs_1 ++ (lw_privs_2 ++ (lw_privs_3 ++ (lw_privs_4))), lw_okq q
  exact List.forall_mem_append.mpr ⟨lw_r1, List.forall_mem_append.mpr ⟨lw_r2, List.forall_mem_append.mpr ⟨lw_r3, lw_r4⟩⟩⟩
def RX0 : String := "OnceProver$FirstProof"
def TX0 : u_T := fun k => match k with
  | 0 => ("OnceProver$FirstProof", "plan", "LOnceProver$Plan;", true)
  | 1 => ("OnceProver$FirstProof", "reach", "LOnceProver$Reach;", true)
  | 2 => ("OnceProver$FirstProof", "code", "[I", true)
  | 3 => ("OnceProver$FirstProof", "length", "I", false)
  | 4 => ("OnceProver$FirstProof", "exists", "Z", false)
  | _ => ("OnceProver$FirstProof", "found", "Z", false)
def tyX0 : Nat → FieldType := fun k => match k with
  | 0 => .object "OnceProver$Plan"
  | 1 => .object "OnceProver$Reach"
  | 2 => .array .int
  | 3 => .int
  | 4 => .boolean
  | _ => .boolean
abbrev wsX00 : List Cond := u_ws RX0 TX0 6
theorem nmX0 : ∀ a, a < 6 → ∀ b, b < 6 → a ≠ b → (TX0 a).2.1 ≠ (TX0 b).2.1 := by decide +kernel
theorem tyX0_ok : ∀ k, k < 6 → parseFieldDescriptor (TX0 k).2.2.1 = some (tyX0 k) := by decide +kernel
abbrev cX0_init : ByteArray := prog_2_method_1_code
def yX0_init : MethodName := ⟨RX0, "<init>", "(LOnceProver$Plan;LOnceProver$Reach;)V"⟩
abbrev cX0_forget : ByteArray := prog_2_method_2_code
def yX0_forget : MethodName := ⟨RX0, "forget", "()V"⟩
abbrev cX0_find : ByteArray := prog_2_method_3_code
def yX0_find : MethodName := ⟨RX0, "find", "(I)V"⟩
abbrev cX0_exists : ByteArray := prog_2_method_4_code
def yX0_exists : MethodName := ⟨RX0, "exists", "()Z"⟩
abbrev cX0_length : ByteArray := prog_2_method_5_code
def yX0_length : MethodName := ⟨RX0, "length", "()I"⟩
abbrev cX0_at : ByteArray := prog_2_method_6_code
def yX0_at : MethodName := ⟨RX0, "at", "(I)I"⟩
abbrev cX0_usesOf : ByteArray := prog_2_method_7_code
def yX0_usesOf : MethodName := ⟨RX0, "usesOf", "(I)I"⟩
abbrev cX0_write : ByteArray := prog_2_method_8_code
def yX0_write : MethodName := ⟨RX0, "write", "(III)V"⟩
abbrev cX0_writeSplit : ByteArray := prog_2_method_9_code
def yX0_writeSplit : MethodName := ⟨RX0, "writeSplit", "(IIII)V"⟩
abbrev cX0_writeChoice : ByteArray := prog_2_method_10_code
def yX0_writeChoice : MethodName := ⟨RX0, "writeChoice", "(IIII)V"⟩
abbrev cX0_writeAtom : ByteArray := prog_2_method_11_code
def yX0_writeAtom : MethodName := ⟨RX0, "writeAtom", "(CII)V"⟩
abbrev cX0_serves : ByteArray := prog_2_method_12_code
def yX0_serves : MethodName := ⟨RX0, "serves", "(III)Z"⟩
abbrev cX0_append : ByteArray := prog_2_method_13_code
def yX0_append : MethodName := ⟨RX0, "append", "(I)V"⟩
abbrev cX0_numberOf : ByteArray := prog_2_method_14_code
def yX0_numberOf : MethodName := ⟨RX0, "numberOf", "(II)I"⟩
def RX1 : String := "OnceProver$Item"
def TX1 : u_T := fun k => match k with
  | 0 => ("OnceProver$Item", "signs", "[C", true)
  | 1 => ("OnceProver$Item", "nodes", "I", true)
  | _ => ("OnceProver$Item", "loans", "I", true)
def tyX1 : Nat → FieldType := fun k => match k with
  | 0 => .array .char
  | 1 => .int
  | _ => .int
abbrev wsX10 : List Cond := u_ws RX1 TX1 3
theorem nmX1 : ∀ a, a < 3 → ∀ b, b < 3 → a ≠ b → (TX1 a).2.1 ≠ (TX1 b).2.1 := by decide +kernel
theorem tyX1_ok : ∀ k, k < 3 → parseFieldDescriptor (TX1 k).2.2.1 = some (tyX1 k) := by decide +kernel
abbrev cX1_init : ByteArray := prog_3_method_1_code
def yX1_init : MethodName := ⟨RX1, "<init>", "([CII)V"⟩
abbrev cX1_signs : ByteArray := prog_3_method_2_code
def yX1_signs : MethodName := ⟨RX1, "signs", "()[C"⟩
abbrev cX1_nodes : ByteArray := prog_3_method_3_code
def yX1_nodes : MethodName := ⟨RX1, "nodes", "()I"⟩
abbrev cX1_loans : ByteArray := prog_3_method_4_code
def yX1_loans : MethodName := ⟨RX1, "loans", "()I"⟩
def RX2 : String := "OnceProver$Judge"
def TX2 : u_T := fun k => match k with
  | 0 => ("OnceProver$Judge", "plan", "LOnceProver$Plan;", true)
  | 1 => ("OnceProver$Judge", "trial", "LOnceProver$Trial;", true)
  | 2 => ("OnceProver$Judge", "verdict", "I", false)
  | 3 => ("OnceProver$Judge", "used", "I", false)
  | _ => ("OnceProver$Judge", "deepest", "I", false)
def tyX2 : Nat → FieldType := fun k => match k with
  | 0 => .object "OnceProver$Plan"
  | 1 => .object "OnceProver$Trial"
  | 2 => .int
  | 3 => .int
  | _ => .int
abbrev wsX20 : List Cond := u_ws RX2 TX2 5
theorem nmX2 : ∀ a, a < 5 → ∀ b, b < 5 → a ≠ b → (TX2 a).2.1 ≠ (TX2 b).2.1 := by decide +kernel
theorem tyX2_ok : ∀ k, k < 5 → parseFieldDescriptor (TX2 k).2.2.1 = some (tyX2 k) := by decide +kernel
abbrev cX2_init : ByteArray := prog_4_method_1_code
def yX2_init : MethodName := ⟨RX2, "<init>", "(LOnceProver$Plan;LOnceProver$Trial;)V"⟩
abbrev cX2_judge : ByteArray := prog_4_method_2_code
def yX2_judge : MethodName := ⟨RX2, "judge", "(I)V"⟩
abbrev cX2_verdict : ByteArray := prog_4_method_3_code
def yX2_verdict : MethodName := ⟨RX2, "verdict", "()I"⟩
abbrev cX2_used : ByteArray := prog_4_method_4_code
def yX2_used : MethodName := ⟨RX2, "used", "()I"⟩
abbrev cX2_deepest : ByteArray := prog_4_method_5_code
def yX2_deepest : MethodName := ⟨RX2, "deepest", "()I"⟩
abbrev cX2_visit : ByteArray := prog_4_method_6_code
def yX2_visit : MethodName := ⟨RX2, "visit", "(III)V"⟩
abbrev cX2_visitSplit : ByteArray := prog_4_method_7_code
def yX2_visitSplit : MethodName := ⟨RX2, "visitSplit", "(III)V"⟩
abbrev cX2_visitChoice : ByteArray := prog_4_method_8_code
def yX2_visitChoice : MethodName := ⟨RX2, "visitChoice", "(III)V"⟩
abbrev cX2_visitLoan : ByteArray := prog_4_method_9_code
def yX2_visitLoan : MethodName := ⟨RX2, "visitLoan", "(III)V"⟩
abbrev cX2_visitAtom : ByteArray := prog_4_method_10_code
def yX2_visitAtom : MethodName := ⟨RX2, "visitAtom", "(CII)V"⟩
abbrev cX2_offerOf : ByteArray := prog_4_method_11_code
def yX2_offerOf : MethodName := ⟨RX2, "offerOf", "(I)I"⟩
abbrev cX2_lacksNumber : ByteArray := prog_4_method_12_code
def yX2_lacksNumber : MethodName := ⟨RX2, "lacksNumber", "()Z"⟩
abbrev cX2_refuseUnless : ByteArray := prog_4_method_13_code
def yX2_refuseUnless : MethodName := ⟨RX2, "refuseUnless", "(Z)Z"⟩
abbrev cX2_demandEmpty : ByteArray := prog_4_method_14_code
def yX2_demandEmpty : MethodName := ⟨RX2, "demandEmpty", "(I)V"⟩
def RX3 : String := "OnceProver$Plan"
def TX3 : u_T := fun k => match k with
  | 0 => ("OnceProver$Plan", "kinds", "[C", true)
  | 1 => ("OnceProver$Plan", "firsts", "[I", true)
  | 2 => ("OnceProver$Plan", "seconds", "[I", true)
  | 3 => ("OnceProver$Plan", "heads", "[C", true)
  | 4 => ("OnceProver$Plan", "bodies", "[I", true)
  | 5 => ("OnceProver$Plan", "nodes", "I", false)
  | 6 => ("OnceProver$Plan", "loans", "I", false)
  | _ => ("OnceProver$Plan", "root", "I", false)
def tyX3 : Nat → FieldType := fun k => match k with
  | 0 => .array .char
  | 1 => .array .int
  | 2 => .array .int
  | 3 => .array .char
  | 4 => .array .int
  | 5 => .int
  | 6 => .int
  | _ => .int
abbrev wsX30 : List Cond := u_ws RX3 TX3 8
theorem nmX3 : ∀ a, a < 8 → ∀ b, b < 8 → a ≠ b → (TX3 a).2.1 ≠ (TX3 b).2.1 := by decide +kernel
theorem tyX3_ok : ∀ k, k < 8 → parseFieldDescriptor (TX3 k).2.2.1 = some (tyX3 k) := by decide +kernel
abbrev cX3_init : ByteArray := prog_5_method_1_code
def yX3_init : MethodName := ⟨RX3, "<init>", "()V"⟩
abbrev cX3_clear : ByteArray := prog_5_method_2_code
def yX3_clear : MethodName := ⟨RX3, "clear", "()V"⟩
abbrev cX3_build : ByteArray := prog_5_method_3_code
def yX3_build : MethodName := ⟨RX3, "build", "(LOnceProver$Stock;)V"⟩
abbrev cX3_addNode : ByteArray := prog_5_method_4_code
def yX3_addNode : MethodName := ⟨RX3, "addNode", "(CII)I"⟩
abbrev cX3_addLoan : ByteArray := prog_5_method_5_code
def yX3_addLoan : MethodName := ⟨RX3, "addLoan", "()I"⟩
abbrev cX3_setFace : ByteArray := prog_5_method_6_code
def yX3_setFace : MethodName := ⟨RX3, "setFace", "(IICI)V"⟩
abbrev cX3_nodes : ByteArray := prog_5_method_7_code
def yX3_nodes : MethodName := ⟨RX3, "nodes", "()I"⟩
abbrev cX3_loans : ByteArray := prog_5_method_8_code
def yX3_loans : MethodName := ⟨RX3, "loans", "()I"⟩
abbrev cX3_root : ByteArray := prog_5_method_9_code
def yX3_root : MethodName := ⟨RX3, "root", "()I"⟩
abbrev cX3_kind : ByteArray := prog_5_method_10_code
def yX3_kind : MethodName := ⟨RX3, "kind", "(I)C"⟩
abbrev cX3_first : ByteArray := prog_5_method_11_code
def yX3_first : MethodName := ⟨RX3, "first", "(I)I"⟩
abbrev cX3_second : ByteArray := prog_5_method_12_code
def yX3_second : MethodName := ⟨RX3, "second", "(I)I"⟩
abbrev cX3_loanBit : ByteArray := prog_5_method_13_code
def yX3_loanBit : MethodName := ⟨RX3, "loanBit", "(I)I"⟩
abbrev cX3_hasHead : ByteArray := prog_5_method_14_code
def yX3_hasHead : MethodName := ⟨RX3, "hasHead", "(IIC)Z"⟩
abbrev cX3_body : ByteArray := prog_5_method_15_code
def yX3_body : MethodName := ⟨RX3, "body", "(II)I"⟩
abbrev cX3_singles : ByteArray := prog_5_method_16_code
def yX3_singles : MethodName := ⟨RX3, "singles", "()I"⟩
abbrev cX3_afterUse : ByteArray := prog_5_method_17_code
def yX3_afterUse : MethodName := ⟨RX3, "afterUse", "(II)I"⟩
abbrev cX3_isFace : ByteArray := prog_5_method_18_code
def yX3_isFace : MethodName := ⟨RX3, "isFace", "(II)Z"⟩
abbrev cX3_isNode : ByteArray := prog_5_method_19_code
def yX3_isNode : MethodName := ⟨RX3, "isNode", "(I)Z"⟩
def RX4 : String := "OnceProver$Reach"
def TX4 : u_T := fun k => match k with
  | 0 => ("OnceProver$Reach", "plan", "LOnceProver$Plan;", true)
  | 1 => ("OnceProver$Reach", "bits", "[J", true)
  | 2 => ("OnceProver$Reach", "allSets", "[J", true)
  | 3 => ("OnceProver$Reach", "apart", "[J", true)
  | _ => ("OnceProver$Reach", "top", "I", false)
def tyX4 : Nat → FieldType := fun k => match k with
  | 0 => .object "OnceProver$Plan"
  | 1 => .array .long
  | 2 => .array .long
  | 3 => .array .long
  | _ => .int
abbrev wsX40 : List Cond := u_ws RX4 TX4 5
theorem nmX4 : ∀ a, a < 5 → ∀ b, b < 5 → a ≠ b → (TX4 a).2.1 ≠ (TX4 b).2.1 := by decide +kernel
theorem tyX4_ok : ∀ k, k < 5 → parseFieldDescriptor (TX4 k).2.2.1 = some (tyX4 k) := by decide +kernel
abbrev cX4_init : ByteArray := prog_6_method_1_code
def yX4_init : MethodName := ⟨RX4, "<init>", "(LOnceProver$Plan;)V"⟩
abbrev cX4_compute : ByteArray := prog_6_method_2_code
def yX4_compute : MethodName := ⟨RX4, "compute", "()V"⟩
abbrev cX4_proves : ByteArray := prog_6_method_3_code
def yX4_proves : MethodName := ⟨RX4, "proves", "(III)Z"⟩
abbrev cX4_leastHeight : ByteArray := prog_6_method_4_code
def yX4_leastHeight : MethodName := ⟨RX4, "leastHeight", "(II)I"⟩
abbrev cX4_findAllSets : ByteArray := prog_6_method_5_code
def yX4_findAllSets : MethodName := ⟨RX4, "findAllSets", "()V"⟩
abbrev cX4_fillRow : ByteArray := prog_6_method_6_code
def yX4_fillRow : MethodName := ⟨RX4, "fillRow", "(II)V"⟩
abbrev cX4_addAtom : ByteArray := prog_6_method_7_code
def yX4_addAtom : MethodName := ⟨RX4, "addAtom", "(ICI)V"⟩
abbrev cX4_addUnions : ByteArray := prog_6_method_8_code
def yX4_addUnions : MethodName := ⟨RX4, "addUnions", "(III)V"⟩
abbrev cX4_addMoved : ByteArray := prog_6_method_9_code
def yX4_addMoved : MethodName := ⟨RX4, "addMoved", "(III)V"⟩
abbrev cX4_addReduced : ByteArray := prog_6_method_10_code
def yX4_addReduced : MethodName := ⟨RX4, "addReduced", "(III)V"⟩
abbrev cX4_addShared : ByteArray := prog_6_method_11_code
def yX4_addShared : MethodName := ⟨RX4, "addShared", "(III)V"⟩
abbrev cX4_addAllSets : ByteArray := prog_6_method_12_code
def yX4_addAllSets : MethodName := ⟨RX4, "addAllSets", "(I)V"⟩
abbrev cX4_add : ByteArray := prog_6_method_13_code
def yX4_add : MethodName := ⟨RX4, "add", "(II)V"⟩
abbrev cX4_has : ByteArray := prog_6_method_14_code
def yX4_has : MethodName := ⟨RX4, "has", "(II)Z"⟩
abbrev cX4_hasGrown : ByteArray := prog_6_method_15_code
def yX4_hasGrown : MethodName := ⟨RX4, "hasGrown", "(II)Z"⟩
abbrev cX4_clearRow : ByteArray := prog_6_method_16_code
def yX4_clearRow : MethodName := ⟨RX4, "clearRow", "(I)V"⟩
abbrev cX4_wordAt : ByteArray := prog_6_method_17_code
def yX4_wordAt : MethodName := ⟨RX4, "wordAt", "(II)J"⟩
abbrev cX4_orWord : ByteArray := prog_6_method_18_code
def yX4_orWord : MethodName := ⟨RX4, "orWord", "(IIJ)V"⟩
abbrev cX4_rowOf : ByteArray := prog_6_method_19_code
def yX4_rowOf : MethodName := ⟨RX4, "rowOf", "(II)I"⟩
def RX5 : String := "OnceProver$Reader"
def TX5 : u_T := fun k => match k with
  | 0 => ("OnceProver$Reader", "signs", "[C", true)
  | 1 => ("OnceProver$Reader", "plan", "LOnceProver$Plan;", true)
  | 2 => ("OnceProver$Reader", "place", "I", false)
  | _ => ("OnceProver$Reader", "fault", "I", false)
def tyX5 : Nat → FieldType := fun k => match k with
  | 0 => .array .char
  | 1 => .object "OnceProver$Plan"
  | 2 => .int
  | _ => .int
abbrev wsX50 : List Cond := u_ws RX5 TX5 4
theorem nmX5 : ∀ a, a < 4 → ∀ b, b < 4 → a ≠ b → (TX5 a).2.1 ≠ (TX5 b).2.1 := by decide +kernel
theorem tyX5_ok : ∀ k, k < 4 → parseFieldDescriptor (TX5 k).2.2.1 = some (tyX5 k) := by decide +kernel
abbrev cX5_init : ByteArray := prog_7_method_1_code
def yX5_init : MethodName := ⟨RX5, "<init>", "([CLOnceProver$Plan;)V"⟩
abbrev cX5_readWholeGoal : ByteArray := prog_7_method_2_code
def yX5_readWholeGoal : MethodName := ⟨RX5, "readWholeGoal", "()I"⟩
abbrev cX5_readWholeOffer : ByteArray := prog_7_method_3_code
def yX5_readWholeOffer : MethodName := ⟨RX5, "readWholeOffer", "(I)V"⟩
abbrev cX5_failed : ByteArray := prog_7_method_4_code
def yX5_failed : MethodName := ⟨RX5, "failed", "()Z"⟩
abbrev cX5_faultPlace : ByteArray := prog_7_method_5_code
def yX5_faultPlace : MethodName := ⟨RX5, "faultPlace", "()I"⟩
abbrev cX5_readGoal : ByteArray := prog_7_method_6_code
def yX5_readGoal : MethodName := ⟨RX5, "readGoal", "(I)I"⟩
abbrev cX5_readPair : ByteArray := prog_7_method_7_code
def yX5_readPair : MethodName := ⟨RX5, "readPair", "(I)I"⟩
abbrev cX5_readLoan : ByteArray := prog_7_method_8_code
def yX5_readLoan : MethodName := ⟨RX5, "readLoan", "(I)I"⟩
abbrev cX5_readOffer : ByteArray := prog_7_method_9_code
def yX5_readOffer : MethodName := ⟨RX5, "readOffer", "(II)V"⟩
abbrev cX5_readFace : ByteArray := prog_7_method_10_code
def yX5_readFace : MethodName := ⟨RX5, "readFace", "(III)V"⟩
abbrev cX5_next : ByteArray := prog_7_method_11_code
def yX5_next : MethodName := ⟨RX5, "next", "()C"⟩
abbrev cX5_expect : ByteArray := prog_7_method_12_code
def yX5_expect : MethodName := ⟨RX5, "expect", "(C)V"⟩
abbrev cX5_refuseMore : ByteArray := prog_7_method_13_code
def yX5_refuseMore : MethodName := ⟨RX5, "refuseMore", "()V"⟩
abbrev cX5_refuse : ByteArray := prog_7_method_14_code
def yX5_refuse : MethodName := ⟨RX5, "refuse", "()I"⟩
abbrev cX5_isAtom : ByteArray := prog_7_method_15_code
def yX5_isAtom : MethodName := ⟨RX5, "isAtom", "(C)Z"⟩
def RX6 : String := "OnceProver$Stock"
def TX6 : u_T := fun k => match k with
  | _ => ("OnceProver$Stock", "items", "[LOnceProver$Item;", true)
def tyX6 : Nat → FieldType := fun k => match k with
  | _ => .array (.object "OnceProver$Item")
abbrev wsX60 : List Cond := u_ws RX6 TX6 1
theorem nmX6 : ∀ a, a < 1 → ∀ b, b < 1 → a ≠ b → (TX6 a).2.1 ≠ (TX6 b).2.1 := by decide +kernel
theorem tyX6_ok : ∀ k, k < 1 → parseFieldDescriptor (TX6 k).2.2.1 = some (tyX6 k) := by decide +kernel
abbrev cX6_init : ByteArray := prog_8_method_1_code
def yX6_init : MethodName := ⟨RX6, "<init>", "()V"⟩
abbrev cX6_at : ByteArray := prog_8_method_2_code
def yX6_at : MethodName := ⟨RX6, "at", "(I)LOnceProver$Item;"⟩
abbrev cX6_set : ByteArray := prog_8_method_3_code
def yX6_set : MethodName := ⟨RX6, "set", "(ILOnceProver$Item;)V"⟩
abbrev cX6_firstFree : ByteArray := prog_8_method_5_code
def yX6_firstFree : MethodName := ⟨RX6, "firstFree", "(II)I"⟩
abbrev cX6_present : ByteArray := prog_8_method_6_code
def yX6_present : MethodName := ⟨RX6, "present", "(II)I"⟩
abbrev cX6_nodes : ByteArray := prog_8_method_7_code
def yX6_nodes : MethodName := ⟨RX6, "nodes", "()I"⟩
abbrev cX6_loans : ByteArray := prog_8_method_8_code
def yX6_loans : MethodName := ⟨RX6, "loans", "()I"⟩
abbrev cX6_hasRoom : ByteArray := prog_8_method_9_code
def yX6_hasRoom : MethodName := ⟨RX6, "hasRoom", "(ILOnceProver$Item;)Z"⟩
def RX7 : String := "OnceProver$Text"
def TX7 : u_T := fun k => match k with
  | 0 => ("OnceProver$Text", "signs", "[C", true)
  | _ => ("OnceProver$Text", "length", "I", false)
def tyX7 : Nat → FieldType := fun k => match k with
  | 0 => .array .char
  | _ => .int
abbrev wsX70 : List Cond := u_ws RX7 TX7 2
theorem nmX7 : ∀ a, a < 2 → ∀ b, b < 2 → a ≠ b → (TX7 a).2.1 ≠ (TX7 b).2.1 := by decide +kernel
theorem tyX7_ok : ∀ k, k < 2 → parseFieldDescriptor (TX7 k).2.2.1 = some (tyX7 k) := by decide +kernel
abbrev cX7_init : ByteArray := prog_9_method_1_code
def yX7_init : MethodName := ⟨RX7, "<init>", "()V"⟩
abbrev cX7_append : ByteArray := prog_9_method_2_code
def yX7_append : MethodName := ⟨RX7, "append", "(C)Z"⟩
abbrev cX7_length : ByteArray := prog_9_method_3_code
def yX7_length : MethodName := ⟨RX7, "length", "()I"⟩
abbrev cX7_copy : ByteArray := prog_9_method_4_code
def yX7_copy : MethodName := ⟨RX7, "copy", "()[C"⟩
abbrev cX7_clear : ByteArray := prog_9_method_5_code
def yX7_clear : MethodName := ⟨RX7, "clear", "()V"⟩
def RX8 : String := "OnceProver$Trial"
def TX8 : u_T := fun k => match k with
  | 0 => ("OnceProver$Trial", "numbers", "[I", true)
  | _ => ("OnceProver$Trial", "length", "I", false)
def tyX8 : Nat → FieldType := fun k => match k with
  | 0 => .array .int
  | _ => .int
abbrev wsX80 : List Cond := u_ws RX8 TX8 2
theorem nmX8 : ∀ a, a < 2 → ∀ b, b < 2 → a ≠ b → (TX8 a).2.1 ≠ (TX8 b).2.1 := by decide +kernel
theorem tyX8_ok : ∀ k, k < 2 → parseFieldDescriptor (TX8 k).2.2.1 = some (tyX8 k) := by decide +kernel
abbrev cX8_init : ByteArray := prog_10_method_1_code
def yX8_init : MethodName := ⟨RX8, "<init>", "()V"⟩
abbrev cX8_append : ByteArray := prog_10_method_2_code
def yX8_append : MethodName := ⟨RX8, "append", "(I)Z"⟩
abbrev cX8_length : ByteArray := prog_10_method_3_code
def yX8_length : MethodName := ⟨RX8, "length", "()I"⟩
abbrev cX8_at : ByteArray := prog_10_method_4_code
def yX8_at : MethodName := ⟨RX8, "at", "(I)I"⟩
abbrev cX8_clear : ByteArray := prog_10_method_5_code
def yX8_clear : MethodName := ⟨RX8, "clear", "()V"⟩
def RX9 : String := "OnceProver$Ways"
def TX9 : u_T := fun k => match k with
  | 0 => ("OnceProver$Ways", "plan", "LOnceProver$Plan;", true)
  | 1 => ("OnceProver$Ways", "reach", "LOnceProver$Reach;", true)
  | 2 => ("OnceProver$Ways", "counted", "[J", true)
  | _ => ("OnceProver$Ways", "stamp", "J", false)
def tyX9 : Nat → FieldType := fun k => match k with
  | 0 => .object "OnceProver$Plan"
  | 1 => .object "OnceProver$Reach"
  | 2 => .array .long
  | _ => .long
abbrev wsX90 : List Cond := u_ws RX9 TX9 4
theorem nmX9 : ∀ a, a < 4 → ∀ b, b < 4 → a ≠ b → (TX9 a).2.1 ≠ (TX9 b).2.1 := by decide +kernel
theorem tyX9_ok : ∀ k, k < 4 → parseFieldDescriptor (TX9 k).2.2.1 = some (tyX9 k) := by decide +kernel
abbrev cX9_init : ByteArray := prog_11_method_1_code
def yX9_init : MethodName := ⟨RX9, "<init>", "(LOnceProver$Plan;LOnceProver$Reach;)V"⟩
abbrev cX9_forget : ByteArray := prog_11_method_2_code
def yX9_forget : MethodName := ⟨RX9, "forget", "()V"⟩
abbrev cX9_number : ByteArray := prog_11_method_3_code
def yX9_number : MethodName := ⟨RX9, "number", "(II)I"⟩
abbrev cX9_tally : ByteArray := prog_11_method_4_code
def yX9_tally : MethodName := ⟨RX9, "tally", "(III)J"⟩
abbrev cX9_tallyByKind : ByteArray := prog_11_method_5_code
def yX9_tallyByKind : MethodName := ⟨RX9, "tallyByKind", "(III)J"⟩
abbrev cX9_tallySplits : ByteArray := prog_11_method_6_code
def yX9_tallySplits : MethodName := ⟨RX9, "tallySplits", "(IIII)J"⟩
abbrev cX9_tallyAtom : ByteArray := prog_11_method_7_code
def yX9_tallyAtom : MethodName := ⟨RX9, "tallyAtom", "(CII)J"⟩
abbrev cX9_tallyFace : ByteArray := prog_11_method_8_code
def yX9_tallyFace : MethodName := ⟨RX9, "tallyFace", "(III)J"⟩
abbrev cX9_capped : ByteArray := prog_11_method_9_code
def yX9_capped : MethodName := ⟨RX9, "capped", "(J)J"⟩
def RX10 : String := "OnceProver"
def TX10 : u_T := fun k => match k with
  | 0 => ("OnceProver", "text", "LOnceProver$Text;", true)
  | 1 => ("OnceProver", "stock", "LOnceProver$Stock;", true)
  | 2 => ("OnceProver", "saved", "[LOnceProver$Stock;", true)
  | 3 => ("OnceProver", "sketch", "LOnceProver$Plan;", true)
  | 4 => ("OnceProver", "plan", "LOnceProver$Plan;", true)
  | 5 => ("OnceProver", "reach", "LOnceProver$Reach;", true)
  | 6 => ("OnceProver", "tallies", "LOnceProver$Ways;", true)
  | 7 => ("OnceProver", "firstProof", "LOnceProver$FirstProof;", true)
  | 8 => ("OnceProver", "attempt", "LOnceProver$Trial;", true)
  | 9 => ("OnceProver", "judge", "LOnceProver$Judge;", true)
  | 10 => ("OnceProver", "lastFault", "I", false)
  | _ => ("OnceProver", "stale", "Z", false)
def tyX10 : Nat → FieldType := fun k => match k with
  | 0 => .object "OnceProver$Text"
  | 1 => .object "OnceProver$Stock"
  | 2 => .array (.object "OnceProver$Stock")
  | 3 => .object "OnceProver$Plan"
  | 4 => .object "OnceProver$Plan"
  | 5 => .object "OnceProver$Reach"
  | 6 => .object "OnceProver$Ways"
  | 7 => .object "OnceProver$FirstProof"
  | 8 => .object "OnceProver$Trial"
  | 9 => .object "OnceProver$Judge"
  | 10 => .int
  | _ => .boolean
abbrev wsX100 : List Cond := u_ws RX10 TX10 12
theorem nmX10 : ∀ a, a < 12 → ∀ b, b < 12 → a ≠ b → (TX10 a).2.1 ≠ (TX10 b).2.1 := by decide +kernel
theorem tyX10_ok : ∀ k, k < 12 → parseFieldDescriptor (TX10 k).2.2.1 = some (tyX10 k) := by decide +kernel
abbrev cX10_init : ByteArray := prog_1_method_1_code
def yX10_init : MethodName := ⟨RX10, "<init>", "()V"⟩
abbrev cX10_say : ByteArray := prog_1_method_2_code
def yX10_say : MethodName := ⟨RX10, "say", "(I)I"⟩
abbrev cX10_wipe : ByteArray := prog_1_method_3_code
def yX10_wipe : MethodName := ⟨RX10, "wipe", "()I"⟩
abbrev cX10_resource : ByteArray := prog_1_method_4_code
def yX10_resource : MethodName := ⟨RX10, "resource", "()I"⟩
abbrev cX10_well : ByteArray := prog_1_method_5_code
def yX10_well : MethodName := ⟨RX10, "well", "()I"⟩
abbrev cX10_goal : ByteArray := prog_1_method_6_code
def yX10_goal : MethodName := ⟨RX10, "goal", "()I"⟩
abbrev cX10_drop : ByteArray := prog_1_method_8_code
def yX10_drop : MethodName := ⟨RX10, "drop", "(II)I"⟩
abbrev cX10_height : ByteArray := prog_1_method_9_code
def yX10_height : MethodName := ⟨RX10, "height", "(I)I"⟩
abbrev cX10_left : ByteArray := prog_1_method_10_code
def yX10_left : MethodName := ⟨RX10, "left", "(II)I"⟩
abbrev cX10_ways : ByteArray := prog_1_method_11_code
def yX10_ways : MethodName := ⟨RX10, "ways", "(II)I"⟩
abbrev cX10_fewest : ByteArray := prog_1_method_12_code
def yX10_fewest : MethodName := ⟨RX10, "fewest", "()I"⟩
abbrev cX10_needed : ByteArray := prog_1_method_13_code
def yX10_needed : MethodName := ⟨RX10, "needed", "()I"⟩
abbrev cX10_term : ByteArray := prog_1_method_14_code
def yX10_term : MethodName := ⟨RX10, "term", "(I)I"⟩
abbrev cX10_uses : ByteArray := prog_1_method_15_code
def yX10_uses : MethodName := ⟨RX10, "uses", "(II)I"⟩
abbrev cX10_put : ByteArray := prog_1_method_16_code
def yX10_put : MethodName := ⟨RX10, "put", "(I)I"⟩
abbrev cX10_trial : ByteArray := prog_1_method_17_code
def yX10_trial : MethodName := ⟨RX10, "trial", "(I)I"⟩
abbrev cX10_check : ByteArray := prog_1_method_18_code
def yX10_check : MethodName := ⟨RX10, "check", "(I)I"⟩
abbrev cX10_count : ByteArray := prog_1_method_21_code
def yX10_count : MethodName := ⟨RX10, "count", "(I)I"⟩
abbrev cX10_readText : ByteArray := prog_1_method_22_code
def yX10_readText : MethodName := ⟨RX10, "readText", "(Z)LOnceProver$Item;"⟩
abbrev cX10_takeOffer : ByteArray := prog_1_method_23_code
def yX10_takeOffer : MethodName := ⟨RX10, "takeOffer", "(II)I"⟩
abbrev cX10_settle : ByteArray := prog_1_method_24_code
def yX10_settle : MethodName := ⟨RX10, "settle", "(ILOnceProver$Item;)V"⟩
abbrev cX10_dropNumbered : ByteArray := prog_1_method_25_code
def yX10_dropNumbered : MethodName := ⟨RX10, "dropNumbered", "(III)I"⟩
abbrev cX10_dropGoal : ByteArray := prog_1_method_26_code
def yX10_dropGoal : MethodName := ⟨RX10, "dropGoal", "()I"⟩
abbrev cX10_hasGoal : ByteArray := prog_1_method_27_code
def yX10_hasGoal : MethodName := ⟨RX10, "hasGoal", "()Z"⟩
abbrev cX10_allResources : ByteArray := prog_1_method_28_code
def yX10_allResources : MethodName := ⟨RX10, "allResources", "()I"⟩
abbrev cX10_isSetOfResources : ByteArray := prog_1_method_29_code
def yX10_isSetOfResources : MethodName := ⟨RX10, "isSetOfResources", "(I)Z"⟩
abbrev cX10_isProvable : ByteArray := prog_1_method_30_code
def yX10_isProvable : MethodName := ⟨RX10, "isProvable", "(I)Z"⟩
abbrev cX10_savedPlaces : ByteArray := prog_1_method_31_code
def yX10_savedPlaces : MethodName := ⟨RX10, "savedPlaces", "()I"⟩
abbrev cX10_prepare : ByteArray := prog_1_method_32_code
def yX10_prepare : MethodName := ⟨RX10, "prepare", "()V"⟩
abbrev cX10_partsOf : ByteArray := prog_1_method_33_code
def yX10_partsOf : MethodName := ⟨RX10, "partsOf", "(I)I"⟩
abbrev cX10_nextPart : ByteArray := prog_1_method_34_code
def yX10_nextPart : MethodName := ⟨RX10, "nextPart", "(II)I"⟩
def RX11 : String := "OnceProverModel"
def TX11 : u_T := fun k => match k with
  | _ => ("", "", "", false)
def tyX11 : Nat → FieldType := fun k => match k with
  | _ => .int
abbrev wsX110 : List Cond := u_ws RX11 TX11 0
theorem nmX11 : ∀ a, a < 0 → ∀ b, b < 0 → a ≠ b → (TX11 a).2.1 ≠ (TX11 b).2.1 := by decide +kernel
theorem tyX11_ok : ∀ k, k < 0 → parseFieldDescriptor (TX11 k).2.2.1 = some (tyX11 k) := by decide +kernel
def RJ6 : String := "java/lang/Integer"
abbrev cJ6_bitCount_0f7a4 : ByteArray := prog_14_method_49_code
def yJ6_bitCount_0f7a4 : MethodName := ⟨RJ6, "bitCount", "(I)I"⟩
def RJ9 : String := "java/lang/Math"
abbrev cJ9_max_7cf53 : ByteArray := prog_15_method_65_code
def yJ9_max_7cf53 : MethodName := ⟨RJ9, "max", "(II)I"⟩
abbrev cJ9_min_7cf53 : ByteArray := prog_15_method_69_code
def yJ9_min_7cf53 : MethodName := ⟨RJ9, "min", "(II)I"⟩
abbrev cJ9_min_f86c9 : ByteArray := prog_15_method_70_code
def yJ9_min_f86c9 : MethodName := ⟨RJ9, "min", "(JJ)J"⟩
def RL : String := "OnceProverLaw"
abbrev cL_cell : ByteArray := method_2_code
def yL_cell : MethodName := ⟨RL, "cell", "([III)I"⟩
abbrev cL_atom : ByteArray := method_3_code
def yL_atom : MethodName := ⟨RL, "atom", "([II)I"⟩
abbrev cL_goal : ByteArray := method_4_code
def yL_goal : MethodName := ⟨RL, "goal", "(LOnceProver;[II)Z"⟩
abbrev cL_offer : ByteArray := method_5_code
def yL_offer : MethodName := ⟨RL, "offer", "(LOnceProver;[II)Z"⟩
abbrev cL_lay : ByteArray := method_6_code
def yL_lay : MethodName := ⟨RL, "lay", "(LOnceProver;[III)Z"⟩
abbrev cL_areHeights : ByteArray := method_7_code
def yL_areHeights : MethodName := ⟨RL, "areHeights", "(LOnceProver;I)Z"⟩
abbrev cL_isWay : ByteArray := method_8_code
def yL_isWay : MethodName := ⟨RL, "isWay", "(LOnceProver;I)Z"⟩
abbrev cL_law : ByteArray := code
def yL_law : MethodName := ⟨RL, "law", "([I)Z"⟩
abbrev vwCl : List vw_C := [(RX0, TX0, 6), (RX1, TX1, 3), (RX2, TX2, 5), (RX3, TX3, 8), (RX4, TX4, 5), (RX5, TX5, 4), (RX6, TX6, 1), (RX7, TX7, 2), (RX8, TX8, 2), (RX9, TX9, 4), (RX10, TX10, 12)]
def gtbl : List Cond := lw_tbl.filter goodWord
theorem g_of {w : Cond} (h : w ∈ lw_tbl) (g : goodWord w = true) : w ∈ gtbl := List.mem_filter.mpr ⟨h, g⟩
def plX0 : List Nat := [190, 192, 194, 196, 198, 200]
theorem ilX0 : ∀ k, k < 6 → lw_tbl[plX0.getD k 0]? = some (u_lay RX0 TX0 k) ∧ goodWord (u_lay RX0 TX0 k) = true := by decide +kernel
theorem gwX0 : ∀ w ∈ u_ws RX0 TX0 6, w ∈ gtbl := fun w h => by
  obtain ⟨k, hk, rfl⟩ := List.mem_map.mp h
  have hk := List.mem_range.mp hk
  exact g_of (List.mem_of_getElem? (ilX0 k hk).1) (ilX0 k hk).2
def plX1 : List Nat := [415, 417, 419]
theorem ilX1 : ∀ k, k < 3 → lw_tbl[plX1.getD k 0]? = some (u_lay RX1 TX1 k) ∧ goodWord (u_lay RX1 TX1 k) = true := by decide +kernel
theorem gwX1 : ∀ w ∈ u_ws RX1 TX1 3, w ∈ gtbl := fun w h => by
  obtain ⟨k, hk, rfl⟩ := List.mem_map.mp h
  have hk := List.mem_range.mp hk
  exact g_of (List.mem_of_getElem? (ilX1 k hk).1) (ilX1 k hk).2
def plX2 : List Nat := [227, 229, 231, 233, 235]
theorem ilX2 : ∀ k, k < 5 → lw_tbl[plX2.getD k 0]? = some (u_lay RX2 TX2 k) ∧ goodWord (u_lay RX2 TX2 k) = true := by decide +kernel
theorem gwX2 : ∀ w ∈ u_ws RX2 TX2 5, w ∈ gtbl := fun w h => by
  obtain ⟨k, hk, rfl⟩ := List.mem_map.mp h
  have hk := List.mem_range.mp hk
  exact g_of (List.mem_of_getElem? (ilX2 k hk).1) (ilX2 k hk).2
def plX3 : List Nat := [117, 119, 121, 123, 125, 127, 129, 131]
theorem ilX3 : ∀ k, k < 8 → lw_tbl[plX3.getD k 0]? = some (u_lay RX3 TX3 k) ∧ goodWord (u_lay RX3 TX3 k) = true := by decide +kernel
theorem gwX3 : ∀ w ∈ u_ws RX3 TX3 8, w ∈ gtbl := fun w h => by
  obtain ⟨k, hk, rfl⟩ := List.mem_map.mp h
  have hk := List.mem_range.mp hk
  exact g_of (List.mem_of_getElem? (ilX3 k hk).1) (ilX3 k hk).2
def plX4 : List Nat := [146, 148, 150, 152, 154]
theorem ilX4 : ∀ k, k < 5 → lw_tbl[plX4.getD k 0]? = some (u_lay RX4 TX4 k) ∧ goodWord (u_lay RX4 TX4 k) = true := by decide +kernel
theorem gwX4 : ∀ w ∈ u_ws RX4 TX4 5, w ∈ gtbl := fun w h => by
  obtain ⟨k, hk, rfl⟩ := List.mem_map.mp h
  have hk := List.mem_range.mp hk
  exact g_of (List.mem_of_getElem? (ilX4 k hk).1) (ilX4 k hk).2
def plX5 : List Nat := [319, 321, 323, 325]
theorem ilX5 : ∀ k, k < 4 → lw_tbl[plX5.getD k 0]? = some (u_lay RX5 TX5 k) ∧ goodWord (u_lay RX5 TX5 k) = true := by decide +kernel
theorem gwX5 : ∀ w ∈ u_ws RX5 TX5 4, w ∈ gtbl := fun w h => by
  obtain ⟨k, hk, rfl⟩ := List.mem_map.mp h
  have hk := List.mem_range.mp hk
  exact g_of (List.mem_of_getElem? (ilX5 k hk).1) (ilX5 k hk).2
def plX6 : List Nat := [99]
theorem ilX6 : ∀ k, k < 1 → lw_tbl[plX6.getD k 0]? = some (u_lay RX6 TX6 k) ∧ goodWord (u_lay RX6 TX6 k) = true := by decide +kernel
theorem gwX6 : ∀ w ∈ u_ws RX6 TX6 1, w ∈ gtbl := fun w h => by
  obtain ⟨k, hk, rfl⟩ := List.mem_map.mp h
  have hk := List.mem_range.mp hk
  exact g_of (List.mem_of_getElem? (ilX6 k hk).1) (ilX6 k hk).2
def plX7 : List Nat := [84, 86]
theorem ilX7 : ∀ k, k < 2 → lw_tbl[plX7.getD k 0]? = some (u_lay RX7 TX7 k) ∧ goodWord (u_lay RX7 TX7 k) = true := by decide +kernel
theorem gwX7 : ∀ w ∈ u_ws RX7 TX7 2, w ∈ gtbl := fun w h => by
  obtain ⟨k, hk, rfl⟩ := List.mem_map.mp h
  have hk := List.mem_range.mp hk
  exact g_of (List.mem_of_getElem? (ilX7 k hk).1) (ilX7 k hk).2
def plX8 : List Nat := [211, 213]
theorem ilX8 : ∀ k, k < 2 → lw_tbl[plX8.getD k 0]? = some (u_lay RX8 TX8 k) ∧ goodWord (u_lay RX8 TX8 k) = true := by decide +kernel
theorem gwX8 : ∀ w ∈ u_ws RX8 TX8 2, w ∈ gtbl := fun w h => by
  obtain ⟨k, hk, rfl⟩ := List.mem_map.mp h
  have hk := List.mem_range.mp hk
  exact g_of (List.mem_of_getElem? (ilX8 k hk).1) (ilX8 k hk).2
def plX9 : List Nat := [169, 171, 173, 175]
theorem ilX9 : ∀ k, k < 4 → lw_tbl[plX9.getD k 0]? = some (u_lay RX9 TX9 k) ∧ goodWord (u_lay RX9 TX9 k) = true := by decide +kernel
theorem gwX9 : ∀ w ∈ u_ws RX9 TX9 4, w ∈ gtbl := fun w h => by
  obtain ⟨k, hk, rfl⟩ := List.mem_map.mp h
  have hk := List.mem_range.mp hk
  exact g_of (List.mem_of_getElem? (ilX9 k hk).1) (ilX9 k hk).2
def plX10 : List Nat := [250, 252, 254, 256, 258, 260, 262, 264, 266, 268, 270, 272]
theorem ilX10 : ∀ k, k < 12 → lw_tbl[plX10.getD k 0]? = some (u_lay RX10 TX10 k) ∧ goodWord (u_lay RX10 TX10 k) = true := by decide +kernel
theorem gwX10 : ∀ w ∈ u_ws RX10 TX10 12, w ∈ gtbl := fun w h => by
  obtain ⟨k, hk, rfl⟩ := List.mem_map.mp h
  have hk := List.mem_range.mp hk
  exact g_of (List.mem_of_getElem? (ilX10 k hk).1) (ilX10 k hk).2
def kR : Nat → String := fun k => match k with
  | 0 => RX0
  | 1 => RX1
  | 2 => RX2
  | 3 => RX3
  | 4 => RX4
  | 5 => RX5
  | 6 => RX6
  | 7 => RX7
  | 8 => RX8
  | 9 => RX9
  | 10 => RX10
  | _ => ""
def kT : Nat → u_T := fun k => match k with
  | 0 => TX0
  | 1 => TX1
  | 2 => TX2
  | 3 => TX3
  | 4 => TX4
  | 5 => TX5
  | 6 => TX6
  | 7 => TX7
  | 8 => TX8
  | 9 => TX9
  | 10 => TX10
  | _ => TX0
def kN : Nat → Nat := fun k => match k with
  | 0 => 6
  | 1 => 3
  | 2 => 5
  | 3 => 8
  | 4 => 5
  | 5 => 4
  | 6 => 1
  | 7 => 2
  | 8 => 2
  | 9 => 4
  | 10 => 12
  | _ => 0
def kty : Nat → Nat → FieldType := fun k => match k with
  | 0 => tyX0
  | 1 => tyX1
  | 2 => tyX2
  | 3 => tyX3
  | 4 => tyX4
  | 5 => tyX5
  | 6 => tyX6
  | 7 => tyX7
  | 8 => tyX8
  | 9 => tyX9
  | 10 => tyX10
  | _ => tyX0
abbrev M_X0_init : MethodName × ByteArray × Nat × Option FieldType := (yX0_init, cX0_init, 3, none)
abbrev M_X0_forget : MethodName × ByteArray × Nat × Option FieldType := (yX0_forget, cX0_forget, 1, none)
abbrev M_X0_find : MethodName × ByteArray × Nat × Option FieldType := (yX0_find, cX0_find, 3, none)
abbrev M_X0_exists : MethodName × ByteArray × Nat × Option FieldType := (yX0_exists, cX0_exists, 1, some FieldType.boolean)
abbrev M_X0_length : MethodName × ByteArray × Nat × Option FieldType := (yX0_length, cX0_length, 1, some FieldType.int)
abbrev M_X0_at : MethodName × ByteArray × Nat × Option FieldType := (yX0_at, cX0_at, 2, some FieldType.int)
abbrev M_X0_usesOf : MethodName × ByteArray × Nat × Option FieldType := (yX0_usesOf, cX0_usesOf, 5, some FieldType.int)
abbrev M_X0_write : MethodName × ByteArray × Nat × Option FieldType := (yX0_write, cX0_write, 7, none)
abbrev M_X0_writeSplit : MethodName × ByteArray × Nat × Option FieldType := (yX0_writeSplit, cX0_writeSplit, 7, none)
abbrev M_X0_writeChoice : MethodName × ByteArray × Nat × Option FieldType := (yX0_writeChoice, cX0_writeChoice, 5, none)
abbrev M_X0_writeAtom : MethodName × ByteArray × Nat × Option FieldType := (yX0_writeAtom, cX0_writeAtom, 8, none)
abbrev M_X0_serves : MethodName × ByteArray × Nat × Option FieldType := (yX0_serves, cX0_serves, 4, some FieldType.boolean)
abbrev M_X0_append : MethodName × ByteArray × Nat × Option FieldType := (yX0_append, cX0_append, 2, none)
abbrev M_X0_numberOf : MethodName × ByteArray × Nat × Option FieldType := (yX0_numberOf, cX0_numberOf, 2, some FieldType.int)
abbrev M_X1_init : MethodName × ByteArray × Nat × Option FieldType := (yX1_init, cX1_init, 4, none)
abbrev M_X1_signs : MethodName × ByteArray × Nat × Option FieldType := (yX1_signs, cX1_signs, 1, some (FieldType.array FieldType.char))
abbrev M_X1_nodes : MethodName × ByteArray × Nat × Option FieldType := (yX1_nodes, cX1_nodes, 1, some FieldType.int)
abbrev M_X1_loans : MethodName × ByteArray × Nat × Option FieldType := (yX1_loans, cX1_loans, 1, some FieldType.int)
abbrev M_X2_init : MethodName × ByteArray × Nat × Option FieldType := (yX2_init, cX2_init, 3, none)
abbrev M_X2_judge : MethodName × ByteArray × Nat × Option FieldType := (yX2_judge, cX2_judge, 2, none)
abbrev M_X2_verdict : MethodName × ByteArray × Nat × Option FieldType := (yX2_verdict, cX2_verdict, 1, some FieldType.int)
abbrev M_X2_used : MethodName × ByteArray × Nat × Option FieldType := (yX2_used, cX2_used, 1, some FieldType.int)
abbrev M_X2_deepest : MethodName × ByteArray × Nat × Option FieldType := (yX2_deepest, cX2_deepest, 1, some FieldType.int)
abbrev M_X2_visit : MethodName × ByteArray × Nat × Option FieldType := (yX2_visit, cX2_visit, 5, none)
abbrev M_X2_visitSplit : MethodName × ByteArray × Nat × Option FieldType := (yX2_visitSplit, cX2_visitSplit, 5, none)
abbrev M_X2_visitChoice : MethodName × ByteArray × Nat × Option FieldType := (yX2_visitChoice, cX2_visitChoice, 5, none)
abbrev M_X2_visitLoan : MethodName × ByteArray × Nat × Option FieldType := (yX2_visitLoan, cX2_visitLoan, 5, none)
abbrev M_X2_visitAtom : MethodName × ByteArray × Nat × Option FieldType := (yX2_visitAtom, cX2_visitAtom, 9, none)
abbrev M_X2_offerOf : MethodName × ByteArray × Nat × Option FieldType := (yX2_offerOf, cX2_offerOf, 2, some FieldType.int)
abbrev M_X2_lacksNumber : MethodName × ByteArray × Nat × Option FieldType := (yX2_lacksNumber, cX2_lacksNumber, 1, some FieldType.boolean)
abbrev M_X2_refuseUnless : MethodName × ByteArray × Nat × Option FieldType := (yX2_refuseUnless, cX2_refuseUnless, 2, some FieldType.boolean)
abbrev M_X2_demandEmpty : MethodName × ByteArray × Nat × Option FieldType := (yX2_demandEmpty, cX2_demandEmpty, 2, none)
abbrev M_X3_init : MethodName × ByteArray × Nat × Option FieldType := (yX3_init, cX3_init, 1, none)
abbrev M_X3_clear : MethodName × ByteArray × Nat × Option FieldType := (yX3_clear, cX3_clear, 2, none)
abbrev M_X3_build : MethodName × ByteArray × Nat × Option FieldType := (yX3_build, cX3_build, 5, none)
abbrev M_X3_addNode : MethodName × ByteArray × Nat × Option FieldType := (yX3_addNode, cX3_addNode, 5, some FieldType.int)
abbrev M_X3_addLoan : MethodName × ByteArray × Nat × Option FieldType := (yX3_addLoan, cX3_addLoan, 2, some FieldType.int)
abbrev M_X3_setFace : MethodName × ByteArray × Nat × Option FieldType := (yX3_setFace, cX3_setFace, 5, none)
abbrev M_X3_nodes : MethodName × ByteArray × Nat × Option FieldType := (yX3_nodes, cX3_nodes, 1, some FieldType.int)
abbrev M_X3_loans : MethodName × ByteArray × Nat × Option FieldType := (yX3_loans, cX3_loans, 1, some FieldType.int)
abbrev M_X3_root : MethodName × ByteArray × Nat × Option FieldType := (yX3_root, cX3_root, 1, some FieldType.int)
abbrev M_X3_kind : MethodName × ByteArray × Nat × Option FieldType := (yX3_kind, cX3_kind, 2, some FieldType.char)
abbrev M_X3_first : MethodName × ByteArray × Nat × Option FieldType := (yX3_first, cX3_first, 2, some FieldType.int)
abbrev M_X3_second : MethodName × ByteArray × Nat × Option FieldType := (yX3_second, cX3_second, 2, some FieldType.int)
abbrev M_X3_loanBit : MethodName × ByteArray × Nat × Option FieldType := (yX3_loanBit, cX3_loanBit, 3, some FieldType.int)
abbrev M_X3_hasHead : MethodName × ByteArray × Nat × Option FieldType := (yX3_hasHead, cX3_hasHead, 4, some FieldType.boolean)
abbrev M_X3_body : MethodName × ByteArray × Nat × Option FieldType := (yX3_body, cX3_body, 3, some FieldType.int)
abbrev M_X3_singles : MethodName × ByteArray × Nat × Option FieldType := (yX3_singles, cX3_singles, 3, some FieldType.int)
abbrev M_X3_afterUse : MethodName × ByteArray × Nat × Option FieldType := (yX3_afterUse, cX3_afterUse, 3, some FieldType.int)
abbrev M_X3_isFace : MethodName × ByteArray × Nat × Option FieldType := (yX3_isFace, cX3_isFace, 2, some FieldType.boolean)
abbrev M_X3_isNode : MethodName × ByteArray × Nat × Option FieldType := (yX3_isNode, cX3_isNode, 2, some FieldType.boolean)
abbrev M_X4_init : MethodName × ByteArray × Nat × Option FieldType := (yX4_init, cX4_init, 4, none)
abbrev M_X4_compute : MethodName × ByteArray × Nat × Option FieldType := (yX4_compute, cX4_compute, 4, none)
abbrev M_X4_proves : MethodName × ByteArray × Nat × Option FieldType := (yX4_proves, cX4_proves, 4, some FieldType.boolean)
abbrev M_X4_leastHeight : MethodName × ByteArray × Nat × Option FieldType := (yX4_leastHeight, cX4_leastHeight, 4, some FieldType.int)
abbrev M_X4_findAllSets : MethodName × ByteArray × Nat × Option FieldType := (yX4_findAllSets, cX4_findAllSets, 4, none)
abbrev M_X4_fillRow : MethodName × ByteArray × Nat × Option FieldType := (yX4_fillRow, cX4_fillRow, 7, none)
abbrev M_X4_addAtom : MethodName × ByteArray × Nat × Option FieldType := (yX4_addAtom, cX4_addAtom, 8, none)
abbrev M_X4_addUnions : MethodName × ByteArray × Nat × Option FieldType := (yX4_addUnions, cX4_addUnions, 8, none)
abbrev M_X4_addMoved : MethodName × ByteArray × Nat × Option FieldType := (yX4_addMoved, cX4_addMoved, 9, none)
abbrev M_X4_addReduced : MethodName × ByteArray × Nat × Option FieldType := (yX4_addReduced, cX4_addReduced, 9, none)
abbrev M_X4_addShared : MethodName × ByteArray × Nat × Option FieldType := (yX4_addShared, cX4_addShared, 5, none)
abbrev M_X4_addAllSets : MethodName × ByteArray × Nat × Option FieldType := (yX4_addAllSets, cX4_addAllSets, 3, none)
abbrev M_X4_add : MethodName × ByteArray × Nat × Option FieldType := (yX4_add, cX4_add, 3, none)
abbrev M_X4_has : MethodName × ByteArray × Nat × Option FieldType := (yX4_has, cX4_has, 3, some FieldType.boolean)
abbrev M_X4_hasGrown : MethodName × ByteArray × Nat × Option FieldType := (yX4_hasGrown, cX4_hasGrown, 6, some FieldType.boolean)
abbrev M_X4_clearRow : MethodName × ByteArray × Nat × Option FieldType := (yX4_clearRow, cX4_clearRow, 3, none)
abbrev M_X4_wordAt : MethodName × ByteArray × Nat × Option FieldType := (yX4_wordAt, cX4_wordAt, 3, some FieldType.long)
abbrev M_X4_orWord : MethodName × ByteArray × Nat × Option FieldType := (yX4_orWord, cX4_orWord, 5, none)
abbrev M_X4_rowOf : MethodName × ByteArray × Nat × Option FieldType := (yX4_rowOf, cX4_rowOf, 2, some FieldType.int)
abbrev M_X5_init : MethodName × ByteArray × Nat × Option FieldType := (yX5_init, cX5_init, 3, none)
abbrev M_X5_readWholeGoal : MethodName × ByteArray × Nat × Option FieldType := (yX5_readWholeGoal, cX5_readWholeGoal, 2, some FieldType.int)
abbrev M_X5_readWholeOffer : MethodName × ByteArray × Nat × Option FieldType := (yX5_readWholeOffer, cX5_readWholeOffer, 2, none)
abbrev M_X5_failed : MethodName × ByteArray × Nat × Option FieldType := (yX5_failed, cX5_failed, 1, some FieldType.boolean)
abbrev M_X5_faultPlace : MethodName × ByteArray × Nat × Option FieldType := (yX5_faultPlace, cX5_faultPlace, 1, some FieldType.int)
abbrev M_X5_readGoal : MethodName × ByteArray × Nat × Option FieldType := (yX5_readGoal, cX5_readGoal, 3, some FieldType.int)
abbrev M_X5_readPair : MethodName × ByteArray × Nat × Option FieldType := (yX5_readPair, cX5_readPair, 5, some FieldType.int)
abbrev M_X5_readLoan : MethodName × ByteArray × Nat × Option FieldType := (yX5_readLoan, cX5_readLoan, 3, some FieldType.int)
abbrev M_X5_readOffer : MethodName × ByteArray × Nat × Option FieldType := (yX5_readOffer, cX5_readOffer, 4, none)
abbrev M_X5_readFace : MethodName × ByteArray × Nat × Option FieldType := (yX5_readFace, cX5_readFace, 6, none)
abbrev M_X5_next : MethodName × ByteArray × Nat × Option FieldType := (yX5_next, cX5_next, 1, some FieldType.char)
abbrev M_X5_expect : MethodName × ByteArray × Nat × Option FieldType := (yX5_expect, cX5_expect, 2, none)
abbrev M_X5_refuseMore : MethodName × ByteArray × Nat × Option FieldType := (yX5_refuseMore, cX5_refuseMore, 1, none)
abbrev M_X5_refuse : MethodName × ByteArray × Nat × Option FieldType := (yX5_refuse, cX5_refuse, 1, some FieldType.int)
abbrev M_X5_isAtom : MethodName × ByteArray × Nat × Option FieldType := (yX5_isAtom, cX5_isAtom, 1, some FieldType.boolean)
abbrev M_X6_init : MethodName × ByteArray × Nat × Option FieldType := (yX6_init, cX6_init, 1, none)
abbrev M_X6_at : MethodName × ByteArray × Nat × Option FieldType := (yX6_at, cX6_at, 2, some (.object RX1))
abbrev M_X6_set : MethodName × ByteArray × Nat × Option FieldType := (yX6_set, cX6_set, 3, none)
abbrev M_X6_firstFree : MethodName × ByteArray × Nat × Option FieldType := (yX6_firstFree, cX6_firstFree, 4, some FieldType.int)
abbrev M_X6_present : MethodName × ByteArray × Nat × Option FieldType := (yX6_present, cX6_present, 5, some FieldType.int)
abbrev M_X6_nodes : MethodName × ByteArray × Nat × Option FieldType := (yX6_nodes, cX6_nodes, 6, some FieldType.int)
abbrev M_X6_loans : MethodName × ByteArray × Nat × Option FieldType := (yX6_loans, cX6_loans, 6, some FieldType.int)
abbrev M_X6_hasRoom : MethodName × ByteArray × Nat × Option FieldType := (yX6_hasRoom, cX6_hasRoom, 6, some FieldType.boolean)
abbrev M_X7_init : MethodName × ByteArray × Nat × Option FieldType := (yX7_init, cX7_init, 1, none)
abbrev M_X7_append : MethodName × ByteArray × Nat × Option FieldType := (yX7_append, cX7_append, 2, some FieldType.boolean)
abbrev M_X7_length : MethodName × ByteArray × Nat × Option FieldType := (yX7_length, cX7_length, 1, some FieldType.int)
abbrev M_X7_copy : MethodName × ByteArray × Nat × Option FieldType := (yX7_copy, cX7_copy, 3, some (FieldType.array FieldType.char))
abbrev M_X7_clear : MethodName × ByteArray × Nat × Option FieldType := (yX7_clear, cX7_clear, 1, none)
abbrev M_X8_init : MethodName × ByteArray × Nat × Option FieldType := (yX8_init, cX8_init, 1, none)
abbrev M_X8_append : MethodName × ByteArray × Nat × Option FieldType := (yX8_append, cX8_append, 2, some FieldType.boolean)
abbrev M_X8_length : MethodName × ByteArray × Nat × Option FieldType := (yX8_length, cX8_length, 1, some FieldType.int)
abbrev M_X8_at : MethodName × ByteArray × Nat × Option FieldType := (yX8_at, cX8_at, 2, some FieldType.int)
abbrev M_X8_clear : MethodName × ByteArray × Nat × Option FieldType := (yX8_clear, cX8_clear, 1, none)
abbrev M_X9_init : MethodName × ByteArray × Nat × Option FieldType := (yX9_init, cX9_init, 3, none)
abbrev M_X9_forget : MethodName × ByteArray × Nat × Option FieldType := (yX9_forget, cX9_forget, 1, none)
abbrev M_X9_number : MethodName × ByteArray × Nat × Option FieldType := (yX9_number, cX9_number, 3, some FieldType.int)
abbrev M_X9_tally : MethodName × ByteArray × Nat × Option FieldType := (yX9_tally, cX9_tally, 5, some FieldType.long)
abbrev M_X9_tallyByKind : MethodName × ByteArray × Nat × Option FieldType := (yX9_tallyByKind, cX9_tallyByKind, 7, some FieldType.long)
abbrev M_X9_tallySplits : MethodName × ByteArray × Nat × Option FieldType := (yX9_tallySplits, cX9_tallySplits, 11, some FieldType.long)
abbrev M_X9_tallyAtom : MethodName × ByteArray × Nat × Option FieldType := (yX9_tallyAtom, cX9_tallyAtom, 9, some FieldType.long)
abbrev M_X9_tallyFace : MethodName × ByteArray × Nat × Option FieldType := (yX9_tallyFace, cX9_tallyFace, 4, some FieldType.long)
abbrev M_X9_capped : MethodName × ByteArray × Nat × Option FieldType := (yX9_capped, cX9_capped, 2, some FieldType.long)
abbrev M_X10_init : MethodName × ByteArray × Nat × Option FieldType := (yX10_init, cX10_init, 1, none)
abbrev M_X10_say : MethodName × ByteArray × Nat × Option FieldType := (yX10_say, cX10_say, 2, some FieldType.int)
abbrev M_X10_wipe : MethodName × ByteArray × Nat × Option FieldType := (yX10_wipe, cX10_wipe, 2, some FieldType.int)
abbrev M_X10_resource : MethodName × ByteArray × Nat × Option FieldType := (yX10_resource, cX10_resource, 1, some FieldType.int)
abbrev M_X10_well : MethodName × ByteArray × Nat × Option FieldType := (yX10_well, cX10_well, 1, some FieldType.int)
abbrev M_X10_goal : MethodName × ByteArray × Nat × Option FieldType := (yX10_goal, cX10_goal, 2, some FieldType.int)
abbrev M_X10_drop : MethodName × ByteArray × Nat × Option FieldType := (yX10_drop, cX10_drop, 3, some FieldType.int)
abbrev M_X10_height : MethodName × ByteArray × Nat × Option FieldType := (yX10_height, cX10_height, 2, some FieldType.int)
abbrev M_X10_left : MethodName × ByteArray × Nat × Option FieldType := (yX10_left, cX10_left, 6, some FieldType.int)
abbrev M_X10_ways : MethodName × ByteArray × Nat × Option FieldType := (yX10_ways, cX10_ways, 3, some FieldType.int)
abbrev M_X10_fewest : MethodName × ByteArray × Nat × Option FieldType := (yX10_fewest, cX10_fewest, 5, some FieldType.int)
abbrev M_X10_needed : MethodName × ByteArray × Nat × Option FieldType := (yX10_needed, cX10_needed, 5, some FieldType.int)
abbrev M_X10_term : MethodName × ByteArray × Nat × Option FieldType := (yX10_term, cX10_term, 2, some FieldType.int)
abbrev M_X10_uses : MethodName × ByteArray × Nat × Option FieldType := (yX10_uses, cX10_uses, 3, some FieldType.int)
abbrev M_X10_put : MethodName × ByteArray × Nat × Option FieldType := (yX10_put, cX10_put, 2, some FieldType.int)
abbrev M_X10_trial : MethodName × ByteArray × Nat × Option FieldType := (yX10_trial, cX10_trial, 3, some FieldType.int)
abbrev M_X10_check : MethodName × ByteArray × Nat × Option FieldType := (yX10_check, cX10_check, 2, some FieldType.int)
abbrev M_X10_count : MethodName × ByteArray × Nat × Option FieldType := (yX10_count, cX10_count, 2, some FieldType.int)
abbrev M_X10_readText : MethodName × ByteArray × Nat × Option FieldType := (yX10_readText, cX10_readText, 4, some (.object RX1))
abbrev M_X10_takeOffer : MethodName × ByteArray × Nat × Option FieldType := (yX10_takeOffer, cX10_takeOffer, 5, some FieldType.int)
abbrev M_X10_settle : MethodName × ByteArray × Nat × Option FieldType := (yX10_settle, cX10_settle, 3, none)
abbrev M_X10_dropNumbered : MethodName × ByteArray × Nat × Option FieldType := (yX10_dropNumbered, cX10_dropNumbered, 4, some FieldType.int)
abbrev M_X10_dropGoal : MethodName × ByteArray × Nat × Option FieldType := (yX10_dropGoal, cX10_dropGoal, 1, some FieldType.int)
abbrev M_X10_hasGoal : MethodName × ByteArray × Nat × Option FieldType := (yX10_hasGoal, cX10_hasGoal, 1, some FieldType.boolean)
abbrev M_X10_allResources : MethodName × ByteArray × Nat × Option FieldType := (yX10_allResources, cX10_allResources, 1, some FieldType.int)
abbrev M_X10_isSetOfResources : MethodName × ByteArray × Nat × Option FieldType := (yX10_isSetOfResources, cX10_isSetOfResources, 2, some FieldType.boolean)
abbrev M_X10_isProvable : MethodName × ByteArray × Nat × Option FieldType := (yX10_isProvable, cX10_isProvable, 2, some FieldType.boolean)
abbrev M_X10_savedPlaces : MethodName × ByteArray × Nat × Option FieldType := (yX10_savedPlaces, cX10_savedPlaces, 3, some FieldType.int)
abbrev M_X10_prepare : MethodName × ByteArray × Nat × Option FieldType := (yX10_prepare, cX10_prepare, 1, none)
abbrev M_X10_partsOf : MethodName × ByteArray × Nat × Option FieldType := (yX10_partsOf, cX10_partsOf, 1, some FieldType.int)
abbrev M_X10_nextPart : MethodName × ByteArray × Nat × Option FieldType := (yX10_nextPart, cX10_nextPart, 2, some FieldType.int)
abbrev M_J6_bitCount_0f7a4 : MethodName × ByteArray × Nat × Option FieldType := (yJ6_bitCount_0f7a4, cJ6_bitCount_0f7a4, 1, some FieldType.int)
abbrev M_J9_max_7cf53 : MethodName × ByteArray × Nat × Option FieldType := (yJ9_max_7cf53, cJ9_max_7cf53, 2, some FieldType.int)
abbrev M_J9_min_7cf53 : MethodName × ByteArray × Nat × Option FieldType := (yJ9_min_7cf53, cJ9_min_7cf53, 2, some FieldType.int)
abbrev M_J9_min_f86c9 : MethodName × ByteArray × Nat × Option FieldType := (yJ9_min_f86c9, cJ9_min_f86c9, 4, some FieldType.long)
abbrev M_L_cell : MethodName × ByteArray × Nat × Option FieldType := (yL_cell, cL_cell, 3, some FieldType.int)
abbrev M_L_atom : MethodName × ByteArray × Nat × Option FieldType := (yL_atom, cL_atom, 2, some FieldType.int)
abbrev M_L_goal : MethodName × ByteArray × Nat × Option FieldType := (yL_goal, cL_goal, 7, some FieldType.boolean)
abbrev M_L_offer : MethodName × ByteArray × Nat × Option FieldType := (yL_offer, cL_offer, 4, some FieldType.boolean)
abbrev M_L_lay : MethodName × ByteArray × Nat × Option FieldType := (yL_lay, cL_lay, 6, some FieldType.boolean)
abbrev M_L_areHeights : MethodName × ByteArray × Nat × Option FieldType := (yL_areHeights, cL_areHeights, 11, some FieldType.boolean)
abbrev M_L_isWay : MethodName × ByteArray × Nat × Option FieldType := (yL_isWay, cL_isWay, 9, some FieldType.boolean)
abbrev M_L_law : MethodName × ByteArray × Nat × Option FieldType := (yL_law, cL_law, 6, some .boolean)
