section
/-- a private method of a class that the tables say can be made, by its rows of tables_1 -/
def lw_okq (q : MethodName × Nat) : Prop := (q.1.cls ≠ "java/lang/invoke/MethodHandle" ∧ q.1.cls ≠ "java/lang/invoke/VarHandle") ∧ Cond.instantiable q.1.cls q.2 ∈ tables_1 ∧ Cond.privateMethod q.1 ∈ tables_1 ∧ Cond.instanceMethod q.1 ∈ tables_1
theorem lw_p0 : lw_okq (⟨"CastOffs$Reader", "readText", "(I)Z"⟩, 8) := ⟨⟨by decide +kernel, by decide +kernel⟩, List.mem_of_getElem? (i := 73) (by decide +kernel), List.mem_of_getElem? (i := 337) (by decide +kernel), List.mem_of_getElem? (i := 338) (by decide +kernel)⟩
theorem lw_p1 : lw_okq (⟨"CastOffs$Spit", "clear", "()V"⟩, 7) := ⟨⟨by decide +kernel, by decide +kernel⟩, List.mem_of_getElem? (i := 26) (by decide +kernel), List.mem_of_getElem? (i := 344) (by decide +kernel), List.mem_of_getElem? (i := 345) (by decide +kernel)⟩
theorem lw_p2 : lw_okq (⟨"CastOffs$Reader", "skipBlanks", "()V"⟩, 8) := ⟨⟨by decide +kernel, by decide +kernel⟩, List.mem_of_getElem? (i := 73) (by decide +kernel), List.mem_of_getElem? (i := 351) (by decide +kernel), List.mem_of_getElem? (i := 352) (by decide +kernel)⟩
theorem lw_p3 : lw_okq (⟨"CastOffs$Reader", "readClause", "()V"⟩, 8) := ⟨⟨by decide +kernel, by decide +kernel⟩, List.mem_of_getElem? (i := 73) (by decide +kernel), List.mem_of_getElem? (i := 355) (by decide +kernel), List.mem_of_getElem? (i := 356) (by decide +kernel)⟩
theorem lw_p4 : lw_okq (⟨"CastOffs$Reader", "isWord", "(Ljava/lang/String;I)Z"⟩, 8) := ⟨⟨by decide +kernel, by decide +kernel⟩, List.mem_of_getElem? (i := 73) (by decide +kernel), List.mem_of_getElem? (i := 360) (by decide +kernel), List.mem_of_getElem? (i := 361) (by decide +kernel)⟩
theorem lw_p5 : lw_okq (⟨"CastOffs$Reader", "readSorts", "(I)V"⟩, 8) := ⟨⟨by decide +kernel, by decide +kernel⟩, List.mem_of_getElem? (i := 73) (by decide +kernel), List.mem_of_getElem? (i := 412) (by decide +kernel), List.mem_of_getElem? (i := 413) (by decide +kernel)⟩
theorem lw_p6 : lw_okq (⟨"CastOffs$Reader", "fail", "(II)V"⟩, 8) := ⟨⟨by decide +kernel, by decide +kernel⟩, List.mem_of_getElem? (i := 73) (by decide +kernel), List.mem_of_getElem? (i := 416) (by decide +kernel), List.mem_of_getElem? (i := 417) (by decide +kernel)⟩
theorem lw_p7 : lw_okq (⟨"CastOffs$Reader", "readNumber", "(II)I"⟩, 8) := ⟨⟨by decide +kernel, by decide +kernel⟩, List.mem_of_getElem? (i := 73) (by decide +kernel), List.mem_of_getElem? (i := 420) (by decide +kernel), List.mem_of_getElem? (i := 421) (by decide +kernel)⟩
theorem lw_p8 : lw_okq (⟨"CastOffs$Reader", "numberFollows", "()Z"⟩, 8) := ⟨⟨by decide +kernel, by decide +kernel⟩, List.mem_of_getElem? (i := 73) (by decide +kernel), List.mem_of_getElem? (i := 424) (by decide +kernel), List.mem_of_getElem? (i := 425) (by decide +kernel)⟩
theorem lw_p9 : lw_okq (⟨"CastOffs$Reader", "readEnd", "()Z"⟩, 8) := ⟨⟨by decide +kernel, by decide +kernel⟩, List.mem_of_getElem? (i := 73) (by decide +kernel), List.mem_of_getElem? (i := 431) (by decide +kernel), List.mem_of_getElem? (i := 432) (by decide +kernel)⟩
theorem lw_p10 : lw_okq (⟨"CastOffs$Reader", "readHouse", "(I)V"⟩, 8) := ⟨⟨by decide +kernel, by decide +kernel⟩, List.mem_of_getElem? (i := 73) (by decide +kernel), List.mem_of_getElem? (i := 436) (by decide +kernel), List.mem_of_getElem? (i := 437) (by decide +kernel)⟩
theorem lw_p11 : lw_okq (⟨"CastOffs$Reader", "readWorth", "(I)V"⟩, 8) := ⟨⟨by decide +kernel, by decide +kernel⟩, List.mem_of_getElem? (i := 73) (by decide +kernel), List.mem_of_getElem? (i := 441) (by decide +kernel), List.mem_of_getElem? (i := 442) (by decide +kernel)⟩
theorem lw_p12 : lw_okq (⟨"CastOffs$Spit", "copyFrom", "(LCastOffs$Spit;)V"⟩, 7) := ⟨⟨by decide +kernel, by decide +kernel⟩, List.mem_of_getElem? (i := 26) (by decide +kernel), List.mem_of_getElem? (i := 445) (by decide +kernel), List.mem_of_getElem? (i := 446) (by decide +kernel)⟩
theorem lw_p13 : lw_okq (⟨"CastOffs$Stock", "layOut", "()V"⟩, 12) := ⟨⟨by decide +kernel, by decide +kernel⟩, List.mem_of_getElem? (i := 106) (by decide +kernel), List.mem_of_getElem? (i := 452) (by decide +kernel), List.mem_of_getElem? (i := 453) (by decide +kernel)⟩
theorem lw_p14 : lw_okq (⟨"CastOffs$Stock", "addPart", "(II)Z"⟩, 12) := ⟨⟨by decide +kernel, by decide +kernel⟩, List.mem_of_getElem? (i := 106) (by decide +kernel), List.mem_of_getElem? (i := 457) (by decide +kernel), List.mem_of_getElem? (i := 458) (by decide +kernel)⟩
theorem lw_p15 : lw_okq (⟨"CastOffs$Stock", "handOver", "(II)V"⟩, 12) := ⟨⟨by decide +kernel, by decide +kernel⟩, List.mem_of_getElem? (i := 106) (by decide +kernel), List.mem_of_getElem? (i := 461) (by decide +kernel), List.mem_of_getElem? (i := 462) (by decide +kernel)⟩
def lw_privs_1 : List (MethodName × Nat) := [(⟨"CastOffs$Reader", "readText", "(I)Z"⟩, 8), (⟨"CastOffs$Spit", "clear", "()V"⟩, 7), (⟨"CastOffs$Reader", "skipBlanks", "()V"⟩, 8), (⟨"CastOffs$Reader", "readClause", "()V"⟩, 8), (⟨"CastOffs$Reader", "isWord", "(Ljava/lang/String;I)Z"⟩, 8), (⟨"CastOffs$Reader", "readSorts", "(I)V"⟩, 8), (⟨"CastOffs$Reader", "fail", "(II)V"⟩, 8), (⟨"CastOffs$Reader", "readNumber", "(II)I"⟩, 8), (⟨"CastOffs$Reader", "numberFollows", "()Z"⟩, 8), (⟨"CastOffs$Reader", "readEnd", "()Z"⟩, 8), (⟨"CastOffs$Reader", "readHouse", "(I)V"⟩, 8), (⟨"CastOffs$Reader", "readWorth", "(I)V"⟩, 8), (⟨"CastOffs$Spit", "copyFrom", "(LCastOffs$Spit;)V"⟩, 7), (⟨"CastOffs$Stock", "layOut", "()V"⟩, 12), (⟨"CastOffs$Stock", "addPart", "(II)Z"⟩, 12), (⟨"CastOffs$Stock", "handOver", "(II)V"⟩, 12)]
theorem lw_r1 : ∀ q ∈ lw_privs_1, lw_okq q := List.forall_mem_cons.mpr ⟨lw_p0, List.forall_mem_cons.mpr ⟨lw_p1, List.forall_mem_cons.mpr ⟨lw_p2, List.forall_mem_cons.mpr ⟨lw_p3, List.forall_mem_cons.mpr ⟨lw_p4, List.forall_mem_cons.mpr ⟨lw_p5, List.forall_mem_cons.mpr ⟨lw_p6, List.forall_mem_cons.mpr ⟨lw_p7, List.forall_mem_cons.mpr ⟨lw_p8, List.forall_mem_cons.mpr ⟨lw_p9, List.forall_mem_cons.mpr ⟨lw_p10, List.forall_mem_cons.mpr ⟨lw_p11, List.forall_mem_cons.mpr ⟨lw_p12, List.forall_mem_cons.mpr ⟨lw_p13, List.forall_mem_cons.mpr ⟨lw_p14, List.forall_mem_cons.mpr ⟨lw_p15, fun _ h => absurd h List.not_mem_nil⟩⟩⟩⟩⟩⟩⟩⟩⟩⟩⟩⟩⟩⟩⟩⟩
theorem lw_p16 : lw_okq (⟨"CastOffs$Stock", "poorHouses", "()I"⟩, 12) := ⟨⟨by decide +kernel, by decide +kernel⟩, List.mem_of_getElem? (i := 106) (by decide +kernel), List.mem_of_getElem? (i := 474) (by decide +kernel), List.mem_of_getElem? (i := 475) (by decide +kernel)⟩
theorem lw_p17 : lw_okq (⟨"CastOffs$Stock", "countLying", "()I"⟩, 12) := ⟨⟨by decide +kernel, by decide +kernel⟩, List.mem_of_getElem? (i := 106) (by decide +kernel), List.mem_of_getElem? (i := 478) (by decide +kernel), List.mem_of_getElem? (i := 479) (by decide +kernel)⟩
theorem lw_p18 : lw_okq (⟨"CastOffs$Stock", "lies", "(I)Z"⟩, 12) := ⟨⟨by decide +kernel, by decide +kernel⟩, List.mem_of_getElem? (i := 106) (by decide +kernel), List.mem_of_getElem? (i := 482) (by decide +kernel), List.mem_of_getElem? (i := 483) (by decide +kernel)⟩
theorem lw_p19 : lw_okq (⟨"CastOffs$Spit", "isHouse", "(I)Z"⟩, 7) := ⟨⟨by decide +kernel, by decide +kernel⟩, List.mem_of_getElem? (i := 26) (by decide +kernel), List.mem_of_getElem? (i := 490) (by decide +kernel), List.mem_of_getElem? (i := 491) (by decide +kernel)⟩
theorem lw_p20 : lw_okq (⟨"CastOffs$Stock", "wealthOf", "(I)I"⟩, 12) := ⟨⟨by decide +kernel, by decide +kernel⟩, List.mem_of_getElem? (i := 106) (by decide +kernel), List.mem_of_getElem? (i := 495) (by decide +kernel), List.mem_of_getElem? (i := 496) (by decide +kernel)⟩
theorem lw_p21 : lw_okq (⟨"CastOffs$Spit", "worthOf", "(II)I"⟩, 7) := ⟨⟨by decide +kernel, by decide +kernel⟩, List.mem_of_getElem? (i := 26) (by decide +kernel), List.mem_of_getElem? (i := 499) (by decide +kernel), List.mem_of_getElem? (i := 500) (by decide +kernel)⟩
theorem lw_p22 : lw_okq (⟨"CastOffs$Stock", "sortsHad", "(I)I"⟩, 12) := ⟨⟨by decide +kernel, by decide +kernel⟩, List.mem_of_getElem? (i := 106) (by decide +kernel), List.mem_of_getElem? (i := 503) (by decide +kernel), List.mem_of_getElem? (i := 504) (by decide +kernel)⟩
theorem lw_p23 : lw_okq (⟨"CastOffs$Stock", "countInYard", "(I)I"⟩, 12) := ⟨⟨by decide +kernel, by decide +kernel⟩, List.mem_of_getElem? (i := 106) (by decide +kernel), List.mem_of_getElem? (i := 507) (by decide +kernel), List.mem_of_getElem? (i := 508) (by decide +kernel)⟩
theorem lw_p24 : lw_okq (⟨"CastOffs$Spit", "isSort", "(I)Z"⟩, 7) := ⟨⟨by decide +kernel, by decide +kernel⟩, List.mem_of_getElem? (i := 26) (by decide +kernel), List.mem_of_getElem? (i := 515) (by decide +kernel), List.mem_of_getElem? (i := 516) (by decide +kernel)⟩
theorem lw_p25 : lw_okq (⟨"CastOffs$Stock", "isPart", "(I)Z"⟩, 12) := ⟨⟨by decide +kernel, by decide +kernel⟩, List.mem_of_getElem? (i := 106) (by decide +kernel), List.mem_of_getElem? (i := 524) (by decide +kernel), List.mem_of_getElem? (i := 525) (by decide +kernel)⟩
theorem lw_p26 : lw_okq (⟨"CastOffs$Stock", "throwOut", "(II)Z"⟩, 12) := ⟨⟨by decide +kernel, by decide +kernel⟩, List.mem_of_getElem? (i := 106) (by decide +kernel), List.mem_of_getElem? (i := 536) (by decide +kernel), List.mem_of_getElem? (i := 537) (by decide +kernel)⟩
theorem lw_p27 : lw_okq (⟨"CastOffs$Stock", "carryHome", "(II)Z"⟩, 12) := ⟨⟨by decide +kernel, by decide +kernel⟩, List.mem_of_getElem? (i := 106) (by decide +kernel), List.mem_of_getElem? (i := 545) (by decide +kernel), List.mem_of_getElem? (i := 546) (by decide +kernel)⟩
theorem lw_p28 : lw_okq (⟨"CastOffs$Stock", "mayTake", "(II)Z"⟩, 12) := ⟨⟨by decide +kernel, by decide +kernel⟩, List.mem_of_getElem? (i := 106) (by decide +kernel), List.mem_of_getElem? (i := 549) (by decide +kernel), List.mem_of_getElem? (i := 550) (by decide +kernel)⟩
theorem lw_p29 : lw_okq (⟨"CastOffs$Stock", "firstAt", "(I)I"⟩, 12) := ⟨⟨by decide +kernel, by decide +kernel⟩, List.mem_of_getElem? (i := 106) (by decide +kernel), List.mem_of_getElem? (i := 563) (by decide +kernel), List.mem_of_getElem? (i := 564) (by decide +kernel)⟩
theorem lw_p30 : lw_okq (⟨"CastOffs$Stock", "gainOf", "(II)I"⟩, 12) := ⟨⟨by decide +kernel, by decide +kernel⟩, List.mem_of_getElem? (i := 106) (by decide +kernel), List.mem_of_getElem? (i := 567) (by decide +kernel), List.mem_of_getElem? (i := 568) (by decide +kernel)⟩
theorem lw_p31 : lw_okq (⟨"CastOffs$Stock", "liveWeeks", "(IZ)I"⟩, 12) := ⟨⟨by decide +kernel, by decide +kernel⟩, List.mem_of_getElem? (i := 106) (by decide +kernel), List.mem_of_getElem? (i := 578) (by decide +kernel), List.mem_of_getElem? (i := 579) (by decide +kernel)⟩
def lw_privs_2 : List (MethodName × Nat) := [(⟨"CastOffs$Stock", "poorHouses", "()I"⟩, 12), (⟨"CastOffs$Stock", "countLying", "()I"⟩, 12), (⟨"CastOffs$Stock", "lies", "(I)Z"⟩, 12), (⟨"CastOffs$Spit", "isHouse", "(I)Z"⟩, 7), (⟨"CastOffs$Stock", "wealthOf", "(I)I"⟩, 12), (⟨"CastOffs$Spit", "worthOf", "(II)I"⟩, 7), (⟨"CastOffs$Stock", "sortsHad", "(I)I"⟩, 12), (⟨"CastOffs$Stock", "countInYard", "(I)I"⟩, 12), (⟨"CastOffs$Spit", "isSort", "(I)Z"⟩, 7), (⟨"CastOffs$Stock", "isPart", "(I)Z"⟩, 12), (⟨"CastOffs$Stock", "throwOut", "(II)Z"⟩, 12), (⟨"CastOffs$Stock", "carryHome", "(II)Z"⟩, 12), (⟨"CastOffs$Stock", "mayTake", "(II)Z"⟩, 12), (⟨"CastOffs$Stock", "firstAt", "(I)I"⟩, 12), (⟨"CastOffs$Stock", "gainOf", "(II)I"⟩, 12), (⟨"CastOffs$Stock", "liveWeeks", "(IZ)I"⟩, 12)]
theorem lw_r2 : ∀ q ∈ lw_privs_2, lw_okq q := List.forall_mem_cons.mpr ⟨lw_p16, List.forall_mem_cons.mpr ⟨lw_p17, List.forall_mem_cons.mpr ⟨lw_p18, List.forall_mem_cons.mpr ⟨lw_p19, List.forall_mem_cons.mpr ⟨lw_p20, List.forall_mem_cons.mpr ⟨lw_p21, List.forall_mem_cons.mpr ⟨lw_p22, List.forall_mem_cons.mpr ⟨lw_p23, List.forall_mem_cons.mpr ⟨lw_p24, List.forall_mem_cons.mpr ⟨lw_p25, List.forall_mem_cons.mpr ⟨lw_p26, List.forall_mem_cons.mpr ⟨lw_p27, List.forall_mem_cons.mpr ⟨lw_p28, List.forall_mem_cons.mpr ⟨lw_p29, List.forall_mem_cons.mpr ⟨lw_p30, List.forall_mem_cons.mpr ⟨lw_p31, fun _ h => absurd h List.not_mem_nil⟩⟩⟩⟩⟩⟩⟩⟩⟩⟩⟩⟩⟩⟩⟩⟩
theorem lw_p32 : lw_okq (⟨"CastOffs$Stock", "comeByDraw", "()Z"⟩, 12) := ⟨⟨by decide +kernel, by decide +kernel⟩, List.mem_of_getElem? (i := 106) (by decide +kernel), List.mem_of_getElem? (i := 582) (by decide +kernel), List.mem_of_getElem? (i := 583) (by decide +kernel)⟩
theorem lw_p33 : lw_okq (⟨"CastOffs$Stock", "draw", "(I)I"⟩, 12) := ⟨⟨by decide +kernel, by decide +kernel⟩, List.mem_of_getElem? (i := 106) (by decide +kernel), List.mem_of_getElem? (i := 586) (by decide +kernel), List.mem_of_getElem? (i := 587) (by decide +kernel)⟩
theorem lw_p34 : lw_okq (⟨"CastOffs$Stock", "liveWeek", "()I"⟩, 12) := ⟨⟨by decide +kernel, by decide +kernel⟩, List.mem_of_getElem? (i := 106) (by decide +kernel), List.mem_of_getElem? (i := 594) (by decide +kernel), List.mem_of_getElem? (i := 595) (by decide +kernel)⟩
theorem lw_p35 : lw_okq (⟨"CastOffs$Stock", "partToTake", "(I)I"⟩, 12) := ⟨⟨by decide +kernel, by decide +kernel⟩, List.mem_of_getElem? (i := 106) (by decide +kernel), List.mem_of_getElem? (i := 598) (by decide +kernel), List.mem_of_getElem? (i := 599) (by decide +kernel)⟩
theorem lw_p36 : lw_okq (⟨"CastOffs$Stock", "throwSpare", "(I)V"⟩, 12) := ⟨⟨by decide +kernel, by decide +kernel⟩, List.mem_of_getElem? (i := 106) (by decide +kernel), List.mem_of_getElem? (i := 603) (by decide +kernel), List.mem_of_getElem? (i := 604) (by decide +kernel)⟩
theorem lw_p37 : lw_okq (⟨"CastOffs$Stock", "lossOf", "(II)I"⟩, 12) := ⟨⟨by decide +kernel, by decide +kernel⟩, List.mem_of_getElem? (i := 106) (by decide +kernel), List.mem_of_getElem? (i := 607) (by decide +kernel), List.mem_of_getElem? (i := 608) (by decide +kernel)⟩
theorem lw_p38 : lw_okq (⟨"CastOffs", "tryWithout", "(I)V"⟩, 15) := ⟨⟨by decide +kernel, by decide +kernel⟩, List.mem_of_getElem? (i := 18) (by decide +kernel), List.mem_of_getElem? (i := 629) (by decide +kernel), List.mem_of_getElem? (i := 630) (by decide +kernel)⟩
theorem lw_p39 : lw_okq (⟨"CastOffs$Stock", "copyFrom", "(LCastOffs$Stock;)V"⟩, 12) := ⟨⟨by decide +kernel, by decide +kernel⟩, List.mem_of_getElem? (i := 106) (by decide +kernel), List.mem_of_getElem? (i := 633) (by decide +kernel), List.mem_of_getElem? (i := 634) (by decide +kernel)⟩
theorem lw_p40 : lw_okq (⟨"CastOffs$Chain", "fewestFor", "(II)I"⟩, 4) := ⟨⟨by decide +kernel, by decide +kernel⟩, List.mem_of_getElem? (i := 193) (by decide +kernel), List.mem_of_getElem? (i := 642) (by decide +kernel), List.mem_of_getElem? (i := 643) (by decide +kernel)⟩
theorem lw_p41 : lw_okq (⟨"CastOffs$Chain", "queueLying", "()V"⟩, 4) := ⟨⟨by decide +kernel, by decide +kernel⟩, List.mem_of_getElem? (i := 193) (by decide +kernel), List.mem_of_getElem? (i := 646) (by decide +kernel), List.mem_of_getElem? (i := 647) (by decide +kernel)⟩
theorem lw_p42 : lw_okq (⟨"CastOffs$Chain", "enqueue", "(II)V"⟩, 4) := ⟨⟨by decide +kernel, by decide +kernel⟩, List.mem_of_getElem? (i := 193) (by decide +kernel), List.mem_of_getElem? (i := 651) (by decide +kernel), List.mem_of_getElem? (i := 652) (by decide +kernel)⟩
theorem lw_p43 : lw_okq (⟨"CastOffs$Chain", "swapAgainst", "(II)V"⟩, 4) := ⟨⟨by decide +kernel, by decide +kernel⟩, List.mem_of_getElem? (i := 193) (by decide +kernel), List.mem_of_getElem? (i := 655) (by decide +kernel), List.mem_of_getElem? (i := 656) (by decide +kernel)⟩
theorem lw_p44 : lw_okq (⟨"CastOffs$Stock", "betterBy", "(III)I"⟩, 12) := ⟨⟨by decide +kernel, by decide +kernel⟩, List.mem_of_getElem? (i := 106) (by decide +kernel), List.mem_of_getElem? (i := 659) (by decide +kernel), List.mem_of_getElem? (i := 660) (by decide +kernel)⟩
theorem lw_p45 : lw_okq (⟨"CastOffs$Rings", "findBest", "()V"⟩, 10) := ⟨⟨by decide +kernel, by decide +kernel⟩, List.mem_of_getElem? (i := 212) (by decide +kernel), List.mem_of_getElem? (i := 667) (by decide +kernel), List.mem_of_getElem? (i := 668) (by decide +kernel)⟩
theorem lw_p46 : lw_okq (⟨"CastOffs$Rings", "listChoices", "(I)V"⟩, 10) := ⟨⟨by decide +kernel, by decide +kernel⟩, List.mem_of_getElem? (i := 212) (by decide +kernel), List.mem_of_getElem? (i := 671) (by decide +kernel), List.mem_of_getElem? (i := 672) (by decide +kernel)⟩
theorem lw_p47 : lw_okq (⟨"CastOffs$Rings", "mostBetter", "(II)I"⟩, 10) := ⟨⟨by decide +kernel, by decide +kernel⟩, List.mem_of_getElem? (i := 212) (by decide +kernel), List.mem_of_getElem? (i := 675) (by decide +kernel), List.mem_of_getElem? (i := 676) (by decide +kernel)⟩
def lw_privs_3 : List (MethodName × Nat) := [(⟨"CastOffs$Stock", "comeByDraw", "()Z"⟩, 12), (⟨"CastOffs$Stock", "draw", "(I)I"⟩, 12), (⟨"CastOffs$Stock", "liveWeek", "()I"⟩, 12), (⟨"CastOffs$Stock", "partToTake", "(I)I"⟩, 12), (⟨"CastOffs$Stock", "throwSpare", "(I)V"⟩, 12), (⟨"CastOffs$Stock", "lossOf", "(II)I"⟩, 12), (⟨"CastOffs", "tryWithout", "(I)V"⟩, 15), (⟨"CastOffs$Stock", "copyFrom", "(LCastOffs$Stock;)V"⟩, 12), (⟨"CastOffs$Chain", "fewestFor", "(II)I"⟩, 4), (⟨"CastOffs$Chain", "queueLying", "()V"⟩, 4), (⟨"CastOffs$Chain", "enqueue", "(II)V"⟩, 4), (⟨"CastOffs$Chain", "swapAgainst", "(II)V"⟩, 4), (⟨"CastOffs$Stock", "betterBy", "(III)I"⟩, 12), (⟨"CastOffs$Rings", "findBest", "()V"⟩, 10), (⟨"CastOffs$Rings", "listChoices", "(I)V"⟩, 10), (⟨"CastOffs$Rings", "mostBetter", "(II)I"⟩, 10)]
theorem lw_r3 : ∀ q ∈ lw_privs_3, lw_okq q := List.forall_mem_cons.mpr ⟨lw_p32, List.forall_mem_cons.mpr ⟨lw_p33, List.forall_mem_cons.mpr ⟨lw_p34, List.forall_mem_cons.mpr ⟨lw_p35, List.forall_mem_cons.mpr ⟨lw_p36, List.forall_mem_cons.mpr ⟨lw_p37, List.forall_mem_cons.mpr ⟨lw_p38, List.forall_mem_cons.mpr ⟨lw_p39, List.forall_mem_cons.mpr ⟨lw_p40, List.forall_mem_cons.mpr ⟨lw_p41, List.forall_mem_cons.mpr ⟨lw_p42, List.forall_mem_cons.mpr ⟨lw_p43, List.forall_mem_cons.mpr ⟨lw_p44, List.forall_mem_cons.mpr ⟨lw_p45, List.forall_mem_cons.mpr ⟨lw_p46, List.forall_mem_cons.mpr ⟨lw_p47, fun _ h => absurd h List.not_mem_nil⟩⟩⟩⟩⟩⟩⟩⟩⟩⟩⟩⟩⟩⟩⟩⟩
theorem lw_p48 : lw_okq (⟨"CastOffs$Rings", "chooseGiver", "(III)V"⟩, 10) := ⟨⟨by decide +kernel, by decide +kernel⟩, List.mem_of_getElem? (i := 212) (by decide +kernel), List.mem_of_getElem? (i := 683) (by decide +kernel), List.mem_of_getElem? (i := 684) (by decide +kernel)⟩
theorem lw_p49 : lw_okq (⟨"CastOffs$Rings", "chooseThrown", "(II)V"⟩, 10) := ⟨⟨by decide +kernel, by decide +kernel⟩, List.mem_of_getElem? (i := 212) (by decide +kernel), List.mem_of_getElem? (i := 687) (by decide +kernel), List.mem_of_getElem? (i := 688) (by decide +kernel)⟩
theorem lw_p50 : lw_okq (⟨"CastOffs$Rings", "remember", "(I)V"⟩, 10) := ⟨⟨by decide +kernel, by decide +kernel⟩, List.mem_of_getElem? (i := 212) (by decide +kernel), List.mem_of_getElem? (i := 691) (by decide +kernel), List.mem_of_getElem? (i := 692) (by decide +kernel)⟩
theorem lw_p51 : lw_okq (⟨"CastOffs$Rings", "hopeLostBy", "(I)I"⟩, 10) := ⟨⟨by decide +kernel, by decide +kernel⟩, List.mem_of_getElem? (i := 212) (by decide +kernel), List.mem_of_getElem? (i := 696) (by decide +kernel), List.mem_of_getElem? (i := 697) (by decide +kernel)⟩
theorem lw_p52 : lw_okq (⟨"CastOffs$Rings", "partTakenBy", "(I)I"⟩, 10) := ⟨⟨by decide +kernel, by decide +kernel⟩, List.mem_of_getElem? (i := 212) (by decide +kernel), List.mem_of_getElem? (i := 700) (by decide +kernel), List.mem_of_getElem? (i := 701) (by decide +kernel)⟩
theorem lw_p53 : lw_okq (⟨"CastOffs$Spit", "stillMissing", "(J)J"⟩, 7) := ⟨⟨by decide +kernel, by decide +kernel⟩, List.mem_of_getElem? (i := 26) (by decide +kernel), List.mem_of_getElem? (i := 709) (by decide +kernel), List.mem_of_getElem? (i := 710) (by decide +kernel)⟩
theorem lw_p54 : lw_okq (⟨"CastOffs$Stock", "greatestGain", "(I)I"⟩, 12) := ⟨⟨by decide +kernel, by decide +kernel⟩, List.mem_of_getElem? (i := 106) (by decide +kernel), List.mem_of_getElem? (i := 717) (by decide +kernel), List.mem_of_getElem? (i := 718) (by decide +kernel)⟩
theorem lw_p55 : lw_okq (⟨"CastOffs$Turns", "setUp", "(III)V"⟩, 7) := ⟨⟨by decide +kernel, by decide +kernel⟩, List.mem_of_getElem? (i := 251) (by decide +kernel), List.mem_of_getElem? (i := 725) (by decide +kernel), List.mem_of_getElem? (i := 726) (by decide +kernel)⟩
theorem lw_p56 : lw_okq (⟨"CastOffs$Turns", "playOut", "(I)I"⟩, 7) := ⟨⟨by decide +kernel, by decide +kernel⟩, List.mem_of_getElem? (i := 251) (by decide +kernel), List.mem_of_getElem? (i := 732) (by decide +kernel), List.mem_of_getElem? (i := 733) (by decide +kernel)⟩
theorem lw_p57 : lw_okq (⟨"CastOffs$Turns", "bestOf", "(II)I"⟩, 7) := ⟨⟨by decide +kernel, by decide +kernel⟩, List.mem_of_getElem? (i := 251) (by decide +kernel), List.mem_of_getElem? (i := 737) (by decide +kernel), List.mem_of_getElem? (i := 738) (by decide +kernel)⟩
theorem lw_p58 : lw_okq (⟨"CastOffs$Turns", "valueOfTaking", "(III)I"⟩, 7) := ⟨⟨by decide +kernel, by decide +kernel⟩, List.mem_of_getElem? (i := 251) (by decide +kernel), List.mem_of_getElem? (i := 741) (by decide +kernel), List.mem_of_getElem? (i := 742) (by decide +kernel)⟩
theorem lw_p59 : lw_okq (⟨"CastOffs$Book", "enter", "(IIZ)Z"⟩, 4) := ⟨⟨by decide +kernel, by decide +kernel⟩, List.mem_of_getElem? (i := 172) (by decide +kernel), List.mem_of_getElem? (i := 751) (by decide +kernel), List.mem_of_getElem? (i := 752) (by decide +kernel)⟩
theorem lw_p60 : lw_okq (⟨"CastOffs$Book", "firstWrong", "(LCastOffs$Stock;)I"⟩, 4) := ⟨⟨by decide +kernel, by decide +kernel⟩, List.mem_of_getElem? (i := 172) (by decide +kernel), List.mem_of_getElem? (i := 763) (by decide +kernel), List.mem_of_getElem? (i := 764) (by decide +kernel)⟩
theorem lw_p61 : lw_okq (⟨"CastOffsModel", "here", "()I"⟩, 46) := ⟨⟨by decide +kernel, by decide +kernel⟩, List.mem_of_getElem? (i := 782) (by decide +kernel), List.mem_of_getElem? (i := 946) (by decide +kernel), List.mem_of_getElem? (i := 947) (by decide +kernel)⟩
theorem lw_p62 : lw_okq (⟨"CastOffsModel", "takeClause", "()I"⟩, 46) := ⟨⟨by decide +kernel, by decide +kernel⟩, List.mem_of_getElem? (i := 782) (by decide +kernel), List.mem_of_getElem? (i := 950) (by decide +kernel), List.mem_of_getElem? (i := 951) (by decide +kernel)⟩
theorem lw_p63 : lw_okq (⟨"CastOffsModel", "readWord", "()V"⟩, 46) := ⟨⟨by decide +kernel, by decide +kernel⟩, List.mem_of_getElem? (i := 782) (by decide +kernel), List.mem_of_getElem? (i := 954) (by decide +kernel), List.mem_of_getElem? (i := 955) (by decide +kernel)⟩
def lw_privs_4 : List (MethodName × Nat) := [(⟨"CastOffs$Rings", "chooseGiver", "(III)V"⟩, 10), (⟨"CastOffs$Rings", "chooseThrown", "(II)V"⟩, 10), (⟨"CastOffs$Rings", "remember", "(I)V"⟩, 10), (⟨"CastOffs$Rings", "hopeLostBy", "(I)I"⟩, 10), (⟨"CastOffs$Rings", "partTakenBy", "(I)I"⟩, 10), (⟨"CastOffs$Spit", "stillMissing", "(J)J"⟩, 7), (⟨"CastOffs$Stock", "greatestGain", "(I)I"⟩, 12), (⟨"CastOffs$Turns", "setUp", "(III)V"⟩, 7), (⟨"CastOffs$Turns", "playOut", "(I)I"⟩, 7), (⟨"CastOffs$Turns", "bestOf", "(II)I"⟩, 7), (⟨"CastOffs$Turns", "valueOfTaking", "(III)I"⟩, 7), (⟨"CastOffs$Book", "enter", "(IIZ)Z"⟩, 4), (⟨"CastOffs$Book", "firstWrong", "(LCastOffs$Stock;)I"⟩, 4), (⟨"CastOffsModel", "here", "()I"⟩, 46), (⟨"CastOffsModel", "takeClause", "()I"⟩, 46), (⟨"CastOffsModel", "readWord", "()V"⟩, 46)]
theorem lw_r4 : ∀ q ∈ lw_privs_4, lw_okq q := List.forall_mem_cons.mpr ⟨lw_p48, List.forall_mem_cons.mpr ⟨lw_p49, List.forall_mem_cons.mpr ⟨lw_p50, List.forall_mem_cons.mpr ⟨lw_p51, List.forall_mem_cons.mpr ⟨lw_p52, List.forall_mem_cons.mpr ⟨lw_p53, List.forall_mem_cons.mpr ⟨lw_p54, List.forall_mem_cons.mpr ⟨lw_p55, List.forall_mem_cons.mpr ⟨lw_p56, List.forall_mem_cons.mpr ⟨lw_p57, List.forall_mem_cons.mpr ⟨lw_p58, List.forall_mem_cons.mpr ⟨lw_p59, List.forall_mem_cons.mpr ⟨lw_p60, List.forall_mem_cons.mpr ⟨lw_p61, List.forall_mem_cons.mpr ⟨lw_p62, List.forall_mem_cons.mpr ⟨lw_p63, fun _ h => absurd h List.not_mem_nil⟩⟩⟩⟩⟩⟩⟩⟩⟩⟩⟩⟩⟩⟩⟩⟩
theorem lw_p64 : lw_okq (⟨"CastOffsModel", "fails", "(II)I"⟩, 46) := ⟨⟨by decide +kernel, by decide +kernel⟩, List.mem_of_getElem? (i := 782) (by decide +kernel), List.mem_of_getElem? (i := 967) (by decide +kernel), List.mem_of_getElem? (i := 968) (by decide +kernel)⟩
theorem lw_p65 : lw_okq (⟨"CastOffsModel", "takeNumber", "(II)I"⟩, 46) := ⟨⟨by decide +kernel, by decide +kernel⟩, List.mem_of_getElem? (i := 782) (by decide +kernel), List.mem_of_getElem? (i := 971) (by decide +kernel), List.mem_of_getElem? (i := 972) (by decide +kernel)⟩
theorem lw_p66 : lw_okq (⟨"CastOffsModel", "takeHouse", "()I"⟩, 46) := ⟨⟨by decide +kernel, by decide +kernel⟩, List.mem_of_getElem? (i := 782) (by decide +kernel), List.mem_of_getElem? (i := 977) (by decide +kernel), List.mem_of_getElem? (i := 978) (by decide +kernel)⟩
theorem lw_p67 : lw_okq (⟨"CastOffsModel", "takeWorth", "()I"⟩, 46) := ⟨⟨by decide +kernel, by decide +kernel⟩, List.mem_of_getElem? (i := 782) (by decide +kernel), List.mem_of_getElem? (i := 981) (by decide +kernel), List.mem_of_getElem? (i := 982) (by decide +kernel)⟩
theorem lw_p68 : lw_okq (⟨"CastOffsModel", "poor", "()I"⟩, 46) := ⟨⟨by decide +kernel, by decide +kernel⟩, List.mem_of_getElem? (i := 782) (by decide +kernel), List.mem_of_getElem? (i := 994) (by decide +kernel), List.mem_of_getElem? (i := 995) (by decide +kernel)⟩
theorem lw_p69 : lw_okq (⟨"CastOffsModel", "countOf", "(I)I"⟩, 46) := ⟨⟨by decide +kernel, by decide +kernel⟩, List.mem_of_getElem? (i := 782) (by decide +kernel), List.mem_of_getElem? (i := 998) (by decide +kernel), List.mem_of_getElem? (i := 999) (by decide +kernel)⟩
theorem lw_p70 : lw_okq (⟨"CastOffsModel", "isHouse", "(I)Z"⟩, 46) := ⟨⟨by decide +kernel, by decide +kernel⟩, List.mem_of_getElem? (i := 782) (by decide +kernel), List.mem_of_getElem? (i := 1006) (by decide +kernel), List.mem_of_getElem? (i := 1007) (by decide +kernel)⟩
theorem lw_p71 : lw_okq (⟨"CastOffsModel", "wealthOf", "(I)I"⟩, 46) := ⟨⟨by decide +kernel, by decide +kernel⟩, List.mem_of_getElem? (i := 782) (by decide +kernel), List.mem_of_getElem? (i := 1011) (by decide +kernel), List.mem_of_getElem? (i := 1012) (by decide +kernel)⟩
theorem lw_p72 : lw_okq (⟨"CastOffsModel", "sortsOf", "(I)I"⟩, 46) := ⟨⟨by decide +kernel, by decide +kernel⟩, List.mem_of_getElem? (i := 782) (by decide +kernel), List.mem_of_getElem? (i := 1015) (by decide +kernel), List.mem_of_getElem? (i := 1016) (by decide +kernel)⟩
theorem lw_p73 : lw_okq (⟨"CastOffsModel", "worthOf", "(II)I"⟩, 46) := ⟨⟨by decide +kernel, by decide +kernel⟩, List.mem_of_getElem? (i := 782) (by decide +kernel), List.mem_of_getElem? (i := 1019) (by decide +kernel), List.mem_of_getElem? (i := 1020) (by decide +kernel)⟩
theorem lw_p74 : lw_okq (⟨"CastOffsModel", "inYard", "(I)I"⟩, 46) := ⟨⟨by decide +kernel, by decide +kernel⟩, List.mem_of_getElem? (i := 782) (by decide +kernel), List.mem_of_getElem? (i := 1026) (by decide +kernel), List.mem_of_getElem? (i := 1027) (by decide +kernel)⟩
theorem lw_p75 : lw_okq (⟨"CastOffsModel", "isSort", "(I)Z"⟩, 46) := ⟨⟨by decide +kernel, by decide +kernel⟩, List.mem_of_getElem? (i := 782) (by decide +kernel), List.mem_of_getElem? (i := 1034) (by decide +kernel), List.mem_of_getElem? (i := 1035) (by decide +kernel)⟩
theorem lw_p76 : lw_okq (⟨"CastOffsModel", "isPart", "(I)Z"⟩, 46) := ⟨⟨by decide +kernel, by decide +kernel⟩, List.mem_of_getElem? (i := 782) (by decide +kernel), List.mem_of_getElem? (i := 1042) (by decide +kernel), List.mem_of_getElem? (i := 1043) (by decide +kernel)⟩
theorem lw_p77 : lw_okq (⟨"CastOffsModel", "tossNow", "(II)V"⟩, 46) := ⟨⟨by decide +kernel, by decide +kernel⟩, List.mem_of_getElem? (i := 782) (by decide +kernel), List.mem_of_getElem? (i := 1055) (by decide +kernel), List.mem_of_getElem? (i := 1056) (by decide +kernel)⟩
theorem lw_p78 : lw_okq (⟨"CastOffsModel", "mayTake", "(II)Z"⟩, 46) := ⟨⟨by decide +kernel, by decide +kernel⟩, List.mem_of_getElem? (i := 782) (by decide +kernel), List.mem_of_getElem? (i := 1063) (by decide +kernel), List.mem_of_getElem? (i := 1064) (by decide +kernel)⟩
theorem lw_p79 : lw_okq (⟨"CastOffsModel", "takeNow", "(II)V"⟩, 46) := ⟨⟨by decide +kernel, by decide +kernel⟩, List.mem_of_getElem? (i := 782) (by decide +kernel), List.mem_of_getElem? (i := 1067) (by decide +kernel), List.mem_of_getElem? (i := 1068) (by decide +kernel)⟩
def lw_privs_5 : List (MethodName × Nat) := [(⟨"CastOffsModel", "fails", "(II)I"⟩, 46), (⟨"CastOffsModel", "takeNumber", "(II)I"⟩, 46), (⟨"CastOffsModel", "takeHouse", "()I"⟩, 46), (⟨"CastOffsModel", "takeWorth", "()I"⟩, 46), (⟨"CastOffsModel", "poor", "()I"⟩, 46), (⟨"CastOffsModel", "countOf", "(I)I"⟩, 46), (⟨"CastOffsModel", "isHouse", "(I)Z"⟩, 46), (⟨"CastOffsModel", "wealthOf", "(I)I"⟩, 46), (⟨"CastOffsModel", "sortsOf", "(I)I"⟩, 46), (⟨"CastOffsModel", "worthOf", "(II)I"⟩, 46), (⟨"CastOffsModel", "inYard", "(I)I"⟩, 46), (⟨"CastOffsModel", "isSort", "(I)Z"⟩, 46), (⟨"CastOffsModel", "isPart", "(I)Z"⟩, 46), (⟨"CastOffsModel", "tossNow", "(II)V"⟩, 46), (⟨"CastOffsModel", "mayTake", "(II)Z"⟩, 46), (⟨"CastOffsModel", "takeNow", "(II)V"⟩, 46)]
theorem lw_r5 : ∀ q ∈ lw_privs_5, lw_okq q := List.forall_mem_cons.mpr ⟨lw_p64, List.forall_mem_cons.mpr ⟨lw_p65, List.forall_mem_cons.mpr ⟨lw_p66, List.forall_mem_cons.mpr ⟨lw_p67, List.forall_mem_cons.mpr ⟨lw_p68, List.forall_mem_cons.mpr ⟨lw_p69, List.forall_mem_cons.mpr ⟨lw_p70, List.forall_mem_cons.mpr ⟨lw_p71, List.forall_mem_cons.mpr ⟨lw_p72, List.forall_mem_cons.mpr ⟨lw_p73, List.forall_mem_cons.mpr ⟨lw_p74, List.forall_mem_cons.mpr ⟨lw_p75, List.forall_mem_cons.mpr ⟨lw_p76, List.forall_mem_cons.mpr ⟨lw_p77, List.forall_mem_cons.mpr ⟨lw_p78, List.forall_mem_cons.mpr ⟨lw_p79, fun _ h => absurd h List.not_mem_nil⟩⟩⟩⟩⟩⟩⟩⟩⟩⟩⟩⟩⟩⟩⟩⟩
theorem lw_p80 : lw_okq (⟨"CastOffsModel", "ashoreNow", "(I)I"⟩, 46) := ⟨⟨by decide +kernel, by decide +kernel⟩, List.mem_of_getElem? (i := 782) (by decide +kernel), List.mem_of_getElem? (i := 1075) (by decide +kernel), List.mem_of_getElem? (i := 1076) (by decide +kernel)⟩
theorem lw_p81 : lw_okq (⟨"CastOffsModel", "gainOf", "(II)I"⟩, 46) := ⟨⟨by decide +kernel, by decide +kernel⟩, List.mem_of_getElem? (i := 782) (by decide +kernel), List.mem_of_getElem? (i := 1083) (by decide +kernel), List.mem_of_getElem? (i := 1084) (by decide +kernel)⟩
theorem lw_p82 : lw_okq (⟨"CastOffsModel", "weekNow", "()I"⟩, 46) := ⟨⟨by decide +kernel, by decide +kernel⟩, List.mem_of_getElem? (i := 782) (by decide +kernel), List.mem_of_getElem? (i := 1095) (by decide +kernel), List.mem_of_getElem? (i := 1096) (by decide +kernel)⟩
theorem lw_p83 : lw_okq (⟨"CastOffsModel", "bestTake", "(I)I"⟩, 46) := ⟨⟨by decide +kernel, by decide +kernel⟩, List.mem_of_getElem? (i := 782) (by decide +kernel), List.mem_of_getElem? (i := 1099) (by decide +kernel), List.mem_of_getElem? (i := 1100) (by decide +kernel)⟩
theorem lw_p84 : lw_okq (⟨"CastOffsModel", "isIdle", "(II)Z"⟩, 46) := ⟨⟨by decide +kernel, by decide +kernel⟩, List.mem_of_getElem? (i := 782) (by decide +kernel), List.mem_of_getElem? (i := 1103) (by decide +kernel), List.mem_of_getElem? (i := 1104) (by decide +kernel)⟩
theorem lw_p85 : lw_okq (⟨"CastOffsModel", "draw", "(I)I"⟩, 46) := ⟨⟨by decide +kernel, by decide +kernel⟩, List.mem_of_getElem? (i := 782) (by decide +kernel), List.mem_of_getElem? (i := 1111) (by decide +kernel), List.mem_of_getElem? (i := 1112) (by decide +kernel)⟩
theorem lw_p86 : lw_okq (⟨"CastOffsModel", "save", "(I)V"⟩, 46) := ⟨⟨by decide +kernel, by decide +kernel⟩, List.mem_of_getElem? (i := 782) (by decide +kernel), List.mem_of_getElem? (i := 1128) (by decide +kernel), List.mem_of_getElem? (i := 1129) (by decide +kernel)⟩
theorem lw_p87 : lw_okq (⟨"CastOffsModel", "load", "(I)V"⟩, 46) := ⟨⟨by decide +kernel, by decide +kernel⟩, List.mem_of_getElem? (i := 782) (by decide +kernel), List.mem_of_getElem? (i := 1132) (by decide +kernel), List.mem_of_getElem? (i := 1133) (by decide +kernel)⟩
theorem lw_p88 : lw_okq (⟨"CastOffsModel", "fromOf", "(I)I"⟩, 46) := ⟨⟨by decide +kernel, by decide +kernel⟩, List.mem_of_getElem? (i := 782) (by decide +kernel), List.mem_of_getElem? (i := 1140) (by decide +kernel), List.mem_of_getElem? (i := 1141) (by decide +kernel)⟩
theorem lw_p89 : lw_okq (⟨"CastOffsModel", "betterBy", "(III)I"⟩, 46) := ⟨⟨by decide +kernel, by decide +kernel⟩, List.mem_of_getElem? (i := 782) (by decide +kernel), List.mem_of_getElem? (i := 1144) (by decide +kernel), List.mem_of_getElem? (i := 1145) (by decide +kernel)⟩
theorem lw_p90 : lw_okq (⟨"CastOffsModel", "findRings", "()I"⟩, 46) := ⟨⟨by decide +kernel, by decide +kernel⟩, List.mem_of_getElem? (i := 782) (by decide +kernel), List.mem_of_getElem? (i := 1152) (by decide +kernel), List.mem_of_getElem? (i := 1153) (by decide +kernel)⟩
theorem lw_p91 : lw_okq (⟨"CastOffsModel", "areRings", "(I)Z"⟩, 46) := ⟨⟨by decide +kernel, by decide +kernel⟩, List.mem_of_getElem? (i := 782) (by decide +kernel), List.mem_of_getElem? (i := 1156) (by decide +kernel), List.mem_of_getElem? (i := 1157) (by decide +kernel)⟩
theorem lw_p92 : lw_okq (⟨"CastOffsModel", "areThrown", "(I)Z"⟩, 46) := ⟨⟨by decide +kernel, by decide +kernel⟩, List.mem_of_getElem? (i := 782) (by decide +kernel), List.mem_of_getElem? (i := 1160) (by decide +kernel), List.mem_of_getElem? (i := 1161) (by decide +kernel)⟩
theorem lw_p93 : lw_okq (⟨"CastOffsModel", "partOf", "(II)I"⟩, 46) := ⟨⟨by decide +kernel, by decide +kernel⟩, List.mem_of_getElem? (i := 782) (by decide +kernel), List.mem_of_getElem? (i := 1164) (by decide +kernel), List.mem_of_getElem? (i := 1165) (by decide +kernel)⟩
theorem lw_p94 : lw_okq (⟨"CastOffsModel", "ringsSum", "()I"⟩, 46) := ⟨⟨by decide +kernel, by decide +kernel⟩, List.mem_of_getElem? (i := 782) (by decide +kernel), List.mem_of_getElem? (i := 1168) (by decide +kernel), List.mem_of_getElem? (i := 1169) (by decide +kernel)⟩
theorem lw_p95 : lw_okq (⟨"CastOffsModel", "oddsBy", "(I)J"⟩, 46) := ⟨⟨by decide +kernel, by decide +kernel⟩, List.mem_of_getElem? (i := 782) (by decide +kernel), List.mem_of_getElem? (i := 1177) (by decide +kernel), List.mem_of_getElem? (i := 1178) (by decide +kernel)⟩
def lw_privs_6 : List (MethodName × Nat) := [(⟨"CastOffsModel", "ashoreNow", "(I)I"⟩, 46), (⟨"CastOffsModel", "gainOf", "(II)I"⟩, 46), (⟨"CastOffsModel", "weekNow", "()I"⟩, 46), (⟨"CastOffsModel", "bestTake", "(I)I"⟩, 46), (⟨"CastOffsModel", "isIdle", "(II)Z"⟩, 46), (⟨"CastOffsModel", "draw", "(I)I"⟩, 46), (⟨"CastOffsModel", "save", "(I)V"⟩, 46), (⟨"CastOffsModel", "load", "(I)V"⟩, 46), (⟨"CastOffsModel", "fromOf", "(I)I"⟩, 46), (⟨"CastOffsModel", "betterBy", "(III)I"⟩, 46), (⟨"CastOffsModel", "findRings", "()I"⟩, 46), (⟨"CastOffsModel", "areRings", "(I)Z"⟩, 46), (⟨"CastOffsModel", "areThrown", "(I)Z"⟩, 46), (⟨"CastOffsModel", "partOf", "(II)I"⟩, 46), (⟨"CastOffsModel", "ringsSum", "()I"⟩, 46), (⟨"CastOffsModel", "oddsBy", "(I)J"⟩, 46)]
theorem lw_r6 : ∀ q ∈ lw_privs_6, lw_okq q := List.forall_mem_cons.mpr ⟨lw_p80, List.forall_mem_cons.mpr ⟨lw_p81, List.forall_mem_cons.mpr ⟨lw_p82, List.forall_mem_cons.mpr ⟨lw_p83, List.forall_mem_cons.mpr ⟨lw_p84, List.forall_mem_cons.mpr ⟨lw_p85, List.forall_mem_cons.mpr ⟨lw_p86, List.forall_mem_cons.mpr ⟨lw_p87, List.forall_mem_cons.mpr ⟨lw_p88, List.forall_mem_cons.mpr ⟨lw_p89, List.forall_mem_cons.mpr ⟨lw_p90, List.forall_mem_cons.mpr ⟨lw_p91, List.forall_mem_cons.mpr ⟨lw_p92, List.forall_mem_cons.mpr ⟨lw_p93, List.forall_mem_cons.mpr ⟨lw_p94, List.forall_mem_cons.mpr ⟨lw_p95, fun _ h => absurd h List.not_mem_nil⟩⟩⟩⟩⟩⟩⟩⟩⟩⟩⟩⟩⟩⟩⟩⟩
theorem lw_p96 : lw_okq (⟨"CastOffsModel", "findLie", "(I)V"⟩, 46) := ⟨⟨by decide +kernel, by decide +kernel⟩, List.mem_of_getElem? (i := 782) (by decide +kernel), List.mem_of_getElem? (i := 1191) (by decide +kernel), List.mem_of_getElem? (i := 1192) (by decide +kernel)⟩
theorem lw_p97 : lw_okq (⟨"CastOffsModel", "endOf", "(IIII)I"⟩, 46) := ⟨⟨by decide +kernel, by decide +kernel⟩, List.mem_of_getElem? (i := 782) (by decide +kernel), List.mem_of_getElem? (i := 1198) (by decide +kernel), List.mem_of_getElem? (i := 1199) (by decide +kernel)⟩
theorem lw_p98 : lw_okq (⟨"CastOffsModel", "mayBe", "(III)Z"⟩, 46) := ⟨⟨by decide +kernel, by decide +kernel⟩, List.mem_of_getElem? (i := 782) (by decide +kernel), List.mem_of_getElem? (i := 1202) (by decide +kernel), List.mem_of_getElem? (i := 1203) (by decide +kernel)⟩
def lw_privs_7 : List (MethodName × Nat) := [(⟨"CastOffsModel", "findLie", "(I)V"⟩, 46), (⟨"CastOffsModel", "endOf", "(IIII)I"⟩, 46), (⟨"CastOffsModel", "mayBe", "(III)Z"⟩, 46)]
theorem lw_r7 : ∀ q ∈ lw_privs_7, lw_okq q := List.forall_mem_cons.mpr ⟨lw_p96, List.forall_mem_cons.mpr ⟨lw_p97, List.forall_mem_cons.mpr ⟨lw_p98, fun _ h => absurd h List.not_mem_nil⟩⟩⟩
def lw_privs : List (MethodName × Nat) := lw_privs_1 ++ (lw_privs_2 ++ (lw_privs_3 ++ (lw_privs_4 ++ (lw_privs_5 ++ (lw_privs_6 ++ (lw_privs_7))))))
def lw_tbl : List Cond := k2_sels lw_privs ++ tables_1
theorem lw_privs_ok : ∀ q ∈ lw_privs, lw_okq q := by
  show ∀ q ∈ lw_privs_1 ++ (lw_privs_2 ++ (lw_privs_3 ++ (lw_privs_4 ++ (lw_privs_5 ++ (lw_privs_6 ++ (lw_privs_7)))))), lw_okq q
  exact List.forall_mem_append.mpr ⟨lw_r1, List.forall_mem_append.mpr ⟨lw_r2, List.forall_mem_append.mpr ⟨lw_r3, List.forall_mem_append.mpr ⟨lw_r4, List.forall_mem_append.mpr ⟨lw_r5, List.forall_mem_append.mpr ⟨lw_r6, lw_r7⟩⟩⟩⟩⟩⟩
end
section
def RX0 : String := "CastOffs$Book"
def TX0 : u_T := fun k => match k with
  | 0 => ("CastOffs$Book", "entries", "I", false)
  | 1 => ("CastOffs$Book", "house", "[I", true)
  | 2 => ("CastOffs$Book", "part", "[I", true)
  | _ => ("CastOffs$Book", "took", "[Z", true)
def tyX0 : Nat → FieldType := fun k => match k with
  | 0 => .int
  | 1 => .array .int
  | 2 => .array .int
  | _ => .array .boolean
theorem nmX0 : ∀ a, a < 4 → ∀ b, b < 4 → a ≠ b → (TX0 a).2.1 ≠ (TX0 b).2.1 := by decide +kernel
theorem tyX0_ok : ∀ k, k < 4 → parseFieldDescriptor (TX0 k).2.2.1 = some (tyX0 k) := by decide +kernel
abbrev cX0_init : ByteArray := prog_2_method_1_code
def yX0_init : MethodName := ⟨RX0, "<init>", "()V"⟩
abbrev cX0_enter : ByteArray := prog_2_method_2_code
def yX0_enter : MethodName := ⟨RX0, "enter", "(IIZ)Z"⟩
abbrev cX0_firstWrong : ByteArray := prog_2_method_3_code
def yX0_firstWrong : MethodName := ⟨RX0, "firstWrong", "(LCastOffs$Stock;)I"⟩
def RX1 : String := "CastOffs$Chain"
def TX1 : u_T := fun k => match k with
  | 0 => ("CastOffs$Chain", "stock", "LCastOffs$Stock;", true)
  | 1 => ("CastOffs$Chain", "swapsTo", "[I", true)
  | 2 => ("CastOffs$Chain", "queue", "[I", true)
  | _ => ("CastOffs$Chain", "queued", "I", false)
def tyX1 : Nat → FieldType := fun k => match k with
  | 0 => .object "CastOffs$Stock"
  | 1 => .array .int
  | 2 => .array .int
  | _ => .int
theorem nmX1 : ∀ a, a < 4 → ∀ b, b < 4 → a ≠ b → (TX1 a).2.1 ≠ (TX1 b).2.1 := by decide +kernel
theorem tyX1_ok : ∀ k, k < 4 → parseFieldDescriptor (TX1 k).2.2.1 = some (tyX1 k) := by decide +kernel
abbrev cX1_init : ByteArray := prog_3_method_1_code
def yX1_init : MethodName := ⟨RX1, "<init>", "(LCastOffs$Stock;)V"⟩
abbrev cX1_fewestFor : ByteArray := prog_3_method_2_code
def yX1_fewestFor : MethodName := ⟨RX1, "fewestFor", "(II)I"⟩
abbrev cX1_queueLying : ByteArray := prog_3_method_3_code
def yX1_queueLying : MethodName := ⟨RX1, "queueLying", "()V"⟩
abbrev cX1_swapAgainst : ByteArray := prog_3_method_4_code
def yX1_swapAgainst : MethodName := ⟨RX1, "swapAgainst", "(II)V"⟩
abbrev cX1_enqueue : ByteArray := prog_3_method_5_code
def yX1_enqueue : MethodName := ⟨RX1, "enqueue", "(II)V"⟩
def RX2 : String := "CastOffs$Reader"
def TX2 : u_T := fun k => match k with
  | 0 => ("CastOffs$Reader", "text", "[C", true)
  | 1 => ("CastOffs$Reader", "draft", "LCastOffs$Spit;", true)
  | 2 => ("CastOffs$Reader", "length", "I", false)
  | 3 => ("CastOffs$Reader", "at", "I", false)
  | 4 => ("CastOffs$Reader", "worths", "I", false)
  | 5 => ("CastOffs$Reader", "pairsTold", "I", false)
  | 6 => ("CastOffs$Reader", "faultKind", "I", false)
  | _ => ("CastOffs$Reader", "faultAt", "I", false)
def tyX2 : Nat → FieldType := fun k => match k with
  | 0 => .array .char
  | 1 => .object "CastOffs$Spit"
  | 2 => .int
  | 3 => .int
  | 4 => .int
  | 5 => .int
  | 6 => .int
  | _ => .int
theorem nmX2 : ∀ a, a < 8 → ∀ b, b < 8 → a ≠ b → (TX2 a).2.1 ≠ (TX2 b).2.1 := by decide +kernel
theorem tyX2_ok : ∀ k, k < 8 → parseFieldDescriptor (TX2 k).2.2.1 = some (tyX2 k) := by decide +kernel
abbrev cX2_init : ByteArray := prog_4_method_1_code
def yX2_init : MethodName := ⟨RX2, "<init>", "([CLCastOffs$Spit;)V"⟩
abbrev cX2_readText : ByteArray := prog_4_method_2_code
def yX2_readText : MethodName := ⟨RX2, "readText", "(I)Z"⟩
abbrev cX2_readClause : ByteArray := prog_4_method_3_code
def yX2_readClause : MethodName := ⟨RX2, "readClause", "()V"⟩
abbrev cX2_readSorts : ByteArray := prog_4_method_4_code
def yX2_readSorts : MethodName := ⟨RX2, "readSorts", "(I)V"⟩
abbrev cX2_readHouse : ByteArray := prog_4_method_5_code
def yX2_readHouse : MethodName := ⟨RX2, "readHouse", "(I)V"⟩
abbrev cX2_readWorth : ByteArray := prog_4_method_6_code
def yX2_readWorth : MethodName := ⟨RX2, "readWorth", "(I)V"⟩
abbrev cX2_readNumber : ByteArray := prog_4_method_7_code
def yX2_readNumber : MethodName := ⟨RX2, "readNumber", "(II)I"⟩
abbrev cX2_readEnd : ByteArray := prog_4_method_8_code
def yX2_readEnd : MethodName := ⟨RX2, "readEnd", "()Z"⟩
abbrev cX2_numberFollows : ByteArray := prog_4_method_9_code
def yX2_numberFollows : MethodName := ⟨RX2, "numberFollows", "()Z"⟩
abbrev cX2_skipBlanks : ByteArray := prog_4_method_10_code
def yX2_skipBlanks : MethodName := ⟨RX2, "skipBlanks", "()V"⟩
abbrev cX2_isFigure : ByteArray := prog_4_method_11_code
def yX2_isFigure : MethodName := ⟨RX2, "isFigure", "(C)Z"⟩
abbrev cX2_isWord : ByteArray := prog_4_method_12_code
def yX2_isWord : MethodName := ⟨RX2, "isWord", "(Ljava/lang/String;I)Z"⟩
abbrev cX2_fail : ByteArray := prog_4_method_13_code
def yX2_fail : MethodName := ⟨RX2, "fail", "(II)V"⟩
def RX3 : String := "CastOffs$Rings"
def TX3 : u_T := fun k => match k with
  | 0 => ("CastOffs$Rings", "stock", "LCastOffs$Stock;", true)
  | 1 => ("CastOffs$Rings", "houses", "I", false)
  | 2 => ("CastOffs$Rings", "bestSum", "I", false)
  | 3 => ("CastOffs$Rings", "giver", "[I", true)
  | 4 => ("CastOffs$Rings", "thrown", "[I", true)
  | 5 => ("CastOffs$Rings", "bestGiver", "[I", true)
  | 6 => ("CastOffs$Rings", "bestThrown", "[I", true)
  | 7 => ("CastOffs$Rings", "choices", "[I", true)
  | 8 => ("CastOffs$Rings", "choiceCount", "[I", true)
  | _ => ("CastOffs$Rings", "mostFrom", "[I", true)
def tyX3 : Nat → FieldType := fun k => match k with
  | 0 => .object "CastOffs$Stock"
  | 1 => .int
  | 2 => .int
  | 3 => .array .int
  | 4 => .array .int
  | 5 => .array .int
  | 6 => .array .int
  | 7 => .array .int
  | 8 => .array .int
  | _ => .array .int
theorem nmX3 : ∀ a, a < 10 → ∀ b, b < 10 → a ≠ b → (TX3 a).2.1 ≠ (TX3 b).2.1 := by decide +kernel
theorem tyX3_ok : ∀ k, k < 10 → parseFieldDescriptor (TX3 k).2.2.1 = some (tyX3 k) := by decide +kernel
abbrev cX3_init : ByteArray := prog_5_method_1_code
def yX3_init : MethodName := ⟨RX3, "<init>", "(LCastOffs$Stock;)V"⟩
abbrev cX3_findBest : ByteArray := prog_5_method_2_code
def yX3_findBest : MethodName := ⟨RX3, "findBest", "()V"⟩
abbrev cX3_partTakenBy : ByteArray := prog_5_method_3_code
def yX3_partTakenBy : MethodName := ⟨RX3, "partTakenBy", "(I)I"⟩
abbrev cX3_listChoices : ByteArray := prog_5_method_4_code
def yX3_listChoices : MethodName := ⟨RX3, "listChoices", "(I)V"⟩
abbrev cX3_mostBetter : ByteArray := prog_5_method_5_code
def yX3_mostBetter : MethodName := ⟨RX3, "mostBetter", "(II)I"⟩
abbrev cX3_chooseGiver : ByteArray := prog_5_method_6_code
def yX3_chooseGiver : MethodName := ⟨RX3, "chooseGiver", "(III)V"⟩
abbrev cX3_chooseThrown : ByteArray := prog_5_method_7_code
def yX3_chooseThrown : MethodName := ⟨RX3, "chooseThrown", "(II)V"⟩
abbrev cX3_hopeLostBy : ByteArray := prog_5_method_8_code
def yX3_hopeLostBy : MethodName := ⟨RX3, "hopeLostBy", "(I)I"⟩
abbrev cX3_remember : ByteArray := prog_5_method_9_code
def yX3_remember : MethodName := ⟨RX3, "remember", "(I)V"⟩
def RX4 : String := "CastOffs$Spit"
def TX4 : u_T := fun k => match k with
  | 0 => ("CastOffs$Spit", "sorts", "I", false)
  | 1 => ("CastOffs$Spit", "houses", "I", false)
  | 2 => ("CastOffs$Spit", "parts", "I", false)
  | 3 => ("CastOffs$Spit", "place", "[I", true)
  | 4 => ("CastOffs$Spit", "partSort", "[I", true)
  | 5 => ("CastOffs$Spit", "partHouse", "[I", true)
  | _ => ("CastOffs$Spit", "worthTo", "[I", true)
def tyX4 : Nat → FieldType := fun k => match k with
  | 0 => .int
  | 1 => .int
  | 2 => .int
  | 3 => .array .int
  | 4 => .array .int
  | 5 => .array .int
  | _ => .array .int
theorem nmX4 : ∀ a, a < 7 → ∀ b, b < 7 → a ≠ b → (TX4 a).2.1 ≠ (TX4 b).2.1 := by decide +kernel
theorem tyX4_ok : ∀ k, k < 7 → parseFieldDescriptor (TX4 k).2.2.1 = some (tyX4 k) := by decide +kernel
abbrev cX4_init : ByteArray := prog_6_method_1_code
def yX4_init : MethodName := ⟨RX4, "<init>", "()V"⟩
abbrev cX4_clear : ByteArray := prog_6_method_2_code
def yX4_clear : MethodName := ⟨RX4, "clear", "()V"⟩
abbrev cX4_copyFrom : ByteArray := prog_6_method_3_code
def yX4_copyFrom : MethodName := ⟨RX4, "copyFrom", "(LCastOffs$Spit;)V"⟩
abbrev cX4_isHouse : ByteArray := prog_6_method_4_code
def yX4_isHouse : MethodName := ⟨RX4, "isHouse", "(I)Z"⟩
abbrev cX4_isSort : ByteArray := prog_6_method_5_code
def yX4_isSort : MethodName := ⟨RX4, "isSort", "(I)Z"⟩
abbrev cX4_worthOf : ByteArray := prog_6_method_6_code
def yX4_worthOf : MethodName := ⟨RX4, "worthOf", "(II)I"⟩
abbrev cX4_stillMissing : ByteArray := prog_6_method_7_code
def yX4_stillMissing : MethodName := ⟨RX4, "stillMissing", "(J)J"⟩
def RX5 : String := "CastOffs$Stock"
def TX5 : u_T := fun k => match k with
  | 0 => ("CastOffs$Stock", "spit", "LCastOffs$Spit;", true)
  | 1 => ("CastOffs$Stock", "count", "I", false)
  | 2 => ("CastOffs$Stock", "weeks", "I", false)
  | 3 => ("CastOffs$Stock", "seedNow", "I", false)
  | 4 => ("CastOffs$Stock", "moves", "I", false)
  | 5 => ("CastOffs$Stock", "sort", "[I", true)
  | 6 => ("CastOffs$Stock", "owner", "[I", true)
  | 7 => ("CastOffs$Stock", "yard", "[I", true)
  | 8 => ("CastOffs$Stock", "handCount", "[I", true)
  | 9 => ("CastOffs$Stock", "handHouse", "[I", true)
  | 10 => ("CastOffs$Stock", "held", "[I", true)
  | _ => ("CastOffs$Stock", "heldOfSort", "[I", true)
def tyX5 : Nat → FieldType := fun k => match k with
  | 0 => .object "CastOffs$Spit"
  | 1 => .int
  | 2 => .int
  | 3 => .int
  | 4 => .int
  | 5 => .array .int
  | 6 => .array .int
  | 7 => .array .int
  | 8 => .array .int
  | 9 => .array .int
  | 10 => .array .int
  | _ => .array .int
theorem nmX5 : ∀ a, a < 12 → ∀ b, b < 12 → a ≠ b → (TX5 a).2.1 ≠ (TX5 b).2.1 := by decide +kernel
theorem tyX5_ok : ∀ k, k < 12 → parseFieldDescriptor (TX5 k).2.2.1 = some (tyX5 k) := by decide +kernel
abbrev cX5_init : ByteArray := prog_7_method_1_code
def yX5_init : MethodName := ⟨RX5, "<init>", "(LCastOffs$Spit;)V"⟩
abbrev cX5_layOut : ByteArray := prog_7_method_2_code
def yX5_layOut : MethodName := ⟨RX5, "layOut", "()V"⟩
abbrev cX5_copyFrom : ByteArray := prog_7_method_3_code
def yX5_copyFrom : MethodName := ⟨RX5, "copyFrom", "(LCastOffs$Stock;)V"⟩
abbrev cX5_isPart : ByteArray := prog_7_method_4_code
def yX5_isPart : MethodName := ⟨RX5, "isPart", "(I)Z"⟩
abbrev cX5_lies : ByteArray := prog_7_method_5_code
def yX5_lies : MethodName := ⟨RX5, "lies", "(I)Z"⟩
abbrev cX5_mayTake : ByteArray := prog_7_method_6_code
def yX5_mayTake : MethodName := ⟨RX5, "mayTake", "(II)Z"⟩
abbrev cX5_addPart : ByteArray := prog_7_method_7_code
def yX5_addPart : MethodName := ⟨RX5, "addPart", "(II)Z"⟩
abbrev cX5_throwOut : ByteArray := prog_7_method_8_code
def yX5_throwOut : MethodName := ⟨RX5, "throwOut", "(II)Z"⟩
abbrev cX5_carryHome : ByteArray := prog_7_method_9_code
def yX5_carryHome : MethodName := ⟨RX5, "carryHome", "(II)Z"⟩
abbrev cX5_handOver : ByteArray := prog_7_method_10_code
def yX5_handOver : MethodName := ⟨RX5, "handOver", "(II)V"⟩
abbrev cX5_gainOf : ByteArray := prog_7_method_11_code
def yX5_gainOf : MethodName := ⟨RX5, "gainOf", "(II)I"⟩
abbrev cX5_lossOf : ByteArray := prog_7_method_12_code
def yX5_lossOf : MethodName := ⟨RX5, "lossOf", "(II)I"⟩
abbrev cX5_betterBy : ByteArray := prog_7_method_13_code
def yX5_betterBy : MethodName := ⟨RX5, "betterBy", "(III)I"⟩
abbrev cX5_wealthOf : ByteArray := prog_7_method_14_code
def yX5_wealthOf : MethodName := ⟨RX5, "wealthOf", "(I)I"⟩
abbrev cX5_sortsHad : ByteArray := prog_7_method_15_code
def yX5_sortsHad : MethodName := ⟨RX5, "sortsHad", "(I)I"⟩
abbrev cX5_poorHouses : ByteArray := prog_7_method_16_code
def yX5_poorHouses : MethodName := ⟨RX5, "poorHouses", "()I"⟩
abbrev cX5_countLying : ByteArray := prog_7_method_17_code
def yX5_countLying : MethodName := ⟨RX5, "countLying", "()I"⟩
abbrev cX5_countInYard : ByteArray := prog_7_method_18_code
def yX5_countInYard : MethodName := ⟨RX5, "countInYard", "(I)I"⟩
abbrev cX5_firstAt : ByteArray := prog_7_method_19_code
def yX5_firstAt : MethodName := ⟨RX5, "firstAt", "(I)I"⟩
abbrev cX5_partToTake : ByteArray := prog_7_method_20_code
def yX5_partToTake : MethodName := ⟨RX5, "partToTake", "(I)I"⟩
abbrev cX5_greatestGain : ByteArray := prog_7_method_21_code
def yX5_greatestGain : MethodName := ⟨RX5, "greatestGain", "(I)I"⟩
abbrev cX5_liveWeeks : ByteArray := prog_7_method_22_code
def yX5_liveWeeks : MethodName := ⟨RX5, "liveWeeks", "(IZ)I"⟩
abbrev cX5_liveWeek : ByteArray := prog_7_method_23_code
def yX5_liveWeek : MethodName := ⟨RX5, "liveWeek", "()I"⟩
abbrev cX5_throwSpare : ByteArray := prog_7_method_24_code
def yX5_throwSpare : MethodName := ⟨RX5, "throwSpare", "(I)V"⟩
abbrev cX5_comeByDraw : ByteArray := prog_7_method_25_code
def yX5_comeByDraw : MethodName := ⟨RX5, "comeByDraw", "()Z"⟩
abbrev cX5_draw : ByteArray := prog_7_method_26_code
def yX5_draw : MethodName := ⟨RX5, "draw", "(I)I"⟩
def RX6 : String := "CastOffs$Turns"
def TX6 : u_T := fun k => match k with
  | 0 => ("CastOffs$Turns", "stock", "LCastOffs$Stock;", true)
  | 1 => ("CastOffs$Turns", "player", "[I", true)
  | 2 => ("CastOffs$Turns", "room", "[I", true)
  | 3 => ("CastOffs$Turns", "had", "[I", true)
  | 4 => ("CastOffs$Turns", "left", "[I", true)
  | 5 => ("CastOffs$Turns", "leastPart", "[I", true)
  | _ => ("CastOffs$Turns", "partTakenFirst", "I", false)
def tyX6 : Nat → FieldType := fun k => match k with
  | 0 => .object "CastOffs$Stock"
  | 1 => .array .int
  | 2 => .array .int
  | 3 => .array .int
  | 4 => .array .int
  | 5 => .array .int
  | _ => .int
theorem nmX6 : ∀ a, a < 7 → ∀ b, b < 7 → a ≠ b → (TX6 a).2.1 ≠ (TX6 b).2.1 := by decide +kernel
theorem tyX6_ok : ∀ k, k < 7 → parseFieldDescriptor (TX6 k).2.2.1 = some (tyX6 k) := by decide +kernel
abbrev cX6_init : ByteArray := prog_8_method_1_code
def yX6_init : MethodName := ⟨RX6, "<init>", "(LCastOffs$Stock;)V"⟩
abbrev cX6_setUp : ByteArray := prog_8_method_2_code
def yX6_setUp : MethodName := ⟨RX6, "setUp", "(III)V"⟩
abbrev cX6_playOut : ByteArray := prog_8_method_3_code
def yX6_playOut : MethodName := ⟨RX6, "playOut", "(I)I"⟩
abbrev cX6_bestOf : ByteArray := prog_8_method_4_code
def yX6_bestOf : MethodName := ⟨RX6, "bestOf", "(II)I"⟩
abbrev cX6_valueOfTaking : ByteArray := prog_8_method_5_code
def yX6_valueOfTaking : MethodName := ⟨RX6, "valueOfTaking", "(III)I"⟩
def RX7 : String := "CastOffs"
def TX7 : u_T := fun k => match k with
  | 0 => ("CastOffs", "text", "[C", true)
  | 1 => ("CastOffs", "textLength", "I", false)
  | 2 => ("CastOffs", "faultAt", "I", false)
  | 3 => ("CastOffs", "shoreline", "LCastOffs$Spit;", true)
  | 4 => ("CastOffs", "draft", "LCastOffs$Spit;", true)
  | 5 => ("CastOffs", "reader", "LCastOffs$Reader;", true)
  | 6 => ("CastOffs", "now", "LCastOffs$Stock;", true)
  | 7 => ("CastOffs", "trial", "LCastOffs$Stock;", true)
  | 8 => ("CastOffs", "images", "[LCastOffs$Stock;", true)
  | 9 => ("CastOffs", "kept", "[Z", true)
  | 10 => ("CastOffs", "book", "LCastOffs$Book;", true)
  | 11 => ("CastOffs", "swaps", "LCastOffs$Chain;", true)
  | 12 => ("CastOffs", "ringSearch", "LCastOffs$Rings;", true)
  | 13 => ("CastOffs", "game", "LCastOffs$Turns;", true)
  | _ => ("CastOffs", "wealthWithout", "[I", true)
def tyX7 : Nat → FieldType := fun k => match k with
  | 0 => .array .char
  | 1 => .int
  | 2 => .int
  | 3 => .object "CastOffs$Spit"
  | 4 => .object "CastOffs$Spit"
  | 5 => .object "CastOffs$Reader"
  | 6 => .object "CastOffs$Stock"
  | 7 => .object "CastOffs$Stock"
  | 8 => .array (.object "CastOffs$Stock")
  | 9 => .array .boolean
  | 10 => .object "CastOffs$Book"
  | 11 => .object "CastOffs$Chain"
  | 12 => .object "CastOffs$Rings"
  | 13 => .object "CastOffs$Turns"
  | _ => .array .int
theorem nmX7 : ∀ a, a < 15 → ∀ b, b < 15 → a ≠ b → (TX7 a).2.1 ≠ (TX7 b).2.1 := by decide +kernel
theorem tyX7_ok : ∀ k, k < 15 → parseFieldDescriptor (TX7 k).2.2.1 = some (tyX7 k) := by decide +kernel
abbrev cX7_init : ByteArray := prog_1_method_1_code
def yX7_init : MethodName := ⟨RX7, "<init>", "()V"⟩
abbrev cX7_feed : ByteArray := prog_1_method_2_code
def yX7_feed : MethodName := ⟨RX7, "feed", "(IJ)I"⟩
abbrev cX7_spit : ByteArray := prog_1_method_3_code
def yX7_spit : MethodName := ⟨RX7, "spit", "()I"⟩
abbrev cX7_fault : ByteArray := prog_1_method_4_code
def yX7_fault : MethodName := ⟨RX7, "fault", "()I"⟩
abbrev cX7_told : ByteArray := prog_1_method_5_code
def yX7_told : MethodName := ⟨RX7, "told", "(I)I"⟩
abbrev cX7_house : ByteArray := prog_1_method_6_code
def yX7_house : MethodName := ⟨RX7, "house", "(II)I"⟩
abbrev cX7_worth : ByteArray := prog_1_method_7_code
def yX7_worth : MethodName := ⟨RX7, "worth", "(II)I"⟩
abbrev cX7_part : ByteArray := prog_1_method_8_code
def yX7_part : MethodName := ⟨RX7, "part", "(II)I"⟩
abbrev cX7_hand : ByteArray := prog_1_method_9_code
def yX7_hand : MethodName := ⟨RX7, "hand", "(II)I"⟩
abbrev cX7_toss : ByteArray := prog_1_method_10_code
def yX7_toss : MethodName := ⟨RX7, "toss", "(II)I"⟩
abbrev cX7_take : ByteArray := prog_1_method_11_code
def yX7_take : MethodName := ⟨RX7, "take", "(II)I"⟩
abbrev cX7_ashore : ByteArray := prog_1_method_12_code
def yX7_ashore : MethodName := ⟨RX7, "ashore", "(I)I"⟩
abbrev cX7_first : ByteArray := prog_1_method_13_code
def yX7_first : MethodName := ⟨RX7, "first", "(I)I"⟩
abbrev cX7_week : ByteArray := prog_1_method_14_code
def yX7_week : MethodName := ⟨RX7, "week", "(I)I"⟩
abbrev cX7_drift : ByteArray := prog_1_method_15_code
def yX7_drift : MethodName := ⟨RX7, "drift", "(I)I"⟩
abbrev cX7_begin : ByteArray := prog_1_method_16_code
def yX7_begin : MethodName := ⟨RX7, "begin", "()I"⟩
abbrev cX7_gain : ByteArray := prog_1_method_17_code
def yX7_gain : MethodName := ⟨RX7, "gain", "(II)I"⟩
abbrev cX7_down : ByteArray := prog_1_method_18_code
def yX7_down : MethodName := ⟨RX7, "down", "(III)I"⟩
abbrev cX7_chain : ByteArray := prog_1_method_19_code
def yX7_chain : MethodName := ⟨RX7, "chain", "(II)I"⟩
abbrev cX7_rings : ByteArray := prog_1_method_20_code
def yX7_rings : MethodName := ⟨RX7, "rings", "(II)I"⟩
abbrev cX7_odds : ByteArray := prog_1_method_21_code
def yX7_odds : MethodName := ⟨RX7, "odds", "(II)I"⟩
abbrev cX7_waits : ByteArray := prog_1_method_22_code
def yX7_waits : MethodName := ⟨RX7, "waits", "(III)I"⟩
abbrev cX7_turnsAt : ByteArray := prog_1_method_23_code
def yX7_turnsAt : MethodName := ⟨RX7, "turnsAt", "(IIIII)I"⟩
abbrev cX7_write : ByteArray := prog_1_method_24_code
def yX7_write : MethodName := ⟨RX7, "write", "(IIZ)I"⟩
abbrev cX7_tear : ByteArray := prog_1_method_25_code
def yX7_tear : MethodName := ⟨RX7, "tear", "()I"⟩
abbrev cX7_judge : ByteArray := prog_1_method_26_code
def yX7_judge : MethodName := ⟨RX7, "judge", "()I"⟩
abbrev cX7_seed : ByteArray := prog_1_method_27_code
def yX7_seed : MethodName := ⟨RX7, "seed", "(I)I"⟩
abbrev cX7_keep : ByteArray := prog_1_method_28_code
def yX7_keep : MethodName := ⟨RX7, "keep", "(I)I"⟩
abbrev cX7_goBack : ByteArray := prog_1_method_29_code
def yX7_goBack : MethodName := ⟨RX7, "goBack", "(I)I"⟩
abbrev cX7_tryWithout : ByteArray := prog_1_method_30_code
def yX7_tryWithout : MethodName := ⟨RX7, "tryWithout", "(I)V"⟩
def RX8 : String := "CastOffsModel"
def TX8 : u_T := fun k => match k with
  | 0 => ("CastOffsModel", "sorts", "I", false)
  | 1 => ("CastOffsModel", "houses", "I", false)
  | 2 => ("CastOffsModel", "place", "[I", true)
  | 3 => ("CastOffsModel", "worths", "[I", true)
  | 4 => ("CastOffsModel", "toldParts", "I", false)
  | 5 => ("CastOffsModel", "toldSort", "[I", true)
  | 6 => ("CastOffsModel", "toldHome", "[I", true)
  | 7 => ("CastOffsModel", "parts", "I", false)
  | 8 => ("CastOffsModel", "sort", "[I", true)
  | 9 => ("CastOffsModel", "owner", "[I", true)
  | 10 => ("CastOffsModel", "yard", "[I", true)
  | 11 => ("CastOffsModel", "hands", "[I", true)
  | 12 => ("CastOffsModel", "hand", "[I", true)
  | 13 => ("CastOffsModel", "week", "I", false)
  | 14 => ("CastOffsModel", "seed", "I", false)
  | 15 => ("CastOffsModel", "text", "[I", true)
  | 16 => ("CastOffsModel", "texted", "I", false)
  | 17 => ("CastOffsModel", "faultPlace", "I", false)
  | 18 => ("CastOffsModel", "at0", "I", false)
  | 19 => ("CastOffsModel", "said", "J", false)
  | 20 => ("CastOffsModel", "wordEnd", "I", false)
  | 21 => ("CastOffsModel", "number", "I", false)
  | 22 => ("CastOffsModel", "numberAt", "I", false)
  | 23 => ("CastOffsModel", "readSorts", "I", false)
  | 24 => ("CastOffsModel", "readHouses", "I", false)
  | 25 => ("CastOffsModel", "readPlace", "[I", true)
  | 26 => ("CastOffsModel", "readParts", "I", false)
  | 27 => ("CastOffsModel", "readSort", "[I", true)
  | 28 => ("CastOffsModel", "readHome", "[I", true)
  | 29 => ("CastOffsModel", "readWorths", "I", false)
  | 30 => ("CastOffsModel", "readWorth", "[I", true)
  | 31 => ("CastOffsModel", "without", "[I", true)
  | 32 => ("CastOffsModel", "steps", "[I", true)
  | 33 => ("CastOffsModel", "takesOf", "[I", true)
  | 34 => ("CastOffsModel", "throwsOf", "[I", true)
  | 35 => ("CastOffsModel", "bestTakes", "[I", true)
  | 36 => ("CastOffsModel", "bestThrows", "[I", true)
  | 37 => ("CastOffsModel", "lie", "[I", true)
  | 38 => ("CastOffsModel", "lies", "I", false)
  | 39 => ("CastOffsModel", "comes", "[I", true)
  | 40 => ("CastOffsModel", "booked", "I", false)
  | 41 => ("CastOffsModel", "bookHouse", "[I", true)
  | 42 => ("CastOffsModel", "bookPart", "[I", true)
  | 43 => ("CastOffsModel", "bookTook", "[Z", true)
  | 44 => ("CastOffsModel", "images", "[I", true)
  | _ => ("CastOffsModel", "isKept", "[Z", true)
def tyX8 : Nat → FieldType := fun k => match k with
  | 0 => .int
  | 1 => .int
  | 2 => .array .int
  | 3 => .array .int
  | 4 => .int
  | 5 => .array .int
  | 6 => .array .int
  | 7 => .int
  | 8 => .array .int
  | 9 => .array .int
  | 10 => .array .int
  | 11 => .array .int
  | 12 => .array .int
  | 13 => .int
  | 14 => .int
  | 15 => .array .int
  | 16 => .int
  | 17 => .int
  | 18 => .int
  | 19 => .long
  | 20 => .int
  | 21 => .int
  | 22 => .int
  | 23 => .int
  | 24 => .int
  | 25 => .array .int
  | 26 => .int
  | 27 => .array .int
  | 28 => .array .int
  | 29 => .int
  | 30 => .array .int
  | 31 => .array .int
  | 32 => .array .int
  | 33 => .array .int
  | 34 => .array .int
  | 35 => .array .int
  | 36 => .array .int
  | 37 => .array .int
  | 38 => .int
  | 39 => .array .int
  | 40 => .int
  | 41 => .array .int
  | 42 => .array .int
  | 43 => .array .boolean
  | 44 => .array .int
  | _ => .array .boolean
theorem nmX8 : ∀ a, a < 46 → ∀ b, b < 46 → a ≠ b → (TX8 a).2.1 ≠ (TX8 b).2.1 := by decide +kernel
theorem tyX8_ok : ∀ k, k < 46 → parseFieldDescriptor (TX8 k).2.2.1 = some (tyX8 k) := by decide +kernel
abbrev cX8_init : ByteArray := prog_10_method_1_code
def yX8_init : MethodName := ⟨RX8, "<init>", "()V"⟩
abbrev cX8_in : ByteArray := prog_10_method_3_code
def yX8_in : MethodName := ⟨RX8, "in", "(JJJ)Z"⟩
abbrev cX8_has : ByteArray := prog_10_method_4_code
def yX8_has : MethodName := ⟨RX8, "has", "(II)Z"⟩
abbrev cX8_size : ByteArray := prog_10_method_5_code
def yX8_size : MethodName := ⟨RX8, "size", "(I)I"⟩
abbrev cX8_isHouse : ByteArray := prog_10_method_6_code
def yX8_isHouse : MethodName := ⟨RX8, "isHouse", "(I)Z"⟩
abbrev cX8_isPart : ByteArray := prog_10_method_7_code
def yX8_isPart : MethodName := ⟨RX8, "isPart", "(I)Z"⟩
abbrev cX8_isSort : ByteArray := prog_10_method_8_code
def yX8_isSort : MethodName := ⟨RX8, "isSort", "(I)Z"⟩
abbrev cX8_begin : ByteArray := prog_10_method_9_code
def yX8_begin : MethodName := ⟨RX8, "begin", "()I"⟩
abbrev cX8_feed : ByteArray := prog_10_method_10_code
def yX8_feed : MethodName := ⟨RX8, "feed", "(IJ)I"⟩
abbrev cX8_here : ByteArray := prog_10_method_11_code
def yX8_here : MethodName := ⟨RX8, "here", "()I"⟩
abbrev cX8_fails : ByteArray := prog_10_method_12_code
def yX8_fails : MethodName := ⟨RX8, "fails", "(II)I"⟩
abbrev cX8_readWord : ByteArray := prog_10_method_13_code
def yX8_readWord : MethodName := ⟨RX8, "readWord", "()V"⟩
abbrev cX8_code : ByteArray := prog_10_method_14_code
def yX8_code : MethodName := ⟨RX8, "code", "(IIIII)J"⟩
abbrev cX8_takeNumber : ByteArray := prog_10_method_15_code
def yX8_takeNumber : MethodName := ⟨RX8, "takeNumber", "(II)I"⟩
abbrev cX8_takeHouse : ByteArray := prog_10_method_16_code
def yX8_takeHouse : MethodName := ⟨RX8, "takeHouse", "()I"⟩
abbrev cX8_takeWorth : ByteArray := prog_10_method_17_code
def yX8_takeWorth : MethodName := ⟨RX8, "takeWorth", "()I"⟩
abbrev cX8_takeClause : ByteArray := prog_10_method_18_code
def yX8_takeClause : MethodName := ⟨RX8, "takeClause", "()I"⟩
abbrev cX8_spit : ByteArray := prog_10_method_19_code
def yX8_spit : MethodName := ⟨RX8, "spit", "()I"⟩
abbrev cX8_fault : ByteArray := prog_10_method_20_code
def yX8_fault : MethodName := ⟨RX8, "fault", "()I"⟩
abbrev cX8_countOf : ByteArray := prog_10_method_21_code
def yX8_countOf : MethodName := ⟨RX8, "countOf", "(I)I"⟩
abbrev cX8_sortsOf : ByteArray := prog_10_method_22_code
def yX8_sortsOf : MethodName := ⟨RX8, "sortsOf", "(I)I"⟩
abbrev cX8_worthOf : ByteArray := prog_10_method_23_code
def yX8_worthOf : MethodName := ⟨RX8, "worthOf", "(II)I"⟩
abbrev cX8_wealthOf : ByteArray := prog_10_method_24_code
def yX8_wealthOf : MethodName := ⟨RX8, "wealthOf", "(I)I"⟩
abbrev cX8_inYard : ByteArray := prog_10_method_25_code
def yX8_inYard : MethodName := ⟨RX8, "inYard", "(I)I"⟩
abbrev cX8_poor : ByteArray := prog_10_method_26_code
def yX8_poor : MethodName := ⟨RX8, "poor", "()I"⟩
abbrev cX8_told : ByteArray := prog_10_method_27_code
def yX8_told : MethodName := ⟨RX8, "told", "(I)I"⟩
abbrev cX8_house : ByteArray := prog_10_method_28_code
def yX8_house : MethodName := ⟨RX8, "house", "(II)I"⟩
abbrev cX8_worth : ByteArray := prog_10_method_29_code
def yX8_worth : MethodName := ⟨RX8, "worth", "(II)I"⟩
abbrev cX8_part : ByteArray := prog_10_method_30_code
def yX8_part : MethodName := ⟨RX8, "part", "(II)I"⟩
abbrev cX8_hand : ByteArray := prog_10_method_31_code
def yX8_hand : MethodName := ⟨RX8, "hand", "(II)I"⟩
abbrev cX8_tossNow : ByteArray := prog_10_method_32_code
def yX8_tossNow : MethodName := ⟨RX8, "tossNow", "(II)V"⟩
abbrev cX8_takeNow : ByteArray := prog_10_method_33_code
def yX8_takeNow : MethodName := ⟨RX8, "takeNow", "(II)V"⟩
abbrev cX8_mayTake : ByteArray := prog_10_method_34_code
def yX8_mayTake : MethodName := ⟨RX8, "mayTake", "(II)Z"⟩
abbrev cX8_toss : ByteArray := prog_10_method_35_code
def yX8_toss : MethodName := ⟨RX8, "toss", "(II)I"⟩
abbrev cX8_take : ByteArray := prog_10_method_36_code
def yX8_take : MethodName := ⟨RX8, "take", "(II)I"⟩
abbrev cX8_ashoreNow : ByteArray := prog_10_method_37_code
def yX8_ashoreNow : MethodName := ⟨RX8, "ashoreNow", "(I)I"⟩
abbrev cX8_ashore : ByteArray := prog_10_method_38_code
def yX8_ashore : MethodName := ⟨RX8, "ashore", "(I)I"⟩
abbrev cX8_gainOf : ByteArray := prog_10_method_39_code
def yX8_gainOf : MethodName := ⟨RX8, "gainOf", "(II)I"⟩
abbrev cX8_first : ByteArray := prog_10_method_40_code
def yX8_first : MethodName := ⟨RX8, "first", "(I)I"⟩
abbrev cX8_isIdle : ByteArray := prog_10_method_41_code
def yX8_isIdle : MethodName := ⟨RX8, "isIdle", "(II)Z"⟩
abbrev cX8_bestTake : ByteArray := prog_10_method_42_code
def yX8_bestTake : MethodName := ⟨RX8, "bestTake", "(I)I"⟩
abbrev cX8_weekNow : ByteArray := prog_10_method_43_code
def yX8_weekNow : MethodName := ⟨RX8, "weekNow", "()I"⟩
abbrev cX8_week : ByteArray := prog_10_method_44_code
def yX8_week : MethodName := ⟨RX8, "week", "(I)I"⟩
abbrev cX8_draw : ByteArray := prog_10_method_45_code
def yX8_draw : MethodName := ⟨RX8, "draw", "(I)I"⟩
abbrev cX8_drift : ByteArray := prog_10_method_46_code
def yX8_drift : MethodName := ⟨RX8, "drift", "(I)I"⟩
abbrev cX8_gain : ByteArray := prog_10_method_47_code
def yX8_gain : MethodName := ⟨RX8, "gain", "(II)I"⟩
abbrev cX8_down : ByteArray := prog_10_method_48_code
def yX8_down : MethodName := ⟨RX8, "down", "(III)I"⟩
abbrev cX8_betterBy : ByteArray := prog_10_method_49_code
def yX8_betterBy : MethodName := ⟨RX8, "betterBy", "(III)I"⟩
abbrev cX8_fromOf : ByteArray := prog_10_method_50_code
def yX8_fromOf : MethodName := ⟨RX8, "fromOf", "(I)I"⟩
abbrev cX8_chain : ByteArray := prog_10_method_51_code
def yX8_chain : MethodName := ⟨RX8, "chain", "(II)I"⟩
abbrev cX8_areRings : ByteArray := prog_10_method_52_code
def yX8_areRings : MethodName := ⟨RX8, "areRings", "(I)Z"⟩
abbrev cX8_partOf : ByteArray := prog_10_method_53_code
def yX8_partOf : MethodName := ⟨RX8, "partOf", "(II)I"⟩
abbrev cX8_areThrown : ByteArray := prog_10_method_54_code
def yX8_areThrown : MethodName := ⟨RX8, "areThrown", "(I)Z"⟩
abbrev cX8_ringsSum : ByteArray := prog_10_method_55_code
def yX8_ringsSum : MethodName := ⟨RX8, "ringsSum", "()I"⟩
abbrev cX8_findRings : ByteArray := prog_10_method_56_code
def yX8_findRings : MethodName := ⟨RX8, "findRings", "()I"⟩
abbrev cX8_rings : ByteArray := prog_10_method_57_code
def yX8_rings : MethodName := ⟨RX8, "rings", "(II)I"⟩
abbrev cX8_oddsBy : ByteArray := prog_10_method_58_code
def yX8_oddsBy : MethodName := ⟨RX8, "oddsBy", "(I)J"⟩
abbrev cX8_odds : ByteArray := prog_10_method_59_code
def yX8_odds : MethodName := ⟨RX8, "odds", "(II)I"⟩
abbrev cX8_waits : ByteArray := prog_10_method_60_code
def yX8_waits : MethodName := ⟨RX8, "waits", "(III)I"⟩
abbrev cX8_power : ByteArray := prog_10_method_61_code
def yX8_power : MethodName := ⟨RX8, "power", "(I)I"⟩
abbrev cX8_findLie : ByteArray := prog_10_method_62_code
def yX8_findLie : MethodName := ⟨RX8, "findLie", "(I)V"⟩
abbrev cX8_mayBe : ByteArray := prog_10_method_63_code
def yX8_mayBe : MethodName := ⟨RX8, "mayBe", "(III)Z"⟩
abbrev cX8_endOf : ByteArray := prog_10_method_64_code
def yX8_endOf : MethodName := ⟨RX8, "endOf", "(IIII)I"⟩
abbrev cX8_turnsAt : ByteArray := prog_10_method_65_code
def yX8_turnsAt : MethodName := ⟨RX8, "turnsAt", "(IIIII)I"⟩
abbrev cX8_write : ByteArray := prog_10_method_66_code
def yX8_write : MethodName := ⟨RX8, "write", "(IIZ)I"⟩
abbrev cX8_tear : ByteArray := prog_10_method_67_code
def yX8_tear : MethodName := ⟨RX8, "tear", "()I"⟩
abbrev cX8_judge : ByteArray := prog_10_method_68_code
def yX8_judge : MethodName := ⟨RX8, "judge", "()I"⟩
abbrev cX8_seed : ByteArray := prog_10_method_69_code
def yX8_seed : MethodName := ⟨RX8, "seed", "(I)I"⟩
abbrev cX8_save : ByteArray := prog_10_method_70_code
def yX8_save : MethodName := ⟨RX8, "save", "(I)V"⟩
abbrev cX8_load : ByteArray := prog_10_method_71_code
def yX8_load : MethodName := ⟨RX8, "load", "(I)V"⟩
abbrev cX8_keep : ByteArray := prog_10_method_72_code
def yX8_keep : MethodName := ⟨RX8, "keep", "(I)I"⟩
abbrev cX8_goBack : ByteArray := prog_10_method_73_code
def yX8_goBack : MethodName := ⟨RX8, "goBack", "(I)I"⟩
def RJ9 : String := "java/lang/Math"
abbrev cJ9_abs_0f7a4 : ByteArray := prog_11_method_59_code
def yJ9_abs_0f7a4 : MethodName := ⟨RJ9, "abs", "(I)I"⟩
abbrev cJ9_max_7cf53 : ByteArray := prog_11_method_65_code
def yJ9_max_7cf53 : MethodName := ⟨RJ9, "max", "(II)I"⟩
abbrev cJ9_min_7cf53 : ByteArray := prog_11_method_69_code
def yJ9_min_7cf53 : MethodName := ⟨RJ9, "min", "(II)I"⟩
def RJ0 : String := "java/lang/String"
abbrev cJ0_length_8abf5 : ByteArray := prog_12_method_54_code
def yJ0_length_8abf5 : MethodName := ⟨RJ0, "length", "()I"⟩
abbrev cJ0_charAt_5068e : ByteArray := prog_12_method_56_code
def yJ0_charAt_5068e : MethodName := ⟨RJ0, "charAt", "(I)C"⟩
abbrev cJ0_coder_7d493 : ByteArray := prog_12_method_152_code
def yJ0_coder_7d493 : MethodName := ⟨RJ0, "coder", "()B"⟩
abbrev cJ0_isLatin1_aae02 : ByteArray := prog_12_method_154_code
def yJ0_isLatin1_aae02 : MethodName := ⟨RJ0, "isLatin1", "()Z"⟩
abbrev cJ0_checkIndex_df160 : ByteArray := prog_12_method_155_code
def yJ0_checkIndex_df160 : MethodName := ⟨RJ0, "checkIndex", "(II)V"⟩
def RJ1 : String := "java/lang/StringLatin1"
abbrev cJ1_charAt_3b067 : ByteArray := prog_13_method_2_code
def yJ1_charAt_3b067 : MethodName := ⟨RJ1, "charAt", "([BI)C"⟩
def RJ2 : String := "java/lang/StringUTF16"
abbrev cJ2_getChar_3b067 : ByteArray := prog_14_method_5_code
def yJ2_getChar_3b067 : MethodName := ⟨RJ2, "getChar", "([BI)C"⟩
abbrev cJ2_length_9d52b : ByteArray := prog_14_method_6_code
def yJ2_length_9d52b : MethodName := ⟨RJ2, "length", "([B)I"⟩
abbrev cJ2_charAt_3b067 : ByteArray := prog_14_method_83_code
def yJ2_charAt_3b067 : MethodName := ⟨RJ2, "charAt", "([BI)C"⟩
abbrev cJ2_checkIndex_2214a : ByteArray := prog_14_method_91_code
def yJ2_checkIndex_2214a : MethodName := ⟨RJ2, "checkIndex", "(I[B)V"⟩
def RJ10 : String := "java/lang/System"
def RJ7 : String := "java/util/Arrays"
abbrev cJ7_fill_53178 : ByteArray := prog_16_method_103_code
def yJ7_fill_53178 : MethodName := ⟨RJ7, "fill", "([II)V"⟩
def RJ3 : String := "jdk/internal/util/Preconditions"
abbrev cJ3_checkIndex_8e157 : ByteArray := prog_17_method_11_code
def yJ3_checkIndex_8e157 : MethodName := ⟨RJ3, "checkIndex", "(IILjava/util/function/BiFunction;)I"⟩
def RL : String := "CastOffsLaw"
abbrev cL_law : ByteArray := code
abbrev vwCl : List vw_C := [(RX0, TX0, 4), (RX1, TX1, 4), (RX2, TX2, 8), (RX3, TX3, 10), (RX4, TX4, 7), (RX5, TX5, 12), (RX6, TX6, 7), (RX7, TX7, 15), (RX8, TX8, 46)]
def yL_law : MethodName := ⟨RL, "law", "([I)Z"⟩
end
section
theorem dX0_init_0 : decode cX0_init 0 = .ok (.aload_n 0, 1) := by decide +kernel
theorem dX0_init_1 : decode cX0_init 1 = .ok (.invokespecial 3, 3) := by decide +kernel
theorem dX0_init_4 : decode cX0_init 4 = .ok (.aload_n 0, 1) := by decide +kernel
theorem dX0_init_5 : decode cX0_init 5 = .ok (.bipush 40, 2) := by decide +kernel
theorem dX0_init_7 : decode cX0_init 7 = .ok (.newarray .int, 2) := by decide +kernel
theorem dX0_init_9 : decode cX0_init 9 = .ok (.putfield 9, 3) := by decide +kernel
theorem dX0_init_12 : decode cX0_init 12 = .ok (.aload_n 0, 1) := by decide +kernel
theorem dX0_init_13 : decode cX0_init 13 = .ok (.bipush 40, 2) := by decide +kernel
theorem dX0_init_15 : decode cX0_init 15 = .ok (.newarray .int, 2) := by decide +kernel
theorem dX0_init_17 : decode cX0_init 17 = .ok (.putfield 15, 3) := by decide +kernel
theorem dX0_init_20 : decode cX0_init 20 = .ok (.aload_n 0, 1) := by decide +kernel
theorem dX0_init_21 : decode cX0_init 21 = .ok (.bipush 40, 2) := by decide +kernel
theorem dX0_init_23 : decode cX0_init 23 = .ok (.newarray .boolean, 2) := by decide +kernel
theorem dX0_init_25 : decode cX0_init 25 = .ok (.putfield 18, 3) := by decide +kernel
theorem dX0_init_28 : decode cX0_init 28 = .ok (.return_, 1) := by decide +kernel
theorem dX0_enter_0 : decode cX0_enter 0 = .ok (.aload_n 0, 1) := by decide +kernel
theorem dX0_enter_1 : decode cX0_enter 1 = .ok (.getfield 22, 3) := by decide +kernel
theorem dX0_enter_4 : decode cX0_enter 4 = .ok (.bipush 40, 2) := by decide +kernel
theorem dX0_enter_6 : decode cX0_enter 6 = .ok (.if_icmp .lt 5, 3) := by decide +kernel
theorem dX0_enter_9 : decode cX0_enter 9 = .ok (.iconst 0, 1) := by decide +kernel
theorem dX0_enter_10 : decode cX0_enter 10 = .ok (.ireturn, 1) := by decide +kernel
theorem dX0_enter_11 : decode cX0_enter 11 = .ok (.aload_n 0, 1) := by decide +kernel
theorem dX0_enter_12 : decode cX0_enter 12 = .ok (.getfield 9, 3) := by decide +kernel
theorem dX0_enter_15 : decode cX0_enter 15 = .ok (.aload_n 0, 1) := by decide +kernel
theorem dX0_enter_16 : decode cX0_enter 16 = .ok (.getfield 22, 3) := by decide +kernel
theorem dX0_enter_19 : decode cX0_enter 19 = .ok (.iload_n 1, 1) := by decide +kernel
theorem dX0_enter_20 : decode cX0_enter 20 = .ok (.iastore, 1) := by decide +kernel
theorem dX0_enter_21 : decode cX0_enter 21 = .ok (.aload_n 0, 1) := by decide +kernel
theorem dX0_enter_22 : decode cX0_enter 22 = .ok (.getfield 15, 3) := by decide +kernel
theorem dX0_enter_25 : decode cX0_enter 25 = .ok (.aload_n 0, 1) := by decide +kernel
theorem dX0_enter_26 : decode cX0_enter 26 = .ok (.getfield 22, 3) := by decide +kernel
theorem dX0_enter_29 : decode cX0_enter 29 = .ok (.iload_n 2, 1) := by decide +kernel
theorem dX0_enter_30 : decode cX0_enter 30 = .ok (.iastore, 1) := by decide +kernel
theorem dX0_enter_31 : decode cX0_enter 31 = .ok (.aload_n 0, 1) := by decide +kernel
theorem dX0_enter_32 : decode cX0_enter 32 = .ok (.getfield 18, 3) := by decide +kernel
theorem dX0_enter_35 : decode cX0_enter 35 = .ok (.aload_n 0, 1) := by decide +kernel
theorem dX0_enter_36 : decode cX0_enter 36 = .ok (.getfield 22, 3) := by decide +kernel
theorem dX0_enter_39 : decode cX0_enter 39 = .ok (.iload_n 3, 1) := by decide +kernel
theorem dX0_enter_40 : decode cX0_enter 40 = .ok (.bastore, 1) := by decide +kernel
theorem dX0_enter_41 : decode cX0_enter 41 = .ok (.aload_n 0, 1) := by decide +kernel
theorem dX0_enter_42 : decode cX0_enter 42 = .ok (.dup, 1) := by decide +kernel
theorem dX0_enter_43 : decode cX0_enter 43 = .ok (.getfield 22, 3) := by decide +kernel
theorem dX0_enter_46 : decode cX0_enter 46 = .ok (.iconst 1, 1) := by decide +kernel
theorem dX0_enter_47 : decode cX0_enter 47 = .ok (.iadd, 1) := by decide +kernel
theorem dX0_enter_48 : decode cX0_enter 48 = .ok (.putfield 22, 3) := by decide +kernel
theorem dX0_enter_51 : decode cX0_enter 51 = .ok (.iconst 1, 1) := by decide +kernel
theorem dX0_enter_52 : decode cX0_enter 52 = .ok (.ireturn, 1) := by decide +kernel
theorem dX0_firstWrong_0 : decode cX0_firstWrong 0 = .ok (.iconst 0, 1) := by decide +kernel
theorem dX0_firstWrong_1 : decode cX0_firstWrong 1 = .ok (.istore_n 2, 1) := by decide +kernel
theorem dX0_firstWrong_2 : decode cX0_firstWrong 2 = .ok (.iload_n 2, 1) := by decide +kernel
theorem dX0_firstWrong_3 : decode cX0_firstWrong 3 = .ok (.aload_n 0, 1) := by decide +kernel
theorem dX0_firstWrong_4 : decode cX0_firstWrong 4 = .ok (.getfield 22, 3) := by decide +kernel
theorem dX0_firstWrong_7 : decode cX0_firstWrong 7 = .ok (.if_icmp .ge 75, 3) := by decide +kernel
theorem dX0_firstWrong_10 : decode cX0_firstWrong 10 = .ok (.aload_n 1, 1) := by decide +kernel
theorem dX0_firstWrong_11 : decode cX0_firstWrong 11 = .ok (.aload_n 0, 1) := by decide +kernel
theorem dX0_firstWrong_12 : decode cX0_firstWrong 12 = .ok (.getfield 15, 3) := by decide +kernel
theorem dX0_firstWrong_15 : decode cX0_firstWrong 15 = .ok (.iload_n 2, 1) := by decide +kernel
theorem dX0_firstWrong_16 : decode cX0_firstWrong 16 = .ok (.iaload, 1) := by decide +kernel
theorem dX0_firstWrong_17 : decode cX0_firstWrong 17 = .ok (.invokevirtual 26, 3) := by decide +kernel
theorem dX0_firstWrong_20 : decode cX0_firstWrong 20 = .ok (.ifCond .ne 5, 3) := by decide +kernel
theorem dX0_firstWrong_23 : decode cX0_firstWrong 23 = .ok (.iload_n 2, 1) := by decide +kernel
theorem dX0_firstWrong_24 : decode cX0_firstWrong 24 = .ok (.ireturn, 1) := by decide +kernel
theorem dX0_firstWrong_25 : decode cX0_firstWrong 25 = .ok (.aload_n 0, 1) := by decide +kernel
theorem dX0_firstWrong_26 : decode cX0_firstWrong 26 = .ok (.getfield 18, 3) := by decide +kernel
theorem dX0_firstWrong_29 : decode cX0_firstWrong 29 = .ok (.iload_n 2, 1) := by decide +kernel
theorem dX0_firstWrong_30 : decode cX0_firstWrong 30 = .ok (.baload, 1) := by decide +kernel
theorem dX0_firstWrong_31 : decode cX0_firstWrong 31 = .ok (.ifCond .eq 22, 3) := by decide +kernel
theorem dX0_firstWrong_34 : decode cX0_firstWrong 34 = .ok (.aload_n 1, 1) := by decide +kernel
theorem dX0_firstWrong_35 : decode cX0_firstWrong 35 = .ok (.aload_n 0, 1) := by decide +kernel
theorem dX0_firstWrong_36 : decode cX0_firstWrong 36 = .ok (.getfield 9, 3) := by decide +kernel
theorem dX0_firstWrong_39 : decode cX0_firstWrong 39 = .ok (.iload_n 2, 1) := by decide +kernel
theorem dX0_firstWrong_40 : decode cX0_firstWrong 40 = .ok (.iaload, 1) := by decide +kernel
theorem dX0_firstWrong_41 : decode cX0_firstWrong 41 = .ok (.aload_n 0, 1) := by decide +kernel
theorem dX0_firstWrong_42 : decode cX0_firstWrong 42 = .ok (.getfield 15, 3) := by decide +kernel
theorem dX0_firstWrong_45 : decode cX0_firstWrong 45 = .ok (.iload_n 2, 1) := by decide +kernel
theorem dX0_firstWrong_46 : decode cX0_firstWrong 46 = .ok (.iaload, 1) := by decide +kernel
theorem dX0_firstWrong_47 : decode cX0_firstWrong 47 = .ok (.invokevirtual 32, 3) := by decide +kernel
theorem dX0_firstWrong_50 : decode cX0_firstWrong 50 = .ok (.goto 19, 3) := by decide +kernel
theorem dX0_firstWrong_53 : decode cX0_firstWrong 53 = .ok (.aload_n 1, 1) := by decide +kernel
theorem dX0_firstWrong_54 : decode cX0_firstWrong 54 = .ok (.aload_n 0, 1) := by decide +kernel
theorem dX0_firstWrong_55 : decode cX0_firstWrong 55 = .ok (.getfield 9, 3) := by decide +kernel
theorem dX0_firstWrong_58 : decode cX0_firstWrong 58 = .ok (.iload_n 2, 1) := by decide +kernel
theorem dX0_firstWrong_59 : decode cX0_firstWrong 59 = .ok (.iaload, 1) := by decide +kernel
theorem dX0_firstWrong_60 : decode cX0_firstWrong 60 = .ok (.aload_n 0, 1) := by decide +kernel
theorem dX0_firstWrong_61 : decode cX0_firstWrong 61 = .ok (.getfield 15, 3) := by decide +kernel
theorem dX0_firstWrong_64 : decode cX0_firstWrong 64 = .ok (.iload_n 2, 1) := by decide +kernel
theorem dX0_firstWrong_65 : decode cX0_firstWrong 65 = .ok (.iaload, 1) := by decide +kernel
theorem dX0_firstWrong_66 : decode cX0_firstWrong 66 = .ok (.invokevirtual 36, 3) := by decide +kernel
theorem dX0_firstWrong_69 : decode cX0_firstWrong 69 = .ok (.istore_n 3, 1) := by decide +kernel
theorem dX0_firstWrong_70 : decode cX0_firstWrong 70 = .ok (.iload_n 3, 1) := by decide +kernel
theorem dX0_firstWrong_71 : decode cX0_firstWrong 71 = .ok (.ifCond .ne 5, 3) := by decide +kernel
theorem dX0_firstWrong_74 : decode cX0_firstWrong 74 = .ok (.iload_n 2, 1) := by decide +kernel
theorem dX0_firstWrong_75 : decode cX0_firstWrong 75 = .ok (.ireturn, 1) := by decide +kernel
theorem dX0_firstWrong_76 : decode cX0_firstWrong 76 = .ok (.iinc 2 1, 3) := by decide +kernel
theorem dX0_firstWrong_79 : decode cX0_firstWrong 79 = .ok (.goto (-77), 3) := by decide +kernel
theorem dX0_firstWrong_82 : decode cX0_firstWrong 82 = .ok (.iconst (-1), 1) := by decide +kernel
theorem dX0_firstWrong_83 : decode cX0_firstWrong 83 = .ok (.ireturn, 1) := by decide +kernel
theorem dX1_init_0 : decode cX1_init 0 = .ok (.aload_n 0, 1) := by decide +kernel
theorem dX1_init_1 : decode cX1_init 1 = .ok (.invokespecial 3, 3) := by decide +kernel
theorem dX1_init_4 : decode cX1_init 4 = .ok (.aload_n 0, 1) := by decide +kernel
theorem dX1_init_5 : decode cX1_init 5 = .ok (.bipush 32, 2) := by decide +kernel
theorem dX1_init_7 : decode cX1_init 7 = .ok (.newarray .int, 2) := by decide +kernel
theorem dX1_init_9 : decode cX1_init 9 = .ok (.putfield 9, 3) := by decide +kernel
theorem dX1_init_12 : decode cX1_init 12 = .ok (.aload_n 0, 1) := by decide +kernel
theorem dX1_init_13 : decode cX1_init 13 = .ok (.bipush 32, 2) := by decide +kernel
theorem dX1_init_15 : decode cX1_init 15 = .ok (.newarray .int, 2) := by decide +kernel
theorem dX1_init_17 : decode cX1_init 17 = .ok (.putfield 15, 3) := by decide +kernel
theorem dX1_init_20 : decode cX1_init 20 = .ok (.aload_n 0, 1) := by decide +kernel
theorem dX1_init_21 : decode cX1_init 21 = .ok (.aload_n 1, 1) := by decide +kernel
theorem dX1_init_22 : decode cX1_init 22 = .ok (.putfield 18, 3) := by decide +kernel
theorem dX1_init_25 : decode cX1_init 25 = .ok (.return_, 1) := by decide +kernel
theorem dX1_fewestFor_0 : decode cX1_fewestFor 0 = .ok (.aload_n 0, 1) := by decide +kernel
theorem dX1_fewestFor_1 : decode cX1_fewestFor 1 = .ok (.invokevirtual 22, 3) := by decide +kernel
theorem dX1_fewestFor_4 : decode cX1_fewestFor 4 = .ok (.iconst 0, 1) := by decide +kernel
theorem dX1_fewestFor_5 : decode cX1_fewestFor 5 = .ok (.istore_n 3, 1) := by decide +kernel
theorem dX1_fewestFor_6 : decode cX1_fewestFor 6 = .ok (.iload_n 3, 1) := by decide +kernel
theorem dX1_fewestFor_7 : decode cX1_fewestFor 7 = .ok (.aload_n 0, 1) := by decide +kernel
theorem dX1_fewestFor_8 : decode cX1_fewestFor 8 = .ok (.getfield 25, 3) := by decide +kernel
theorem dX1_fewestFor_11 : decode cX1_fewestFor 11 = .ok (.if_icmp .ge 66, 3) := by decide +kernel
theorem dX1_fewestFor_14 : decode cX1_fewestFor 14 = .ok (.iload_n 3, 1) := by decide +kernel
theorem dX1_fewestFor_15 : decode cX1_fewestFor 15 = .ok (.bipush 32, 2) := by decide +kernel
theorem dX1_fewestFor_17 : decode cX1_fewestFor 17 = .ok (.if_icmp .ge 60, 3) := by decide +kernel
theorem dX1_fewestFor_20 : decode cX1_fewestFor 20 = .ok (.aload_n 0, 1) := by decide +kernel
theorem dX1_fewestFor_21 : decode cX1_fewestFor 21 = .ok (.getfield 15, 3) := by decide +kernel
theorem dX1_fewestFor_24 : decode cX1_fewestFor 24 = .ok (.iload_n 3, 1) := by decide +kernel
theorem dX1_fewestFor_25 : decode cX1_fewestFor 25 = .ok (.iaload, 1) := by decide +kernel
theorem dX1_fewestFor_26 : decode cX1_fewestFor 26 = .ok (.istore 4, 2) := by decide +kernel
theorem dX1_fewestFor_28 : decode cX1_fewestFor 28 = .ok (.aload_n 0, 1) := by decide +kernel
theorem dX1_fewestFor_29 : decode cX1_fewestFor 29 = .ok (.getfield 18, 3) := by decide +kernel
theorem dX1_fewestFor_32 : decode cX1_fewestFor 32 = .ok (.getfield 29, 3) := by decide +kernel
theorem dX1_fewestFor_35 : decode cX1_fewestFor 35 = .ok (.iload 4, 2) := by decide +kernel
theorem dX1_fewestFor_37 : decode cX1_fewestFor 37 = .ok (.iaload, 1) := by decide +kernel
theorem dX1_fewestFor_38 : decode cX1_fewestFor 38 = .ok (.iload_n 2, 1) := by decide +kernel
theorem dX1_fewestFor_39 : decode cX1_fewestFor 39 = .ok (.if_icmp .ne 25, 3) := by decide +kernel
theorem dX1_fewestFor_42 : decode cX1_fewestFor 42 = .ok (.aload_n 0, 1) := by decide +kernel
theorem dX1_fewestFor_43 : decode cX1_fewestFor 43 = .ok (.getfield 18, 3) := by decide +kernel
theorem dX1_fewestFor_46 : decode cX1_fewestFor 46 = .ok (.getfield 34, 3) := by decide +kernel
theorem dX1_fewestFor_49 : decode cX1_fewestFor 49 = .ok (.iload 4, 2) := by decide +kernel
theorem dX1_fewestFor_51 : decode cX1_fewestFor 51 = .ok (.iaload, 1) := by decide +kernel
theorem dX1_fewestFor_52 : decode cX1_fewestFor 52 = .ok (.iload_n 1, 1) := by decide +kernel
theorem dX1_fewestFor_53 : decode cX1_fewestFor 53 = .ok (.if_icmp .eq 11, 3) := by decide +kernel
theorem dX1_fewestFor_56 : decode cX1_fewestFor 56 = .ok (.aload_n 0, 1) := by decide +kernel
theorem dX1_fewestFor_57 : decode cX1_fewestFor 57 = .ok (.getfield 9, 3) := by decide +kernel
theorem dX1_fewestFor_60 : decode cX1_fewestFor 60 = .ok (.iload 4, 2) := by decide +kernel
theorem dX1_fewestFor_62 : decode cX1_fewestFor 62 = .ok (.iaload, 1) := by decide +kernel
theorem dX1_fewestFor_63 : decode cX1_fewestFor 63 = .ok (.ireturn, 1) := by decide +kernel
theorem dX1_fewestFor_64 : decode cX1_fewestFor 64 = .ok (.aload_n 0, 1) := by decide +kernel
theorem dX1_fewestFor_65 : decode cX1_fewestFor 65 = .ok (.iload 4, 2) := by decide +kernel
theorem dX1_fewestFor_67 : decode cX1_fewestFor 67 = .ok (.iload_n 1, 1) := by decide +kernel
theorem dX1_fewestFor_68 : decode cX1_fewestFor 68 = .ok (.invokevirtual 37, 3) := by decide +kernel
theorem dX1_fewestFor_71 : decode cX1_fewestFor 71 = .ok (.iinc 3 1, 3) := by decide +kernel
theorem dX1_fewestFor_74 : decode cX1_fewestFor 74 = .ok (.goto (-68), 3) := by decide +kernel
theorem dX1_fewestFor_77 : decode cX1_fewestFor 77 = .ok (.iconst (-1), 1) := by decide +kernel
theorem dX1_fewestFor_78 : decode cX1_fewestFor 78 = .ok (.ireturn, 1) := by decide +kernel
theorem dX1_queueLying_0 : decode cX1_queueLying 0 = .ok (.aload_n 0, 1) := by decide +kernel
theorem dX1_queueLying_1 : decode cX1_queueLying 1 = .ok (.iconst 0, 1) := by decide +kernel
theorem dX1_queueLying_2 : decode cX1_queueLying 2 = .ok (.putfield 25, 3) := by decide +kernel
theorem dX1_queueLying_5 : decode cX1_queueLying 5 = .ok (.iconst 0, 1) := by decide +kernel
theorem dX1_queueLying_6 : decode cX1_queueLying 6 = .ok (.istore_n 1, 1) := by decide +kernel
theorem dX1_queueLying_7 : decode cX1_queueLying 7 = .ok (.iload_n 1, 1) := by decide +kernel
theorem dX1_queueLying_8 : decode cX1_queueLying 8 = .ok (.aload_n 0, 1) := by decide +kernel
theorem dX1_queueLying_9 : decode cX1_queueLying 9 = .ok (.getfield 18, 3) := by decide +kernel
theorem dX1_queueLying_12 : decode cX1_queueLying 12 = .ok (.getfield 41, 3) := by decide +kernel
theorem dX1_queueLying_15 : decode cX1_queueLying 15 = .ok (.if_icmp .ge 33, 3) := by decide +kernel
theorem dX1_queueLying_18 : decode cX1_queueLying 18 = .ok (.aload_n 0, 1) := by decide +kernel
theorem dX1_queueLying_19 : decode cX1_queueLying 19 = .ok (.getfield 9, 3) := by decide +kernel
theorem dX1_queueLying_22 : decode cX1_queueLying 22 = .ok (.iload_n 1, 1) := by decide +kernel
theorem dX1_queueLying_23 : decode cX1_queueLying 23 = .ok (.iconst (-1), 1) := by decide +kernel
theorem dX1_queueLying_24 : decode cX1_queueLying 24 = .ok (.iastore, 1) := by decide +kernel
theorem dX1_queueLying_25 : decode cX1_queueLying 25 = .ok (.aload_n 0, 1) := by decide +kernel
theorem dX1_queueLying_26 : decode cX1_queueLying 26 = .ok (.getfield 18, 3) := by decide +kernel
theorem dX1_queueLying_29 : decode cX1_queueLying 29 = .ok (.iload_n 1, 1) := by decide +kernel
theorem dX1_queueLying_30 : decode cX1_queueLying 30 = .ok (.invokevirtual 44, 3) := by decide +kernel
theorem dX1_queueLying_33 : decode cX1_queueLying 33 = .ok (.ifCond .eq 9, 3) := by decide +kernel
theorem dX1_queueLying_36 : decode cX1_queueLying 36 = .ok (.aload_n 0, 1) := by decide +kernel
theorem dX1_queueLying_37 : decode cX1_queueLying 37 = .ok (.iload_n 1, 1) := by decide +kernel
theorem dX1_queueLying_38 : decode cX1_queueLying 38 = .ok (.iconst 0, 1) := by decide +kernel
theorem dX1_queueLying_39 : decode cX1_queueLying 39 = .ok (.invokevirtual 48, 3) := by decide +kernel
theorem dX1_queueLying_42 : decode cX1_queueLying 42 = .ok (.iinc 1 1, 3) := by decide +kernel
theorem dX1_queueLying_45 : decode cX1_queueLying 45 = .ok (.goto (-38), 3) := by decide +kernel
theorem dX1_queueLying_48 : decode cX1_queueLying 48 = .ok (.return_, 1) := by decide +kernel
theorem dX1_swapAgainst_0 : decode cX1_swapAgainst 0 = .ok (.aload_n 0, 1) := by decide +kernel
theorem dX1_swapAgainst_1 : decode cX1_swapAgainst 1 = .ok (.getfield 18, 3) := by decide +kernel
theorem dX1_swapAgainst_4 : decode cX1_swapAgainst 4 = .ok (.iload_n 1, 1) := by decide +kernel
theorem dX1_swapAgainst_5 : decode cX1_swapAgainst 5 = .ok (.invokevirtual 44, 3) := by decide +kernel
theorem dX1_swapAgainst_8 : decode cX1_swapAgainst 8 = .ok (.ifCond .eq 15, 3) := by decide +kernel
theorem dX1_swapAgainst_11 : decode cX1_swapAgainst 11 = .ok (.aload_n 0, 1) := by decide +kernel
theorem dX1_swapAgainst_12 : decode cX1_swapAgainst 12 = .ok (.getfield 18, 3) := by decide +kernel
theorem dX1_swapAgainst_15 : decode cX1_swapAgainst 15 = .ok (.getfield 34, 3) := by decide +kernel
theorem dX1_swapAgainst_18 : decode cX1_swapAgainst 18 = .ok (.iload_n 1, 1) := by decide +kernel
theorem dX1_swapAgainst_19 : decode cX1_swapAgainst 19 = .ok (.iaload, 1) := by decide +kernel
theorem dX1_swapAgainst_20 : decode cX1_swapAgainst 20 = .ok (.goto 12, 3) := by decide +kernel
theorem dX1_swapAgainst_23 : decode cX1_swapAgainst 23 = .ok (.aload_n 0, 1) := by decide +kernel
theorem dX1_swapAgainst_24 : decode cX1_swapAgainst 24 = .ok (.getfield 18, 3) := by decide +kernel
theorem dX1_swapAgainst_27 : decode cX1_swapAgainst 27 = .ok (.getfield 51, 3) := by decide +kernel
theorem dX1_swapAgainst_30 : decode cX1_swapAgainst 30 = .ok (.iload_n 1, 1) := by decide +kernel
theorem dX1_swapAgainst_31 : decode cX1_swapAgainst 31 = .ok (.iaload, 1) := by decide +kernel
theorem dX1_swapAgainst_32 : decode cX1_swapAgainst 32 = .ok (.istore_n 3, 1) := by decide +kernel
theorem dX1_swapAgainst_33 : decode cX1_swapAgainst 33 = .ok (.iconst 0, 1) := by decide +kernel
theorem dX1_swapAgainst_34 : decode cX1_swapAgainst 34 = .ok (.istore 4, 2) := by decide +kernel
theorem dX1_swapAgainst_36 : decode cX1_swapAgainst 36 = .ok (.iload 4, 2) := by decide +kernel
theorem dX1_swapAgainst_38 : decode cX1_swapAgainst 38 = .ok (.aload_n 0, 1) := by decide +kernel
theorem dX1_swapAgainst_39 : decode cX1_swapAgainst 39 = .ok (.getfield 18, 3) := by decide +kernel
theorem dX1_swapAgainst_42 : decode cX1_swapAgainst 42 = .ok (.getfield 41, 3) := by decide +kernel
theorem dX1_swapAgainst_45 : decode cX1_swapAgainst 45 = .ok (.if_icmp .ge 91, 3) := by decide +kernel
theorem dX1_swapAgainst_48 : decode cX1_swapAgainst 48 = .ok (.aload_n 0, 1) := by decide +kernel
theorem dX1_swapAgainst_49 : decode cX1_swapAgainst 49 = .ok (.getfield 18, 3) := by decide +kernel
theorem dX1_swapAgainst_52 : decode cX1_swapAgainst 52 = .ok (.getfield 51, 3) := by decide +kernel
theorem dX1_swapAgainst_55 : decode cX1_swapAgainst 55 = .ok (.iload 4, 2) := by decide +kernel
theorem dX1_swapAgainst_57 : decode cX1_swapAgainst 57 = .ok (.iaload, 1) := by decide +kernel
theorem dX1_swapAgainst_58 : decode cX1_swapAgainst 58 = .ok (.istore 5, 2) := by decide +kernel
theorem dX1_swapAgainst_60 : decode cX1_swapAgainst 60 = .ok (.iload 5, 2) := by decide +kernel
theorem dX1_swapAgainst_62 : decode cX1_swapAgainst 62 = .ok (.iconst (-1), 1) := by decide +kernel
theorem dX1_swapAgainst_63 : decode cX1_swapAgainst 63 = .ok (.if_icmp .eq 30, 3) := by decide +kernel
theorem dX1_swapAgainst_66 : decode cX1_swapAgainst 66 = .ok (.iload 5, 2) := by decide +kernel
theorem dX1_swapAgainst_68 : decode cX1_swapAgainst 68 = .ok (.iload_n 2, 1) := by decide +kernel
theorem dX1_swapAgainst_69 : decode cX1_swapAgainst 69 = .ok (.if_icmp .eq 24, 3) := by decide +kernel
theorem dX1_swapAgainst_72 : decode cX1_swapAgainst 72 = .ok (.iload 5, 2) := by decide +kernel
theorem dX1_swapAgainst_74 : decode cX1_swapAgainst 74 = .ok (.iload_n 3, 1) := by decide +kernel
theorem dX1_swapAgainst_75 : decode cX1_swapAgainst 75 = .ok (.if_icmp .eq 18, 3) := by decide +kernel
theorem dX1_swapAgainst_78 : decode cX1_swapAgainst 78 = .ok (.aload_n 0, 1) := by decide +kernel
theorem dX1_swapAgainst_79 : decode cX1_swapAgainst 79 = .ok (.getfield 9, 3) := by decide +kernel
theorem dX1_swapAgainst_82 : decode cX1_swapAgainst 82 = .ok (.iload 4, 2) := by decide +kernel
theorem dX1_swapAgainst_84 : decode cX1_swapAgainst 84 = .ok (.iaload, 1) := by decide +kernel
theorem dX1_swapAgainst_85 : decode cX1_swapAgainst 85 = .ok (.iconst (-1), 1) := by decide +kernel
theorem dX1_swapAgainst_86 : decode cX1_swapAgainst 86 = .ok (.if_icmp .ne 7, 3) := by decide +kernel
theorem dX1_swapAgainst_89 : decode cX1_swapAgainst 89 = .ok (.iconst 1, 1) := by decide +kernel
theorem dX1_swapAgainst_90 : decode cX1_swapAgainst 90 = .ok (.goto 4, 3) := by decide +kernel
theorem dX1_swapAgainst_93 : decode cX1_swapAgainst 93 = .ok (.iconst 0, 1) := by decide +kernel
theorem dX1_swapAgainst_94 : decode cX1_swapAgainst 94 = .ok (.istore 6, 2) := by decide +kernel
theorem dX1_swapAgainst_96 : decode cX1_swapAgainst 96 = .ok (.iload 6, 2) := by decide +kernel
theorem dX1_swapAgainst_98 : decode cX1_swapAgainst 98 = .ok (.ifCond .eq 32, 3) := by decide +kernel
theorem dX1_swapAgainst_101 : decode cX1_swapAgainst 101 = .ok (.aload_n 0, 1) := by decide +kernel
theorem dX1_swapAgainst_102 : decode cX1_swapAgainst 102 = .ok (.getfield 18, 3) := by decide +kernel
theorem dX1_swapAgainst_105 : decode cX1_swapAgainst 105 = .ok (.iload 5, 2) := by decide +kernel
theorem dX1_swapAgainst_107 : decode cX1_swapAgainst 107 = .ok (.iload 4, 2) := by decide +kernel
theorem dX1_swapAgainst_109 : decode cX1_swapAgainst 109 = .ok (.iload_n 1, 1) := by decide +kernel
theorem dX1_swapAgainst_110 : decode cX1_swapAgainst 110 = .ok (.invokevirtual 54, 3) := by decide +kernel
theorem dX1_swapAgainst_113 : decode cX1_swapAgainst 113 = .ok (.ifCond .le 17, 3) := by decide +kernel
theorem dX1_swapAgainst_116 : decode cX1_swapAgainst 116 = .ok (.aload_n 0, 1) := by decide +kernel
theorem dX1_swapAgainst_117 : decode cX1_swapAgainst 117 = .ok (.iload 4, 2) := by decide +kernel
theorem dX1_swapAgainst_119 : decode cX1_swapAgainst 119 = .ok (.aload_n 0, 1) := by decide +kernel
theorem dX1_swapAgainst_120 : decode cX1_swapAgainst 120 = .ok (.getfield 9, 3) := by decide +kernel
theorem dX1_swapAgainst_123 : decode cX1_swapAgainst 123 = .ok (.iload_n 1, 1) := by decide +kernel
theorem dX1_swapAgainst_124 : decode cX1_swapAgainst 124 = .ok (.iaload, 1) := by decide +kernel
theorem dX1_swapAgainst_125 : decode cX1_swapAgainst 125 = .ok (.iconst 1, 1) := by decide +kernel
theorem dX1_swapAgainst_126 : decode cX1_swapAgainst 126 = .ok (.iadd, 1) := by decide +kernel
theorem dX1_swapAgainst_127 : decode cX1_swapAgainst 127 = .ok (.invokevirtual 48, 3) := by decide +kernel
theorem dX1_swapAgainst_130 : decode cX1_swapAgainst 130 = .ok (.iinc 4 1, 3) := by decide +kernel
theorem dX1_swapAgainst_133 : decode cX1_swapAgainst 133 = .ok (.goto (-97), 3) := by decide +kernel
theorem dX1_swapAgainst_136 : decode cX1_swapAgainst 136 = .ok (.return_, 1) := by decide +kernel
theorem dX1_enqueue_0 : decode cX1_enqueue 0 = .ok (.aload_n 0, 1) := by decide +kernel
theorem dX1_enqueue_1 : decode cX1_enqueue 1 = .ok (.getfield 25, 3) := by decide +kernel
theorem dX1_enqueue_4 : decode cX1_enqueue 4 = .ok (.bipush 32, 2) := by decide +kernel
theorem dX1_enqueue_6 : decode cX1_enqueue 6 = .ok (.if_icmp .ge 30, 3) := by decide +kernel
theorem dX1_enqueue_9 : decode cX1_enqueue 9 = .ok (.aload_n 0, 1) := by decide +kernel
theorem dX1_enqueue_10 : decode cX1_enqueue 10 = .ok (.getfield 9, 3) := by decide +kernel
theorem dX1_enqueue_13 : decode cX1_enqueue 13 = .ok (.iload_n 1, 1) := by decide +kernel
theorem dX1_enqueue_14 : decode cX1_enqueue 14 = .ok (.iload_n 2, 1) := by decide +kernel
theorem dX1_enqueue_15 : decode cX1_enqueue 15 = .ok (.iastore, 1) := by decide +kernel
theorem dX1_enqueue_16 : decode cX1_enqueue 16 = .ok (.aload_n 0, 1) := by decide +kernel
theorem dX1_enqueue_17 : decode cX1_enqueue 17 = .ok (.getfield 15, 3) := by decide +kernel
theorem dX1_enqueue_20 : decode cX1_enqueue 20 = .ok (.aload_n 0, 1) := by decide +kernel
theorem dX1_enqueue_21 : decode cX1_enqueue 21 = .ok (.getfield 25, 3) := by decide +kernel
theorem dX1_enqueue_24 : decode cX1_enqueue 24 = .ok (.iload_n 1, 1) := by decide +kernel
theorem dX1_enqueue_25 : decode cX1_enqueue 25 = .ok (.iastore, 1) := by decide +kernel
theorem dX1_enqueue_26 : decode cX1_enqueue 26 = .ok (.aload_n 0, 1) := by decide +kernel
theorem dX1_enqueue_27 : decode cX1_enqueue 27 = .ok (.dup, 1) := by decide +kernel
theorem dX1_enqueue_28 : decode cX1_enqueue 28 = .ok (.getfield 25, 3) := by decide +kernel
theorem dX1_enqueue_31 : decode cX1_enqueue 31 = .ok (.iconst 1, 1) := by decide +kernel
theorem dX1_enqueue_32 : decode cX1_enqueue 32 = .ok (.iadd, 1) := by decide +kernel
theorem dX1_enqueue_33 : decode cX1_enqueue 33 = .ok (.putfield 25, 3) := by decide +kernel
theorem dX1_enqueue_36 : decode cX1_enqueue 36 = .ok (.return_, 1) := by decide +kernel
theorem dX2_init_0 : decode cX2_init 0 = .ok (.aload_n 0, 1) := by decide +kernel
theorem dX2_init_1 : decode cX2_init 1 = .ok (.invokespecial 3, 3) := by decide +kernel
theorem dX2_init_4 : decode cX2_init 4 = .ok (.aload_n 0, 1) := by decide +kernel
theorem dX2_init_5 : decode cX2_init 5 = .ok (.aload_n 1, 1) := by decide +kernel
theorem dX2_init_6 : decode cX2_init 6 = .ok (.putfield 9, 3) := by decide +kernel
theorem dX2_init_9 : decode cX2_init 9 = .ok (.aload_n 0, 1) := by decide +kernel
theorem dX2_init_10 : decode cX2_init 10 = .ok (.aload_n 2, 1) := by decide +kernel
theorem dX2_init_11 : decode cX2_init 11 = .ok (.putfield 15, 3) := by decide +kernel
theorem dX2_init_14 : decode cX2_init 14 = .ok (.return_, 1) := by decide +kernel
theorem dX2_readText_0 : decode cX2_readText 0 = .ok (.aload_n 0, 1) := by decide +kernel
theorem dX2_readText_1 : decode cX2_readText 1 = .ok (.iload_n 1, 1) := by decide +kernel
theorem dX2_readText_2 : decode cX2_readText 2 = .ok (.aload_n 0, 1) := by decide +kernel
theorem dX2_readText_3 : decode cX2_readText 3 = .ok (.getfield 9, 3) := by decide +kernel
theorem dX2_readText_6 : decode cX2_readText 6 = .ok (.arraylength, 1) := by decide +kernel
theorem dX2_readText_7 : decode cX2_readText 7 = .ok (.invokestatic 19, 3) := by decide +kernel
theorem dX2_readText_10 : decode cX2_readText 10 = .ok (.putfield 25, 3) := by decide +kernel
theorem dX2_readText_13 : decode cX2_readText 13 = .ok (.aload_n 0, 1) := by decide +kernel
theorem dX2_readText_14 : decode cX2_readText 14 = .ok (.iconst 0, 1) := by decide +kernel
theorem dX2_readText_15 : decode cX2_readText 15 = .ok (.putfield 29, 3) := by decide +kernel
theorem dX2_readText_18 : decode cX2_readText 18 = .ok (.aload_n 0, 1) := by decide +kernel
theorem dX2_readText_19 : decode cX2_readText 19 = .ok (.iconst 0, 1) := by decide +kernel
theorem dX2_readText_20 : decode cX2_readText 20 = .ok (.putfield 32, 3) := by decide +kernel
theorem dX2_readText_23 : decode cX2_readText 23 = .ok (.aload_n 0, 1) := by decide +kernel
theorem dX2_readText_24 : decode cX2_readText 24 = .ok (.iconst 0, 1) := by decide +kernel
theorem dX2_readText_25 : decode cX2_readText 25 = .ok (.putfield 35, 3) := by decide +kernel
theorem dX2_readText_28 : decode cX2_readText 28 = .ok (.aload_n 0, 1) := by decide +kernel
theorem dX2_readText_29 : decode cX2_readText 29 = .ok (.iconst 0, 1) := by decide +kernel
theorem dX2_readText_30 : decode cX2_readText 30 = .ok (.putfield 38, 3) := by decide +kernel
theorem dX2_readText_33 : decode cX2_readText 33 = .ok (.aload_n 0, 1) := by decide +kernel
theorem dX2_readText_34 : decode cX2_readText 34 = .ok (.iconst (-1), 1) := by decide +kernel
theorem dX2_readText_35 : decode cX2_readText 35 = .ok (.putfield 41, 3) := by decide +kernel
theorem dX2_readText_38 : decode cX2_readText 38 = .ok (.aload_n 0, 1) := by decide +kernel
theorem dX2_readText_39 : decode cX2_readText 39 = .ok (.getfield 15, 3) := by decide +kernel
theorem dX2_readText_42 : decode cX2_readText 42 = .ok (.invokevirtual 44, 3) := by decide +kernel
theorem dX2_readText_45 : decode cX2_readText 45 = .ok (.aload_n 0, 1) := by decide +kernel
theorem dX2_readText_46 : decode cX2_readText 46 = .ok (.invokevirtual 49, 3) := by decide +kernel
theorem dX2_readText_49 : decode cX2_readText 49 = .ok (.iconst 0, 1) := by decide +kernel
theorem dX2_readText_50 : decode cX2_readText 50 = .ok (.istore_n 2, 1) := by decide +kernel
theorem dX2_readText_51 : decode cX2_readText 51 = .ok (.iload_n 2, 1) := by decide +kernel
theorem dX2_readText_52 : decode cX2_readText 52 = .ok (.sipush 400, 3) := by decide +kernel
theorem dX2_readText_55 : decode cX2_readText 55 = .ok (.if_icmp .ge 35, 3) := by decide +kernel
theorem dX2_readText_58 : decode cX2_readText 58 = .ok (.aload_n 0, 1) := by decide +kernel
theorem dX2_readText_59 : decode cX2_readText 59 = .ok (.getfield 29, 3) := by decide +kernel
theorem dX2_readText_62 : decode cX2_readText 62 = .ok (.aload_n 0, 1) := by decide +kernel
theorem dX2_readText_63 : decode cX2_readText 63 = .ok (.getfield 25, 3) := by decide +kernel
theorem dX2_readText_66 : decode cX2_readText 66 = .ok (.if_icmp .ge 24, 3) := by decide +kernel
theorem dX2_readText_69 : decode cX2_readText 69 = .ok (.aload_n 0, 1) := by decide +kernel
theorem dX2_readText_70 : decode cX2_readText 70 = .ok (.getfield 38, 3) := by decide +kernel
theorem dX2_readText_73 : decode cX2_readText 73 = .ok (.ifCond .ne 17, 3) := by decide +kernel
theorem dX2_readText_76 : decode cX2_readText 76 = .ok (.aload_n 0, 1) := by decide +kernel
theorem dX2_readText_77 : decode cX2_readText 77 = .ok (.invokevirtual 52, 3) := by decide +kernel
theorem dX2_readText_80 : decode cX2_readText 80 = .ok (.aload_n 0, 1) := by decide +kernel
theorem dX2_readText_81 : decode cX2_readText 81 = .ok (.invokevirtual 49, 3) := by decide +kernel
theorem dX2_readText_84 : decode cX2_readText 84 = .ok (.iinc 2 1, 3) := by decide +kernel
theorem dX2_readText_87 : decode cX2_readText 87 = .ok (.goto (-36), 3) := by decide +kernel
theorem dX2_readText_90 : decode cX2_readText 90 = .ok (.aload_n 0, 1) := by decide +kernel
theorem dX2_readText_91 : decode cX2_readText 91 = .ok (.getfield 38, 3) := by decide +kernel
theorem dX2_readText_94 : decode cX2_readText 94 = .ok (.ifCond .ne 7, 3) := by decide +kernel
theorem dX2_readText_97 : decode cX2_readText 97 = .ok (.iconst 1, 1) := by decide +kernel
theorem dX2_readText_98 : decode cX2_readText 98 = .ok (.goto 4, 3) := by decide +kernel
theorem dX2_readText_101 : decode cX2_readText 101 = .ok (.iconst 0, 1) := by decide +kernel
theorem dX2_readText_102 : decode cX2_readText 102 = .ok (.ireturn, 1) := by decide +kernel
theorem dX2_readClause_0 : decode cX2_readClause 0 = .ok (.aload_n 0, 1) := by decide +kernel
theorem dX2_readClause_1 : decode cX2_readClause 1 = .ok (.getfield 29, 3) := by decide +kernel
theorem dX2_readClause_4 : decode cX2_readClause 4 = .ok (.istore_n 1, 1) := by decide +kernel
theorem dX2_readClause_5 : decode cX2_readClause 5 = .ok (.aload_n 0, 1) := by decide +kernel
theorem dX2_readClause_6 : decode cX2_readClause 6 = .ok (.getfield 29, 3) := by decide +kernel
theorem dX2_readClause_9 : decode cX2_readClause 9 = .ok (.aload_n 0, 1) := by decide +kernel
theorem dX2_readClause_10 : decode cX2_readClause 10 = .ok (.getfield 25, 3) := by decide +kernel
theorem dX2_readClause_13 : decode cX2_readClause 13 = .ok (.if_icmp .ge 44, 3) := by decide +kernel
theorem dX2_readClause_16 : decode cX2_readClause 16 = .ok (.aload_n 0, 1) := by decide +kernel
theorem dX2_readClause_17 : decode cX2_readClause 17 = .ok (.getfield 9, 3) := by decide +kernel
theorem dX2_readClause_20 : decode cX2_readClause 20 = .ok (.aload_n 0, 1) := by decide +kernel
theorem dX2_readClause_21 : decode cX2_readClause 21 = .ok (.getfield 29, 3) := by decide +kernel
theorem dX2_readClause_24 : decode cX2_readClause 24 = .ok (.caload, 1) := by decide +kernel
theorem dX2_readClause_25 : decode cX2_readClause 25 = .ok (.bipush 97, 2) := by decide +kernel
theorem dX2_readClause_27 : decode cX2_readClause 27 = .ok (.if_icmp .lt 30, 3) := by decide +kernel
theorem dX2_readClause_30 : decode cX2_readClause 30 = .ok (.aload_n 0, 1) := by decide +kernel
theorem dX2_readClause_31 : decode cX2_readClause 31 = .ok (.getfield 9, 3) := by decide +kernel
theorem dX2_readClause_34 : decode cX2_readClause 34 = .ok (.aload_n 0, 1) := by decide +kernel
theorem dX2_readClause_35 : decode cX2_readClause 35 = .ok (.getfield 29, 3) := by decide +kernel
theorem dX2_readClause_38 : decode cX2_readClause 38 = .ok (.caload, 1) := by decide +kernel
theorem dX2_readClause_39 : decode cX2_readClause 39 = .ok (.bipush 122, 2) := by decide +kernel
theorem dX2_readClause_41 : decode cX2_readClause 41 = .ok (.if_icmp .gt 16, 3) := by decide +kernel
theorem dX2_readClause_44 : decode cX2_readClause 44 = .ok (.aload_n 0, 1) := by decide +kernel
theorem dX2_readClause_45 : decode cX2_readClause 45 = .ok (.dup, 1) := by decide +kernel
theorem dX2_readClause_46 : decode cX2_readClause 46 = .ok (.getfield 29, 3) := by decide +kernel
theorem dX2_readClause_49 : decode cX2_readClause 49 = .ok (.iconst 1, 1) := by decide +kernel
theorem dX2_readClause_50 : decode cX2_readClause 50 = .ok (.iadd, 1) := by decide +kernel
theorem dX2_readClause_51 : decode cX2_readClause 51 = .ok (.putfield 29, 3) := by decide +kernel
theorem dX2_readClause_54 : decode cX2_readClause 54 = .ok (.goto (-49), 3) := by decide +kernel
theorem dX2_readClause_57 : decode cX2_readClause 57 = .ok (.aload_n 0, 1) := by decide +kernel
theorem dX2_readClause_58 : decode cX2_readClause 58 = .ok (.ldc 55, 2) := by decide +kernel
theorem dX2_readClause_60 : decode cX2_readClause 60 = .ok (.iload_n 1, 1) := by decide +kernel
theorem dX2_readClause_61 : decode cX2_readClause 61 = .ok (.invokevirtual 57, 3) := by decide +kernel
theorem dX2_readClause_64 : decode cX2_readClause 64 = .ok (.ifCond .eq 11, 3) := by decide +kernel
theorem dX2_readClause_67 : decode cX2_readClause 67 = .ok (.aload_n 0, 1) := by decide +kernel
theorem dX2_readClause_68 : decode cX2_readClause 68 = .ok (.iload_n 1, 1) := by decide +kernel
theorem dX2_readClause_69 : decode cX2_readClause 69 = .ok (.invokevirtual 61, 3) := by decide +kernel
theorem dX2_readClause_72 : decode cX2_readClause 72 = .ok (.goto 65, 3) := by decide +kernel
theorem dX2_readClause_75 : decode cX2_readClause 75 = .ok (.aload_n 0, 1) := by decide +kernel
theorem dX2_readClause_76 : decode cX2_readClause 76 = .ok (.getfield 15, 3) := by decide +kernel
theorem dX2_readClause_79 : decode cX2_readClause 79 = .ok (.getfield 65, 3) := by decide +kernel
theorem dX2_readClause_82 : decode cX2_readClause 82 = .ok (.ifCond .le 21, 3) := by decide +kernel
theorem dX2_readClause_85 : decode cX2_readClause 85 = .ok (.aload_n 0, 1) := by decide +kernel
theorem dX2_readClause_86 : decode cX2_readClause 86 = .ok (.ldc 67, 2) := by decide +kernel
theorem dX2_readClause_88 : decode cX2_readClause 88 = .ok (.iload_n 1, 1) := by decide +kernel
theorem dX2_readClause_89 : decode cX2_readClause 89 = .ok (.invokevirtual 57, 3) := by decide +kernel
theorem dX2_readClause_92 : decode cX2_readClause 92 = .ok (.ifCond .eq 11, 3) := by decide +kernel
theorem dX2_readClause_95 : decode cX2_readClause 95 = .ok (.aload_n 0, 1) := by decide +kernel
theorem dX2_readClause_96 : decode cX2_readClause 96 = .ok (.iload_n 1, 1) := by decide +kernel
theorem dX2_readClause_97 : decode cX2_readClause 97 = .ok (.invokevirtual 69, 3) := by decide +kernel
theorem dX2_readClause_100 : decode cX2_readClause 100 = .ok (.goto 37, 3) := by decide +kernel
theorem dX2_readClause_103 : decode cX2_readClause 103 = .ok (.aload_n 0, 1) := by decide +kernel
theorem dX2_readClause_104 : decode cX2_readClause 104 = .ok (.getfield 15, 3) := by decide +kernel
theorem dX2_readClause_107 : decode cX2_readClause 107 = .ok (.getfield 65, 3) := by decide +kernel
theorem dX2_readClause_110 : decode cX2_readClause 110 = .ok (.ifCond .le 21, 3) := by decide +kernel
theorem dX2_readClause_113 : decode cX2_readClause 113 = .ok (.aload_n 0, 1) := by decide +kernel
theorem dX2_readClause_114 : decode cX2_readClause 114 = .ok (.ldc 72, 2) := by decide +kernel
theorem dX2_readClause_116 : decode cX2_readClause 116 = .ok (.iload_n 1, 1) := by decide +kernel
theorem dX2_readClause_117 : decode cX2_readClause 117 = .ok (.invokevirtual 57, 3) := by decide +kernel
theorem dX2_readClause_120 : decode cX2_readClause 120 = .ok (.ifCond .eq 11, 3) := by decide +kernel
theorem dX2_readClause_123 : decode cX2_readClause 123 = .ok (.aload_n 0, 1) := by decide +kernel
theorem dX2_readClause_124 : decode cX2_readClause 124 = .ok (.iload_n 1, 1) := by decide +kernel
theorem dX2_readClause_125 : decode cX2_readClause 125 = .ok (.invokevirtual 74, 3) := by decide +kernel
theorem dX2_readClause_128 : decode cX2_readClause 128 = .ok (.goto 9, 3) := by decide +kernel
theorem dX2_readClause_131 : decode cX2_readClause 131 = .ok (.aload_n 0, 1) := by decide +kernel
theorem dX2_readClause_132 : decode cX2_readClause 132 = .ok (.iconst 1, 1) := by decide +kernel
theorem dX2_readClause_133 : decode cX2_readClause 133 = .ok (.iload_n 1, 1) := by decide +kernel
theorem dX2_readClause_134 : decode cX2_readClause 134 = .ok (.invokevirtual 77, 3) := by decide +kernel
theorem dX2_readClause_137 : decode cX2_readClause 137 = .ok (.return_, 1) := by decide +kernel
theorem dX2_readSorts_0 : decode cX2_readSorts 0 = .ok (.aload_n 0, 1) := by decide +kernel
theorem dX2_readSorts_1 : decode cX2_readSorts 1 = .ok (.getfield 15, 3) := by decide +kernel
theorem dX2_readSorts_4 : decode cX2_readSorts 4 = .ok (.getfield 65, 3) := by decide +kernel
theorem dX2_readSorts_7 : decode cX2_readSorts 7 = .ok (.ifCond .le 10, 3) := by decide +kernel
theorem dX2_readSorts_10 : decode cX2_readSorts 10 = .ok (.aload_n 0, 1) := by decide +kernel
theorem dX2_readSorts_11 : decode cX2_readSorts 11 = .ok (.iconst 3, 1) := by decide +kernel
theorem dX2_readSorts_12 : decode cX2_readSorts 12 = .ok (.iload_n 1, 1) := by decide +kernel
theorem dX2_readSorts_13 : decode cX2_readSorts 13 = .ok (.invokevirtual 77, 3) := by decide +kernel
theorem dX2_readSorts_16 : decode cX2_readSorts 16 = .ok (.return_, 1) := by decide +kernel
theorem dX2_readSorts_17 : decode cX2_readSorts 17 = .ok (.aload_n 0, 1) := by decide +kernel
theorem dX2_readSorts_18 : decode cX2_readSorts 18 = .ok (.iconst 1, 1) := by decide +kernel
theorem dX2_readSorts_19 : decode cX2_readSorts 19 = .ok (.bipush 6, 2) := by decide +kernel
theorem dX2_readSorts_21 : decode cX2_readSorts 21 = .ok (.invokevirtual 81, 3) := by decide +kernel
theorem dX2_readSorts_24 : decode cX2_readSorts 24 = .ok (.istore_n 2, 1) := by decide +kernel
theorem dX2_readSorts_25 : decode cX2_readSorts 25 = .ok (.aload_n 0, 1) := by decide +kernel
theorem dX2_readSorts_26 : decode cX2_readSorts 26 = .ok (.invokevirtual 84, 3) := by decide +kernel
theorem dX2_readSorts_29 : decode cX2_readSorts 29 = .ok (.ifCond .eq 11, 3) := by decide +kernel
theorem dX2_readSorts_32 : decode cX2_readSorts 32 = .ok (.aload_n 0, 1) := by decide +kernel
theorem dX2_readSorts_33 : decode cX2_readSorts 33 = .ok (.getfield 15, 3) := by decide +kernel
theorem dX2_readSorts_36 : decode cX2_readSorts 36 = .ok (.iload_n 2, 1) := by decide +kernel
theorem dX2_readSorts_37 : decode cX2_readSorts 37 = .ok (.putfield 65, 3) := by decide +kernel
theorem dX2_readSorts_40 : decode cX2_readSorts 40 = .ok (.return_, 1) := by decide +kernel
theorem dX2_readHouse_0 : decode cX2_readHouse 0 = .ok (.aload_n 0, 1) := by decide +kernel
theorem dX2_readHouse_1 : decode cX2_readHouse 1 = .ok (.getfield 15, 3) := by decide +kernel
theorem dX2_readHouse_4 : decode cX2_readHouse 4 = .ok (.getfield 88, 3) := by decide +kernel
theorem dX2_readHouse_7 : decode cX2_readHouse 7 = .ok (.iconst 5, 1) := by decide +kernel
theorem dX2_readHouse_8 : decode cX2_readHouse 8 = .ok (.if_icmp .lt 10, 3) := by decide +kernel
theorem dX2_readHouse_11 : decode cX2_readHouse 11 = .ok (.aload_n 0, 1) := by decide +kernel
theorem dX2_readHouse_12 : decode cX2_readHouse 12 = .ok (.iconst 3, 1) := by decide +kernel
theorem dX2_readHouse_13 : decode cX2_readHouse 13 = .ok (.iload_n 1, 1) := by decide +kernel
theorem dX2_readHouse_14 : decode cX2_readHouse 14 = .ok (.invokevirtual 77, 3) := by decide +kernel
theorem dX2_readHouse_17 : decode cX2_readHouse 17 = .ok (.return_, 1) := by decide +kernel
theorem dX2_readHouse_18 : decode cX2_readHouse 18 = .ok (.aload_n 0, 1) := by decide +kernel
theorem dX2_readHouse_19 : decode cX2_readHouse 19 = .ok (.iconst 0, 1) := by decide +kernel
theorem dX2_readHouse_20 : decode cX2_readHouse 20 = .ok (.bipush 99, 2) := by decide +kernel
theorem dX2_readHouse_22 : decode cX2_readHouse 22 = .ok (.invokevirtual 81, 3) := by decide +kernel
theorem dX2_readHouse_25 : decode cX2_readHouse 25 = .ok (.istore_n 2, 1) := by decide +kernel
theorem dX2_readHouse_26 : decode cX2_readHouse 26 = .ok (.iconst 0, 1) := by decide +kernel
theorem dX2_readHouse_27 : decode cX2_readHouse 27 = .ok (.istore_n 3, 1) := by decide +kernel
theorem dX2_readHouse_28 : decode cX2_readHouse 28 = .ok (.iload_n 3, 1) := by decide +kernel
theorem dX2_readHouse_29 : decode cX2_readHouse 29 = .ok (.iconst 4, 1) := by decide +kernel
theorem dX2_readHouse_30 : decode cX2_readHouse 30 = .ok (.if_icmp .gt 128, 3) := by decide +kernel
theorem dX2_readHouse_33 : decode cX2_readHouse 33 = .ok (.aload_n 0, 1) := by decide +kernel
theorem dX2_readHouse_34 : decode cX2_readHouse 34 = .ok (.getfield 38, 3) := by decide +kernel
theorem dX2_readHouse_37 : decode cX2_readHouse 37 = .ok (.ifCond .ne 121, 3) := by decide +kernel
theorem dX2_readHouse_40 : decode cX2_readHouse 40 = .ok (.aload_n 0, 1) := by decide +kernel
theorem dX2_readHouse_41 : decode cX2_readHouse 41 = .ok (.invokevirtual 91, 3) := by decide +kernel
theorem dX2_readHouse_44 : decode cX2_readHouse 44 = .ok (.ifCond .eq 114, 3) := by decide +kernel
theorem dX2_readHouse_47 : decode cX2_readHouse 47 = .ok (.aload_n 0, 1) := by decide +kernel
theorem dX2_readHouse_48 : decode cX2_readHouse 48 = .ok (.getfield 29, 3) := by decide +kernel
theorem dX2_readHouse_51 : decode cX2_readHouse 51 = .ok (.istore 4, 2) := by decide +kernel
theorem dX2_readHouse_53 : decode cX2_readHouse 53 = .ok (.aload_n 0, 1) := by decide +kernel
theorem dX2_readHouse_54 : decode cX2_readHouse 54 = .ok (.iconst 0, 1) := by decide +kernel
theorem dX2_readHouse_55 : decode cX2_readHouse 55 = .ok (.aload_n 0, 1) := by decide +kernel
theorem dX2_readHouse_56 : decode cX2_readHouse 56 = .ok (.getfield 15, 3) := by decide +kernel
theorem dX2_readHouse_59 : decode cX2_readHouse 59 = .ok (.getfield 65, 3) := by decide +kernel
theorem dX2_readHouse_62 : decode cX2_readHouse 62 = .ok (.iconst 1, 1) := by decide +kernel
theorem dX2_readHouse_63 : decode cX2_readHouse 63 = .ok (.isub, 1) := by decide +kernel
theorem dX2_readHouse_64 : decode cX2_readHouse 64 = .ok (.invokevirtual 81, 3) := by decide +kernel
theorem dX2_readHouse_67 : decode cX2_readHouse 67 = .ok (.istore 5, 2) := by decide +kernel
theorem dX2_readHouse_69 : decode cX2_readHouse 69 = .ok (.iload_n 3, 1) := by decide +kernel
theorem dX2_readHouse_70 : decode cX2_readHouse 70 = .ok (.iconst 4, 1) := by decide +kernel
theorem dX2_readHouse_71 : decode cX2_readHouse 71 = .ok (.if_icmp .ne 10, 3) := by decide +kernel
theorem dX2_readHouse_74 : decode cX2_readHouse 74 = .ok (.aload_n 0, 1) := by decide +kernel
theorem dX2_readHouse_75 : decode cX2_readHouse 75 = .ok (.iconst 4, 1) := by decide +kernel
theorem dX2_readHouse_76 : decode cX2_readHouse 76 = .ok (.iload 4, 2) := by decide +kernel
theorem dX2_readHouse_78 : decode cX2_readHouse 78 = .ok (.invokevirtual 77, 3) := by decide +kernel
theorem dX2_readHouse_81 : decode cX2_readHouse 81 = .ok (.aload_n 0, 1) := by decide +kernel
theorem dX2_readHouse_82 : decode cX2_readHouse 82 = .ok (.getfield 38, 3) := by decide +kernel
theorem dX2_readHouse_85 : decode cX2_readHouse 85 = .ok (.ifCond .ne 67, 3) := by decide +kernel
theorem dX2_readHouse_88 : decode cX2_readHouse 88 = .ok (.aload_n 0, 1) := by decide +kernel
theorem dX2_readHouse_89 : decode cX2_readHouse 89 = .ok (.getfield 15, 3) := by decide +kernel
theorem dX2_readHouse_92 : decode cX2_readHouse 92 = .ok (.getfield 94, 3) := by decide +kernel
theorem dX2_readHouse_95 : decode cX2_readHouse 95 = .ok (.bipush 20, 2) := by decide +kernel
theorem dX2_readHouse_97 : decode cX2_readHouse 97 = .ok (.if_icmp .ge 55, 3) := by decide +kernel
theorem dX2_readHouse_100 : decode cX2_readHouse 100 = .ok (.aload_n 0, 1) := by decide +kernel
theorem dX2_readHouse_101 : decode cX2_readHouse 101 = .ok (.getfield 15, 3) := by decide +kernel
theorem dX2_readHouse_104 : decode cX2_readHouse 104 = .ok (.getfield 97, 3) := by decide +kernel
theorem dX2_readHouse_107 : decode cX2_readHouse 107 = .ok (.aload_n 0, 1) := by decide +kernel
theorem dX2_readHouse_108 : decode cX2_readHouse 108 = .ok (.getfield 15, 3) := by decide +kernel
theorem dX2_readHouse_111 : decode cX2_readHouse 111 = .ok (.getfield 94, 3) := by decide +kernel
theorem dX2_readHouse_114 : decode cX2_readHouse 114 = .ok (.iload 5, 2) := by decide +kernel
theorem dX2_readHouse_116 : decode cX2_readHouse 116 = .ok (.iastore, 1) := by decide +kernel
theorem dX2_readHouse_117 : decode cX2_readHouse 117 = .ok (.aload_n 0, 1) := by decide +kernel
theorem dX2_readHouse_118 : decode cX2_readHouse 118 = .ok (.getfield 15, 3) := by decide +kernel
theorem dX2_readHouse_121 : decode cX2_readHouse 121 = .ok (.getfield 101, 3) := by decide +kernel
theorem dX2_readHouse_124 : decode cX2_readHouse 124 = .ok (.aload_n 0, 1) := by decide +kernel
theorem dX2_readHouse_125 : decode cX2_readHouse 125 = .ok (.getfield 15, 3) := by decide +kernel
theorem dX2_readHouse_128 : decode cX2_readHouse 128 = .ok (.getfield 94, 3) := by decide +kernel
theorem dX2_readHouse_131 : decode cX2_readHouse 131 = .ok (.aload_n 0, 1) := by decide +kernel
theorem dX2_readHouse_132 : decode cX2_readHouse 132 = .ok (.getfield 15, 3) := by decide +kernel
theorem dX2_readHouse_135 : decode cX2_readHouse 135 = .ok (.getfield 88, 3) := by decide +kernel
theorem dX2_readHouse_138 : decode cX2_readHouse 138 = .ok (.iastore, 1) := by decide +kernel
theorem dX2_readHouse_139 : decode cX2_readHouse 139 = .ok (.aload_n 0, 1) := by decide +kernel
theorem dX2_readHouse_140 : decode cX2_readHouse 140 = .ok (.getfield 15, 3) := by decide +kernel
theorem dX2_readHouse_143 : decode cX2_readHouse 143 = .ok (.dup, 1) := by decide +kernel
theorem dX2_readHouse_144 : decode cX2_readHouse 144 = .ok (.getfield 94, 3) := by decide +kernel
theorem dX2_readHouse_147 : decode cX2_readHouse 147 = .ok (.iconst 1, 1) := by decide +kernel
theorem dX2_readHouse_148 : decode cX2_readHouse 148 = .ok (.iadd, 1) := by decide +kernel
theorem dX2_readHouse_149 : decode cX2_readHouse 149 = .ok (.putfield 94, 3) := by decide +kernel
theorem dX2_readHouse_152 : decode cX2_readHouse 152 = .ok (.iinc 3 1, 3) := by decide +kernel
theorem dX2_readHouse_155 : decode cX2_readHouse 155 = .ok (.goto (-127), 3) := by decide +kernel
theorem dX2_readHouse_158 : decode cX2_readHouse 158 = .ok (.aload_n 0, 1) := by decide +kernel
theorem dX2_readHouse_159 : decode cX2_readHouse 159 = .ok (.invokevirtual 84, 3) := by decide +kernel
theorem dX2_readHouse_162 : decode cX2_readHouse 162 = .ok (.ifCond .eq 32, 3) := by decide +kernel
theorem dX2_readHouse_165 : decode cX2_readHouse 165 = .ok (.aload_n 0, 1) := by decide +kernel
theorem dX2_readHouse_166 : decode cX2_readHouse 166 = .ok (.getfield 15, 3) := by decide +kernel
theorem dX2_readHouse_169 : decode cX2_readHouse 169 = .ok (.getfield 104, 3) := by decide +kernel
theorem dX2_readHouse_172 : decode cX2_readHouse 172 = .ok (.aload_n 0, 1) := by decide +kernel
theorem dX2_readHouse_173 : decode cX2_readHouse 173 = .ok (.getfield 15, 3) := by decide +kernel
theorem dX2_readHouse_176 : decode cX2_readHouse 176 = .ok (.getfield 88, 3) := by decide +kernel
theorem dX2_readHouse_179 : decode cX2_readHouse 179 = .ok (.iload_n 2, 1) := by decide +kernel
theorem dX2_readHouse_180 : decode cX2_readHouse 180 = .ok (.iastore, 1) := by decide +kernel
theorem dX2_readHouse_181 : decode cX2_readHouse 181 = .ok (.aload_n 0, 1) := by decide +kernel
theorem dX2_readHouse_182 : decode cX2_readHouse 182 = .ok (.getfield 15, 3) := by decide +kernel
theorem dX2_readHouse_185 : decode cX2_readHouse 185 = .ok (.dup, 1) := by decide +kernel
theorem dX2_readHouse_186 : decode cX2_readHouse 186 = .ok (.getfield 88, 3) := by decide +kernel
theorem dX2_readHouse_189 : decode cX2_readHouse 189 = .ok (.iconst 1, 1) := by decide +kernel
theorem dX2_readHouse_190 : decode cX2_readHouse 190 = .ok (.iadd, 1) := by decide +kernel
theorem dX2_readHouse_191 : decode cX2_readHouse 191 = .ok (.putfield 88, 3) := by decide +kernel
theorem dX2_readHouse_194 : decode cX2_readHouse 194 = .ok (.return_, 1) := by decide +kernel
theorem dX2_readWorth_0 : decode cX2_readWorth 0 = .ok (.aload_n 0, 1) := by decide +kernel
theorem dX2_readWorth_1 : decode cX2_readWorth 1 = .ok (.getfield 32, 3) := by decide +kernel
theorem dX2_readWorth_4 : decode cX2_readWorth 4 = .ok (.bipush 30, 2) := by decide +kernel
theorem dX2_readWorth_6 : decode cX2_readWorth 6 = .ok (.if_icmp .lt 10, 3) := by decide +kernel
theorem dX2_readWorth_9 : decode cX2_readWorth 9 = .ok (.aload_n 0, 1) := by decide +kernel
theorem dX2_readWorth_10 : decode cX2_readWorth 10 = .ok (.iconst 3, 1) := by decide +kernel
theorem dX2_readWorth_11 : decode cX2_readWorth 11 = .ok (.iload_n 1, 1) := by decide +kernel
theorem dX2_readWorth_12 : decode cX2_readWorth 12 = .ok (.invokevirtual 77, 3) := by decide +kernel
theorem dX2_readWorth_15 : decode cX2_readWorth 15 = .ok (.return_, 1) := by decide +kernel
theorem dX2_readWorth_16 : decode cX2_readWorth 16 = .ok (.aload_n 0, 1) := by decide +kernel
theorem dX2_readWorth_17 : decode cX2_readWorth 17 = .ok (.iconst 0, 1) := by decide +kernel
theorem dX2_readWorth_18 : decode cX2_readWorth 18 = .ok (.aload_n 0, 1) := by decide +kernel
theorem dX2_readWorth_19 : decode cX2_readWorth 19 = .ok (.getfield 15, 3) := by decide +kernel
theorem dX2_readWorth_22 : decode cX2_readWorth 22 = .ok (.getfield 88, 3) := by decide +kernel
theorem dX2_readWorth_25 : decode cX2_readWorth 25 = .ok (.iconst 1, 1) := by decide +kernel
theorem dX2_readWorth_26 : decode cX2_readWorth 26 = .ok (.isub, 1) := by decide +kernel
theorem dX2_readWorth_27 : decode cX2_readWorth 27 = .ok (.invokevirtual 81, 3) := by decide +kernel
theorem dX2_readWorth_30 : decode cX2_readWorth 30 = .ok (.istore_n 2, 1) := by decide +kernel
theorem dX2_readWorth_31 : decode cX2_readWorth 31 = .ok (.aload_n 0, 1) := by decide +kernel
theorem dX2_readWorth_32 : decode cX2_readWorth 32 = .ok (.invokevirtual 49, 3) := by decide +kernel
theorem dX2_readWorth_35 : decode cX2_readWorth 35 = .ok (.aload_n 0, 1) := by decide +kernel
theorem dX2_readWorth_36 : decode cX2_readWorth 36 = .ok (.getfield 29, 3) := by decide +kernel
theorem dX2_readWorth_39 : decode cX2_readWorth 39 = .ok (.istore_n 3, 1) := by decide +kernel
theorem dX2_readWorth_40 : decode cX2_readWorth 40 = .ok (.aload_n 0, 1) := by decide +kernel
theorem dX2_readWorth_41 : decode cX2_readWorth 41 = .ok (.iconst 0, 1) := by decide +kernel
theorem dX2_readWorth_42 : decode cX2_readWorth 42 = .ok (.aload_n 0, 1) := by decide +kernel
theorem dX2_readWorth_43 : decode cX2_readWorth 43 = .ok (.getfield 15, 3) := by decide +kernel
theorem dX2_readWorth_46 : decode cX2_readWorth 46 = .ok (.getfield 65, 3) := by decide +kernel
theorem dX2_readWorth_49 : decode cX2_readWorth 49 = .ok (.iconst 1, 1) := by decide +kernel
theorem dX2_readWorth_50 : decode cX2_readWorth 50 = .ok (.isub, 1) := by decide +kernel
theorem dX2_readWorth_51 : decode cX2_readWorth 51 = .ok (.invokevirtual 81, 3) := by decide +kernel
theorem dX2_readWorth_54 : decode cX2_readWorth 54 = .ok (.istore 4, 2) := by decide +kernel
theorem dX2_readWorth_56 : decode cX2_readWorth 56 = .ok (.iload_n 2, 1) := by decide +kernel
theorem dX2_readWorth_57 : decode cX2_readWorth 57 = .ok (.bipush 6, 2) := by decide +kernel
theorem dX2_readWorth_59 : decode cX2_readWorth 59 = .ok (.imul, 1) := by decide +kernel
theorem dX2_readWorth_60 : decode cX2_readWorth 60 = .ok (.iload 4, 2) := by decide +kernel
theorem dX2_readWorth_62 : decode cX2_readWorth 62 = .ok (.iadd, 1) := by decide +kernel
theorem dX2_readWorth_63 : decode cX2_readWorth 63 = .ok (.istore 5, 2) := by decide +kernel
theorem dX2_readWorth_65 : decode cX2_readWorth 65 = .ok (.aload_n 0, 1) := by decide +kernel
theorem dX2_readWorth_66 : decode cX2_readWorth 66 = .ok (.getfield 38, 3) := by decide +kernel
theorem dX2_readWorth_69 : decode cX2_readWorth 69 = .ok (.ifCond .ne 22, 3) := by decide +kernel
theorem dX2_readWorth_72 : decode cX2_readWorth 72 = .ok (.aload_n 0, 1) := by decide +kernel
theorem dX2_readWorth_73 : decode cX2_readWorth 73 = .ok (.getfield 35, 3) := by decide +kernel
theorem dX2_readWorth_76 : decode cX2_readWorth 76 = .ok (.iload 5, 2) := by decide +kernel
theorem dX2_readWorth_78 : decode cX2_readWorth 78 = .ok (.ishr, 1) := by decide +kernel
theorem dX2_readWorth_79 : decode cX2_readWorth 79 = .ok (.iconst 1, 1) := by decide +kernel
theorem dX2_readWorth_80 : decode cX2_readWorth 80 = .ok (.iand, 1) := by decide +kernel
theorem dX2_readWorth_81 : decode cX2_readWorth 81 = .ok (.iconst 1, 1) := by decide +kernel
theorem dX2_readWorth_82 : decode cX2_readWorth 82 = .ok (.if_icmp .ne 9, 3) := by decide +kernel
theorem dX2_readWorth_85 : decode cX2_readWorth 85 = .ok (.aload_n 0, 1) := by decide +kernel
theorem dX2_readWorth_86 : decode cX2_readWorth 86 = .ok (.iconst 4, 1) := by decide +kernel
theorem dX2_readWorth_87 : decode cX2_readWorth 87 = .ok (.iload_n 3, 1) := by decide +kernel
theorem dX2_readWorth_88 : decode cX2_readWorth 88 = .ok (.invokevirtual 77, 3) := by decide +kernel
theorem dX2_readWorth_91 : decode cX2_readWorth 91 = .ok (.aload_n 0, 1) := by decide +kernel
theorem dX2_readWorth_92 : decode cX2_readWorth 92 = .ok (.iconst 0, 1) := by decide +kernel
theorem dX2_readWorth_93 : decode cX2_readWorth 93 = .ok (.bipush 99, 2) := by decide +kernel
theorem dX2_readWorth_95 : decode cX2_readWorth 95 = .ok (.invokevirtual 81, 3) := by decide +kernel
theorem dX2_readWorth_98 : decode cX2_readWorth 98 = .ok (.istore 6, 2) := by decide +kernel
theorem dX2_readWorth_100 : decode cX2_readWorth 100 = .ok (.aload_n 0, 1) := by decide +kernel
theorem dX2_readWorth_101 : decode cX2_readWorth 101 = .ok (.invokevirtual 84, 3) := by decide +kernel
theorem dX2_readWorth_104 : decode cX2_readWorth 104 = .ok (.ifCond .eq 38, 3) := by decide +kernel
theorem dX2_readWorth_107 : decode cX2_readWorth 107 = .ok (.aload_n 0, 1) := by decide +kernel
theorem dX2_readWorth_108 : decode cX2_readWorth 108 = .ok (.getfield 15, 3) := by decide +kernel
theorem dX2_readWorth_111 : decode cX2_readWorth 111 = .ok (.getfield 107, 3) := by decide +kernel
theorem dX2_readWorth_114 : decode cX2_readWorth 114 = .ok (.iload 5, 2) := by decide +kernel
theorem dX2_readWorth_116 : decode cX2_readWorth 116 = .ok (.iload 6, 2) := by decide +kernel
theorem dX2_readWorth_118 : decode cX2_readWorth 118 = .ok (.iastore, 1) := by decide +kernel
theorem dX2_readWorth_119 : decode cX2_readWorth 119 = .ok (.aload_n 0, 1) := by decide +kernel
theorem dX2_readWorth_120 : decode cX2_readWorth 120 = .ok (.dup, 1) := by decide +kernel
theorem dX2_readWorth_121 : decode cX2_readWorth 121 = .ok (.getfield 35, 3) := by decide +kernel
theorem dX2_readWorth_124 : decode cX2_readWorth 124 = .ok (.iconst 1, 1) := by decide +kernel
theorem dX2_readWorth_125 : decode cX2_readWorth 125 = .ok (.iload 5, 2) := by decide +kernel
theorem dX2_readWorth_127 : decode cX2_readWorth 127 = .ok (.ishl, 1) := by decide +kernel
theorem dX2_readWorth_128 : decode cX2_readWorth 128 = .ok (.ior, 1) := by decide +kernel
theorem dX2_readWorth_129 : decode cX2_readWorth 129 = .ok (.putfield 35, 3) := by decide +kernel
theorem dX2_readWorth_132 : decode cX2_readWorth 132 = .ok (.aload_n 0, 1) := by decide +kernel
theorem dX2_readWorth_133 : decode cX2_readWorth 133 = .ok (.dup, 1) := by decide +kernel
theorem dX2_readWorth_134 : decode cX2_readWorth 134 = .ok (.getfield 32, 3) := by decide +kernel
theorem dX2_readWorth_137 : decode cX2_readWorth 137 = .ok (.iconst 1, 1) := by decide +kernel
theorem dX2_readWorth_138 : decode cX2_readWorth 138 = .ok (.iadd, 1) := by decide +kernel
theorem dX2_readWorth_139 : decode cX2_readWorth 139 = .ok (.putfield 32, 3) := by decide +kernel
theorem dX2_readWorth_142 : decode cX2_readWorth 142 = .ok (.return_, 1) := by decide +kernel
theorem dX2_readNumber_0 : decode cX2_readNumber 0 = .ok (.aload_n 0, 1) := by decide +kernel
theorem dX2_readNumber_1 : decode cX2_readNumber 1 = .ok (.invokevirtual 91, 3) := by decide +kernel
theorem dX2_readNumber_4 : decode cX2_readNumber 4 = .ok (.ifCond .ne 14, 3) := by decide +kernel
theorem dX2_readNumber_7 : decode cX2_readNumber 7 = .ok (.aload_n 0, 1) := by decide +kernel
theorem dX2_readNumber_8 : decode cX2_readNumber 8 = .ok (.iconst 1, 1) := by decide +kernel
theorem dX2_readNumber_9 : decode cX2_readNumber 9 = .ok (.aload_n 0, 1) := by decide +kernel
theorem dX2_readNumber_10 : decode cX2_readNumber 10 = .ok (.getfield 29, 3) := by decide +kernel
theorem dX2_readNumber_13 : decode cX2_readNumber 13 = .ok (.invokevirtual 77, 3) := by decide +kernel
theorem dX2_readNumber_16 : decode cX2_readNumber 16 = .ok (.iconst (-1), 1) := by decide +kernel
theorem dX2_readNumber_17 : decode cX2_readNumber 17 = .ok (.ireturn, 1) := by decide +kernel
theorem dX2_readNumber_18 : decode cX2_readNumber 18 = .ok (.aload_n 0, 1) := by decide +kernel
theorem dX2_readNumber_19 : decode cX2_readNumber 19 = .ok (.getfield 29, 3) := by decide +kernel
theorem dX2_readNumber_22 : decode cX2_readNumber 22 = .ok (.istore_n 3, 1) := by decide +kernel
theorem dX2_readNumber_23 : decode cX2_readNumber 23 = .ok (.iconst 0, 1) := by decide +kernel
theorem dX2_readNumber_24 : decode cX2_readNumber 24 = .ok (.istore 4, 2) := by decide +kernel
theorem dX2_readNumber_26 : decode cX2_readNumber 26 = .ok (.aload_n 0, 1) := by decide +kernel
theorem dX2_readNumber_27 : decode cX2_readNumber 27 = .ok (.getfield 29, 3) := by decide +kernel
theorem dX2_readNumber_30 : decode cX2_readNumber 30 = .ok (.aload_n 0, 1) := by decide +kernel
theorem dX2_readNumber_31 : decode cX2_readNumber 31 = .ok (.getfield 25, 3) := by decide +kernel
theorem dX2_readNumber_34 : decode cX2_readNumber 34 = .ok (.if_icmp .ge 66, 3) := by decide +kernel
theorem dX2_readNumber_37 : decode cX2_readNumber 37 = .ok (.aload_n 0, 1) := by decide +kernel
theorem dX2_readNumber_38 : decode cX2_readNumber 38 = .ok (.getfield 9, 3) := by decide +kernel
theorem dX2_readNumber_41 : decode cX2_readNumber 41 = .ok (.aload_n 0, 1) := by decide +kernel
theorem dX2_readNumber_42 : decode cX2_readNumber 42 = .ok (.getfield 29, 3) := by decide +kernel
theorem dX2_readNumber_45 : decode cX2_readNumber 45 = .ok (.caload, 1) := by decide +kernel
theorem dX2_readNumber_46 : decode cX2_readNumber 46 = .ok (.invokestatic 110, 3) := by decide +kernel
theorem dX2_readNumber_49 : decode cX2_readNumber 49 = .ok (.ifCond .eq 51, 3) := by decide +kernel
theorem dX2_readNumber_52 : decode cX2_readNumber 52 = .ok (.aload_n 0, 1) := by decide +kernel
theorem dX2_readNumber_53 : decode cX2_readNumber 53 = .ok (.getfield 29, 3) := by decide +kernel
theorem dX2_readNumber_56 : decode cX2_readNumber 56 = .ok (.iload_n 3, 1) := by decide +kernel
theorem dX2_readNumber_57 : decode cX2_readNumber 57 = .ok (.isub, 1) := by decide +kernel
theorem dX2_readNumber_58 : decode cX2_readNumber 58 = .ok (.iconst 3, 1) := by decide +kernel
theorem dX2_readNumber_59 : decode cX2_readNumber 59 = .ok (.if_icmp .ge 24, 3) := by decide +kernel
theorem dX2_readNumber_62 : decode cX2_readNumber 62 = .ok (.iload 4, 2) := by decide +kernel
theorem dX2_readNumber_64 : decode cX2_readNumber 64 = .ok (.bipush 10, 2) := by decide +kernel
theorem dX2_readNumber_66 : decode cX2_readNumber 66 = .ok (.imul, 1) := by decide +kernel
theorem dX2_readNumber_67 : decode cX2_readNumber 67 = .ok (.aload_n 0, 1) := by decide +kernel
theorem dX2_readNumber_68 : decode cX2_readNumber 68 = .ok (.getfield 9, 3) := by decide +kernel
theorem dX2_readNumber_71 : decode cX2_readNumber 71 = .ok (.aload_n 0, 1) := by decide +kernel
theorem dX2_readNumber_72 : decode cX2_readNumber 72 = .ok (.getfield 29, 3) := by decide +kernel
theorem dX2_readNumber_75 : decode cX2_readNumber 75 = .ok (.caload, 1) := by decide +kernel
theorem dX2_readNumber_76 : decode cX2_readNumber 76 = .ok (.iadd, 1) := by decide +kernel
theorem dX2_readNumber_77 : decode cX2_readNumber 77 = .ok (.bipush 48, 2) := by decide +kernel
theorem dX2_readNumber_79 : decode cX2_readNumber 79 = .ok (.isub, 1) := by decide +kernel
theorem dX2_readNumber_80 : decode cX2_readNumber 80 = .ok (.goto 5, 3) := by decide +kernel
theorem dX2_readNumber_83 : decode cX2_readNumber 83 = .ok (.iload 4, 2) := by decide +kernel
theorem dX2_readNumber_85 : decode cX2_readNumber 85 = .ok (.istore 4, 2) := by decide +kernel
theorem dX2_readNumber_87 : decode cX2_readNumber 87 = .ok (.aload_n 0, 1) := by decide +kernel
theorem dX2_readNumber_88 : decode cX2_readNumber 88 = .ok (.dup, 1) := by decide +kernel
theorem dX2_readNumber_89 : decode cX2_readNumber 89 = .ok (.getfield 29, 3) := by decide +kernel
theorem dX2_readNumber_92 : decode cX2_readNumber 92 = .ok (.iconst 1, 1) := by decide +kernel
theorem dX2_readNumber_93 : decode cX2_readNumber 93 = .ok (.iadd, 1) := by decide +kernel
theorem dX2_readNumber_94 : decode cX2_readNumber 94 = .ok (.putfield 29, 3) := by decide +kernel
theorem dX2_readNumber_97 : decode cX2_readNumber 97 = .ok (.goto (-71), 3) := by decide +kernel
theorem dX2_readNumber_100 : decode cX2_readNumber 100 = .ok (.aload_n 0, 1) := by decide +kernel
theorem dX2_readNumber_101 : decode cX2_readNumber 101 = .ok (.getfield 29, 3) := by decide +kernel
theorem dX2_readNumber_104 : decode cX2_readNumber 104 = .ok (.iload_n 3, 1) := by decide +kernel
theorem dX2_readNumber_105 : decode cX2_readNumber 105 = .ok (.isub, 1) := by decide +kernel
theorem dX2_readNumber_106 : decode cX2_readNumber 106 = .ok (.iconst 3, 1) := by decide +kernel
theorem dX2_readNumber_107 : decode cX2_readNumber 107 = .ok (.if_icmp .gt 15, 3) := by decide +kernel
theorem dX2_readNumber_110 : decode cX2_readNumber 110 = .ok (.iload 4, 2) := by decide +kernel
theorem dX2_readNumber_112 : decode cX2_readNumber 112 = .ok (.iload_n 1, 1) := by decide +kernel
theorem dX2_readNumber_113 : decode cX2_readNumber 113 = .ok (.if_icmp .lt 9, 3) := by decide +kernel
theorem dX2_readNumber_116 : decode cX2_readNumber 116 = .ok (.iload 4, 2) := by decide +kernel
theorem dX2_readNumber_118 : decode cX2_readNumber 118 = .ok (.iload_n 2, 1) := by decide +kernel
theorem dX2_readNumber_119 : decode cX2_readNumber 119 = .ok (.if_icmp .le 11, 3) := by decide +kernel
theorem dX2_readNumber_122 : decode cX2_readNumber 122 = .ok (.aload_n 0, 1) := by decide +kernel
theorem dX2_readNumber_123 : decode cX2_readNumber 123 = .ok (.iconst 2, 1) := by decide +kernel
theorem dX2_readNumber_124 : decode cX2_readNumber 124 = .ok (.iload_n 3, 1) := by decide +kernel
theorem dX2_readNumber_125 : decode cX2_readNumber 125 = .ok (.invokevirtual 77, 3) := by decide +kernel
theorem dX2_readNumber_128 : decode cX2_readNumber 128 = .ok (.iconst (-1), 1) := by decide +kernel
theorem dX2_readNumber_129 : decode cX2_readNumber 129 = .ok (.ireturn, 1) := by decide +kernel
theorem dX2_readNumber_130 : decode cX2_readNumber 130 = .ok (.iload 4, 2) := by decide +kernel
theorem dX2_readNumber_132 : decode cX2_readNumber 132 = .ok (.ireturn, 1) := by decide +kernel
theorem dX2_readEnd_0 : decode cX2_readEnd 0 = .ok (.aload_n 0, 1) := by decide +kernel
theorem dX2_readEnd_1 : decode cX2_readEnd 1 = .ok (.invokevirtual 49, 3) := by decide +kernel
theorem dX2_readEnd_4 : decode cX2_readEnd 4 = .ok (.aload_n 0, 1) := by decide +kernel
theorem dX2_readEnd_5 : decode cX2_readEnd 5 = .ok (.getfield 29, 3) := by decide +kernel
theorem dX2_readEnd_8 : decode cX2_readEnd 8 = .ok (.aload_n 0, 1) := by decide +kernel
theorem dX2_readEnd_9 : decode cX2_readEnd 9 = .ok (.getfield 25, 3) := by decide +kernel
theorem dX2_readEnd_12 : decode cX2_readEnd 12 = .ok (.if_icmp .ge 30, 3) := by decide +kernel
theorem dX2_readEnd_15 : decode cX2_readEnd 15 = .ok (.aload_n 0, 1) := by decide +kernel
theorem dX2_readEnd_16 : decode cX2_readEnd 16 = .ok (.getfield 9, 3) := by decide +kernel
theorem dX2_readEnd_19 : decode cX2_readEnd 19 = .ok (.aload_n 0, 1) := by decide +kernel
theorem dX2_readEnd_20 : decode cX2_readEnd 20 = .ok (.getfield 29, 3) := by decide +kernel
theorem dX2_readEnd_23 : decode cX2_readEnd 23 = .ok (.caload, 1) := by decide +kernel
theorem dX2_readEnd_24 : decode cX2_readEnd 24 = .ok (.bipush 59, 2) := by decide +kernel
theorem dX2_readEnd_26 : decode cX2_readEnd 26 = .ok (.if_icmp .ne 16, 3) := by decide +kernel
theorem dX2_readEnd_29 : decode cX2_readEnd 29 = .ok (.aload_n 0, 1) := by decide +kernel
theorem dX2_readEnd_30 : decode cX2_readEnd 30 = .ok (.dup, 1) := by decide +kernel
theorem dX2_readEnd_31 : decode cX2_readEnd 31 = .ok (.getfield 29, 3) := by decide +kernel
theorem dX2_readEnd_34 : decode cX2_readEnd 34 = .ok (.iconst 1, 1) := by decide +kernel
theorem dX2_readEnd_35 : decode cX2_readEnd 35 = .ok (.iadd, 1) := by decide +kernel
theorem dX2_readEnd_36 : decode cX2_readEnd 36 = .ok (.putfield 29, 3) := by decide +kernel
theorem dX2_readEnd_39 : decode cX2_readEnd 39 = .ok (.goto 12, 3) := by decide +kernel
theorem dX2_readEnd_42 : decode cX2_readEnd 42 = .ok (.aload_n 0, 1) := by decide +kernel
theorem dX2_readEnd_43 : decode cX2_readEnd 43 = .ok (.iconst 1, 1) := by decide +kernel
theorem dX2_readEnd_44 : decode cX2_readEnd 44 = .ok (.aload_n 0, 1) := by decide +kernel
theorem dX2_readEnd_45 : decode cX2_readEnd 45 = .ok (.getfield 29, 3) := by decide +kernel
theorem dX2_readEnd_48 : decode cX2_readEnd 48 = .ok (.invokevirtual 77, 3) := by decide +kernel
theorem dX2_readEnd_51 : decode cX2_readEnd 51 = .ok (.aload_n 0, 1) := by decide +kernel
theorem dX2_readEnd_52 : decode cX2_readEnd 52 = .ok (.getfield 38, 3) := by decide +kernel
theorem dX2_readEnd_55 : decode cX2_readEnd 55 = .ok (.ifCond .ne 7, 3) := by decide +kernel
theorem dX2_readEnd_58 : decode cX2_readEnd 58 = .ok (.iconst 1, 1) := by decide +kernel
theorem dX2_readEnd_59 : decode cX2_readEnd 59 = .ok (.goto 4, 3) := by decide +kernel
theorem dX2_readEnd_62 : decode cX2_readEnd 62 = .ok (.iconst 0, 1) := by decide +kernel
theorem dX2_readEnd_63 : decode cX2_readEnd 63 = .ok (.ireturn, 1) := by decide +kernel
theorem dX2_numberFollows_0 : decode cX2_numberFollows 0 = .ok (.aload_n 0, 1) := by decide +kernel
theorem dX2_numberFollows_1 : decode cX2_numberFollows 1 = .ok (.invokevirtual 49, 3) := by decide +kernel
theorem dX2_numberFollows_4 : decode cX2_numberFollows 4 = .ok (.aload_n 0, 1) := by decide +kernel
theorem dX2_numberFollows_5 : decode cX2_numberFollows 5 = .ok (.getfield 29, 3) := by decide +kernel
theorem dX2_numberFollows_8 : decode cX2_numberFollows 8 = .ok (.aload_n 0, 1) := by decide +kernel
theorem dX2_numberFollows_9 : decode cX2_numberFollows 9 = .ok (.getfield 25, 3) := by decide +kernel
theorem dX2_numberFollows_12 : decode cX2_numberFollows 12 = .ok (.if_icmp .ge 22, 3) := by decide +kernel
theorem dX2_numberFollows_15 : decode cX2_numberFollows 15 = .ok (.aload_n 0, 1) := by decide +kernel
theorem dX2_numberFollows_16 : decode cX2_numberFollows 16 = .ok (.getfield 9, 3) := by decide +kernel
theorem dX2_numberFollows_19 : decode cX2_numberFollows 19 = .ok (.aload_n 0, 1) := by decide +kernel
theorem dX2_numberFollows_20 : decode cX2_numberFollows 20 = .ok (.getfield 29, 3) := by decide +kernel
theorem dX2_numberFollows_23 : decode cX2_numberFollows 23 = .ok (.caload, 1) := by decide +kernel
theorem dX2_numberFollows_24 : decode cX2_numberFollows 24 = .ok (.invokestatic 110, 3) := by decide +kernel
theorem dX2_numberFollows_27 : decode cX2_numberFollows 27 = .ok (.ifCond .eq 7, 3) := by decide +kernel
theorem dX2_numberFollows_30 : decode cX2_numberFollows 30 = .ok (.iconst 1, 1) := by decide +kernel
theorem dX2_numberFollows_31 : decode cX2_numberFollows 31 = .ok (.goto 4, 3) := by decide +kernel
theorem dX2_numberFollows_34 : decode cX2_numberFollows 34 = .ok (.iconst 0, 1) := by decide +kernel
theorem dX2_numberFollows_35 : decode cX2_numberFollows 35 = .ok (.ireturn, 1) := by decide +kernel
theorem dX2_skipBlanks_0 : decode cX2_skipBlanks 0 = .ok (.aload_n 0, 1) := by decide +kernel
theorem dX2_skipBlanks_1 : decode cX2_skipBlanks 1 = .ok (.getfield 29, 3) := by decide +kernel
theorem dX2_skipBlanks_4 : decode cX2_skipBlanks 4 = .ok (.aload_n 0, 1) := by decide +kernel
theorem dX2_skipBlanks_5 : decode cX2_skipBlanks 5 = .ok (.getfield 25, 3) := by decide +kernel
theorem dX2_skipBlanks_8 : decode cX2_skipBlanks 8 = .ok (.if_icmp .ge 30, 3) := by decide +kernel
theorem dX2_skipBlanks_11 : decode cX2_skipBlanks 11 = .ok (.aload_n 0, 1) := by decide +kernel
theorem dX2_skipBlanks_12 : decode cX2_skipBlanks 12 = .ok (.getfield 9, 3) := by decide +kernel
theorem dX2_skipBlanks_15 : decode cX2_skipBlanks 15 = .ok (.aload_n 0, 1) := by decide +kernel
theorem dX2_skipBlanks_16 : decode cX2_skipBlanks 16 = .ok (.getfield 29, 3) := by decide +kernel
theorem dX2_skipBlanks_19 : decode cX2_skipBlanks 19 = .ok (.caload, 1) := by decide +kernel
theorem dX2_skipBlanks_20 : decode cX2_skipBlanks 20 = .ok (.bipush 32, 2) := by decide +kernel
theorem dX2_skipBlanks_22 : decode cX2_skipBlanks 22 = .ok (.if_icmp .ne 16, 3) := by decide +kernel
theorem dX2_skipBlanks_25 : decode cX2_skipBlanks 25 = .ok (.aload_n 0, 1) := by decide +kernel
theorem dX2_skipBlanks_26 : decode cX2_skipBlanks 26 = .ok (.dup, 1) := by decide +kernel
theorem dX2_skipBlanks_27 : decode cX2_skipBlanks 27 = .ok (.getfield 29, 3) := by decide +kernel
theorem dX2_skipBlanks_30 : decode cX2_skipBlanks 30 = .ok (.iconst 1, 1) := by decide +kernel
theorem dX2_skipBlanks_31 : decode cX2_skipBlanks 31 = .ok (.iadd, 1) := by decide +kernel
theorem dX2_skipBlanks_32 : decode cX2_skipBlanks 32 = .ok (.putfield 29, 3) := by decide +kernel
theorem dX2_skipBlanks_35 : decode cX2_skipBlanks 35 = .ok (.goto (-35), 3) := by decide +kernel
theorem dX2_skipBlanks_38 : decode cX2_skipBlanks 38 = .ok (.return_, 1) := by decide +kernel
theorem dX2_isFigure_0 : decode cX2_isFigure 0 = .ok (.iload_n 0, 1) := by decide +kernel
theorem dX2_isFigure_1 : decode cX2_isFigure 1 = .ok (.bipush 48, 2) := by decide +kernel
theorem dX2_isFigure_3 : decode cX2_isFigure 3 = .ok (.if_icmp .lt 13, 3) := by decide +kernel
theorem dX2_isFigure_6 : decode cX2_isFigure 6 = .ok (.iload_n 0, 1) := by decide +kernel
theorem dX2_isFigure_7 : decode cX2_isFigure 7 = .ok (.bipush 57, 2) := by decide +kernel
theorem dX2_isFigure_9 : decode cX2_isFigure 9 = .ok (.if_icmp .gt 7, 3) := by decide +kernel
theorem dX2_isFigure_12 : decode cX2_isFigure 12 = .ok (.iconst 1, 1) := by decide +kernel
theorem dX2_isFigure_13 : decode cX2_isFigure 13 = .ok (.goto 4, 3) := by decide +kernel
theorem dX2_isFigure_16 : decode cX2_isFigure 16 = .ok (.iconst 0, 1) := by decide +kernel
theorem dX2_isFigure_17 : decode cX2_isFigure 17 = .ok (.ireturn, 1) := by decide +kernel
theorem dX2_isWord_0 : decode cX2_isWord 0 = .ok (.aload_n 0, 1) := by decide +kernel
theorem dX2_isWord_1 : decode cX2_isWord 1 = .ok (.getfield 29, 3) := by decide +kernel
theorem dX2_isWord_4 : decode cX2_isWord 4 = .ok (.iload_n 2, 1) := by decide +kernel
theorem dX2_isWord_5 : decode cX2_isWord 5 = .ok (.isub, 1) := by decide +kernel
theorem dX2_isWord_6 : decode cX2_isWord 6 = .ok (.aload_n 1, 1) := by decide +kernel
theorem dX2_isWord_7 : decode cX2_isWord 7 = .ok (.invokevirtual 114, 3) := by decide +kernel
theorem dX2_isWord_10 : decode cX2_isWord 10 = .ok (.if_icmp .eq 5, 3) := by decide +kernel
theorem dX2_isWord_13 : decode cX2_isWord 13 = .ok (.iconst 0, 1) := by decide +kernel
theorem dX2_isWord_14 : decode cX2_isWord 14 = .ok (.ireturn, 1) := by decide +kernel
theorem dX2_isWord_15 : decode cX2_isWord 15 = .ok (.iconst 0, 1) := by decide +kernel
theorem dX2_isWord_16 : decode cX2_isWord 16 = .ok (.istore_n 3, 1) := by decide +kernel
theorem dX2_isWord_17 : decode cX2_isWord 17 = .ok (.iload_n 3, 1) := by decide +kernel
theorem dX2_isWord_18 : decode cX2_isWord 18 = .ok (.aload_n 1, 1) := by decide +kernel
theorem dX2_isWord_19 : decode cX2_isWord 19 = .ok (.invokevirtual 114, 3) := by decide +kernel
theorem dX2_isWord_22 : decode cX2_isWord 22 = .ok (.if_icmp .ge 27, 3) := by decide +kernel
theorem dX2_isWord_25 : decode cX2_isWord 25 = .ok (.aload_n 0, 1) := by decide +kernel
theorem dX2_isWord_26 : decode cX2_isWord 26 = .ok (.getfield 9, 3) := by decide +kernel
theorem dX2_isWord_29 : decode cX2_isWord 29 = .ok (.iload_n 2, 1) := by decide +kernel
theorem dX2_isWord_30 : decode cX2_isWord 30 = .ok (.iload_n 3, 1) := by decide +kernel
theorem dX2_isWord_31 : decode cX2_isWord 31 = .ok (.iadd, 1) := by decide +kernel
theorem dX2_isWord_32 : decode cX2_isWord 32 = .ok (.caload, 1) := by decide +kernel
theorem dX2_isWord_33 : decode cX2_isWord 33 = .ok (.aload_n 1, 1) := by decide +kernel
theorem dX2_isWord_34 : decode cX2_isWord 34 = .ok (.iload_n 3, 1) := by decide +kernel
theorem dX2_isWord_35 : decode cX2_isWord 35 = .ok (.invokevirtual 119, 3) := by decide +kernel
theorem dX2_isWord_38 : decode cX2_isWord 38 = .ok (.if_icmp .eq 5, 3) := by decide +kernel
theorem dX2_isWord_41 : decode cX2_isWord 41 = .ok (.iconst 0, 1) := by decide +kernel
theorem dX2_isWord_42 : decode cX2_isWord 42 = .ok (.ireturn, 1) := by decide +kernel
theorem dX2_isWord_43 : decode cX2_isWord 43 = .ok (.iinc 3 1, 3) := by decide +kernel
theorem dX2_isWord_46 : decode cX2_isWord 46 = .ok (.goto (-29), 3) := by decide +kernel
theorem dX2_isWord_49 : decode cX2_isWord 49 = .ok (.iconst 1, 1) := by decide +kernel
theorem dX2_isWord_50 : decode cX2_isWord 50 = .ok (.ireturn, 1) := by decide +kernel
theorem dX2_fail_0 : decode cX2_fail 0 = .ok (.aload_n 0, 1) := by decide +kernel
theorem dX2_fail_1 : decode cX2_fail 1 = .ok (.getfield 38, 3) := by decide +kernel
theorem dX2_fail_4 : decode cX2_fail 4 = .ok (.ifCond .ne 13, 3) := by decide +kernel
theorem dX2_fail_7 : decode cX2_fail 7 = .ok (.aload_n 0, 1) := by decide +kernel
theorem dX2_fail_8 : decode cX2_fail 8 = .ok (.iload_n 1, 1) := by decide +kernel
theorem dX2_fail_9 : decode cX2_fail 9 = .ok (.putfield 38, 3) := by decide +kernel
theorem dX2_fail_12 : decode cX2_fail 12 = .ok (.aload_n 0, 1) := by decide +kernel
theorem dX2_fail_13 : decode cX2_fail 13 = .ok (.iload_n 2, 1) := by decide +kernel
theorem dX2_fail_14 : decode cX2_fail 14 = .ok (.putfield 41, 3) := by decide +kernel
theorem dX2_fail_17 : decode cX2_fail 17 = .ok (.return_, 1) := by decide +kernel
theorem dX3_init_0 : decode cX3_init 0 = .ok (.aload_n 0, 1) := by decide +kernel
theorem dX3_init_1 : decode cX3_init 1 = .ok (.invokespecial 3, 3) := by decide +kernel
theorem dX3_init_4 : decode cX3_init 4 = .ok (.aload_n 0, 1) := by decide +kernel
theorem dX3_init_5 : decode cX3_init 5 = .ok (.iconst 5, 1) := by decide +kernel
theorem dX3_init_6 : decode cX3_init 6 = .ok (.newarray .int, 2) := by decide +kernel
theorem dX3_init_8 : decode cX3_init 8 = .ok (.putfield 9, 3) := by decide +kernel
theorem dX3_init_11 : decode cX3_init 11 = .ok (.aload_n 0, 1) := by decide +kernel
theorem dX3_init_12 : decode cX3_init 12 = .ok (.iconst 5, 1) := by decide +kernel
theorem dX3_init_13 : decode cX3_init 13 = .ok (.newarray .int, 2) := by decide +kernel
theorem dX3_init_15 : decode cX3_init 15 = .ok (.putfield 15, 3) := by decide +kernel
theorem dX3_init_18 : decode cX3_init 18 = .ok (.aload_n 0, 1) := by decide +kernel
theorem dX3_init_19 : decode cX3_init 19 = .ok (.iconst 5, 1) := by decide +kernel
theorem dX3_init_20 : decode cX3_init 20 = .ok (.newarray .int, 2) := by decide +kernel
theorem dX3_init_22 : decode cX3_init 22 = .ok (.putfield 18, 3) := by decide +kernel
theorem dX3_init_25 : decode cX3_init 25 = .ok (.aload_n 0, 1) := by decide +kernel
theorem dX3_init_26 : decode cX3_init 26 = .ok (.iconst 5, 1) := by decide +kernel
theorem dX3_init_27 : decode cX3_init 27 = .ok (.newarray .int, 2) := by decide +kernel
theorem dX3_init_29 : decode cX3_init 29 = .ok (.putfield 21, 3) := by decide +kernel
theorem dX3_init_32 : decode cX3_init 32 = .ok (.aload_n 0, 1) := by decide +kernel
theorem dX3_init_33 : decode cX3_init 33 = .ok (.bipush 20, 2) := by decide +kernel
theorem dX3_init_35 : decode cX3_init 35 = .ok (.newarray .int, 2) := by decide +kernel
theorem dX3_init_37 : decode cX3_init 37 = .ok (.putfield 24, 3) := by decide +kernel
theorem dX3_init_40 : decode cX3_init 40 = .ok (.aload_n 0, 1) := by decide +kernel
theorem dX3_init_41 : decode cX3_init 41 = .ok (.iconst 5, 1) := by decide +kernel
theorem dX3_init_42 : decode cX3_init 42 = .ok (.newarray .int, 2) := by decide +kernel
theorem dX3_init_44 : decode cX3_init 44 = .ok (.putfield 27, 3) := by decide +kernel
theorem dX3_init_47 : decode cX3_init 47 = .ok (.aload_n 0, 1) := by decide +kernel
theorem dX3_init_48 : decode cX3_init 48 = .ok (.bipush 25, 2) := by decide +kernel
theorem dX3_init_50 : decode cX3_init 50 = .ok (.newarray .int, 2) := by decide +kernel
theorem dX3_init_52 : decode cX3_init 52 = .ok (.putfield 30, 3) := by decide +kernel
theorem dX3_init_55 : decode cX3_init 55 = .ok (.aload_n 0, 1) := by decide +kernel
theorem dX3_init_56 : decode cX3_init 56 = .ok (.aload_n 1, 1) := by decide +kernel
theorem dX3_init_57 : decode cX3_init 57 = .ok (.putfield 33, 3) := by decide +kernel
theorem dX3_init_60 : decode cX3_init 60 = .ok (.return_, 1) := by decide +kernel
theorem dX3_findBest_0 : decode cX3_findBest 0 = .ok (.aload_n 0, 1) := by decide +kernel
theorem dX3_findBest_1 : decode cX3_findBest 1 = .ok (.aload_n 0, 1) := by decide +kernel
theorem dX3_findBest_2 : decode cX3_findBest 2 = .ok (.getfield 33, 3) := by decide +kernel
theorem dX3_findBest_5 : decode cX3_findBest 5 = .ok (.getfield 37, 3) := by decide +kernel
theorem dX3_findBest_8 : decode cX3_findBest 8 = .ok (.getfield 43, 3) := by decide +kernel
theorem dX3_findBest_11 : decode cX3_findBest 11 = .ok (.putfield 49, 3) := by decide +kernel
theorem dX3_findBest_14 : decode cX3_findBest 14 = .ok (.aload_n 0, 1) := by decide +kernel
theorem dX3_findBest_15 : decode cX3_findBest 15 = .ok (.iconst 0, 1) := by decide +kernel
theorem dX3_findBest_16 : decode cX3_findBest 16 = .ok (.putfield 50, 3) := by decide +kernel
theorem dX3_findBest_19 : decode cX3_findBest 19 = .ok (.iconst 0, 1) := by decide +kernel
theorem dX3_findBest_20 : decode cX3_findBest 20 = .ok (.istore_n 1, 1) := by decide +kernel
theorem dX3_findBest_21 : decode cX3_findBest 21 = .ok (.iload_n 1, 1) := by decide +kernel
theorem dX3_findBest_22 : decode cX3_findBest 22 = .ok (.aload_n 0, 1) := by decide +kernel
theorem dX3_findBest_23 : decode cX3_findBest 23 = .ok (.getfield 49, 3) := by decide +kernel
theorem dX3_findBest_26 : decode cX3_findBest 26 = .ok (.if_icmp .ge 28, 3) := by decide +kernel
theorem dX3_findBest_29 : decode cX3_findBest 29 = .ok (.aload_n 0, 1) := by decide +kernel
theorem dX3_findBest_30 : decode cX3_findBest 30 = .ok (.getfield 18, 3) := by decide +kernel
theorem dX3_findBest_33 : decode cX3_findBest 33 = .ok (.iload_n 1, 1) := by decide +kernel
theorem dX3_findBest_34 : decode cX3_findBest 34 = .ok (.iload_n 1, 1) := by decide +kernel
theorem dX3_findBest_35 : decode cX3_findBest 35 = .ok (.iastore, 1) := by decide +kernel
theorem dX3_findBest_36 : decode cX3_findBest 36 = .ok (.aload_n 0, 1) := by decide +kernel
theorem dX3_findBest_37 : decode cX3_findBest 37 = .ok (.getfield 21, 3) := by decide +kernel
theorem dX3_findBest_40 : decode cX3_findBest 40 = .ok (.iload_n 1, 1) := by decide +kernel
theorem dX3_findBest_41 : decode cX3_findBest 41 = .ok (.iconst (-1), 1) := by decide +kernel
theorem dX3_findBest_42 : decode cX3_findBest 42 = .ok (.iastore, 1) := by decide +kernel
theorem dX3_findBest_43 : decode cX3_findBest 43 = .ok (.aload_n 0, 1) := by decide +kernel
theorem dX3_findBest_44 : decode cX3_findBest 44 = .ok (.iload_n 1, 1) := by decide +kernel
theorem dX3_findBest_45 : decode cX3_findBest 45 = .ok (.invokevirtual 53, 3) := by decide +kernel
theorem dX3_findBest_48 : decode cX3_findBest 48 = .ok (.iinc 1 1, 3) := by decide +kernel
theorem dX3_findBest_51 : decode cX3_findBest 51 = .ok (.goto (-30), 3) := by decide +kernel
theorem dX3_findBest_54 : decode cX3_findBest 54 = .ok (.iconst 0, 1) := by decide +kernel
theorem dX3_findBest_55 : decode cX3_findBest 55 = .ok (.istore_n 1, 1) := by decide +kernel
theorem dX3_findBest_56 : decode cX3_findBest 56 = .ok (.iload_n 1, 1) := by decide +kernel
theorem dX3_findBest_57 : decode cX3_findBest 57 = .ok (.aload_n 0, 1) := by decide +kernel
theorem dX3_findBest_58 : decode cX3_findBest 58 = .ok (.getfield 49, 3) := by decide +kernel
theorem dX3_findBest_61 : decode cX3_findBest 61 = .ok (.if_icmp .ge 41, 3) := by decide +kernel
theorem dX3_findBest_64 : decode cX3_findBest 64 = .ok (.iconst 0, 1) := by decide +kernel
theorem dX3_findBest_65 : decode cX3_findBest 65 = .ok (.istore_n 2, 1) := by decide +kernel
theorem dX3_findBest_66 : decode cX3_findBest 66 = .ok (.iload_n 2, 1) := by decide +kernel
theorem dX3_findBest_67 : decode cX3_findBest 67 = .ok (.aload_n 0, 1) := by decide +kernel
theorem dX3_findBest_68 : decode cX3_findBest 68 = .ok (.getfield 49, 3) := by decide +kernel
theorem dX3_findBest_71 : decode cX3_findBest 71 = .ok (.if_icmp .ge 25, 3) := by decide +kernel
theorem dX3_findBest_74 : decode cX3_findBest 74 = .ok (.aload_n 0, 1) := by decide +kernel
theorem dX3_findBest_75 : decode cX3_findBest 75 = .ok (.getfield 30, 3) := by decide +kernel
theorem dX3_findBest_78 : decode cX3_findBest 78 = .ok (.iload_n 1, 1) := by decide +kernel
theorem dX3_findBest_79 : decode cX3_findBest 79 = .ok (.iconst 5, 1) := by decide +kernel
theorem dX3_findBest_80 : decode cX3_findBest 80 = .ok (.imul, 1) := by decide +kernel
theorem dX3_findBest_81 : decode cX3_findBest 81 = .ok (.iload_n 2, 1) := by decide +kernel
theorem dX3_findBest_82 : decode cX3_findBest 82 = .ok (.iadd, 1) := by decide +kernel
theorem dX3_findBest_83 : decode cX3_findBest 83 = .ok (.aload_n 0, 1) := by decide +kernel
theorem dX3_findBest_84 : decode cX3_findBest 84 = .ok (.iload_n 1, 1) := by decide +kernel
theorem dX3_findBest_85 : decode cX3_findBest 85 = .ok (.iload_n 2, 1) := by decide +kernel
theorem dX3_findBest_86 : decode cX3_findBest 86 = .ok (.invokevirtual 57, 3) := by decide +kernel
theorem dX3_findBest_89 : decode cX3_findBest 89 = .ok (.iastore, 1) := by decide +kernel
theorem dX3_findBest_90 : decode cX3_findBest 90 = .ok (.iinc 2 1, 3) := by decide +kernel
theorem dX3_findBest_93 : decode cX3_findBest 93 = .ok (.goto (-27), 3) := by decide +kernel
theorem dX3_findBest_96 : decode cX3_findBest 96 = .ok (.iinc 1 1, 3) := by decide +kernel
theorem dX3_findBest_99 : decode cX3_findBest 99 = .ok (.goto (-43), 3) := by decide +kernel
theorem dX3_findBest_102 : decode cX3_findBest 102 = .ok (.aload_n 0, 1) := by decide +kernel
theorem dX3_findBest_103 : decode cX3_findBest 103 = .ok (.iconst 0, 1) := by decide +kernel
theorem dX3_findBest_104 : decode cX3_findBest 104 = .ok (.iconst 0, 1) := by decide +kernel
theorem dX3_findBest_105 : decode cX3_findBest 105 = .ok (.iconst 0, 1) := by decide +kernel
theorem dX3_findBest_106 : decode cX3_findBest 106 = .ok (.invokevirtual 61, 3) := by decide +kernel
theorem dX3_findBest_109 : decode cX3_findBest 109 = .ok (.return_, 1) := by decide +kernel
theorem dX3_partTakenBy_0 : decode cX3_partTakenBy 0 = .ok (.aload_n 0, 1) := by decide +kernel
theorem dX3_partTakenBy_1 : decode cX3_partTakenBy 1 = .ok (.getfield 21, 3) := by decide +kernel
theorem dX3_partTakenBy_4 : decode cX3_partTakenBy 4 = .ok (.aload_n 0, 1) := by decide +kernel
theorem dX3_partTakenBy_5 : decode cX3_partTakenBy 5 = .ok (.getfield 18, 3) := by decide +kernel
theorem dX3_partTakenBy_8 : decode cX3_partTakenBy 8 = .ok (.iload_n 1, 1) := by decide +kernel
theorem dX3_partTakenBy_9 : decode cX3_partTakenBy 9 = .ok (.iaload, 1) := by decide +kernel
theorem dX3_partTakenBy_10 : decode cX3_partTakenBy 10 = .ok (.iaload, 1) := by decide +kernel
theorem dX3_partTakenBy_11 : decode cX3_partTakenBy 11 = .ok (.ireturn, 1) := by decide +kernel
theorem dX3_listChoices_0 : decode cX3_listChoices 0 = .ok (.iconst 0, 1) := by decide +kernel
theorem dX3_listChoices_1 : decode cX3_listChoices 1 = .ok (.istore_n 2, 1) := by decide +kernel
theorem dX3_listChoices_2 : decode cX3_listChoices 2 = .ok (.iconst 0, 1) := by decide +kernel
theorem dX3_listChoices_3 : decode cX3_listChoices 3 = .ok (.istore_n 3, 1) := by decide +kernel
theorem dX3_listChoices_4 : decode cX3_listChoices 4 = .ok (.iconst 0, 1) := by decide +kernel
theorem dX3_listChoices_5 : decode cX3_listChoices 5 = .ok (.istore 4, 2) := by decide +kernel
theorem dX3_listChoices_7 : decode cX3_listChoices 7 = .ok (.iload 4, 2) := by decide +kernel
theorem dX3_listChoices_9 : decode cX3_listChoices 9 = .ok (.aload_n 0, 1) := by decide +kernel
theorem dX3_listChoices_10 : decode cX3_listChoices 10 = .ok (.getfield 33, 3) := by decide +kernel
theorem dX3_listChoices_13 : decode cX3_listChoices 13 = .ok (.getfield 65, 3) := by decide +kernel
theorem dX3_listChoices_16 : decode cX3_listChoices 16 = .ok (.if_icmp .ge 69, 3) := by decide +kernel
theorem dX3_listChoices_19 : decode cX3_listChoices 19 = .ok (.iconst 1, 1) := by decide +kernel
theorem dX3_listChoices_20 : decode cX3_listChoices 20 = .ok (.aload_n 0, 1) := by decide +kernel
theorem dX3_listChoices_21 : decode cX3_listChoices 21 = .ok (.getfield 33, 3) := by decide +kernel
theorem dX3_listChoices_24 : decode cX3_listChoices 24 = .ok (.getfield 68, 3) := by decide +kernel
theorem dX3_listChoices_27 : decode cX3_listChoices 27 = .ok (.iload 4, 2) := by decide +kernel
theorem dX3_listChoices_29 : decode cX3_listChoices 29 = .ok (.iaload, 1) := by decide +kernel
theorem dX3_listChoices_30 : decode cX3_listChoices 30 = .ok (.ishl, 1) := by decide +kernel
theorem dX3_listChoices_31 : decode cX3_listChoices 31 = .ok (.istore 5, 2) := by decide +kernel
theorem dX3_listChoices_33 : decode cX3_listChoices 33 = .ok (.aload_n 0, 1) := by decide +kernel
theorem dX3_listChoices_34 : decode cX3_listChoices 34 = .ok (.getfield 33, 3) := by decide +kernel
theorem dX3_listChoices_37 : decode cX3_listChoices 37 = .ok (.getfield 71, 3) := by decide +kernel
theorem dX3_listChoices_40 : decode cX3_listChoices 40 = .ok (.iload 4, 2) := by decide +kernel
theorem dX3_listChoices_42 : decode cX3_listChoices 42 = .ok (.iaload, 1) := by decide +kernel
theorem dX3_listChoices_43 : decode cX3_listChoices 43 = .ok (.iload_n 1, 1) := by decide +kernel
theorem dX3_listChoices_44 : decode cX3_listChoices 44 = .ok (.if_icmp .ne 35, 3) := by decide +kernel
theorem dX3_listChoices_47 : decode cX3_listChoices 47 = .ok (.iload_n 3, 1) := by decide +kernel
theorem dX3_listChoices_48 : decode cX3_listChoices 48 = .ok (.iload 5, 2) := by decide +kernel
theorem dX3_listChoices_50 : decode cX3_listChoices 50 = .ok (.iand, 1) := by decide +kernel
theorem dX3_listChoices_51 : decode cX3_listChoices 51 = .ok (.ifCond .ne 28, 3) := by decide +kernel
theorem dX3_listChoices_54 : decode cX3_listChoices 54 = .ok (.iload_n 2, 1) := by decide +kernel
theorem dX3_listChoices_55 : decode cX3_listChoices 55 = .ok (.iconst 4, 1) := by decide +kernel
theorem dX3_listChoices_56 : decode cX3_listChoices 56 = .ok (.if_icmp .ge 23, 3) := by decide +kernel
theorem dX3_listChoices_59 : decode cX3_listChoices 59 = .ok (.iload_n 3, 1) := by decide +kernel
theorem dX3_listChoices_60 : decode cX3_listChoices 60 = .ok (.iload 5, 2) := by decide +kernel
theorem dX3_listChoices_62 : decode cX3_listChoices 62 = .ok (.ior, 1) := by decide +kernel
theorem dX3_listChoices_63 : decode cX3_listChoices 63 = .ok (.istore_n 3, 1) := by decide +kernel
theorem dX3_listChoices_64 : decode cX3_listChoices 64 = .ok (.aload_n 0, 1) := by decide +kernel
theorem dX3_listChoices_65 : decode cX3_listChoices 65 = .ok (.getfield 24, 3) := by decide +kernel
theorem dX3_listChoices_68 : decode cX3_listChoices 68 = .ok (.iload_n 1, 1) := by decide +kernel
theorem dX3_listChoices_69 : decode cX3_listChoices 69 = .ok (.iconst 4, 1) := by decide +kernel
theorem dX3_listChoices_70 : decode cX3_listChoices 70 = .ok (.imul, 1) := by decide +kernel
theorem dX3_listChoices_71 : decode cX3_listChoices 71 = .ok (.iload_n 2, 1) := by decide +kernel
theorem dX3_listChoices_72 : decode cX3_listChoices 72 = .ok (.iadd, 1) := by decide +kernel
theorem dX3_listChoices_73 : decode cX3_listChoices 73 = .ok (.iload 4, 2) := by decide +kernel
theorem dX3_listChoices_75 : decode cX3_listChoices 75 = .ok (.iastore, 1) := by decide +kernel
theorem dX3_listChoices_76 : decode cX3_listChoices 76 = .ok (.iinc 2 1, 3) := by decide +kernel
theorem dX3_listChoices_79 : decode cX3_listChoices 79 = .ok (.iinc 4 1, 3) := by decide +kernel
theorem dX3_listChoices_82 : decode cX3_listChoices 82 = .ok (.goto (-75), 3) := by decide +kernel
theorem dX3_listChoices_85 : decode cX3_listChoices 85 = .ok (.aload_n 0, 1) := by decide +kernel
theorem dX3_listChoices_86 : decode cX3_listChoices 86 = .ok (.getfield 27, 3) := by decide +kernel
theorem dX3_listChoices_89 : decode cX3_listChoices 89 = .ok (.iload_n 1, 1) := by decide +kernel
theorem dX3_listChoices_90 : decode cX3_listChoices 90 = .ok (.iload_n 2, 1) := by decide +kernel
theorem dX3_listChoices_91 : decode cX3_listChoices 91 = .ok (.iastore, 1) := by decide +kernel
theorem dX3_listChoices_92 : decode cX3_listChoices 92 = .ok (.return_, 1) := by decide +kernel
theorem dX3_mostBetter_0 : decode cX3_mostBetter 0 = .ok (.iconst 0, 1) := by decide +kernel
theorem dX3_mostBetter_1 : decode cX3_mostBetter 1 = .ok (.istore_n 3, 1) := by decide +kernel
theorem dX3_mostBetter_2 : decode cX3_mostBetter 2 = .ok (.iconst 0, 1) := by decide +kernel
theorem dX3_mostBetter_3 : decode cX3_mostBetter 3 = .ok (.istore 4, 2) := by decide +kernel
theorem dX3_mostBetter_5 : decode cX3_mostBetter 5 = .ok (.iload 4, 2) := by decide +kernel
theorem dX3_mostBetter_7 : decode cX3_mostBetter 7 = .ok (.aload_n 0, 1) := by decide +kernel
theorem dX3_mostBetter_8 : decode cX3_mostBetter 8 = .ok (.getfield 27, 3) := by decide +kernel
theorem dX3_mostBetter_11 : decode cX3_mostBetter 11 = .ok (.iload_n 1, 1) := by decide +kernel
theorem dX3_mostBetter_12 : decode cX3_mostBetter 12 = .ok (.iaload, 1) := by decide +kernel
theorem dX3_mostBetter_13 : decode cX3_mostBetter 13 = .ok (.if_icmp .ge 72, 3) := by decide +kernel
theorem dX3_mostBetter_16 : decode cX3_mostBetter 16 = .ok (.iconst 0, 1) := by decide +kernel
theorem dX3_mostBetter_17 : decode cX3_mostBetter 17 = .ok (.istore 5, 2) := by decide +kernel
theorem dX3_mostBetter_19 : decode cX3_mostBetter 19 = .ok (.iload 5, 2) := by decide +kernel
theorem dX3_mostBetter_21 : decode cX3_mostBetter 21 = .ok (.aload_n 0, 1) := by decide +kernel
theorem dX3_mostBetter_22 : decode cX3_mostBetter 22 = .ok (.getfield 27, 3) := by decide +kernel
theorem dX3_mostBetter_25 : decode cX3_mostBetter 25 = .ok (.iload_n 2, 1) := by decide +kernel
theorem dX3_mostBetter_26 : decode cX3_mostBetter 26 = .ok (.iaload, 1) := by decide +kernel
theorem dX3_mostBetter_27 : decode cX3_mostBetter 27 = .ok (.if_icmp .ge 52, 3) := by decide +kernel
theorem dX3_mostBetter_30 : decode cX3_mostBetter 30 = .ok (.aload_n 0, 1) := by decide +kernel
theorem dX3_mostBetter_31 : decode cX3_mostBetter 31 = .ok (.getfield 24, 3) := by decide +kernel
theorem dX3_mostBetter_34 : decode cX3_mostBetter 34 = .ok (.iload_n 1, 1) := by decide +kernel
theorem dX3_mostBetter_35 : decode cX3_mostBetter 35 = .ok (.iconst 4, 1) := by decide +kernel
theorem dX3_mostBetter_36 : decode cX3_mostBetter 36 = .ok (.imul, 1) := by decide +kernel
theorem dX3_mostBetter_37 : decode cX3_mostBetter 37 = .ok (.iload 4, 2) := by decide +kernel
theorem dX3_mostBetter_39 : decode cX3_mostBetter 39 = .ok (.iadd, 1) := by decide +kernel
theorem dX3_mostBetter_40 : decode cX3_mostBetter 40 = .ok (.iaload, 1) := by decide +kernel
theorem dX3_mostBetter_41 : decode cX3_mostBetter 41 = .ok (.istore 6, 2) := by decide +kernel
theorem dX3_mostBetter_43 : decode cX3_mostBetter 43 = .ok (.aload_n 0, 1) := by decide +kernel
theorem dX3_mostBetter_44 : decode cX3_mostBetter 44 = .ok (.getfield 24, 3) := by decide +kernel
theorem dX3_mostBetter_47 : decode cX3_mostBetter 47 = .ok (.iload_n 2, 1) := by decide +kernel
theorem dX3_mostBetter_48 : decode cX3_mostBetter 48 = .ok (.iconst 4, 1) := by decide +kernel
theorem dX3_mostBetter_49 : decode cX3_mostBetter 49 = .ok (.imul, 1) := by decide +kernel
theorem dX3_mostBetter_50 : decode cX3_mostBetter 50 = .ok (.iload 5, 2) := by decide +kernel
theorem dX3_mostBetter_52 : decode cX3_mostBetter 52 = .ok (.iadd, 1) := by decide +kernel
theorem dX3_mostBetter_53 : decode cX3_mostBetter 53 = .ok (.iaload, 1) := by decide +kernel
theorem dX3_mostBetter_54 : decode cX3_mostBetter 54 = .ok (.istore 7, 2) := by decide +kernel
theorem dX3_mostBetter_56 : decode cX3_mostBetter 56 = .ok (.iload_n 3, 1) := by decide +kernel
theorem dX3_mostBetter_57 : decode cX3_mostBetter 57 = .ok (.aload_n 0, 1) := by decide +kernel
theorem dX3_mostBetter_58 : decode cX3_mostBetter 58 = .ok (.getfield 33, 3) := by decide +kernel
theorem dX3_mostBetter_61 : decode cX3_mostBetter 61 = .ok (.iload_n 1, 1) := by decide +kernel
theorem dX3_mostBetter_62 : decode cX3_mostBetter 62 = .ok (.iload 6, 2) := by decide +kernel
theorem dX3_mostBetter_64 : decode cX3_mostBetter 64 = .ok (.iload 7, 2) := by decide +kernel
theorem dX3_mostBetter_66 : decode cX3_mostBetter 66 = .ok (.invokevirtual 74, 3) := by decide +kernel
theorem dX3_mostBetter_69 : decode cX3_mostBetter 69 = .ok (.invokestatic 78, 3) := by decide +kernel
theorem dX3_mostBetter_72 : decode cX3_mostBetter 72 = .ok (.istore_n 3, 1) := by decide +kernel
theorem dX3_mostBetter_73 : decode cX3_mostBetter 73 = .ok (.iinc 5 1, 3) := by decide +kernel
theorem dX3_mostBetter_76 : decode cX3_mostBetter 76 = .ok (.goto (-57), 3) := by decide +kernel
theorem dX3_mostBetter_79 : decode cX3_mostBetter 79 = .ok (.iinc 4 1, 3) := by decide +kernel
theorem dX3_mostBetter_82 : decode cX3_mostBetter 82 = .ok (.goto (-77), 3) := by decide +kernel
theorem dX3_mostBetter_85 : decode cX3_mostBetter 85 = .ok (.iload_n 3, 1) := by decide +kernel
theorem dX3_mostBetter_86 : decode cX3_mostBetter 86 = .ok (.ireturn, 1) := by decide +kernel
theorem dX3_chooseGiver_0 : decode cX3_chooseGiver 0 = .ok (.iload_n 1, 1) := by decide +kernel
theorem dX3_chooseGiver_1 : decode cX3_chooseGiver 1 = .ok (.aload_n 0, 1) := by decide +kernel
theorem dX3_chooseGiver_2 : decode cX3_chooseGiver 2 = .ok (.getfield 49, 3) := by decide +kernel
theorem dX3_chooseGiver_5 : decode cX3_chooseGiver 5 = .ok (.if_icmp .lt 10, 3) := by decide +kernel
theorem dX3_chooseGiver_8 : decode cX3_chooseGiver 8 = .ok (.aload_n 0, 1) := by decide +kernel
theorem dX3_chooseGiver_9 : decode cX3_chooseGiver 9 = .ok (.iconst 0, 1) := by decide +kernel
theorem dX3_chooseGiver_10 : decode cX3_chooseGiver 10 = .ok (.iload_n 3, 1) := by decide +kernel
theorem dX3_chooseGiver_11 : decode cX3_chooseGiver 11 = .ok (.invokevirtual 83, 3) := by decide +kernel
theorem dX3_chooseGiver_14 : decode cX3_chooseGiver 14 = .ok (.return_, 1) := by decide +kernel
theorem dX3_chooseGiver_15 : decode cX3_chooseGiver 15 = .ok (.iload_n 2, 1) := by decide +kernel
theorem dX3_chooseGiver_16 : decode cX3_chooseGiver 16 = .ok (.iload_n 1, 1) := by decide +kernel
theorem dX3_chooseGiver_17 : decode cX3_chooseGiver 17 = .ok (.ishr, 1) := by decide +kernel
theorem dX3_chooseGiver_18 : decode cX3_chooseGiver 18 = .ok (.iconst 1, 1) := by decide +kernel
theorem dX3_chooseGiver_19 : decode cX3_chooseGiver 19 = .ok (.iand, 1) := by decide +kernel
theorem dX3_chooseGiver_20 : decode cX3_chooseGiver 20 = .ok (.ifCond .ne 23, 3) := by decide +kernel
theorem dX3_chooseGiver_23 : decode cX3_chooseGiver 23 = .ok (.aload_n 0, 1) := by decide +kernel
theorem dX3_chooseGiver_24 : decode cX3_chooseGiver 24 = .ok (.getfield 9, 3) := by decide +kernel
theorem dX3_chooseGiver_27 : decode cX3_chooseGiver 27 = .ok (.iload_n 1, 1) := by decide +kernel
theorem dX3_chooseGiver_28 : decode cX3_chooseGiver 28 = .ok (.iload_n 1, 1) := by decide +kernel
theorem dX3_chooseGiver_29 : decode cX3_chooseGiver 29 = .ok (.iastore, 1) := by decide +kernel
theorem dX3_chooseGiver_30 : decode cX3_chooseGiver 30 = .ok (.aload_n 0, 1) := by decide +kernel
theorem dX3_chooseGiver_31 : decode cX3_chooseGiver 31 = .ok (.iload_n 1, 1) := by decide +kernel
theorem dX3_chooseGiver_32 : decode cX3_chooseGiver 32 = .ok (.iconst 1, 1) := by decide +kernel
theorem dX3_chooseGiver_33 : decode cX3_chooseGiver 33 = .ok (.iadd, 1) := by decide +kernel
theorem dX3_chooseGiver_34 : decode cX3_chooseGiver 34 = .ok (.iload_n 2, 1) := by decide +kernel
theorem dX3_chooseGiver_35 : decode cX3_chooseGiver 35 = .ok (.iconst 1, 1) := by decide +kernel
theorem dX3_chooseGiver_36 : decode cX3_chooseGiver 36 = .ok (.iload_n 1, 1) := by decide +kernel
theorem dX3_chooseGiver_37 : decode cX3_chooseGiver 37 = .ok (.ishl, 1) := by decide +kernel
theorem dX3_chooseGiver_38 : decode cX3_chooseGiver 38 = .ok (.ior, 1) := by decide +kernel
theorem dX3_chooseGiver_39 : decode cX3_chooseGiver 39 = .ok (.iload_n 3, 1) := by decide +kernel
theorem dX3_chooseGiver_40 : decode cX3_chooseGiver 40 = .ok (.invokevirtual 61, 3) := by decide +kernel
theorem dX3_chooseGiver_43 : decode cX3_chooseGiver 43 = .ok (.iconst 0, 1) := by decide +kernel
theorem dX3_chooseGiver_44 : decode cX3_chooseGiver 44 = .ok (.istore 4, 2) := by decide +kernel
theorem dX3_chooseGiver_46 : decode cX3_chooseGiver 46 = .ok (.iload 4, 2) := by decide +kernel
theorem dX3_chooseGiver_48 : decode cX3_chooseGiver 48 = .ok (.aload_n 0, 1) := by decide +kernel
theorem dX3_chooseGiver_49 : decode cX3_chooseGiver 49 = .ok (.getfield 49, 3) := by decide +kernel
theorem dX3_chooseGiver_52 : decode cX3_chooseGiver 52 = .ok (.if_icmp .ge 67, 3) := by decide +kernel
theorem dX3_chooseGiver_55 : decode cX3_chooseGiver 55 = .ok (.aload_n 0, 1) := by decide +kernel
theorem dX3_chooseGiver_56 : decode cX3_chooseGiver 56 = .ok (.getfield 30, 3) := by decide +kernel
theorem dX3_chooseGiver_59 : decode cX3_chooseGiver 59 = .ok (.iload_n 1, 1) := by decide +kernel
theorem dX3_chooseGiver_60 : decode cX3_chooseGiver 60 = .ok (.iconst 5, 1) := by decide +kernel
theorem dX3_chooseGiver_61 : decode cX3_chooseGiver 61 = .ok (.imul, 1) := by decide +kernel
theorem dX3_chooseGiver_62 : decode cX3_chooseGiver 62 = .ok (.iload 4, 2) := by decide +kernel
theorem dX3_chooseGiver_64 : decode cX3_chooseGiver 64 = .ok (.iadd, 1) := by decide +kernel
theorem dX3_chooseGiver_65 : decode cX3_chooseGiver 65 = .ok (.iaload, 1) := by decide +kernel
theorem dX3_chooseGiver_66 : decode cX3_chooseGiver 66 = .ok (.istore 5, 2) := by decide +kernel
theorem dX3_chooseGiver_68 : decode cX3_chooseGiver 68 = .ok (.iload 4, 2) := by decide +kernel
theorem dX3_chooseGiver_70 : decode cX3_chooseGiver 70 = .ok (.iload_n 1, 1) := by decide +kernel
theorem dX3_chooseGiver_71 : decode cX3_chooseGiver 71 = .ok (.if_icmp .eq 42, 3) := by decide +kernel
theorem dX3_chooseGiver_74 : decode cX3_chooseGiver 74 = .ok (.iload_n 2, 1) := by decide +kernel
theorem dX3_chooseGiver_75 : decode cX3_chooseGiver 75 = .ok (.iload 4, 2) := by decide +kernel
theorem dX3_chooseGiver_77 : decode cX3_chooseGiver 77 = .ok (.ishr, 1) := by decide +kernel
theorem dX3_chooseGiver_78 : decode cX3_chooseGiver 78 = .ok (.iconst 1, 1) := by decide +kernel
theorem dX3_chooseGiver_79 : decode cX3_chooseGiver 79 = .ok (.iand, 1) := by decide +kernel
theorem dX3_chooseGiver_80 : decode cX3_chooseGiver 80 = .ok (.ifCond .ne 33, 3) := by decide +kernel
theorem dX3_chooseGiver_83 : decode cX3_chooseGiver 83 = .ok (.iload 5, 2) := by decide +kernel
theorem dX3_chooseGiver_85 : decode cX3_chooseGiver 85 = .ok (.ifCond .le 28, 3) := by decide +kernel
theorem dX3_chooseGiver_88 : decode cX3_chooseGiver 88 = .ok (.aload_n 0, 1) := by decide +kernel
theorem dX3_chooseGiver_89 : decode cX3_chooseGiver 89 = .ok (.getfield 9, 3) := by decide +kernel
theorem dX3_chooseGiver_92 : decode cX3_chooseGiver 92 = .ok (.iload_n 1, 1) := by decide +kernel
theorem dX3_chooseGiver_93 : decode cX3_chooseGiver 93 = .ok (.iload 4, 2) := by decide +kernel
theorem dX3_chooseGiver_95 : decode cX3_chooseGiver 95 = .ok (.iastore, 1) := by decide +kernel
theorem dX3_chooseGiver_96 : decode cX3_chooseGiver 96 = .ok (.aload_n 0, 1) := by decide +kernel
theorem dX3_chooseGiver_97 : decode cX3_chooseGiver 97 = .ok (.iload_n 1, 1) := by decide +kernel
theorem dX3_chooseGiver_98 : decode cX3_chooseGiver 98 = .ok (.iconst 1, 1) := by decide +kernel
theorem dX3_chooseGiver_99 : decode cX3_chooseGiver 99 = .ok (.iadd, 1) := by decide +kernel
theorem dX3_chooseGiver_100 : decode cX3_chooseGiver 100 = .ok (.iload_n 2, 1) := by decide +kernel
theorem dX3_chooseGiver_101 : decode cX3_chooseGiver 101 = .ok (.iconst 1, 1) := by decide +kernel
theorem dX3_chooseGiver_102 : decode cX3_chooseGiver 102 = .ok (.iload 4, 2) := by decide +kernel
theorem dX3_chooseGiver_104 : decode cX3_chooseGiver 104 = .ok (.ishl, 1) := by decide +kernel
theorem dX3_chooseGiver_105 : decode cX3_chooseGiver 105 = .ok (.ior, 1) := by decide +kernel
theorem dX3_chooseGiver_106 : decode cX3_chooseGiver 106 = .ok (.iload_n 3, 1) := by decide +kernel
theorem dX3_chooseGiver_107 : decode cX3_chooseGiver 107 = .ok (.iload 5, 2) := by decide +kernel
theorem dX3_chooseGiver_109 : decode cX3_chooseGiver 109 = .ok (.iadd, 1) := by decide +kernel
theorem dX3_chooseGiver_110 : decode cX3_chooseGiver 110 = .ok (.invokevirtual 61, 3) := by decide +kernel
theorem dX3_chooseGiver_113 : decode cX3_chooseGiver 113 = .ok (.iinc 4 1, 3) := by decide +kernel
theorem dX3_chooseGiver_116 : decode cX3_chooseGiver 116 = .ok (.goto (-70), 3) := by decide +kernel
theorem dX3_chooseGiver_119 : decode cX3_chooseGiver 119 = .ok (.return_, 1) := by decide +kernel
theorem dX3_chooseThrown_0 : decode cX3_chooseThrown 0 = .ok (.iload_n 2, 1) := by decide +kernel
theorem dX3_chooseThrown_1 : decode cX3_chooseThrown 1 = .ok (.aload_n 0, 1) := by decide +kernel
theorem dX3_chooseThrown_2 : decode cX3_chooseThrown 2 = .ok (.getfield 50, 3) := by decide +kernel
theorem dX3_chooseThrown_5 : decode cX3_chooseThrown 5 = .ok (.if_icmp .gt 4, 3) := by decide +kernel
theorem dX3_chooseThrown_8 : decode cX3_chooseThrown 8 = .ok (.return_, 1) := by decide +kernel
theorem dX3_chooseThrown_9 : decode cX3_chooseThrown 9 = .ok (.iload_n 1, 1) := by decide +kernel
theorem dX3_chooseThrown_10 : decode cX3_chooseThrown 10 = .ok (.aload_n 0, 1) := by decide +kernel
theorem dX3_chooseThrown_11 : decode cX3_chooseThrown 11 = .ok (.getfield 49, 3) := by decide +kernel
theorem dX3_chooseThrown_14 : decode cX3_chooseThrown 14 = .ok (.if_icmp .lt 9, 3) := by decide +kernel
theorem dX3_chooseThrown_17 : decode cX3_chooseThrown 17 = .ok (.aload_n 0, 1) := by decide +kernel
theorem dX3_chooseThrown_18 : decode cX3_chooseThrown 18 = .ok (.iload_n 2, 1) := by decide +kernel
theorem dX3_chooseThrown_19 : decode cX3_chooseThrown 19 = .ok (.invokevirtual 87, 3) := by decide +kernel
theorem dX3_chooseThrown_22 : decode cX3_chooseThrown 22 = .ok (.return_, 1) := by decide +kernel
theorem dX3_chooseThrown_23 : decode cX3_chooseThrown 23 = .ok (.aload_n 0, 1) := by decide +kernel
theorem dX3_chooseThrown_24 : decode cX3_chooseThrown 24 = .ok (.getfield 9, 3) := by decide +kernel
theorem dX3_chooseThrown_27 : decode cX3_chooseThrown 27 = .ok (.iload_n 1, 1) := by decide +kernel
theorem dX3_chooseThrown_28 : decode cX3_chooseThrown 28 = .ok (.iaload, 1) := by decide +kernel
theorem dX3_chooseThrown_29 : decode cX3_chooseThrown 29 = .ok (.iload_n 1, 1) := by decide +kernel
theorem dX3_chooseThrown_30 : decode cX3_chooseThrown 30 = .ok (.if_icmp .ne 19, 3) := by decide +kernel
theorem dX3_chooseThrown_33 : decode cX3_chooseThrown 33 = .ok (.aload_n 0, 1) := by decide +kernel
theorem dX3_chooseThrown_34 : decode cX3_chooseThrown 34 = .ok (.getfield 15, 3) := by decide +kernel
theorem dX3_chooseThrown_37 : decode cX3_chooseThrown 37 = .ok (.iload_n 1, 1) := by decide +kernel
theorem dX3_chooseThrown_38 : decode cX3_chooseThrown 38 = .ok (.iconst (-1), 1) := by decide +kernel
theorem dX3_chooseThrown_39 : decode cX3_chooseThrown 39 = .ok (.iastore, 1) := by decide +kernel
theorem dX3_chooseThrown_40 : decode cX3_chooseThrown 40 = .ok (.aload_n 0, 1) := by decide +kernel
theorem dX3_chooseThrown_41 : decode cX3_chooseThrown 41 = .ok (.iload_n 1, 1) := by decide +kernel
theorem dX3_chooseThrown_42 : decode cX3_chooseThrown 42 = .ok (.iconst 1, 1) := by decide +kernel
theorem dX3_chooseThrown_43 : decode cX3_chooseThrown 43 = .ok (.iadd, 1) := by decide +kernel
theorem dX3_chooseThrown_44 : decode cX3_chooseThrown 44 = .ok (.iload_n 2, 1) := by decide +kernel
theorem dX3_chooseThrown_45 : decode cX3_chooseThrown 45 = .ok (.invokevirtual 83, 3) := by decide +kernel
theorem dX3_chooseThrown_48 : decode cX3_chooseThrown 48 = .ok (.return_, 1) := by decide +kernel
theorem dX3_chooseThrown_49 : decode cX3_chooseThrown 49 = .ok (.iconst 0, 1) := by decide +kernel
theorem dX3_chooseThrown_50 : decode cX3_chooseThrown 50 = .ok (.istore_n 3, 1) := by decide +kernel
theorem dX3_chooseThrown_51 : decode cX3_chooseThrown 51 = .ok (.iload_n 3, 1) := by decide +kernel
theorem dX3_chooseThrown_52 : decode cX3_chooseThrown 52 = .ok (.aload_n 0, 1) := by decide +kernel
theorem dX3_chooseThrown_53 : decode cX3_chooseThrown 53 = .ok (.getfield 27, 3) := by decide +kernel
theorem dX3_chooseThrown_56 : decode cX3_chooseThrown 56 = .ok (.iload_n 1, 1) := by decide +kernel
theorem dX3_chooseThrown_57 : decode cX3_chooseThrown 57 = .ok (.iaload, 1) := by decide +kernel
theorem dX3_chooseThrown_58 : decode cX3_chooseThrown 58 = .ok (.if_icmp .ge 49, 3) := by decide +kernel
theorem dX3_chooseThrown_61 : decode cX3_chooseThrown 61 = .ok (.aload_n 0, 1) := by decide +kernel
theorem dX3_chooseThrown_62 : decode cX3_chooseThrown 62 = .ok (.getfield 15, 3) := by decide +kernel
theorem dX3_chooseThrown_65 : decode cX3_chooseThrown 65 = .ok (.iload_n 1, 1) := by decide +kernel
theorem dX3_chooseThrown_66 : decode cX3_chooseThrown 66 = .ok (.aload_n 0, 1) := by decide +kernel
theorem dX3_chooseThrown_67 : decode cX3_chooseThrown 67 = .ok (.getfield 24, 3) := by decide +kernel
theorem dX3_chooseThrown_70 : decode cX3_chooseThrown 70 = .ok (.iload_n 1, 1) := by decide +kernel
theorem dX3_chooseThrown_71 : decode cX3_chooseThrown 71 = .ok (.iconst 4, 1) := by decide +kernel
theorem dX3_chooseThrown_72 : decode cX3_chooseThrown 72 = .ok (.imul, 1) := by decide +kernel
theorem dX3_chooseThrown_73 : decode cX3_chooseThrown 73 = .ok (.iload_n 3, 1) := by decide +kernel
theorem dX3_chooseThrown_74 : decode cX3_chooseThrown 74 = .ok (.iadd, 1) := by decide +kernel
theorem dX3_chooseThrown_75 : decode cX3_chooseThrown 75 = .ok (.iaload, 1) := by decide +kernel
theorem dX3_chooseThrown_76 : decode cX3_chooseThrown 76 = .ok (.iastore, 1) := by decide +kernel
theorem dX3_chooseThrown_77 : decode cX3_chooseThrown 77 = .ok (.aload_n 0, 1) := by decide +kernel
theorem dX3_chooseThrown_78 : decode cX3_chooseThrown 78 = .ok (.iload_n 1, 1) := by decide +kernel
theorem dX3_chooseThrown_79 : decode cX3_chooseThrown 79 = .ok (.invokevirtual 90, 3) := by decide +kernel
theorem dX3_chooseThrown_82 : decode cX3_chooseThrown 82 = .ok (.istore 4, 2) := by decide +kernel
theorem dX3_chooseThrown_84 : decode cX3_chooseThrown 84 = .ok (.iload 4, 2) := by decide +kernel
theorem dX3_chooseThrown_86 : decode cX3_chooseThrown 86 = .ok (.iconst (-1), 1) := by decide +kernel
theorem dX3_chooseThrown_87 : decode cX3_chooseThrown 87 = .ok (.if_icmp .eq 14, 3) := by decide +kernel
theorem dX3_chooseThrown_90 : decode cX3_chooseThrown 90 = .ok (.aload_n 0, 1) := by decide +kernel
theorem dX3_chooseThrown_91 : decode cX3_chooseThrown 91 = .ok (.iload_n 1, 1) := by decide +kernel
theorem dX3_chooseThrown_92 : decode cX3_chooseThrown 92 = .ok (.iconst 1, 1) := by decide +kernel
theorem dX3_chooseThrown_93 : decode cX3_chooseThrown 93 = .ok (.iadd, 1) := by decide +kernel
theorem dX3_chooseThrown_94 : decode cX3_chooseThrown 94 = .ok (.iload_n 2, 1) := by decide +kernel
theorem dX3_chooseThrown_95 : decode cX3_chooseThrown 95 = .ok (.iload 4, 2) := by decide +kernel
theorem dX3_chooseThrown_97 : decode cX3_chooseThrown 97 = .ok (.isub, 1) := by decide +kernel
theorem dX3_chooseThrown_98 : decode cX3_chooseThrown 98 = .ok (.invokevirtual 83, 3) := by decide +kernel
theorem dX3_chooseThrown_101 : decode cX3_chooseThrown 101 = .ok (.iinc 3 1, 3) := by decide +kernel
theorem dX3_chooseThrown_104 : decode cX3_chooseThrown 104 = .ok (.goto (-53), 3) := by decide +kernel
theorem dX3_chooseThrown_107 : decode cX3_chooseThrown 107 = .ok (.return_, 1) := by decide +kernel
theorem dX3_hopeLostBy_0 : decode cX3_hopeLostBy 0 = .ok (.iconst 0, 1) := by decide +kernel
theorem dX3_hopeLostBy_1 : decode cX3_hopeLostBy 1 = .ok (.istore_n 2, 1) := by decide +kernel
theorem dX3_hopeLostBy_2 : decode cX3_hopeLostBy 2 = .ok (.iconst 0, 1) := by decide +kernel
theorem dX3_hopeLostBy_3 : decode cX3_hopeLostBy 3 = .ok (.istore_n 3, 1) := by decide +kernel
theorem dX3_hopeLostBy_4 : decode cX3_hopeLostBy 4 = .ok (.iload_n 3, 1) := by decide +kernel
theorem dX3_hopeLostBy_5 : decode cX3_hopeLostBy 5 = .ok (.iload_n 1, 1) := by decide +kernel
theorem dX3_hopeLostBy_6 : decode cX3_hopeLostBy 6 = .ok (.if_icmp .gt 99, 3) := by decide +kernel
theorem dX3_hopeLostBy_9 : decode cX3_hopeLostBy 9 = .ok (.aload_n 0, 1) := by decide +kernel
theorem dX3_hopeLostBy_10 : decode cX3_hopeLostBy 10 = .ok (.getfield 9, 3) := by decide +kernel
theorem dX3_hopeLostBy_13 : decode cX3_hopeLostBy 13 = .ok (.iload_n 3, 1) := by decide +kernel
theorem dX3_hopeLostBy_14 : decode cX3_hopeLostBy 14 = .ok (.iaload, 1) := by decide +kernel
theorem dX3_hopeLostBy_15 : decode cX3_hopeLostBy 15 = .ok (.istore 4, 2) := by decide +kernel
theorem dX3_hopeLostBy_17 : decode cX3_hopeLostBy 17 = .ok (.iload 4, 2) := by decide +kernel
theorem dX3_hopeLostBy_19 : decode cX3_hopeLostBy 19 = .ok (.iload_n 3, 1) := by decide +kernel
theorem dX3_hopeLostBy_20 : decode cX3_hopeLostBy 20 = .ok (.if_icmp .eq 24, 3) := by decide +kernel
theorem dX3_hopeLostBy_23 : decode cX3_hopeLostBy 23 = .ok (.iload 4, 2) := by decide +kernel
theorem dX3_hopeLostBy_25 : decode cX3_hopeLostBy 25 = .ok (.iload_n 1, 1) := by decide +kernel
theorem dX3_hopeLostBy_26 : decode cX3_hopeLostBy 26 = .ok (.if_icmp .gt 18, 3) := by decide +kernel
theorem dX3_hopeLostBy_29 : decode cX3_hopeLostBy 29 = .ok (.iload_n 3, 1) := by decide +kernel
theorem dX3_hopeLostBy_30 : decode cX3_hopeLostBy 30 = .ok (.iload_n 1, 1) := by decide +kernel
theorem dX3_hopeLostBy_31 : decode cX3_hopeLostBy 31 = .ok (.if_icmp .eq 9, 3) := by decide +kernel
theorem dX3_hopeLostBy_34 : decode cX3_hopeLostBy 34 = .ok (.iload 4, 2) := by decide +kernel
theorem dX3_hopeLostBy_36 : decode cX3_hopeLostBy 36 = .ok (.iload_n 1, 1) := by decide +kernel
theorem dX3_hopeLostBy_37 : decode cX3_hopeLostBy 37 = .ok (.if_icmp .ne 7, 3) := by decide +kernel
theorem dX3_hopeLostBy_40 : decode cX3_hopeLostBy 40 = .ok (.iconst 1, 1) := by decide +kernel
theorem dX3_hopeLostBy_41 : decode cX3_hopeLostBy 41 = .ok (.goto 4, 3) := by decide +kernel
theorem dX3_hopeLostBy_44 : decode cX3_hopeLostBy 44 = .ok (.iconst 0, 1) := by decide +kernel
theorem dX3_hopeLostBy_45 : decode cX3_hopeLostBy 45 = .ok (.istore 5, 2) := by decide +kernel
theorem dX3_hopeLostBy_47 : decode cX3_hopeLostBy 47 = .ok (.iload 5, 2) := by decide +kernel
theorem dX3_hopeLostBy_49 : decode cX3_hopeLostBy 49 = .ok (.ifCond .eq 50, 3) := by decide +kernel
theorem dX3_hopeLostBy_52 : decode cX3_hopeLostBy 52 = .ok (.aload_n 0, 1) := by decide +kernel
theorem dX3_hopeLostBy_53 : decode cX3_hopeLostBy 53 = .ok (.getfield 33, 3) := by decide +kernel
theorem dX3_hopeLostBy_56 : decode cX3_hopeLostBy 56 = .ok (.iload_n 3, 1) := by decide +kernel
theorem dX3_hopeLostBy_57 : decode cX3_hopeLostBy 57 = .ok (.aload_n 0, 1) := by decide +kernel
theorem dX3_hopeLostBy_58 : decode cX3_hopeLostBy 58 = .ok (.getfield 15, 3) := by decide +kernel
theorem dX3_hopeLostBy_61 : decode cX3_hopeLostBy 61 = .ok (.iload_n 3, 1) := by decide +kernel
theorem dX3_hopeLostBy_62 : decode cX3_hopeLostBy 62 = .ok (.iaload, 1) := by decide +kernel
theorem dX3_hopeLostBy_63 : decode cX3_hopeLostBy 63 = .ok (.aload_n 0, 1) := by decide +kernel
theorem dX3_hopeLostBy_64 : decode cX3_hopeLostBy 64 = .ok (.getfield 15, 3) := by decide +kernel
theorem dX3_hopeLostBy_67 : decode cX3_hopeLostBy 67 = .ok (.iload 4, 2) := by decide +kernel
theorem dX3_hopeLostBy_69 : decode cX3_hopeLostBy 69 = .ok (.iaload, 1) := by decide +kernel
theorem dX3_hopeLostBy_70 : decode cX3_hopeLostBy 70 = .ok (.invokevirtual 74, 3) := by decide +kernel
theorem dX3_hopeLostBy_73 : decode cX3_hopeLostBy 73 = .ok (.istore 6, 2) := by decide +kernel
theorem dX3_hopeLostBy_75 : decode cX3_hopeLostBy 75 = .ok (.iload 6, 2) := by decide +kernel
theorem dX3_hopeLostBy_77 : decode cX3_hopeLostBy 77 = .ok (.ifCond .gt 5, 3) := by decide +kernel
theorem dX3_hopeLostBy_80 : decode cX3_hopeLostBy 80 = .ok (.iconst (-1), 1) := by decide +kernel
theorem dX3_hopeLostBy_81 : decode cX3_hopeLostBy 81 = .ok (.ireturn, 1) := by decide +kernel
theorem dX3_hopeLostBy_82 : decode cX3_hopeLostBy 82 = .ok (.iload_n 2, 1) := by decide +kernel
theorem dX3_hopeLostBy_83 : decode cX3_hopeLostBy 83 = .ok (.aload_n 0, 1) := by decide +kernel
theorem dX3_hopeLostBy_84 : decode cX3_hopeLostBy 84 = .ok (.getfield 30, 3) := by decide +kernel
theorem dX3_hopeLostBy_87 : decode cX3_hopeLostBy 87 = .ok (.iload_n 3, 1) := by decide +kernel
theorem dX3_hopeLostBy_88 : decode cX3_hopeLostBy 88 = .ok (.iconst 5, 1) := by decide +kernel
theorem dX3_hopeLostBy_89 : decode cX3_hopeLostBy 89 = .ok (.imul, 1) := by decide +kernel
theorem dX3_hopeLostBy_90 : decode cX3_hopeLostBy 90 = .ok (.iload 4, 2) := by decide +kernel
theorem dX3_hopeLostBy_92 : decode cX3_hopeLostBy 92 = .ok (.iadd, 1) := by decide +kernel
theorem dX3_hopeLostBy_93 : decode cX3_hopeLostBy 93 = .ok (.iaload, 1) := by decide +kernel
theorem dX3_hopeLostBy_94 : decode cX3_hopeLostBy 94 = .ok (.iload 6, 2) := by decide +kernel
theorem dX3_hopeLostBy_96 : decode cX3_hopeLostBy 96 = .ok (.isub, 1) := by decide +kernel
theorem dX3_hopeLostBy_97 : decode cX3_hopeLostBy 97 = .ok (.iadd, 1) := by decide +kernel
theorem dX3_hopeLostBy_98 : decode cX3_hopeLostBy 98 = .ok (.istore_n 2, 1) := by decide +kernel
theorem dX3_hopeLostBy_99 : decode cX3_hopeLostBy 99 = .ok (.iinc 3 1, 3) := by decide +kernel
theorem dX3_hopeLostBy_102 : decode cX3_hopeLostBy 102 = .ok (.goto (-98), 3) := by decide +kernel
theorem dX3_hopeLostBy_105 : decode cX3_hopeLostBy 105 = .ok (.iload_n 2, 1) := by decide +kernel
theorem dX3_hopeLostBy_106 : decode cX3_hopeLostBy 106 = .ok (.ireturn, 1) := by decide +kernel
theorem dX3_remember_0 : decode cX3_remember 0 = .ok (.aload_n 0, 1) := by decide +kernel
theorem dX3_remember_1 : decode cX3_remember 1 = .ok (.iload_n 1, 1) := by decide +kernel
theorem dX3_remember_2 : decode cX3_remember 2 = .ok (.putfield 50, 3) := by decide +kernel
theorem dX3_remember_5 : decode cX3_remember 5 = .ok (.aload_n 0, 1) := by decide +kernel
theorem dX3_remember_6 : decode cX3_remember 6 = .ok (.getfield 9, 3) := by decide +kernel
theorem dX3_remember_9 : decode cX3_remember 9 = .ok (.iconst 0, 1) := by decide +kernel
theorem dX3_remember_10 : decode cX3_remember 10 = .ok (.aload_n 0, 1) := by decide +kernel
theorem dX3_remember_11 : decode cX3_remember 11 = .ok (.getfield 18, 3) := by decide +kernel
theorem dX3_remember_14 : decode cX3_remember 14 = .ok (.iconst 0, 1) := by decide +kernel
theorem dX3_remember_15 : decode cX3_remember 15 = .ok (.iconst 5, 1) := by decide +kernel
theorem dX3_remember_16 : decode cX3_remember 16 = .ok (.invokestatic 94, 3) := by decide +kernel
theorem dX3_remember_19 : decode cX3_remember 19 = .ok (.aload_n 0, 1) := by decide +kernel
theorem dX3_remember_20 : decode cX3_remember 20 = .ok (.getfield 15, 3) := by decide +kernel
theorem dX3_remember_23 : decode cX3_remember 23 = .ok (.iconst 0, 1) := by decide +kernel
theorem dX3_remember_24 : decode cX3_remember 24 = .ok (.aload_n 0, 1) := by decide +kernel
theorem dX3_remember_25 : decode cX3_remember 25 = .ok (.getfield 21, 3) := by decide +kernel
theorem dX3_remember_28 : decode cX3_remember 28 = .ok (.iconst 0, 1) := by decide +kernel
theorem dX3_remember_29 : decode cX3_remember 29 = .ok (.iconst 5, 1) := by decide +kernel
theorem dX3_remember_30 : decode cX3_remember 30 = .ok (.invokestatic 94, 3) := by decide +kernel
theorem dX3_remember_33 : decode cX3_remember 33 = .ok (.return_, 1) := by decide +kernel
theorem dX4_init_0 : decode cX4_init 0 = .ok (.aload_n 0, 1) := by decide +kernel
theorem dX4_init_1 : decode cX4_init 1 = .ok (.invokespecial 3, 3) := by decide +kernel
theorem dX4_init_4 : decode cX4_init 4 = .ok (.aload_n 0, 1) := by decide +kernel
theorem dX4_init_5 : decode cX4_init 5 = .ok (.iconst 5, 1) := by decide +kernel
theorem dX4_init_6 : decode cX4_init 6 = .ok (.newarray .int, 2) := by decide +kernel
theorem dX4_init_8 : decode cX4_init 8 = .ok (.putfield 9, 3) := by decide +kernel
theorem dX4_init_11 : decode cX4_init 11 = .ok (.aload_n 0, 1) := by decide +kernel
theorem dX4_init_12 : decode cX4_init 12 = .ok (.bipush 20, 2) := by decide +kernel
theorem dX4_init_14 : decode cX4_init 14 = .ok (.newarray .int, 2) := by decide +kernel
theorem dX4_init_16 : decode cX4_init 16 = .ok (.putfield 15, 3) := by decide +kernel
theorem dX4_init_19 : decode cX4_init 19 = .ok (.aload_n 0, 1) := by decide +kernel
theorem dX4_init_20 : decode cX4_init 20 = .ok (.bipush 20, 2) := by decide +kernel
theorem dX4_init_22 : decode cX4_init 22 = .ok (.newarray .int, 2) := by decide +kernel
theorem dX4_init_24 : decode cX4_init 24 = .ok (.putfield 18, 3) := by decide +kernel
theorem dX4_init_27 : decode cX4_init 27 = .ok (.aload_n 0, 1) := by decide +kernel
theorem dX4_init_28 : decode cX4_init 28 = .ok (.bipush 30, 2) := by decide +kernel
theorem dX4_init_30 : decode cX4_init 30 = .ok (.newarray .int, 2) := by decide +kernel
theorem dX4_init_32 : decode cX4_init 32 = .ok (.putfield 21, 3) := by decide +kernel
theorem dX4_init_35 : decode cX4_init 35 = .ok (.return_, 1) := by decide +kernel
theorem dX4_clear_0 : decode cX4_clear 0 = .ok (.aload_n 0, 1) := by decide +kernel
theorem dX4_clear_1 : decode cX4_clear 1 = .ok (.iconst 0, 1) := by decide +kernel
theorem dX4_clear_2 : decode cX4_clear 2 = .ok (.putfield 24, 3) := by decide +kernel
theorem dX4_clear_5 : decode cX4_clear 5 = .ok (.aload_n 0, 1) := by decide +kernel
theorem dX4_clear_6 : decode cX4_clear 6 = .ok (.iconst 0, 1) := by decide +kernel
theorem dX4_clear_7 : decode cX4_clear 7 = .ok (.putfield 28, 3) := by decide +kernel
theorem dX4_clear_10 : decode cX4_clear 10 = .ok (.aload_n 0, 1) := by decide +kernel
theorem dX4_clear_11 : decode cX4_clear 11 = .ok (.iconst 0, 1) := by decide +kernel
theorem dX4_clear_12 : decode cX4_clear 12 = .ok (.putfield 31, 3) := by decide +kernel
theorem dX4_clear_15 : decode cX4_clear 15 = .ok (.aload_n 0, 1) := by decide +kernel
theorem dX4_clear_16 : decode cX4_clear 16 = .ok (.getfield 21, 3) := by decide +kernel
theorem dX4_clear_19 : decode cX4_clear 19 = .ok (.iconst 0, 1) := by decide +kernel
theorem dX4_clear_20 : decode cX4_clear 20 = .ok (.invokestatic 34, 3) := by decide +kernel
theorem dX4_clear_23 : decode cX4_clear 23 = .ok (.return_, 1) := by decide +kernel
theorem dX4_copyFrom_0 : decode cX4_copyFrom 0 = .ok (.aload_n 0, 1) := by decide +kernel
theorem dX4_copyFrom_1 : decode cX4_copyFrom 1 = .ok (.aload_n 1, 1) := by decide +kernel
theorem dX4_copyFrom_2 : decode cX4_copyFrom 2 = .ok (.getfield 24, 3) := by decide +kernel
theorem dX4_copyFrom_5 : decode cX4_copyFrom 5 = .ok (.putfield 24, 3) := by decide +kernel
theorem dX4_copyFrom_8 : decode cX4_copyFrom 8 = .ok (.aload_n 0, 1) := by decide +kernel
theorem dX4_copyFrom_9 : decode cX4_copyFrom 9 = .ok (.aload_n 1, 1) := by decide +kernel
theorem dX4_copyFrom_10 : decode cX4_copyFrom 10 = .ok (.getfield 28, 3) := by decide +kernel
theorem dX4_copyFrom_13 : decode cX4_copyFrom 13 = .ok (.putfield 28, 3) := by decide +kernel
theorem dX4_copyFrom_16 : decode cX4_copyFrom 16 = .ok (.aload_n 0, 1) := by decide +kernel
theorem dX4_copyFrom_17 : decode cX4_copyFrom 17 = .ok (.aload_n 1, 1) := by decide +kernel
theorem dX4_copyFrom_18 : decode cX4_copyFrom 18 = .ok (.getfield 31, 3) := by decide +kernel
theorem dX4_copyFrom_21 : decode cX4_copyFrom 21 = .ok (.putfield 31, 3) := by decide +kernel
theorem dX4_copyFrom_24 : decode cX4_copyFrom 24 = .ok (.aload_n 1, 1) := by decide +kernel
theorem dX4_copyFrom_25 : decode cX4_copyFrom 25 = .ok (.getfield 9, 3) := by decide +kernel
theorem dX4_copyFrom_28 : decode cX4_copyFrom 28 = .ok (.iconst 0, 1) := by decide +kernel
theorem dX4_copyFrom_29 : decode cX4_copyFrom 29 = .ok (.aload_n 0, 1) := by decide +kernel
theorem dX4_copyFrom_30 : decode cX4_copyFrom 30 = .ok (.getfield 9, 3) := by decide +kernel
theorem dX4_copyFrom_33 : decode cX4_copyFrom 33 = .ok (.iconst 0, 1) := by decide +kernel
theorem dX4_copyFrom_34 : decode cX4_copyFrom 34 = .ok (.iconst 5, 1) := by decide +kernel
theorem dX4_copyFrom_35 : decode cX4_copyFrom 35 = .ok (.invokestatic 40, 3) := by decide +kernel
theorem dX4_copyFrom_38 : decode cX4_copyFrom 38 = .ok (.aload_n 1, 1) := by decide +kernel
theorem dX4_copyFrom_39 : decode cX4_copyFrom 39 = .ok (.getfield 15, 3) := by decide +kernel
theorem dX4_copyFrom_42 : decode cX4_copyFrom 42 = .ok (.iconst 0, 1) := by decide +kernel
theorem dX4_copyFrom_43 : decode cX4_copyFrom 43 = .ok (.aload_n 0, 1) := by decide +kernel
theorem dX4_copyFrom_44 : decode cX4_copyFrom 44 = .ok (.getfield 15, 3) := by decide +kernel
theorem dX4_copyFrom_47 : decode cX4_copyFrom 47 = .ok (.iconst 0, 1) := by decide +kernel
theorem dX4_copyFrom_48 : decode cX4_copyFrom 48 = .ok (.bipush 20, 2) := by decide +kernel
theorem dX4_copyFrom_50 : decode cX4_copyFrom 50 = .ok (.invokestatic 40, 3) := by decide +kernel
theorem dX4_copyFrom_53 : decode cX4_copyFrom 53 = .ok (.aload_n 1, 1) := by decide +kernel
theorem dX4_copyFrom_54 : decode cX4_copyFrom 54 = .ok (.getfield 18, 3) := by decide +kernel
theorem dX4_copyFrom_57 : decode cX4_copyFrom 57 = .ok (.iconst 0, 1) := by decide +kernel
theorem dX4_copyFrom_58 : decode cX4_copyFrom 58 = .ok (.aload_n 0, 1) := by decide +kernel
theorem dX4_copyFrom_59 : decode cX4_copyFrom 59 = .ok (.getfield 18, 3) := by decide +kernel
theorem dX4_copyFrom_62 : decode cX4_copyFrom 62 = .ok (.iconst 0, 1) := by decide +kernel
theorem dX4_copyFrom_63 : decode cX4_copyFrom 63 = .ok (.bipush 20, 2) := by decide +kernel
theorem dX4_copyFrom_65 : decode cX4_copyFrom 65 = .ok (.invokestatic 40, 3) := by decide +kernel
theorem dX4_copyFrom_68 : decode cX4_copyFrom 68 = .ok (.aload_n 1, 1) := by decide +kernel
theorem dX4_copyFrom_69 : decode cX4_copyFrom 69 = .ok (.getfield 21, 3) := by decide +kernel
theorem dX4_copyFrom_72 : decode cX4_copyFrom 72 = .ok (.iconst 0, 1) := by decide +kernel
theorem dX4_copyFrom_73 : decode cX4_copyFrom 73 = .ok (.aload_n 0, 1) := by decide +kernel
theorem dX4_copyFrom_74 : decode cX4_copyFrom 74 = .ok (.getfield 21, 3) := by decide +kernel
theorem dX4_copyFrom_77 : decode cX4_copyFrom 77 = .ok (.iconst 0, 1) := by decide +kernel
theorem dX4_copyFrom_78 : decode cX4_copyFrom 78 = .ok (.bipush 30, 2) := by decide +kernel
theorem dX4_copyFrom_80 : decode cX4_copyFrom 80 = .ok (.invokestatic 40, 3) := by decide +kernel
theorem dX4_copyFrom_83 : decode cX4_copyFrom 83 = .ok (.return_, 1) := by decide +kernel
theorem dX4_isHouse_0 : decode cX4_isHouse 0 = .ok (.iload_n 1, 1) := by decide +kernel
theorem dX4_isHouse_1 : decode cX4_isHouse 1 = .ok (.ifCond .lt 15, 3) := by decide +kernel
theorem dX4_isHouse_4 : decode cX4_isHouse 4 = .ok (.iload_n 1, 1) := by decide +kernel
theorem dX4_isHouse_5 : decode cX4_isHouse 5 = .ok (.aload_n 0, 1) := by decide +kernel
theorem dX4_isHouse_6 : decode cX4_isHouse 6 = .ok (.getfield 28, 3) := by decide +kernel
theorem dX4_isHouse_9 : decode cX4_isHouse 9 = .ok (.if_icmp .ge 7, 3) := by decide +kernel
theorem dX4_isHouse_12 : decode cX4_isHouse 12 = .ok (.iconst 1, 1) := by decide +kernel
theorem dX4_isHouse_13 : decode cX4_isHouse 13 = .ok (.goto 4, 3) := by decide +kernel
theorem dX4_isHouse_16 : decode cX4_isHouse 16 = .ok (.iconst 0, 1) := by decide +kernel
theorem dX4_isHouse_17 : decode cX4_isHouse 17 = .ok (.ireturn, 1) := by decide +kernel
theorem dX4_isSort_0 : decode cX4_isSort 0 = .ok (.iload_n 1, 1) := by decide +kernel
theorem dX4_isSort_1 : decode cX4_isSort 1 = .ok (.ifCond .lt 15, 3) := by decide +kernel
theorem dX4_isSort_4 : decode cX4_isSort 4 = .ok (.iload_n 1, 1) := by decide +kernel
theorem dX4_isSort_5 : decode cX4_isSort 5 = .ok (.aload_n 0, 1) := by decide +kernel
theorem dX4_isSort_6 : decode cX4_isSort 6 = .ok (.getfield 24, 3) := by decide +kernel
theorem dX4_isSort_9 : decode cX4_isSort 9 = .ok (.if_icmp .ge 7, 3) := by decide +kernel
theorem dX4_isSort_12 : decode cX4_isSort 12 = .ok (.iconst 1, 1) := by decide +kernel
theorem dX4_isSort_13 : decode cX4_isSort 13 = .ok (.goto 4, 3) := by decide +kernel
theorem dX4_isSort_16 : decode cX4_isSort 16 = .ok (.iconst 0, 1) := by decide +kernel
theorem dX4_isSort_17 : decode cX4_isSort 17 = .ok (.ireturn, 1) := by decide +kernel
theorem dX4_worthOf_0 : decode cX4_worthOf 0 = .ok (.aload_n 0, 1) := by decide +kernel
theorem dX4_worthOf_1 : decode cX4_worthOf 1 = .ok (.getfield 21, 3) := by decide +kernel
theorem dX4_worthOf_4 : decode cX4_worthOf 4 = .ok (.iload_n 1, 1) := by decide +kernel
theorem dX4_worthOf_5 : decode cX4_worthOf 5 = .ok (.bipush 6, 2) := by decide +kernel
theorem dX4_worthOf_7 : decode cX4_worthOf 7 = .ok (.imul, 1) := by decide +kernel
theorem dX4_worthOf_8 : decode cX4_worthOf 8 = .ok (.iload_n 2, 1) := by decide +kernel
theorem dX4_worthOf_9 : decode cX4_worthOf 9 = .ok (.iadd, 1) := by decide +kernel
theorem dX4_worthOf_10 : decode cX4_worthOf 10 = .ok (.iaload, 1) := by decide +kernel
theorem dX4_worthOf_11 : decode cX4_worthOf 11 = .ok (.ireturn, 1) := by decide +kernel
theorem dX4_stillMissing_0 : decode cX4_stillMissing 0 = .ok (.aload_n 0, 1) := by decide +kernel
theorem dX4_stillMissing_1 : decode cX4_stillMissing 1 = .ok (.getfield 24, 3) := by decide +kernel
theorem dX4_stillMissing_4 : decode cX4_stillMissing 4 = .ok (.ifCond .le 21, 3) := by decide +kernel
theorem dX4_stillMissing_7 : decode cX4_stillMissing 7 = .ok (.lload_n 1, 1) := by decide +kernel
theorem dX4_stillMissing_8 : decode cX4_stillMissing 8 = .ok (.aload_n 0, 1) := by decide +kernel
theorem dX4_stillMissing_9 : decode cX4_stillMissing 9 = .ok (.getfield 24, 3) := by decide +kernel
theorem dX4_stillMissing_12 : decode cX4_stillMissing 12 = .ok (.iconst 1, 1) := by decide +kernel
theorem dX4_stillMissing_13 : decode cX4_stillMissing 13 = .ok (.isub, 1) := by decide +kernel
theorem dX4_stillMissing_14 : decode cX4_stillMissing 14 = .ok (.i2l, 1) := by decide +kernel
theorem dX4_stillMissing_15 : decode cX4_stillMissing 15 = .ok (.lmul, 1) := by decide +kernel
theorem dX4_stillMissing_16 : decode cX4_stillMissing 16 = .ok (.aload_n 0, 1) := by decide +kernel
theorem dX4_stillMissing_17 : decode cX4_stillMissing 17 = .ok (.getfield 24, 3) := by decide +kernel
theorem dX4_stillMissing_20 : decode cX4_stillMissing 20 = .ok (.i2l, 1) := by decide +kernel
theorem dX4_stillMissing_21 : decode cX4_stillMissing 21 = .ok (.ldiv, 1) := by decide +kernel
theorem dX4_stillMissing_22 : decode cX4_stillMissing 22 = .ok (.goto 4, 3) := by decide +kernel
theorem dX4_stillMissing_25 : decode cX4_stillMissing 25 = .ok (.lload_n 1, 1) := by decide +kernel
theorem dX4_stillMissing_26 : decode cX4_stillMissing 26 = .ok (.lreturn, 1) := by decide +kernel
theorem dX5_init_0 : decode cX5_init 0 = .ok (.aload_n 0, 1) := by decide +kernel
theorem dX5_init_1 : decode cX5_init 1 = .ok (.invokespecial 3, 3) := by decide +kernel
theorem dX5_init_4 : decode cX5_init 4 = .ok (.aload_n 0, 1) := by decide +kernel
theorem dX5_init_5 : decode cX5_init 5 = .ok (.bipush 32, 2) := by decide +kernel
theorem dX5_init_7 : decode cX5_init 7 = .ok (.newarray .int, 2) := by decide +kernel
theorem dX5_init_9 : decode cX5_init 9 = .ok (.putfield 9, 3) := by decide +kernel
theorem dX5_init_12 : decode cX5_init 12 = .ok (.aload_n 0, 1) := by decide +kernel
theorem dX5_init_13 : decode cX5_init 13 = .ok (.bipush 32, 2) := by decide +kernel
theorem dX5_init_15 : decode cX5_init 15 = .ok (.newarray .int, 2) := by decide +kernel
theorem dX5_init_17 : decode cX5_init 17 = .ok (.putfield 15, 3) := by decide +kernel
theorem dX5_init_20 : decode cX5_init 20 = .ok (.aload_n 0, 1) := by decide +kernel
theorem dX5_init_21 : decode cX5_init 21 = .ok (.bipush 32, 2) := by decide +kernel
theorem dX5_init_23 : decode cX5_init 23 = .ok (.newarray .int, 2) := by decide +kernel
theorem dX5_init_25 : decode cX5_init 25 = .ok (.putfield 18, 3) := by decide +kernel
theorem dX5_init_28 : decode cX5_init 28 = .ok (.aload_n 0, 1) := by decide +kernel
theorem dX5_init_29 : decode cX5_init 29 = .ok (.bipush 32, 2) := by decide +kernel
theorem dX5_init_31 : decode cX5_init 31 = .ok (.newarray .int, 2) := by decide +kernel
theorem dX5_init_33 : decode cX5_init 33 = .ok (.putfield 21, 3) := by decide +kernel
theorem dX5_init_36 : decode cX5_init 36 = .ok (.aload_n 0, 1) := by decide +kernel
theorem dX5_init_37 : decode cX5_init 37 = .ok (.sipush 640, 3) := by decide +kernel
theorem dX5_init_40 : decode cX5_init 40 = .ok (.newarray .int, 2) := by decide +kernel
theorem dX5_init_42 : decode cX5_init 42 = .ok (.putfield 24, 3) := by decide +kernel
theorem dX5_init_45 : decode cX5_init 45 = .ok (.aload_n 0, 1) := by decide +kernel
theorem dX5_init_46 : decode cX5_init 46 = .ok (.iconst 5, 1) := by decide +kernel
theorem dX5_init_47 : decode cX5_init 47 = .ok (.newarray .int, 2) := by decide +kernel
theorem dX5_init_49 : decode cX5_init 49 = .ok (.putfield 27, 3) := by decide +kernel
theorem dX5_init_52 : decode cX5_init 52 = .ok (.aload_n 0, 1) := by decide +kernel
theorem dX5_init_53 : decode cX5_init 53 = .ok (.bipush 30, 2) := by decide +kernel
theorem dX5_init_55 : decode cX5_init 55 = .ok (.newarray .int, 2) := by decide +kernel
theorem dX5_init_57 : decode cX5_init 57 = .ok (.putfield 30, 3) := by decide +kernel
theorem dX5_init_60 : decode cX5_init 60 = .ok (.aload_n 0, 1) := by decide +kernel
theorem dX5_init_61 : decode cX5_init 61 = .ok (.aload_n 1, 1) := by decide +kernel
theorem dX5_init_62 : decode cX5_init 62 = .ok (.putfield 33, 3) := by decide +kernel
theorem dX5_init_65 : decode cX5_init 65 = .ok (.return_, 1) := by decide +kernel
theorem dX5_layOut_0 : decode cX5_layOut 0 = .ok (.aload_n 0, 1) := by decide +kernel
theorem dX5_layOut_1 : decode cX5_layOut 1 = .ok (.iconst 0, 1) := by decide +kernel
theorem dX5_layOut_2 : decode cX5_layOut 2 = .ok (.putfield 37, 3) := by decide +kernel
theorem dX5_layOut_5 : decode cX5_layOut 5 = .ok (.aload_n 0, 1) := by decide +kernel
theorem dX5_layOut_6 : decode cX5_layOut 6 = .ok (.iconst 0, 1) := by decide +kernel
theorem dX5_layOut_7 : decode cX5_layOut 7 = .ok (.putfield 41, 3) := by decide +kernel
theorem dX5_layOut_10 : decode cX5_layOut 10 = .ok (.aload_n 0, 1) := by decide +kernel
theorem dX5_layOut_11 : decode cX5_layOut 11 = .ok (.getfield 27, 3) := by decide +kernel
theorem dX5_layOut_14 : decode cX5_layOut 14 = .ok (.iconst 0, 1) := by decide +kernel
theorem dX5_layOut_15 : decode cX5_layOut 15 = .ok (.invokestatic 44, 3) := by decide +kernel
theorem dX5_layOut_18 : decode cX5_layOut 18 = .ok (.aload_n 0, 1) := by decide +kernel
theorem dX5_layOut_19 : decode cX5_layOut 19 = .ok (.getfield 30, 3) := by decide +kernel
theorem dX5_layOut_22 : decode cX5_layOut 22 = .ok (.iconst 0, 1) := by decide +kernel
theorem dX5_layOut_23 : decode cX5_layOut 23 = .ok (.invokestatic 44, 3) := by decide +kernel
theorem dX5_layOut_26 : decode cX5_layOut 26 = .ok (.iconst 0, 1) := by decide +kernel
theorem dX5_layOut_27 : decode cX5_layOut 27 = .ok (.istore_n 1, 1) := by decide +kernel
theorem dX5_layOut_28 : decode cX5_layOut 28 = .ok (.iload_n 1, 1) := by decide +kernel
theorem dX5_layOut_29 : decode cX5_layOut 29 = .ok (.aload_n 0, 1) := by decide +kernel
theorem dX5_layOut_30 : decode cX5_layOut 30 = .ok (.getfield 33, 3) := by decide +kernel
theorem dX5_layOut_33 : decode cX5_layOut 33 = .ok (.getfield 50, 3) := by decide +kernel
theorem dX5_layOut_36 : decode cX5_layOut 36 = .ok (.if_icmp .ge 32, 3) := by decide +kernel
theorem dX5_layOut_39 : decode cX5_layOut 39 = .ok (.aload_n 0, 1) := by decide +kernel
theorem dX5_layOut_40 : decode cX5_layOut 40 = .ok (.aload_n 0, 1) := by decide +kernel
theorem dX5_layOut_41 : decode cX5_layOut 41 = .ok (.getfield 33, 3) := by decide +kernel
theorem dX5_layOut_44 : decode cX5_layOut 44 = .ok (.getfield 55, 3) := by decide +kernel
theorem dX5_layOut_47 : decode cX5_layOut 47 = .ok (.iload_n 1, 1) := by decide +kernel
theorem dX5_layOut_48 : decode cX5_layOut 48 = .ok (.iaload, 1) := by decide +kernel
theorem dX5_layOut_49 : decode cX5_layOut 49 = .ok (.aload_n 0, 1) := by decide +kernel
theorem dX5_layOut_50 : decode cX5_layOut 50 = .ok (.getfield 33, 3) := by decide +kernel
theorem dX5_layOut_53 : decode cX5_layOut 53 = .ok (.getfield 58, 3) := by decide +kernel
theorem dX5_layOut_56 : decode cX5_layOut 56 = .ok (.iload_n 1, 1) := by decide +kernel
theorem dX5_layOut_57 : decode cX5_layOut 57 = .ok (.iaload, 1) := by decide +kernel
theorem dX5_layOut_58 : decode cX5_layOut 58 = .ok (.invokevirtual 61, 3) := by decide +kernel
theorem dX5_layOut_61 : decode cX5_layOut 61 = .ok (.pop, 1) := by decide +kernel
theorem dX5_layOut_62 : decode cX5_layOut 62 = .ok (.iinc 1 1, 3) := by decide +kernel
theorem dX5_layOut_65 : decode cX5_layOut 65 = .ok (.goto (-37), 3) := by decide +kernel
theorem dX5_layOut_68 : decode cX5_layOut 68 = .ok (.return_, 1) := by decide +kernel
theorem dX5_copyFrom_0 : decode cX5_copyFrom 0 = .ok (.aload_n 0, 1) := by decide +kernel
theorem dX5_copyFrom_1 : decode cX5_copyFrom 1 = .ok (.aload_n 1, 1) := by decide +kernel
theorem dX5_copyFrom_2 : decode cX5_copyFrom 2 = .ok (.getfield 37, 3) := by decide +kernel
theorem dX5_copyFrom_5 : decode cX5_copyFrom 5 = .ok (.putfield 37, 3) := by decide +kernel
theorem dX5_copyFrom_8 : decode cX5_copyFrom 8 = .ok (.aload_n 0, 1) := by decide +kernel
theorem dX5_copyFrom_9 : decode cX5_copyFrom 9 = .ok (.aload_n 1, 1) := by decide +kernel
theorem dX5_copyFrom_10 : decode cX5_copyFrom 10 = .ok (.getfield 41, 3) := by decide +kernel
theorem dX5_copyFrom_13 : decode cX5_copyFrom 13 = .ok (.putfield 41, 3) := by decide +kernel
theorem dX5_copyFrom_16 : decode cX5_copyFrom 16 = .ok (.aload_n 0, 1) := by decide +kernel
theorem dX5_copyFrom_17 : decode cX5_copyFrom 17 = .ok (.aload_n 1, 1) := by decide +kernel
theorem dX5_copyFrom_18 : decode cX5_copyFrom 18 = .ok (.getfield 65, 3) := by decide +kernel
theorem dX5_copyFrom_21 : decode cX5_copyFrom 21 = .ok (.putfield 65, 3) := by decide +kernel
theorem dX5_copyFrom_24 : decode cX5_copyFrom 24 = .ok (.aload_n 1, 1) := by decide +kernel
theorem dX5_copyFrom_25 : decode cX5_copyFrom 25 = .ok (.getfield 9, 3) := by decide +kernel
theorem dX5_copyFrom_28 : decode cX5_copyFrom 28 = .ok (.iconst 0, 1) := by decide +kernel
theorem dX5_copyFrom_29 : decode cX5_copyFrom 29 = .ok (.aload_n 0, 1) := by decide +kernel
theorem dX5_copyFrom_30 : decode cX5_copyFrom 30 = .ok (.getfield 9, 3) := by decide +kernel
theorem dX5_copyFrom_33 : decode cX5_copyFrom 33 = .ok (.iconst 0, 1) := by decide +kernel
theorem dX5_copyFrom_34 : decode cX5_copyFrom 34 = .ok (.bipush 32, 2) := by decide +kernel
theorem dX5_copyFrom_36 : decode cX5_copyFrom 36 = .ok (.invokestatic 68, 3) := by decide +kernel
theorem dX5_copyFrom_39 : decode cX5_copyFrom 39 = .ok (.aload_n 1, 1) := by decide +kernel
theorem dX5_copyFrom_40 : decode cX5_copyFrom 40 = .ok (.getfield 15, 3) := by decide +kernel
theorem dX5_copyFrom_43 : decode cX5_copyFrom 43 = .ok (.iconst 0, 1) := by decide +kernel
theorem dX5_copyFrom_44 : decode cX5_copyFrom 44 = .ok (.aload_n 0, 1) := by decide +kernel
theorem dX5_copyFrom_45 : decode cX5_copyFrom 45 = .ok (.getfield 15, 3) := by decide +kernel
theorem dX5_copyFrom_48 : decode cX5_copyFrom 48 = .ok (.iconst 0, 1) := by decide +kernel
theorem dX5_copyFrom_49 : decode cX5_copyFrom 49 = .ok (.bipush 32, 2) := by decide +kernel
theorem dX5_copyFrom_51 : decode cX5_copyFrom 51 = .ok (.invokestatic 68, 3) := by decide +kernel
theorem dX5_copyFrom_54 : decode cX5_copyFrom 54 = .ok (.aload_n 1, 1) := by decide +kernel
theorem dX5_copyFrom_55 : decode cX5_copyFrom 55 = .ok (.getfield 18, 3) := by decide +kernel
theorem dX5_copyFrom_58 : decode cX5_copyFrom 58 = .ok (.iconst 0, 1) := by decide +kernel
theorem dX5_copyFrom_59 : decode cX5_copyFrom 59 = .ok (.aload_n 0, 1) := by decide +kernel
theorem dX5_copyFrom_60 : decode cX5_copyFrom 60 = .ok (.getfield 18, 3) := by decide +kernel
theorem dX5_copyFrom_63 : decode cX5_copyFrom 63 = .ok (.iconst 0, 1) := by decide +kernel
theorem dX5_copyFrom_64 : decode cX5_copyFrom 64 = .ok (.bipush 32, 2) := by decide +kernel
theorem dX5_copyFrom_66 : decode cX5_copyFrom 66 = .ok (.invokestatic 68, 3) := by decide +kernel
theorem dX5_copyFrom_69 : decode cX5_copyFrom 69 = .ok (.aload_n 1, 1) := by decide +kernel
theorem dX5_copyFrom_70 : decode cX5_copyFrom 70 = .ok (.getfield 21, 3) := by decide +kernel
theorem dX5_copyFrom_73 : decode cX5_copyFrom 73 = .ok (.iconst 0, 1) := by decide +kernel
theorem dX5_copyFrom_74 : decode cX5_copyFrom 74 = .ok (.aload_n 0, 1) := by decide +kernel
theorem dX5_copyFrom_75 : decode cX5_copyFrom 75 = .ok (.getfield 21, 3) := by decide +kernel
theorem dX5_copyFrom_78 : decode cX5_copyFrom 78 = .ok (.iconst 0, 1) := by decide +kernel
theorem dX5_copyFrom_79 : decode cX5_copyFrom 79 = .ok (.bipush 32, 2) := by decide +kernel
theorem dX5_copyFrom_81 : decode cX5_copyFrom 81 = .ok (.invokestatic 68, 3) := by decide +kernel
theorem dX5_copyFrom_84 : decode cX5_copyFrom 84 = .ok (.aload_n 1, 1) := by decide +kernel
theorem dX5_copyFrom_85 : decode cX5_copyFrom 85 = .ok (.getfield 24, 3) := by decide +kernel
theorem dX5_copyFrom_88 : decode cX5_copyFrom 88 = .ok (.iconst 0, 1) := by decide +kernel
theorem dX5_copyFrom_89 : decode cX5_copyFrom 89 = .ok (.aload_n 0, 1) := by decide +kernel
theorem dX5_copyFrom_90 : decode cX5_copyFrom 90 = .ok (.getfield 24, 3) := by decide +kernel
theorem dX5_copyFrom_93 : decode cX5_copyFrom 93 = .ok (.iconst 0, 1) := by decide +kernel
theorem dX5_copyFrom_94 : decode cX5_copyFrom 94 = .ok (.sipush 640, 3) := by decide +kernel
theorem dX5_copyFrom_97 : decode cX5_copyFrom 97 = .ok (.invokestatic 68, 3) := by decide +kernel
theorem dX5_copyFrom_100 : decode cX5_copyFrom 100 = .ok (.aload_n 1, 1) := by decide +kernel
theorem dX5_copyFrom_101 : decode cX5_copyFrom 101 = .ok (.getfield 27, 3) := by decide +kernel
theorem dX5_copyFrom_104 : decode cX5_copyFrom 104 = .ok (.iconst 0, 1) := by decide +kernel
theorem dX5_copyFrom_105 : decode cX5_copyFrom 105 = .ok (.aload_n 0, 1) := by decide +kernel
theorem dX5_copyFrom_106 : decode cX5_copyFrom 106 = .ok (.getfield 27, 3) := by decide +kernel
theorem dX5_copyFrom_109 : decode cX5_copyFrom 109 = .ok (.iconst 0, 1) := by decide +kernel
theorem dX5_copyFrom_110 : decode cX5_copyFrom 110 = .ok (.iconst 5, 1) := by decide +kernel
theorem dX5_copyFrom_111 : decode cX5_copyFrom 111 = .ok (.invokestatic 68, 3) := by decide +kernel
theorem dX5_copyFrom_114 : decode cX5_copyFrom 114 = .ok (.aload_n 1, 1) := by decide +kernel
theorem dX5_copyFrom_115 : decode cX5_copyFrom 115 = .ok (.getfield 30, 3) := by decide +kernel
theorem dX5_copyFrom_118 : decode cX5_copyFrom 118 = .ok (.iconst 0, 1) := by decide +kernel
theorem dX5_copyFrom_119 : decode cX5_copyFrom 119 = .ok (.aload_n 0, 1) := by decide +kernel
theorem dX5_copyFrom_120 : decode cX5_copyFrom 120 = .ok (.getfield 30, 3) := by decide +kernel
theorem dX5_copyFrom_123 : decode cX5_copyFrom 123 = .ok (.iconst 0, 1) := by decide +kernel
theorem dX5_copyFrom_124 : decode cX5_copyFrom 124 = .ok (.bipush 30, 2) := by decide +kernel
theorem dX5_copyFrom_126 : decode cX5_copyFrom 126 = .ok (.invokestatic 68, 3) := by decide +kernel
theorem dX5_copyFrom_129 : decode cX5_copyFrom 129 = .ok (.return_, 1) := by decide +kernel
theorem dX5_isPart_0 : decode cX5_isPart 0 = .ok (.iload_n 1, 1) := by decide +kernel
theorem dX5_isPart_1 : decode cX5_isPart 1 = .ok (.ifCond .lt 15, 3) := by decide +kernel
theorem dX5_isPart_4 : decode cX5_isPart 4 = .ok (.iload_n 1, 1) := by decide +kernel
theorem dX5_isPart_5 : decode cX5_isPart 5 = .ok (.aload_n 0, 1) := by decide +kernel
theorem dX5_isPart_6 : decode cX5_isPart 6 = .ok (.getfield 37, 3) := by decide +kernel
theorem dX5_isPart_9 : decode cX5_isPart 9 = .ok (.if_icmp .ge 7, 3) := by decide +kernel
theorem dX5_isPart_12 : decode cX5_isPart 12 = .ok (.iconst 1, 1) := by decide +kernel
theorem dX5_isPart_13 : decode cX5_isPart 13 = .ok (.goto 4, 3) := by decide +kernel
theorem dX5_isPart_16 : decode cX5_isPart 16 = .ok (.iconst 0, 1) := by decide +kernel
theorem dX5_isPart_17 : decode cX5_isPart 17 = .ok (.ireturn, 1) := by decide +kernel
theorem dX5_lies_0 : decode cX5_lies 0 = .ok (.aload_n 0, 1) := by decide +kernel
theorem dX5_lies_1 : decode cX5_lies 1 = .ok (.getfield 15, 3) := by decide +kernel
theorem dX5_lies_4 : decode cX5_lies 4 = .ok (.iload_n 1, 1) := by decide +kernel
theorem dX5_lies_5 : decode cX5_lies 5 = .ok (.iaload, 1) := by decide +kernel
theorem dX5_lies_6 : decode cX5_lies 6 = .ok (.iconst (-1), 1) := by decide +kernel
theorem dX5_lies_7 : decode cX5_lies 7 = .ok (.if_icmp .ne 7, 3) := by decide +kernel
theorem dX5_lies_10 : decode cX5_lies 10 = .ok (.iconst 1, 1) := by decide +kernel
theorem dX5_lies_11 : decode cX5_lies 11 = .ok (.goto 4, 3) := by decide +kernel
theorem dX5_lies_14 : decode cX5_lies 14 = .ok (.iconst 0, 1) := by decide +kernel
theorem dX5_lies_15 : decode cX5_lies 15 = .ok (.ireturn, 1) := by decide +kernel
theorem dX5_mayTake_0 : decode cX5_mayTake 0 = .ok (.aload_n 0, 1) := by decide +kernel
theorem dX5_mayTake_1 : decode cX5_mayTake 1 = .ok (.getfield 27, 3) := by decide +kernel
theorem dX5_mayTake_4 : decode cX5_mayTake 4 = .ok (.iload_n 1, 1) := by decide +kernel
theorem dX5_mayTake_5 : decode cX5_mayTake 5 = .ok (.iaload, 1) := by decide +kernel
theorem dX5_mayTake_6 : decode cX5_mayTake 6 = .ok (.iconst 4, 1) := by decide +kernel
theorem dX5_mayTake_7 : decode cX5_mayTake 7 = .ok (.if_icmp .ge 25, 3) := by decide +kernel
theorem dX5_mayTake_10 : decode cX5_mayTake 10 = .ok (.aload_n 0, 1) := by decide +kernel
theorem dX5_mayTake_11 : decode cX5_mayTake 11 = .ok (.iload_n 2, 1) := by decide +kernel
theorem dX5_mayTake_12 : decode cX5_mayTake 12 = .ok (.invokevirtual 74, 3) := by decide +kernel
theorem dX5_mayTake_15 : decode cX5_mayTake 15 = .ok (.ifCond .eq 17, 3) := by decide +kernel
theorem dX5_mayTake_18 : decode cX5_mayTake 18 = .ok (.aload_n 0, 1) := by decide +kernel
theorem dX5_mayTake_19 : decode cX5_mayTake 19 = .ok (.getfield 18, 3) := by decide +kernel
theorem dX5_mayTake_22 : decode cX5_mayTake 22 = .ok (.iload_n 2, 1) := by decide +kernel
theorem dX5_mayTake_23 : decode cX5_mayTake 23 = .ok (.iaload, 1) := by decide +kernel
theorem dX5_mayTake_24 : decode cX5_mayTake 24 = .ok (.iload_n 1, 1) := by decide +kernel
theorem dX5_mayTake_25 : decode cX5_mayTake 25 = .ok (.if_icmp .eq 7, 3) := by decide +kernel
theorem dX5_mayTake_28 : decode cX5_mayTake 28 = .ok (.iconst 1, 1) := by decide +kernel
theorem dX5_mayTake_29 : decode cX5_mayTake 29 = .ok (.goto 4, 3) := by decide +kernel
theorem dX5_mayTake_32 : decode cX5_mayTake 32 = .ok (.iconst 0, 1) := by decide +kernel
theorem dX5_mayTake_33 : decode cX5_mayTake 33 = .ok (.ireturn, 1) := by decide +kernel
theorem dX5_addPart_0 : decode cX5_addPart 0 = .ok (.aload_n 0, 1) := by decide +kernel
theorem dX5_addPart_1 : decode cX5_addPart 1 = .ok (.getfield 37, 3) := by decide +kernel
theorem dX5_addPart_4 : decode cX5_addPart 4 = .ok (.bipush 32, 2) := by decide +kernel
theorem dX5_addPart_6 : decode cX5_addPart 6 = .ok (.if_icmp .lt 5, 3) := by decide +kernel
theorem dX5_addPart_9 : decode cX5_addPart 9 = .ok (.iconst 0, 1) := by decide +kernel
theorem dX5_addPart_10 : decode cX5_addPart 10 = .ok (.ireturn, 1) := by decide +kernel
theorem dX5_addPart_11 : decode cX5_addPart 11 = .ok (.aload_n 0, 1) := by decide +kernel
theorem dX5_addPart_12 : decode cX5_addPart 12 = .ok (.getfield 37, 3) := by decide +kernel
theorem dX5_addPart_15 : decode cX5_addPart 15 = .ok (.istore_n 3, 1) := by decide +kernel
theorem dX5_addPart_16 : decode cX5_addPart 16 = .ok (.aload_n 0, 1) := by decide +kernel
theorem dX5_addPart_17 : decode cX5_addPart 17 = .ok (.dup, 1) := by decide +kernel
theorem dX5_addPart_18 : decode cX5_addPart 18 = .ok (.getfield 37, 3) := by decide +kernel
theorem dX5_addPart_21 : decode cX5_addPart 21 = .ok (.iconst 1, 1) := by decide +kernel
theorem dX5_addPart_22 : decode cX5_addPart 22 = .ok (.iadd, 1) := by decide +kernel
theorem dX5_addPart_23 : decode cX5_addPart 23 = .ok (.putfield 37, 3) := by decide +kernel
theorem dX5_addPart_26 : decode cX5_addPart 26 = .ok (.aload_n 0, 1) := by decide +kernel
theorem dX5_addPart_27 : decode cX5_addPart 27 = .ok (.getfield 9, 3) := by decide +kernel
theorem dX5_addPart_30 : decode cX5_addPart 30 = .ok (.iload_n 3, 1) := by decide +kernel
theorem dX5_addPart_31 : decode cX5_addPart 31 = .ok (.iload_n 1, 1) := by decide +kernel
theorem dX5_addPart_32 : decode cX5_addPart 32 = .ok (.iastore, 1) := by decide +kernel
theorem dX5_addPart_33 : decode cX5_addPart 33 = .ok (.aload_n 0, 1) := by decide +kernel
theorem dX5_addPart_34 : decode cX5_addPart 34 = .ok (.getfield 15, 3) := by decide +kernel
theorem dX5_addPart_37 : decode cX5_addPart 37 = .ok (.iload_n 3, 1) := by decide +kernel
theorem dX5_addPart_38 : decode cX5_addPart 38 = .ok (.iconst (-1), 1) := by decide +kernel
theorem dX5_addPart_39 : decode cX5_addPart 39 = .ok (.iastore, 1) := by decide +kernel
theorem dX5_addPart_40 : decode cX5_addPart 40 = .ok (.aload_n 0, 1) := by decide +kernel
theorem dX5_addPart_41 : decode cX5_addPart 41 = .ok (.getfield 18, 3) := by decide +kernel
theorem dX5_addPart_44 : decode cX5_addPart 44 = .ok (.iload_n 3, 1) := by decide +kernel
theorem dX5_addPart_45 : decode cX5_addPart 45 = .ok (.iconst (-1), 1) := by decide +kernel
theorem dX5_addPart_46 : decode cX5_addPart 46 = .ok (.iastore, 1) := by decide +kernel
theorem dX5_addPart_47 : decode cX5_addPart 47 = .ok (.aload_n 0, 1) := by decide +kernel
theorem dX5_addPart_48 : decode cX5_addPart 48 = .ok (.getfield 21, 3) := by decide +kernel
theorem dX5_addPart_51 : decode cX5_addPart 51 = .ok (.iload_n 3, 1) := by decide +kernel
theorem dX5_addPart_52 : decode cX5_addPart 52 = .ok (.iconst 0, 1) := by decide +kernel
theorem dX5_addPart_53 : decode cX5_addPart 53 = .ok (.iastore, 1) := by decide +kernel
theorem dX5_addPart_54 : decode cX5_addPart 54 = .ok (.iload_n 2, 1) := by decide +kernel
theorem dX5_addPart_55 : decode cX5_addPart 55 = .ok (.iconst (-1), 1) := by decide +kernel
theorem dX5_addPart_56 : decode cX5_addPart 56 = .ok (.if_icmp .eq 9, 3) := by decide +kernel
theorem dX5_addPart_59 : decode cX5_addPart 59 = .ok (.aload_n 0, 1) := by decide +kernel
theorem dX5_addPart_60 : decode cX5_addPart 60 = .ok (.iload_n 2, 1) := by decide +kernel
theorem dX5_addPart_61 : decode cX5_addPart 61 = .ok (.iload_n 3, 1) := by decide +kernel
theorem dX5_addPart_62 : decode cX5_addPart 62 = .ok (.invokevirtual 78, 3) := by decide +kernel
theorem dX5_addPart_65 : decode cX5_addPart 65 = .ok (.iconst 1, 1) := by decide +kernel
theorem dX5_addPart_66 : decode cX5_addPart 66 = .ok (.ireturn, 1) := by decide +kernel
theorem dX5_throwOut_0 : decode cX5_throwOut 0 = .ok (.aload_n 0, 1) := by decide +kernel
theorem dX5_throwOut_1 : decode cX5_throwOut 1 = .ok (.getfield 15, 3) := by decide +kernel
theorem dX5_throwOut_4 : decode cX5_throwOut 4 = .ok (.iload_n 2, 1) := by decide +kernel
theorem dX5_throwOut_5 : decode cX5_throwOut 5 = .ok (.iaload, 1) := by decide +kernel
theorem dX5_throwOut_6 : decode cX5_throwOut 6 = .ok (.iload_n 1, 1) := by decide +kernel
theorem dX5_throwOut_7 : decode cX5_throwOut 7 = .ok (.if_icmp .eq 5, 3) := by decide +kernel
theorem dX5_throwOut_10 : decode cX5_throwOut 10 = .ok (.iconst 0, 1) := by decide +kernel
theorem dX5_throwOut_11 : decode cX5_throwOut 11 = .ok (.ireturn, 1) := by decide +kernel
theorem dX5_throwOut_12 : decode cX5_throwOut 12 = .ok (.aload_n 0, 1) := by decide +kernel
theorem dX5_throwOut_13 : decode cX5_throwOut 13 = .ok (.getfield 15, 3) := by decide +kernel
theorem dX5_throwOut_16 : decode cX5_throwOut 16 = .ok (.iload_n 2, 1) := by decide +kernel
theorem dX5_throwOut_17 : decode cX5_throwOut 17 = .ok (.iconst (-1), 1) := by decide +kernel
theorem dX5_throwOut_18 : decode cX5_throwOut 18 = .ok (.iastore, 1) := by decide +kernel
theorem dX5_throwOut_19 : decode cX5_throwOut 19 = .ok (.aload_n 0, 1) := by decide +kernel
theorem dX5_throwOut_20 : decode cX5_throwOut 20 = .ok (.getfield 18, 3) := by decide +kernel
theorem dX5_throwOut_23 : decode cX5_throwOut 23 = .ok (.iload_n 2, 1) := by decide +kernel
theorem dX5_throwOut_24 : decode cX5_throwOut 24 = .ok (.iload_n 1, 1) := by decide +kernel
theorem dX5_throwOut_25 : decode cX5_throwOut 25 = .ok (.iastore, 1) := by decide +kernel
theorem dX5_throwOut_26 : decode cX5_throwOut 26 = .ok (.aload_n 0, 1) := by decide +kernel
theorem dX5_throwOut_27 : decode cX5_throwOut 27 = .ok (.getfield 27, 3) := by decide +kernel
theorem dX5_throwOut_30 : decode cX5_throwOut 30 = .ok (.iload_n 1, 1) := by decide +kernel
theorem dX5_throwOut_31 : decode cX5_throwOut 31 = .ok (.dup2, 1) := by decide +kernel
theorem dX5_throwOut_32 : decode cX5_throwOut 32 = .ok (.iaload, 1) := by decide +kernel
theorem dX5_throwOut_33 : decode cX5_throwOut 33 = .ok (.iconst 1, 1) := by decide +kernel
theorem dX5_throwOut_34 : decode cX5_throwOut 34 = .ok (.isub, 1) := by decide +kernel
theorem dX5_throwOut_35 : decode cX5_throwOut 35 = .ok (.iastore, 1) := by decide +kernel
theorem dX5_throwOut_36 : decode cX5_throwOut 36 = .ok (.aload_n 0, 1) := by decide +kernel
theorem dX5_throwOut_37 : decode cX5_throwOut 37 = .ok (.getfield 30, 3) := by decide +kernel
theorem dX5_throwOut_40 : decode cX5_throwOut 40 = .ok (.iload_n 1, 1) := by decide +kernel
theorem dX5_throwOut_41 : decode cX5_throwOut 41 = .ok (.bipush 6, 2) := by decide +kernel
theorem dX5_throwOut_43 : decode cX5_throwOut 43 = .ok (.imul, 1) := by decide +kernel
theorem dX5_throwOut_44 : decode cX5_throwOut 44 = .ok (.aload_n 0, 1) := by decide +kernel
theorem dX5_throwOut_45 : decode cX5_throwOut 45 = .ok (.getfield 9, 3) := by decide +kernel
theorem dX5_throwOut_48 : decode cX5_throwOut 48 = .ok (.iload_n 2, 1) := by decide +kernel
theorem dX5_throwOut_49 : decode cX5_throwOut 49 = .ok (.iaload, 1) := by decide +kernel
theorem dX5_throwOut_50 : decode cX5_throwOut 50 = .ok (.iadd, 1) := by decide +kernel
theorem dX5_throwOut_51 : decode cX5_throwOut 51 = .ok (.dup2, 1) := by decide +kernel
theorem dX5_throwOut_52 : decode cX5_throwOut 52 = .ok (.iaload, 1) := by decide +kernel
theorem dX5_throwOut_53 : decode cX5_throwOut 53 = .ok (.iconst 1, 1) := by decide +kernel
theorem dX5_throwOut_54 : decode cX5_throwOut 54 = .ok (.isub, 1) := by decide +kernel
theorem dX5_throwOut_55 : decode cX5_throwOut 55 = .ok (.iastore, 1) := by decide +kernel
theorem dX5_throwOut_56 : decode cX5_throwOut 56 = .ok (.aload_n 0, 1) := by decide +kernel
theorem dX5_throwOut_57 : decode cX5_throwOut 57 = .ok (.dup, 1) := by decide +kernel
theorem dX5_throwOut_58 : decode cX5_throwOut 58 = .ok (.getfield 82, 3) := by decide +kernel
theorem dX5_throwOut_61 : decode cX5_throwOut 61 = .ok (.iconst 1, 1) := by decide +kernel
theorem dX5_throwOut_62 : decode cX5_throwOut 62 = .ok (.iadd, 1) := by decide +kernel
theorem dX5_throwOut_63 : decode cX5_throwOut 63 = .ok (.putfield 82, 3) := by decide +kernel
theorem dX5_throwOut_66 : decode cX5_throwOut 66 = .ok (.iconst 1, 1) := by decide +kernel
theorem dX5_throwOut_67 : decode cX5_throwOut 67 = .ok (.ireturn, 1) := by decide +kernel
theorem dX5_carryHome_0 : decode cX5_carryHome 0 = .ok (.aload_n 0, 1) := by decide +kernel
theorem dX5_carryHome_1 : decode cX5_carryHome 1 = .ok (.iload_n 1, 1) := by decide +kernel
theorem dX5_carryHome_2 : decode cX5_carryHome 2 = .ok (.iload_n 2, 1) := by decide +kernel
theorem dX5_carryHome_3 : decode cX5_carryHome 3 = .ok (.invokevirtual 85, 3) := by decide +kernel
theorem dX5_carryHome_6 : decode cX5_carryHome 6 = .ok (.ifCond .ne 5, 3) := by decide +kernel
theorem dX5_carryHome_9 : decode cX5_carryHome 9 = .ok (.iconst 0, 1) := by decide +kernel
theorem dX5_carryHome_10 : decode cX5_carryHome 10 = .ok (.ireturn, 1) := by decide +kernel
theorem dX5_carryHome_11 : decode cX5_carryHome 11 = .ok (.aload_n 0, 1) := by decide +kernel
theorem dX5_carryHome_12 : decode cX5_carryHome 12 = .ok (.iload_n 1, 1) := by decide +kernel
theorem dX5_carryHome_13 : decode cX5_carryHome 13 = .ok (.iload_n 2, 1) := by decide +kernel
theorem dX5_carryHome_14 : decode cX5_carryHome 14 = .ok (.invokevirtual 78, 3) := by decide +kernel
theorem dX5_carryHome_17 : decode cX5_carryHome 17 = .ok (.aload_n 0, 1) := by decide +kernel
theorem dX5_carryHome_18 : decode cX5_carryHome 18 = .ok (.dup, 1) := by decide +kernel
theorem dX5_carryHome_19 : decode cX5_carryHome 19 = .ok (.getfield 82, 3) := by decide +kernel
theorem dX5_carryHome_22 : decode cX5_carryHome 22 = .ok (.iconst 1, 1) := by decide +kernel
theorem dX5_carryHome_23 : decode cX5_carryHome 23 = .ok (.iadd, 1) := by decide +kernel
theorem dX5_carryHome_24 : decode cX5_carryHome 24 = .ok (.putfield 82, 3) := by decide +kernel
theorem dX5_carryHome_27 : decode cX5_carryHome 27 = .ok (.iconst 1, 1) := by decide +kernel
theorem dX5_carryHome_28 : decode cX5_carryHome 28 = .ok (.ireturn, 1) := by decide +kernel
theorem dX5_handOver_0 : decode cX5_handOver 0 = .ok (.aload_n 0, 1) := by decide +kernel
theorem dX5_handOver_1 : decode cX5_handOver 1 = .ok (.getfield 15, 3) := by decide +kernel
theorem dX5_handOver_4 : decode cX5_handOver 4 = .ok (.iload_n 2, 1) := by decide +kernel
theorem dX5_handOver_5 : decode cX5_handOver 5 = .ok (.iload_n 1, 1) := by decide +kernel
theorem dX5_handOver_6 : decode cX5_handOver 6 = .ok (.iastore, 1) := by decide +kernel
theorem dX5_handOver_7 : decode cX5_handOver 7 = .ok (.aload_n 0, 1) := by decide +kernel
theorem dX5_handOver_8 : decode cX5_handOver 8 = .ok (.getfield 18, 3) := by decide +kernel
theorem dX5_handOver_11 : decode cX5_handOver 11 = .ok (.iload_n 2, 1) := by decide +kernel
theorem dX5_handOver_12 : decode cX5_handOver 12 = .ok (.iconst (-1), 1) := by decide +kernel
theorem dX5_handOver_13 : decode cX5_handOver 13 = .ok (.iastore, 1) := by decide +kernel
theorem dX5_handOver_14 : decode cX5_handOver 14 = .ok (.aload_n 0, 1) := by decide +kernel
theorem dX5_handOver_15 : decode cX5_handOver 15 = .ok (.getfield 27, 3) := by decide +kernel
theorem dX5_handOver_18 : decode cX5_handOver 18 = .ok (.iload_n 1, 1) := by decide +kernel
theorem dX5_handOver_19 : decode cX5_handOver 19 = .ok (.dup2, 1) := by decide +kernel
theorem dX5_handOver_20 : decode cX5_handOver 20 = .ok (.iaload, 1) := by decide +kernel
theorem dX5_handOver_21 : decode cX5_handOver 21 = .ok (.iconst 1, 1) := by decide +kernel
theorem dX5_handOver_22 : decode cX5_handOver 22 = .ok (.iadd, 1) := by decide +kernel
theorem dX5_handOver_23 : decode cX5_handOver 23 = .ok (.iastore, 1) := by decide +kernel
theorem dX5_handOver_24 : decode cX5_handOver 24 = .ok (.aload_n 0, 1) := by decide +kernel
theorem dX5_handOver_25 : decode cX5_handOver 25 = .ok (.getfield 30, 3) := by decide +kernel
theorem dX5_handOver_28 : decode cX5_handOver 28 = .ok (.iload_n 1, 1) := by decide +kernel
theorem dX5_handOver_29 : decode cX5_handOver 29 = .ok (.bipush 6, 2) := by decide +kernel
theorem dX5_handOver_31 : decode cX5_handOver 31 = .ok (.imul, 1) := by decide +kernel
theorem dX5_handOver_32 : decode cX5_handOver 32 = .ok (.aload_n 0, 1) := by decide +kernel
theorem dX5_handOver_33 : decode cX5_handOver 33 = .ok (.getfield 9, 3) := by decide +kernel
theorem dX5_handOver_36 : decode cX5_handOver 36 = .ok (.iload_n 2, 1) := by decide +kernel
theorem dX5_handOver_37 : decode cX5_handOver 37 = .ok (.iaload, 1) := by decide +kernel
theorem dX5_handOver_38 : decode cX5_handOver 38 = .ok (.iadd, 1) := by decide +kernel
theorem dX5_handOver_39 : decode cX5_handOver 39 = .ok (.dup2, 1) := by decide +kernel
theorem dX5_handOver_40 : decode cX5_handOver 40 = .ok (.iaload, 1) := by decide +kernel
theorem dX5_handOver_41 : decode cX5_handOver 41 = .ok (.iconst 1, 1) := by decide +kernel
theorem dX5_handOver_42 : decode cX5_handOver 42 = .ok (.iadd, 1) := by decide +kernel
theorem dX5_handOver_43 : decode cX5_handOver 43 = .ok (.iastore, 1) := by decide +kernel
theorem dX5_handOver_44 : decode cX5_handOver 44 = .ok (.aload_n 0, 1) := by decide +kernel
theorem dX5_handOver_45 : decode cX5_handOver 45 = .ok (.getfield 21, 3) := by decide +kernel
theorem dX5_handOver_48 : decode cX5_handOver 48 = .ok (.iload_n 2, 1) := by decide +kernel
theorem dX5_handOver_49 : decode cX5_handOver 49 = .ok (.iaload, 1) := by decide +kernel
theorem dX5_handOver_50 : decode cX5_handOver 50 = .ok (.bipush 20, 2) := by decide +kernel
theorem dX5_handOver_52 : decode cX5_handOver 52 = .ok (.if_icmp .ge 30, 3) := by decide +kernel
theorem dX5_handOver_55 : decode cX5_handOver 55 = .ok (.aload_n 0, 1) := by decide +kernel
theorem dX5_handOver_56 : decode cX5_handOver 56 = .ok (.getfield 24, 3) := by decide +kernel
theorem dX5_handOver_59 : decode cX5_handOver 59 = .ok (.iload_n 2, 1) := by decide +kernel
theorem dX5_handOver_60 : decode cX5_handOver 60 = .ok (.bipush 20, 2) := by decide +kernel
theorem dX5_handOver_62 : decode cX5_handOver 62 = .ok (.imul, 1) := by decide +kernel
theorem dX5_handOver_63 : decode cX5_handOver 63 = .ok (.aload_n 0, 1) := by decide +kernel
theorem dX5_handOver_64 : decode cX5_handOver 64 = .ok (.getfield 21, 3) := by decide +kernel
theorem dX5_handOver_67 : decode cX5_handOver 67 = .ok (.iload_n 2, 1) := by decide +kernel
theorem dX5_handOver_68 : decode cX5_handOver 68 = .ok (.iaload, 1) := by decide +kernel
theorem dX5_handOver_69 : decode cX5_handOver 69 = .ok (.iadd, 1) := by decide +kernel
theorem dX5_handOver_70 : decode cX5_handOver 70 = .ok (.iload_n 1, 1) := by decide +kernel
theorem dX5_handOver_71 : decode cX5_handOver 71 = .ok (.iastore, 1) := by decide +kernel
theorem dX5_handOver_72 : decode cX5_handOver 72 = .ok (.aload_n 0, 1) := by decide +kernel
theorem dX5_handOver_73 : decode cX5_handOver 73 = .ok (.getfield 21, 3) := by decide +kernel
theorem dX5_handOver_76 : decode cX5_handOver 76 = .ok (.iload_n 2, 1) := by decide +kernel
theorem dX5_handOver_77 : decode cX5_handOver 77 = .ok (.dup2, 1) := by decide +kernel
theorem dX5_handOver_78 : decode cX5_handOver 78 = .ok (.iaload, 1) := by decide +kernel
theorem dX5_handOver_79 : decode cX5_handOver 79 = .ok (.iconst 1, 1) := by decide +kernel
theorem dX5_handOver_80 : decode cX5_handOver 80 = .ok (.iadd, 1) := by decide +kernel
theorem dX5_handOver_81 : decode cX5_handOver 81 = .ok (.iastore, 1) := by decide +kernel
theorem dX5_handOver_82 : decode cX5_handOver 82 = .ok (.return_, 1) := by decide +kernel
theorem dX5_gainOf_0 : decode cX5_gainOf 0 = .ok (.aload_n 0, 1) := by decide +kernel
theorem dX5_gainOf_1 : decode cX5_gainOf 1 = .ok (.getfield 30, 3) := by decide +kernel
theorem dX5_gainOf_4 : decode cX5_gainOf 4 = .ok (.iload_n 1, 1) := by decide +kernel
theorem dX5_gainOf_5 : decode cX5_gainOf 5 = .ok (.bipush 6, 2) := by decide +kernel
theorem dX5_gainOf_7 : decode cX5_gainOf 7 = .ok (.imul, 1) := by decide +kernel
theorem dX5_gainOf_8 : decode cX5_gainOf 8 = .ok (.iload_n 2, 1) := by decide +kernel
theorem dX5_gainOf_9 : decode cX5_gainOf 9 = .ok (.iadd, 1) := by decide +kernel
theorem dX5_gainOf_10 : decode cX5_gainOf 10 = .ok (.iaload, 1) := by decide +kernel
theorem dX5_gainOf_11 : decode cX5_gainOf 11 = .ok (.ifCond .ne 15, 3) := by decide +kernel
theorem dX5_gainOf_14 : decode cX5_gainOf 14 = .ok (.aload_n 0, 1) := by decide +kernel
theorem dX5_gainOf_15 : decode cX5_gainOf 15 = .ok (.getfield 33, 3) := by decide +kernel
theorem dX5_gainOf_18 : decode cX5_gainOf 18 = .ok (.iload_n 1, 1) := by decide +kernel
theorem dX5_gainOf_19 : decode cX5_gainOf 19 = .ok (.iload_n 2, 1) := by decide +kernel
theorem dX5_gainOf_20 : decode cX5_gainOf 20 = .ok (.invokevirtual 88, 3) := by decide +kernel
theorem dX5_gainOf_23 : decode cX5_gainOf 23 = .ok (.goto 4, 3) := by decide +kernel
theorem dX5_gainOf_26 : decode cX5_gainOf 26 = .ok (.iconst 0, 1) := by decide +kernel
theorem dX5_gainOf_27 : decode cX5_gainOf 27 = .ok (.ireturn, 1) := by decide +kernel
theorem dX5_lossOf_0 : decode cX5_lossOf 0 = .ok (.aload_n 0, 1) := by decide +kernel
theorem dX5_lossOf_1 : decode cX5_lossOf 1 = .ok (.getfield 30, 3) := by decide +kernel
theorem dX5_lossOf_4 : decode cX5_lossOf 4 = .ok (.iload_n 1, 1) := by decide +kernel
theorem dX5_lossOf_5 : decode cX5_lossOf 5 = .ok (.bipush 6, 2) := by decide +kernel
theorem dX5_lossOf_7 : decode cX5_lossOf 7 = .ok (.imul, 1) := by decide +kernel
theorem dX5_lossOf_8 : decode cX5_lossOf 8 = .ok (.iload_n 2, 1) := by decide +kernel
theorem dX5_lossOf_9 : decode cX5_lossOf 9 = .ok (.iadd, 1) := by decide +kernel
theorem dX5_lossOf_10 : decode cX5_lossOf 10 = .ok (.iaload, 1) := by decide +kernel
theorem dX5_lossOf_11 : decode cX5_lossOf 11 = .ok (.iconst 1, 1) := by decide +kernel
theorem dX5_lossOf_12 : decode cX5_lossOf 12 = .ok (.if_icmp .ne 15, 3) := by decide +kernel
theorem dX5_lossOf_15 : decode cX5_lossOf 15 = .ok (.aload_n 0, 1) := by decide +kernel
theorem dX5_lossOf_16 : decode cX5_lossOf 16 = .ok (.getfield 33, 3) := by decide +kernel
theorem dX5_lossOf_19 : decode cX5_lossOf 19 = .ok (.iload_n 1, 1) := by decide +kernel
theorem dX5_lossOf_20 : decode cX5_lossOf 20 = .ok (.iload_n 2, 1) := by decide +kernel
theorem dX5_lossOf_21 : decode cX5_lossOf 21 = .ok (.invokevirtual 88, 3) := by decide +kernel
theorem dX5_lossOf_24 : decode cX5_lossOf 24 = .ok (.goto 4, 3) := by decide +kernel
theorem dX5_lossOf_27 : decode cX5_lossOf 27 = .ok (.iconst 0, 1) := by decide +kernel
theorem dX5_lossOf_28 : decode cX5_lossOf 28 = .ok (.ireturn, 1) := by decide +kernel
theorem dX5_betterBy_0 : decode cX5_betterBy 0 = .ok (.aload_n 0, 1) := by decide +kernel
theorem dX5_betterBy_1 : decode cX5_betterBy 1 = .ok (.getfield 9, 3) := by decide +kernel
theorem dX5_betterBy_4 : decode cX5_betterBy 4 = .ok (.iload_n 2, 1) := by decide +kernel
theorem dX5_betterBy_5 : decode cX5_betterBy 5 = .ok (.iaload, 1) := by decide +kernel
theorem dX5_betterBy_6 : decode cX5_betterBy 6 = .ok (.aload_n 0, 1) := by decide +kernel
theorem dX5_betterBy_7 : decode cX5_betterBy 7 = .ok (.getfield 9, 3) := by decide +kernel
theorem dX5_betterBy_10 : decode cX5_betterBy 10 = .ok (.iload_n 3, 1) := by decide +kernel
theorem dX5_betterBy_11 : decode cX5_betterBy 11 = .ok (.iaload, 1) := by decide +kernel
theorem dX5_betterBy_12 : decode cX5_betterBy 12 = .ok (.if_icmp .ne 7, 3) := by decide +kernel
theorem dX5_betterBy_15 : decode cX5_betterBy 15 = .ok (.iconst 0, 1) := by decide +kernel
theorem dX5_betterBy_16 : decode cX5_betterBy 16 = .ok (.goto 26, 3) := by decide +kernel
theorem dX5_betterBy_19 : decode cX5_betterBy 19 = .ok (.aload_n 0, 1) := by decide +kernel
theorem dX5_betterBy_20 : decode cX5_betterBy 20 = .ok (.iload_n 1, 1) := by decide +kernel
theorem dX5_betterBy_21 : decode cX5_betterBy 21 = .ok (.aload_n 0, 1) := by decide +kernel
theorem dX5_betterBy_22 : decode cX5_betterBy 22 = .ok (.getfield 9, 3) := by decide +kernel
theorem dX5_betterBy_25 : decode cX5_betterBy 25 = .ok (.iload_n 3, 1) := by decide +kernel
theorem dX5_betterBy_26 : decode cX5_betterBy 26 = .ok (.iaload, 1) := by decide +kernel
theorem dX5_betterBy_27 : decode cX5_betterBy 27 = .ok (.invokevirtual 92, 3) := by decide +kernel
theorem dX5_betterBy_30 : decode cX5_betterBy 30 = .ok (.aload_n 0, 1) := by decide +kernel
theorem dX5_betterBy_31 : decode cX5_betterBy 31 = .ok (.iload_n 1, 1) := by decide +kernel
theorem dX5_betterBy_32 : decode cX5_betterBy 32 = .ok (.aload_n 0, 1) := by decide +kernel
theorem dX5_betterBy_33 : decode cX5_betterBy 33 = .ok (.getfield 9, 3) := by decide +kernel
theorem dX5_betterBy_36 : decode cX5_betterBy 36 = .ok (.iload_n 2, 1) := by decide +kernel
theorem dX5_betterBy_37 : decode cX5_betterBy 37 = .ok (.iaload, 1) := by decide +kernel
theorem dX5_betterBy_38 : decode cX5_betterBy 38 = .ok (.invokevirtual 95, 3) := by decide +kernel
theorem dX5_betterBy_41 : decode cX5_betterBy 41 = .ok (.isub, 1) := by decide +kernel
theorem dX5_betterBy_42 : decode cX5_betterBy 42 = .ok (.ireturn, 1) := by decide +kernel
theorem dX5_wealthOf_0 : decode cX5_wealthOf 0 = .ok (.iconst 0, 1) := by decide +kernel
theorem dX5_wealthOf_1 : decode cX5_wealthOf 1 = .ok (.istore_n 2, 1) := by decide +kernel
theorem dX5_wealthOf_2 : decode cX5_wealthOf 2 = .ok (.iconst 0, 1) := by decide +kernel
theorem dX5_wealthOf_3 : decode cX5_wealthOf 3 = .ok (.istore_n 3, 1) := by decide +kernel
theorem dX5_wealthOf_4 : decode cX5_wealthOf 4 = .ok (.iload_n 3, 1) := by decide +kernel
theorem dX5_wealthOf_5 : decode cX5_wealthOf 5 = .ok (.aload_n 0, 1) := by decide +kernel
theorem dX5_wealthOf_6 : decode cX5_wealthOf 6 = .ok (.getfield 33, 3) := by decide +kernel
theorem dX5_wealthOf_9 : decode cX5_wealthOf 9 = .ok (.getfield 98, 3) := by decide +kernel
theorem dX5_wealthOf_12 : decode cX5_wealthOf 12 = .ok (.if_icmp .ge 35, 3) := by decide +kernel
theorem dX5_wealthOf_15 : decode cX5_wealthOf 15 = .ok (.aload_n 0, 1) := by decide +kernel
theorem dX5_wealthOf_16 : decode cX5_wealthOf 16 = .ok (.getfield 30, 3) := by decide +kernel
theorem dX5_wealthOf_19 : decode cX5_wealthOf 19 = .ok (.iload_n 1, 1) := by decide +kernel
theorem dX5_wealthOf_20 : decode cX5_wealthOf 20 = .ok (.bipush 6, 2) := by decide +kernel
theorem dX5_wealthOf_22 : decode cX5_wealthOf 22 = .ok (.imul, 1) := by decide +kernel
theorem dX5_wealthOf_23 : decode cX5_wealthOf 23 = .ok (.iload_n 3, 1) := by decide +kernel
theorem dX5_wealthOf_24 : decode cX5_wealthOf 24 = .ok (.iadd, 1) := by decide +kernel
theorem dX5_wealthOf_25 : decode cX5_wealthOf 25 = .ok (.iaload, 1) := by decide +kernel
theorem dX5_wealthOf_26 : decode cX5_wealthOf 26 = .ok (.ifCond .le 15, 3) := by decide +kernel
theorem dX5_wealthOf_29 : decode cX5_wealthOf 29 = .ok (.iload_n 2, 1) := by decide +kernel
theorem dX5_wealthOf_30 : decode cX5_wealthOf 30 = .ok (.aload_n 0, 1) := by decide +kernel
theorem dX5_wealthOf_31 : decode cX5_wealthOf 31 = .ok (.getfield 33, 3) := by decide +kernel
theorem dX5_wealthOf_34 : decode cX5_wealthOf 34 = .ok (.iload_n 1, 1) := by decide +kernel
theorem dX5_wealthOf_35 : decode cX5_wealthOf 35 = .ok (.iload_n 3, 1) := by decide +kernel
theorem dX5_wealthOf_36 : decode cX5_wealthOf 36 = .ok (.invokevirtual 88, 3) := by decide +kernel
theorem dX5_wealthOf_39 : decode cX5_wealthOf 39 = .ok (.iadd, 1) := by decide +kernel
theorem dX5_wealthOf_40 : decode cX5_wealthOf 40 = .ok (.istore_n 2, 1) := by decide +kernel
theorem dX5_wealthOf_41 : decode cX5_wealthOf 41 = .ok (.iinc 3 1, 3) := by decide +kernel
theorem dX5_wealthOf_44 : decode cX5_wealthOf 44 = .ok (.goto (-40), 3) := by decide +kernel
theorem dX5_wealthOf_47 : decode cX5_wealthOf 47 = .ok (.iload_n 2, 1) := by decide +kernel
theorem dX5_wealthOf_48 : decode cX5_wealthOf 48 = .ok (.ireturn, 1) := by decide +kernel
theorem dX5_sortsHad_0 : decode cX5_sortsHad 0 = .ok (.iconst 0, 1) := by decide +kernel
theorem dX5_sortsHad_1 : decode cX5_sortsHad 1 = .ok (.istore_n 2, 1) := by decide +kernel
theorem dX5_sortsHad_2 : decode cX5_sortsHad 2 = .ok (.iconst 0, 1) := by decide +kernel
theorem dX5_sortsHad_3 : decode cX5_sortsHad 3 = .ok (.istore_n 3, 1) := by decide +kernel
theorem dX5_sortsHad_4 : decode cX5_sortsHad 4 = .ok (.iload_n 3, 1) := by decide +kernel
theorem dX5_sortsHad_5 : decode cX5_sortsHad 5 = .ok (.aload_n 0, 1) := by decide +kernel
theorem dX5_sortsHad_6 : decode cX5_sortsHad 6 = .ok (.getfield 33, 3) := by decide +kernel
theorem dX5_sortsHad_9 : decode cX5_sortsHad 9 = .ok (.getfield 98, 3) := by decide +kernel
theorem dX5_sortsHad_12 : decode cX5_sortsHad 12 = .ok (.if_icmp .ge 29, 3) := by decide +kernel
theorem dX5_sortsHad_15 : decode cX5_sortsHad 15 = .ok (.aload_n 0, 1) := by decide +kernel
theorem dX5_sortsHad_16 : decode cX5_sortsHad 16 = .ok (.getfield 30, 3) := by decide +kernel
theorem dX5_sortsHad_19 : decode cX5_sortsHad 19 = .ok (.iload_n 1, 1) := by decide +kernel
theorem dX5_sortsHad_20 : decode cX5_sortsHad 20 = .ok (.bipush 6, 2) := by decide +kernel
theorem dX5_sortsHad_22 : decode cX5_sortsHad 22 = .ok (.imul, 1) := by decide +kernel
theorem dX5_sortsHad_23 : decode cX5_sortsHad 23 = .ok (.iload_n 3, 1) := by decide +kernel
theorem dX5_sortsHad_24 : decode cX5_sortsHad 24 = .ok (.iadd, 1) := by decide +kernel
theorem dX5_sortsHad_25 : decode cX5_sortsHad 25 = .ok (.iaload, 1) := by decide +kernel
theorem dX5_sortsHad_26 : decode cX5_sortsHad 26 = .ok (.ifCond .le 9, 3) := by decide +kernel
theorem dX5_sortsHad_29 : decode cX5_sortsHad 29 = .ok (.iload_n 2, 1) := by decide +kernel
theorem dX5_sortsHad_30 : decode cX5_sortsHad 30 = .ok (.iconst 1, 1) := by decide +kernel
theorem dX5_sortsHad_31 : decode cX5_sortsHad 31 = .ok (.iload_n 3, 1) := by decide +kernel
theorem dX5_sortsHad_32 : decode cX5_sortsHad 32 = .ok (.ishl, 1) := by decide +kernel
theorem dX5_sortsHad_33 : decode cX5_sortsHad 33 = .ok (.ior, 1) := by decide +kernel
theorem dX5_sortsHad_34 : decode cX5_sortsHad 34 = .ok (.istore_n 2, 1) := by decide +kernel
theorem dX5_sortsHad_35 : decode cX5_sortsHad 35 = .ok (.iinc 3 1, 3) := by decide +kernel
theorem dX5_sortsHad_38 : decode cX5_sortsHad 38 = .ok (.goto (-34), 3) := by decide +kernel
theorem dX5_sortsHad_41 : decode cX5_sortsHad 41 = .ok (.iload_n 2, 1) := by decide +kernel
theorem dX5_sortsHad_42 : decode cX5_sortsHad 42 = .ok (.ireturn, 1) := by decide +kernel
theorem dX5_poorHouses_0 : decode cX5_poorHouses 0 = .ok (.iconst 0, 1) := by decide +kernel
theorem dX5_poorHouses_1 : decode cX5_poorHouses 1 = .ok (.istore_n 1, 1) := by decide +kernel
theorem dX5_poorHouses_2 : decode cX5_poorHouses 2 = .ok (.iconst 0, 1) := by decide +kernel
theorem dX5_poorHouses_3 : decode cX5_poorHouses 3 = .ok (.istore_n 2, 1) := by decide +kernel
theorem dX5_poorHouses_4 : decode cX5_poorHouses 4 = .ok (.iload_n 2, 1) := by decide +kernel
theorem dX5_poorHouses_5 : decode cX5_poorHouses 5 = .ok (.aload_n 0, 1) := by decide +kernel
theorem dX5_poorHouses_6 : decode cX5_poorHouses 6 = .ok (.getfield 33, 3) := by decide +kernel
theorem dX5_poorHouses_9 : decode cX5_poorHouses 9 = .ok (.getfield 101, 3) := by decide +kernel
theorem dX5_poorHouses_12 : decode cX5_poorHouses 12 = .ok (.if_icmp .ge 24, 3) := by decide +kernel
theorem dX5_poorHouses_15 : decode cX5_poorHouses 15 = .ok (.aload_n 0, 1) := by decide +kernel
theorem dX5_poorHouses_16 : decode cX5_poorHouses 16 = .ok (.getfield 27, 3) := by decide +kernel
theorem dX5_poorHouses_19 : decode cX5_poorHouses 19 = .ok (.iload_n 2, 1) := by decide +kernel
theorem dX5_poorHouses_20 : decode cX5_poorHouses 20 = .ok (.iaload, 1) := by decide +kernel
theorem dX5_poorHouses_21 : decode cX5_poorHouses 21 = .ok (.ifCond .ne 9, 3) := by decide +kernel
theorem dX5_poorHouses_24 : decode cX5_poorHouses 24 = .ok (.iload_n 1, 1) := by decide +kernel
theorem dX5_poorHouses_25 : decode cX5_poorHouses 25 = .ok (.iconst 1, 1) := by decide +kernel
theorem dX5_poorHouses_26 : decode cX5_poorHouses 26 = .ok (.iload_n 2, 1) := by decide +kernel
theorem dX5_poorHouses_27 : decode cX5_poorHouses 27 = .ok (.ishl, 1) := by decide +kernel
theorem dX5_poorHouses_28 : decode cX5_poorHouses 28 = .ok (.ior, 1) := by decide +kernel
theorem dX5_poorHouses_29 : decode cX5_poorHouses 29 = .ok (.istore_n 1, 1) := by decide +kernel
theorem dX5_poorHouses_30 : decode cX5_poorHouses 30 = .ok (.iinc 2 1, 3) := by decide +kernel
theorem dX5_poorHouses_33 : decode cX5_poorHouses 33 = .ok (.goto (-29), 3) := by decide +kernel
theorem dX5_poorHouses_36 : decode cX5_poorHouses 36 = .ok (.iload_n 1, 1) := by decide +kernel
theorem dX5_poorHouses_37 : decode cX5_poorHouses 37 = .ok (.ireturn, 1) := by decide +kernel
theorem dX5_countLying_0 : decode cX5_countLying 0 = .ok (.iconst 0, 1) := by decide +kernel
theorem dX5_countLying_1 : decode cX5_countLying 1 = .ok (.istore_n 1, 1) := by decide +kernel
theorem dX5_countLying_2 : decode cX5_countLying 2 = .ok (.iconst 0, 1) := by decide +kernel
theorem dX5_countLying_3 : decode cX5_countLying 3 = .ok (.istore_n 2, 1) := by decide +kernel
theorem dX5_countLying_4 : decode cX5_countLying 4 = .ok (.iload_n 2, 1) := by decide +kernel
theorem dX5_countLying_5 : decode cX5_countLying 5 = .ok (.aload_n 0, 1) := by decide +kernel
theorem dX5_countLying_6 : decode cX5_countLying 6 = .ok (.getfield 37, 3) := by decide +kernel
theorem dX5_countLying_9 : decode cX5_countLying 9 = .ok (.if_icmp .ge 20, 3) := by decide +kernel
theorem dX5_countLying_12 : decode cX5_countLying 12 = .ok (.aload_n 0, 1) := by decide +kernel
theorem dX5_countLying_13 : decode cX5_countLying 13 = .ok (.iload_n 2, 1) := by decide +kernel
theorem dX5_countLying_14 : decode cX5_countLying 14 = .ok (.invokevirtual 74, 3) := by decide +kernel
theorem dX5_countLying_17 : decode cX5_countLying 17 = .ok (.ifCond .eq 6, 3) := by decide +kernel
theorem dX5_countLying_20 : decode cX5_countLying 20 = .ok (.iinc 1 1, 3) := by decide +kernel
theorem dX5_countLying_23 : decode cX5_countLying 23 = .ok (.iinc 2 1, 3) := by decide +kernel
theorem dX5_countLying_26 : decode cX5_countLying 26 = .ok (.goto (-22), 3) := by decide +kernel
theorem dX5_countLying_29 : decode cX5_countLying 29 = .ok (.iload_n 1, 1) := by decide +kernel
theorem dX5_countLying_30 : decode cX5_countLying 30 = .ok (.ireturn, 1) := by decide +kernel
theorem dX5_countInYard_0 : decode cX5_countInYard 0 = .ok (.iconst 0, 1) := by decide +kernel
theorem dX5_countInYard_1 : decode cX5_countInYard 1 = .ok (.istore_n 2, 1) := by decide +kernel
theorem dX5_countInYard_2 : decode cX5_countInYard 2 = .ok (.iconst 0, 1) := by decide +kernel
theorem dX5_countInYard_3 : decode cX5_countInYard 3 = .ok (.istore_n 3, 1) := by decide +kernel
theorem dX5_countInYard_4 : decode cX5_countInYard 4 = .ok (.iload_n 3, 1) := by decide +kernel
theorem dX5_countInYard_5 : decode cX5_countInYard 5 = .ok (.aload_n 0, 1) := by decide +kernel
theorem dX5_countInYard_6 : decode cX5_countInYard 6 = .ok (.getfield 37, 3) := by decide +kernel
theorem dX5_countInYard_9 : decode cX5_countInYard 9 = .ok (.if_icmp .ge 22, 3) := by decide +kernel
theorem dX5_countInYard_12 : decode cX5_countInYard 12 = .ok (.aload_n 0, 1) := by decide +kernel
theorem dX5_countInYard_13 : decode cX5_countInYard 13 = .ok (.getfield 18, 3) := by decide +kernel
theorem dX5_countInYard_16 : decode cX5_countInYard 16 = .ok (.iload_n 3, 1) := by decide +kernel
theorem dX5_countInYard_17 : decode cX5_countInYard 17 = .ok (.iaload, 1) := by decide +kernel
theorem dX5_countInYard_18 : decode cX5_countInYard 18 = .ok (.iload_n 1, 1) := by decide +kernel
theorem dX5_countInYard_19 : decode cX5_countInYard 19 = .ok (.if_icmp .ne 6, 3) := by decide +kernel
theorem dX5_countInYard_22 : decode cX5_countInYard 22 = .ok (.iinc 2 1, 3) := by decide +kernel
theorem dX5_countInYard_25 : decode cX5_countInYard 25 = .ok (.iinc 3 1, 3) := by decide +kernel
theorem dX5_countInYard_28 : decode cX5_countInYard 28 = .ok (.goto (-24), 3) := by decide +kernel
theorem dX5_countInYard_31 : decode cX5_countInYard 31 = .ok (.iload_n 2, 1) := by decide +kernel
theorem dX5_countInYard_32 : decode cX5_countInYard 32 = .ok (.ireturn, 1) := by decide +kernel
theorem dX5_firstAt_0 : decode cX5_firstAt 0 = .ok (.aload_n 0, 1) := by decide +kernel
theorem dX5_firstAt_1 : decode cX5_firstAt 1 = .ok (.getfield 18, 3) := by decide +kernel
theorem dX5_firstAt_4 : decode cX5_firstAt 4 = .ok (.iload_n 1, 1) := by decide +kernel
theorem dX5_firstAt_5 : decode cX5_firstAt 5 = .ok (.iaload, 1) := by decide +kernel
theorem dX5_firstAt_6 : decode cX5_firstAt 6 = .ok (.iconst (-1), 1) := by decide +kernel
theorem dX5_firstAt_7 : decode cX5_firstAt 7 = .ok (.if_icmp .ne 8, 3) := by decide +kernel
theorem dX5_firstAt_10 : decode cX5_firstAt 10 = .ok (.bipush 50, 2) := by decide +kernel
theorem dX5_firstAt_12 : decode cX5_firstAt 12 = .ok (.goto 17, 3) := by decide +kernel
theorem dX5_firstAt_15 : decode cX5_firstAt 15 = .ok (.aload_n 0, 1) := by decide +kernel
theorem dX5_firstAt_16 : decode cX5_firstAt 16 = .ok (.getfield 33, 3) := by decide +kernel
theorem dX5_firstAt_19 : decode cX5_firstAt 19 = .ok (.getfield 104, 3) := by decide +kernel
theorem dX5_firstAt_22 : decode cX5_firstAt 22 = .ok (.aload_n 0, 1) := by decide +kernel
theorem dX5_firstAt_23 : decode cX5_firstAt 23 = .ok (.getfield 18, 3) := by decide +kernel
theorem dX5_firstAt_26 : decode cX5_firstAt 26 = .ok (.iload_n 1, 1) := by decide +kernel
theorem dX5_firstAt_27 : decode cX5_firstAt 27 = .ok (.iaload, 1) := by decide +kernel
theorem dX5_firstAt_28 : decode cX5_firstAt 28 = .ok (.iaload, 1) := by decide +kernel
theorem dX5_firstAt_29 : decode cX5_firstAt 29 = .ok (.istore_n 2, 1) := by decide +kernel
theorem dX5_firstAt_30 : decode cX5_firstAt 30 = .ok (.iconst (-1), 1) := by decide +kernel
theorem dX5_firstAt_31 : decode cX5_firstAt 31 = .ok (.istore_n 3, 1) := by decide +kernel
theorem dX5_firstAt_32 : decode cX5_firstAt 32 = .ok (.iconst 0, 1) := by decide +kernel
theorem dX5_firstAt_33 : decode cX5_firstAt 33 = .ok (.istore 4, 2) := by decide +kernel
theorem dX5_firstAt_35 : decode cX5_firstAt 35 = .ok (.iconst 0, 1) := by decide +kernel
theorem dX5_firstAt_36 : decode cX5_firstAt 36 = .ok (.istore 5, 2) := by decide +kernel
theorem dX5_firstAt_38 : decode cX5_firstAt 38 = .ok (.iconst 0, 1) := by decide +kernel
theorem dX5_firstAt_39 : decode cX5_firstAt 39 = .ok (.istore 6, 2) := by decide +kernel
theorem dX5_firstAt_41 : decode cX5_firstAt 41 = .ok (.iload 6, 2) := by decide +kernel
theorem dX5_firstAt_43 : decode cX5_firstAt 43 = .ok (.aload_n 0, 1) := by decide +kernel
theorem dX5_firstAt_44 : decode cX5_firstAt 44 = .ok (.getfield 33, 3) := by decide +kernel
theorem dX5_firstAt_47 : decode cX5_firstAt 47 = .ok (.getfield 101, 3) := by decide +kernel
theorem dX5_firstAt_50 : decode cX5_firstAt 50 = .ok (.if_icmp .ge 104, 3) := by decide +kernel
theorem dX5_firstAt_53 : decode cX5_firstAt 53 = .ok (.aload_n 0, 1) := by decide +kernel
theorem dX5_firstAt_54 : decode cX5_firstAt 54 = .ok (.iload 6, 2) := by decide +kernel
theorem dX5_firstAt_56 : decode cX5_firstAt 56 = .ok (.aload_n 0, 1) := by decide +kernel
theorem dX5_firstAt_57 : decode cX5_firstAt 57 = .ok (.getfield 9, 3) := by decide +kernel
theorem dX5_firstAt_60 : decode cX5_firstAt 60 = .ok (.iload_n 1, 1) := by decide +kernel
theorem dX5_firstAt_61 : decode cX5_firstAt 61 = .ok (.iaload, 1) := by decide +kernel
theorem dX5_firstAt_62 : decode cX5_firstAt 62 = .ok (.invokevirtual 92, 3) := by decide +kernel
theorem dX5_firstAt_65 : decode cX5_firstAt 65 = .ok (.istore 7, 2) := by decide +kernel
theorem dX5_firstAt_67 : decode cX5_firstAt 67 = .ok (.aload_n 0, 1) := by decide +kernel
theorem dX5_firstAt_68 : decode cX5_firstAt 68 = .ok (.getfield 33, 3) := by decide +kernel
theorem dX5_firstAt_71 : decode cX5_firstAt 71 = .ok (.getfield 104, 3) := by decide +kernel
theorem dX5_firstAt_74 : decode cX5_firstAt 74 = .ok (.iload 6, 2) := by decide +kernel
theorem dX5_firstAt_76 : decode cX5_firstAt 76 = .ok (.iaload, 1) := by decide +kernel
theorem dX5_firstAt_77 : decode cX5_firstAt 77 = .ok (.iload_n 2, 1) := by decide +kernel
theorem dX5_firstAt_78 : decode cX5_firstAt 78 = .ok (.isub, 1) := by decide +kernel
theorem dX5_firstAt_79 : decode cX5_firstAt 79 = .ok (.invokestatic 107, 3) := by decide +kernel
theorem dX5_firstAt_82 : decode cX5_firstAt 82 = .ok (.istore 8, 2) := by decide +kernel
theorem dX5_firstAt_84 : decode cX5_firstAt 84 = .ok (.iload_n 3, 1) := by decide +kernel
theorem dX5_firstAt_85 : decode cX5_firstAt 85 = .ok (.iconst (-1), 1) := by decide +kernel
theorem dX5_firstAt_86 : decode cX5_firstAt 86 = .ok (.if_icmp .eq 24, 3) := by decide +kernel
theorem dX5_firstAt_89 : decode cX5_firstAt 89 = .ok (.iload 8, 2) := by decide +kernel
theorem dX5_firstAt_91 : decode cX5_firstAt 91 = .ok (.iload 4, 2) := by decide +kernel
theorem dX5_firstAt_93 : decode cX5_firstAt 93 = .ok (.if_icmp .lt 17, 3) := by decide +kernel
theorem dX5_firstAt_96 : decode cX5_firstAt 96 = .ok (.iload 8, 2) := by decide +kernel
theorem dX5_firstAt_98 : decode cX5_firstAt 98 = .ok (.iload 4, 2) := by decide +kernel
theorem dX5_firstAt_100 : decode cX5_firstAt 100 = .ok (.if_icmp .ne 14, 3) := by decide +kernel
theorem dX5_firstAt_103 : decode cX5_firstAt 103 = .ok (.iload 7, 2) := by decide +kernel
theorem dX5_firstAt_105 : decode cX5_firstAt 105 = .ok (.iload 5, 2) := by decide +kernel
theorem dX5_firstAt_107 : decode cX5_firstAt 107 = .ok (.if_icmp .le 7, 3) := by decide +kernel
theorem dX5_firstAt_110 : decode cX5_firstAt 110 = .ok (.iconst 1, 1) := by decide +kernel
theorem dX5_firstAt_111 : decode cX5_firstAt 111 = .ok (.goto 4, 3) := by decide +kernel
theorem dX5_firstAt_114 : decode cX5_firstAt 114 = .ok (.iconst 0, 1) := by decide +kernel
theorem dX5_firstAt_115 : decode cX5_firstAt 115 = .ok (.istore 9, 2) := by decide +kernel
theorem dX5_firstAt_117 : decode cX5_firstAt 117 = .ok (.iload 7, 2) := by decide +kernel
theorem dX5_firstAt_119 : decode cX5_firstAt 119 = .ok (.ifCond .le 29, 3) := by decide +kernel
theorem dX5_firstAt_122 : decode cX5_firstAt 122 = .ok (.aload_n 0, 1) := by decide +kernel
theorem dX5_firstAt_123 : decode cX5_firstAt 123 = .ok (.iload 6, 2) := by decide +kernel
theorem dX5_firstAt_125 : decode cX5_firstAt 125 = .ok (.iload_n 1, 1) := by decide +kernel
theorem dX5_firstAt_126 : decode cX5_firstAt 126 = .ok (.invokevirtual 85, 3) := by decide +kernel
theorem dX5_firstAt_129 : decode cX5_firstAt 129 = .ok (.ifCond .eq 19, 3) := by decide +kernel
theorem dX5_firstAt_132 : decode cX5_firstAt 132 = .ok (.iload 9, 2) := by decide +kernel
theorem dX5_firstAt_134 : decode cX5_firstAt 134 = .ok (.ifCond .eq 14, 3) := by decide +kernel
theorem dX5_firstAt_137 : decode cX5_firstAt 137 = .ok (.iload 6, 2) := by decide +kernel
theorem dX5_firstAt_139 : decode cX5_firstAt 139 = .ok (.istore_n 3, 1) := by decide +kernel
theorem dX5_firstAt_140 : decode cX5_firstAt 140 = .ok (.iload 8, 2) := by decide +kernel
theorem dX5_firstAt_142 : decode cX5_firstAt 142 = .ok (.istore 4, 2) := by decide +kernel
theorem dX5_firstAt_144 : decode cX5_firstAt 144 = .ok (.iload 7, 2) := by decide +kernel
theorem dX5_firstAt_146 : decode cX5_firstAt 146 = .ok (.istore 5, 2) := by decide +kernel
theorem dX5_firstAt_148 : decode cX5_firstAt 148 = .ok (.iinc 6 1, 3) := by decide +kernel
theorem dX5_firstAt_151 : decode cX5_firstAt 151 = .ok (.goto (-110), 3) := by decide +kernel
theorem dX5_firstAt_154 : decode cX5_firstAt 154 = .ok (.iload_n 3, 1) := by decide +kernel
theorem dX5_firstAt_155 : decode cX5_firstAt 155 = .ok (.ireturn, 1) := by decide +kernel
theorem dX5_partToTake_0 : decode cX5_partToTake 0 = .ok (.iconst (-1), 1) := by decide +kernel
theorem dX5_partToTake_1 : decode cX5_partToTake 1 = .ok (.istore_n 2, 1) := by decide +kernel
theorem dX5_partToTake_2 : decode cX5_partToTake 2 = .ok (.iconst 0, 1) := by decide +kernel
theorem dX5_partToTake_3 : decode cX5_partToTake 3 = .ok (.istore_n 3, 1) := by decide +kernel
theorem dX5_partToTake_4 : decode cX5_partToTake 4 = .ok (.iconst 0, 1) := by decide +kernel
theorem dX5_partToTake_5 : decode cX5_partToTake 5 = .ok (.istore 4, 2) := by decide +kernel
theorem dX5_partToTake_7 : decode cX5_partToTake 7 = .ok (.iload 4, 2) := by decide +kernel
theorem dX5_partToTake_9 : decode cX5_partToTake 9 = .ok (.aload_n 0, 1) := by decide +kernel
theorem dX5_partToTake_10 : decode cX5_partToTake 10 = .ok (.getfield 37, 3) := by decide +kernel
theorem dX5_partToTake_13 : decode cX5_partToTake 13 = .ok (.if_icmp .ge 51, 3) := by decide +kernel
theorem dX5_partToTake_16 : decode cX5_partToTake 16 = .ok (.aload_n 0, 1) := by decide +kernel
theorem dX5_partToTake_17 : decode cX5_partToTake 17 = .ok (.iload_n 1, 1) := by decide +kernel
theorem dX5_partToTake_18 : decode cX5_partToTake 18 = .ok (.iload 4, 2) := by decide +kernel
theorem dX5_partToTake_20 : decode cX5_partToTake 20 = .ok (.invokevirtual 85, 3) := by decide +kernel
theorem dX5_partToTake_23 : decode cX5_partToTake 23 = .ok (.ifCond .eq 35, 3) := by decide +kernel
theorem dX5_partToTake_26 : decode cX5_partToTake 26 = .ok (.aload_n 0, 1) := by decide +kernel
theorem dX5_partToTake_27 : decode cX5_partToTake 27 = .ok (.iload_n 1, 1) := by decide +kernel
theorem dX5_partToTake_28 : decode cX5_partToTake 28 = .ok (.aload_n 0, 1) := by decide +kernel
theorem dX5_partToTake_29 : decode cX5_partToTake 29 = .ok (.getfield 9, 3) := by decide +kernel
theorem dX5_partToTake_32 : decode cX5_partToTake 32 = .ok (.iload 4, 2) := by decide +kernel
theorem dX5_partToTake_34 : decode cX5_partToTake 34 = .ok (.iaload, 1) := by decide +kernel
theorem dX5_partToTake_35 : decode cX5_partToTake 35 = .ok (.invokevirtual 92, 3) := by decide +kernel
theorem dX5_partToTake_38 : decode cX5_partToTake 38 = .ok (.iload_n 3, 1) := by decide +kernel
theorem dX5_partToTake_39 : decode cX5_partToTake 39 = .ok (.if_icmp .le 19, 3) := by decide +kernel
theorem dX5_partToTake_42 : decode cX5_partToTake 42 = .ok (.iload 4, 2) := by decide +kernel
theorem dX5_partToTake_44 : decode cX5_partToTake 44 = .ok (.istore_n 2, 1) := by decide +kernel
theorem dX5_partToTake_45 : decode cX5_partToTake 45 = .ok (.aload_n 0, 1) := by decide +kernel
theorem dX5_partToTake_46 : decode cX5_partToTake 46 = .ok (.iload_n 1, 1) := by decide +kernel
theorem dX5_partToTake_47 : decode cX5_partToTake 47 = .ok (.aload_n 0, 1) := by decide +kernel
theorem dX5_partToTake_48 : decode cX5_partToTake 48 = .ok (.getfield 9, 3) := by decide +kernel
theorem dX5_partToTake_51 : decode cX5_partToTake 51 = .ok (.iload 4, 2) := by decide +kernel
theorem dX5_partToTake_53 : decode cX5_partToTake 53 = .ok (.iaload, 1) := by decide +kernel
theorem dX5_partToTake_54 : decode cX5_partToTake 54 = .ok (.invokevirtual 92, 3) := by decide +kernel
theorem dX5_partToTake_57 : decode cX5_partToTake 57 = .ok (.istore_n 3, 1) := by decide +kernel
theorem dX5_partToTake_58 : decode cX5_partToTake 58 = .ok (.iinc 4 1, 3) := by decide +kernel
theorem dX5_partToTake_61 : decode cX5_partToTake 61 = .ok (.goto (-54), 3) := by decide +kernel
theorem dX5_partToTake_64 : decode cX5_partToTake 64 = .ok (.iload_n 2, 1) := by decide +kernel
theorem dX5_partToTake_65 : decode cX5_partToTake 65 = .ok (.ireturn, 1) := by decide +kernel
theorem dX5_greatestGain_0 : decode cX5_greatestGain 0 = .ok (.aload_n 0, 1) := by decide +kernel
theorem dX5_greatestGain_1 : decode cX5_greatestGain 1 = .ok (.iload_n 1, 1) := by decide +kernel
theorem dX5_greatestGain_2 : decode cX5_greatestGain 2 = .ok (.invokevirtual 113, 3) := by decide +kernel
theorem dX5_greatestGain_5 : decode cX5_greatestGain 5 = .ok (.istore_n 2, 1) := by decide +kernel
theorem dX5_greatestGain_6 : decode cX5_greatestGain 6 = .ok (.iload_n 2, 1) := by decide +kernel
theorem dX5_greatestGain_7 : decode cX5_greatestGain 7 = .ok (.iconst (-1), 1) := by decide +kernel
theorem dX5_greatestGain_8 : decode cX5_greatestGain 8 = .ok (.if_icmp .ne 7, 3) := by decide +kernel
theorem dX5_greatestGain_11 : decode cX5_greatestGain 11 = .ok (.iconst 0, 1) := by decide +kernel
theorem dX5_greatestGain_12 : decode cX5_greatestGain 12 = .ok (.goto 14, 3) := by decide +kernel
theorem dX5_greatestGain_15 : decode cX5_greatestGain 15 = .ok (.aload_n 0, 1) := by decide +kernel
theorem dX5_greatestGain_16 : decode cX5_greatestGain 16 = .ok (.iload_n 1, 1) := by decide +kernel
theorem dX5_greatestGain_17 : decode cX5_greatestGain 17 = .ok (.aload_n 0, 1) := by decide +kernel
theorem dX5_greatestGain_18 : decode cX5_greatestGain 18 = .ok (.getfield 9, 3) := by decide +kernel
theorem dX5_greatestGain_21 : decode cX5_greatestGain 21 = .ok (.iload_n 2, 1) := by decide +kernel
theorem dX5_greatestGain_22 : decode cX5_greatestGain 22 = .ok (.iaload, 1) := by decide +kernel
theorem dX5_greatestGain_23 : decode cX5_greatestGain 23 = .ok (.invokevirtual 92, 3) := by decide +kernel
theorem dX5_greatestGain_26 : decode cX5_greatestGain 26 = .ok (.ireturn, 1) := by decide +kernel
theorem dX5_liveWeeks_0 : decode cX5_liveWeeks 0 = .ok (.iconst 0, 1) := by decide +kernel
theorem dX5_liveWeeks_1 : decode cX5_liveWeeks 1 = .ok (.istore_n 3, 1) := by decide +kernel
theorem dX5_liveWeeks_2 : decode cX5_liveWeeks 2 = .ok (.iconst 0, 1) := by decide +kernel
theorem dX5_liveWeeks_3 : decode cX5_liveWeeks 3 = .ok (.istore 4, 2) := by decide +kernel
theorem dX5_liveWeeks_5 : decode cX5_liveWeeks 5 = .ok (.iload 4, 2) := by decide +kernel
theorem dX5_liveWeeks_7 : decode cX5_liveWeeks 7 = .ok (.iload_n 1, 1) := by decide +kernel
theorem dX5_liveWeeks_8 : decode cX5_liveWeeks 8 = .ok (.if_icmp .ge 64, 3) := by decide +kernel
theorem dX5_liveWeeks_11 : decode cX5_liveWeeks 11 = .ok (.iload_n 2, 1) := by decide +kernel
theorem dX5_liveWeeks_12 : decode cX5_liveWeeks 12 = .ok (.ifCond .eq 14, 3) := by decide +kernel
theorem dX5_liveWeeks_15 : decode cX5_liveWeeks 15 = .ok (.aload_n 0, 1) := by decide +kernel
theorem dX5_liveWeeks_16 : decode cX5_liveWeeks 16 = .ok (.invokevirtual 116, 3) := by decide +kernel
theorem dX5_liveWeeks_19 : decode cX5_liveWeeks 19 = .ok (.ifCond .eq 7, 3) := by decide +kernel
theorem dX5_liveWeeks_22 : decode cX5_liveWeeks 22 = .ok (.iconst 1, 1) := by decide +kernel
theorem dX5_liveWeeks_23 : decode cX5_liveWeeks 23 = .ok (.goto 4, 3) := by decide +kernel
theorem dX5_liveWeeks_26 : decode cX5_liveWeeks 26 = .ok (.iconst 0, 1) := by decide +kernel
theorem dX5_liveWeeks_27 : decode cX5_liveWeeks 27 = .ok (.istore 5, 2) := by decide +kernel
theorem dX5_liveWeeks_29 : decode cX5_liveWeeks 29 = .ok (.iload_n 3, 1) := by decide +kernel
theorem dX5_liveWeeks_30 : decode cX5_liveWeeks 30 = .ok (.aload_n 0, 1) := by decide +kernel
theorem dX5_liveWeeks_31 : decode cX5_liveWeeks 31 = .ok (.invokevirtual 120, 3) := by decide +kernel
theorem dX5_liveWeeks_34 : decode cX5_liveWeeks 34 = .ok (.iadd, 1) := by decide +kernel
theorem dX5_liveWeeks_35 : decode cX5_liveWeeks 35 = .ok (.istore_n 3, 1) := by decide +kernel
theorem dX5_liveWeeks_36 : decode cX5_liveWeeks 36 = .ok (.aload_n 0, 1) := by decide +kernel
theorem dX5_liveWeeks_37 : decode cX5_liveWeeks 37 = .ok (.getfield 82, 3) := by decide +kernel
theorem dX5_liveWeeks_40 : decode cX5_liveWeeks 40 = .ok (.ifCond .ne 26, 3) := by decide +kernel
theorem dX5_liveWeeks_43 : decode cX5_liveWeeks 43 = .ok (.iload 5, 2) := by decide +kernel
theorem dX5_liveWeeks_45 : decode cX5_liveWeeks 45 = .ok (.ifCond .ne 21, 3) := by decide +kernel
theorem dX5_liveWeeks_48 : decode cX5_liveWeeks 48 = .ok (.aload_n 0, 1) := by decide +kernel
theorem dX5_liveWeeks_49 : decode cX5_liveWeeks 49 = .ok (.dup, 1) := by decide +kernel
theorem dX5_liveWeeks_50 : decode cX5_liveWeeks 50 = .ok (.getfield 41, 3) := by decide +kernel
theorem dX5_liveWeeks_53 : decode cX5_liveWeeks 53 = .ok (.iload_n 1, 1) := by decide +kernel
theorem dX5_liveWeeks_54 : decode cX5_liveWeeks 54 = .ok (.iconst 1, 1) := by decide +kernel
theorem dX5_liveWeeks_55 : decode cX5_liveWeeks 55 = .ok (.isub, 1) := by decide +kernel
theorem dX5_liveWeeks_56 : decode cX5_liveWeeks 56 = .ok (.iload 4, 2) := by decide +kernel
theorem dX5_liveWeeks_58 : decode cX5_liveWeeks 58 = .ok (.isub, 1) := by decide +kernel
theorem dX5_liveWeeks_59 : decode cX5_liveWeeks 59 = .ok (.iadd, 1) := by decide +kernel
theorem dX5_liveWeeks_60 : decode cX5_liveWeeks 60 = .ok (.putfield 41, 3) := by decide +kernel
theorem dX5_liveWeeks_63 : decode cX5_liveWeeks 63 = .ok (.goto 9, 3) := by decide +kernel
theorem dX5_liveWeeks_66 : decode cX5_liveWeeks 66 = .ok (.iinc 4 1, 3) := by decide +kernel
theorem dX5_liveWeeks_69 : decode cX5_liveWeeks 69 = .ok (.goto (-64), 3) := by decide +kernel
theorem dX5_liveWeeks_72 : decode cX5_liveWeeks 72 = .ok (.iload_n 3, 1) := by decide +kernel
theorem dX5_liveWeeks_73 : decode cX5_liveWeeks 73 = .ok (.ireturn, 1) := by decide +kernel
theorem dX5_liveWeek_0 : decode cX5_liveWeek 0 = .ok (.iconst 0, 1) := by decide +kernel
theorem dX5_liveWeek_1 : decode cX5_liveWeek 1 = .ok (.istore_n 1, 1) := by decide +kernel
theorem dX5_liveWeek_2 : decode cX5_liveWeek 2 = .ok (.aload_n 0, 1) := by decide +kernel
theorem dX5_liveWeek_3 : decode cX5_liveWeek 3 = .ok (.iconst 0, 1) := by decide +kernel
theorem dX5_liveWeek_4 : decode cX5_liveWeek 4 = .ok (.putfield 82, 3) := by decide +kernel
theorem dX5_liveWeek_7 : decode cX5_liveWeek 7 = .ok (.iconst 0, 1) := by decide +kernel
theorem dX5_liveWeek_8 : decode cX5_liveWeek 8 = .ok (.istore_n 2, 1) := by decide +kernel
theorem dX5_liveWeek_9 : decode cX5_liveWeek 9 = .ok (.iload_n 2, 1) := by decide +kernel
theorem dX5_liveWeek_10 : decode cX5_liveWeek 10 = .ok (.aload_n 0, 1) := by decide +kernel
theorem dX5_liveWeek_11 : decode cX5_liveWeek 11 = .ok (.getfield 33, 3) := by decide +kernel
theorem dX5_liveWeek_14 : decode cX5_liveWeek 14 = .ok (.getfield 101, 3) := by decide +kernel
theorem dX5_liveWeek_17 : decode cX5_liveWeek 17 = .ok (.if_icmp .ge 37, 3) := by decide +kernel
theorem dX5_liveWeek_20 : decode cX5_liveWeek 20 = .ok (.aload_n 0, 1) := by decide +kernel
theorem dX5_liveWeek_21 : decode cX5_liveWeek 21 = .ok (.iload_n 2, 1) := by decide +kernel
theorem dX5_liveWeek_22 : decode cX5_liveWeek 22 = .ok (.invokevirtual 113, 3) := by decide +kernel
theorem dX5_liveWeek_25 : decode cX5_liveWeek 25 = .ok (.istore_n 3, 1) := by decide +kernel
theorem dX5_liveWeek_26 : decode cX5_liveWeek 26 = .ok (.iload_n 3, 1) := by decide +kernel
theorem dX5_liveWeek_27 : decode cX5_liveWeek 27 = .ok (.iconst (-1), 1) := by decide +kernel
theorem dX5_liveWeek_28 : decode cX5_liveWeek 28 = .ok (.if_icmp .eq 15, 3) := by decide +kernel
theorem dX5_liveWeek_31 : decode cX5_liveWeek 31 = .ok (.aload_n 0, 1) := by decide +kernel
theorem dX5_liveWeek_32 : decode cX5_liveWeek 32 = .ok (.iload_n 2, 1) := by decide +kernel
theorem dX5_liveWeek_33 : decode cX5_liveWeek 33 = .ok (.iload_n 3, 1) := by decide +kernel
theorem dX5_liveWeek_34 : decode cX5_liveWeek 34 = .ok (.invokevirtual 124, 3) := by decide +kernel
theorem dX5_liveWeek_37 : decode cX5_liveWeek 37 = .ok (.ifCond .eq 6, 3) := by decide +kernel
theorem dX5_liveWeek_40 : decode cX5_liveWeek 40 = .ok (.iinc 1 1, 3) := by decide +kernel
theorem dX5_liveWeek_43 : decode cX5_liveWeek 43 = .ok (.aload_n 0, 1) := by decide +kernel
theorem dX5_liveWeek_44 : decode cX5_liveWeek 44 = .ok (.iload_n 2, 1) := by decide +kernel
theorem dX5_liveWeek_45 : decode cX5_liveWeek 45 = .ok (.invokevirtual 127, 3) := by decide +kernel
theorem dX5_liveWeek_48 : decode cX5_liveWeek 48 = .ok (.iinc 2 1, 3) := by decide +kernel
theorem dX5_liveWeek_51 : decode cX5_liveWeek 51 = .ok (.goto (-42), 3) := by decide +kernel
theorem dX5_liveWeek_54 : decode cX5_liveWeek 54 = .ok (.aload_n 0, 1) := by decide +kernel
theorem dX5_liveWeek_55 : decode cX5_liveWeek 55 = .ok (.dup, 1) := by decide +kernel
theorem dX5_liveWeek_56 : decode cX5_liveWeek 56 = .ok (.getfield 41, 3) := by decide +kernel
theorem dX5_liveWeek_59 : decode cX5_liveWeek 59 = .ok (.iconst 1, 1) := by decide +kernel
theorem dX5_liveWeek_60 : decode cX5_liveWeek 60 = .ok (.iadd, 1) := by decide +kernel
theorem dX5_liveWeek_61 : decode cX5_liveWeek 61 = .ok (.putfield 41, 3) := by decide +kernel
theorem dX5_liveWeek_64 : decode cX5_liveWeek 64 = .ok (.iload_n 1, 1) := by decide +kernel
theorem dX5_liveWeek_65 : decode cX5_liveWeek 65 = .ok (.ireturn, 1) := by decide +kernel
theorem dX5_throwSpare_0 : decode cX5_throwSpare 0 = .ok (.iconst 0, 1) := by decide +kernel
theorem dX5_throwSpare_1 : decode cX5_throwSpare 1 = .ok (.istore_n 2, 1) := by decide +kernel
theorem dX5_throwSpare_2 : decode cX5_throwSpare 2 = .ok (.iload_n 2, 1) := by decide +kernel
theorem dX5_throwSpare_3 : decode cX5_throwSpare 3 = .ok (.aload_n 0, 1) := by decide +kernel
theorem dX5_throwSpare_4 : decode cX5_throwSpare 4 = .ok (.getfield 37, 3) := by decide +kernel
theorem dX5_throwSpare_7 : decode cX5_throwSpare 7 = .ok (.if_icmp .ge 40, 3) := by decide +kernel
theorem dX5_throwSpare_10 : decode cX5_throwSpare 10 = .ok (.aload_n 0, 1) := by decide +kernel
theorem dX5_throwSpare_11 : decode cX5_throwSpare 11 = .ok (.getfield 15, 3) := by decide +kernel
theorem dX5_throwSpare_14 : decode cX5_throwSpare 14 = .ok (.iload_n 2, 1) := by decide +kernel
theorem dX5_throwSpare_15 : decode cX5_throwSpare 15 = .ok (.iaload, 1) := by decide +kernel
theorem dX5_throwSpare_16 : decode cX5_throwSpare 16 = .ok (.iload_n 1, 1) := by decide +kernel
theorem dX5_throwSpare_17 : decode cX5_throwSpare 17 = .ok (.if_icmp .ne 24, 3) := by decide +kernel
theorem dX5_throwSpare_20 : decode cX5_throwSpare 20 = .ok (.aload_n 0, 1) := by decide +kernel
theorem dX5_throwSpare_21 : decode cX5_throwSpare 21 = .ok (.iload_n 1, 1) := by decide +kernel
theorem dX5_throwSpare_22 : decode cX5_throwSpare 22 = .ok (.aload_n 0, 1) := by decide +kernel
theorem dX5_throwSpare_23 : decode cX5_throwSpare 23 = .ok (.getfield 9, 3) := by decide +kernel
theorem dX5_throwSpare_26 : decode cX5_throwSpare 26 = .ok (.iload_n 2, 1) := by decide +kernel
theorem dX5_throwSpare_27 : decode cX5_throwSpare 27 = .ok (.iaload, 1) := by decide +kernel
theorem dX5_throwSpare_28 : decode cX5_throwSpare 28 = .ok (.invokevirtual 95, 3) := by decide +kernel
theorem dX5_throwSpare_31 : decode cX5_throwSpare 31 = .ok (.ifCond .ne 10, 3) := by decide +kernel
theorem dX5_throwSpare_34 : decode cX5_throwSpare 34 = .ok (.aload_n 0, 1) := by decide +kernel
theorem dX5_throwSpare_35 : decode cX5_throwSpare 35 = .ok (.iload_n 1, 1) := by decide +kernel
theorem dX5_throwSpare_36 : decode cX5_throwSpare 36 = .ok (.iload_n 2, 1) := by decide +kernel
theorem dX5_throwSpare_37 : decode cX5_throwSpare 37 = .ok (.invokevirtual 131, 3) := by decide +kernel
theorem dX5_throwSpare_40 : decode cX5_throwSpare 40 = .ok (.pop, 1) := by decide +kernel
theorem dX5_throwSpare_41 : decode cX5_throwSpare 41 = .ok (.iinc 2 1, 3) := by decide +kernel
theorem dX5_throwSpare_44 : decode cX5_throwSpare 44 = .ok (.goto (-42), 3) := by decide +kernel
theorem dX5_throwSpare_47 : decode cX5_throwSpare 47 = .ok (.return_, 1) := by decide +kernel
theorem dX5_comeByDraw_0 : decode cX5_comeByDraw 0 = .ok (.aload_n 0, 1) := by decide +kernel
theorem dX5_comeByDraw_1 : decode cX5_comeByDraw 1 = .ok (.getfield 37, 3) := by decide +kernel
theorem dX5_comeByDraw_4 : decode cX5_comeByDraw 4 = .ok (.bipush 32, 2) := by decide +kernel
theorem dX5_comeByDraw_6 : decode cX5_comeByDraw 6 = .ok (.if_icmp .ge 26, 3) := by decide +kernel
theorem dX5_comeByDraw_9 : decode cX5_comeByDraw 9 = .ok (.aload_n 0, 1) := by decide +kernel
theorem dX5_comeByDraw_10 : decode cX5_comeByDraw 10 = .ok (.aload_n 0, 1) := by decide +kernel
theorem dX5_comeByDraw_11 : decode cX5_comeByDraw 11 = .ok (.aload_n 0, 1) := by decide +kernel
theorem dX5_comeByDraw_12 : decode cX5_comeByDraw 12 = .ok (.getfield 33, 3) := by decide +kernel
theorem dX5_comeByDraw_15 : decode cX5_comeByDraw 15 = .ok (.getfield 98, 3) := by decide +kernel
theorem dX5_comeByDraw_18 : decode cX5_comeByDraw 18 = .ok (.invokevirtual 134, 3) := by decide +kernel
theorem dX5_comeByDraw_21 : decode cX5_comeByDraw 21 = .ok (.iconst (-1), 1) := by decide +kernel
theorem dX5_comeByDraw_22 : decode cX5_comeByDraw 22 = .ok (.invokevirtual 61, 3) := by decide +kernel
theorem dX5_comeByDraw_25 : decode cX5_comeByDraw 25 = .ok (.ifCond .eq 7, 3) := by decide +kernel
theorem dX5_comeByDraw_28 : decode cX5_comeByDraw 28 = .ok (.iconst 1, 1) := by decide +kernel
theorem dX5_comeByDraw_29 : decode cX5_comeByDraw 29 = .ok (.goto 4, 3) := by decide +kernel
theorem dX5_comeByDraw_32 : decode cX5_comeByDraw 32 = .ok (.iconst 0, 1) := by decide +kernel
theorem dX5_comeByDraw_33 : decode cX5_comeByDraw 33 = .ok (.ireturn, 1) := by decide +kernel
theorem dX5_draw_0 : decode cX5_draw 0 = .ok (.aload_n 0, 1) := by decide +kernel
theorem dX5_draw_1 : decode cX5_draw 1 = .ok (.aload_n 0, 1) := by decide +kernel
theorem dX5_draw_2 : decode cX5_draw 2 = .ok (.getfield 65, 3) := by decide +kernel
theorem dX5_draw_5 : decode cX5_draw 5 = .ok (.i2l, 1) := by decide +kernel
theorem dX5_draw_6 : decode cX5_draw 6 = .ok (.ldc2_w 137, 3) := by decide +kernel
theorem dX5_draw_9 : decode cX5_draw 9 = .ok (.lmul, 1) := by decide +kernel
theorem dX5_draw_10 : decode cX5_draw 10 = .ok (.ldc2_w 139, 3) := by decide +kernel
theorem dX5_draw_13 : decode cX5_draw 13 = .ok (.ladd, 1) := by decide +kernel
theorem dX5_draw_14 : decode cX5_draw 14 = .ok (.ldc2_w 141, 3) := by decide +kernel
theorem dX5_draw_17 : decode cX5_draw 17 = .ok (.land, 1) := by decide +kernel
theorem dX5_draw_18 : decode cX5_draw 18 = .ok (.l2i, 1) := by decide +kernel
theorem dX5_draw_19 : decode cX5_draw 19 = .ok (.putfield 65, 3) := by decide +kernel
theorem dX5_draw_22 : decode cX5_draw 22 = .ok (.iload_n 1, 1) := by decide +kernel
theorem dX5_draw_23 : decode cX5_draw 23 = .ok (.ifCond .le 15, 3) := by decide +kernel
theorem dX5_draw_26 : decode cX5_draw 26 = .ok (.aload_n 0, 1) := by decide +kernel
theorem dX5_draw_27 : decode cX5_draw 27 = .ok (.getfield 65, 3) := by decide +kernel
theorem dX5_draw_30 : decode cX5_draw 30 = .ok (.ldc 143, 2) := by decide +kernel
theorem dX5_draw_32 : decode cX5_draw 32 = .ok (.idiv, 1) := by decide +kernel
theorem dX5_draw_33 : decode cX5_draw 33 = .ok (.iload_n 1, 1) := by decide +kernel
theorem dX5_draw_34 : decode cX5_draw 34 = .ok (.irem, 1) := by decide +kernel
theorem dX5_draw_35 : decode cX5_draw 35 = .ok (.goto 4, 3) := by decide +kernel
theorem dX5_draw_38 : decode cX5_draw 38 = .ok (.iconst 0, 1) := by decide +kernel
theorem dX5_draw_39 : decode cX5_draw 39 = .ok (.ireturn, 1) := by decide +kernel
end
section
theorem dX6_init_0 : decode cX6_init 0 = .ok (.aload_n 0, 1) := by decide +kernel
theorem dX6_init_1 : decode cX6_init 1 = .ok (.invokespecial 3, 3) := by decide +kernel
theorem dX6_init_4 : decode cX6_init 4 = .ok (.aload_n 0, 1) := by decide +kernel
theorem dX6_init_5 : decode cX6_init 5 = .ok (.iconst 2, 1) := by decide +kernel
theorem dX6_init_6 : decode cX6_init 6 = .ok (.newarray .int, 2) := by decide +kernel
theorem dX6_init_8 : decode cX6_init 8 = .ok (.putfield 9, 3) := by decide +kernel
theorem dX6_init_11 : decode cX6_init 11 = .ok (.aload_n 0, 1) := by decide +kernel
theorem dX6_init_12 : decode cX6_init 12 = .ok (.iconst 2, 1) := by decide +kernel
theorem dX6_init_13 : decode cX6_init 13 = .ok (.newarray .int, 2) := by decide +kernel
theorem dX6_init_15 : decode cX6_init 15 = .ok (.putfield 15, 3) := by decide +kernel
theorem dX6_init_18 : decode cX6_init 18 = .ok (.aload_n 0, 1) := by decide +kernel
theorem dX6_init_19 : decode cX6_init 19 = .ok (.iconst 2, 1) := by decide +kernel
theorem dX6_init_20 : decode cX6_init 20 = .ok (.newarray .int, 2) := by decide +kernel
theorem dX6_init_22 : decode cX6_init 22 = .ok (.putfield 18, 3) := by decide +kernel
theorem dX6_init_25 : decode cX6_init 25 = .ok (.aload_n 0, 1) := by decide +kernel
theorem dX6_init_26 : decode cX6_init 26 = .ok (.bipush 6, 2) := by decide +kernel
theorem dX6_init_28 : decode cX6_init 28 = .ok (.newarray .int, 2) := by decide +kernel
theorem dX6_init_30 : decode cX6_init 30 = .ok (.putfield 21, 3) := by decide +kernel
theorem dX6_init_33 : decode cX6_init 33 = .ok (.aload_n 0, 1) := by decide +kernel
theorem dX6_init_34 : decode cX6_init 34 = .ok (.bipush 6, 2) := by decide +kernel
theorem dX6_init_36 : decode cX6_init 36 = .ok (.newarray .int, 2) := by decide +kernel
theorem dX6_init_38 : decode cX6_init 38 = .ok (.putfield 24, 3) := by decide +kernel
theorem dX6_init_41 : decode cX6_init 41 = .ok (.aload_n 0, 1) := by decide +kernel
theorem dX6_init_42 : decode cX6_init 42 = .ok (.aload_n 1, 1) := by decide +kernel
theorem dX6_init_43 : decode cX6_init 43 = .ok (.putfield 27, 3) := by decide +kernel
theorem dX6_init_46 : decode cX6_init 46 = .ok (.return_, 1) := by decide +kernel
theorem dX6_setUp_0 : decode cX6_setUp 0 = .ok (.aload_n 0, 1) := by decide +kernel
theorem dX6_setUp_1 : decode cX6_setUp 1 = .ok (.getfield 9, 3) := by decide +kernel
theorem dX6_setUp_4 : decode cX6_setUp 4 = .ok (.iconst 0, 1) := by decide +kernel
theorem dX6_setUp_5 : decode cX6_setUp 5 = .ok (.iload_n 1, 1) := by decide +kernel
theorem dX6_setUp_6 : decode cX6_setUp 6 = .ok (.iastore, 1) := by decide +kernel
theorem dX6_setUp_7 : decode cX6_setUp 7 = .ok (.aload_n 0, 1) := by decide +kernel
theorem dX6_setUp_8 : decode cX6_setUp 8 = .ok (.getfield 9, 3) := by decide +kernel
theorem dX6_setUp_11 : decode cX6_setUp 11 = .ok (.iconst 1, 1) := by decide +kernel
theorem dX6_setUp_12 : decode cX6_setUp 12 = .ok (.iload_n 2, 1) := by decide +kernel
theorem dX6_setUp_13 : decode cX6_setUp 13 = .ok (.iastore, 1) := by decide +kernel
theorem dX6_setUp_14 : decode cX6_setUp 14 = .ok (.iconst 0, 1) := by decide +kernel
theorem dX6_setUp_15 : decode cX6_setUp 15 = .ok (.istore 4, 2) := by decide +kernel
theorem dX6_setUp_17 : decode cX6_setUp 17 = .ok (.iload 4, 2) := by decide +kernel
theorem dX6_setUp_19 : decode cX6_setUp 19 = .ok (.iconst 2, 1) := by decide +kernel
theorem dX6_setUp_20 : decode cX6_setUp 20 = .ok (.if_icmp .ge 54, 3) := by decide +kernel
theorem dX6_setUp_23 : decode cX6_setUp 23 = .ok (.aload_n 0, 1) := by decide +kernel
theorem dX6_setUp_24 : decode cX6_setUp 24 = .ok (.getfield 15, 3) := by decide +kernel
theorem dX6_setUp_27 : decode cX6_setUp 27 = .ok (.iload 4, 2) := by decide +kernel
theorem dX6_setUp_29 : decode cX6_setUp 29 = .ok (.iconst 4, 1) := by decide +kernel
theorem dX6_setUp_30 : decode cX6_setUp 30 = .ok (.aload_n 0, 1) := by decide +kernel
theorem dX6_setUp_31 : decode cX6_setUp 31 = .ok (.getfield 27, 3) := by decide +kernel
theorem dX6_setUp_34 : decode cX6_setUp 34 = .ok (.getfield 31, 3) := by decide +kernel
theorem dX6_setUp_37 : decode cX6_setUp 37 = .ok (.aload_n 0, 1) := by decide +kernel
theorem dX6_setUp_38 : decode cX6_setUp 38 = .ok (.getfield 9, 3) := by decide +kernel
theorem dX6_setUp_41 : decode cX6_setUp 41 = .ok (.iload 4, 2) := by decide +kernel
theorem dX6_setUp_43 : decode cX6_setUp 43 = .ok (.iaload, 1) := by decide +kernel
theorem dX6_setUp_44 : decode cX6_setUp 44 = .ok (.iaload, 1) := by decide +kernel
theorem dX6_setUp_45 : decode cX6_setUp 45 = .ok (.isub, 1) := by decide +kernel
theorem dX6_setUp_46 : decode cX6_setUp 46 = .ok (.iastore, 1) := by decide +kernel
theorem dX6_setUp_47 : decode cX6_setUp 47 = .ok (.aload_n 0, 1) := by decide +kernel
theorem dX6_setUp_48 : decode cX6_setUp 48 = .ok (.getfield 18, 3) := by decide +kernel
theorem dX6_setUp_51 : decode cX6_setUp 51 = .ok (.iload 4, 2) := by decide +kernel
theorem dX6_setUp_53 : decode cX6_setUp 53 = .ok (.aload_n 0, 1) := by decide +kernel
theorem dX6_setUp_54 : decode cX6_setUp 54 = .ok (.getfield 27, 3) := by decide +kernel
theorem dX6_setUp_57 : decode cX6_setUp 57 = .ok (.aload_n 0, 1) := by decide +kernel
theorem dX6_setUp_58 : decode cX6_setUp 58 = .ok (.getfield 9, 3) := by decide +kernel
theorem dX6_setUp_61 : decode cX6_setUp 61 = .ok (.iload 4, 2) := by decide +kernel
theorem dX6_setUp_63 : decode cX6_setUp 63 = .ok (.iaload, 1) := by decide +kernel
theorem dX6_setUp_64 : decode cX6_setUp 64 = .ok (.invokevirtual 36, 3) := by decide +kernel
theorem dX6_setUp_67 : decode cX6_setUp 67 = .ok (.iastore, 1) := by decide +kernel
theorem dX6_setUp_68 : decode cX6_setUp 68 = .ok (.iinc 4 1, 3) := by decide +kernel
theorem dX6_setUp_71 : decode cX6_setUp 71 = .ok (.goto (-54), 3) := by decide +kernel
theorem dX6_setUp_74 : decode cX6_setUp 74 = .ok (.aload_n 0, 1) := by decide +kernel
theorem dX6_setUp_75 : decode cX6_setUp 75 = .ok (.getfield 21, 3) := by decide +kernel
theorem dX6_setUp_78 : decode cX6_setUp 78 = .ok (.iconst 0, 1) := by decide +kernel
theorem dX6_setUp_79 : decode cX6_setUp 79 = .ok (.invokestatic 40, 3) := by decide +kernel
theorem dX6_setUp_82 : decode cX6_setUp 82 = .ok (.iconst 0, 1) := by decide +kernel
theorem dX6_setUp_83 : decode cX6_setUp 83 = .ok (.istore 4, 2) := by decide +kernel
theorem dX6_setUp_85 : decode cX6_setUp 85 = .ok (.iconst 0, 1) := by decide +kernel
theorem dX6_setUp_86 : decode cX6_setUp 86 = .ok (.istore 5, 2) := by decide +kernel
theorem dX6_setUp_88 : decode cX6_setUp 88 = .ok (.iload 5, 2) := by decide +kernel
theorem dX6_setUp_90 : decode cX6_setUp 90 = .ok (.aload_n 0, 1) := by decide +kernel
theorem dX6_setUp_91 : decode cX6_setUp 91 = .ok (.getfield 27, 3) := by decide +kernel
theorem dX6_setUp_94 : decode cX6_setUp 94 = .ok (.getfield 46, 3) := by decide +kernel
theorem dX6_setUp_97 : decode cX6_setUp 97 = .ok (.if_icmp .ge 97, 3) := by decide +kernel
theorem dX6_setUp_100 : decode cX6_setUp 100 = .ok (.iload 4, 2) := by decide +kernel
theorem dX6_setUp_102 : decode cX6_setUp 102 = .ok (.bipush 8, 2) := by decide +kernel
theorem dX6_setUp_104 : decode cX6_setUp 104 = .ok (.if_icmp .ge 90, 3) := by decide +kernel
theorem dX6_setUp_107 : decode cX6_setUp 107 = .ok (.aload_n 0, 1) := by decide +kernel
theorem dX6_setUp_108 : decode cX6_setUp 108 = .ok (.getfield 27, 3) := by decide +kernel
theorem dX6_setUp_111 : decode cX6_setUp 111 = .ok (.iload 5, 2) := by decide +kernel
theorem dX6_setUp_113 : decode cX6_setUp 113 = .ok (.invokevirtual 50, 3) := by decide +kernel
theorem dX6_setUp_116 : decode cX6_setUp 116 = .ok (.ifCond .eq 72, 3) := by decide +kernel
theorem dX6_setUp_119 : decode cX6_setUp 119 = .ok (.aload_n 0, 1) := by decide +kernel
theorem dX6_setUp_120 : decode cX6_setUp 120 = .ok (.getfield 27, 3) := by decide +kernel
theorem dX6_setUp_123 : decode cX6_setUp 123 = .ok (.getfield 54, 3) := by decide +kernel
theorem dX6_setUp_126 : decode cX6_setUp 126 = .ok (.iload 5, 2) := by decide +kernel
theorem dX6_setUp_128 : decode cX6_setUp 128 = .ok (.iaload, 1) := by decide +kernel
theorem dX6_setUp_129 : decode cX6_setUp 129 = .ok (.iload_n 3, 1) := by decide +kernel
theorem dX6_setUp_130 : decode cX6_setUp 130 = .ok (.if_icmp .ne 58, 3) := by decide +kernel
theorem dX6_setUp_133 : decode cX6_setUp 133 = .ok (.aload_n 0, 1) := by decide +kernel
theorem dX6_setUp_134 : decode cX6_setUp 134 = .ok (.getfield 27, 3) := by decide +kernel
theorem dX6_setUp_137 : decode cX6_setUp 137 = .ok (.getfield 57, 3) := by decide +kernel
theorem dX6_setUp_140 : decode cX6_setUp 140 = .ok (.iload 5, 2) := by decide +kernel
theorem dX6_setUp_142 : decode cX6_setUp 142 = .ok (.iaload, 1) := by decide +kernel
theorem dX6_setUp_143 : decode cX6_setUp 143 = .ok (.istore 6, 2) := by decide +kernel
theorem dX6_setUp_145 : decode cX6_setUp 145 = .ok (.aload_n 0, 1) := by decide +kernel
theorem dX6_setUp_146 : decode cX6_setUp 146 = .ok (.getfield 24, 3) := by decide +kernel
theorem dX6_setUp_149 : decode cX6_setUp 149 = .ok (.iload 6, 2) := by decide +kernel
theorem dX6_setUp_151 : decode cX6_setUp 151 = .ok (.aload_n 0, 1) := by decide +kernel
theorem dX6_setUp_152 : decode cX6_setUp 152 = .ok (.getfield 21, 3) := by decide +kernel
theorem dX6_setUp_155 : decode cX6_setUp 155 = .ok (.iload 6, 2) := by decide +kernel
theorem dX6_setUp_157 : decode cX6_setUp 157 = .ok (.iaload, 1) := by decide +kernel
theorem dX6_setUp_158 : decode cX6_setUp 158 = .ok (.ifCond .ne 8, 3) := by decide +kernel
theorem dX6_setUp_161 : decode cX6_setUp 161 = .ok (.iload 5, 2) := by decide +kernel
theorem dX6_setUp_163 : decode cX6_setUp 163 = .ok (.goto 10, 3) := by decide +kernel
theorem dX6_setUp_166 : decode cX6_setUp 166 = .ok (.aload_n 0, 1) := by decide +kernel
theorem dX6_setUp_167 : decode cX6_setUp 167 = .ok (.getfield 24, 3) := by decide +kernel
theorem dX6_setUp_170 : decode cX6_setUp 170 = .ok (.iload 6, 2) := by decide +kernel
theorem dX6_setUp_172 : decode cX6_setUp 172 = .ok (.iaload, 1) := by decide +kernel
theorem dX6_setUp_173 : decode cX6_setUp 173 = .ok (.iastore, 1) := by decide +kernel
theorem dX6_setUp_174 : decode cX6_setUp 174 = .ok (.aload_n 0, 1) := by decide +kernel
theorem dX6_setUp_175 : decode cX6_setUp 175 = .ok (.getfield 21, 3) := by decide +kernel
theorem dX6_setUp_178 : decode cX6_setUp 178 = .ok (.iload 6, 2) := by decide +kernel
theorem dX6_setUp_180 : decode cX6_setUp 180 = .ok (.dup2, 1) := by decide +kernel
theorem dX6_setUp_181 : decode cX6_setUp 181 = .ok (.iaload, 1) := by decide +kernel
theorem dX6_setUp_182 : decode cX6_setUp 182 = .ok (.iconst 1, 1) := by decide +kernel
theorem dX6_setUp_183 : decode cX6_setUp 183 = .ok (.iadd, 1) := by decide +kernel
theorem dX6_setUp_184 : decode cX6_setUp 184 = .ok (.iastore, 1) := by decide +kernel
theorem dX6_setUp_185 : decode cX6_setUp 185 = .ok (.iinc 4 1, 3) := by decide +kernel
theorem dX6_setUp_188 : decode cX6_setUp 188 = .ok (.iinc 5 1, 3) := by decide +kernel
theorem dX6_setUp_191 : decode cX6_setUp 191 = .ok (.goto (-103), 3) := by decide +kernel
theorem dX6_setUp_194 : decode cX6_setUp 194 = .ok (.return_, 1) := by decide +kernel
theorem dX6_playOut_0 : decode cX6_playOut 0 = .ok (.aload_n 0, 1) := by decide +kernel
theorem dX6_playOut_1 : decode cX6_playOut 1 = .ok (.getfield 27, 3) := by decide +kernel
theorem dX6_playOut_4 : decode cX6_playOut 4 = .ok (.aload_n 0, 1) := by decide +kernel
theorem dX6_playOut_5 : decode cX6_playOut 5 = .ok (.getfield 9, 3) := by decide +kernel
theorem dX6_playOut_8 : decode cX6_playOut 8 = .ok (.iconst 0, 1) := by decide +kernel
theorem dX6_playOut_9 : decode cX6_playOut 9 = .ok (.iaload, 1) := by decide +kernel
theorem dX6_playOut_10 : decode cX6_playOut 10 = .ok (.invokevirtual 60, 3) := by decide +kernel
theorem dX6_playOut_13 : decode cX6_playOut 13 = .ok (.aload_n 0, 1) := by decide +kernel
theorem dX6_playOut_14 : decode cX6_playOut 14 = .ok (.getfield 27, 3) := by decide +kernel
theorem dX6_playOut_17 : decode cX6_playOut 17 = .ok (.aload_n 0, 1) := by decide +kernel
theorem dX6_playOut_18 : decode cX6_playOut 18 = .ok (.getfield 9, 3) := by decide +kernel
theorem dX6_playOut_21 : decode cX6_playOut 21 = .ok (.iconst 1, 1) := by decide +kernel
theorem dX6_playOut_22 : decode cX6_playOut 22 = .ok (.iaload, 1) := by decide +kernel
theorem dX6_playOut_23 : decode cX6_playOut 23 = .ok (.invokevirtual 60, 3) := by decide +kernel
theorem dX6_playOut_26 : decode cX6_playOut 26 = .ok (.isub, 1) := by decide +kernel
theorem dX6_playOut_27 : decode cX6_playOut 27 = .ok (.istore_n 2, 1) := by decide +kernel
theorem dX6_playOut_28 : decode cX6_playOut 28 = .ok (.aload_n 0, 1) := by decide +kernel
theorem dX6_playOut_29 : decode cX6_playOut 29 = .ok (.iconst (-1), 1) := by decide +kernel
theorem dX6_playOut_30 : decode cX6_playOut 30 = .ok (.putfield 63, 3) := by decide +kernel
theorem dX6_playOut_33 : decode cX6_playOut 33 = .ok (.iload_n 1, 1) := by decide +kernel
theorem dX6_playOut_34 : decode cX6_playOut 34 = .ok (.ifCond .gt 5, 3) := by decide +kernel
theorem dX6_playOut_37 : decode cX6_playOut 37 = .ok (.iload_n 2, 1) := by decide +kernel
theorem dX6_playOut_38 : decode cX6_playOut 38 = .ok (.ireturn, 1) := by decide +kernel
theorem dX6_playOut_39 : decode cX6_playOut 39 = .ok (.aload_n 0, 1) := by decide +kernel
theorem dX6_playOut_40 : decode cX6_playOut 40 = .ok (.iload_n 1, 1) := by decide +kernel
theorem dX6_playOut_41 : decode cX6_playOut 41 = .ok (.iconst 1, 1) := by decide +kernel
theorem dX6_playOut_42 : decode cX6_playOut 42 = .ok (.isub, 1) := by decide +kernel
theorem dX6_playOut_43 : decode cX6_playOut 43 = .ok (.iconst 1, 1) := by decide +kernel
theorem dX6_playOut_44 : decode cX6_playOut 44 = .ok (.invokevirtual 66, 3) := by decide +kernel
theorem dX6_playOut_47 : decode cX6_playOut 47 = .ok (.ineg, 1) := by decide +kernel
theorem dX6_playOut_48 : decode cX6_playOut 48 = .ok (.istore_n 3, 1) := by decide +kernel
theorem dX6_playOut_49 : decode cX6_playOut 49 = .ok (.iconst 0, 1) := by decide +kernel
theorem dX6_playOut_50 : decode cX6_playOut 50 = .ok (.istore 4, 2) := by decide +kernel
theorem dX6_playOut_52 : decode cX6_playOut 52 = .ok (.iload 4, 2) := by decide +kernel
theorem dX6_playOut_54 : decode cX6_playOut 54 = .ok (.bipush 6, 2) := by decide +kernel
theorem dX6_playOut_56 : decode cX6_playOut 56 = .ok (.if_icmp .ge 98, 3) := by decide +kernel
theorem dX6_playOut_59 : decode cX6_playOut 59 = .ok (.aload_n 0, 1) := by decide +kernel
theorem dX6_playOut_60 : decode cX6_playOut 60 = .ok (.getfield 21, 3) := by decide +kernel
theorem dX6_playOut_63 : decode cX6_playOut 63 = .ok (.iload 4, 2) := by decide +kernel
theorem dX6_playOut_65 : decode cX6_playOut 65 = .ok (.iaload, 1) := by decide +kernel
theorem dX6_playOut_66 : decode cX6_playOut 66 = .ok (.ifCond .le 82, 3) := by decide +kernel
theorem dX6_playOut_69 : decode cX6_playOut 69 = .ok (.aload_n 0, 1) := by decide +kernel
theorem dX6_playOut_70 : decode cX6_playOut 70 = .ok (.getfield 15, 3) := by decide +kernel
theorem dX6_playOut_73 : decode cX6_playOut 73 = .ok (.iconst 0, 1) := by decide +kernel
theorem dX6_playOut_74 : decode cX6_playOut 74 = .ok (.iaload, 1) := by decide +kernel
theorem dX6_playOut_75 : decode cX6_playOut 75 = .ok (.ifCond .le 73, 3) := by decide +kernel
theorem dX6_playOut_78 : decode cX6_playOut 78 = .ok (.aload_n 0, 1) := by decide +kernel
theorem dX6_playOut_79 : decode cX6_playOut 79 = .ok (.iload 4, 2) := by decide +kernel
theorem dX6_playOut_81 : decode cX6_playOut 81 = .ok (.iload_n 1, 1) := by decide +kernel
theorem dX6_playOut_82 : decode cX6_playOut 82 = .ok (.iconst 0, 1) := by decide +kernel
theorem dX6_playOut_83 : decode cX6_playOut 83 = .ok (.invokevirtual 70, 3) := by decide +kernel
theorem dX6_playOut_86 : decode cX6_playOut 86 = .ok (.istore 5, 2) := by decide +kernel
theorem dX6_playOut_88 : decode cX6_playOut 88 = .ok (.aload_n 0, 1) := by decide +kernel
theorem dX6_playOut_89 : decode cX6_playOut 89 = .ok (.getfield 63, 3) := by decide +kernel
theorem dX6_playOut_92 : decode cX6_playOut 92 = .ok (.iconst (-1), 1) := by decide +kernel
theorem dX6_playOut_93 : decode cX6_playOut 93 = .ok (.if_icmp .eq 21, 3) := by decide +kernel
theorem dX6_playOut_96 : decode cX6_playOut 96 = .ok (.aload_n 0, 1) := by decide +kernel
theorem dX6_playOut_97 : decode cX6_playOut 97 = .ok (.getfield 24, 3) := by decide +kernel
theorem dX6_playOut_100 : decode cX6_playOut 100 = .ok (.iload 4, 2) := by decide +kernel
theorem dX6_playOut_102 : decode cX6_playOut 102 = .ok (.iaload, 1) := by decide +kernel
theorem dX6_playOut_103 : decode cX6_playOut 103 = .ok (.aload_n 0, 1) := by decide +kernel
theorem dX6_playOut_104 : decode cX6_playOut 104 = .ok (.getfield 63, 3) := by decide +kernel
theorem dX6_playOut_107 : decode cX6_playOut 107 = .ok (.if_icmp .ge 7, 3) := by decide +kernel
theorem dX6_playOut_110 : decode cX6_playOut 110 = .ok (.iconst 1, 1) := by decide +kernel
theorem dX6_playOut_111 : decode cX6_playOut 111 = .ok (.goto 4, 3) := by decide +kernel
theorem dX6_playOut_114 : decode cX6_playOut 114 = .ok (.iconst 0, 1) := by decide +kernel
theorem dX6_playOut_115 : decode cX6_playOut 115 = .ok (.istore 6, 2) := by decide +kernel
theorem dX6_playOut_117 : decode cX6_playOut 117 = .ok (.iload 5, 2) := by decide +kernel
theorem dX6_playOut_119 : decode cX6_playOut 119 = .ok (.iload_n 3, 1) := by decide +kernel
theorem dX6_playOut_120 : decode cX6_playOut 120 = .ok (.if_icmp .gt 14, 3) := by decide +kernel
theorem dX6_playOut_123 : decode cX6_playOut 123 = .ok (.iload 5, 2) := by decide +kernel
theorem dX6_playOut_125 : decode cX6_playOut 125 = .ok (.iload_n 3, 1) := by decide +kernel
theorem dX6_playOut_126 : decode cX6_playOut 126 = .ok (.if_icmp .ne 22, 3) := by decide +kernel
theorem dX6_playOut_129 : decode cX6_playOut 129 = .ok (.iload 6, 2) := by decide +kernel
theorem dX6_playOut_131 : decode cX6_playOut 131 = .ok (.ifCond .eq 17, 3) := by decide +kernel
theorem dX6_playOut_134 : decode cX6_playOut 134 = .ok (.iload 5, 2) := by decide +kernel
theorem dX6_playOut_136 : decode cX6_playOut 136 = .ok (.istore_n 3, 1) := by decide +kernel
theorem dX6_playOut_137 : decode cX6_playOut 137 = .ok (.aload_n 0, 1) := by decide +kernel
theorem dX6_playOut_138 : decode cX6_playOut 138 = .ok (.aload_n 0, 1) := by decide +kernel
theorem dX6_playOut_139 : decode cX6_playOut 139 = .ok (.getfield 24, 3) := by decide +kernel
theorem dX6_playOut_142 : decode cX6_playOut 142 = .ok (.iload 4, 2) := by decide +kernel
theorem dX6_playOut_144 : decode cX6_playOut 144 = .ok (.iaload, 1) := by decide +kernel
theorem dX6_playOut_145 : decode cX6_playOut 145 = .ok (.putfield 63, 3) := by decide +kernel
theorem dX6_playOut_148 : decode cX6_playOut 148 = .ok (.iinc 4 1, 3) := by decide +kernel
theorem dX6_playOut_151 : decode cX6_playOut 151 = .ok (.goto (-99), 3) := by decide +kernel
theorem dX6_playOut_154 : decode cX6_playOut 154 = .ok (.iload_n 2, 1) := by decide +kernel
theorem dX6_playOut_155 : decode cX6_playOut 155 = .ok (.iload_n 3, 1) := by decide +kernel
theorem dX6_playOut_156 : decode cX6_playOut 156 = .ok (.iadd, 1) := by decide +kernel
theorem dX6_playOut_157 : decode cX6_playOut 157 = .ok (.ireturn, 1) := by decide +kernel
theorem dX6_bestOf_0 : decode cX6_bestOf 0 = .ok (.iload_n 1, 1) := by decide +kernel
theorem dX6_bestOf_1 : decode cX6_bestOf 1 = .ok (.ifCond .gt 5, 3) := by decide +kernel
theorem dX6_bestOf_4 : decode cX6_bestOf 4 = .ok (.iconst 0, 1) := by decide +kernel
theorem dX6_bestOf_5 : decode cX6_bestOf 5 = .ok (.ireturn, 1) := by decide +kernel
theorem dX6_bestOf_6 : decode cX6_bestOf 6 = .ok (.aload_n 0, 1) := by decide +kernel
theorem dX6_bestOf_7 : decode cX6_bestOf 7 = .ok (.iload_n 1, 1) := by decide +kernel
theorem dX6_bestOf_8 : decode cX6_bestOf 8 = .ok (.iconst 1, 1) := by decide +kernel
theorem dX6_bestOf_9 : decode cX6_bestOf 9 = .ok (.isub, 1) := by decide +kernel
theorem dX6_bestOf_10 : decode cX6_bestOf 10 = .ok (.iconst 1, 1) := by decide +kernel
theorem dX6_bestOf_11 : decode cX6_bestOf 11 = .ok (.iload_n 2, 1) := by decide +kernel
theorem dX6_bestOf_12 : decode cX6_bestOf 12 = .ok (.isub, 1) := by decide +kernel
theorem dX6_bestOf_13 : decode cX6_bestOf 13 = .ok (.invokevirtual 66, 3) := by decide +kernel
theorem dX6_bestOf_16 : decode cX6_bestOf 16 = .ok (.ineg, 1) := by decide +kernel
theorem dX6_bestOf_17 : decode cX6_bestOf 17 = .ok (.istore_n 3, 1) := by decide +kernel
theorem dX6_bestOf_18 : decode cX6_bestOf 18 = .ok (.iconst 0, 1) := by decide +kernel
theorem dX6_bestOf_19 : decode cX6_bestOf 19 = .ok (.istore 4, 2) := by decide +kernel
theorem dX6_bestOf_21 : decode cX6_bestOf 21 = .ok (.iload 4, 2) := by decide +kernel
theorem dX6_bestOf_23 : decode cX6_bestOf 23 = .ok (.bipush 6, 2) := by decide +kernel
theorem dX6_bestOf_25 : decode cX6_bestOf 25 = .ok (.if_icmp .ge 41, 3) := by decide +kernel
theorem dX6_bestOf_28 : decode cX6_bestOf 28 = .ok (.aload_n 0, 1) := by decide +kernel
theorem dX6_bestOf_29 : decode cX6_bestOf 29 = .ok (.getfield 21, 3) := by decide +kernel
theorem dX6_bestOf_32 : decode cX6_bestOf 32 = .ok (.iload 4, 2) := by decide +kernel
theorem dX6_bestOf_34 : decode cX6_bestOf 34 = .ok (.iaload, 1) := by decide +kernel
theorem dX6_bestOf_35 : decode cX6_bestOf 35 = .ok (.ifCond .le 25, 3) := by decide +kernel
theorem dX6_bestOf_38 : decode cX6_bestOf 38 = .ok (.aload_n 0, 1) := by decide +kernel
theorem dX6_bestOf_39 : decode cX6_bestOf 39 = .ok (.getfield 15, 3) := by decide +kernel
theorem dX6_bestOf_42 : decode cX6_bestOf 42 = .ok (.iload_n 2, 1) := by decide +kernel
theorem dX6_bestOf_43 : decode cX6_bestOf 43 = .ok (.iaload, 1) := by decide +kernel
theorem dX6_bestOf_44 : decode cX6_bestOf 44 = .ok (.ifCond .le 16, 3) := by decide +kernel
theorem dX6_bestOf_47 : decode cX6_bestOf 47 = .ok (.iload_n 3, 1) := by decide +kernel
theorem dX6_bestOf_48 : decode cX6_bestOf 48 = .ok (.aload_n 0, 1) := by decide +kernel
theorem dX6_bestOf_49 : decode cX6_bestOf 49 = .ok (.iload 4, 2) := by decide +kernel
theorem dX6_bestOf_51 : decode cX6_bestOf 51 = .ok (.iload_n 1, 1) := by decide +kernel
theorem dX6_bestOf_52 : decode cX6_bestOf 52 = .ok (.iload_n 2, 1) := by decide +kernel
theorem dX6_bestOf_53 : decode cX6_bestOf 53 = .ok (.invokevirtual 70, 3) := by decide +kernel
theorem dX6_bestOf_56 : decode cX6_bestOf 56 = .ok (.invokestatic 74, 3) := by decide +kernel
theorem dX6_bestOf_59 : decode cX6_bestOf 59 = .ok (.istore_n 3, 1) := by decide +kernel
theorem dX6_bestOf_60 : decode cX6_bestOf 60 = .ok (.iinc 4 1, 3) := by decide +kernel
theorem dX6_bestOf_63 : decode cX6_bestOf 63 = .ok (.goto (-42), 3) := by decide +kernel
theorem dX6_bestOf_66 : decode cX6_bestOf 66 = .ok (.iload_n 3, 1) := by decide +kernel
theorem dX6_bestOf_67 : decode cX6_bestOf 67 = .ok (.ireturn, 1) := by decide +kernel
theorem dX6_valueOfTaking_0 : decode cX6_valueOfTaking 0 = .ok (.aload_n 0, 1) := by decide +kernel
theorem dX6_valueOfTaking_1 : decode cX6_valueOfTaking 1 = .ok (.getfield 18, 3) := by decide +kernel
theorem dX6_valueOfTaking_4 : decode cX6_valueOfTaking 4 = .ok (.iload_n 3, 1) := by decide +kernel
theorem dX6_valueOfTaking_5 : decode cX6_valueOfTaking 5 = .ok (.iaload, 1) := by decide +kernel
theorem dX6_valueOfTaking_6 : decode cX6_valueOfTaking 6 = .ok (.istore 4, 2) := by decide +kernel
theorem dX6_valueOfTaking_8 : decode cX6_valueOfTaking 8 = .ok (.iload 4, 2) := by decide +kernel
theorem dX6_valueOfTaking_10 : decode cX6_valueOfTaking 10 = .ok (.iload_n 1, 1) := by decide +kernel
theorem dX6_valueOfTaking_11 : decode cX6_valueOfTaking 11 = .ok (.ishr, 1) := by decide +kernel
theorem dX6_valueOfTaking_12 : decode cX6_valueOfTaking 12 = .ok (.iconst 1, 1) := by decide +kernel
theorem dX6_valueOfTaking_13 : decode cX6_valueOfTaking 13 = .ok (.iand, 1) := by decide +kernel
theorem dX6_valueOfTaking_14 : decode cX6_valueOfTaking 14 = .ok (.ifCond .ne 23, 3) := by decide +kernel
theorem dX6_valueOfTaking_17 : decode cX6_valueOfTaking 17 = .ok (.aload_n 0, 1) := by decide +kernel
theorem dX6_valueOfTaking_18 : decode cX6_valueOfTaking 18 = .ok (.getfield 27, 3) := by decide +kernel
theorem dX6_valueOfTaking_21 : decode cX6_valueOfTaking 21 = .ok (.getfield 79, 3) := by decide +kernel
theorem dX6_valueOfTaking_24 : decode cX6_valueOfTaking 24 = .ok (.aload_n 0, 1) := by decide +kernel
theorem dX6_valueOfTaking_25 : decode cX6_valueOfTaking 25 = .ok (.getfield 9, 3) := by decide +kernel
theorem dX6_valueOfTaking_28 : decode cX6_valueOfTaking 28 = .ok (.iload_n 3, 1) := by decide +kernel
theorem dX6_valueOfTaking_29 : decode cX6_valueOfTaking 29 = .ok (.iaload, 1) := by decide +kernel
theorem dX6_valueOfTaking_30 : decode cX6_valueOfTaking 30 = .ok (.iload_n 1, 1) := by decide +kernel
theorem dX6_valueOfTaking_31 : decode cX6_valueOfTaking 31 = .ok (.invokevirtual 83, 3) := by decide +kernel
theorem dX6_valueOfTaking_34 : decode cX6_valueOfTaking 34 = .ok (.goto 4, 3) := by decide +kernel
theorem dX6_valueOfTaking_37 : decode cX6_valueOfTaking 37 = .ok (.iconst 0, 1) := by decide +kernel
theorem dX6_valueOfTaking_38 : decode cX6_valueOfTaking 38 = .ok (.istore 5, 2) := by decide +kernel
theorem dX6_valueOfTaking_40 : decode cX6_valueOfTaking 40 = .ok (.aload_n 0, 1) := by decide +kernel
theorem dX6_valueOfTaking_41 : decode cX6_valueOfTaking 41 = .ok (.getfield 18, 3) := by decide +kernel
theorem dX6_valueOfTaking_44 : decode cX6_valueOfTaking 44 = .ok (.iload_n 3, 1) := by decide +kernel
theorem dX6_valueOfTaking_45 : decode cX6_valueOfTaking 45 = .ok (.iload 4, 2) := by decide +kernel
theorem dX6_valueOfTaking_47 : decode cX6_valueOfTaking 47 = .ok (.iconst 1, 1) := by decide +kernel
theorem dX6_valueOfTaking_48 : decode cX6_valueOfTaking 48 = .ok (.iload_n 1, 1) := by decide +kernel
theorem dX6_valueOfTaking_49 : decode cX6_valueOfTaking 49 = .ok (.ishl, 1) := by decide +kernel
theorem dX6_valueOfTaking_50 : decode cX6_valueOfTaking 50 = .ok (.ior, 1) := by decide +kernel
theorem dX6_valueOfTaking_51 : decode cX6_valueOfTaking 51 = .ok (.iastore, 1) := by decide +kernel
theorem dX6_valueOfTaking_52 : decode cX6_valueOfTaking 52 = .ok (.aload_n 0, 1) := by decide +kernel
theorem dX6_valueOfTaking_53 : decode cX6_valueOfTaking 53 = .ok (.getfield 15, 3) := by decide +kernel
theorem dX6_valueOfTaking_56 : decode cX6_valueOfTaking 56 = .ok (.iload_n 3, 1) := by decide +kernel
theorem dX6_valueOfTaking_57 : decode cX6_valueOfTaking 57 = .ok (.dup2, 1) := by decide +kernel
theorem dX6_valueOfTaking_58 : decode cX6_valueOfTaking 58 = .ok (.iaload, 1) := by decide +kernel
theorem dX6_valueOfTaking_59 : decode cX6_valueOfTaking 59 = .ok (.iconst 1, 1) := by decide +kernel
theorem dX6_valueOfTaking_60 : decode cX6_valueOfTaking 60 = .ok (.isub, 1) := by decide +kernel
theorem dX6_valueOfTaking_61 : decode cX6_valueOfTaking 61 = .ok (.iastore, 1) := by decide +kernel
theorem dX6_valueOfTaking_62 : decode cX6_valueOfTaking 62 = .ok (.aload_n 0, 1) := by decide +kernel
theorem dX6_valueOfTaking_63 : decode cX6_valueOfTaking 63 = .ok (.getfield 21, 3) := by decide +kernel
theorem dX6_valueOfTaking_66 : decode cX6_valueOfTaking 66 = .ok (.iload_n 1, 1) := by decide +kernel
theorem dX6_valueOfTaking_67 : decode cX6_valueOfTaking 67 = .ok (.dup2, 1) := by decide +kernel
theorem dX6_valueOfTaking_68 : decode cX6_valueOfTaking 68 = .ok (.iaload, 1) := by decide +kernel
theorem dX6_valueOfTaking_69 : decode cX6_valueOfTaking 69 = .ok (.iconst 1, 1) := by decide +kernel
theorem dX6_valueOfTaking_70 : decode cX6_valueOfTaking 70 = .ok (.isub, 1) := by decide +kernel
theorem dX6_valueOfTaking_71 : decode cX6_valueOfTaking 71 = .ok (.iastore, 1) := by decide +kernel
theorem dX6_valueOfTaking_72 : decode cX6_valueOfTaking 72 = .ok (.iload 5, 2) := by decide +kernel
theorem dX6_valueOfTaking_74 : decode cX6_valueOfTaking 74 = .ok (.aload_n 0, 1) := by decide +kernel
theorem dX6_valueOfTaking_75 : decode cX6_valueOfTaking 75 = .ok (.iload_n 2, 1) := by decide +kernel
theorem dX6_valueOfTaking_76 : decode cX6_valueOfTaking 76 = .ok (.iconst 1, 1) := by decide +kernel
theorem dX6_valueOfTaking_77 : decode cX6_valueOfTaking 77 = .ok (.isub, 1) := by decide +kernel
theorem dX6_valueOfTaking_78 : decode cX6_valueOfTaking 78 = .ok (.iconst 1, 1) := by decide +kernel
theorem dX6_valueOfTaking_79 : decode cX6_valueOfTaking 79 = .ok (.iload_n 3, 1) := by decide +kernel
theorem dX6_valueOfTaking_80 : decode cX6_valueOfTaking 80 = .ok (.isub, 1) := by decide +kernel
theorem dX6_valueOfTaking_81 : decode cX6_valueOfTaking 81 = .ok (.invokevirtual 66, 3) := by decide +kernel
theorem dX6_valueOfTaking_84 : decode cX6_valueOfTaking 84 = .ok (.isub, 1) := by decide +kernel
theorem dX6_valueOfTaking_85 : decode cX6_valueOfTaking 85 = .ok (.istore 6, 2) := by decide +kernel
theorem dX6_valueOfTaking_87 : decode cX6_valueOfTaking 87 = .ok (.aload_n 0, 1) := by decide +kernel
theorem dX6_valueOfTaking_88 : decode cX6_valueOfTaking 88 = .ok (.getfield 21, 3) := by decide +kernel
theorem dX6_valueOfTaking_91 : decode cX6_valueOfTaking 91 = .ok (.iload_n 1, 1) := by decide +kernel
theorem dX6_valueOfTaking_92 : decode cX6_valueOfTaking 92 = .ok (.dup2, 1) := by decide +kernel
theorem dX6_valueOfTaking_93 : decode cX6_valueOfTaking 93 = .ok (.iaload, 1) := by decide +kernel
theorem dX6_valueOfTaking_94 : decode cX6_valueOfTaking 94 = .ok (.iconst 1, 1) := by decide +kernel
theorem dX6_valueOfTaking_95 : decode cX6_valueOfTaking 95 = .ok (.iadd, 1) := by decide +kernel
theorem dX6_valueOfTaking_96 : decode cX6_valueOfTaking 96 = .ok (.iastore, 1) := by decide +kernel
theorem dX6_valueOfTaking_97 : decode cX6_valueOfTaking 97 = .ok (.aload_n 0, 1) := by decide +kernel
theorem dX6_valueOfTaking_98 : decode cX6_valueOfTaking 98 = .ok (.getfield 15, 3) := by decide +kernel
theorem dX6_valueOfTaking_101 : decode cX6_valueOfTaking 101 = .ok (.iload_n 3, 1) := by decide +kernel
theorem dX6_valueOfTaking_102 : decode cX6_valueOfTaking 102 = .ok (.dup2, 1) := by decide +kernel
theorem dX6_valueOfTaking_103 : decode cX6_valueOfTaking 103 = .ok (.iaload, 1) := by decide +kernel
theorem dX6_valueOfTaking_104 : decode cX6_valueOfTaking 104 = .ok (.iconst 1, 1) := by decide +kernel
theorem dX6_valueOfTaking_105 : decode cX6_valueOfTaking 105 = .ok (.iadd, 1) := by decide +kernel
theorem dX6_valueOfTaking_106 : decode cX6_valueOfTaking 106 = .ok (.iastore, 1) := by decide +kernel
theorem dX6_valueOfTaking_107 : decode cX6_valueOfTaking 107 = .ok (.aload_n 0, 1) := by decide +kernel
theorem dX6_valueOfTaking_108 : decode cX6_valueOfTaking 108 = .ok (.getfield 18, 3) := by decide +kernel
theorem dX6_valueOfTaking_111 : decode cX6_valueOfTaking 111 = .ok (.iload_n 3, 1) := by decide +kernel
theorem dX6_valueOfTaking_112 : decode cX6_valueOfTaking 112 = .ok (.iload 4, 2) := by decide +kernel
theorem dX6_valueOfTaking_114 : decode cX6_valueOfTaking 114 = .ok (.iastore, 1) := by decide +kernel
theorem dX6_valueOfTaking_115 : decode cX6_valueOfTaking 115 = .ok (.iload 6, 2) := by decide +kernel
theorem dX6_valueOfTaking_117 : decode cX6_valueOfTaking 117 = .ok (.ireturn, 1) := by decide +kernel
theorem dX7_init_0 : decode cX7_init 0 = .ok (.aload_n 0, 1) := by decide +kernel
theorem dX7_init_1 : decode cX7_init 1 = .ok (.invokespecial 3, 3) := by decide +kernel
theorem dX7_init_4 : decode cX7_init 4 = .ok (.aload_n 0, 1) := by decide +kernel
theorem dX7_init_5 : decode cX7_init 5 = .ok (.sipush 400, 3) := by decide +kernel
theorem dX7_init_8 : decode cX7_init 8 = .ok (.newarray .char, 2) := by decide +kernel
theorem dX7_init_10 : decode cX7_init 10 = .ok (.putfield 9, 3) := by decide +kernel
theorem dX7_init_13 : decode cX7_init 13 = .ok (.aload_n 0, 1) := by decide +kernel
theorem dX7_init_14 : decode cX7_init 14 = .ok (.iconst (-1), 1) := by decide +kernel
theorem dX7_init_15 : decode cX7_init 15 = .ok (.putfield 13, 3) := by decide +kernel
theorem dX7_init_18 : decode cX7_init 18 = .ok (.aload_n 0, 1) := by decide +kernel
theorem dX7_init_19 : decode cX7_init 19 = .ok (.new 17, 3) := by decide +kernel
theorem dX7_init_22 : decode cX7_init 22 = .ok (.dup, 1) := by decide +kernel
theorem dX7_init_23 : decode cX7_init 23 = .ok (.invokespecial 19, 3) := by decide +kernel
theorem dX7_init_26 : decode cX7_init 26 = .ok (.putfield 20, 3) := by decide +kernel
theorem dX7_init_29 : decode cX7_init 29 = .ok (.aload_n 0, 1) := by decide +kernel
theorem dX7_init_30 : decode cX7_init 30 = .ok (.new 17, 3) := by decide +kernel
theorem dX7_init_33 : decode cX7_init 33 = .ok (.dup, 1) := by decide +kernel
theorem dX7_init_34 : decode cX7_init 34 = .ok (.invokespecial 19, 3) := by decide +kernel
theorem dX7_init_37 : decode cX7_init 37 = .ok (.putfield 24, 3) := by decide +kernel
theorem dX7_init_40 : decode cX7_init 40 = .ok (.aload_n 0, 1) := by decide +kernel
theorem dX7_init_41 : decode cX7_init 41 = .ok (.new 27, 3) := by decide +kernel
theorem dX7_init_44 : decode cX7_init 44 = .ok (.dup, 1) := by decide +kernel
theorem dX7_init_45 : decode cX7_init 45 = .ok (.aload_n 0, 1) := by decide +kernel
theorem dX7_init_46 : decode cX7_init 46 = .ok (.getfield 9, 3) := by decide +kernel
theorem dX7_init_49 : decode cX7_init 49 = .ok (.aload_n 0, 1) := by decide +kernel
theorem dX7_init_50 : decode cX7_init 50 = .ok (.getfield 24, 3) := by decide +kernel
theorem dX7_init_53 : decode cX7_init 53 = .ok (.invokespecial 29, 3) := by decide +kernel
theorem dX7_init_56 : decode cX7_init 56 = .ok (.putfield 32, 3) := by decide +kernel
theorem dX7_init_59 : decode cX7_init 59 = .ok (.aload_n 0, 1) := by decide +kernel
theorem dX7_init_60 : decode cX7_init 60 = .ok (.new 36, 3) := by decide +kernel
theorem dX7_init_63 : decode cX7_init 63 = .ok (.dup, 1) := by decide +kernel
theorem dX7_init_64 : decode cX7_init 64 = .ok (.aload_n 0, 1) := by decide +kernel
theorem dX7_init_65 : decode cX7_init 65 = .ok (.getfield 20, 3) := by decide +kernel
theorem dX7_init_68 : decode cX7_init 68 = .ok (.invokespecial 38, 3) := by decide +kernel
theorem dX7_init_71 : decode cX7_init 71 = .ok (.putfield 41, 3) := by decide +kernel
theorem dX7_init_74 : decode cX7_init 74 = .ok (.aload_n 0, 1) := by decide +kernel
theorem dX7_init_75 : decode cX7_init 75 = .ok (.new 36, 3) := by decide +kernel
theorem dX7_init_78 : decode cX7_init 78 = .ok (.dup, 1) := by decide +kernel
theorem dX7_init_79 : decode cX7_init 79 = .ok (.aload_n 0, 1) := by decide +kernel
theorem dX7_init_80 : decode cX7_init 80 = .ok (.getfield 20, 3) := by decide +kernel
theorem dX7_init_83 : decode cX7_init 83 = .ok (.invokespecial 38, 3) := by decide +kernel
theorem dX7_init_86 : decode cX7_init 86 = .ok (.putfield 45, 3) := by decide +kernel
theorem dX7_init_89 : decode cX7_init 89 = .ok (.aload_n 0, 1) := by decide +kernel
theorem dX7_init_90 : decode cX7_init 90 = .ok (.iconst 2, 1) := by decide +kernel
theorem dX7_init_91 : decode cX7_init 91 = .ok (.anewarray 36, 3) := by decide +kernel
theorem dX7_init_94 : decode cX7_init 94 = .ok (.dup, 1) := by decide +kernel
theorem dX7_init_95 : decode cX7_init 95 = .ok (.iconst 0, 1) := by decide +kernel
theorem dX7_init_96 : decode cX7_init 96 = .ok (.new 36, 3) := by decide +kernel
theorem dX7_init_99 : decode cX7_init 99 = .ok (.dup, 1) := by decide +kernel
theorem dX7_init_100 : decode cX7_init 100 = .ok (.aload_n 0, 1) := by decide +kernel
theorem dX7_init_101 : decode cX7_init 101 = .ok (.getfield 20, 3) := by decide +kernel
theorem dX7_init_104 : decode cX7_init 104 = .ok (.invokespecial 38, 3) := by decide +kernel
theorem dX7_init_107 : decode cX7_init 107 = .ok (.aastore, 1) := by decide +kernel
theorem dX7_init_108 : decode cX7_init 108 = .ok (.dup, 1) := by decide +kernel
theorem dX7_init_109 : decode cX7_init 109 = .ok (.iconst 1, 1) := by decide +kernel
theorem dX7_init_110 : decode cX7_init 110 = .ok (.new 36, 3) := by decide +kernel
theorem dX7_init_113 : decode cX7_init 113 = .ok (.dup, 1) := by decide +kernel
theorem dX7_init_114 : decode cX7_init 114 = .ok (.aload_n 0, 1) := by decide +kernel
theorem dX7_init_115 : decode cX7_init 115 = .ok (.getfield 20, 3) := by decide +kernel
theorem dX7_init_118 : decode cX7_init 118 = .ok (.invokespecial 38, 3) := by decide +kernel
theorem dX7_init_121 : decode cX7_init 121 = .ok (.aastore, 1) := by decide +kernel
theorem dX7_init_122 : decode cX7_init 122 = .ok (.putfield 48, 3) := by decide +kernel
theorem dX7_init_125 : decode cX7_init 125 = .ok (.aload_n 0, 1) := by decide +kernel
theorem dX7_init_126 : decode cX7_init 126 = .ok (.iconst 2, 1) := by decide +kernel
theorem dX7_init_127 : decode cX7_init 127 = .ok (.newarray .boolean, 2) := by decide +kernel
theorem dX7_init_129 : decode cX7_init 129 = .ok (.putfield 52, 3) := by decide +kernel
theorem dX7_init_132 : decode cX7_init 132 = .ok (.aload_n 0, 1) := by decide +kernel
theorem dX7_init_133 : decode cX7_init 133 = .ok (.new 56, 3) := by decide +kernel
theorem dX7_init_136 : decode cX7_init 136 = .ok (.dup, 1) := by decide +kernel
theorem dX7_init_137 : decode cX7_init 137 = .ok (.invokespecial 58, 3) := by decide +kernel
theorem dX7_init_140 : decode cX7_init 140 = .ok (.putfield 59, 3) := by decide +kernel
theorem dX7_init_143 : decode cX7_init 143 = .ok (.aload_n 0, 1) := by decide +kernel
theorem dX7_init_144 : decode cX7_init 144 = .ok (.new 63, 3) := by decide +kernel
theorem dX7_init_147 : decode cX7_init 147 = .ok (.dup, 1) := by decide +kernel
theorem dX7_init_148 : decode cX7_init 148 = .ok (.aload_n 0, 1) := by decide +kernel
theorem dX7_init_149 : decode cX7_init 149 = .ok (.getfield 41, 3) := by decide +kernel
theorem dX7_init_152 : decode cX7_init 152 = .ok (.invokespecial 65, 3) := by decide +kernel
theorem dX7_init_155 : decode cX7_init 155 = .ok (.putfield 68, 3) := by decide +kernel
theorem dX7_init_158 : decode cX7_init 158 = .ok (.aload_n 0, 1) := by decide +kernel
theorem dX7_init_159 : decode cX7_init 159 = .ok (.new 72, 3) := by decide +kernel
theorem dX7_init_162 : decode cX7_init 162 = .ok (.dup, 1) := by decide +kernel
theorem dX7_init_163 : decode cX7_init 163 = .ok (.aload_n 0, 1) := by decide +kernel
theorem dX7_init_164 : decode cX7_init 164 = .ok (.getfield 41, 3) := by decide +kernel
theorem dX7_init_167 : decode cX7_init 167 = .ok (.invokespecial 74, 3) := by decide +kernel
theorem dX7_init_170 : decode cX7_init 170 = .ok (.putfield 75, 3) := by decide +kernel
theorem dX7_init_173 : decode cX7_init 173 = .ok (.aload_n 0, 1) := by decide +kernel
theorem dX7_init_174 : decode cX7_init 174 = .ok (.new 79, 3) := by decide +kernel
theorem dX7_init_177 : decode cX7_init 177 = .ok (.dup, 1) := by decide +kernel
theorem dX7_init_178 : decode cX7_init 178 = .ok (.aload_n 0, 1) := by decide +kernel
theorem dX7_init_179 : decode cX7_init 179 = .ok (.getfield 41, 3) := by decide +kernel
theorem dX7_init_182 : decode cX7_init 182 = .ok (.invokespecial 81, 3) := by decide +kernel
theorem dX7_init_185 : decode cX7_init 185 = .ok (.putfield 82, 3) := by decide +kernel
theorem dX7_init_188 : decode cX7_init 188 = .ok (.aload_n 0, 1) := by decide +kernel
theorem dX7_init_189 : decode cX7_init 189 = .ok (.iconst 5, 1) := by decide +kernel
theorem dX7_init_190 : decode cX7_init 190 = .ok (.newarray .int, 2) := by decide +kernel
theorem dX7_init_192 : decode cX7_init 192 = .ok (.putfield 86, 3) := by decide +kernel
theorem dX7_init_195 : decode cX7_init 195 = .ok (.return_, 1) := by decide +kernel
theorem dX7_feed_0 : decode cX7_feed 0 = .ok (.iload_n 1, 1) := by decide +kernel
theorem dX7_feed_1 : decode cX7_feed 1 = .ok (.iconst 1, 1) := by decide +kernel
theorem dX7_feed_2 : decode cX7_feed 2 = .ok (.if_icmp .lt 9, 3) := by decide +kernel
theorem dX7_feed_5 : decode cX7_feed 5 = .ok (.iload_n 1, 1) := by decide +kernel
theorem dX7_feed_6 : decode cX7_feed 6 = .ok (.bipush 8, 2) := by decide +kernel
theorem dX7_feed_8 : decode cX7_feed 8 = .ok (.if_icmp .le 6, 3) := by decide +kernel
theorem dX7_feed_11 : decode cX7_feed 11 = .ok (.ldc 90, 2) := by decide +kernel
theorem dX7_feed_13 : decode cX7_feed 13 = .ok (.ireturn, 1) := by decide +kernel
theorem dX7_feed_14 : decode cX7_feed 14 = .ok (.aload_n 0, 1) := by decide +kernel
theorem dX7_feed_15 : decode cX7_feed 15 = .ok (.getfield 91, 3) := by decide +kernel
theorem dX7_feed_18 : decode cX7_feed 18 = .ok (.iload_n 1, 1) := by decide +kernel
theorem dX7_feed_19 : decode cX7_feed 19 = .ok (.iadd, 1) := by decide +kernel
theorem dX7_feed_20 : decode cX7_feed 20 = .ok (.sipush 400, 3) := by decide +kernel
theorem dX7_feed_23 : decode cX7_feed 23 = .ok (.if_icmp .le 6, 3) := by decide +kernel
theorem dX7_feed_26 : decode cX7_feed 26 = .ok (.ldc 94, 2) := by decide +kernel
theorem dX7_feed_28 : decode cX7_feed 28 = .ok (.ireturn, 1) := by decide +kernel
theorem dX7_feed_29 : decode cX7_feed 29 = .ok (.iload_n 1, 1) := by decide +kernel
theorem dX7_feed_30 : decode cX7_feed 30 = .ok (.iconst 1, 1) := by decide +kernel
theorem dX7_feed_31 : decode cX7_feed 31 = .ok (.isub, 1) := by decide +kernel
theorem dX7_feed_32 : decode cX7_feed 32 = .ok (.istore 4, 2) := by decide +kernel
theorem dX7_feed_34 : decode cX7_feed 34 = .ok (.iload 4, 2) := by decide +kernel
theorem dX7_feed_36 : decode cX7_feed 36 = .ok (.ifCond .lt 41, 3) := by decide +kernel
theorem dX7_feed_39 : decode cX7_feed 39 = .ok (.aload_n 0, 1) := by decide +kernel
theorem dX7_feed_40 : decode cX7_feed 40 = .ok (.getfield 9, 3) := by decide +kernel
theorem dX7_feed_43 : decode cX7_feed 43 = .ok (.aload_n 0, 1) := by decide +kernel
theorem dX7_feed_44 : decode cX7_feed 44 = .ok (.getfield 91, 3) := by decide +kernel
theorem dX7_feed_47 : decode cX7_feed 47 = .ok (.lload_n 2, 1) := by decide +kernel
theorem dX7_feed_48 : decode cX7_feed 48 = .ok (.bipush 8, 2) := by decide +kernel
theorem dX7_feed_50 : decode cX7_feed 50 = .ok (.iload 4, 2) := by decide +kernel
theorem dX7_feed_52 : decode cX7_feed 52 = .ok (.imul, 1) := by decide +kernel
theorem dX7_feed_53 : decode cX7_feed 53 = .ok (.lshr, 1) := by decide +kernel
theorem dX7_feed_54 : decode cX7_feed 54 = .ok (.ldc2_w 95, 3) := by decide +kernel
theorem dX7_feed_57 : decode cX7_feed 57 = .ok (.land, 1) := by decide +kernel
theorem dX7_feed_58 : decode cX7_feed 58 = .ok (.l2i, 1) := by decide +kernel
theorem dX7_feed_59 : decode cX7_feed 59 = .ok (.i2c, 1) := by decide +kernel
theorem dX7_feed_60 : decode cX7_feed 60 = .ok (.castore, 1) := by decide +kernel
theorem dX7_feed_61 : decode cX7_feed 61 = .ok (.aload_n 0, 1) := by decide +kernel
theorem dX7_feed_62 : decode cX7_feed 62 = .ok (.dup, 1) := by decide +kernel
theorem dX7_feed_63 : decode cX7_feed 63 = .ok (.getfield 91, 3) := by decide +kernel
theorem dX7_feed_66 : decode cX7_feed 66 = .ok (.iconst 1, 1) := by decide +kernel
theorem dX7_feed_67 : decode cX7_feed 67 = .ok (.iadd, 1) := by decide +kernel
theorem dX7_feed_68 : decode cX7_feed 68 = .ok (.putfield 91, 3) := by decide +kernel
theorem dX7_feed_71 : decode cX7_feed 71 = .ok (.iinc 4 (-1), 3) := by decide +kernel
theorem dX7_feed_74 : decode cX7_feed 74 = .ok (.goto (-40), 3) := by decide +kernel
theorem dX7_feed_77 : decode cX7_feed 77 = .ok (.aload_n 0, 1) := by decide +kernel
theorem dX7_feed_78 : decode cX7_feed 78 = .ok (.getfield 91, 3) := by decide +kernel
theorem dX7_feed_81 : decode cX7_feed 81 = .ok (.ireturn, 1) := by decide +kernel
theorem dX7_spit_0 : decode cX7_spit 0 = .ok (.aload_n 0, 1) := by decide +kernel
theorem dX7_spit_1 : decode cX7_spit 1 = .ok (.getfield 32, 3) := by decide +kernel
theorem dX7_spit_4 : decode cX7_spit 4 = .ok (.aload_n 0, 1) := by decide +kernel
theorem dX7_spit_5 : decode cX7_spit 5 = .ok (.getfield 91, 3) := by decide +kernel
theorem dX7_spit_8 : decode cX7_spit 8 = .ok (.invokevirtual 97, 3) := by decide +kernel
theorem dX7_spit_11 : decode cX7_spit 11 = .ok (.istore_n 1, 1) := by decide +kernel
theorem dX7_spit_12 : decode cX7_spit 12 = .ok (.aload_n 0, 1) := by decide +kernel
theorem dX7_spit_13 : decode cX7_spit 13 = .ok (.iconst 0, 1) := by decide +kernel
theorem dX7_spit_14 : decode cX7_spit 14 = .ok (.putfield 91, 3) := by decide +kernel
theorem dX7_spit_17 : decode cX7_spit 17 = .ok (.iload_n 1, 1) := by decide +kernel
theorem dX7_spit_18 : decode cX7_spit 18 = .ok (.ifCond .ne 25, 3) := by decide +kernel
theorem dX7_spit_21 : decode cX7_spit 21 = .ok (.aload_n 0, 1) := by decide +kernel
theorem dX7_spit_22 : decode cX7_spit 22 = .ok (.aload_n 0, 1) := by decide +kernel
theorem dX7_spit_23 : decode cX7_spit 23 = .ok (.getfield 32, 3) := by decide +kernel
theorem dX7_spit_26 : decode cX7_spit 26 = .ok (.getfield 101, 3) := by decide +kernel
theorem dX7_spit_29 : decode cX7_spit 29 = .ok (.putfield 13, 3) := by decide +kernel
theorem dX7_spit_32 : decode cX7_spit 32 = .ok (.bipush (-10), 2) := by decide +kernel
theorem dX7_spit_34 : decode cX7_spit 34 = .ok (.aload_n 0, 1) := by decide +kernel
theorem dX7_spit_35 : decode cX7_spit 35 = .ok (.getfield 32, 3) := by decide +kernel
theorem dX7_spit_38 : decode cX7_spit 38 = .ok (.getfield 102, 3) := by decide +kernel
theorem dX7_spit_41 : decode cX7_spit 41 = .ok (.isub, 1) := by decide +kernel
theorem dX7_spit_42 : decode cX7_spit 42 = .ok (.ireturn, 1) := by decide +kernel
theorem dX7_spit_43 : decode cX7_spit 43 = .ok (.aload_n 0, 1) := by decide +kernel
theorem dX7_spit_44 : decode cX7_spit 44 = .ok (.iconst (-1), 1) := by decide +kernel
theorem dX7_spit_45 : decode cX7_spit 45 = .ok (.putfield 13, 3) := by decide +kernel
theorem dX7_spit_48 : decode cX7_spit 48 = .ok (.aload_n 0, 1) := by decide +kernel
theorem dX7_spit_49 : decode cX7_spit 49 = .ok (.getfield 20, 3) := by decide +kernel
theorem dX7_spit_52 : decode cX7_spit 52 = .ok (.aload_n 0, 1) := by decide +kernel
theorem dX7_spit_53 : decode cX7_spit 53 = .ok (.getfield 24, 3) := by decide +kernel
theorem dX7_spit_56 : decode cX7_spit 56 = .ok (.invokevirtual 105, 3) := by decide +kernel
theorem dX7_spit_59 : decode cX7_spit 59 = .ok (.aload_n 0, 1) := by decide +kernel
theorem dX7_spit_60 : decode cX7_spit 60 = .ok (.getfield 41, 3) := by decide +kernel
theorem dX7_spit_63 : decode cX7_spit 63 = .ok (.invokevirtual 108, 3) := by decide +kernel
theorem dX7_spit_66 : decode cX7_spit 66 = .ok (.aload_n 0, 1) := by decide +kernel
theorem dX7_spit_67 : decode cX7_spit 67 = .ok (.getfield 59, 3) := by decide +kernel
theorem dX7_spit_70 : decode cX7_spit 70 = .ok (.iconst 0, 1) := by decide +kernel
theorem dX7_spit_71 : decode cX7_spit 71 = .ok (.putfield 111, 3) := by decide +kernel
theorem dX7_spit_74 : decode cX7_spit 74 = .ok (.iconst 0, 1) := by decide +kernel
theorem dX7_spit_75 : decode cX7_spit 75 = .ok (.istore_n 2, 1) := by decide +kernel
theorem dX7_spit_76 : decode cX7_spit 76 = .ok (.iload_n 2, 1) := by decide +kernel
theorem dX7_spit_77 : decode cX7_spit 77 = .ok (.iconst 2, 1) := by decide +kernel
theorem dX7_spit_78 : decode cX7_spit 78 = .ok (.if_icmp .ge 16, 3) := by decide +kernel
theorem dX7_spit_81 : decode cX7_spit 81 = .ok (.aload_n 0, 1) := by decide +kernel
theorem dX7_spit_82 : decode cX7_spit 82 = .ok (.getfield 52, 3) := by decide +kernel
theorem dX7_spit_85 : decode cX7_spit 85 = .ok (.iload_n 2, 1) := by decide +kernel
theorem dX7_spit_86 : decode cX7_spit 86 = .ok (.iconst 0, 1) := by decide +kernel
theorem dX7_spit_87 : decode cX7_spit 87 = .ok (.bastore, 1) := by decide +kernel
theorem dX7_spit_88 : decode cX7_spit 88 = .ok (.iinc 2 1, 3) := by decide +kernel
theorem dX7_spit_91 : decode cX7_spit 91 = .ok (.goto (-15), 3) := by decide +kernel
theorem dX7_spit_94 : decode cX7_spit 94 = .ok (.aload_n 0, 1) := by decide +kernel
theorem dX7_spit_95 : decode cX7_spit 95 = .ok (.getfield 41, 3) := by decide +kernel
theorem dX7_spit_98 : decode cX7_spit 98 = .ok (.getfield 114, 3) := by decide +kernel
theorem dX7_spit_101 : decode cX7_spit 101 = .ok (.ireturn, 1) := by decide +kernel
theorem dX7_fault_0 : decode cX7_fault 0 = .ok (.aload_n 0, 1) := by decide +kernel
theorem dX7_fault_1 : decode cX7_fault 1 = .ok (.getfield 13, 3) := by decide +kernel
theorem dX7_fault_4 : decode cX7_fault 4 = .ok (.ireturn, 1) := by decide +kernel
theorem dX7_told_0 : decode cX7_told 0 = .ok (.iload_n 1, 1) := by decide +kernel
theorem dX7_told_1 : decode cX7_told 1 = .ok (.tableswitch 108 0 7 #[47, 55, 63, 71, 76, 84, 92, 100], 47) := by decide +kernel
theorem dX7_told_48 : decode cX7_told 48 = .ok (.aload_n 0, 1) := by decide +kernel
theorem dX7_told_49 : decode cX7_told 49 = .ok (.getfield 20, 3) := by decide +kernel
theorem dX7_told_52 : decode cX7_told 52 = .ok (.getfield 117, 3) := by decide +kernel
theorem dX7_told_55 : decode cX7_told 55 = .ok (.ireturn, 1) := by decide +kernel
theorem dX7_told_56 : decode cX7_told 56 = .ok (.aload_n 0, 1) := by decide +kernel
theorem dX7_told_57 : decode cX7_told 57 = .ok (.getfield 20, 3) := by decide +kernel
theorem dX7_told_60 : decode cX7_told 60 = .ok (.getfield 120, 3) := by decide +kernel
theorem dX7_told_63 : decode cX7_told 63 = .ok (.ireturn, 1) := by decide +kernel
theorem dX7_told_64 : decode cX7_told 64 = .ok (.aload_n 0, 1) := by decide +kernel
theorem dX7_told_65 : decode cX7_told 65 = .ok (.getfield 41, 3) := by decide +kernel
theorem dX7_told_68 : decode cX7_told 68 = .ok (.getfield 114, 3) := by decide +kernel
theorem dX7_told_71 : decode cX7_told 71 = .ok (.ireturn, 1) := by decide +kernel
theorem dX7_told_72 : decode cX7_told 72 = .ok (.aload_n 0, 1) := by decide +kernel
theorem dX7_told_73 : decode cX7_told 73 = .ok (.getfield 91, 3) := by decide +kernel
theorem dX7_told_76 : decode cX7_told 76 = .ok (.ireturn, 1) := by decide +kernel
theorem dX7_told_77 : decode cX7_told 77 = .ok (.aload_n 0, 1) := by decide +kernel
theorem dX7_told_78 : decode cX7_told 78 = .ok (.getfield 41, 3) := by decide +kernel
theorem dX7_told_81 : decode cX7_told 81 = .ok (.getfield 123, 3) := by decide +kernel
theorem dX7_told_84 : decode cX7_told 84 = .ok (.ireturn, 1) := by decide +kernel
theorem dX7_told_85 : decode cX7_told 85 = .ok (.aload_n 0, 1) := by decide +kernel
theorem dX7_told_86 : decode cX7_told 86 = .ok (.getfield 59, 3) := by decide +kernel
theorem dX7_told_89 : decode cX7_told 89 = .ok (.getfield 111, 3) := by decide +kernel
theorem dX7_told_92 : decode cX7_told 92 = .ok (.ireturn, 1) := by decide +kernel
theorem dX7_told_93 : decode cX7_told 93 = .ok (.aload_n 0, 1) := by decide +kernel
theorem dX7_told_94 : decode cX7_told 94 = .ok (.getfield 41, 3) := by decide +kernel
theorem dX7_told_97 : decode cX7_told 97 = .ok (.invokevirtual 126, 3) := by decide +kernel
theorem dX7_told_100 : decode cX7_told 100 = .ok (.ireturn, 1) := by decide +kernel
theorem dX7_told_101 : decode cX7_told 101 = .ok (.aload_n 0, 1) := by decide +kernel
theorem dX7_told_102 : decode cX7_told 102 = .ok (.getfield 41, 3) := by decide +kernel
theorem dX7_told_105 : decode cX7_told 105 = .ok (.invokevirtual 130, 3) := by decide +kernel
theorem dX7_told_108 : decode cX7_told 108 = .ok (.ireturn, 1) := by decide +kernel
theorem dX7_told_109 : decode cX7_told 109 = .ok (.ldc 90, 2) := by decide +kernel
theorem dX7_told_111 : decode cX7_told 111 = .ok (.ireturn, 1) := by decide +kernel
theorem dX7_house_0 : decode cX7_house 0 = .ok (.aload_n 0, 1) := by decide +kernel
theorem dX7_house_1 : decode cX7_house 1 = .ok (.getfield 20, 3) := by decide +kernel
theorem dX7_house_4 : decode cX7_house 4 = .ok (.iload_n 1, 1) := by decide +kernel
theorem dX7_house_5 : decode cX7_house 5 = .ok (.invokevirtual 133, 3) := by decide +kernel
theorem dX7_house_8 : decode cX7_house 8 = .ok (.ifCond .ne 6, 3) := by decide +kernel
theorem dX7_house_11 : decode cX7_house 11 = .ok (.ldc 136, 2) := by decide +kernel
theorem dX7_house_13 : decode cX7_house 13 = .ok (.ireturn, 1) := by decide +kernel
theorem dX7_house_14 : decode cX7_house 14 = .ok (.iload_n 2, 1) := by decide +kernel
theorem dX7_house_15 : decode cX7_house 15 = .ok (.tableswitch 80 0 4 #[33, 43, 53, 62, 71], 33) := by decide +kernel
theorem dX7_house_48 : decode cX7_house 48 = .ok (.aload_n 0, 1) := by decide +kernel
theorem dX7_house_49 : decode cX7_house 49 = .ok (.getfield 20, 3) := by decide +kernel
theorem dX7_house_52 : decode cX7_house 52 = .ok (.getfield 137, 3) := by decide +kernel
theorem dX7_house_55 : decode cX7_house 55 = .ok (.iload_n 1, 1) := by decide +kernel
theorem dX7_house_56 : decode cX7_house 56 = .ok (.iaload, 1) := by decide +kernel
theorem dX7_house_57 : decode cX7_house 57 = .ok (.ireturn, 1) := by decide +kernel
theorem dX7_house_58 : decode cX7_house 58 = .ok (.aload_n 0, 1) := by decide +kernel
theorem dX7_house_59 : decode cX7_house 59 = .ok (.getfield 41, 3) := by decide +kernel
theorem dX7_house_62 : decode cX7_house 62 = .ok (.getfield 140, 3) := by decide +kernel
theorem dX7_house_65 : decode cX7_house 65 = .ok (.iload_n 1, 1) := by decide +kernel
theorem dX7_house_66 : decode cX7_house 66 = .ok (.iaload, 1) := by decide +kernel
theorem dX7_house_67 : decode cX7_house 67 = .ok (.ireturn, 1) := by decide +kernel
theorem dX7_house_68 : decode cX7_house 68 = .ok (.aload_n 0, 1) := by decide +kernel
theorem dX7_house_69 : decode cX7_house 69 = .ok (.getfield 41, 3) := by decide +kernel
theorem dX7_house_72 : decode cX7_house 72 = .ok (.iload_n 1, 1) := by decide +kernel
theorem dX7_house_73 : decode cX7_house 73 = .ok (.invokevirtual 143, 3) := by decide +kernel
theorem dX7_house_76 : decode cX7_house 76 = .ok (.ireturn, 1) := by decide +kernel
theorem dX7_house_77 : decode cX7_house 77 = .ok (.aload_n 0, 1) := by decide +kernel
theorem dX7_house_78 : decode cX7_house 78 = .ok (.getfield 41, 3) := by decide +kernel
theorem dX7_house_81 : decode cX7_house 81 = .ok (.iload_n 1, 1) := by decide +kernel
theorem dX7_house_82 : decode cX7_house 82 = .ok (.invokevirtual 147, 3) := by decide +kernel
theorem dX7_house_85 : decode cX7_house 85 = .ok (.ireturn, 1) := by decide +kernel
theorem dX7_house_86 : decode cX7_house 86 = .ok (.aload_n 0, 1) := by decide +kernel
theorem dX7_house_87 : decode cX7_house 87 = .ok (.getfield 41, 3) := by decide +kernel
theorem dX7_house_90 : decode cX7_house 90 = .ok (.iload_n 1, 1) := by decide +kernel
theorem dX7_house_91 : decode cX7_house 91 = .ok (.invokevirtual 150, 3) := by decide +kernel
theorem dX7_house_94 : decode cX7_house 94 = .ok (.ireturn, 1) := by decide +kernel
theorem dX7_house_95 : decode cX7_house 95 = .ok (.ldc 90, 2) := by decide +kernel
theorem dX7_house_97 : decode cX7_house 97 = .ok (.ireturn, 1) := by decide +kernel
theorem dX7_worth_0 : decode cX7_worth 0 = .ok (.aload_n 0, 1) := by decide +kernel
theorem dX7_worth_1 : decode cX7_worth 1 = .ok (.getfield 20, 3) := by decide +kernel
theorem dX7_worth_4 : decode cX7_worth 4 = .ok (.iload_n 1, 1) := by decide +kernel
theorem dX7_worth_5 : decode cX7_worth 5 = .ok (.invokevirtual 133, 3) := by decide +kernel
theorem dX7_worth_8 : decode cX7_worth 8 = .ok (.ifCond .eq 14, 3) := by decide +kernel
theorem dX7_worth_11 : decode cX7_worth 11 = .ok (.aload_n 0, 1) := by decide +kernel
theorem dX7_worth_12 : decode cX7_worth 12 = .ok (.getfield 20, 3) := by decide +kernel
theorem dX7_worth_15 : decode cX7_worth 15 = .ok (.iload_n 2, 1) := by decide +kernel
theorem dX7_worth_16 : decode cX7_worth 16 = .ok (.invokevirtual 153, 3) := by decide +kernel
theorem dX7_worth_19 : decode cX7_worth 19 = .ok (.ifCond .ne 6, 3) := by decide +kernel
theorem dX7_worth_22 : decode cX7_worth 22 = .ok (.ldc 136, 2) := by decide +kernel
theorem dX7_worth_24 : decode cX7_worth 24 = .ok (.ireturn, 1) := by decide +kernel
theorem dX7_worth_25 : decode cX7_worth 25 = .ok (.aload_n 0, 1) := by decide +kernel
theorem dX7_worth_26 : decode cX7_worth 26 = .ok (.getfield 20, 3) := by decide +kernel
theorem dX7_worth_29 : decode cX7_worth 29 = .ok (.iload_n 1, 1) := by decide +kernel
theorem dX7_worth_30 : decode cX7_worth 30 = .ok (.iload_n 2, 1) := by decide +kernel
theorem dX7_worth_31 : decode cX7_worth 31 = .ok (.invokevirtual 156, 3) := by decide +kernel
theorem dX7_worth_34 : decode cX7_worth 34 = .ok (.ireturn, 1) := by decide +kernel
theorem dX7_part_0 : decode cX7_part 0 = .ok (.aload_n 0, 1) := by decide +kernel
theorem dX7_part_1 : decode cX7_part 1 = .ok (.getfield 41, 3) := by decide +kernel
theorem dX7_part_4 : decode cX7_part 4 = .ok (.iload_n 1, 1) := by decide +kernel
theorem dX7_part_5 : decode cX7_part 5 = .ok (.invokevirtual 160, 3) := by decide +kernel
theorem dX7_part_8 : decode cX7_part 8 = .ok (.ifCond .ne 6, 3) := by decide +kernel
theorem dX7_part_11 : decode cX7_part 11 = .ok (.ldc 136, 2) := by decide +kernel
theorem dX7_part_13 : decode cX7_part 13 = .ok (.ireturn, 1) := by decide +kernel
theorem dX7_part_14 : decode cX7_part 14 = .ok (.iload_n 2, 1) := by decide +kernel
theorem dX7_part_15 : decode cX7_part 15 = .ok (.tableswitch 69 0 3 #[29, 39, 49, 59], 29) := by decide +kernel
theorem dX7_part_44 : decode cX7_part 44 = .ok (.aload_n 0, 1) := by decide +kernel
theorem dX7_part_45 : decode cX7_part 45 = .ok (.getfield 41, 3) := by decide +kernel
theorem dX7_part_48 : decode cX7_part 48 = .ok (.getfield 163, 3) := by decide +kernel
theorem dX7_part_51 : decode cX7_part 51 = .ok (.iload_n 1, 1) := by decide +kernel
theorem dX7_part_52 : decode cX7_part 52 = .ok (.iaload, 1) := by decide +kernel
theorem dX7_part_53 : decode cX7_part 53 = .ok (.ireturn, 1) := by decide +kernel
theorem dX7_part_54 : decode cX7_part 54 = .ok (.aload_n 0, 1) := by decide +kernel
theorem dX7_part_55 : decode cX7_part 55 = .ok (.getfield 41, 3) := by decide +kernel
theorem dX7_part_58 : decode cX7_part 58 = .ok (.getfield 166, 3) := by decide +kernel
theorem dX7_part_61 : decode cX7_part 61 = .ok (.iload_n 1, 1) := by decide +kernel
theorem dX7_part_62 : decode cX7_part 62 = .ok (.iaload, 1) := by decide +kernel
theorem dX7_part_63 : decode cX7_part 63 = .ok (.ireturn, 1) := by decide +kernel
theorem dX7_part_64 : decode cX7_part 64 = .ok (.aload_n 0, 1) := by decide +kernel
theorem dX7_part_65 : decode cX7_part 65 = .ok (.getfield 41, 3) := by decide +kernel
theorem dX7_part_68 : decode cX7_part 68 = .ok (.getfield 169, 3) := by decide +kernel
theorem dX7_part_71 : decode cX7_part 71 = .ok (.iload_n 1, 1) := by decide +kernel
theorem dX7_part_72 : decode cX7_part 72 = .ok (.iaload, 1) := by decide +kernel
theorem dX7_part_73 : decode cX7_part 73 = .ok (.ireturn, 1) := by decide +kernel
theorem dX7_part_74 : decode cX7_part 74 = .ok (.aload_n 0, 1) := by decide +kernel
theorem dX7_part_75 : decode cX7_part 75 = .ok (.getfield 41, 3) := by decide +kernel
theorem dX7_part_78 : decode cX7_part 78 = .ok (.getfield 172, 3) := by decide +kernel
theorem dX7_part_81 : decode cX7_part 81 = .ok (.iload_n 1, 1) := by decide +kernel
theorem dX7_part_82 : decode cX7_part 82 = .ok (.iaload, 1) := by decide +kernel
theorem dX7_part_83 : decode cX7_part 83 = .ok (.ireturn, 1) := by decide +kernel
theorem dX7_part_84 : decode cX7_part 84 = .ok (.ldc 90, 2) := by decide +kernel
theorem dX7_part_86 : decode cX7_part 86 = .ok (.ireturn, 1) := by decide +kernel
theorem dX7_hand_0 : decode cX7_hand 0 = .ok (.aload_n 0, 1) := by decide +kernel
theorem dX7_hand_1 : decode cX7_hand 1 = .ok (.getfield 41, 3) := by decide +kernel
theorem dX7_hand_4 : decode cX7_hand 4 = .ok (.iload_n 1, 1) := by decide +kernel
theorem dX7_hand_5 : decode cX7_hand 5 = .ok (.invokevirtual 160, 3) := by decide +kernel
theorem dX7_hand_8 : decode cX7_hand 8 = .ok (.ifCond .ne 6, 3) := by decide +kernel
theorem dX7_hand_11 : decode cX7_hand 11 = .ok (.ldc 136, 2) := by decide +kernel
theorem dX7_hand_13 : decode cX7_hand 13 = .ok (.ireturn, 1) := by decide +kernel
theorem dX7_hand_14 : decode cX7_hand 14 = .ok (.iload_n 2, 1) := by decide +kernel
theorem dX7_hand_15 : decode cX7_hand 15 = .ok (.ifCond .lt 16, 3) := by decide +kernel
theorem dX7_hand_18 : decode cX7_hand 18 = .ok (.iload_n 2, 1) := by decide +kernel
theorem dX7_hand_19 : decode cX7_hand 19 = .ok (.aload_n 0, 1) := by decide +kernel
theorem dX7_hand_20 : decode cX7_hand 20 = .ok (.getfield 41, 3) := by decide +kernel
theorem dX7_hand_23 : decode cX7_hand 23 = .ok (.getfield 172, 3) := by decide +kernel
theorem dX7_hand_26 : decode cX7_hand 26 = .ok (.iload_n 1, 1) := by decide +kernel
theorem dX7_hand_27 : decode cX7_hand 27 = .ok (.iaload, 1) := by decide +kernel
theorem dX7_hand_28 : decode cX7_hand 28 = .ok (.if_icmp .lt 7, 3) := by decide +kernel
theorem dX7_hand_31 : decode cX7_hand 31 = .ok (.iconst (-1), 1) := by decide +kernel
theorem dX7_hand_32 : decode cX7_hand 32 = .ok (.goto 17, 3) := by decide +kernel
theorem dX7_hand_35 : decode cX7_hand 35 = .ok (.aload_n 0, 1) := by decide +kernel
theorem dX7_hand_36 : decode cX7_hand 36 = .ok (.getfield 41, 3) := by decide +kernel
theorem dX7_hand_39 : decode cX7_hand 39 = .ok (.getfield 175, 3) := by decide +kernel
theorem dX7_hand_42 : decode cX7_hand 42 = .ok (.iload_n 1, 1) := by decide +kernel
theorem dX7_hand_43 : decode cX7_hand 43 = .ok (.bipush 20, 2) := by decide +kernel
theorem dX7_hand_45 : decode cX7_hand 45 = .ok (.imul, 1) := by decide +kernel
theorem dX7_hand_46 : decode cX7_hand 46 = .ok (.iload_n 2, 1) := by decide +kernel
theorem dX7_hand_47 : decode cX7_hand 47 = .ok (.iadd, 1) := by decide +kernel
theorem dX7_hand_48 : decode cX7_hand 48 = .ok (.iaload, 1) := by decide +kernel
theorem dX7_hand_49 : decode cX7_hand 49 = .ok (.ireturn, 1) := by decide +kernel
theorem dX7_toss_0 : decode cX7_toss 0 = .ok (.aload_n 0, 1) := by decide +kernel
theorem dX7_toss_1 : decode cX7_toss 1 = .ok (.getfield 20, 3) := by decide +kernel
theorem dX7_toss_4 : decode cX7_toss 4 = .ok (.iload_n 1, 1) := by decide +kernel
theorem dX7_toss_5 : decode cX7_toss 5 = .ok (.invokevirtual 133, 3) := by decide +kernel
theorem dX7_toss_8 : decode cX7_toss 8 = .ok (.ifCond .eq 14, 3) := by decide +kernel
theorem dX7_toss_11 : decode cX7_toss 11 = .ok (.aload_n 0, 1) := by decide +kernel
theorem dX7_toss_12 : decode cX7_toss 12 = .ok (.getfield 41, 3) := by decide +kernel
theorem dX7_toss_15 : decode cX7_toss 15 = .ok (.iload_n 2, 1) := by decide +kernel
theorem dX7_toss_16 : decode cX7_toss 16 = .ok (.invokevirtual 160, 3) := by decide +kernel
theorem dX7_toss_19 : decode cX7_toss 19 = .ok (.ifCond .ne 6, 3) := by decide +kernel
theorem dX7_toss_22 : decode cX7_toss 22 = .ok (.ldc 136, 2) := by decide +kernel
theorem dX7_toss_24 : decode cX7_toss 24 = .ok (.ireturn, 1) := by decide +kernel
theorem dX7_toss_25 : decode cX7_toss 25 = .ok (.aload_n 0, 1) := by decide +kernel
theorem dX7_toss_26 : decode cX7_toss 26 = .ok (.getfield 41, 3) := by decide +kernel
theorem dX7_toss_29 : decode cX7_toss 29 = .ok (.iload_n 1, 1) := by decide +kernel
theorem dX7_toss_30 : decode cX7_toss 30 = .ok (.iload_n 2, 1) := by decide +kernel
theorem dX7_toss_31 : decode cX7_toss 31 = .ok (.invokevirtual 178, 3) := by decide +kernel
theorem dX7_toss_34 : decode cX7_toss 34 = .ok (.ifCond .eq 15, 3) := by decide +kernel
theorem dX7_toss_37 : decode cX7_toss 37 = .ok (.aload_n 0, 1) := by decide +kernel
theorem dX7_toss_38 : decode cX7_toss 38 = .ok (.getfield 41, 3) := by decide +kernel
theorem dX7_toss_41 : decode cX7_toss 41 = .ok (.getfield 140, 3) := by decide +kernel
theorem dX7_toss_44 : decode cX7_toss 44 = .ok (.iload_n 1, 1) := by decide +kernel
theorem dX7_toss_45 : decode cX7_toss 45 = .ok (.iaload, 1) := by decide +kernel
theorem dX7_toss_46 : decode cX7_toss 46 = .ok (.goto 5, 3) := by decide +kernel
theorem dX7_toss_49 : decode cX7_toss 49 = .ok (.ldc 182, 2) := by decide +kernel
theorem dX7_toss_51 : decode cX7_toss 51 = .ok (.ireturn, 1) := by decide +kernel
theorem dX7_take_0 : decode cX7_take 0 = .ok (.aload_n 0, 1) := by decide +kernel
theorem dX7_take_1 : decode cX7_take 1 = .ok (.getfield 20, 3) := by decide +kernel
theorem dX7_take_4 : decode cX7_take 4 = .ok (.iload_n 1, 1) := by decide +kernel
theorem dX7_take_5 : decode cX7_take 5 = .ok (.invokevirtual 133, 3) := by decide +kernel
theorem dX7_take_8 : decode cX7_take 8 = .ok (.ifCond .eq 14, 3) := by decide +kernel
theorem dX7_take_11 : decode cX7_take 11 = .ok (.aload_n 0, 1) := by decide +kernel
theorem dX7_take_12 : decode cX7_take 12 = .ok (.getfield 41, 3) := by decide +kernel
theorem dX7_take_15 : decode cX7_take 15 = .ok (.iload_n 2, 1) := by decide +kernel
theorem dX7_take_16 : decode cX7_take 16 = .ok (.invokevirtual 160, 3) := by decide +kernel
theorem dX7_take_19 : decode cX7_take 19 = .ok (.ifCond .ne 6, 3) := by decide +kernel
theorem dX7_take_22 : decode cX7_take 22 = .ok (.ldc 136, 2) := by decide +kernel
theorem dX7_take_24 : decode cX7_take 24 = .ok (.ireturn, 1) := by decide +kernel
theorem dX7_take_25 : decode cX7_take 25 = .ok (.aload_n 0, 1) := by decide +kernel
theorem dX7_take_26 : decode cX7_take 26 = .ok (.getfield 41, 3) := by decide +kernel
theorem dX7_take_29 : decode cX7_take 29 = .ok (.iload_n 1, 1) := by decide +kernel
theorem dX7_take_30 : decode cX7_take 30 = .ok (.iload_n 2, 1) := by decide +kernel
theorem dX7_take_31 : decode cX7_take 31 = .ok (.invokevirtual 183, 3) := by decide +kernel
theorem dX7_take_34 : decode cX7_take 34 = .ok (.ifCond .eq 15, 3) := by decide +kernel
theorem dX7_take_37 : decode cX7_take 37 = .ok (.aload_n 0, 1) := by decide +kernel
theorem dX7_take_38 : decode cX7_take 38 = .ok (.getfield 41, 3) := by decide +kernel
theorem dX7_take_41 : decode cX7_take 41 = .ok (.getfield 140, 3) := by decide +kernel
theorem dX7_take_44 : decode cX7_take 44 = .ok (.iload_n 1, 1) := by decide +kernel
theorem dX7_take_45 : decode cX7_take 45 = .ok (.iaload, 1) := by decide +kernel
theorem dX7_take_46 : decode cX7_take 46 = .ok (.goto 5, 3) := by decide +kernel
theorem dX7_take_49 : decode cX7_take 49 = .ok (.ldc 182, 2) := by decide +kernel
theorem dX7_take_51 : decode cX7_take 51 = .ok (.ireturn, 1) := by decide +kernel
theorem dX7_ashore_0 : decode cX7_ashore 0 = .ok (.aload_n 0, 1) := by decide +kernel
theorem dX7_ashore_1 : decode cX7_ashore 1 = .ok (.getfield 20, 3) := by decide +kernel
theorem dX7_ashore_4 : decode cX7_ashore 4 = .ok (.iload_n 1, 1) := by decide +kernel
theorem dX7_ashore_5 : decode cX7_ashore 5 = .ok (.invokevirtual 153, 3) := by decide +kernel
theorem dX7_ashore_8 : decode cX7_ashore 8 = .ok (.ifCond .ne 6, 3) := by decide +kernel
theorem dX7_ashore_11 : decode cX7_ashore 11 = .ok (.ldc 136, 2) := by decide +kernel
theorem dX7_ashore_13 : decode cX7_ashore 13 = .ok (.ireturn, 1) := by decide +kernel
theorem dX7_ashore_14 : decode cX7_ashore 14 = .ok (.aload_n 0, 1) := by decide +kernel
theorem dX7_ashore_15 : decode cX7_ashore 15 = .ok (.getfield 41, 3) := by decide +kernel
theorem dX7_ashore_18 : decode cX7_ashore 18 = .ok (.iload_n 1, 1) := by decide +kernel
theorem dX7_ashore_19 : decode cX7_ashore 19 = .ok (.iconst (-1), 1) := by decide +kernel
theorem dX7_ashore_20 : decode cX7_ashore 20 = .ok (.invokevirtual 186, 3) := by decide +kernel
theorem dX7_ashore_23 : decode cX7_ashore 23 = .ok (.ifCond .eq 15, 3) := by decide +kernel
theorem dX7_ashore_26 : decode cX7_ashore 26 = .ok (.aload_n 0, 1) := by decide +kernel
theorem dX7_ashore_27 : decode cX7_ashore 27 = .ok (.getfield 41, 3) := by decide +kernel
theorem dX7_ashore_30 : decode cX7_ashore 30 = .ok (.getfield 114, 3) := by decide +kernel
theorem dX7_ashore_33 : decode cX7_ashore 33 = .ok (.iconst 1, 1) := by decide +kernel
theorem dX7_ashore_34 : decode cX7_ashore 34 = .ok (.isub, 1) := by decide +kernel
theorem dX7_ashore_35 : decode cX7_ashore 35 = .ok (.goto 5, 3) := by decide +kernel
theorem dX7_ashore_38 : decode cX7_ashore 38 = .ok (.ldc 94, 2) := by decide +kernel
theorem dX7_ashore_40 : decode cX7_ashore 40 = .ok (.ireturn, 1) := by decide +kernel
theorem dX7_first_0 : decode cX7_first 0 = .ok (.aload_n 0, 1) := by decide +kernel
theorem dX7_first_1 : decode cX7_first 1 = .ok (.getfield 41, 3) := by decide +kernel
theorem dX7_first_4 : decode cX7_first 4 = .ok (.iload_n 1, 1) := by decide +kernel
theorem dX7_first_5 : decode cX7_first 5 = .ok (.invokevirtual 160, 3) := by decide +kernel
theorem dX7_first_8 : decode cX7_first 8 = .ok (.ifCond .ne 6, 3) := by decide +kernel
theorem dX7_first_11 : decode cX7_first 11 = .ok (.ldc 136, 2) := by decide +kernel
theorem dX7_first_13 : decode cX7_first 13 = .ok (.ireturn, 1) := by decide +kernel
theorem dX7_first_14 : decode cX7_first 14 = .ok (.aload_n 0, 1) := by decide +kernel
theorem dX7_first_15 : decode cX7_first 15 = .ok (.getfield 41, 3) := by decide +kernel
theorem dX7_first_18 : decode cX7_first 18 = .ok (.iload_n 1, 1) := by decide +kernel
theorem dX7_first_19 : decode cX7_first 19 = .ok (.invokevirtual 189, 3) := by decide +kernel
theorem dX7_first_22 : decode cX7_first 22 = .ok (.ifCond .eq 14, 3) := by decide +kernel
theorem dX7_first_25 : decode cX7_first 25 = .ok (.aload_n 0, 1) := by decide +kernel
theorem dX7_first_26 : decode cX7_first 26 = .ok (.getfield 41, 3) := by decide +kernel
theorem dX7_first_29 : decode cX7_first 29 = .ok (.iload_n 1, 1) := by decide +kernel
theorem dX7_first_30 : decode cX7_first 30 = .ok (.invokevirtual 192, 3) := by decide +kernel
theorem dX7_first_33 : decode cX7_first 33 = .ok (.goto 5, 3) := by decide +kernel
theorem dX7_first_36 : decode cX7_first 36 = .ok (.ldc 182, 2) := by decide +kernel
theorem dX7_first_38 : decode cX7_first 38 = .ok (.ireturn, 1) := by decide +kernel
theorem dX7_week_0 : decode cX7_week 0 = .ok (.iload_n 1, 1) := by decide +kernel
theorem dX7_week_1 : decode cX7_week 1 = .ok (.iconst 1, 1) := by decide +kernel
theorem dX7_week_2 : decode cX7_week 2 = .ok (.if_icmp .lt 9, 3) := by decide +kernel
theorem dX7_week_5 : decode cX7_week 5 = .ok (.iload_n 1, 1) := by decide +kernel
theorem dX7_week_6 : decode cX7_week 6 = .ok (.bipush 99, 2) := by decide +kernel
theorem dX7_week_8 : decode cX7_week 8 = .ok (.if_icmp .le 6, 3) := by decide +kernel
theorem dX7_week_11 : decode cX7_week 11 = .ok (.ldc 90, 2) := by decide +kernel
theorem dX7_week_13 : decode cX7_week 13 = .ok (.ireturn, 1) := by decide +kernel
theorem dX7_week_14 : decode cX7_week 14 = .ok (.aload_n 0, 1) := by decide +kernel
theorem dX7_week_15 : decode cX7_week 15 = .ok (.getfield 41, 3) := by decide +kernel
theorem dX7_week_18 : decode cX7_week 18 = .ok (.iload_n 1, 1) := by decide +kernel
theorem dX7_week_19 : decode cX7_week 19 = .ok (.iconst 0, 1) := by decide +kernel
theorem dX7_week_20 : decode cX7_week 20 = .ok (.invokevirtual 195, 3) := by decide +kernel
theorem dX7_week_23 : decode cX7_week 23 = .ok (.ireturn, 1) := by decide +kernel
theorem dX7_drift_0 : decode cX7_drift 0 = .ok (.iload_n 1, 1) := by decide +kernel
theorem dX7_drift_1 : decode cX7_drift 1 = .ok (.iconst 1, 1) := by decide +kernel
theorem dX7_drift_2 : decode cX7_drift 2 = .ok (.if_icmp .lt 9, 3) := by decide +kernel
theorem dX7_drift_5 : decode cX7_drift 5 = .ok (.iload_n 1, 1) := by decide +kernel
theorem dX7_drift_6 : decode cX7_drift 6 = .ok (.bipush 99, 2) := by decide +kernel
theorem dX7_drift_8 : decode cX7_drift 8 = .ok (.if_icmp .le 6, 3) := by decide +kernel
theorem dX7_drift_11 : decode cX7_drift 11 = .ok (.ldc 90, 2) := by decide +kernel
theorem dX7_drift_13 : decode cX7_drift 13 = .ok (.ireturn, 1) := by decide +kernel
theorem dX7_drift_14 : decode cX7_drift 14 = .ok (.aload_n 0, 1) := by decide +kernel
theorem dX7_drift_15 : decode cX7_drift 15 = .ok (.getfield 20, 3) := by decide +kernel
theorem dX7_drift_18 : decode cX7_drift 18 = .ok (.getfield 117, 3) := by decide +kernel
theorem dX7_drift_21 : decode cX7_drift 21 = .ok (.ifCond .ne 6, 3) := by decide +kernel
theorem dX7_drift_24 : decode cX7_drift 24 = .ok (.ldc 182, 2) := by decide +kernel
theorem dX7_drift_26 : decode cX7_drift 26 = .ok (.ireturn, 1) := by decide +kernel
theorem dX7_drift_27 : decode cX7_drift 27 = .ok (.aload_n 0, 1) := by decide +kernel
theorem dX7_drift_28 : decode cX7_drift 28 = .ok (.getfield 41, 3) := by decide +kernel
theorem dX7_drift_31 : decode cX7_drift 31 = .ok (.iload_n 1, 1) := by decide +kernel
theorem dX7_drift_32 : decode cX7_drift 32 = .ok (.iconst 1, 1) := by decide +kernel
theorem dX7_drift_33 : decode cX7_drift 33 = .ok (.invokevirtual 195, 3) := by decide +kernel
theorem dX7_drift_36 : decode cX7_drift 36 = .ok (.ireturn, 1) := by decide +kernel
theorem dX7_begin_0 : decode cX7_begin 0 = .ok (.aload_n 0, 1) := by decide +kernel
theorem dX7_begin_1 : decode cX7_begin 1 = .ok (.getfield 41, 3) := by decide +kernel
theorem dX7_begin_4 : decode cX7_begin 4 = .ok (.getfield 123, 3) := by decide +kernel
theorem dX7_begin_7 : decode cX7_begin 7 = .ok (.istore_n 1, 1) := by decide +kernel
theorem dX7_begin_8 : decode cX7_begin 8 = .ok (.aload_n 0, 1) := by decide +kernel
theorem dX7_begin_9 : decode cX7_begin 9 = .ok (.getfield 41, 3) := by decide +kernel
theorem dX7_begin_12 : decode cX7_begin 12 = .ok (.invokevirtual 108, 3) := by decide +kernel
theorem dX7_begin_15 : decode cX7_begin 15 = .ok (.iload_n 1, 1) := by decide +kernel
theorem dX7_begin_16 : decode cX7_begin 16 = .ok (.ireturn, 1) := by decide +kernel
theorem dX7_gain_0 : decode cX7_gain 0 = .ok (.aload_n 0, 1) := by decide +kernel
theorem dX7_gain_1 : decode cX7_gain 1 = .ok (.getfield 20, 3) := by decide +kernel
theorem dX7_gain_4 : decode cX7_gain 4 = .ok (.iload_n 1, 1) := by decide +kernel
theorem dX7_gain_5 : decode cX7_gain 5 = .ok (.invokevirtual 133, 3) := by decide +kernel
theorem dX7_gain_8 : decode cX7_gain 8 = .ok (.ifCond .eq 14, 3) := by decide +kernel
theorem dX7_gain_11 : decode cX7_gain 11 = .ok (.aload_n 0, 1) := by decide +kernel
theorem dX7_gain_12 : decode cX7_gain 12 = .ok (.getfield 41, 3) := by decide +kernel
theorem dX7_gain_15 : decode cX7_gain 15 = .ok (.iload_n 2, 1) := by decide +kernel
theorem dX7_gain_16 : decode cX7_gain 16 = .ok (.invokevirtual 160, 3) := by decide +kernel
theorem dX7_gain_19 : decode cX7_gain 19 = .ok (.ifCond .ne 6, 3) := by decide +kernel
theorem dX7_gain_22 : decode cX7_gain 22 = .ok (.ldc 136, 2) := by decide +kernel
theorem dX7_gain_24 : decode cX7_gain 24 = .ok (.ireturn, 1) := by decide +kernel
theorem dX7_gain_25 : decode cX7_gain 25 = .ok (.aload_n 0, 1) := by decide +kernel
theorem dX7_gain_26 : decode cX7_gain 26 = .ok (.getfield 41, 3) := by decide +kernel
theorem dX7_gain_29 : decode cX7_gain 29 = .ok (.iload_n 1, 1) := by decide +kernel
theorem dX7_gain_30 : decode cX7_gain 30 = .ok (.aload_n 0, 1) := by decide +kernel
theorem dX7_gain_31 : decode cX7_gain 31 = .ok (.getfield 41, 3) := by decide +kernel
theorem dX7_gain_34 : decode cX7_gain 34 = .ok (.getfield 163, 3) := by decide +kernel
theorem dX7_gain_37 : decode cX7_gain 37 = .ok (.iload_n 2, 1) := by decide +kernel
theorem dX7_gain_38 : decode cX7_gain 38 = .ok (.iaload, 1) := by decide +kernel
theorem dX7_gain_39 : decode cX7_gain 39 = .ok (.invokevirtual 199, 3) := by decide +kernel
theorem dX7_gain_42 : decode cX7_gain 42 = .ok (.ireturn, 1) := by decide +kernel
theorem dX7_down_0 : decode cX7_down 0 = .ok (.aload_n 0, 1) := by decide +kernel
theorem dX7_down_1 : decode cX7_down 1 = .ok (.getfield 20, 3) := by decide +kernel
theorem dX7_down_4 : decode cX7_down 4 = .ok (.iload_n 1, 1) := by decide +kernel
theorem dX7_down_5 : decode cX7_down 5 = .ok (.invokevirtual 153, 3) := by decide +kernel
theorem dX7_down_8 : decode cX7_down 8 = .ok (.ifCond .eq 19, 3) := by decide +kernel
theorem dX7_down_11 : decode cX7_down 11 = .ok (.iload_n 3, 1) := by decide +kernel
theorem dX7_down_12 : decode cX7_down 12 = .ok (.iconst (-1), 1) := by decide +kernel
theorem dX7_down_13 : decode cX7_down 13 = .ok (.if_icmp .eq 17, 3) := by decide +kernel
theorem dX7_down_16 : decode cX7_down 16 = .ok (.aload_n 0, 1) := by decide +kernel
theorem dX7_down_17 : decode cX7_down 17 = .ok (.getfield 20, 3) := by decide +kernel
theorem dX7_down_20 : decode cX7_down 20 = .ok (.iload_n 3, 1) := by decide +kernel
theorem dX7_down_21 : decode cX7_down 21 = .ok (.invokevirtual 133, 3) := by decide +kernel
theorem dX7_down_24 : decode cX7_down 24 = .ok (.ifCond .ne 6, 3) := by decide +kernel
theorem dX7_down_27 : decode cX7_down 27 = .ok (.ldc 136, 2) := by decide +kernel
theorem dX7_down_29 : decode cX7_down 29 = .ok (.ireturn, 1) := by decide +kernel
theorem dX7_down_30 : decode cX7_down 30 = .ok (.iload_n 2, 1) := by decide +kernel
theorem dX7_down_31 : decode cX7_down 31 = .ok (.iconst 1, 1) := by decide +kernel
theorem dX7_down_32 : decode cX7_down 32 = .ok (.if_icmp .lt 9, 3) := by decide +kernel
theorem dX7_down_35 : decode cX7_down 35 = .ok (.iload_n 2, 1) := by decide +kernel
theorem dX7_down_36 : decode cX7_down 36 = .ok (.bipush 20, 2) := by decide +kernel
theorem dX7_down_38 : decode cX7_down 38 = .ok (.if_icmp .le 6, 3) := by decide +kernel
theorem dX7_down_41 : decode cX7_down 41 = .ok (.ldc 90, 2) := by decide +kernel
theorem dX7_down_43 : decode cX7_down 43 = .ok (.ireturn, 1) := by decide +kernel
theorem dX7_down_44 : decode cX7_down 44 = .ok (.aload_n 0, 1) := by decide +kernel
theorem dX7_down_45 : decode cX7_down 45 = .ok (.getfield 41, 3) := by decide +kernel
theorem dX7_down_48 : decode cX7_down 48 = .ok (.getfield 114, 3) := by decide +kernel
theorem dX7_down_51 : decode cX7_down 51 = .ok (.bipush 32, 2) := by decide +kernel
theorem dX7_down_53 : decode cX7_down 53 = .ok (.if_icmp .lt 6, 3) := by decide +kernel
theorem dX7_down_56 : decode cX7_down 56 = .ok (.ldc 94, 2) := by decide +kernel
theorem dX7_down_58 : decode cX7_down 58 = .ok (.ireturn, 1) := by decide +kernel
theorem dX7_down_59 : decode cX7_down 59 = .ok (.aload_n 0, 1) := by decide +kernel
theorem dX7_down_60 : decode cX7_down 60 = .ok (.iload_n 2, 1) := by decide +kernel
theorem dX7_down_61 : decode cX7_down 61 = .ok (.invokevirtual 202, 3) := by decide +kernel
theorem dX7_down_64 : decode cX7_down 64 = .ok (.aload_n 0, 1) := by decide +kernel
theorem dX7_down_65 : decode cX7_down 65 = .ok (.getfield 45, 3) := by decide +kernel
theorem dX7_down_68 : decode cX7_down 68 = .ok (.aload_n 0, 1) := by decide +kernel
theorem dX7_down_69 : decode cX7_down 69 = .ok (.getfield 41, 3) := by decide +kernel
theorem dX7_down_72 : decode cX7_down 72 = .ok (.invokevirtual 206, 3) := by decide +kernel
theorem dX7_down_75 : decode cX7_down 75 = .ok (.aload_n 0, 1) := by decide +kernel
theorem dX7_down_76 : decode cX7_down 76 = .ok (.getfield 45, 3) := by decide +kernel
theorem dX7_down_79 : decode cX7_down 79 = .ok (.iload_n 1, 1) := by decide +kernel
theorem dX7_down_80 : decode cX7_down 80 = .ok (.iconst (-1), 1) := by decide +kernel
theorem dX7_down_81 : decode cX7_down 81 = .ok (.invokevirtual 186, 3) := by decide +kernel
theorem dX7_down_84 : decode cX7_down 84 = .ok (.pop, 1) := by decide +kernel
theorem dX7_down_85 : decode cX7_down 85 = .ok (.aload_n 0, 1) := by decide +kernel
theorem dX7_down_86 : decode cX7_down 86 = .ok (.getfield 45, 3) := by decide +kernel
theorem dX7_down_89 : decode cX7_down 89 = .ok (.iload_n 2, 1) := by decide +kernel
theorem dX7_down_90 : decode cX7_down 90 = .ok (.iconst 0, 1) := by decide +kernel
theorem dX7_down_91 : decode cX7_down 91 = .ok (.invokevirtual 195, 3) := by decide +kernel
theorem dX7_down_94 : decode cX7_down 94 = .ok (.pop, 1) := by decide +kernel
theorem dX7_down_95 : decode cX7_down 95 = .ok (.iconst 0, 1) := by decide +kernel
theorem dX7_down_96 : decode cX7_down 96 = .ok (.istore 4, 2) := by decide +kernel
theorem dX7_down_98 : decode cX7_down 98 = .ok (.iconst 0, 1) := by decide +kernel
theorem dX7_down_99 : decode cX7_down 99 = .ok (.istore 5, 2) := by decide +kernel
theorem dX7_down_101 : decode cX7_down 101 = .ok (.iload 5, 2) := by decide +kernel
theorem dX7_down_103 : decode cX7_down 103 = .ok (.aload_n 0, 1) := by decide +kernel
theorem dX7_down_104 : decode cX7_down 104 = .ok (.getfield 20, 3) := by decide +kernel
theorem dX7_down_107 : decode cX7_down 107 = .ok (.getfield 120, 3) := by decide +kernel
theorem dX7_down_110 : decode cX7_down 110 = .ok (.if_icmp .ge 42, 3) := by decide +kernel
theorem dX7_down_113 : decode cX7_down 113 = .ok (.iload_n 3, 1) := by decide +kernel
theorem dX7_down_114 : decode cX7_down 114 = .ok (.iconst (-1), 1) := by decide +kernel
theorem dX7_down_115 : decode cX7_down 115 = .ok (.if_icmp .eq 9, 3) := by decide +kernel
theorem dX7_down_118 : decode cX7_down 118 = .ok (.iload_n 3, 1) := by decide +kernel
theorem dX7_down_119 : decode cX7_down 119 = .ok (.iload 5, 2) := by decide +kernel
theorem dX7_down_121 : decode cX7_down 121 = .ok (.if_icmp .ne 25, 3) := by decide +kernel
theorem dX7_down_124 : decode cX7_down 124 = .ok (.iload 4, 2) := by decide +kernel
theorem dX7_down_126 : decode cX7_down 126 = .ok (.aload_n 0, 1) := by decide +kernel
theorem dX7_down_127 : decode cX7_down 127 = .ok (.getfield 45, 3) := by decide +kernel
theorem dX7_down_130 : decode cX7_down 130 = .ok (.iload 5, 2) := by decide +kernel
theorem dX7_down_132 : decode cX7_down 132 = .ok (.invokevirtual 143, 3) := by decide +kernel
theorem dX7_down_135 : decode cX7_down 135 = .ok (.aload_n 0, 1) := by decide +kernel
theorem dX7_down_136 : decode cX7_down 136 = .ok (.getfield 86, 3) := by decide +kernel
theorem dX7_down_139 : decode cX7_down 139 = .ok (.iload 5, 2) := by decide +kernel
theorem dX7_down_141 : decode cX7_down 141 = .ok (.iaload, 1) := by decide +kernel
theorem dX7_down_142 : decode cX7_down 142 = .ok (.isub, 1) := by decide +kernel
theorem dX7_down_143 : decode cX7_down 143 = .ok (.iadd, 1) := by decide +kernel
theorem dX7_down_144 : decode cX7_down 144 = .ok (.istore 4, 2) := by decide +kernel
theorem dX7_down_146 : decode cX7_down 146 = .ok (.iinc 5 1, 3) := by decide +kernel
theorem dX7_down_149 : decode cX7_down 149 = .ok (.goto (-48), 3) := by decide +kernel
theorem dX7_down_152 : decode cX7_down 152 = .ok (.iload 4, 2) := by decide +kernel
theorem dX7_down_154 : decode cX7_down 154 = .ok (.ireturn, 1) := by decide +kernel
theorem dX7_chain_0 : decode cX7_chain 0 = .ok (.aload_n 0, 1) := by decide +kernel
theorem dX7_chain_1 : decode cX7_chain 1 = .ok (.getfield 20, 3) := by decide +kernel
theorem dX7_chain_4 : decode cX7_chain 4 = .ok (.iload_n 1, 1) := by decide +kernel
theorem dX7_chain_5 : decode cX7_chain 5 = .ok (.invokevirtual 133, 3) := by decide +kernel
theorem dX7_chain_8 : decode cX7_chain 8 = .ok (.ifCond .eq 14, 3) := by decide +kernel
theorem dX7_chain_11 : decode cX7_chain 11 = .ok (.aload_n 0, 1) := by decide +kernel
theorem dX7_chain_12 : decode cX7_chain 12 = .ok (.getfield 20, 3) := by decide +kernel
theorem dX7_chain_15 : decode cX7_chain 15 = .ok (.iload_n 2, 1) := by decide +kernel
theorem dX7_chain_16 : decode cX7_chain 16 = .ok (.invokevirtual 153, 3) := by decide +kernel
theorem dX7_chain_19 : decode cX7_chain 19 = .ok (.ifCond .ne 6, 3) := by decide +kernel
theorem dX7_chain_22 : decode cX7_chain 22 = .ok (.ldc 136, 2) := by decide +kernel
theorem dX7_chain_24 : decode cX7_chain 24 = .ok (.ireturn, 1) := by decide +kernel
theorem dX7_chain_25 : decode cX7_chain 25 = .ok (.aload_n 0, 1) := by decide +kernel
theorem dX7_chain_26 : decode cX7_chain 26 = .ok (.getfield 68, 3) := by decide +kernel
theorem dX7_chain_29 : decode cX7_chain 29 = .ok (.iload_n 1, 1) := by decide +kernel
theorem dX7_chain_30 : decode cX7_chain 30 = .ok (.iload_n 2, 1) := by decide +kernel
theorem dX7_chain_31 : decode cX7_chain 31 = .ok (.invokevirtual 208, 3) := by decide +kernel
theorem dX7_chain_34 : decode cX7_chain 34 = .ok (.ireturn, 1) := by decide +kernel
theorem dX7_rings_0 : decode cX7_rings 0 = .ok (.iload_n 1, 1) := by decide +kernel
theorem dX7_rings_1 : decode cX7_rings 1 = .ok (.iconst (-1), 1) := by decide +kernel
theorem dX7_rings_2 : decode cX7_rings 2 = .ok (.if_icmp .eq 17, 3) := by decide +kernel
theorem dX7_rings_5 : decode cX7_rings 5 = .ok (.aload_n 0, 1) := by decide +kernel
theorem dX7_rings_6 : decode cX7_rings 6 = .ok (.getfield 20, 3) := by decide +kernel
theorem dX7_rings_9 : decode cX7_rings 9 = .ok (.iload_n 1, 1) := by decide +kernel
theorem dX7_rings_10 : decode cX7_rings 10 = .ok (.invokevirtual 133, 3) := by decide +kernel
theorem dX7_rings_13 : decode cX7_rings 13 = .ok (.ifCond .ne 6, 3) := by decide +kernel
theorem dX7_rings_16 : decode cX7_rings 16 = .ok (.ldc 136, 2) := by decide +kernel
theorem dX7_rings_18 : decode cX7_rings 18 = .ok (.ireturn, 1) := by decide +kernel
theorem dX7_rings_19 : decode cX7_rings 19 = .ok (.iload_n 2, 1) := by decide +kernel
theorem dX7_rings_20 : decode cX7_rings 20 = .ok (.ifCond .lt 8, 3) := by decide +kernel
theorem dX7_rings_23 : decode cX7_rings 23 = .ok (.iload_n 2, 1) := by decide +kernel
theorem dX7_rings_24 : decode cX7_rings 24 = .ok (.iconst 1, 1) := by decide +kernel
theorem dX7_rings_25 : decode cX7_rings 25 = .ok (.if_icmp .le 6, 3) := by decide +kernel
theorem dX7_rings_28 : decode cX7_rings 28 = .ok (.ldc 90, 2) := by decide +kernel
theorem dX7_rings_30 : decode cX7_rings 30 = .ok (.ireturn, 1) := by decide +kernel
theorem dX7_rings_31 : decode cX7_rings 31 = .ok (.aload_n 0, 1) := by decide +kernel
theorem dX7_rings_32 : decode cX7_rings 32 = .ok (.getfield 75, 3) := by decide +kernel
theorem dX7_rings_35 : decode cX7_rings 35 = .ok (.invokevirtual 211, 3) := by decide +kernel
theorem dX7_rings_38 : decode cX7_rings 38 = .ok (.iload_n 1, 1) := by decide +kernel
theorem dX7_rings_39 : decode cX7_rings 39 = .ok (.iconst (-1), 1) := by decide +kernel
theorem dX7_rings_40 : decode cX7_rings 40 = .ok (.if_icmp .ne 11, 3) := by decide +kernel
theorem dX7_rings_43 : decode cX7_rings 43 = .ok (.aload_n 0, 1) := by decide +kernel
theorem dX7_rings_44 : decode cX7_rings 44 = .ok (.getfield 75, 3) := by decide +kernel
theorem dX7_rings_47 : decode cX7_rings 47 = .ok (.getfield 214, 3) := by decide +kernel
theorem dX7_rings_50 : decode cX7_rings 50 = .ok (.ireturn, 1) := by decide +kernel
theorem dX7_rings_51 : decode cX7_rings 51 = .ok (.iload_n 2, 1) := by decide +kernel
theorem dX7_rings_52 : decode cX7_rings 52 = .ok (.ifCond .ne 15, 3) := by decide +kernel
theorem dX7_rings_55 : decode cX7_rings 55 = .ok (.aload_n 0, 1) := by decide +kernel
theorem dX7_rings_56 : decode cX7_rings 56 = .ok (.getfield 75, 3) := by decide +kernel
theorem dX7_rings_59 : decode cX7_rings 59 = .ok (.getfield 217, 3) := by decide +kernel
theorem dX7_rings_62 : decode cX7_rings 62 = .ok (.iload_n 1, 1) := by decide +kernel
theorem dX7_rings_63 : decode cX7_rings 63 = .ok (.iaload, 1) := by decide +kernel
theorem dX7_rings_64 : decode cX7_rings 64 = .ok (.goto 11, 3) := by decide +kernel
theorem dX7_rings_67 : decode cX7_rings 67 = .ok (.aload_n 0, 1) := by decide +kernel
theorem dX7_rings_68 : decode cX7_rings 68 = .ok (.getfield 75, 3) := by decide +kernel
theorem dX7_rings_71 : decode cX7_rings 71 = .ok (.iload_n 1, 1) := by decide +kernel
theorem dX7_rings_72 : decode cX7_rings 72 = .ok (.invokevirtual 220, 3) := by decide +kernel
theorem dX7_rings_75 : decode cX7_rings 75 = .ok (.ireturn, 1) := by decide +kernel
theorem dX7_odds_0 : decode cX7_odds 0 = .ok (.aload_n 0, 1) := by decide +kernel
theorem dX7_odds_1 : decode cX7_odds 1 = .ok (.getfield 20, 3) := by decide +kernel
theorem dX7_odds_4 : decode cX7_odds 4 = .ok (.iload_n 1, 1) := by decide +kernel
theorem dX7_odds_5 : decode cX7_odds 5 = .ok (.invokevirtual 153, 3) := by decide +kernel
theorem dX7_odds_8 : decode cX7_odds 8 = .ok (.ifCond .ne 6, 3) := by decide +kernel
theorem dX7_odds_11 : decode cX7_odds 11 = .ok (.ldc 136, 2) := by decide +kernel
theorem dX7_odds_13 : decode cX7_odds 13 = .ok (.ireturn, 1) := by decide +kernel
theorem dX7_odds_14 : decode cX7_odds 14 = .ok (.iload_n 2, 1) := by decide +kernel
theorem dX7_odds_15 : decode cX7_odds 15 = .ok (.ifCond .lt 9, 3) := by decide +kernel
theorem dX7_odds_18 : decode cX7_odds 18 = .ok (.iload_n 2, 1) := by decide +kernel
theorem dX7_odds_19 : decode cX7_odds 19 = .ok (.bipush 60, 2) := by decide +kernel
theorem dX7_odds_21 : decode cX7_odds 21 = .ok (.if_icmp .le 6, 3) := by decide +kernel
theorem dX7_odds_24 : decode cX7_odds 24 = .ok (.ldc 90, 2) := by decide +kernel
theorem dX7_odds_26 : decode cX7_odds 26 = .ok (.ireturn, 1) := by decide +kernel
theorem dX7_odds_27 : decode cX7_odds 27 = .ok (.ldc2_w 223, 3) := by decide +kernel
theorem dX7_odds_30 : decode cX7_odds 30 = .ok (.lstore_n 3, 1) := by decide +kernel
theorem dX7_odds_31 : decode cX7_odds 31 = .ok (.iconst 0, 1) := by decide +kernel
theorem dX7_odds_32 : decode cX7_odds 32 = .ok (.istore 5, 2) := by decide +kernel
theorem dX7_odds_34 : decode cX7_odds 34 = .ok (.iload 5, 2) := by decide +kernel
theorem dX7_odds_36 : decode cX7_odds 36 = .ok (.iload_n 2, 1) := by decide +kernel
theorem dX7_odds_37 : decode cX7_odds 37 = .ok (.if_icmp .ge 18, 3) := by decide +kernel
theorem dX7_odds_40 : decode cX7_odds 40 = .ok (.aload_n 0, 1) := by decide +kernel
theorem dX7_odds_41 : decode cX7_odds 41 = .ok (.getfield 20, 3) := by decide +kernel
theorem dX7_odds_44 : decode cX7_odds 44 = .ok (.lload_n 3, 1) := by decide +kernel
theorem dX7_odds_45 : decode cX7_odds 45 = .ok (.invokevirtual 225, 3) := by decide +kernel
theorem dX7_odds_48 : decode cX7_odds 48 = .ok (.lstore_n 3, 1) := by decide +kernel
theorem dX7_odds_49 : decode cX7_odds 49 = .ok (.iinc 5 1, 3) := by decide +kernel
theorem dX7_odds_52 : decode cX7_odds 52 = .ok (.goto (-18), 3) := by decide +kernel
theorem dX7_odds_55 : decode cX7_odds 55 = .ok (.ldc2_w 223, 3) := by decide +kernel
theorem dX7_odds_58 : decode cX7_odds 58 = .ok (.lload_n 3, 1) := by decide +kernel
theorem dX7_odds_59 : decode cX7_odds 59 = .ok (.lsub, 1) := by decide +kernel
theorem dX7_odds_60 : decode cX7_odds 60 = .ok (.l2i, 1) := by decide +kernel
theorem dX7_odds_61 : decode cX7_odds 61 = .ok (.ireturn, 1) := by decide +kernel
theorem dX7_waits_0 : decode cX7_waits 0 = .ok (.aload_n 0, 1) := by decide +kernel
theorem dX7_waits_1 : decode cX7_waits 1 = .ok (.getfield 20, 3) := by decide +kernel
theorem dX7_waits_4 : decode cX7_waits 4 = .ok (.iload_n 1, 1) := by decide +kernel
theorem dX7_waits_5 : decode cX7_waits 5 = .ok (.invokevirtual 133, 3) := by decide +kernel
theorem dX7_waits_8 : decode cX7_waits 8 = .ok (.ifCond .eq 14, 3) := by decide +kernel
theorem dX7_waits_11 : decode cX7_waits 11 = .ok (.aload_n 0, 1) := by decide +kernel
theorem dX7_waits_12 : decode cX7_waits 12 = .ok (.getfield 20, 3) := by decide +kernel
theorem dX7_waits_15 : decode cX7_waits 15 = .ok (.iload_n 2, 1) := by decide +kernel
theorem dX7_waits_16 : decode cX7_waits 16 = .ok (.invokevirtual 153, 3) := by decide +kernel
theorem dX7_waits_19 : decode cX7_waits 19 = .ok (.ifCond .ne 6, 3) := by decide +kernel
theorem dX7_waits_22 : decode cX7_waits 22 = .ok (.ldc 136, 2) := by decide +kernel
theorem dX7_waits_24 : decode cX7_waits 24 = .ok (.ireturn, 1) := by decide +kernel
theorem dX7_waits_25 : decode cX7_waits 25 = .ok (.iload_n 3, 1) := by decide +kernel
theorem dX7_waits_26 : decode cX7_waits 26 = .ok (.ifCond .lt 9, 3) := by decide +kernel
theorem dX7_waits_29 : decode cX7_waits 29 = .ok (.iload_n 3, 1) := by decide +kernel
theorem dX7_waits_30 : decode cX7_waits 30 = .ok (.bipush 99, 2) := by decide +kernel
theorem dX7_waits_32 : decode cX7_waits 32 = .ok (.if_icmp .le 6, 3) := by decide +kernel
theorem dX7_waits_35 : decode cX7_waits 35 = .ok (.ldc 90, 2) := by decide +kernel
theorem dX7_waits_37 : decode cX7_waits 37 = .ok (.ireturn, 1) := by decide +kernel
theorem dX7_waits_38 : decode cX7_waits 38 = .ok (.aload_n 0, 1) := by decide +kernel
theorem dX7_waits_39 : decode cX7_waits 39 = .ok (.getfield 41, 3) := by decide +kernel
theorem dX7_waits_42 : decode cX7_waits 42 = .ok (.iload_n 1, 1) := by decide +kernel
theorem dX7_waits_43 : decode cX7_waits 43 = .ok (.iload_n 2, 1) := by decide +kernel
theorem dX7_waits_44 : decode cX7_waits 44 = .ok (.invokevirtual 199, 3) := by decide +kernel
theorem dX7_waits_47 : decode cX7_waits 47 = .ok (.i2l, 1) := by decide +kernel
theorem dX7_waits_48 : decode cX7_waits 48 = .ok (.lstore 4, 2) := by decide +kernel
theorem dX7_waits_50 : decode cX7_waits 50 = .ok (.aload_n 0, 1) := by decide +kernel
theorem dX7_waits_51 : decode cX7_waits 51 = .ok (.getfield 41, 3) := by decide +kernel
theorem dX7_waits_54 : decode cX7_waits 54 = .ok (.iload_n 1, 1) := by decide +kernel
theorem dX7_waits_55 : decode cX7_waits 55 = .ok (.invokevirtual 229, 3) := by decide +kernel
theorem dX7_waits_58 : decode cX7_waits 58 = .ok (.i2l, 1) := by decide +kernel
theorem dX7_waits_59 : decode cX7_waits 59 = .ok (.lstore 6, 2) := by decide +kernel
theorem dX7_waits_61 : decode cX7_waits 61 = .ok (.ldc2_w 223, 3) := by decide +kernel
theorem dX7_waits_64 : decode cX7_waits 64 = .ok (.lstore 8, 2) := by decide +kernel
theorem dX7_waits_66 : decode cX7_waits 66 = .ok (.iconst (-1), 1) := by decide +kernel
theorem dX7_waits_67 : decode cX7_waits 67 = .ok (.istore 10, 2) := by decide +kernel
theorem dX7_waits_69 : decode cX7_waits 69 = .ok (.iconst 0, 1) := by decide +kernel
theorem dX7_waits_70 : decode cX7_waits 70 = .ok (.istore 11, 2) := by decide +kernel
theorem dX7_waits_72 : decode cX7_waits 72 = .ok (.iload 11, 2) := by decide +kernel
theorem dX7_waits_74 : decode cX7_waits 74 = .ok (.bipush 60, 2) := by decide +kernel
theorem dX7_waits_76 : decode cX7_waits 76 = .ok (.if_icmp .gt 58, 3) := by decide +kernel
theorem dX7_waits_79 : decode cX7_waits 79 = .ok (.lload 4, 2) := by decide +kernel
theorem dX7_waits_81 : decode cX7_waits 81 = .ok (.ldc2_w 223, 3) := by decide +kernel
theorem dX7_waits_84 : decode cX7_waits 84 = .ok (.lload 8, 2) := by decide +kernel
theorem dX7_waits_86 : decode cX7_waits 86 = .ok (.lsub, 1) := by decide +kernel
theorem dX7_waits_87 : decode cX7_waits 87 = .ok (.lmul, 1) := by decide +kernel
theorem dX7_waits_88 : decode cX7_waits 88 = .ok (.ldc2_w 223, 3) := by decide +kernel
theorem dX7_waits_91 : decode cX7_waits 91 = .ok (.ldiv, 1) := by decide +kernel
theorem dX7_waits_92 : decode cX7_waits 92 = .ok (.iload 11, 2) := by decide +kernel
theorem dX7_waits_94 : decode cX7_waits 94 = .ok (.i2l, 1) := by decide +kernel
theorem dX7_waits_95 : decode cX7_waits 95 = .ok (.iload_n 3, 1) := by decide +kernel
theorem dX7_waits_96 : decode cX7_waits 96 = .ok (.i2l, 1) := by decide +kernel
theorem dX7_waits_97 : decode cX7_waits 97 = .ok (.lmul, 1) := by decide +kernel
theorem dX7_waits_98 : decode cX7_waits 98 = .ok (.lsub, 1) := by decide +kernel
theorem dX7_waits_99 : decode cX7_waits 99 = .ok (.lstore 12, 2) := by decide +kernel
theorem dX7_waits_101 : decode cX7_waits 101 = .ok (.lload 12, 2) := by decide +kernel
theorem dX7_waits_103 : decode cX7_waits 103 = .ok (.lload 6, 2) := by decide +kernel
theorem dX7_waits_105 : decode cX7_waits 105 = .ok (.lcmp, 1) := by decide +kernel
theorem dX7_waits_106 : decode cX7_waits 106 = .ok (.ifCond .le 11, 3) := by decide +kernel
theorem dX7_waits_109 : decode cX7_waits 109 = .ok (.lload 12, 2) := by decide +kernel
theorem dX7_waits_111 : decode cX7_waits 111 = .ok (.lstore 6, 2) := by decide +kernel
theorem dX7_waits_113 : decode cX7_waits 113 = .ok (.iload 11, 2) := by decide +kernel
theorem dX7_waits_115 : decode cX7_waits 115 = .ok (.istore 10, 2) := by decide +kernel
theorem dX7_waits_117 : decode cX7_waits 117 = .ok (.aload_n 0, 1) := by decide +kernel
theorem dX7_waits_118 : decode cX7_waits 118 = .ok (.getfield 20, 3) := by decide +kernel
theorem dX7_waits_121 : decode cX7_waits 121 = .ok (.lload 8, 2) := by decide +kernel
theorem dX7_waits_123 : decode cX7_waits 123 = .ok (.invokevirtual 225, 3) := by decide +kernel
theorem dX7_waits_126 : decode cX7_waits 126 = .ok (.lstore 8, 2) := by decide +kernel
theorem dX7_waits_128 : decode cX7_waits 128 = .ok (.iinc 11 1, 3) := by decide +kernel
theorem dX7_waits_131 : decode cX7_waits 131 = .ok (.goto (-59), 3) := by decide +kernel
theorem dX7_waits_134 : decode cX7_waits 134 = .ok (.iload 10, 2) := by decide +kernel
theorem dX7_waits_136 : decode cX7_waits 136 = .ok (.ireturn, 1) := by decide +kernel
theorem dX7_turnsAt_0 : decode cX7_turnsAt 0 = .ok (.aload_n 0, 1) := by decide +kernel
theorem dX7_turnsAt_1 : decode cX7_turnsAt 1 = .ok (.getfield 20, 3) := by decide +kernel
theorem dX7_turnsAt_4 : decode cX7_turnsAt 4 = .ok (.iload_n 1, 1) := by decide +kernel
theorem dX7_turnsAt_5 : decode cX7_turnsAt 5 = .ok (.invokevirtual 133, 3) := by decide +kernel
theorem dX7_turnsAt_8 : decode cX7_turnsAt 8 = .ok (.ifCond .eq 30, 3) := by decide +kernel
theorem dX7_turnsAt_11 : decode cX7_turnsAt 11 = .ok (.aload_n 0, 1) := by decide +kernel
theorem dX7_turnsAt_12 : decode cX7_turnsAt 12 = .ok (.getfield 20, 3) := by decide +kernel
theorem dX7_turnsAt_15 : decode cX7_turnsAt 15 = .ok (.iload_n 2, 1) := by decide +kernel
theorem dX7_turnsAt_16 : decode cX7_turnsAt 16 = .ok (.invokevirtual 133, 3) := by decide +kernel
theorem dX7_turnsAt_19 : decode cX7_turnsAt 19 = .ok (.ifCond .eq 19, 3) := by decide +kernel
theorem dX7_turnsAt_22 : decode cX7_turnsAt 22 = .ok (.iload_n 3, 1) := by decide +kernel
theorem dX7_turnsAt_23 : decode cX7_turnsAt 23 = .ok (.iconst (-1), 1) := by decide +kernel
theorem dX7_turnsAt_24 : decode cX7_turnsAt 24 = .ok (.if_icmp .eq 17, 3) := by decide +kernel
theorem dX7_turnsAt_27 : decode cX7_turnsAt 27 = .ok (.aload_n 0, 1) := by decide +kernel
theorem dX7_turnsAt_28 : decode cX7_turnsAt 28 = .ok (.getfield 20, 3) := by decide +kernel
theorem dX7_turnsAt_31 : decode cX7_turnsAt 31 = .ok (.iload_n 3, 1) := by decide +kernel
theorem dX7_turnsAt_32 : decode cX7_turnsAt 32 = .ok (.invokevirtual 133, 3) := by decide +kernel
theorem dX7_turnsAt_35 : decode cX7_turnsAt 35 = .ok (.ifCond .ne 6, 3) := by decide +kernel
theorem dX7_turnsAt_38 : decode cX7_turnsAt 38 = .ok (.ldc 136, 2) := by decide +kernel
theorem dX7_turnsAt_40 : decode cX7_turnsAt 40 = .ok (.ireturn, 1) := by decide +kernel
theorem dX7_turnsAt_41 : decode cX7_turnsAt 41 = .ok (.iload_n 1, 1) := by decide +kernel
theorem dX7_turnsAt_42 : decode cX7_turnsAt 42 = .ok (.iload_n 2, 1) := by decide +kernel
theorem dX7_turnsAt_43 : decode cX7_turnsAt 43 = .ok (.if_icmp .eq 13, 3) := by decide +kernel
theorem dX7_turnsAt_46 : decode cX7_turnsAt 46 = .ok (.iload_n 1, 1) := by decide +kernel
theorem dX7_turnsAt_47 : decode cX7_turnsAt 47 = .ok (.iload_n 3, 1) := by decide +kernel
theorem dX7_turnsAt_48 : decode cX7_turnsAt 48 = .ok (.if_icmp .eq 8, 3) := by decide +kernel
theorem dX7_turnsAt_51 : decode cX7_turnsAt 51 = .ok (.iload_n 2, 1) := by decide +kernel
theorem dX7_turnsAt_52 : decode cX7_turnsAt 52 = .ok (.iload_n 3, 1) := by decide +kernel
theorem dX7_turnsAt_53 : decode cX7_turnsAt 53 = .ok (.if_icmp .ne 6, 3) := by decide +kernel
theorem dX7_turnsAt_56 : decode cX7_turnsAt 56 = .ok (.ldc 136, 2) := by decide +kernel
theorem dX7_turnsAt_58 : decode cX7_turnsAt 58 = .ok (.ireturn, 1) := by decide +kernel
theorem dX7_turnsAt_59 : decode cX7_turnsAt 59 = .ok (.iload 4, 2) := by decide +kernel
theorem dX7_turnsAt_61 : decode cX7_turnsAt 61 = .ok (.ifCond .lt 20, 3) := by decide +kernel
theorem dX7_turnsAt_64 : decode cX7_turnsAt 64 = .ok (.iload 4, 2) := by decide +kernel
theorem dX7_turnsAt_66 : decode cX7_turnsAt 66 = .ok (.iconst 4, 1) := by decide +kernel
theorem dX7_turnsAt_67 : decode cX7_turnsAt 67 = .ok (.if_icmp .gt 14, 3) := by decide +kernel
theorem dX7_turnsAt_70 : decode cX7_turnsAt 70 = .ok (.iload 5, 2) := by decide +kernel
theorem dX7_turnsAt_72 : decode cX7_turnsAt 72 = .ok (.ifCond .lt 9, 3) := by decide +kernel
theorem dX7_turnsAt_75 : decode cX7_turnsAt 75 = .ok (.iload 5, 2) := by decide +kernel
theorem dX7_turnsAt_77 : decode cX7_turnsAt 77 = .ok (.iconst 1, 1) := by decide +kernel
theorem dX7_turnsAt_78 : decode cX7_turnsAt 78 = .ok (.if_icmp .le 6, 3) := by decide +kernel
theorem dX7_turnsAt_81 : decode cX7_turnsAt 81 = .ok (.ldc 90, 2) := by decide +kernel
theorem dX7_turnsAt_83 : decode cX7_turnsAt 83 = .ok (.ireturn, 1) := by decide +kernel
theorem dX7_turnsAt_84 : decode cX7_turnsAt 84 = .ok (.aload_n 0, 1) := by decide +kernel
theorem dX7_turnsAt_85 : decode cX7_turnsAt 85 = .ok (.getfield 82, 3) := by decide +kernel
theorem dX7_turnsAt_88 : decode cX7_turnsAt 88 = .ok (.iload_n 1, 1) := by decide +kernel
theorem dX7_turnsAt_89 : decode cX7_turnsAt 89 = .ok (.iload_n 2, 1) := by decide +kernel
theorem dX7_turnsAt_90 : decode cX7_turnsAt 90 = .ok (.iload_n 3, 1) := by decide +kernel
theorem dX7_turnsAt_91 : decode cX7_turnsAt 91 = .ok (.invokevirtual 232, 3) := by decide +kernel
theorem dX7_turnsAt_94 : decode cX7_turnsAt 94 = .ok (.aload_n 0, 1) := by decide +kernel
theorem dX7_turnsAt_95 : decode cX7_turnsAt 95 = .ok (.getfield 82, 3) := by decide +kernel
theorem dX7_turnsAt_98 : decode cX7_turnsAt 98 = .ok (.iload 4, 2) := by decide +kernel
theorem dX7_turnsAt_100 : decode cX7_turnsAt 100 = .ok (.invokevirtual 236, 3) := by decide +kernel
theorem dX7_turnsAt_103 : decode cX7_turnsAt 103 = .ok (.istore 6, 2) := by decide +kernel
theorem dX7_turnsAt_105 : decode cX7_turnsAt 105 = .ok (.iload 5, 2) := by decide +kernel
theorem dX7_turnsAt_107 : decode cX7_turnsAt 107 = .ok (.ifCond .ne 8, 3) := by decide +kernel
theorem dX7_turnsAt_110 : decode cX7_turnsAt 110 = .ok (.iload 6, 2) := by decide +kernel
theorem dX7_turnsAt_112 : decode cX7_turnsAt 112 = .ok (.goto 10, 3) := by decide +kernel
theorem dX7_turnsAt_115 : decode cX7_turnsAt 115 = .ok (.aload_n 0, 1) := by decide +kernel
theorem dX7_turnsAt_116 : decode cX7_turnsAt 116 = .ok (.getfield 82, 3) := by decide +kernel
theorem dX7_turnsAt_119 : decode cX7_turnsAt 119 = .ok (.getfield 239, 3) := by decide +kernel
theorem dX7_turnsAt_122 : decode cX7_turnsAt 122 = .ok (.ireturn, 1) := by decide +kernel
theorem dX7_write_0 : decode cX7_write 0 = .ok (.aload_n 0, 1) := by decide +kernel
theorem dX7_write_1 : decode cX7_write 1 = .ok (.getfield 20, 3) := by decide +kernel
theorem dX7_write_4 : decode cX7_write 4 = .ok (.iload_n 1, 1) := by decide +kernel
theorem dX7_write_5 : decode cX7_write 5 = .ok (.invokevirtual 133, 3) := by decide +kernel
theorem dX7_write_8 : decode cX7_write 8 = .ok (.ifCond .eq 14, 3) := by decide +kernel
theorem dX7_write_11 : decode cX7_write 11 = .ok (.aload_n 0, 1) := by decide +kernel
theorem dX7_write_12 : decode cX7_write 12 = .ok (.getfield 41, 3) := by decide +kernel
theorem dX7_write_15 : decode cX7_write 15 = .ok (.iload_n 2, 1) := by decide +kernel
theorem dX7_write_16 : decode cX7_write 16 = .ok (.invokevirtual 160, 3) := by decide +kernel
theorem dX7_write_19 : decode cX7_write 19 = .ok (.ifCond .ne 6, 3) := by decide +kernel
theorem dX7_write_22 : decode cX7_write 22 = .ok (.ldc 136, 2) := by decide +kernel
theorem dX7_write_24 : decode cX7_write 24 = .ok (.ireturn, 1) := by decide +kernel
theorem dX7_write_25 : decode cX7_write 25 = .ok (.aload_n 0, 1) := by decide +kernel
theorem dX7_write_26 : decode cX7_write 26 = .ok (.getfield 59, 3) := by decide +kernel
theorem dX7_write_29 : decode cX7_write 29 = .ok (.iload_n 1, 1) := by decide +kernel
theorem dX7_write_30 : decode cX7_write 30 = .ok (.iload_n 2, 1) := by decide +kernel
theorem dX7_write_31 : decode cX7_write 31 = .ok (.iload_n 3, 1) := by decide +kernel
theorem dX7_write_32 : decode cX7_write 32 = .ok (.invokevirtual 242, 3) := by decide +kernel
theorem dX7_write_35 : decode cX7_write 35 = .ok (.ifCond .eq 13, 3) := by decide +kernel
theorem dX7_write_38 : decode cX7_write 38 = .ok (.aload_n 0, 1) := by decide +kernel
theorem dX7_write_39 : decode cX7_write 39 = .ok (.getfield 59, 3) := by decide +kernel
theorem dX7_write_42 : decode cX7_write 42 = .ok (.getfield 111, 3) := by decide +kernel
theorem dX7_write_45 : decode cX7_write 45 = .ok (.goto 5, 3) := by decide +kernel
theorem dX7_write_48 : decode cX7_write 48 = .ok (.ldc 94, 2) := by decide +kernel
theorem dX7_write_50 : decode cX7_write 50 = .ok (.ireturn, 1) := by decide +kernel
theorem dX7_tear_0 : decode cX7_tear 0 = .ok (.aload_n 0, 1) := by decide +kernel
theorem dX7_tear_1 : decode cX7_tear 1 = .ok (.getfield 59, 3) := by decide +kernel
theorem dX7_tear_4 : decode cX7_tear 4 = .ok (.getfield 111, 3) := by decide +kernel
theorem dX7_tear_7 : decode cX7_tear 7 = .ok (.istore_n 1, 1) := by decide +kernel
theorem dX7_tear_8 : decode cX7_tear 8 = .ok (.aload_n 0, 1) := by decide +kernel
theorem dX7_tear_9 : decode cX7_tear 9 = .ok (.getfield 59, 3) := by decide +kernel
theorem dX7_tear_12 : decode cX7_tear 12 = .ok (.iconst 0, 1) := by decide +kernel
theorem dX7_tear_13 : decode cX7_tear 13 = .ok (.putfield 111, 3) := by decide +kernel
theorem dX7_tear_16 : decode cX7_tear 16 = .ok (.iload_n 1, 1) := by decide +kernel
theorem dX7_tear_17 : decode cX7_tear 17 = .ok (.ireturn, 1) := by decide +kernel
theorem dX7_judge_0 : decode cX7_judge 0 = .ok (.aload_n 0, 1) := by decide +kernel
theorem dX7_judge_1 : decode cX7_judge 1 = .ok (.getfield 45, 3) := by decide +kernel
theorem dX7_judge_4 : decode cX7_judge 4 = .ok (.aload_n 0, 1) := by decide +kernel
theorem dX7_judge_5 : decode cX7_judge 5 = .ok (.getfield 41, 3) := by decide +kernel
theorem dX7_judge_8 : decode cX7_judge 8 = .ok (.invokevirtual 206, 3) := by decide +kernel
theorem dX7_judge_11 : decode cX7_judge 11 = .ok (.aload_n 0, 1) := by decide +kernel
theorem dX7_judge_12 : decode cX7_judge 12 = .ok (.getfield 59, 3) := by decide +kernel
theorem dX7_judge_15 : decode cX7_judge 15 = .ok (.aload_n 0, 1) := by decide +kernel
theorem dX7_judge_16 : decode cX7_judge 16 = .ok (.getfield 45, 3) := by decide +kernel
theorem dX7_judge_19 : decode cX7_judge 19 = .ok (.invokevirtual 246, 3) := by decide +kernel
theorem dX7_judge_22 : decode cX7_judge 22 = .ok (.ireturn, 1) := by decide +kernel
theorem dX7_seed_0 : decode cX7_seed 0 = .ok (.iload_n 1, 1) := by decide +kernel
theorem dX7_seed_1 : decode cX7_seed 1 = .ok (.ifCond .ge 6, 3) := by decide +kernel
theorem dX7_seed_4 : decode cX7_seed 4 = .ok (.ldc 90, 2) := by decide +kernel
theorem dX7_seed_6 : decode cX7_seed 6 = .ok (.ireturn, 1) := by decide +kernel
theorem dX7_seed_7 : decode cX7_seed 7 = .ok (.aload_n 0, 1) := by decide +kernel
theorem dX7_seed_8 : decode cX7_seed 8 = .ok (.getfield 41, 3) := by decide +kernel
theorem dX7_seed_11 : decode cX7_seed 11 = .ok (.getfield 250, 3) := by decide +kernel
theorem dX7_seed_14 : decode cX7_seed 14 = .ok (.istore_n 2, 1) := by decide +kernel
theorem dX7_seed_15 : decode cX7_seed 15 = .ok (.aload_n 0, 1) := by decide +kernel
theorem dX7_seed_16 : decode cX7_seed 16 = .ok (.getfield 41, 3) := by decide +kernel
theorem dX7_seed_19 : decode cX7_seed 19 = .ok (.iload_n 1, 1) := by decide +kernel
theorem dX7_seed_20 : decode cX7_seed 20 = .ok (.putfield 250, 3) := by decide +kernel
theorem dX7_seed_23 : decode cX7_seed 23 = .ok (.iload_n 2, 1) := by decide +kernel
theorem dX7_seed_24 : decode cX7_seed 24 = .ok (.ireturn, 1) := by decide +kernel
theorem dX7_keep_0 : decode cX7_keep 0 = .ok (.iload_n 1, 1) := by decide +kernel
theorem dX7_keep_1 : decode cX7_keep 1 = .ok (.ifCond .lt 8, 3) := by decide +kernel
theorem dX7_keep_4 : decode cX7_keep 4 = .ok (.iload_n 1, 1) := by decide +kernel
theorem dX7_keep_5 : decode cX7_keep 5 = .ok (.iconst 2, 1) := by decide +kernel
theorem dX7_keep_6 : decode cX7_keep 6 = .ok (.if_icmp .lt 6, 3) := by decide +kernel
theorem dX7_keep_9 : decode cX7_keep 9 = .ok (.ldc 136, 2) := by decide +kernel
theorem dX7_keep_11 : decode cX7_keep 11 = .ok (.ireturn, 1) := by decide +kernel
theorem dX7_keep_12 : decode cX7_keep 12 = .ok (.aload_n 0, 1) := by decide +kernel
theorem dX7_keep_13 : decode cX7_keep 13 = .ok (.getfield 48, 3) := by decide +kernel
theorem dX7_keep_16 : decode cX7_keep 16 = .ok (.iload_n 1, 1) := by decide +kernel
theorem dX7_keep_17 : decode cX7_keep 17 = .ok (.aaload, 1) := by decide +kernel
theorem dX7_keep_18 : decode cX7_keep 18 = .ok (.aload_n 0, 1) := by decide +kernel
theorem dX7_keep_19 : decode cX7_keep 19 = .ok (.getfield 41, 3) := by decide +kernel
theorem dX7_keep_22 : decode cX7_keep 22 = .ok (.invokevirtual 206, 3) := by decide +kernel
theorem dX7_keep_25 : decode cX7_keep 25 = .ok (.aload_n 0, 1) := by decide +kernel
theorem dX7_keep_26 : decode cX7_keep 26 = .ok (.getfield 52, 3) := by decide +kernel
theorem dX7_keep_29 : decode cX7_keep 29 = .ok (.iload_n 1, 1) := by decide +kernel
theorem dX7_keep_30 : decode cX7_keep 30 = .ok (.iconst 1, 1) := by decide +kernel
theorem dX7_keep_31 : decode cX7_keep 31 = .ok (.bastore, 1) := by decide +kernel
theorem dX7_keep_32 : decode cX7_keep 32 = .ok (.iconst 1, 1) := by decide +kernel
theorem dX7_keep_33 : decode cX7_keep 33 = .ok (.ireturn, 1) := by decide +kernel
theorem dX7_goBack_0 : decode cX7_goBack 0 = .ok (.iload_n 1, 1) := by decide +kernel
theorem dX7_goBack_1 : decode cX7_goBack 1 = .ok (.ifCond .lt 8, 3) := by decide +kernel
theorem dX7_goBack_4 : decode cX7_goBack 4 = .ok (.iload_n 1, 1) := by decide +kernel
theorem dX7_goBack_5 : decode cX7_goBack 5 = .ok (.iconst 2, 1) := by decide +kernel
theorem dX7_goBack_6 : decode cX7_goBack 6 = .ok (.if_icmp .lt 6, 3) := by decide +kernel
theorem dX7_goBack_9 : decode cX7_goBack 9 = .ok (.ldc 136, 2) := by decide +kernel
theorem dX7_goBack_11 : decode cX7_goBack 11 = .ok (.ireturn, 1) := by decide +kernel
theorem dX7_goBack_12 : decode cX7_goBack 12 = .ok (.aload_n 0, 1) := by decide +kernel
theorem dX7_goBack_13 : decode cX7_goBack 13 = .ok (.getfield 52, 3) := by decide +kernel
theorem dX7_goBack_16 : decode cX7_goBack 16 = .ok (.iload_n 1, 1) := by decide +kernel
theorem dX7_goBack_17 : decode cX7_goBack 17 = .ok (.baload, 1) := by decide +kernel
theorem dX7_goBack_18 : decode cX7_goBack 18 = .ok (.ifCond .ne 6, 3) := by decide +kernel
theorem dX7_goBack_21 : decode cX7_goBack 21 = .ok (.ldc 182, 2) := by decide +kernel
theorem dX7_goBack_23 : decode cX7_goBack 23 = .ok (.ireturn, 1) := by decide +kernel
theorem dX7_goBack_24 : decode cX7_goBack 24 = .ok (.aload_n 0, 1) := by decide +kernel
theorem dX7_goBack_25 : decode cX7_goBack 25 = .ok (.getfield 41, 3) := by decide +kernel
theorem dX7_goBack_28 : decode cX7_goBack 28 = .ok (.aload_n 0, 1) := by decide +kernel
theorem dX7_goBack_29 : decode cX7_goBack 29 = .ok (.getfield 48, 3) := by decide +kernel
theorem dX7_goBack_32 : decode cX7_goBack 32 = .ok (.iload_n 1, 1) := by decide +kernel
theorem dX7_goBack_33 : decode cX7_goBack 33 = .ok (.aaload, 1) := by decide +kernel
theorem dX7_goBack_34 : decode cX7_goBack 34 = .ok (.invokevirtual 206, 3) := by decide +kernel
theorem dX7_goBack_37 : decode cX7_goBack 37 = .ok (.iconst 1, 1) := by decide +kernel
theorem dX7_goBack_38 : decode cX7_goBack 38 = .ok (.ireturn, 1) := by decide +kernel
theorem dX7_tryWithout_0 : decode cX7_tryWithout 0 = .ok (.aload_n 0, 1) := by decide +kernel
theorem dX7_tryWithout_1 : decode cX7_tryWithout 1 = .ok (.getfield 45, 3) := by decide +kernel
theorem dX7_tryWithout_4 : decode cX7_tryWithout 4 = .ok (.aload_n 0, 1) := by decide +kernel
theorem dX7_tryWithout_5 : decode cX7_tryWithout 5 = .ok (.getfield 41, 3) := by decide +kernel
theorem dX7_tryWithout_8 : decode cX7_tryWithout 8 = .ok (.invokevirtual 206, 3) := by decide +kernel
theorem dX7_tryWithout_11 : decode cX7_tryWithout 11 = .ok (.aload_n 0, 1) := by decide +kernel
theorem dX7_tryWithout_12 : decode cX7_tryWithout 12 = .ok (.getfield 45, 3) := by decide +kernel
theorem dX7_tryWithout_15 : decode cX7_tryWithout 15 = .ok (.iload_n 1, 1) := by decide +kernel
theorem dX7_tryWithout_16 : decode cX7_tryWithout 16 = .ok (.iconst 0, 1) := by decide +kernel
theorem dX7_tryWithout_17 : decode cX7_tryWithout 17 = .ok (.invokevirtual 195, 3) := by decide +kernel
theorem dX7_tryWithout_20 : decode cX7_tryWithout 20 = .ok (.pop, 1) := by decide +kernel
theorem dX7_tryWithout_21 : decode cX7_tryWithout 21 = .ok (.iconst 0, 1) := by decide +kernel
theorem dX7_tryWithout_22 : decode cX7_tryWithout 22 = .ok (.istore_n 2, 1) := by decide +kernel
theorem dX7_tryWithout_23 : decode cX7_tryWithout 23 = .ok (.iload_n 2, 1) := by decide +kernel
theorem dX7_tryWithout_24 : decode cX7_tryWithout 24 = .ok (.aload_n 0, 1) := by decide +kernel
theorem dX7_tryWithout_25 : decode cX7_tryWithout 25 = .ok (.getfield 20, 3) := by decide +kernel
theorem dX7_tryWithout_28 : decode cX7_tryWithout 28 = .ok (.getfield 120, 3) := by decide +kernel
theorem dX7_tryWithout_31 : decode cX7_tryWithout 31 = .ok (.if_icmp .ge 23, 3) := by decide +kernel
theorem dX7_tryWithout_34 : decode cX7_tryWithout 34 = .ok (.aload_n 0, 1) := by decide +kernel
theorem dX7_tryWithout_35 : decode cX7_tryWithout 35 = .ok (.getfield 86, 3) := by decide +kernel
theorem dX7_tryWithout_38 : decode cX7_tryWithout 38 = .ok (.iload_n 2, 1) := by decide +kernel
theorem dX7_tryWithout_39 : decode cX7_tryWithout 39 = .ok (.aload_n 0, 1) := by decide +kernel
theorem dX7_tryWithout_40 : decode cX7_tryWithout 40 = .ok (.getfield 45, 3) := by decide +kernel
theorem dX7_tryWithout_43 : decode cX7_tryWithout 43 = .ok (.iload_n 2, 1) := by decide +kernel
theorem dX7_tryWithout_44 : decode cX7_tryWithout 44 = .ok (.invokevirtual 143, 3) := by decide +kernel
theorem dX7_tryWithout_47 : decode cX7_tryWithout 47 = .ok (.iastore, 1) := by decide +kernel
theorem dX7_tryWithout_48 : decode cX7_tryWithout 48 = .ok (.iinc 2 1, 3) := by decide +kernel
theorem dX7_tryWithout_51 : decode cX7_tryWithout 51 = .ok (.goto (-28), 3) := by decide +kernel
theorem dX7_tryWithout_54 : decode cX7_tryWithout 54 = .ok (.return_, 1) := by decide +kernel
theorem dL_law_0 : decode cL_law 0 = .ok (.new 7, 3) := by decide +kernel
theorem dL_law_3 : decode cL_law 3 = .ok (.dup, 1) := by decide +kernel
theorem dL_law_4 : decode cL_law 4 = .ok (.invokespecial 9, 3) := by decide +kernel
theorem dL_law_7 : decode cL_law 7 = .ok (.astore_n 1, 1) := by decide +kernel
theorem dL_law_8 : decode cL_law 8 = .ok (.new 10, 3) := by decide +kernel
theorem dL_law_11 : decode cL_law 11 = .ok (.dup, 1) := by decide +kernel
theorem dL_law_12 : decode cL_law 12 = .ok (.invokespecial 12, 3) := by decide +kernel
theorem dL_law_15 : decode cL_law 15 = .ok (.astore_n 2, 1) := by decide +kernel
theorem dL_law_16 : decode cL_law 16 = .ok (.iconst 0, 1) := by decide +kernel
theorem dL_law_17 : decode cL_law 17 = .ok (.istore_n 3, 1) := by decide +kernel
theorem dL_law_18 : decode cL_law 18 = .ok (.iload_n 3, 1) := by decide +kernel
theorem dL_law_19 : decode cL_law 19 = .ok (.aload_n 0, 1) := by decide +kernel
theorem dL_law_20 : decode cL_law 20 = .ok (.arraylength, 1) := by decide +kernel
theorem dL_law_21 : decode cL_law 21 = .ok (.bipush 6, 2) := by decide +kernel
theorem dL_law_23 : decode cL_law 23 = .ok (.isub, 1) := by decide +kernel
theorem dL_law_24 : decode cL_law 24 = .ok (.if_icmp .gt 992, 3) := by decide +kernel
theorem dL_law_27 : decode cL_law 27 = .ok (.aload_n 0, 1) := by decide +kernel
theorem dL_law_28 : decode cL_law 28 = .ok (.iload_n 3, 1) := by decide +kernel
theorem dL_law_29 : decode cL_law 29 = .ok (.iaload, 1) := by decide +kernel
theorem dL_law_30 : decode cL_law 30 = .ok (.bipush 31, 2) := by decide +kernel
theorem dL_law_32 : decode cL_law 32 = .ok (.iand, 1) := by decide +kernel
theorem dL_law_33 : decode cL_law 33 = .ok (.tableswitch 977 0 27 #[127, 190, 203, 216, 239, 272, 305, 338, 371, 404, 437, 460, 483, 506, 529, 542, 575, 618, 651, 684, 717, 760, 823, 882, 895, 908, 931, 954], 127) := by decide +kernel
theorem dL_law_160 : decode cL_law 160 = .ok (.aload_n 1, 1) := by decide +kernel
theorem dL_law_161 : decode cL_law 161 = .ok (.aload_n 0, 1) := by decide +kernel
theorem dL_law_162 : decode cL_law 162 = .ok (.iload_n 3, 1) := by decide +kernel
theorem dL_law_163 : decode cL_law 163 = .ok (.iconst 1, 1) := by decide +kernel
theorem dL_law_164 : decode cL_law 164 = .ok (.iadd, 1) := by decide +kernel
theorem dL_law_165 : decode cL_law 165 = .ok (.iaload, 1) := by decide +kernel
theorem dL_law_166 : decode cL_law 166 = .ok (.aload_n 0, 1) := by decide +kernel
theorem dL_law_167 : decode cL_law 167 = .ok (.iload_n 3, 1) := by decide +kernel
theorem dL_law_168 : decode cL_law 168 = .ok (.iconst 2, 1) := by decide +kernel
theorem dL_law_169 : decode cL_law 169 = .ok (.iadd, 1) := by decide +kernel
theorem dL_law_170 : decode cL_law 170 = .ok (.iaload, 1) := by decide +kernel
theorem dL_law_171 : decode cL_law 171 = .ok (.i2l, 1) := by decide +kernel
theorem dL_law_172 : decode cL_law 172 = .ok (.bipush 32, 2) := by decide +kernel
theorem dL_law_174 : decode cL_law 174 = .ok (.lshl, 1) := by decide +kernel
theorem dL_law_175 : decode cL_law 175 = .ok (.aload_n 0, 1) := by decide +kernel
theorem dL_law_176 : decode cL_law 176 = .ok (.iload_n 3, 1) := by decide +kernel
theorem dL_law_177 : decode cL_law 177 = .ok (.iconst 3, 1) := by decide +kernel
theorem dL_law_178 : decode cL_law 178 = .ok (.iadd, 1) := by decide +kernel
theorem dL_law_179 : decode cL_law 179 = .ok (.iaload, 1) := by decide +kernel
theorem dL_law_180 : decode cL_law 180 = .ok (.i2l, 1) := by decide +kernel
theorem dL_law_181 : decode cL_law 181 = .ok (.ldc2_w 13, 3) := by decide +kernel
theorem dL_law_184 : decode cL_law 184 = .ok (.land, 1) := by decide +kernel
theorem dL_law_185 : decode cL_law 185 = .ok (.lor, 1) := by decide +kernel
theorem dL_law_186 : decode cL_law 186 = .ok (.invokevirtual 15, 3) := by decide +kernel
theorem dL_law_189 : decode cL_law 189 = .ok (.aload_n 2, 1) := by decide +kernel
theorem dL_law_190 : decode cL_law 190 = .ok (.aload_n 0, 1) := by decide +kernel
theorem dL_law_191 : decode cL_law 191 = .ok (.iload_n 3, 1) := by decide +kernel
theorem dL_law_192 : decode cL_law 192 = .ok (.iconst 1, 1) := by decide +kernel
theorem dL_law_193 : decode cL_law 193 = .ok (.iadd, 1) := by decide +kernel
theorem dL_law_194 : decode cL_law 194 = .ok (.iaload, 1) := by decide +kernel
theorem dL_law_195 : decode cL_law 195 = .ok (.aload_n 0, 1) := by decide +kernel
theorem dL_law_196 : decode cL_law 196 = .ok (.iload_n 3, 1) := by decide +kernel
theorem dL_law_197 : decode cL_law 197 = .ok (.iconst 2, 1) := by decide +kernel
theorem dL_law_198 : decode cL_law 198 = .ok (.iadd, 1) := by decide +kernel
theorem dL_law_199 : decode cL_law 199 = .ok (.iaload, 1) := by decide +kernel
theorem dL_law_200 : decode cL_law 200 = .ok (.i2l, 1) := by decide +kernel
theorem dL_law_201 : decode cL_law 201 = .ok (.bipush 32, 2) := by decide +kernel
theorem dL_law_203 : decode cL_law 203 = .ok (.lshl, 1) := by decide +kernel
theorem dL_law_204 : decode cL_law 204 = .ok (.aload_n 0, 1) := by decide +kernel
theorem dL_law_205 : decode cL_law 205 = .ok (.iload_n 3, 1) := by decide +kernel
theorem dL_law_206 : decode cL_law 206 = .ok (.iconst 3, 1) := by decide +kernel
theorem dL_law_207 : decode cL_law 207 = .ok (.iadd, 1) := by decide +kernel
theorem dL_law_208 : decode cL_law 208 = .ok (.iaload, 1) := by decide +kernel
theorem dL_law_209 : decode cL_law 209 = .ok (.i2l, 1) := by decide +kernel
theorem dL_law_210 : decode cL_law 210 = .ok (.ldc2_w 13, 3) := by decide +kernel
theorem dL_law_213 : decode cL_law 213 = .ok (.land, 1) := by decide +kernel
theorem dL_law_214 : decode cL_law 214 = .ok (.lor, 1) := by decide +kernel
theorem dL_law_215 : decode cL_law 215 = .ok (.invokevirtual 19, 3) := by decide +kernel
theorem dL_law_218 : decode cL_law 218 = .ok (.if_icmp .eq 792, 3) := by decide +kernel
theorem dL_law_221 : decode cL_law 221 = .ok (.iconst 0, 1) := by decide +kernel
theorem dL_law_222 : decode cL_law 222 = .ok (.ireturn, 1) := by decide +kernel
theorem dL_law_223 : decode cL_law 223 = .ok (.aload_n 1, 1) := by decide +kernel
theorem dL_law_224 : decode cL_law 224 = .ok (.invokevirtual 20, 3) := by decide +kernel
theorem dL_law_227 : decode cL_law 227 = .ok (.aload_n 2, 1) := by decide +kernel
theorem dL_law_228 : decode cL_law 228 = .ok (.invokevirtual 24, 3) := by decide +kernel
theorem dL_law_231 : decode cL_law 231 = .ok (.if_icmp .eq 779, 3) := by decide +kernel
theorem dL_law_234 : decode cL_law 234 = .ok (.iconst 0, 1) := by decide +kernel
theorem dL_law_235 : decode cL_law 235 = .ok (.ireturn, 1) := by decide +kernel
theorem dL_law_236 : decode cL_law 236 = .ok (.aload_n 1, 1) := by decide +kernel
theorem dL_law_237 : decode cL_law 237 = .ok (.invokevirtual 25, 3) := by decide +kernel
theorem dL_law_240 : decode cL_law 240 = .ok (.aload_n 2, 1) := by decide +kernel
theorem dL_law_241 : decode cL_law 241 = .ok (.invokevirtual 28, 3) := by decide +kernel
theorem dL_law_244 : decode cL_law 244 = .ok (.if_icmp .eq 766, 3) := by decide +kernel
theorem dL_law_247 : decode cL_law 247 = .ok (.iconst 0, 1) := by decide +kernel
theorem dL_law_248 : decode cL_law 248 = .ok (.ireturn, 1) := by decide +kernel
theorem dL_law_249 : decode cL_law 249 = .ok (.aload_n 1, 1) := by decide +kernel
theorem dL_law_250 : decode cL_law 250 = .ok (.aload_n 0, 1) := by decide +kernel
theorem dL_law_251 : decode cL_law 251 = .ok (.iload_n 3, 1) := by decide +kernel
theorem dL_law_252 : decode cL_law 252 = .ok (.iconst 1, 1) := by decide +kernel
theorem dL_law_253 : decode cL_law 253 = .ok (.iadd, 1) := by decide +kernel
theorem dL_law_254 : decode cL_law 254 = .ok (.iaload, 1) := by decide +kernel
theorem dL_law_255 : decode cL_law 255 = .ok (.invokevirtual 29, 3) := by decide +kernel
theorem dL_law_258 : decode cL_law 258 = .ok (.aload_n 2, 1) := by decide +kernel
theorem dL_law_259 : decode cL_law 259 = .ok (.aload_n 0, 1) := by decide +kernel
theorem dL_law_260 : decode cL_law 260 = .ok (.iload_n 3, 1) := by decide +kernel
theorem dL_law_261 : decode cL_law 261 = .ok (.iconst 1, 1) := by decide +kernel
theorem dL_law_262 : decode cL_law 262 = .ok (.iadd, 1) := by decide +kernel
theorem dL_law_263 : decode cL_law 263 = .ok (.iaload, 1) := by decide +kernel
theorem dL_law_264 : decode cL_law 264 = .ok (.invokevirtual 33, 3) := by decide +kernel
theorem dL_law_267 : decode cL_law 267 = .ok (.if_icmp .eq 743, 3) := by decide +kernel
theorem dL_law_270 : decode cL_law 270 = .ok (.iconst 0, 1) := by decide +kernel
theorem dL_law_271 : decode cL_law 271 = .ok (.ireturn, 1) := by decide +kernel
theorem dL_law_272 : decode cL_law 272 = .ok (.aload_n 1, 1) := by decide +kernel
theorem dL_law_273 : decode cL_law 273 = .ok (.aload_n 0, 1) := by decide +kernel
theorem dL_law_274 : decode cL_law 274 = .ok (.iload_n 3, 1) := by decide +kernel
theorem dL_law_275 : decode cL_law 275 = .ok (.iconst 1, 1) := by decide +kernel
theorem dL_law_276 : decode cL_law 276 = .ok (.iadd, 1) := by decide +kernel
theorem dL_law_277 : decode cL_law 277 = .ok (.iaload, 1) := by decide +kernel
theorem dL_law_278 : decode cL_law 278 = .ok (.aload_n 0, 1) := by decide +kernel
theorem dL_law_279 : decode cL_law 279 = .ok (.iload_n 3, 1) := by decide +kernel
theorem dL_law_280 : decode cL_law 280 = .ok (.iconst 2, 1) := by decide +kernel
theorem dL_law_281 : decode cL_law 281 = .ok (.iadd, 1) := by decide +kernel
theorem dL_law_282 : decode cL_law 282 = .ok (.iaload, 1) := by decide +kernel
theorem dL_law_283 : decode cL_law 283 = .ok (.invokevirtual 34, 3) := by decide +kernel
theorem dL_law_286 : decode cL_law 286 = .ok (.aload_n 2, 1) := by decide +kernel
theorem dL_law_287 : decode cL_law 287 = .ok (.aload_n 0, 1) := by decide +kernel
theorem dL_law_288 : decode cL_law 288 = .ok (.iload_n 3, 1) := by decide +kernel
theorem dL_law_289 : decode cL_law 289 = .ok (.iconst 1, 1) := by decide +kernel
theorem dL_law_290 : decode cL_law 290 = .ok (.iadd, 1) := by decide +kernel
theorem dL_law_291 : decode cL_law 291 = .ok (.iaload, 1) := by decide +kernel
theorem dL_law_292 : decode cL_law 292 = .ok (.aload_n 0, 1) := by decide +kernel
theorem dL_law_293 : decode cL_law 293 = .ok (.iload_n 3, 1) := by decide +kernel
theorem dL_law_294 : decode cL_law 294 = .ok (.iconst 2, 1) := by decide +kernel
theorem dL_law_295 : decode cL_law 295 = .ok (.iadd, 1) := by decide +kernel
theorem dL_law_296 : decode cL_law 296 = .ok (.iaload, 1) := by decide +kernel
theorem dL_law_297 : decode cL_law 297 = .ok (.invokevirtual 38, 3) := by decide +kernel
theorem dL_law_300 : decode cL_law 300 = .ok (.if_icmp .eq 710, 3) := by decide +kernel
theorem dL_law_303 : decode cL_law 303 = .ok (.iconst 0, 1) := by decide +kernel
theorem dL_law_304 : decode cL_law 304 = .ok (.ireturn, 1) := by decide +kernel
theorem dL_law_305 : decode cL_law 305 = .ok (.aload_n 1, 1) := by decide +kernel
theorem dL_law_306 : decode cL_law 306 = .ok (.aload_n 0, 1) := by decide +kernel
theorem dL_law_307 : decode cL_law 307 = .ok (.iload_n 3, 1) := by decide +kernel
theorem dL_law_308 : decode cL_law 308 = .ok (.iconst 1, 1) := by decide +kernel
theorem dL_law_309 : decode cL_law 309 = .ok (.iadd, 1) := by decide +kernel
theorem dL_law_310 : decode cL_law 310 = .ok (.iaload, 1) := by decide +kernel
theorem dL_law_311 : decode cL_law 311 = .ok (.aload_n 0, 1) := by decide +kernel
theorem dL_law_312 : decode cL_law 312 = .ok (.iload_n 3, 1) := by decide +kernel
theorem dL_law_313 : decode cL_law 313 = .ok (.iconst 2, 1) := by decide +kernel
theorem dL_law_314 : decode cL_law 314 = .ok (.iadd, 1) := by decide +kernel
theorem dL_law_315 : decode cL_law 315 = .ok (.iaload, 1) := by decide +kernel
theorem dL_law_316 : decode cL_law 316 = .ok (.invokevirtual 39, 3) := by decide +kernel
theorem dL_law_319 : decode cL_law 319 = .ok (.aload_n 2, 1) := by decide +kernel
theorem dL_law_320 : decode cL_law 320 = .ok (.aload_n 0, 1) := by decide +kernel
theorem dL_law_321 : decode cL_law 321 = .ok (.iload_n 3, 1) := by decide +kernel
theorem dL_law_322 : decode cL_law 322 = .ok (.iconst 1, 1) := by decide +kernel
theorem dL_law_323 : decode cL_law 323 = .ok (.iadd, 1) := by decide +kernel
theorem dL_law_324 : decode cL_law 324 = .ok (.iaload, 1) := by decide +kernel
theorem dL_law_325 : decode cL_law 325 = .ok (.aload_n 0, 1) := by decide +kernel
theorem dL_law_326 : decode cL_law 326 = .ok (.iload_n 3, 1) := by decide +kernel
theorem dL_law_327 : decode cL_law 327 = .ok (.iconst 2, 1) := by decide +kernel
theorem dL_law_328 : decode cL_law 328 = .ok (.iadd, 1) := by decide +kernel
theorem dL_law_329 : decode cL_law 329 = .ok (.iaload, 1) := by decide +kernel
theorem dL_law_330 : decode cL_law 330 = .ok (.invokevirtual 42, 3) := by decide +kernel
theorem dL_law_333 : decode cL_law 333 = .ok (.if_icmp .eq 677, 3) := by decide +kernel
theorem dL_law_336 : decode cL_law 336 = .ok (.iconst 0, 1) := by decide +kernel
theorem dL_law_337 : decode cL_law 337 = .ok (.ireturn, 1) := by decide +kernel
theorem dL_law_338 : decode cL_law 338 = .ok (.aload_n 1, 1) := by decide +kernel
theorem dL_law_339 : decode cL_law 339 = .ok (.aload_n 0, 1) := by decide +kernel
theorem dL_law_340 : decode cL_law 340 = .ok (.iload_n 3, 1) := by decide +kernel
theorem dL_law_341 : decode cL_law 341 = .ok (.iconst 1, 1) := by decide +kernel
theorem dL_law_342 : decode cL_law 342 = .ok (.iadd, 1) := by decide +kernel
theorem dL_law_343 : decode cL_law 343 = .ok (.iaload, 1) := by decide +kernel
theorem dL_law_344 : decode cL_law 344 = .ok (.aload_n 0, 1) := by decide +kernel
theorem dL_law_345 : decode cL_law 345 = .ok (.iload_n 3, 1) := by decide +kernel
theorem dL_law_346 : decode cL_law 346 = .ok (.iconst 2, 1) := by decide +kernel
theorem dL_law_347 : decode cL_law 347 = .ok (.iadd, 1) := by decide +kernel
theorem dL_law_348 : decode cL_law 348 = .ok (.iaload, 1) := by decide +kernel
theorem dL_law_349 : decode cL_law 349 = .ok (.invokevirtual 43, 3) := by decide +kernel
theorem dL_law_352 : decode cL_law 352 = .ok (.aload_n 2, 1) := by decide +kernel
theorem dL_law_353 : decode cL_law 353 = .ok (.aload_n 0, 1) := by decide +kernel
theorem dL_law_354 : decode cL_law 354 = .ok (.iload_n 3, 1) := by decide +kernel
theorem dL_law_355 : decode cL_law 355 = .ok (.iconst 1, 1) := by decide +kernel
theorem dL_law_356 : decode cL_law 356 = .ok (.iadd, 1) := by decide +kernel
theorem dL_law_357 : decode cL_law 357 = .ok (.iaload, 1) := by decide +kernel
theorem dL_law_358 : decode cL_law 358 = .ok (.aload_n 0, 1) := by decide +kernel
theorem dL_law_359 : decode cL_law 359 = .ok (.iload_n 3, 1) := by decide +kernel
theorem dL_law_360 : decode cL_law 360 = .ok (.iconst 2, 1) := by decide +kernel
theorem dL_law_361 : decode cL_law 361 = .ok (.iadd, 1) := by decide +kernel
theorem dL_law_362 : decode cL_law 362 = .ok (.iaload, 1) := by decide +kernel
theorem dL_law_363 : decode cL_law 363 = .ok (.invokevirtual 46, 3) := by decide +kernel
theorem dL_law_366 : decode cL_law 366 = .ok (.if_icmp .eq 644, 3) := by decide +kernel
theorem dL_law_369 : decode cL_law 369 = .ok (.iconst 0, 1) := by decide +kernel
theorem dL_law_370 : decode cL_law 370 = .ok (.ireturn, 1) := by decide +kernel
theorem dL_law_371 : decode cL_law 371 = .ok (.aload_n 1, 1) := by decide +kernel
theorem dL_law_372 : decode cL_law 372 = .ok (.aload_n 0, 1) := by decide +kernel
theorem dL_law_373 : decode cL_law 373 = .ok (.iload_n 3, 1) := by decide +kernel
theorem dL_law_374 : decode cL_law 374 = .ok (.iconst 1, 1) := by decide +kernel
theorem dL_law_375 : decode cL_law 375 = .ok (.iadd, 1) := by decide +kernel
theorem dL_law_376 : decode cL_law 376 = .ok (.iaload, 1) := by decide +kernel
theorem dL_law_377 : decode cL_law 377 = .ok (.aload_n 0, 1) := by decide +kernel
theorem dL_law_378 : decode cL_law 378 = .ok (.iload_n 3, 1) := by decide +kernel
theorem dL_law_379 : decode cL_law 379 = .ok (.iconst 2, 1) := by decide +kernel
theorem dL_law_380 : decode cL_law 380 = .ok (.iadd, 1) := by decide +kernel
theorem dL_law_381 : decode cL_law 381 = .ok (.iaload, 1) := by decide +kernel
theorem dL_law_382 : decode cL_law 382 = .ok (.invokevirtual 47, 3) := by decide +kernel
theorem dL_law_385 : decode cL_law 385 = .ok (.aload_n 2, 1) := by decide +kernel
theorem dL_law_386 : decode cL_law 386 = .ok (.aload_n 0, 1) := by decide +kernel
theorem dL_law_387 : decode cL_law 387 = .ok (.iload_n 3, 1) := by decide +kernel
theorem dL_law_388 : decode cL_law 388 = .ok (.iconst 1, 1) := by decide +kernel
theorem dL_law_389 : decode cL_law 389 = .ok (.iadd, 1) := by decide +kernel
theorem dL_law_390 : decode cL_law 390 = .ok (.iaload, 1) := by decide +kernel
theorem dL_law_391 : decode cL_law 391 = .ok (.aload_n 0, 1) := by decide +kernel
theorem dL_law_392 : decode cL_law 392 = .ok (.iload_n 3, 1) := by decide +kernel
theorem dL_law_393 : decode cL_law 393 = .ok (.iconst 2, 1) := by decide +kernel
theorem dL_law_394 : decode cL_law 394 = .ok (.iadd, 1) := by decide +kernel
theorem dL_law_395 : decode cL_law 395 = .ok (.iaload, 1) := by decide +kernel
theorem dL_law_396 : decode cL_law 396 = .ok (.invokevirtual 50, 3) := by decide +kernel
theorem dL_law_399 : decode cL_law 399 = .ok (.if_icmp .eq 611, 3) := by decide +kernel
theorem dL_law_402 : decode cL_law 402 = .ok (.iconst 0, 1) := by decide +kernel
theorem dL_law_403 : decode cL_law 403 = .ok (.ireturn, 1) := by decide +kernel
theorem dL_law_404 : decode cL_law 404 = .ok (.aload_n 1, 1) := by decide +kernel
theorem dL_law_405 : decode cL_law 405 = .ok (.aload_n 0, 1) := by decide +kernel
theorem dL_law_406 : decode cL_law 406 = .ok (.iload_n 3, 1) := by decide +kernel
theorem dL_law_407 : decode cL_law 407 = .ok (.iconst 1, 1) := by decide +kernel
theorem dL_law_408 : decode cL_law 408 = .ok (.iadd, 1) := by decide +kernel
theorem dL_law_409 : decode cL_law 409 = .ok (.iaload, 1) := by decide +kernel
theorem dL_law_410 : decode cL_law 410 = .ok (.aload_n 0, 1) := by decide +kernel
theorem dL_law_411 : decode cL_law 411 = .ok (.iload_n 3, 1) := by decide +kernel
theorem dL_law_412 : decode cL_law 412 = .ok (.iconst 2, 1) := by decide +kernel
theorem dL_law_413 : decode cL_law 413 = .ok (.iadd, 1) := by decide +kernel
theorem dL_law_414 : decode cL_law 414 = .ok (.iaload, 1) := by decide +kernel
theorem dL_law_415 : decode cL_law 415 = .ok (.invokevirtual 51, 3) := by decide +kernel
theorem dL_law_418 : decode cL_law 418 = .ok (.aload_n 2, 1) := by decide +kernel
theorem dL_law_419 : decode cL_law 419 = .ok (.aload_n 0, 1) := by decide +kernel
theorem dL_law_420 : decode cL_law 420 = .ok (.iload_n 3, 1) := by decide +kernel
theorem dL_law_421 : decode cL_law 421 = .ok (.iconst 1, 1) := by decide +kernel
theorem dL_law_422 : decode cL_law 422 = .ok (.iadd, 1) := by decide +kernel
theorem dL_law_423 : decode cL_law 423 = .ok (.iaload, 1) := by decide +kernel
theorem dL_law_424 : decode cL_law 424 = .ok (.aload_n 0, 1) := by decide +kernel
theorem dL_law_425 : decode cL_law 425 = .ok (.iload_n 3, 1) := by decide +kernel
theorem dL_law_426 : decode cL_law 426 = .ok (.iconst 2, 1) := by decide +kernel
theorem dL_law_427 : decode cL_law 427 = .ok (.iadd, 1) := by decide +kernel
theorem dL_law_428 : decode cL_law 428 = .ok (.iaload, 1) := by decide +kernel
theorem dL_law_429 : decode cL_law 429 = .ok (.invokevirtual 54, 3) := by decide +kernel
theorem dL_law_432 : decode cL_law 432 = .ok (.if_icmp .eq 578, 3) := by decide +kernel
theorem dL_law_435 : decode cL_law 435 = .ok (.iconst 0, 1) := by decide +kernel
theorem dL_law_436 : decode cL_law 436 = .ok (.ireturn, 1) := by decide +kernel
theorem dL_law_437 : decode cL_law 437 = .ok (.aload_n 1, 1) := by decide +kernel
theorem dL_law_438 : decode cL_law 438 = .ok (.aload_n 0, 1) := by decide +kernel
theorem dL_law_439 : decode cL_law 439 = .ok (.iload_n 3, 1) := by decide +kernel
theorem dL_law_440 : decode cL_law 440 = .ok (.iconst 1, 1) := by decide +kernel
theorem dL_law_441 : decode cL_law 441 = .ok (.iadd, 1) := by decide +kernel
theorem dL_law_442 : decode cL_law 442 = .ok (.iaload, 1) := by decide +kernel
theorem dL_law_443 : decode cL_law 443 = .ok (.aload_n 0, 1) := by decide +kernel
theorem dL_law_444 : decode cL_law 444 = .ok (.iload_n 3, 1) := by decide +kernel
theorem dL_law_445 : decode cL_law 445 = .ok (.iconst 2, 1) := by decide +kernel
theorem dL_law_446 : decode cL_law 446 = .ok (.iadd, 1) := by decide +kernel
theorem dL_law_447 : decode cL_law 447 = .ok (.iaload, 1) := by decide +kernel
theorem dL_law_448 : decode cL_law 448 = .ok (.invokevirtual 55, 3) := by decide +kernel
theorem dL_law_451 : decode cL_law 451 = .ok (.aload_n 2, 1) := by decide +kernel
theorem dL_law_452 : decode cL_law 452 = .ok (.aload_n 0, 1) := by decide +kernel
theorem dL_law_453 : decode cL_law 453 = .ok (.iload_n 3, 1) := by decide +kernel
theorem dL_law_454 : decode cL_law 454 = .ok (.iconst 1, 1) := by decide +kernel
theorem dL_law_455 : decode cL_law 455 = .ok (.iadd, 1) := by decide +kernel
theorem dL_law_456 : decode cL_law 456 = .ok (.iaload, 1) := by decide +kernel
theorem dL_law_457 : decode cL_law 457 = .ok (.aload_n 0, 1) := by decide +kernel
theorem dL_law_458 : decode cL_law 458 = .ok (.iload_n 3, 1) := by decide +kernel
theorem dL_law_459 : decode cL_law 459 = .ok (.iconst 2, 1) := by decide +kernel
theorem dL_law_460 : decode cL_law 460 = .ok (.iadd, 1) := by decide +kernel
theorem dL_law_461 : decode cL_law 461 = .ok (.iaload, 1) := by decide +kernel
theorem dL_law_462 : decode cL_law 462 = .ok (.invokevirtual 58, 3) := by decide +kernel
theorem dL_law_465 : decode cL_law 465 = .ok (.if_icmp .eq 545, 3) := by decide +kernel
theorem dL_law_468 : decode cL_law 468 = .ok (.iconst 0, 1) := by decide +kernel
theorem dL_law_469 : decode cL_law 469 = .ok (.ireturn, 1) := by decide +kernel
theorem dL_law_470 : decode cL_law 470 = .ok (.aload_n 1, 1) := by decide +kernel
theorem dL_law_471 : decode cL_law 471 = .ok (.aload_n 0, 1) := by decide +kernel
theorem dL_law_472 : decode cL_law 472 = .ok (.iload_n 3, 1) := by decide +kernel
theorem dL_law_473 : decode cL_law 473 = .ok (.iconst 1, 1) := by decide +kernel
theorem dL_law_474 : decode cL_law 474 = .ok (.iadd, 1) := by decide +kernel
theorem dL_law_475 : decode cL_law 475 = .ok (.iaload, 1) := by decide +kernel
theorem dL_law_476 : decode cL_law 476 = .ok (.invokevirtual 59, 3) := by decide +kernel
theorem dL_law_479 : decode cL_law 479 = .ok (.aload_n 2, 1) := by decide +kernel
theorem dL_law_480 : decode cL_law 480 = .ok (.aload_n 0, 1) := by decide +kernel
theorem dL_law_481 : decode cL_law 481 = .ok (.iload_n 3, 1) := by decide +kernel
theorem dL_law_482 : decode cL_law 482 = .ok (.iconst 1, 1) := by decide +kernel
theorem dL_law_483 : decode cL_law 483 = .ok (.iadd, 1) := by decide +kernel
theorem dL_law_484 : decode cL_law 484 = .ok (.iaload, 1) := by decide +kernel
theorem dL_law_485 : decode cL_law 485 = .ok (.invokevirtual 62, 3) := by decide +kernel
theorem dL_law_488 : decode cL_law 488 = .ok (.if_icmp .eq 522, 3) := by decide +kernel
theorem dL_law_491 : decode cL_law 491 = .ok (.iconst 0, 1) := by decide +kernel
theorem dL_law_492 : decode cL_law 492 = .ok (.ireturn, 1) := by decide +kernel
theorem dL_law_493 : decode cL_law 493 = .ok (.aload_n 1, 1) := by decide +kernel
theorem dL_law_494 : decode cL_law 494 = .ok (.aload_n 0, 1) := by decide +kernel
theorem dL_law_495 : decode cL_law 495 = .ok (.iload_n 3, 1) := by decide +kernel
theorem dL_law_496 : decode cL_law 496 = .ok (.iconst 1, 1) := by decide +kernel
theorem dL_law_497 : decode cL_law 497 = .ok (.iadd, 1) := by decide +kernel
theorem dL_law_498 : decode cL_law 498 = .ok (.iaload, 1) := by decide +kernel
theorem dL_law_499 : decode cL_law 499 = .ok (.invokevirtual 63, 3) := by decide +kernel
theorem dL_law_502 : decode cL_law 502 = .ok (.aload_n 2, 1) := by decide +kernel
theorem dL_law_503 : decode cL_law 503 = .ok (.aload_n 0, 1) := by decide +kernel
theorem dL_law_504 : decode cL_law 504 = .ok (.iload_n 3, 1) := by decide +kernel
theorem dL_law_505 : decode cL_law 505 = .ok (.iconst 1, 1) := by decide +kernel
theorem dL_law_506 : decode cL_law 506 = .ok (.iadd, 1) := by decide +kernel
theorem dL_law_507 : decode cL_law 507 = .ok (.iaload, 1) := by decide +kernel
theorem dL_law_508 : decode cL_law 508 = .ok (.invokevirtual 66, 3) := by decide +kernel
theorem dL_law_511 : decode cL_law 511 = .ok (.if_icmp .eq 499, 3) := by decide +kernel
theorem dL_law_514 : decode cL_law 514 = .ok (.iconst 0, 1) := by decide +kernel
theorem dL_law_515 : decode cL_law 515 = .ok (.ireturn, 1) := by decide +kernel
theorem dL_law_516 : decode cL_law 516 = .ok (.aload_n 1, 1) := by decide +kernel
theorem dL_law_517 : decode cL_law 517 = .ok (.aload_n 0, 1) := by decide +kernel
theorem dL_law_518 : decode cL_law 518 = .ok (.iload_n 3, 1) := by decide +kernel
theorem dL_law_519 : decode cL_law 519 = .ok (.iconst 1, 1) := by decide +kernel
theorem dL_law_520 : decode cL_law 520 = .ok (.iadd, 1) := by decide +kernel
theorem dL_law_521 : decode cL_law 521 = .ok (.iaload, 1) := by decide +kernel
theorem dL_law_522 : decode cL_law 522 = .ok (.invokevirtual 67, 3) := by decide +kernel
theorem dL_law_525 : decode cL_law 525 = .ok (.aload_n 2, 1) := by decide +kernel
theorem dL_law_526 : decode cL_law 526 = .ok (.aload_n 0, 1) := by decide +kernel
theorem dL_law_527 : decode cL_law 527 = .ok (.iload_n 3, 1) := by decide +kernel
theorem dL_law_528 : decode cL_law 528 = .ok (.iconst 1, 1) := by decide +kernel
theorem dL_law_529 : decode cL_law 529 = .ok (.iadd, 1) := by decide +kernel
theorem dL_law_530 : decode cL_law 530 = .ok (.iaload, 1) := by decide +kernel
theorem dL_law_531 : decode cL_law 531 = .ok (.invokevirtual 70, 3) := by decide +kernel
theorem dL_law_534 : decode cL_law 534 = .ok (.if_icmp .eq 476, 3) := by decide +kernel
theorem dL_law_537 : decode cL_law 537 = .ok (.iconst 0, 1) := by decide +kernel
theorem dL_law_538 : decode cL_law 538 = .ok (.ireturn, 1) := by decide +kernel
theorem dL_law_539 : decode cL_law 539 = .ok (.aload_n 1, 1) := by decide +kernel
theorem dL_law_540 : decode cL_law 540 = .ok (.aload_n 0, 1) := by decide +kernel
theorem dL_law_541 : decode cL_law 541 = .ok (.iload_n 3, 1) := by decide +kernel
theorem dL_law_542 : decode cL_law 542 = .ok (.iconst 1, 1) := by decide +kernel
theorem dL_law_543 : decode cL_law 543 = .ok (.iadd, 1) := by decide +kernel
theorem dL_law_544 : decode cL_law 544 = .ok (.iaload, 1) := by decide +kernel
theorem dL_law_545 : decode cL_law 545 = .ok (.invokevirtual 71, 3) := by decide +kernel
theorem dL_law_548 : decode cL_law 548 = .ok (.aload_n 2, 1) := by decide +kernel
theorem dL_law_549 : decode cL_law 549 = .ok (.aload_n 0, 1) := by decide +kernel
theorem dL_law_550 : decode cL_law 550 = .ok (.iload_n 3, 1) := by decide +kernel
theorem dL_law_551 : decode cL_law 551 = .ok (.iconst 1, 1) := by decide +kernel
theorem dL_law_552 : decode cL_law 552 = .ok (.iadd, 1) := by decide +kernel
theorem dL_law_553 : decode cL_law 553 = .ok (.iaload, 1) := by decide +kernel
theorem dL_law_554 : decode cL_law 554 = .ok (.invokevirtual 74, 3) := by decide +kernel
theorem dL_law_557 : decode cL_law 557 = .ok (.if_icmp .eq 453, 3) := by decide +kernel
theorem dL_law_560 : decode cL_law 560 = .ok (.iconst 0, 1) := by decide +kernel
theorem dL_law_561 : decode cL_law 561 = .ok (.ireturn, 1) := by decide +kernel
theorem dL_law_562 : decode cL_law 562 = .ok (.aload_n 1, 1) := by decide +kernel
theorem dL_law_563 : decode cL_law 563 = .ok (.invokevirtual 75, 3) := by decide +kernel
theorem dL_law_566 : decode cL_law 566 = .ok (.aload_n 2, 1) := by decide +kernel
theorem dL_law_567 : decode cL_law 567 = .ok (.invokevirtual 78, 3) := by decide +kernel
theorem dL_law_570 : decode cL_law 570 = .ok (.if_icmp .eq 440, 3) := by decide +kernel
theorem dL_law_573 : decode cL_law 573 = .ok (.iconst 0, 1) := by decide +kernel
theorem dL_law_574 : decode cL_law 574 = .ok (.ireturn, 1) := by decide +kernel
theorem dL_law_575 : decode cL_law 575 = .ok (.aload_n 1, 1) := by decide +kernel
theorem dL_law_576 : decode cL_law 576 = .ok (.aload_n 0, 1) := by decide +kernel
theorem dL_law_577 : decode cL_law 577 = .ok (.iload_n 3, 1) := by decide +kernel
theorem dL_law_578 : decode cL_law 578 = .ok (.iconst 1, 1) := by decide +kernel
theorem dL_law_579 : decode cL_law 579 = .ok (.iadd, 1) := by decide +kernel
theorem dL_law_580 : decode cL_law 580 = .ok (.iaload, 1) := by decide +kernel
theorem dL_law_581 : decode cL_law 581 = .ok (.aload_n 0, 1) := by decide +kernel
theorem dL_law_582 : decode cL_law 582 = .ok (.iload_n 3, 1) := by decide +kernel
theorem dL_law_583 : decode cL_law 583 = .ok (.iconst 2, 1) := by decide +kernel
theorem dL_law_584 : decode cL_law 584 = .ok (.iadd, 1) := by decide +kernel
theorem dL_law_585 : decode cL_law 585 = .ok (.iaload, 1) := by decide +kernel
theorem dL_law_586 : decode cL_law 586 = .ok (.invokevirtual 79, 3) := by decide +kernel
theorem dL_law_589 : decode cL_law 589 = .ok (.aload_n 2, 1) := by decide +kernel
theorem dL_law_590 : decode cL_law 590 = .ok (.aload_n 0, 1) := by decide +kernel
theorem dL_law_591 : decode cL_law 591 = .ok (.iload_n 3, 1) := by decide +kernel
theorem dL_law_592 : decode cL_law 592 = .ok (.iconst 1, 1) := by decide +kernel
theorem dL_law_593 : decode cL_law 593 = .ok (.iadd, 1) := by decide +kernel
theorem dL_law_594 : decode cL_law 594 = .ok (.iaload, 1) := by decide +kernel
theorem dL_law_595 : decode cL_law 595 = .ok (.aload_n 0, 1) := by decide +kernel
theorem dL_law_596 : decode cL_law 596 = .ok (.iload_n 3, 1) := by decide +kernel
theorem dL_law_597 : decode cL_law 597 = .ok (.iconst 2, 1) := by decide +kernel
theorem dL_law_598 : decode cL_law 598 = .ok (.iadd, 1) := by decide +kernel
theorem dL_law_599 : decode cL_law 599 = .ok (.iaload, 1) := by decide +kernel
theorem dL_law_600 : decode cL_law 600 = .ok (.invokevirtual 82, 3) := by decide +kernel
theorem dL_law_603 : decode cL_law 603 = .ok (.if_icmp .eq 407, 3) := by decide +kernel
theorem dL_law_606 : decode cL_law 606 = .ok (.iconst 0, 1) := by decide +kernel
theorem dL_law_607 : decode cL_law 607 = .ok (.ireturn, 1) := by decide +kernel
theorem dL_law_608 : decode cL_law 608 = .ok (.aload_n 1, 1) := by decide +kernel
theorem dL_law_609 : decode cL_law 609 = .ok (.aload_n 0, 1) := by decide +kernel
theorem dL_law_610 : decode cL_law 610 = .ok (.iload_n 3, 1) := by decide +kernel
theorem dL_law_611 : decode cL_law 611 = .ok (.iconst 1, 1) := by decide +kernel
theorem dL_law_612 : decode cL_law 612 = .ok (.iadd, 1) := by decide +kernel
theorem dL_law_613 : decode cL_law 613 = .ok (.iaload, 1) := by decide +kernel
theorem dL_law_614 : decode cL_law 614 = .ok (.aload_n 0, 1) := by decide +kernel
theorem dL_law_615 : decode cL_law 615 = .ok (.iload_n 3, 1) := by decide +kernel
theorem dL_law_616 : decode cL_law 616 = .ok (.iconst 2, 1) := by decide +kernel
theorem dL_law_617 : decode cL_law 617 = .ok (.iadd, 1) := by decide +kernel
theorem dL_law_618 : decode cL_law 618 = .ok (.iaload, 1) := by decide +kernel
theorem dL_law_619 : decode cL_law 619 = .ok (.aload_n 0, 1) := by decide +kernel
theorem dL_law_620 : decode cL_law 620 = .ok (.iload_n 3, 1) := by decide +kernel
theorem dL_law_621 : decode cL_law 621 = .ok (.iconst 3, 1) := by decide +kernel
theorem dL_law_622 : decode cL_law 622 = .ok (.iadd, 1) := by decide +kernel
theorem dL_law_623 : decode cL_law 623 = .ok (.iaload, 1) := by decide +kernel
theorem dL_law_624 : decode cL_law 624 = .ok (.invokevirtual 83, 3) := by decide +kernel
theorem dL_law_627 : decode cL_law 627 = .ok (.aload_n 2, 1) := by decide +kernel
theorem dL_law_628 : decode cL_law 628 = .ok (.aload_n 0, 1) := by decide +kernel
theorem dL_law_629 : decode cL_law 629 = .ok (.iload_n 3, 1) := by decide +kernel
theorem dL_law_630 : decode cL_law 630 = .ok (.iconst 1, 1) := by decide +kernel
theorem dL_law_631 : decode cL_law 631 = .ok (.iadd, 1) := by decide +kernel
theorem dL_law_632 : decode cL_law 632 = .ok (.iaload, 1) := by decide +kernel
theorem dL_law_633 : decode cL_law 633 = .ok (.aload_n 0, 1) := by decide +kernel
theorem dL_law_634 : decode cL_law 634 = .ok (.iload_n 3, 1) := by decide +kernel
theorem dL_law_635 : decode cL_law 635 = .ok (.iconst 2, 1) := by decide +kernel
theorem dL_law_636 : decode cL_law 636 = .ok (.iadd, 1) := by decide +kernel
theorem dL_law_637 : decode cL_law 637 = .ok (.iaload, 1) := by decide +kernel
theorem dL_law_638 : decode cL_law 638 = .ok (.aload_n 0, 1) := by decide +kernel
theorem dL_law_639 : decode cL_law 639 = .ok (.iload_n 3, 1) := by decide +kernel
theorem dL_law_640 : decode cL_law 640 = .ok (.iconst 3, 1) := by decide +kernel
theorem dL_law_641 : decode cL_law 641 = .ok (.iadd, 1) := by decide +kernel
theorem dL_law_642 : decode cL_law 642 = .ok (.iaload, 1) := by decide +kernel
theorem dL_law_643 : decode cL_law 643 = .ok (.invokevirtual 87, 3) := by decide +kernel
theorem dL_law_646 : decode cL_law 646 = .ok (.if_icmp .eq 364, 3) := by decide +kernel
theorem dL_law_649 : decode cL_law 649 = .ok (.iconst 0, 1) := by decide +kernel
theorem dL_law_650 : decode cL_law 650 = .ok (.ireturn, 1) := by decide +kernel
theorem dL_law_651 : decode cL_law 651 = .ok (.aload_n 1, 1) := by decide +kernel
theorem dL_law_652 : decode cL_law 652 = .ok (.aload_n 0, 1) := by decide +kernel
theorem dL_law_653 : decode cL_law 653 = .ok (.iload_n 3, 1) := by decide +kernel
theorem dL_law_654 : decode cL_law 654 = .ok (.iconst 1, 1) := by decide +kernel
theorem dL_law_655 : decode cL_law 655 = .ok (.iadd, 1) := by decide +kernel
theorem dL_law_656 : decode cL_law 656 = .ok (.iaload, 1) := by decide +kernel
theorem dL_law_657 : decode cL_law 657 = .ok (.aload_n 0, 1) := by decide +kernel
theorem dL_law_658 : decode cL_law 658 = .ok (.iload_n 3, 1) := by decide +kernel
theorem dL_law_659 : decode cL_law 659 = .ok (.iconst 2, 1) := by decide +kernel
theorem dL_law_660 : decode cL_law 660 = .ok (.iadd, 1) := by decide +kernel
theorem dL_law_661 : decode cL_law 661 = .ok (.iaload, 1) := by decide +kernel
theorem dL_law_662 : decode cL_law 662 = .ok (.invokevirtual 88, 3) := by decide +kernel
theorem dL_law_665 : decode cL_law 665 = .ok (.aload_n 2, 1) := by decide +kernel
theorem dL_law_666 : decode cL_law 666 = .ok (.aload_n 0, 1) := by decide +kernel
theorem dL_law_667 : decode cL_law 667 = .ok (.iload_n 3, 1) := by decide +kernel
theorem dL_law_668 : decode cL_law 668 = .ok (.iconst 1, 1) := by decide +kernel
theorem dL_law_669 : decode cL_law 669 = .ok (.iadd, 1) := by decide +kernel
theorem dL_law_670 : decode cL_law 670 = .ok (.iaload, 1) := by decide +kernel
theorem dL_law_671 : decode cL_law 671 = .ok (.aload_n 0, 1) := by decide +kernel
theorem dL_law_672 : decode cL_law 672 = .ok (.iload_n 3, 1) := by decide +kernel
theorem dL_law_673 : decode cL_law 673 = .ok (.iconst 2, 1) := by decide +kernel
theorem dL_law_674 : decode cL_law 674 = .ok (.iadd, 1) := by decide +kernel
theorem dL_law_675 : decode cL_law 675 = .ok (.iaload, 1) := by decide +kernel
theorem dL_law_676 : decode cL_law 676 = .ok (.invokevirtual 91, 3) := by decide +kernel
theorem dL_law_679 : decode cL_law 679 = .ok (.if_icmp .eq 331, 3) := by decide +kernel
theorem dL_law_682 : decode cL_law 682 = .ok (.iconst 0, 1) := by decide +kernel
theorem dL_law_683 : decode cL_law 683 = .ok (.ireturn, 1) := by decide +kernel
theorem dL_law_684 : decode cL_law 684 = .ok (.aload_n 1, 1) := by decide +kernel
theorem dL_law_685 : decode cL_law 685 = .ok (.aload_n 0, 1) := by decide +kernel
theorem dL_law_686 : decode cL_law 686 = .ok (.iload_n 3, 1) := by decide +kernel
theorem dL_law_687 : decode cL_law 687 = .ok (.iconst 1, 1) := by decide +kernel
theorem dL_law_688 : decode cL_law 688 = .ok (.iadd, 1) := by decide +kernel
theorem dL_law_689 : decode cL_law 689 = .ok (.iaload, 1) := by decide +kernel
theorem dL_law_690 : decode cL_law 690 = .ok (.aload_n 0, 1) := by decide +kernel
theorem dL_law_691 : decode cL_law 691 = .ok (.iload_n 3, 1) := by decide +kernel
theorem dL_law_692 : decode cL_law 692 = .ok (.iconst 2, 1) := by decide +kernel
theorem dL_law_693 : decode cL_law 693 = .ok (.iadd, 1) := by decide +kernel
theorem dL_law_694 : decode cL_law 694 = .ok (.iaload, 1) := by decide +kernel
theorem dL_law_695 : decode cL_law 695 = .ok (.invokevirtual 92, 3) := by decide +kernel
theorem dL_law_698 : decode cL_law 698 = .ok (.aload_n 2, 1) := by decide +kernel
theorem dL_law_699 : decode cL_law 699 = .ok (.aload_n 0, 1) := by decide +kernel
theorem dL_law_700 : decode cL_law 700 = .ok (.iload_n 3, 1) := by decide +kernel
theorem dL_law_701 : decode cL_law 701 = .ok (.iconst 1, 1) := by decide +kernel
theorem dL_law_702 : decode cL_law 702 = .ok (.iadd, 1) := by decide +kernel
theorem dL_law_703 : decode cL_law 703 = .ok (.iaload, 1) := by decide +kernel
theorem dL_law_704 : decode cL_law 704 = .ok (.aload_n 0, 1) := by decide +kernel
theorem dL_law_705 : decode cL_law 705 = .ok (.iload_n 3, 1) := by decide +kernel
theorem dL_law_706 : decode cL_law 706 = .ok (.iconst 2, 1) := by decide +kernel
theorem dL_law_707 : decode cL_law 707 = .ok (.iadd, 1) := by decide +kernel
theorem dL_law_708 : decode cL_law 708 = .ok (.iaload, 1) := by decide +kernel
theorem dL_law_709 : decode cL_law 709 = .ok (.invokevirtual 95, 3) := by decide +kernel
theorem dL_law_712 : decode cL_law 712 = .ok (.if_icmp .eq 298, 3) := by decide +kernel
theorem dL_law_715 : decode cL_law 715 = .ok (.iconst 0, 1) := by decide +kernel
theorem dL_law_716 : decode cL_law 716 = .ok (.ireturn, 1) := by decide +kernel
theorem dL_law_717 : decode cL_law 717 = .ok (.aload_n 1, 1) := by decide +kernel
theorem dL_law_718 : decode cL_law 718 = .ok (.aload_n 0, 1) := by decide +kernel
theorem dL_law_719 : decode cL_law 719 = .ok (.iload_n 3, 1) := by decide +kernel
theorem dL_law_720 : decode cL_law 720 = .ok (.iconst 1, 1) := by decide +kernel
theorem dL_law_721 : decode cL_law 721 = .ok (.iadd, 1) := by decide +kernel
theorem dL_law_722 : decode cL_law 722 = .ok (.iaload, 1) := by decide +kernel
theorem dL_law_723 : decode cL_law 723 = .ok (.aload_n 0, 1) := by decide +kernel
theorem dL_law_724 : decode cL_law 724 = .ok (.iload_n 3, 1) := by decide +kernel
theorem dL_law_725 : decode cL_law 725 = .ok (.iconst 2, 1) := by decide +kernel
theorem dL_law_726 : decode cL_law 726 = .ok (.iadd, 1) := by decide +kernel
theorem dL_law_727 : decode cL_law 727 = .ok (.iaload, 1) := by decide +kernel
theorem dL_law_728 : decode cL_law 728 = .ok (.invokevirtual 96, 3) := by decide +kernel
theorem dL_law_731 : decode cL_law 731 = .ok (.aload_n 2, 1) := by decide +kernel
theorem dL_law_732 : decode cL_law 732 = .ok (.aload_n 0, 1) := by decide +kernel
theorem dL_law_733 : decode cL_law 733 = .ok (.iload_n 3, 1) := by decide +kernel
theorem dL_law_734 : decode cL_law 734 = .ok (.iconst 1, 1) := by decide +kernel
theorem dL_law_735 : decode cL_law 735 = .ok (.iadd, 1) := by decide +kernel
theorem dL_law_736 : decode cL_law 736 = .ok (.iaload, 1) := by decide +kernel
theorem dL_law_737 : decode cL_law 737 = .ok (.aload_n 0, 1) := by decide +kernel
theorem dL_law_738 : decode cL_law 738 = .ok (.iload_n 3, 1) := by decide +kernel
theorem dL_law_739 : decode cL_law 739 = .ok (.iconst 2, 1) := by decide +kernel
theorem dL_law_740 : decode cL_law 740 = .ok (.iadd, 1) := by decide +kernel
theorem dL_law_741 : decode cL_law 741 = .ok (.iaload, 1) := by decide +kernel
theorem dL_law_742 : decode cL_law 742 = .ok (.invokevirtual 99, 3) := by decide +kernel
theorem dL_law_745 : decode cL_law 745 = .ok (.if_icmp .eq 265, 3) := by decide +kernel
theorem dL_law_748 : decode cL_law 748 = .ok (.iconst 0, 1) := by decide +kernel
theorem dL_law_749 : decode cL_law 749 = .ok (.ireturn, 1) := by decide +kernel
theorem dL_law_750 : decode cL_law 750 = .ok (.aload_n 1, 1) := by decide +kernel
theorem dL_law_751 : decode cL_law 751 = .ok (.aload_n 0, 1) := by decide +kernel
theorem dL_law_752 : decode cL_law 752 = .ok (.iload_n 3, 1) := by decide +kernel
theorem dL_law_753 : decode cL_law 753 = .ok (.iconst 1, 1) := by decide +kernel
theorem dL_law_754 : decode cL_law 754 = .ok (.iadd, 1) := by decide +kernel
theorem dL_law_755 : decode cL_law 755 = .ok (.iaload, 1) := by decide +kernel
theorem dL_law_756 : decode cL_law 756 = .ok (.aload_n 0, 1) := by decide +kernel
theorem dL_law_757 : decode cL_law 757 = .ok (.iload_n 3, 1) := by decide +kernel
theorem dL_law_758 : decode cL_law 758 = .ok (.iconst 2, 1) := by decide +kernel
theorem dL_law_759 : decode cL_law 759 = .ok (.iadd, 1) := by decide +kernel
theorem dL_law_760 : decode cL_law 760 = .ok (.iaload, 1) := by decide +kernel
theorem dL_law_761 : decode cL_law 761 = .ok (.aload_n 0, 1) := by decide +kernel
theorem dL_law_762 : decode cL_law 762 = .ok (.iload_n 3, 1) := by decide +kernel
theorem dL_law_763 : decode cL_law 763 = .ok (.iconst 3, 1) := by decide +kernel
theorem dL_law_764 : decode cL_law 764 = .ok (.iadd, 1) := by decide +kernel
theorem dL_law_765 : decode cL_law 765 = .ok (.iaload, 1) := by decide +kernel
theorem dL_law_766 : decode cL_law 766 = .ok (.invokevirtual 100, 3) := by decide +kernel
theorem dL_law_769 : decode cL_law 769 = .ok (.aload_n 2, 1) := by decide +kernel
theorem dL_law_770 : decode cL_law 770 = .ok (.aload_n 0, 1) := by decide +kernel
theorem dL_law_771 : decode cL_law 771 = .ok (.iload_n 3, 1) := by decide +kernel
theorem dL_law_772 : decode cL_law 772 = .ok (.iconst 1, 1) := by decide +kernel
theorem dL_law_773 : decode cL_law 773 = .ok (.iadd, 1) := by decide +kernel
theorem dL_law_774 : decode cL_law 774 = .ok (.iaload, 1) := by decide +kernel
theorem dL_law_775 : decode cL_law 775 = .ok (.aload_n 0, 1) := by decide +kernel
theorem dL_law_776 : decode cL_law 776 = .ok (.iload_n 3, 1) := by decide +kernel
theorem dL_law_777 : decode cL_law 777 = .ok (.iconst 2, 1) := by decide +kernel
theorem dL_law_778 : decode cL_law 778 = .ok (.iadd, 1) := by decide +kernel
theorem dL_law_779 : decode cL_law 779 = .ok (.iaload, 1) := by decide +kernel
theorem dL_law_780 : decode cL_law 780 = .ok (.aload_n 0, 1) := by decide +kernel
theorem dL_law_781 : decode cL_law 781 = .ok (.iload_n 3, 1) := by decide +kernel
theorem dL_law_782 : decode cL_law 782 = .ok (.iconst 3, 1) := by decide +kernel
theorem dL_law_783 : decode cL_law 783 = .ok (.iadd, 1) := by decide +kernel
theorem dL_law_784 : decode cL_law 784 = .ok (.iaload, 1) := by decide +kernel
theorem dL_law_785 : decode cL_law 785 = .ok (.invokevirtual 103, 3) := by decide +kernel
theorem dL_law_788 : decode cL_law 788 = .ok (.if_icmp .eq 222, 3) := by decide +kernel
theorem dL_law_791 : decode cL_law 791 = .ok (.iconst 0, 1) := by decide +kernel
theorem dL_law_792 : decode cL_law 792 = .ok (.ireturn, 1) := by decide +kernel
theorem dL_law_793 : decode cL_law 793 = .ok (.aload_n 1, 1) := by decide +kernel
theorem dL_law_794 : decode cL_law 794 = .ok (.aload_n 0, 1) := by decide +kernel
theorem dL_law_795 : decode cL_law 795 = .ok (.iload_n 3, 1) := by decide +kernel
theorem dL_law_796 : decode cL_law 796 = .ok (.iconst 1, 1) := by decide +kernel
theorem dL_law_797 : decode cL_law 797 = .ok (.iadd, 1) := by decide +kernel
theorem dL_law_798 : decode cL_law 798 = .ok (.iaload, 1) := by decide +kernel
theorem dL_law_799 : decode cL_law 799 = .ok (.aload_n 0, 1) := by decide +kernel
theorem dL_law_800 : decode cL_law 800 = .ok (.iload_n 3, 1) := by decide +kernel
theorem dL_law_801 : decode cL_law 801 = .ok (.iconst 2, 1) := by decide +kernel
theorem dL_law_802 : decode cL_law 802 = .ok (.iadd, 1) := by decide +kernel
theorem dL_law_803 : decode cL_law 803 = .ok (.iaload, 1) := by decide +kernel
theorem dL_law_804 : decode cL_law 804 = .ok (.aload_n 0, 1) := by decide +kernel
theorem dL_law_805 : decode cL_law 805 = .ok (.iload_n 3, 1) := by decide +kernel
theorem dL_law_806 : decode cL_law 806 = .ok (.iconst 3, 1) := by decide +kernel
theorem dL_law_807 : decode cL_law 807 = .ok (.iadd, 1) := by decide +kernel
theorem dL_law_808 : decode cL_law 808 = .ok (.iaload, 1) := by decide +kernel
theorem dL_law_809 : decode cL_law 809 = .ok (.aload_n 0, 1) := by decide +kernel
theorem dL_law_810 : decode cL_law 810 = .ok (.iload_n 3, 1) := by decide +kernel
theorem dL_law_811 : decode cL_law 811 = .ok (.iconst 4, 1) := by decide +kernel
theorem dL_law_812 : decode cL_law 812 = .ok (.iadd, 1) := by decide +kernel
theorem dL_law_813 : decode cL_law 813 = .ok (.iaload, 1) := by decide +kernel
theorem dL_law_814 : decode cL_law 814 = .ok (.aload_n 0, 1) := by decide +kernel
theorem dL_law_815 : decode cL_law 815 = .ok (.iload_n 3, 1) := by decide +kernel
theorem dL_law_816 : decode cL_law 816 = .ok (.iconst 5, 1) := by decide +kernel
theorem dL_law_817 : decode cL_law 817 = .ok (.iadd, 1) := by decide +kernel
theorem dL_law_818 : decode cL_law 818 = .ok (.iaload, 1) := by decide +kernel
theorem dL_law_819 : decode cL_law 819 = .ok (.invokevirtual 104, 3) := by decide +kernel
theorem dL_law_822 : decode cL_law 822 = .ok (.aload_n 2, 1) := by decide +kernel
theorem dL_law_823 : decode cL_law 823 = .ok (.aload_n 0, 1) := by decide +kernel
theorem dL_law_824 : decode cL_law 824 = .ok (.iload_n 3, 1) := by decide +kernel
theorem dL_law_825 : decode cL_law 825 = .ok (.iconst 1, 1) := by decide +kernel
theorem dL_law_826 : decode cL_law 826 = .ok (.iadd, 1) := by decide +kernel
theorem dL_law_827 : decode cL_law 827 = .ok (.iaload, 1) := by decide +kernel
theorem dL_law_828 : decode cL_law 828 = .ok (.aload_n 0, 1) := by decide +kernel
theorem dL_law_829 : decode cL_law 829 = .ok (.iload_n 3, 1) := by decide +kernel
theorem dL_law_830 : decode cL_law 830 = .ok (.iconst 2, 1) := by decide +kernel
theorem dL_law_831 : decode cL_law 831 = .ok (.iadd, 1) := by decide +kernel
theorem dL_law_832 : decode cL_law 832 = .ok (.iaload, 1) := by decide +kernel
theorem dL_law_833 : decode cL_law 833 = .ok (.aload_n 0, 1) := by decide +kernel
theorem dL_law_834 : decode cL_law 834 = .ok (.iload_n 3, 1) := by decide +kernel
theorem dL_law_835 : decode cL_law 835 = .ok (.iconst 3, 1) := by decide +kernel
theorem dL_law_836 : decode cL_law 836 = .ok (.iadd, 1) := by decide +kernel
theorem dL_law_837 : decode cL_law 837 = .ok (.iaload, 1) := by decide +kernel
theorem dL_law_838 : decode cL_law 838 = .ok (.aload_n 0, 1) := by decide +kernel
theorem dL_law_839 : decode cL_law 839 = .ok (.iload_n 3, 1) := by decide +kernel
theorem dL_law_840 : decode cL_law 840 = .ok (.iconst 4, 1) := by decide +kernel
theorem dL_law_841 : decode cL_law 841 = .ok (.iadd, 1) := by decide +kernel
theorem dL_law_842 : decode cL_law 842 = .ok (.iaload, 1) := by decide +kernel
theorem dL_law_843 : decode cL_law 843 = .ok (.aload_n 0, 1) := by decide +kernel
theorem dL_law_844 : decode cL_law 844 = .ok (.iload_n 3, 1) := by decide +kernel
theorem dL_law_845 : decode cL_law 845 = .ok (.iconst 5, 1) := by decide +kernel
theorem dL_law_846 : decode cL_law 846 = .ok (.iadd, 1) := by decide +kernel
theorem dL_law_847 : decode cL_law 847 = .ok (.iaload, 1) := by decide +kernel
theorem dL_law_848 : decode cL_law 848 = .ok (.invokevirtual 108, 3) := by decide +kernel
theorem dL_law_851 : decode cL_law 851 = .ok (.if_icmp .eq 159, 3) := by decide +kernel
theorem dL_law_854 : decode cL_law 854 = .ok (.iconst 0, 1) := by decide +kernel
theorem dL_law_855 : decode cL_law 855 = .ok (.ireturn, 1) := by decide +kernel
theorem dL_law_856 : decode cL_law 856 = .ok (.aload_n 1, 1) := by decide +kernel
theorem dL_law_857 : decode cL_law 857 = .ok (.aload_n 0, 1) := by decide +kernel
theorem dL_law_858 : decode cL_law 858 = .ok (.iload_n 3, 1) := by decide +kernel
theorem dL_law_859 : decode cL_law 859 = .ok (.iconst 1, 1) := by decide +kernel
theorem dL_law_860 : decode cL_law 860 = .ok (.iadd, 1) := by decide +kernel
theorem dL_law_861 : decode cL_law 861 = .ok (.iaload, 1) := by decide +kernel
theorem dL_law_862 : decode cL_law 862 = .ok (.aload_n 0, 1) := by decide +kernel
theorem dL_law_863 : decode cL_law 863 = .ok (.iload_n 3, 1) := by decide +kernel
theorem dL_law_864 : decode cL_law 864 = .ok (.iconst 2, 1) := by decide +kernel
theorem dL_law_865 : decode cL_law 865 = .ok (.iadd, 1) := by decide +kernel
theorem dL_law_866 : decode cL_law 866 = .ok (.iaload, 1) := by decide +kernel
theorem dL_law_867 : decode cL_law 867 = .ok (.aload_n 0, 1) := by decide +kernel
theorem dL_law_868 : decode cL_law 868 = .ok (.iload_n 3, 1) := by decide +kernel
theorem dL_law_869 : decode cL_law 869 = .ok (.iconst 3, 1) := by decide +kernel
theorem dL_law_870 : decode cL_law 870 = .ok (.iadd, 1) := by decide +kernel
theorem dL_law_871 : decode cL_law 871 = .ok (.iaload, 1) := by decide +kernel
theorem dL_law_872 : decode cL_law 872 = .ok (.ifCond .eq 7, 3) := by decide +kernel
theorem dL_law_875 : decode cL_law 875 = .ok (.iconst 1, 1) := by decide +kernel
theorem dL_law_876 : decode cL_law 876 = .ok (.goto 4, 3) := by decide +kernel
theorem dL_law_879 : decode cL_law 879 = .ok (.iconst 0, 1) := by decide +kernel
theorem dL_law_880 : decode cL_law 880 = .ok (.invokevirtual 109, 3) := by decide +kernel
theorem dL_law_883 : decode cL_law 883 = .ok (.aload_n 2, 1) := by decide +kernel
theorem dL_law_884 : decode cL_law 884 = .ok (.aload_n 0, 1) := by decide +kernel
theorem dL_law_885 : decode cL_law 885 = .ok (.iload_n 3, 1) := by decide +kernel
theorem dL_law_886 : decode cL_law 886 = .ok (.iconst 1, 1) := by decide +kernel
theorem dL_law_887 : decode cL_law 887 = .ok (.iadd, 1) := by decide +kernel
theorem dL_law_888 : decode cL_law 888 = .ok (.iaload, 1) := by decide +kernel
theorem dL_law_889 : decode cL_law 889 = .ok (.aload_n 0, 1) := by decide +kernel
theorem dL_law_890 : decode cL_law 890 = .ok (.iload_n 3, 1) := by decide +kernel
theorem dL_law_891 : decode cL_law 891 = .ok (.iconst 2, 1) := by decide +kernel
theorem dL_law_892 : decode cL_law 892 = .ok (.iadd, 1) := by decide +kernel
theorem dL_law_893 : decode cL_law 893 = .ok (.iaload, 1) := by decide +kernel
theorem dL_law_894 : decode cL_law 894 = .ok (.aload_n 0, 1) := by decide +kernel
theorem dL_law_895 : decode cL_law 895 = .ok (.iload_n 3, 1) := by decide +kernel
theorem dL_law_896 : decode cL_law 896 = .ok (.iconst 3, 1) := by decide +kernel
theorem dL_law_897 : decode cL_law 897 = .ok (.iadd, 1) := by decide +kernel
theorem dL_law_898 : decode cL_law 898 = .ok (.iaload, 1) := by decide +kernel
theorem dL_law_899 : decode cL_law 899 = .ok (.ifCond .eq 7, 3) := by decide +kernel
theorem dL_law_902 : decode cL_law 902 = .ok (.iconst 1, 1) := by decide +kernel
theorem dL_law_903 : decode cL_law 903 = .ok (.goto 4, 3) := by decide +kernel
theorem dL_law_906 : decode cL_law 906 = .ok (.iconst 0, 1) := by decide +kernel
theorem dL_law_907 : decode cL_law 907 = .ok (.invokevirtual 113, 3) := by decide +kernel
theorem dL_law_910 : decode cL_law 910 = .ok (.if_icmp .eq 100, 3) := by decide +kernel
theorem dL_law_913 : decode cL_law 913 = .ok (.iconst 0, 1) := by decide +kernel
theorem dL_law_914 : decode cL_law 914 = .ok (.ireturn, 1) := by decide +kernel
theorem dL_law_915 : decode cL_law 915 = .ok (.aload_n 1, 1) := by decide +kernel
theorem dL_law_916 : decode cL_law 916 = .ok (.invokevirtual 114, 3) := by decide +kernel
theorem dL_law_919 : decode cL_law 919 = .ok (.aload_n 2, 1) := by decide +kernel
theorem dL_law_920 : decode cL_law 920 = .ok (.invokevirtual 117, 3) := by decide +kernel
theorem dL_law_923 : decode cL_law 923 = .ok (.if_icmp .eq 87, 3) := by decide +kernel
theorem dL_law_926 : decode cL_law 926 = .ok (.iconst 0, 1) := by decide +kernel
theorem dL_law_927 : decode cL_law 927 = .ok (.ireturn, 1) := by decide +kernel
theorem dL_law_928 : decode cL_law 928 = .ok (.aload_n 1, 1) := by decide +kernel
theorem dL_law_929 : decode cL_law 929 = .ok (.invokevirtual 118, 3) := by decide +kernel
theorem dL_law_932 : decode cL_law 932 = .ok (.aload_n 2, 1) := by decide +kernel
theorem dL_law_933 : decode cL_law 933 = .ok (.invokevirtual 121, 3) := by decide +kernel
theorem dL_law_936 : decode cL_law 936 = .ok (.if_icmp .eq 74, 3) := by decide +kernel
theorem dL_law_939 : decode cL_law 939 = .ok (.iconst 0, 1) := by decide +kernel
theorem dL_law_940 : decode cL_law 940 = .ok (.ireturn, 1) := by decide +kernel
theorem dL_law_941 : decode cL_law 941 = .ok (.aload_n 1, 1) := by decide +kernel
theorem dL_law_942 : decode cL_law 942 = .ok (.aload_n 0, 1) := by decide +kernel
theorem dL_law_943 : decode cL_law 943 = .ok (.iload_n 3, 1) := by decide +kernel
theorem dL_law_944 : decode cL_law 944 = .ok (.iconst 1, 1) := by decide +kernel
theorem dL_law_945 : decode cL_law 945 = .ok (.iadd, 1) := by decide +kernel
theorem dL_law_946 : decode cL_law 946 = .ok (.iaload, 1) := by decide +kernel
theorem dL_law_947 : decode cL_law 947 = .ok (.invokevirtual 122, 3) := by decide +kernel
theorem dL_law_950 : decode cL_law 950 = .ok (.aload_n 2, 1) := by decide +kernel
theorem dL_law_951 : decode cL_law 951 = .ok (.aload_n 0, 1) := by decide +kernel
theorem dL_law_952 : decode cL_law 952 = .ok (.iload_n 3, 1) := by decide +kernel
theorem dL_law_953 : decode cL_law 953 = .ok (.iconst 1, 1) := by decide +kernel
theorem dL_law_954 : decode cL_law 954 = .ok (.iadd, 1) := by decide +kernel
theorem dL_law_955 : decode cL_law 955 = .ok (.iaload, 1) := by decide +kernel
theorem dL_law_956 : decode cL_law 956 = .ok (.invokevirtual 125, 3) := by decide +kernel
theorem dL_law_959 : decode cL_law 959 = .ok (.if_icmp .eq 51, 3) := by decide +kernel
theorem dL_law_962 : decode cL_law 962 = .ok (.iconst 0, 1) := by decide +kernel
theorem dL_law_963 : decode cL_law 963 = .ok (.ireturn, 1) := by decide +kernel
theorem dL_law_964 : decode cL_law 964 = .ok (.aload_n 1, 1) := by decide +kernel
theorem dL_law_965 : decode cL_law 965 = .ok (.aload_n 0, 1) := by decide +kernel
theorem dL_law_966 : decode cL_law 966 = .ok (.iload_n 3, 1) := by decide +kernel
theorem dL_law_967 : decode cL_law 967 = .ok (.iconst 1, 1) := by decide +kernel
theorem dL_law_968 : decode cL_law 968 = .ok (.iadd, 1) := by decide +kernel
theorem dL_law_969 : decode cL_law 969 = .ok (.iaload, 1) := by decide +kernel
theorem dL_law_970 : decode cL_law 970 = .ok (.invokevirtual 126, 3) := by decide +kernel
theorem dL_law_973 : decode cL_law 973 = .ok (.aload_n 2, 1) := by decide +kernel
theorem dL_law_974 : decode cL_law 974 = .ok (.aload_n 0, 1) := by decide +kernel
theorem dL_law_975 : decode cL_law 975 = .ok (.iload_n 3, 1) := by decide +kernel
theorem dL_law_976 : decode cL_law 976 = .ok (.iconst 1, 1) := by decide +kernel
theorem dL_law_977 : decode cL_law 977 = .ok (.iadd, 1) := by decide +kernel
theorem dL_law_978 : decode cL_law 978 = .ok (.iaload, 1) := by decide +kernel
theorem dL_law_979 : decode cL_law 979 = .ok (.invokevirtual 129, 3) := by decide +kernel
theorem dL_law_982 : decode cL_law 982 = .ok (.if_icmp .eq 28, 3) := by decide +kernel
theorem dL_law_985 : decode cL_law 985 = .ok (.iconst 0, 1) := by decide +kernel
theorem dL_law_986 : decode cL_law 986 = .ok (.ireturn, 1) := by decide +kernel
theorem dL_law_987 : decode cL_law 987 = .ok (.aload_n 1, 1) := by decide +kernel
theorem dL_law_988 : decode cL_law 988 = .ok (.aload_n 0, 1) := by decide +kernel
theorem dL_law_989 : decode cL_law 989 = .ok (.iload_n 3, 1) := by decide +kernel
theorem dL_law_990 : decode cL_law 990 = .ok (.iconst 1, 1) := by decide +kernel
theorem dL_law_991 : decode cL_law 991 = .ok (.iadd, 1) := by decide +kernel
theorem dL_law_992 : decode cL_law 992 = .ok (.iaload, 1) := by decide +kernel
theorem dL_law_993 : decode cL_law 993 = .ok (.invokevirtual 130, 3) := by decide +kernel
theorem dL_law_996 : decode cL_law 996 = .ok (.aload_n 2, 1) := by decide +kernel
theorem dL_law_997 : decode cL_law 997 = .ok (.aload_n 0, 1) := by decide +kernel
theorem dL_law_998 : decode cL_law 998 = .ok (.iload_n 3, 1) := by decide +kernel
theorem dL_law_999 : decode cL_law 999 = .ok (.iconst 1, 1) := by decide +kernel
theorem dL_law_1000 : decode cL_law 1000 = .ok (.iadd, 1) := by decide +kernel
theorem dL_law_1001 : decode cL_law 1001 = .ok (.iaload, 1) := by decide +kernel
theorem dL_law_1002 : decode cL_law 1002 = .ok (.invokevirtual 133, 3) := by decide +kernel
theorem dL_law_1005 : decode cL_law 1005 = .ok (.if_icmp .eq 5, 3) := by decide +kernel
theorem dL_law_1008 : decode cL_law 1008 = .ok (.iconst 0, 1) := by decide +kernel
theorem dL_law_1009 : decode cL_law 1009 = .ok (.ireturn, 1) := by decide +kernel
theorem dL_law_1010 : decode cL_law 1010 = .ok (.iinc 3 6, 3) := by decide +kernel
theorem dL_law_1013 : decode cL_law 1013 = .ok (.goto (-995), 3) := by decide +kernel
theorem dL_law_1016 : decode cL_law 1016 = .ok (.iconst 1, 1) := by decide +kernel
theorem dL_law_1017 : decode cL_law 1017 = .ok (.ireturn, 1) := by decide +kernel
theorem dJ0_length_8abf5_0 : decode cJ0_length_8abf5 0 = .ok (.aload_n 0, 1) := by decide +kernel
theorem dJ0_length_8abf5_1 : decode cJ0_length_8abf5 1 = .ok (.getfield 9, 3) := by decide +kernel
theorem dJ0_length_8abf5_4 : decode cJ0_length_8abf5 4 = .ok (.arraylength, 1) := by decide +kernel
theorem dJ0_length_8abf5_5 : decode cJ0_length_8abf5 5 = .ok (.aload_n 0, 1) := by decide +kernel
theorem dJ0_length_8abf5_6 : decode cJ0_length_8abf5 6 = .ok (.invokevirtual 335, 3) := by decide +kernel
theorem dJ0_length_8abf5_9 : decode cJ0_length_8abf5 9 = .ok (.ishr, 1) := by decide +kernel
theorem dJ0_length_8abf5_10 : decode cJ0_length_8abf5 10 = .ok (.ireturn, 1) := by decide +kernel
theorem dJ0_charAt_5068e_0 : decode cJ0_charAt_5068e 0 = .ok (.aload_n 0, 1) := by decide +kernel
theorem dJ0_charAt_5068e_1 : decode cJ0_charAt_5068e 1 = .ok (.invokevirtual 492, 3) := by decide +kernel
theorem dJ0_charAt_5068e_4 : decode cJ0_charAt_5068e 4 = .ok (.ifCond .eq 12, 3) := by decide +kernel
theorem dJ0_charAt_5068e_7 : decode cJ0_charAt_5068e 7 = .ok (.aload_n 0, 1) := by decide +kernel
theorem dJ0_charAt_5068e_8 : decode cJ0_charAt_5068e 8 = .ok (.getfield 9, 3) := by decide +kernel
theorem dJ0_charAt_5068e_11 : decode cJ0_charAt_5068e 11 = .ok (.iload_n 1, 1) := by decide +kernel
theorem dJ0_charAt_5068e_12 : decode cJ0_charAt_5068e 12 = .ok (.invokestatic 495, 3) := by decide +kernel
theorem dJ0_charAt_5068e_15 : decode cJ0_charAt_5068e 15 = .ok (.ireturn, 1) := by decide +kernel
theorem dJ0_charAt_5068e_16 : decode cJ0_charAt_5068e 16 = .ok (.aload_n 0, 1) := by decide +kernel
theorem dJ0_charAt_5068e_17 : decode cJ0_charAt_5068e 17 = .ok (.getfield 9, 3) := by decide +kernel
theorem dJ0_charAt_5068e_20 : decode cJ0_charAt_5068e 20 = .ok (.iload_n 1, 1) := by decide +kernel
theorem dJ0_charAt_5068e_21 : decode cJ0_charAt_5068e 21 = .ok (.invokestatic 498, 3) := by decide +kernel
theorem dJ0_charAt_5068e_24 : decode cJ0_charAt_5068e 24 = .ok (.ireturn, 1) := by decide +kernel
theorem dJ0_coder_7d493_0 : decode cJ0_coder_7d493 0 = .ok (.getstatic 38, 3) := by decide +kernel
theorem dJ0_coder_7d493_3 : decode cJ0_coder_7d493 3 = .ok (.ifCond .eq 10, 3) := by decide +kernel
theorem dJ0_coder_7d493_6 : decode cJ0_coder_7d493 6 = .ok (.aload_n 0, 1) := by decide +kernel
theorem dJ0_coder_7d493_7 : decode cJ0_coder_7d493 7 = .ok (.getfield 15, 3) := by decide +kernel
theorem dJ0_coder_7d493_10 : decode cJ0_coder_7d493 10 = .ok (.goto 4, 3) := by decide +kernel
theorem dJ0_coder_7d493_13 : decode cJ0_coder_7d493 13 = .ok (.iconst 1, 1) := by decide +kernel
theorem dJ0_coder_7d493_14 : decode cJ0_coder_7d493 14 = .ok (.ireturn, 1) := by decide +kernel
theorem dJ0_isLatin1_aae02_0 : decode cJ0_isLatin1_aae02 0 = .ok (.getstatic 38, 3) := by decide +kernel
theorem dJ0_isLatin1_aae02_3 : decode cJ0_isLatin1_aae02 3 = .ok (.ifCond .eq 14, 3) := by decide +kernel
theorem dJ0_isLatin1_aae02_6 : decode cJ0_isLatin1_aae02 6 = .ok (.aload_n 0, 1) := by decide +kernel
theorem dJ0_isLatin1_aae02_7 : decode cJ0_isLatin1_aae02 7 = .ok (.getfield 15, 3) := by decide +kernel
theorem dJ0_isLatin1_aae02_10 : decode cJ0_isLatin1_aae02 10 = .ok (.ifCond .ne 7, 3) := by decide +kernel
theorem dJ0_isLatin1_aae02_13 : decode cJ0_isLatin1_aae02 13 = .ok (.iconst 1, 1) := by decide +kernel
theorem dJ0_isLatin1_aae02_14 : decode cJ0_isLatin1_aae02 14 = .ok (.goto 4, 3) := by decide +kernel
theorem dJ0_isLatin1_aae02_17 : decode cJ0_isLatin1_aae02 17 = .ok (.iconst 0, 1) := by decide +kernel
theorem dJ0_isLatin1_aae02_18 : decode cJ0_isLatin1_aae02 18 = .ok (.ireturn, 1) := by decide +kernel
theorem dJ0_checkIndex_df160_0 : decode cJ0_checkIndex_df160 0 = .ok (.iload_n 0, 1) := by decide +kernel
theorem dJ0_checkIndex_df160_1 : decode cJ0_checkIndex_df160 1 = .ok (.iload_n 1, 1) := by decide +kernel
theorem dJ0_checkIndex_df160_2 : decode cJ0_checkIndex_df160 2 = .ok (.getstatic 1053, 3) := by decide +kernel
theorem dJ0_checkIndex_df160_5 : decode cJ0_checkIndex_df160 5 = .ok (.invokestatic 1059, 3) := by decide +kernel
theorem dJ0_checkIndex_df160_8 : decode cJ0_checkIndex_df160 8 = .ok (.pop, 1) := by decide +kernel
theorem dJ0_checkIndex_df160_9 : decode cJ0_checkIndex_df160 9 = .ok (.return_, 1) := by decide +kernel
theorem dJ1_charAt_3b067_0 : decode cJ1_charAt_3b067 0 = .ok (.iload_n 1, 1) := by decide +kernel
theorem dJ1_charAt_3b067_1 : decode cJ1_charAt_3b067 1 = .ok (.aload_n 0, 1) := by decide +kernel
theorem dJ1_charAt_3b067_2 : decode cJ1_charAt_3b067 2 = .ok (.arraylength, 1) := by decide +kernel
theorem dJ1_charAt_3b067_3 : decode cJ1_charAt_3b067 3 = .ok (.invokestatic 9, 3) := by decide +kernel
theorem dJ1_charAt_3b067_6 : decode cJ1_charAt_3b067 6 = .ok (.aload_n 0, 1) := by decide +kernel
theorem dJ1_charAt_3b067_7 : decode cJ1_charAt_3b067 7 = .ok (.iload_n 1, 1) := by decide +kernel
theorem dJ1_charAt_3b067_8 : decode cJ1_charAt_3b067 8 = .ok (.baload, 1) := by decide +kernel
theorem dJ1_charAt_3b067_9 : decode cJ1_charAt_3b067 9 = .ok (.sipush 255, 3) := by decide +kernel
theorem dJ1_charAt_3b067_12 : decode cJ1_charAt_3b067 12 = .ok (.iand, 1) := by decide +kernel
theorem dJ1_charAt_3b067_13 : decode cJ1_charAt_3b067 13 = .ok (.i2c, 1) := by decide +kernel
theorem dJ1_charAt_3b067_14 : decode cJ1_charAt_3b067 14 = .ok (.ireturn, 1) := by decide +kernel
theorem dJ3_checkIndex_8e157_0 : decode cJ3_checkIndex_8e157 0 = .ok (.iload_n 0, 1) := by decide +kernel
theorem dJ3_checkIndex_8e157_1 : decode cJ3_checkIndex_8e157 1 = .ok (.ifCond .lt 8, 3) := by decide +kernel
theorem dJ3_checkIndex_8e157_4 : decode cJ3_checkIndex_8e157 4 = .ok (.iload_n 0, 1) := by decide +kernel
theorem dJ3_checkIndex_8e157_5 : decode cJ3_checkIndex_8e157 5 = .ok (.iload_n 1, 1) := by decide +kernel
theorem dJ3_checkIndex_8e157_6 : decode cJ3_checkIndex_8e157 6 = .ok (.if_icmp .lt 10, 3) := by decide +kernel
theorem dJ3_checkIndex_8e157_9 : decode cJ3_checkIndex_8e157 9 = .ok (.aload_n 2, 1) := by decide +kernel
theorem dJ3_checkIndex_8e157_10 : decode cJ3_checkIndex_8e157 10 = .ok (.iload_n 0, 1) := by decide +kernel
theorem dJ3_checkIndex_8e157_11 : decode cJ3_checkIndex_8e157 11 = .ok (.iload_n 1, 1) := by decide +kernel
theorem dJ3_checkIndex_8e157_12 : decode cJ3_checkIndex_8e157 12 = .ok (.invokestatic 95, 3) := by decide +kernel
theorem dJ3_checkIndex_8e157_15 : decode cJ3_checkIndex_8e157 15 = .ok (.athrow, 1) := by decide +kernel
theorem dJ3_checkIndex_8e157_16 : decode cJ3_checkIndex_8e157 16 = .ok (.iload_n 0, 1) := by decide +kernel
theorem dJ3_checkIndex_8e157_17 : decode cJ3_checkIndex_8e157 17 = .ok (.ireturn, 1) := by decide +kernel
theorem dJ7_fill_53178_0 : decode cJ7_fill_53178 0 = .ok (.iconst 0, 1) := by decide +kernel
theorem dJ7_fill_53178_1 : decode cJ7_fill_53178 1 = .ok (.istore_n 2, 1) := by decide +kernel
theorem dJ7_fill_53178_2 : decode cJ7_fill_53178 2 = .ok (.aload_n 0, 1) := by decide +kernel
theorem dJ7_fill_53178_3 : decode cJ7_fill_53178 3 = .ok (.arraylength, 1) := by decide +kernel
theorem dJ7_fill_53178_4 : decode cJ7_fill_53178 4 = .ok (.istore_n 3, 1) := by decide +kernel
theorem dJ7_fill_53178_5 : decode cJ7_fill_53178 5 = .ok (.iload_n 2, 1) := by decide +kernel
theorem dJ7_fill_53178_6 : decode cJ7_fill_53178 6 = .ok (.iload_n 3, 1) := by decide +kernel
theorem dJ7_fill_53178_7 : decode cJ7_fill_53178 7 = .ok (.if_icmp .ge 13, 3) := by decide +kernel
theorem dJ7_fill_53178_10 : decode cJ7_fill_53178 10 = .ok (.aload_n 0, 1) := by decide +kernel
theorem dJ7_fill_53178_11 : decode cJ7_fill_53178 11 = .ok (.iload_n 2, 1) := by decide +kernel
theorem dJ7_fill_53178_12 : decode cJ7_fill_53178 12 = .ok (.iload_n 1, 1) := by decide +kernel
theorem dJ7_fill_53178_13 : decode cJ7_fill_53178 13 = .ok (.iastore, 1) := by decide +kernel
theorem dJ7_fill_53178_14 : decode cJ7_fill_53178 14 = .ok (.iinc 2 1, 3) := by decide +kernel
theorem dJ7_fill_53178_17 : decode cJ7_fill_53178 17 = .ok (.goto (-12), 3) := by decide +kernel
theorem dJ7_fill_53178_20 : decode cJ7_fill_53178 20 = .ok (.return_, 1) := by decide +kernel
end
section
theorem dX8_init_0 : decode cX8_init 0 = .ok (.aload_n 0, 1) := by decide +kernel
theorem dX8_init_1 : decode cX8_init 1 = .ok (.invokespecial 1, 3) := by decide +kernel
theorem dX8_init_4 : decode cX8_init 4 = .ok (.aload_n 0, 1) := by decide +kernel
theorem dX8_init_5 : decode cX8_init 5 = .ok (.iconst 5, 1) := by decide +kernel
theorem dX8_init_6 : decode cX8_init 6 = .ok (.newarray .int, 2) := by decide +kernel
theorem dX8_init_8 : decode cX8_init 8 = .ok (.putfield 7, 3) := by decide +kernel
theorem dX8_init_11 : decode cX8_init 11 = .ok (.aload_n 0, 1) := by decide +kernel
theorem dX8_init_12 : decode cX8_init 12 = .ok (.bipush 30, 2) := by decide +kernel
theorem dX8_init_14 : decode cX8_init 14 = .ok (.newarray .int, 2) := by decide +kernel
theorem dX8_init_16 : decode cX8_init 16 = .ok (.putfield 13, 3) := by decide +kernel
theorem dX8_init_19 : decode cX8_init 19 = .ok (.aload_n 0, 1) := by decide +kernel
theorem dX8_init_20 : decode cX8_init 20 = .ok (.bipush 20, 2) := by decide +kernel
theorem dX8_init_22 : decode cX8_init 22 = .ok (.newarray .int, 2) := by decide +kernel
theorem dX8_init_24 : decode cX8_init 24 = .ok (.putfield 16, 3) := by decide +kernel
theorem dX8_init_27 : decode cX8_init 27 = .ok (.aload_n 0, 1) := by decide +kernel
theorem dX8_init_28 : decode cX8_init 28 = .ok (.bipush 20, 2) := by decide +kernel
theorem dX8_init_30 : decode cX8_init 30 = .ok (.newarray .int, 2) := by decide +kernel
theorem dX8_init_32 : decode cX8_init 32 = .ok (.putfield 19, 3) := by decide +kernel
theorem dX8_init_35 : decode cX8_init 35 = .ok (.aload_n 0, 1) := by decide +kernel
theorem dX8_init_36 : decode cX8_init 36 = .ok (.bipush 32, 2) := by decide +kernel
theorem dX8_init_38 : decode cX8_init 38 = .ok (.newarray .int, 2) := by decide +kernel
theorem dX8_init_40 : decode cX8_init 40 = .ok (.putfield 22, 3) := by decide +kernel
theorem dX8_init_43 : decode cX8_init 43 = .ok (.aload_n 0, 1) := by decide +kernel
theorem dX8_init_44 : decode cX8_init 44 = .ok (.bipush 32, 2) := by decide +kernel
theorem dX8_init_46 : decode cX8_init 46 = .ok (.newarray .int, 2) := by decide +kernel
theorem dX8_init_48 : decode cX8_init 48 = .ok (.putfield 25, 3) := by decide +kernel
theorem dX8_init_51 : decode cX8_init 51 = .ok (.aload_n 0, 1) := by decide +kernel
theorem dX8_init_52 : decode cX8_init 52 = .ok (.bipush 32, 2) := by decide +kernel
theorem dX8_init_54 : decode cX8_init 54 = .ok (.newarray .int, 2) := by decide +kernel
theorem dX8_init_56 : decode cX8_init 56 = .ok (.putfield 28, 3) := by decide +kernel
theorem dX8_init_59 : decode cX8_init 59 = .ok (.aload_n 0, 1) := by decide +kernel
theorem dX8_init_60 : decode cX8_init 60 = .ok (.bipush 32, 2) := by decide +kernel
theorem dX8_init_62 : decode cX8_init 62 = .ok (.newarray .int, 2) := by decide +kernel
theorem dX8_init_64 : decode cX8_init 64 = .ok (.putfield 31, 3) := by decide +kernel
theorem dX8_init_67 : decode cX8_init 67 = .ok (.aload_n 0, 1) := by decide +kernel
theorem dX8_init_68 : decode cX8_init 68 = .ok (.sipush 640, 3) := by decide +kernel
theorem dX8_init_71 : decode cX8_init 71 = .ok (.newarray .int, 2) := by decide +kernel
theorem dX8_init_73 : decode cX8_init 73 = .ok (.putfield 34, 3) := by decide +kernel
theorem dX8_init_76 : decode cX8_init 76 = .ok (.aload_n 0, 1) := by decide +kernel
theorem dX8_init_77 : decode cX8_init 77 = .ok (.sipush 400, 3) := by decide +kernel
theorem dX8_init_80 : decode cX8_init 80 = .ok (.newarray .int, 2) := by decide +kernel
theorem dX8_init_82 : decode cX8_init 82 = .ok (.putfield 37, 3) := by decide +kernel
theorem dX8_init_85 : decode cX8_init 85 = .ok (.aload_n 0, 1) := by decide +kernel
theorem dX8_init_86 : decode cX8_init 86 = .ok (.iconst (-1), 1) := by decide +kernel
theorem dX8_init_87 : decode cX8_init 87 = .ok (.putfield 40, 3) := by decide +kernel
theorem dX8_init_90 : decode cX8_init 90 = .ok (.aload_n 0, 1) := by decide +kernel
theorem dX8_init_91 : decode cX8_init 91 = .ok (.iconst 5, 1) := by decide +kernel
theorem dX8_init_92 : decode cX8_init 92 = .ok (.newarray .int, 2) := by decide +kernel
theorem dX8_init_94 : decode cX8_init 94 = .ok (.putfield 44, 3) := by decide +kernel
theorem dX8_init_97 : decode cX8_init 97 = .ok (.aload_n 0, 1) := by decide +kernel
theorem dX8_init_98 : decode cX8_init 98 = .ok (.bipush 20, 2) := by decide +kernel
theorem dX8_init_100 : decode cX8_init 100 = .ok (.newarray .int, 2) := by decide +kernel
theorem dX8_init_102 : decode cX8_init 102 = .ok (.putfield 47, 3) := by decide +kernel
theorem dX8_init_105 : decode cX8_init 105 = .ok (.aload_n 0, 1) := by decide +kernel
theorem dX8_init_106 : decode cX8_init 106 = .ok (.bipush 20, 2) := by decide +kernel
theorem dX8_init_108 : decode cX8_init 108 = .ok (.newarray .int, 2) := by decide +kernel
theorem dX8_init_110 : decode cX8_init 110 = .ok (.putfield 50, 3) := by decide +kernel
theorem dX8_init_113 : decode cX8_init 113 = .ok (.aload_n 0, 1) := by decide +kernel
theorem dX8_init_114 : decode cX8_init 114 = .ok (.bipush 30, 2) := by decide +kernel
theorem dX8_init_116 : decode cX8_init 116 = .ok (.newarray .int, 2) := by decide +kernel
theorem dX8_init_118 : decode cX8_init 118 = .ok (.putfield 53, 3) := by decide +kernel
theorem dX8_init_121 : decode cX8_init 121 = .ok (.aload_n 0, 1) := by decide +kernel
theorem dX8_init_122 : decode cX8_init 122 = .ok (.iconst 5, 1) := by decide +kernel
theorem dX8_init_123 : decode cX8_init 123 = .ok (.newarray .int, 2) := by decide +kernel
theorem dX8_init_125 : decode cX8_init 125 = .ok (.putfield 56, 3) := by decide +kernel
theorem dX8_init_128 : decode cX8_init 128 = .ok (.aload_n 0, 1) := by decide +kernel
theorem dX8_init_129 : decode cX8_init 129 = .ok (.bipush 32, 2) := by decide +kernel
theorem dX8_init_131 : decode cX8_init 131 = .ok (.newarray .int, 2) := by decide +kernel
theorem dX8_init_133 : decode cX8_init 133 = .ok (.putfield 59, 3) := by decide +kernel
theorem dX8_init_136 : decode cX8_init 136 = .ok (.aload_n 0, 1) := by decide +kernel
theorem dX8_init_137 : decode cX8_init 137 = .ok (.iconst 5, 1) := by decide +kernel
theorem dX8_init_138 : decode cX8_init 138 = .ok (.newarray .int, 2) := by decide +kernel
theorem dX8_init_140 : decode cX8_init 140 = .ok (.putfield 62, 3) := by decide +kernel
theorem dX8_init_143 : decode cX8_init 143 = .ok (.aload_n 0, 1) := by decide +kernel
theorem dX8_init_144 : decode cX8_init 144 = .ok (.iconst 5, 1) := by decide +kernel
theorem dX8_init_145 : decode cX8_init 145 = .ok (.newarray .int, 2) := by decide +kernel
theorem dX8_init_147 : decode cX8_init 147 = .ok (.putfield 65, 3) := by decide +kernel
theorem dX8_init_150 : decode cX8_init 150 = .ok (.aload_n 0, 1) := by decide +kernel
theorem dX8_init_151 : decode cX8_init 151 = .ok (.iconst 5, 1) := by decide +kernel
theorem dX8_init_152 : decode cX8_init 152 = .ok (.newarray .int, 2) := by decide +kernel
theorem dX8_init_154 : decode cX8_init 154 = .ok (.putfield 68, 3) := by decide +kernel
theorem dX8_init_157 : decode cX8_init 157 = .ok (.aload_n 0, 1) := by decide +kernel
theorem dX8_init_158 : decode cX8_init 158 = .ok (.iconst 5, 1) := by decide +kernel
theorem dX8_init_159 : decode cX8_init 159 = .ok (.newarray .int, 2) := by decide +kernel
theorem dX8_init_161 : decode cX8_init 161 = .ok (.putfield 71, 3) := by decide +kernel
theorem dX8_init_164 : decode cX8_init 164 = .ok (.aload_n 0, 1) := by decide +kernel
theorem dX8_init_165 : decode cX8_init 165 = .ok (.bipush 8, 2) := by decide +kernel
theorem dX8_init_167 : decode cX8_init 167 = .ok (.newarray .int, 2) := by decide +kernel
theorem dX8_init_169 : decode cX8_init 169 = .ok (.putfield 74, 3) := by decide +kernel
theorem dX8_init_172 : decode cX8_init 172 = .ok (.aload_n 0, 1) := by decide +kernel
theorem dX8_init_173 : decode cX8_init 173 = .ok (.sipush 6561, 3) := by decide +kernel
theorem dX8_init_176 : decode cX8_init 176 = .ok (.newarray .int, 2) := by decide +kernel
theorem dX8_init_178 : decode cX8_init 178 = .ok (.putfield 77, 3) := by decide +kernel
theorem dX8_init_181 : decode cX8_init 181 = .ok (.aload_n 0, 1) := by decide +kernel
theorem dX8_init_182 : decode cX8_init 182 = .ok (.bipush 40, 2) := by decide +kernel
theorem dX8_init_184 : decode cX8_init 184 = .ok (.newarray .int, 2) := by decide +kernel
theorem dX8_init_186 : decode cX8_init 186 = .ok (.putfield 80, 3) := by decide +kernel
theorem dX8_init_189 : decode cX8_init 189 = .ok (.aload_n 0, 1) := by decide +kernel
theorem dX8_init_190 : decode cX8_init 190 = .ok (.bipush 40, 2) := by decide +kernel
theorem dX8_init_192 : decode cX8_init 192 = .ok (.newarray .int, 2) := by decide +kernel
theorem dX8_init_194 : decode cX8_init 194 = .ok (.putfield 83, 3) := by decide +kernel
theorem dX8_init_197 : decode cX8_init 197 = .ok (.aload_n 0, 1) := by decide +kernel
theorem dX8_init_198 : decode cX8_init 198 = .ok (.bipush 40, 2) := by decide +kernel
theorem dX8_init_200 : decode cX8_init 200 = .ok (.newarray .boolean, 2) := by decide +kernel
theorem dX8_init_202 : decode cX8_init 202 = .ok (.putfield 86, 3) := by decide +kernel
theorem dX8_init_205 : decode cX8_init 205 = .ok (.aload_n 0, 1) := by decide +kernel
theorem dX8_init_206 : decode cX8_init 206 = .ok (.sipush 2400, 3) := by decide +kernel
theorem dX8_init_209 : decode cX8_init 209 = .ok (.newarray .int, 2) := by decide +kernel
theorem dX8_init_211 : decode cX8_init 211 = .ok (.putfield 90, 3) := by decide +kernel
theorem dX8_init_214 : decode cX8_init 214 = .ok (.aload_n 0, 1) := by decide +kernel
theorem dX8_init_215 : decode cX8_init 215 = .ok (.iconst 2, 1) := by decide +kernel
theorem dX8_init_216 : decode cX8_init 216 = .ok (.newarray .boolean, 2) := by decide +kernel
theorem dX8_init_218 : decode cX8_init 218 = .ok (.putfield 93, 3) := by decide +kernel
theorem dX8_init_221 : decode cX8_init 221 = .ok (.aload_n 0, 1) := by decide +kernel
theorem dX8_init_222 : decode cX8_init 222 = .ok (.iconst 0, 1) := by decide +kernel
theorem dX8_init_223 : decode cX8_init 223 = .ok (.putfield 96, 3) := by decide +kernel
theorem dX8_init_226 : decode cX8_init 226 = .ok (.return_, 1) := by decide +kernel
theorem dX8_in_0 : decode cX8_in 0 = .ok (.lload_n 0, 1) := by decide +kernel
theorem dX8_in_1 : decode cX8_in 1 = .ok (.lload_n 2, 1) := by decide +kernel
theorem dX8_in_2 : decode cX8_in 2 = .ok (.lcmp, 1) := by decide +kernel
theorem dX8_in_3 : decode cX8_in 3 = .ok (.ifCond .lt 14, 3) := by decide +kernel
theorem dX8_in_6 : decode cX8_in 6 = .ok (.lload_n 0, 1) := by decide +kernel
theorem dX8_in_7 : decode cX8_in 7 = .ok (.lload 4, 2) := by decide +kernel
theorem dX8_in_9 : decode cX8_in 9 = .ok (.lcmp, 1) := by decide +kernel
theorem dX8_in_10 : decode cX8_in 10 = .ok (.ifCond .gt 7, 3) := by decide +kernel
theorem dX8_in_13 : decode cX8_in 13 = .ok (.iconst 1, 1) := by decide +kernel
theorem dX8_in_14 : decode cX8_in 14 = .ok (.goto 4, 3) := by decide +kernel
theorem dX8_in_17 : decode cX8_in 17 = .ok (.iconst 0, 1) := by decide +kernel
theorem dX8_in_18 : decode cX8_in 18 = .ok (.ireturn, 1) := by decide +kernel
theorem dX8_has_0 : decode cX8_has 0 = .ok (.iload_n 0, 1) := by decide +kernel
theorem dX8_has_1 : decode cX8_has 1 = .ok (.iload_n 1, 1) := by decide +kernel
theorem dX8_has_2 : decode cX8_has 2 = .ok (.ishr, 1) := by decide +kernel
theorem dX8_has_3 : decode cX8_has 3 = .ok (.iconst 1, 1) := by decide +kernel
theorem dX8_has_4 : decode cX8_has 4 = .ok (.iand, 1) := by decide +kernel
theorem dX8_has_5 : decode cX8_has 5 = .ok (.iconst 1, 1) := by decide +kernel
theorem dX8_has_6 : decode cX8_has 6 = .ok (.if_icmp .ne 7, 3) := by decide +kernel
theorem dX8_has_9 : decode cX8_has 9 = .ok (.iconst 1, 1) := by decide +kernel
theorem dX8_has_10 : decode cX8_has 10 = .ok (.goto 4, 3) := by decide +kernel
theorem dX8_has_13 : decode cX8_has 13 = .ok (.iconst 0, 1) := by decide +kernel
theorem dX8_has_14 : decode cX8_has 14 = .ok (.ireturn, 1) := by decide +kernel
theorem dX8_size_0 : decode cX8_size 0 = .ok (.iload_n 0, 1) := by decide +kernel
theorem dX8_size_1 : decode cX8_size 1 = .ok (.ifCond .ge 8, 3) := by decide +kernel
theorem dX8_size_4 : decode cX8_size 4 = .ok (.iload_n 0, 1) := by decide +kernel
theorem dX8_size_5 : decode cX8_size 5 = .ok (.ineg, 1) := by decide +kernel
theorem dX8_size_6 : decode cX8_size 6 = .ok (.goto 4, 3) := by decide +kernel
theorem dX8_size_9 : decode cX8_size 9 = .ok (.iload_n 0, 1) := by decide +kernel
theorem dX8_size_10 : decode cX8_size 10 = .ok (.ireturn, 1) := by decide +kernel
theorem dX8_isHouse_0 : decode cX8_isHouse 0 = .ok (.iload_n 1, 1) := by decide +kernel
theorem dX8_isHouse_1 : decode cX8_isHouse 1 = .ok (.i2l, 1) := by decide +kernel
theorem dX8_isHouse_2 : decode cX8_isHouse 2 = .ok (.lconst 0, 1) := by decide +kernel
theorem dX8_isHouse_3 : decode cX8_isHouse 3 = .ok (.aload_n 0, 1) := by decide +kernel
theorem dX8_isHouse_4 : decode cX8_isHouse 4 = .ok (.getfield 99, 3) := by decide +kernel
theorem dX8_isHouse_7 : decode cX8_isHouse 7 = .ok (.iconst 1, 1) := by decide +kernel
theorem dX8_isHouse_8 : decode cX8_isHouse 8 = .ok (.isub, 1) := by decide +kernel
theorem dX8_isHouse_9 : decode cX8_isHouse 9 = .ok (.i2l, 1) := by decide +kernel
theorem dX8_isHouse_10 : decode cX8_isHouse 10 = .ok (.invokestatic 102, 3) := by decide +kernel
theorem dX8_isHouse_13 : decode cX8_isHouse 13 = .ok (.ireturn, 1) := by decide +kernel
theorem dX8_isPart_0 : decode cX8_isPart 0 = .ok (.iload_n 1, 1) := by decide +kernel
theorem dX8_isPart_1 : decode cX8_isPart 1 = .ok (.i2l, 1) := by decide +kernel
theorem dX8_isPart_2 : decode cX8_isPart 2 = .ok (.lconst 0, 1) := by decide +kernel
theorem dX8_isPart_3 : decode cX8_isPart 3 = .ok (.aload_n 0, 1) := by decide +kernel
theorem dX8_isPart_4 : decode cX8_isPart 4 = .ok (.getfield 106, 3) := by decide +kernel
theorem dX8_isPart_7 : decode cX8_isPart 7 = .ok (.iconst 1, 1) := by decide +kernel
theorem dX8_isPart_8 : decode cX8_isPart 8 = .ok (.isub, 1) := by decide +kernel
theorem dX8_isPart_9 : decode cX8_isPart 9 = .ok (.i2l, 1) := by decide +kernel
theorem dX8_isPart_10 : decode cX8_isPart 10 = .ok (.invokestatic 102, 3) := by decide +kernel
theorem dX8_isPart_13 : decode cX8_isPart 13 = .ok (.ireturn, 1) := by decide +kernel
theorem dX8_isSort_0 : decode cX8_isSort 0 = .ok (.iload_n 1, 1) := by decide +kernel
theorem dX8_isSort_1 : decode cX8_isSort 1 = .ok (.i2l, 1) := by decide +kernel
theorem dX8_isSort_2 : decode cX8_isSort 2 = .ok (.lconst 0, 1) := by decide +kernel
theorem dX8_isSort_3 : decode cX8_isSort 3 = .ok (.aload_n 0, 1) := by decide +kernel
theorem dX8_isSort_4 : decode cX8_isSort 4 = .ok (.getfield 96, 3) := by decide +kernel
theorem dX8_isSort_7 : decode cX8_isSort 7 = .ok (.iconst 1, 1) := by decide +kernel
theorem dX8_isSort_8 : decode cX8_isSort 8 = .ok (.isub, 1) := by decide +kernel
theorem dX8_isSort_9 : decode cX8_isSort 9 = .ok (.i2l, 1) := by decide +kernel
theorem dX8_isSort_10 : decode cX8_isSort 10 = .ok (.invokestatic 102, 3) := by decide +kernel
theorem dX8_isSort_13 : decode cX8_isSort 13 = .ok (.ireturn, 1) := by decide +kernel
theorem dX8_begin_0 : decode cX8_begin 0 = .ok (.aload_n 0, 1) := by decide +kernel
theorem dX8_begin_1 : decode cX8_begin 1 = .ok (.getfield 109, 3) := by decide +kernel
theorem dX8_begin_4 : decode cX8_begin 4 = .ok (.istore_n 1, 1) := by decide +kernel
theorem dX8_begin_5 : decode cX8_begin 5 = .ok (.aload_n 0, 1) := by decide +kernel
theorem dX8_begin_6 : decode cX8_begin 6 = .ok (.iconst 0, 1) := by decide +kernel
theorem dX8_begin_7 : decode cX8_begin 7 = .ok (.putfield 109, 3) := by decide +kernel
theorem dX8_begin_10 : decode cX8_begin 10 = .ok (.aload_n 0, 1) := by decide +kernel
theorem dX8_begin_11 : decode cX8_begin 11 = .ok (.aload_n 0, 1) := by decide +kernel
theorem dX8_begin_12 : decode cX8_begin 12 = .ok (.getfield 112, 3) := by decide +kernel
theorem dX8_begin_15 : decode cX8_begin 15 = .ok (.putfield 106, 3) := by decide +kernel
theorem dX8_begin_18 : decode cX8_begin 18 = .ok (.iconst 0, 1) := by decide +kernel
theorem dX8_begin_19 : decode cX8_begin 19 = .ok (.istore_n 2, 1) := by decide +kernel
theorem dX8_begin_20 : decode cX8_begin 20 = .ok (.iload_n 2, 1) := by decide +kernel
theorem dX8_begin_21 : decode cX8_begin 21 = .ok (.aload_n 0, 1) := by decide +kernel
theorem dX8_begin_22 : decode cX8_begin 22 = .ok (.getfield 106, 3) := by decide +kernel
theorem dX8_begin_25 : decode cX8_begin 25 = .ok (.if_icmp .ge 62, 3) := by decide +kernel
theorem dX8_begin_28 : decode cX8_begin 28 = .ok (.aload_n 0, 1) := by decide +kernel
theorem dX8_begin_29 : decode cX8_begin 29 = .ok (.getfield 22, 3) := by decide +kernel
theorem dX8_begin_32 : decode cX8_begin 32 = .ok (.iload_n 2, 1) := by decide +kernel
theorem dX8_begin_33 : decode cX8_begin 33 = .ok (.aload_n 0, 1) := by decide +kernel
theorem dX8_begin_34 : decode cX8_begin 34 = .ok (.getfield 16, 3) := by decide +kernel
theorem dX8_begin_37 : decode cX8_begin 37 = .ok (.iload_n 2, 1) := by decide +kernel
theorem dX8_begin_38 : decode cX8_begin 38 = .ok (.iaload, 1) := by decide +kernel
theorem dX8_begin_39 : decode cX8_begin 39 = .ok (.iastore, 1) := by decide +kernel
theorem dX8_begin_40 : decode cX8_begin 40 = .ok (.aload_n 0, 1) := by decide +kernel
theorem dX8_begin_41 : decode cX8_begin 41 = .ok (.getfield 25, 3) := by decide +kernel
theorem dX8_begin_44 : decode cX8_begin 44 = .ok (.iload_n 2, 1) := by decide +kernel
theorem dX8_begin_45 : decode cX8_begin 45 = .ok (.aload_n 0, 1) := by decide +kernel
theorem dX8_begin_46 : decode cX8_begin 46 = .ok (.getfield 19, 3) := by decide +kernel
theorem dX8_begin_49 : decode cX8_begin 49 = .ok (.iload_n 2, 1) := by decide +kernel
theorem dX8_begin_50 : decode cX8_begin 50 = .ok (.iaload, 1) := by decide +kernel
theorem dX8_begin_51 : decode cX8_begin 51 = .ok (.iastore, 1) := by decide +kernel
theorem dX8_begin_52 : decode cX8_begin 52 = .ok (.aload_n 0, 1) := by decide +kernel
theorem dX8_begin_53 : decode cX8_begin 53 = .ok (.getfield 28, 3) := by decide +kernel
theorem dX8_begin_56 : decode cX8_begin 56 = .ok (.iload_n 2, 1) := by decide +kernel
theorem dX8_begin_57 : decode cX8_begin 57 = .ok (.iconst (-1), 1) := by decide +kernel
theorem dX8_begin_58 : decode cX8_begin 58 = .ok (.iastore, 1) := by decide +kernel
theorem dX8_begin_59 : decode cX8_begin 59 = .ok (.aload_n 0, 1) := by decide +kernel
theorem dX8_begin_60 : decode cX8_begin 60 = .ok (.getfield 31, 3) := by decide +kernel
theorem dX8_begin_63 : decode cX8_begin 63 = .ok (.iload_n 2, 1) := by decide +kernel
theorem dX8_begin_64 : decode cX8_begin 64 = .ok (.iconst 1, 1) := by decide +kernel
theorem dX8_begin_65 : decode cX8_begin 65 = .ok (.iastore, 1) := by decide +kernel
theorem dX8_begin_66 : decode cX8_begin 66 = .ok (.aload_n 0, 1) := by decide +kernel
theorem dX8_begin_67 : decode cX8_begin 67 = .ok (.getfield 34, 3) := by decide +kernel
theorem dX8_begin_70 : decode cX8_begin 70 = .ok (.bipush 20, 2) := by decide +kernel
theorem dX8_begin_72 : decode cX8_begin 72 = .ok (.iload_n 2, 1) := by decide +kernel
theorem dX8_begin_73 : decode cX8_begin 73 = .ok (.imul, 1) := by decide +kernel
theorem dX8_begin_74 : decode cX8_begin 74 = .ok (.aload_n 0, 1) := by decide +kernel
theorem dX8_begin_75 : decode cX8_begin 75 = .ok (.getfield 19, 3) := by decide +kernel
theorem dX8_begin_78 : decode cX8_begin 78 = .ok (.iload_n 2, 1) := by decide +kernel
theorem dX8_begin_79 : decode cX8_begin 79 = .ok (.iaload, 1) := by decide +kernel
theorem dX8_begin_80 : decode cX8_begin 80 = .ok (.iastore, 1) := by decide +kernel
theorem dX8_begin_81 : decode cX8_begin 81 = .ok (.iinc 2 1, 3) := by decide +kernel
theorem dX8_begin_84 : decode cX8_begin 84 = .ok (.goto (-64), 3) := by decide +kernel
theorem dX8_begin_87 : decode cX8_begin 87 = .ok (.iload_n 1, 1) := by decide +kernel
theorem dX8_begin_88 : decode cX8_begin 88 = .ok (.ireturn, 1) := by decide +kernel
theorem dX8_feed_0 : decode cX8_feed 0 = .ok (.iload_n 1, 1) := by decide +kernel
theorem dX8_feed_1 : decode cX8_feed 1 = .ok (.i2l, 1) := by decide +kernel
theorem dX8_feed_2 : decode cX8_feed 2 = .ok (.lconst 1, 1) := by decide +kernel
theorem dX8_feed_3 : decode cX8_feed 3 = .ok (.ldc2_w 115, 3) := by decide +kernel
theorem dX8_feed_6 : decode cX8_feed 6 = .ok (.invokestatic 102, 3) := by decide +kernel
theorem dX8_feed_9 : decode cX8_feed 9 = .ok (.ifCond .ne 6, 3) := by decide +kernel
theorem dX8_feed_12 : decode cX8_feed 12 = .ok (.ldc 117, 2) := by decide +kernel
theorem dX8_feed_14 : decode cX8_feed 14 = .ok (.ireturn, 1) := by decide +kernel
theorem dX8_feed_15 : decode cX8_feed 15 = .ok (.aload_n 0, 1) := by decide +kernel
theorem dX8_feed_16 : decode cX8_feed 16 = .ok (.getfield 118, 3) := by decide +kernel
theorem dX8_feed_19 : decode cX8_feed 19 = .ok (.iload_n 1, 1) := by decide +kernel
theorem dX8_feed_20 : decode cX8_feed 20 = .ok (.iadd, 1) := by decide +kernel
theorem dX8_feed_21 : decode cX8_feed 21 = .ok (.sipush 400, 3) := by decide +kernel
theorem dX8_feed_24 : decode cX8_feed 24 = .ok (.if_icmp .le 6, 3) := by decide +kernel
theorem dX8_feed_27 : decode cX8_feed 27 = .ok (.ldc 121, 2) := by decide +kernel
theorem dX8_feed_29 : decode cX8_feed 29 = .ok (.ireturn, 1) := by decide +kernel
theorem dX8_feed_30 : decode cX8_feed 30 = .ok (.iload_n 1, 1) := by decide +kernel
theorem dX8_feed_31 : decode cX8_feed 31 = .ok (.iconst 1, 1) := by decide +kernel
theorem dX8_feed_32 : decode cX8_feed 32 = .ok (.isub, 1) := by decide +kernel
theorem dX8_feed_33 : decode cX8_feed 33 = .ok (.istore 4, 2) := by decide +kernel
theorem dX8_feed_35 : decode cX8_feed 35 = .ok (.iload 4, 2) := by decide +kernel
theorem dX8_feed_37 : decode cX8_feed 37 = .ok (.ifCond .lt 40, 3) := by decide +kernel
theorem dX8_feed_40 : decode cX8_feed 40 = .ok (.aload_n 0, 1) := by decide +kernel
theorem dX8_feed_41 : decode cX8_feed 41 = .ok (.getfield 37, 3) := by decide +kernel
theorem dX8_feed_44 : decode cX8_feed 44 = .ok (.aload_n 0, 1) := by decide +kernel
theorem dX8_feed_45 : decode cX8_feed 45 = .ok (.getfield 118, 3) := by decide +kernel
theorem dX8_feed_48 : decode cX8_feed 48 = .ok (.lload_n 2, 1) := by decide +kernel
theorem dX8_feed_49 : decode cX8_feed 49 = .ok (.bipush 8, 2) := by decide +kernel
theorem dX8_feed_51 : decode cX8_feed 51 = .ok (.iload 4, 2) := by decide +kernel
theorem dX8_feed_53 : decode cX8_feed 53 = .ok (.imul, 1) := by decide +kernel
theorem dX8_feed_54 : decode cX8_feed 54 = .ok (.lshr, 1) := by decide +kernel
theorem dX8_feed_55 : decode cX8_feed 55 = .ok (.ldc2_w 122, 3) := by decide +kernel
theorem dX8_feed_58 : decode cX8_feed 58 = .ok (.land, 1) := by decide +kernel
theorem dX8_feed_59 : decode cX8_feed 59 = .ok (.l2i, 1) := by decide +kernel
theorem dX8_feed_60 : decode cX8_feed 60 = .ok (.iastore, 1) := by decide +kernel
theorem dX8_feed_61 : decode cX8_feed 61 = .ok (.aload_n 0, 1) := by decide +kernel
theorem dX8_feed_62 : decode cX8_feed 62 = .ok (.dup, 1) := by decide +kernel
theorem dX8_feed_63 : decode cX8_feed 63 = .ok (.getfield 118, 3) := by decide +kernel
theorem dX8_feed_66 : decode cX8_feed 66 = .ok (.iconst 1, 1) := by decide +kernel
theorem dX8_feed_67 : decode cX8_feed 67 = .ok (.iadd, 1) := by decide +kernel
theorem dX8_feed_68 : decode cX8_feed 68 = .ok (.putfield 118, 3) := by decide +kernel
theorem dX8_feed_71 : decode cX8_feed 71 = .ok (.iinc 4 (-1), 3) := by decide +kernel
theorem dX8_feed_74 : decode cX8_feed 74 = .ok (.goto (-39), 3) := by decide +kernel
theorem dX8_feed_77 : decode cX8_feed 77 = .ok (.aload_n 0, 1) := by decide +kernel
theorem dX8_feed_78 : decode cX8_feed 78 = .ok (.getfield 118, 3) := by decide +kernel
theorem dX8_feed_81 : decode cX8_feed 81 = .ok (.ireturn, 1) := by decide +kernel
theorem dX8_here_0 : decode cX8_here 0 = .ok (.aload_n 0, 1) := by decide +kernel
theorem dX8_here_1 : decode cX8_here 1 = .ok (.getfield 124, 3) := by decide +kernel
theorem dX8_here_4 : decode cX8_here 4 = .ok (.aload_n 0, 1) := by decide +kernel
theorem dX8_here_5 : decode cX8_here 5 = .ok (.getfield 118, 3) := by decide +kernel
theorem dX8_here_8 : decode cX8_here 8 = .ok (.if_icmp .ge 30, 3) := by decide +kernel
theorem dX8_here_11 : decode cX8_here 11 = .ok (.aload_n 0, 1) := by decide +kernel
theorem dX8_here_12 : decode cX8_here 12 = .ok (.getfield 37, 3) := by decide +kernel
theorem dX8_here_15 : decode cX8_here 15 = .ok (.aload_n 0, 1) := by decide +kernel
theorem dX8_here_16 : decode cX8_here 16 = .ok (.getfield 124, 3) := by decide +kernel
theorem dX8_here_19 : decode cX8_here 19 = .ok (.iaload, 1) := by decide +kernel
theorem dX8_here_20 : decode cX8_here 20 = .ok (.bipush 32, 2) := by decide +kernel
theorem dX8_here_22 : decode cX8_here 22 = .ok (.if_icmp .ne 16, 3) := by decide +kernel
theorem dX8_here_25 : decode cX8_here 25 = .ok (.aload_n 0, 1) := by decide +kernel
theorem dX8_here_26 : decode cX8_here 26 = .ok (.dup, 1) := by decide +kernel
theorem dX8_here_27 : decode cX8_here 27 = .ok (.getfield 124, 3) := by decide +kernel
theorem dX8_here_30 : decode cX8_here 30 = .ok (.iconst 1, 1) := by decide +kernel
theorem dX8_here_31 : decode cX8_here 31 = .ok (.iadd, 1) := by decide +kernel
theorem dX8_here_32 : decode cX8_here 32 = .ok (.putfield 124, 3) := by decide +kernel
theorem dX8_here_35 : decode cX8_here 35 = .ok (.goto (-35), 3) := by decide +kernel
theorem dX8_here_38 : decode cX8_here 38 = .ok (.aload_n 0, 1) := by decide +kernel
theorem dX8_here_39 : decode cX8_here 39 = .ok (.getfield 124, 3) := by decide +kernel
theorem dX8_here_42 : decode cX8_here 42 = .ok (.aload_n 0, 1) := by decide +kernel
theorem dX8_here_43 : decode cX8_here 43 = .ok (.getfield 118, 3) := by decide +kernel
theorem dX8_here_46 : decode cX8_here 46 = .ok (.if_icmp .ge 15, 3) := by decide +kernel
theorem dX8_here_49 : decode cX8_here 49 = .ok (.aload_n 0, 1) := by decide +kernel
theorem dX8_here_50 : decode cX8_here 50 = .ok (.getfield 37, 3) := by decide +kernel
theorem dX8_here_53 : decode cX8_here 53 = .ok (.aload_n 0, 1) := by decide +kernel
theorem dX8_here_54 : decode cX8_here 54 = .ok (.getfield 124, 3) := by decide +kernel
theorem dX8_here_57 : decode cX8_here 57 = .ok (.iaload, 1) := by decide +kernel
theorem dX8_here_58 : decode cX8_here 58 = .ok (.goto 4, 3) := by decide +kernel
theorem dX8_here_61 : decode cX8_here 61 = .ok (.iconst (-1), 1) := by decide +kernel
theorem dX8_here_62 : decode cX8_here 62 = .ok (.ireturn, 1) := by decide +kernel
theorem dX8_fails_0 : decode cX8_fails 0 = .ok (.aload_n 0, 1) := by decide +kernel
theorem dX8_fails_1 : decode cX8_fails 1 = .ok (.iload_n 2, 1) := by decide +kernel
theorem dX8_fails_2 : decode cX8_fails 2 = .ok (.putfield 40, 3) := by decide +kernel
theorem dX8_fails_5 : decode cX8_fails 5 = .ok (.iload_n 1, 1) := by decide +kernel
theorem dX8_fails_6 : decode cX8_fails 6 = .ok (.ireturn, 1) := by decide +kernel
theorem dX8_readWord_0 : decode cX8_readWord 0 = .ok (.aload_n 0, 1) := by decide +kernel
theorem dX8_readWord_1 : decode cX8_readWord 1 = .ok (.invokevirtual 127, 3) := by decide +kernel
theorem dX8_readWord_4 : decode cX8_readWord 4 = .ok (.istore_n 1, 1) := by decide +kernel
theorem dX8_readWord_5 : decode cX8_readWord 5 = .ok (.aload_n 0, 1) := by decide +kernel
theorem dX8_readWord_6 : decode cX8_readWord 6 = .ok (.lconst 0, 1) := by decide +kernel
theorem dX8_readWord_7 : decode cX8_readWord 7 = .ok (.putfield 131, 3) := by decide +kernel
theorem dX8_readWord_10 : decode cX8_readWord 10 = .ok (.aload_n 0, 1) := by decide +kernel
theorem dX8_readWord_11 : decode cX8_readWord 11 = .ok (.aload_n 0, 1) := by decide +kernel
theorem dX8_readWord_12 : decode cX8_readWord 12 = .ok (.getfield 124, 3) := by decide +kernel
theorem dX8_readWord_15 : decode cX8_readWord 15 = .ok (.putfield 135, 3) := by decide +kernel
theorem dX8_readWord_18 : decode cX8_readWord 18 = .ok (.aload_n 0, 1) := by decide +kernel
theorem dX8_readWord_19 : decode cX8_readWord 19 = .ok (.getfield 135, 3) := by decide +kernel
theorem dX8_readWord_22 : decode cX8_readWord 22 = .ok (.aload_n 0, 1) := by decide +kernel
theorem dX8_readWord_23 : decode cX8_readWord 23 = .ok (.getfield 118, 3) := by decide +kernel
theorem dX8_readWord_26 : decode cX8_readWord 26 = .ok (.if_icmp .ge 82, 3) := by decide +kernel
theorem dX8_readWord_29 : decode cX8_readWord 29 = .ok (.aload_n 0, 1) := by decide +kernel
theorem dX8_readWord_30 : decode cX8_readWord 30 = .ok (.getfield 37, 3) := by decide +kernel
theorem dX8_readWord_33 : decode cX8_readWord 33 = .ok (.aload_n 0, 1) := by decide +kernel
theorem dX8_readWord_34 : decode cX8_readWord 34 = .ok (.getfield 135, 3) := by decide +kernel
theorem dX8_readWord_37 : decode cX8_readWord 37 = .ok (.iaload, 1) := by decide +kernel
theorem dX8_readWord_38 : decode cX8_readWord 38 = .ok (.i2l, 1) := by decide +kernel
theorem dX8_readWord_39 : decode cX8_readWord 39 = .ok (.ldc2_w 138, 3) := by decide +kernel
theorem dX8_readWord_42 : decode cX8_readWord 42 = .ok (.ldc2_w 140, 3) := by decide +kernel
theorem dX8_readWord_45 : decode cX8_readWord 45 = .ok (.invokestatic 102, 3) := by decide +kernel
theorem dX8_readWord_48 : decode cX8_readWord 48 = .ok (.ifCond .eq 60, 3) := by decide +kernel
theorem dX8_readWord_51 : decode cX8_readWord 51 = .ok (.aload_n 0, 1) := by decide +kernel
theorem dX8_readWord_52 : decode cX8_readWord 52 = .ok (.aload_n 0, 1) := by decide +kernel
theorem dX8_readWord_53 : decode cX8_readWord 53 = .ok (.getfield 131, 3) := by decide +kernel
theorem dX8_readWord_56 : decode cX8_readWord 56 = .ok (.ldc2_w 142, 3) := by decide +kernel
theorem dX8_readWord_59 : decode cX8_readWord 59 = .ok (.lcmp, 1) := by decide +kernel
theorem dX8_readWord_60 : decode cX8_readWord 60 = .ok (.ifCond .le 9, 3) := by decide +kernel
theorem dX8_readWord_63 : decode cX8_readWord 63 = .ok (.ldc2_w 144, 3) := by decide +kernel
theorem dX8_readWord_66 : decode cX8_readWord 66 = .ok (.goto 26, 3) := by decide +kernel
theorem dX8_readWord_69 : decode cX8_readWord 69 = .ok (.ldc2_w 146, 3) := by decide +kernel
theorem dX8_readWord_72 : decode cX8_readWord 72 = .ok (.aload_n 0, 1) := by decide +kernel
theorem dX8_readWord_73 : decode cX8_readWord 73 = .ok (.getfield 131, 3) := by decide +kernel
theorem dX8_readWord_76 : decode cX8_readWord 76 = .ok (.lmul, 1) := by decide +kernel
theorem dX8_readWord_77 : decode cX8_readWord 77 = .ok (.aload_n 0, 1) := by decide +kernel
theorem dX8_readWord_78 : decode cX8_readWord 78 = .ok (.getfield 37, 3) := by decide +kernel
theorem dX8_readWord_81 : decode cX8_readWord 81 = .ok (.aload_n 0, 1) := by decide +kernel
theorem dX8_readWord_82 : decode cX8_readWord 82 = .ok (.getfield 135, 3) := by decide +kernel
theorem dX8_readWord_85 : decode cX8_readWord 85 = .ok (.iaload, 1) := by decide +kernel
theorem dX8_readWord_86 : decode cX8_readWord 86 = .ok (.i2l, 1) := by decide +kernel
theorem dX8_readWord_87 : decode cX8_readWord 87 = .ok (.ladd, 1) := by decide +kernel
theorem dX8_readWord_88 : decode cX8_readWord 88 = .ok (.ldc2_w 148, 3) := by decide +kernel
theorem dX8_readWord_91 : decode cX8_readWord 91 = .ok (.lsub, 1) := by decide +kernel
theorem dX8_readWord_92 : decode cX8_readWord 92 = .ok (.putfield 131, 3) := by decide +kernel
theorem dX8_readWord_95 : decode cX8_readWord 95 = .ok (.aload_n 0, 1) := by decide +kernel
theorem dX8_readWord_96 : decode cX8_readWord 96 = .ok (.dup, 1) := by decide +kernel
theorem dX8_readWord_97 : decode cX8_readWord 97 = .ok (.getfield 135, 3) := by decide +kernel
theorem dX8_readWord_100 : decode cX8_readWord 100 = .ok (.iconst 1, 1) := by decide +kernel
theorem dX8_readWord_101 : decode cX8_readWord 101 = .ok (.iadd, 1) := by decide +kernel
theorem dX8_readWord_102 : decode cX8_readWord 102 = .ok (.putfield 135, 3) := by decide +kernel
theorem dX8_readWord_105 : decode cX8_readWord 105 = .ok (.goto (-87), 3) := by decide +kernel
theorem dX8_readWord_108 : decode cX8_readWord 108 = .ok (.return_, 1) := by decide +kernel
theorem dX8_code_0 : decode cX8_code 0 = .ok (.ldc2_w 146, 3) := by decide +kernel
theorem dX8_code_3 : decode cX8_code 3 = .ok (.ldc2_w 146, 3) := by decide +kernel
theorem dX8_code_6 : decode cX8_code 6 = .ok (.ldc2_w 146, 3) := by decide +kernel
theorem dX8_code_9 : decode cX8_code 9 = .ok (.ldc2_w 146, 3) := by decide +kernel
theorem dX8_code_12 : decode cX8_code 12 = .ok (.iload_n 0, 1) := by decide +kernel
theorem dX8_code_13 : decode cX8_code 13 = .ok (.i2l, 1) := by decide +kernel
theorem dX8_code_14 : decode cX8_code 14 = .ok (.ldc2_w 148, 3) := by decide +kernel
theorem dX8_code_17 : decode cX8_code 17 = .ok (.lsub, 1) := by decide +kernel
theorem dX8_code_18 : decode cX8_code 18 = .ok (.lmul, 1) := by decide +kernel
theorem dX8_code_19 : decode cX8_code 19 = .ok (.iload_n 1, 1) := by decide +kernel
theorem dX8_code_20 : decode cX8_code 20 = .ok (.i2l, 1) := by decide +kernel
theorem dX8_code_21 : decode cX8_code 21 = .ok (.ladd, 1) := by decide +kernel
theorem dX8_code_22 : decode cX8_code 22 = .ok (.ldc2_w 148, 3) := by decide +kernel
theorem dX8_code_25 : decode cX8_code 25 = .ok (.lsub, 1) := by decide +kernel
theorem dX8_code_26 : decode cX8_code 26 = .ok (.lmul, 1) := by decide +kernel
theorem dX8_code_27 : decode cX8_code 27 = .ok (.iload_n 2, 1) := by decide +kernel
theorem dX8_code_28 : decode cX8_code 28 = .ok (.i2l, 1) := by decide +kernel
theorem dX8_code_29 : decode cX8_code 29 = .ok (.ladd, 1) := by decide +kernel
theorem dX8_code_30 : decode cX8_code 30 = .ok (.ldc2_w 148, 3) := by decide +kernel
theorem dX8_code_33 : decode cX8_code 33 = .ok (.lsub, 1) := by decide +kernel
theorem dX8_code_34 : decode cX8_code 34 = .ok (.lmul, 1) := by decide +kernel
theorem dX8_code_35 : decode cX8_code 35 = .ok (.iload_n 3, 1) := by decide +kernel
theorem dX8_code_36 : decode cX8_code 36 = .ok (.i2l, 1) := by decide +kernel
theorem dX8_code_37 : decode cX8_code 37 = .ok (.ladd, 1) := by decide +kernel
theorem dX8_code_38 : decode cX8_code 38 = .ok (.ldc2_w 148, 3) := by decide +kernel
theorem dX8_code_41 : decode cX8_code 41 = .ok (.lsub, 1) := by decide +kernel
theorem dX8_code_42 : decode cX8_code 42 = .ok (.lmul, 1) := by decide +kernel
theorem dX8_code_43 : decode cX8_code 43 = .ok (.iload 4, 2) := by decide +kernel
theorem dX8_code_45 : decode cX8_code 45 = .ok (.i2l, 1) := by decide +kernel
theorem dX8_code_46 : decode cX8_code 46 = .ok (.ladd, 1) := by decide +kernel
theorem dX8_code_47 : decode cX8_code 47 = .ok (.ldc2_w 148, 3) := by decide +kernel
theorem dX8_code_50 : decode cX8_code 50 = .ok (.lsub, 1) := by decide +kernel
theorem dX8_code_51 : decode cX8_code 51 = .ok (.lreturn, 1) := by decide +kernel
theorem dX8_takeNumber_0 : decode cX8_takeNumber 0 = .ok (.aload_n 0, 1) := by decide +kernel
theorem dX8_takeNumber_1 : decode cX8_takeNumber 1 = .ok (.invokevirtual 127, 3) := by decide +kernel
theorem dX8_takeNumber_4 : decode cX8_takeNumber 4 = .ok (.istore_n 3, 1) := by decide +kernel
theorem dX8_takeNumber_5 : decode cX8_takeNumber 5 = .ok (.iload_n 3, 1) := by decide +kernel
theorem dX8_takeNumber_6 : decode cX8_takeNumber 6 = .ok (.i2l, 1) := by decide +kernel
theorem dX8_takeNumber_7 : decode cX8_takeNumber 7 = .ok (.ldc2_w 150, 3) := by decide +kernel
theorem dX8_takeNumber_10 : decode cX8_takeNumber 10 = .ok (.ldc2_w 152, 3) := by decide +kernel
theorem dX8_takeNumber_13 : decode cX8_takeNumber 13 = .ok (.invokestatic 102, 3) := by decide +kernel
theorem dX8_takeNumber_16 : decode cX8_takeNumber 16 = .ok (.ifCond .ne 13, 3) := by decide +kernel
theorem dX8_takeNumber_19 : decode cX8_takeNumber 19 = .ok (.aload_n 0, 1) := by decide +kernel
theorem dX8_takeNumber_20 : decode cX8_takeNumber 20 = .ok (.iconst 1, 1) := by decide +kernel
theorem dX8_takeNumber_21 : decode cX8_takeNumber 21 = .ok (.aload_n 0, 1) := by decide +kernel
theorem dX8_takeNumber_22 : decode cX8_takeNumber 22 = .ok (.getfield 124, 3) := by decide +kernel
theorem dX8_takeNumber_25 : decode cX8_takeNumber 25 = .ok (.invokevirtual 154, 3) := by decide +kernel
theorem dX8_takeNumber_28 : decode cX8_takeNumber 28 = .ok (.ireturn, 1) := by decide +kernel
theorem dX8_takeNumber_29 : decode cX8_takeNumber 29 = .ok (.aload_n 0, 1) := by decide +kernel
theorem dX8_takeNumber_30 : decode cX8_takeNumber 30 = .ok (.aload_n 0, 1) := by decide +kernel
theorem dX8_takeNumber_31 : decode cX8_takeNumber 31 = .ok (.getfield 124, 3) := by decide +kernel
theorem dX8_takeNumber_34 : decode cX8_takeNumber 34 = .ok (.putfield 158, 3) := by decide +kernel
theorem dX8_takeNumber_37 : decode cX8_takeNumber 37 = .ok (.aload_n 0, 1) := by decide +kernel
theorem dX8_takeNumber_38 : decode cX8_takeNumber 38 = .ok (.iconst 0, 1) := by decide +kernel
theorem dX8_takeNumber_39 : decode cX8_takeNumber 39 = .ok (.putfield 161, 3) := by decide +kernel
theorem dX8_takeNumber_42 : decode cX8_takeNumber 42 = .ok (.aload_n 0, 1) := by decide +kernel
theorem dX8_takeNumber_43 : decode cX8_takeNumber 43 = .ok (.getfield 124, 3) := by decide +kernel
theorem dX8_takeNumber_46 : decode cX8_takeNumber 46 = .ok (.aload_n 0, 1) := by decide +kernel
theorem dX8_takeNumber_47 : decode cX8_takeNumber 47 = .ok (.getfield 118, 3) := by decide +kernel
theorem dX8_takeNumber_50 : decode cX8_takeNumber 50 = .ok (.if_icmp .ge 79, 3) := by decide +kernel
theorem dX8_takeNumber_53 : decode cX8_takeNumber 53 = .ok (.aload_n 0, 1) := by decide +kernel
theorem dX8_takeNumber_54 : decode cX8_takeNumber 54 = .ok (.getfield 37, 3) := by decide +kernel
theorem dX8_takeNumber_57 : decode cX8_takeNumber 57 = .ok (.aload_n 0, 1) := by decide +kernel
theorem dX8_takeNumber_58 : decode cX8_takeNumber 58 = .ok (.getfield 124, 3) := by decide +kernel
theorem dX8_takeNumber_61 : decode cX8_takeNumber 61 = .ok (.iaload, 1) := by decide +kernel
theorem dX8_takeNumber_62 : decode cX8_takeNumber 62 = .ok (.i2l, 1) := by decide +kernel
theorem dX8_takeNumber_63 : decode cX8_takeNumber 63 = .ok (.ldc2_w 150, 3) := by decide +kernel
theorem dX8_takeNumber_66 : decode cX8_takeNumber 66 = .ok (.ldc2_w 152, 3) := by decide +kernel
theorem dX8_takeNumber_69 : decode cX8_takeNumber 69 = .ok (.invokestatic 102, 3) := by decide +kernel
theorem dX8_takeNumber_72 : decode cX8_takeNumber 72 = .ok (.ifCond .eq 57, 3) := by decide +kernel
theorem dX8_takeNumber_75 : decode cX8_takeNumber 75 = .ok (.aload_n 0, 1) := by decide +kernel
theorem dX8_takeNumber_76 : decode cX8_takeNumber 76 = .ok (.aload_n 0, 1) := by decide +kernel
theorem dX8_takeNumber_77 : decode cX8_takeNumber 77 = .ok (.getfield 161, 3) := by decide +kernel
theorem dX8_takeNumber_80 : decode cX8_takeNumber 80 = .ok (.sipush 10000, 3) := by decide +kernel
theorem dX8_takeNumber_83 : decode cX8_takeNumber 83 = .ok (.if_icmp .le 10, 3) := by decide +kernel
theorem dX8_takeNumber_86 : decode cX8_takeNumber 86 = .ok (.aload_n 0, 1) := by decide +kernel
theorem dX8_takeNumber_87 : decode cX8_takeNumber 87 = .ok (.getfield 161, 3) := by decide +kernel
theorem dX8_takeNumber_90 : decode cX8_takeNumber 90 = .ok (.goto 23, 3) := by decide +kernel
theorem dX8_takeNumber_93 : decode cX8_takeNumber 93 = .ok (.bipush 10, 2) := by decide +kernel
theorem dX8_takeNumber_95 : decode cX8_takeNumber 95 = .ok (.aload_n 0, 1) := by decide +kernel
theorem dX8_takeNumber_96 : decode cX8_takeNumber 96 = .ok (.getfield 161, 3) := by decide +kernel
theorem dX8_takeNumber_99 : decode cX8_takeNumber 99 = .ok (.imul, 1) := by decide +kernel
theorem dX8_takeNumber_100 : decode cX8_takeNumber 100 = .ok (.aload_n 0, 1) := by decide +kernel
theorem dX8_takeNumber_101 : decode cX8_takeNumber 101 = .ok (.getfield 37, 3) := by decide +kernel
theorem dX8_takeNumber_104 : decode cX8_takeNumber 104 = .ok (.aload_n 0, 1) := by decide +kernel
theorem dX8_takeNumber_105 : decode cX8_takeNumber 105 = .ok (.getfield 124, 3) := by decide +kernel
theorem dX8_takeNumber_108 : decode cX8_takeNumber 108 = .ok (.iaload, 1) := by decide +kernel
theorem dX8_takeNumber_109 : decode cX8_takeNumber 109 = .ok (.iadd, 1) := by decide +kernel
theorem dX8_takeNumber_110 : decode cX8_takeNumber 110 = .ok (.bipush 48, 2) := by decide +kernel
theorem dX8_takeNumber_112 : decode cX8_takeNumber 112 = .ok (.isub, 1) := by decide +kernel
theorem dX8_takeNumber_113 : decode cX8_takeNumber 113 = .ok (.putfield 161, 3) := by decide +kernel
theorem dX8_takeNumber_116 : decode cX8_takeNumber 116 = .ok (.aload_n 0, 1) := by decide +kernel
theorem dX8_takeNumber_117 : decode cX8_takeNumber 117 = .ok (.dup, 1) := by decide +kernel
theorem dX8_takeNumber_118 : decode cX8_takeNumber 118 = .ok (.getfield 124, 3) := by decide +kernel
theorem dX8_takeNumber_121 : decode cX8_takeNumber 121 = .ok (.iconst 1, 1) := by decide +kernel
theorem dX8_takeNumber_122 : decode cX8_takeNumber 122 = .ok (.iadd, 1) := by decide +kernel
theorem dX8_takeNumber_123 : decode cX8_takeNumber 123 = .ok (.putfield 124, 3) := by decide +kernel
theorem dX8_takeNumber_126 : decode cX8_takeNumber 126 = .ok (.goto (-84), 3) := by decide +kernel
theorem dX8_takeNumber_129 : decode cX8_takeNumber 129 = .ok (.aload_n 0, 1) := by decide +kernel
theorem dX8_takeNumber_130 : decode cX8_takeNumber 130 = .ok (.getfield 124, 3) := by decide +kernel
theorem dX8_takeNumber_133 : decode cX8_takeNumber 133 = .ok (.aload_n 0, 1) := by decide +kernel
theorem dX8_takeNumber_134 : decode cX8_takeNumber 134 = .ok (.getfield 158, 3) := by decide +kernel
theorem dX8_takeNumber_137 : decode cX8_takeNumber 137 = .ok (.isub, 1) := by decide +kernel
theorem dX8_takeNumber_138 : decode cX8_takeNumber 138 = .ok (.iconst 3, 1) := by decide +kernel
theorem dX8_takeNumber_139 : decode cX8_takeNumber 139 = .ok (.if_icmp .gt 18, 3) := by decide +kernel
theorem dX8_takeNumber_142 : decode cX8_takeNumber 142 = .ok (.aload_n 0, 1) := by decide +kernel
theorem dX8_takeNumber_143 : decode cX8_takeNumber 143 = .ok (.getfield 161, 3) := by decide +kernel
theorem dX8_takeNumber_146 : decode cX8_takeNumber 146 = .ok (.i2l, 1) := by decide +kernel
theorem dX8_takeNumber_147 : decode cX8_takeNumber 147 = .ok (.iload_n 1, 1) := by decide +kernel
theorem dX8_takeNumber_148 : decode cX8_takeNumber 148 = .ok (.i2l, 1) := by decide +kernel
theorem dX8_takeNumber_149 : decode cX8_takeNumber 149 = .ok (.iload_n 2, 1) := by decide +kernel
theorem dX8_takeNumber_150 : decode cX8_takeNumber 150 = .ok (.i2l, 1) := by decide +kernel
theorem dX8_takeNumber_151 : decode cX8_takeNumber 151 = .ok (.invokestatic 102, 3) := by decide +kernel
theorem dX8_takeNumber_154 : decode cX8_takeNumber 154 = .ok (.ifCond .ne 15, 3) := by decide +kernel
theorem dX8_takeNumber_157 : decode cX8_takeNumber 157 = .ok (.aload_n 0, 1) := by decide +kernel
theorem dX8_takeNumber_158 : decode cX8_takeNumber 158 = .ok (.iconst 2, 1) := by decide +kernel
theorem dX8_takeNumber_159 : decode cX8_takeNumber 159 = .ok (.aload_n 0, 1) := by decide +kernel
theorem dX8_takeNumber_160 : decode cX8_takeNumber 160 = .ok (.getfield 158, 3) := by decide +kernel
theorem dX8_takeNumber_163 : decode cX8_takeNumber 163 = .ok (.invokevirtual 154, 3) := by decide +kernel
theorem dX8_takeNumber_166 : decode cX8_takeNumber 166 = .ok (.goto 4, 3) := by decide +kernel
theorem dX8_takeNumber_169 : decode cX8_takeNumber 169 = .ok (.iconst 0, 1) := by decide +kernel
theorem dX8_takeNumber_170 : decode cX8_takeNumber 170 = .ok (.ireturn, 1) := by decide +kernel
theorem dX8_takeHouse_0 : decode cX8_takeHouse 0 = .ok (.aload_n 0, 1) := by decide +kernel
theorem dX8_takeHouse_1 : decode cX8_takeHouse 1 = .ok (.getfield 164, 3) := by decide +kernel
theorem dX8_takeHouse_4 : decode cX8_takeHouse 4 = .ok (.istore_n 1, 1) := by decide +kernel
theorem dX8_takeHouse_5 : decode cX8_takeHouse 5 = .ok (.aload_n 0, 1) := by decide +kernel
theorem dX8_takeHouse_6 : decode cX8_takeHouse 6 = .ok (.dup, 1) := by decide +kernel
theorem dX8_takeHouse_7 : decode cX8_takeHouse 7 = .ok (.getfield 164, 3) := by decide +kernel
theorem dX8_takeHouse_10 : decode cX8_takeHouse 10 = .ok (.iconst 1, 1) := by decide +kernel
theorem dX8_takeHouse_11 : decode cX8_takeHouse 11 = .ok (.iadd, 1) := by decide +kernel
theorem dX8_takeHouse_12 : decode cX8_takeHouse 12 = .ok (.putfield 164, 3) := by decide +kernel
theorem dX8_takeHouse_15 : decode cX8_takeHouse 15 = .ok (.aload_n 0, 1) := by decide +kernel
theorem dX8_takeHouse_16 : decode cX8_takeHouse 16 = .ok (.iconst 0, 1) := by decide +kernel
theorem dX8_takeHouse_17 : decode cX8_takeHouse 17 = .ok (.bipush 99, 2) := by decide +kernel
theorem dX8_takeHouse_19 : decode cX8_takeHouse 19 = .ok (.invokevirtual 167, 3) := by decide +kernel
theorem dX8_takeHouse_22 : decode cX8_takeHouse 22 = .ok (.istore_n 2, 1) := by decide +kernel
theorem dX8_takeHouse_23 : decode cX8_takeHouse 23 = .ok (.aload_n 0, 1) := by decide +kernel
theorem dX8_takeHouse_24 : decode cX8_takeHouse 24 = .ok (.getfield 44, 3) := by decide +kernel
theorem dX8_takeHouse_27 : decode cX8_takeHouse 27 = .ok (.iload_n 1, 1) := by decide +kernel
theorem dX8_takeHouse_28 : decode cX8_takeHouse 28 = .ok (.aload_n 0, 1) := by decide +kernel
theorem dX8_takeHouse_29 : decode cX8_takeHouse 29 = .ok (.getfield 161, 3) := by decide +kernel
theorem dX8_takeHouse_32 : decode cX8_takeHouse 32 = .ok (.iastore, 1) := by decide +kernel
theorem dX8_takeHouse_33 : decode cX8_takeHouse 33 = .ok (.iconst 0, 1) := by decide +kernel
theorem dX8_takeHouse_34 : decode cX8_takeHouse 34 = .ok (.istore_n 3, 1) := by decide +kernel
theorem dX8_takeHouse_35 : decode cX8_takeHouse 35 = .ok (.iload_n 2, 1) := by decide +kernel
theorem dX8_takeHouse_36 : decode cX8_takeHouse 36 = .ok (.ifCond .ne 98, 3) := by decide +kernel
theorem dX8_takeHouse_39 : decode cX8_takeHouse 39 = .ok (.aload_n 0, 1) := by decide +kernel
theorem dX8_takeHouse_40 : decode cX8_takeHouse 40 = .ok (.invokevirtual 127, 3) := by decide +kernel
theorem dX8_takeHouse_43 : decode cX8_takeHouse 43 = .ok (.i2l, 1) := by decide +kernel
theorem dX8_takeHouse_44 : decode cX8_takeHouse 44 = .ok (.ldc2_w 150, 3) := by decide +kernel
theorem dX8_takeHouse_47 : decode cX8_takeHouse 47 = .ok (.ldc2_w 152, 3) := by decide +kernel
theorem dX8_takeHouse_50 : decode cX8_takeHouse 50 = .ok (.invokestatic 102, 3) := by decide +kernel
theorem dX8_takeHouse_53 : decode cX8_takeHouse 53 = .ok (.ifCond .eq 81, 3) := by decide +kernel
theorem dX8_takeHouse_56 : decode cX8_takeHouse 56 = .ok (.aload_n 0, 1) := by decide +kernel
theorem dX8_takeHouse_57 : decode cX8_takeHouse 57 = .ok (.iconst 0, 1) := by decide +kernel
theorem dX8_takeHouse_58 : decode cX8_takeHouse 58 = .ok (.aload_n 0, 1) := by decide +kernel
theorem dX8_takeHouse_59 : decode cX8_takeHouse 59 = .ok (.getfield 170, 3) := by decide +kernel
theorem dX8_takeHouse_62 : decode cX8_takeHouse 62 = .ok (.iconst 1, 1) := by decide +kernel
theorem dX8_takeHouse_63 : decode cX8_takeHouse 63 = .ok (.isub, 1) := by decide +kernel
theorem dX8_takeHouse_64 : decode cX8_takeHouse 64 = .ok (.invokevirtual 167, 3) := by decide +kernel
theorem dX8_takeHouse_67 : decode cX8_takeHouse 67 = .ok (.istore_n 2, 1) := by decide +kernel
theorem dX8_takeHouse_68 : decode cX8_takeHouse 68 = .ok (.iload_n 2, 1) := by decide +kernel
theorem dX8_takeHouse_69 : decode cX8_takeHouse 69 = .ok (.ifCond .ne 20, 3) := by decide +kernel
theorem dX8_takeHouse_72 : decode cX8_takeHouse 72 = .ok (.iload_n 3, 1) := by decide +kernel
theorem dX8_takeHouse_73 : decode cX8_takeHouse 73 = .ok (.iconst 4, 1) := by decide +kernel
theorem dX8_takeHouse_74 : decode cX8_takeHouse 74 = .ok (.if_icmp .ne 15, 3) := by decide +kernel
theorem dX8_takeHouse_77 : decode cX8_takeHouse 77 = .ok (.aload_n 0, 1) := by decide +kernel
theorem dX8_takeHouse_78 : decode cX8_takeHouse 78 = .ok (.iconst 4, 1) := by decide +kernel
theorem dX8_takeHouse_79 : decode cX8_takeHouse 79 = .ok (.aload_n 0, 1) := by decide +kernel
theorem dX8_takeHouse_80 : decode cX8_takeHouse 80 = .ok (.getfield 158, 3) := by decide +kernel
theorem dX8_takeHouse_83 : decode cX8_takeHouse 83 = .ok (.invokevirtual 154, 3) := by decide +kernel
theorem dX8_takeHouse_86 : decode cX8_takeHouse 86 = .ok (.goto 4, 3) := by decide +kernel
theorem dX8_takeHouse_89 : decode cX8_takeHouse 89 = .ok (.iload_n 2, 1) := by decide +kernel
theorem dX8_takeHouse_90 : decode cX8_takeHouse 90 = .ok (.istore_n 2, 1) := by decide +kernel
theorem dX8_takeHouse_91 : decode cX8_takeHouse 91 = .ok (.iload_n 2, 1) := by decide +kernel
theorem dX8_takeHouse_92 : decode cX8_takeHouse 92 = .ok (.ifCond .ne (-57), 3) := by decide +kernel
theorem dX8_takeHouse_95 : decode cX8_takeHouse 95 = .ok (.aload_n 0, 1) := by decide +kernel
theorem dX8_takeHouse_96 : decode cX8_takeHouse 96 = .ok (.getfield 47, 3) := by decide +kernel
theorem dX8_takeHouse_99 : decode cX8_takeHouse 99 = .ok (.aload_n 0, 1) := by decide +kernel
theorem dX8_takeHouse_100 : decode cX8_takeHouse 100 = .ok (.getfield 173, 3) := by decide +kernel
theorem dX8_takeHouse_103 : decode cX8_takeHouse 103 = .ok (.aload_n 0, 1) := by decide +kernel
theorem dX8_takeHouse_104 : decode cX8_takeHouse 104 = .ok (.getfield 161, 3) := by decide +kernel
theorem dX8_takeHouse_107 : decode cX8_takeHouse 107 = .ok (.iastore, 1) := by decide +kernel
theorem dX8_takeHouse_108 : decode cX8_takeHouse 108 = .ok (.aload_n 0, 1) := by decide +kernel
theorem dX8_takeHouse_109 : decode cX8_takeHouse 109 = .ok (.getfield 50, 3) := by decide +kernel
theorem dX8_takeHouse_112 : decode cX8_takeHouse 112 = .ok (.aload_n 0, 1) := by decide +kernel
theorem dX8_takeHouse_113 : decode cX8_takeHouse 113 = .ok (.getfield 173, 3) := by decide +kernel
theorem dX8_takeHouse_116 : decode cX8_takeHouse 116 = .ok (.iload_n 1, 1) := by decide +kernel
theorem dX8_takeHouse_117 : decode cX8_takeHouse 117 = .ok (.iastore, 1) := by decide +kernel
theorem dX8_takeHouse_118 : decode cX8_takeHouse 118 = .ok (.aload_n 0, 1) := by decide +kernel
theorem dX8_takeHouse_119 : decode cX8_takeHouse 119 = .ok (.dup, 1) := by decide +kernel
theorem dX8_takeHouse_120 : decode cX8_takeHouse 120 = .ok (.getfield 173, 3) := by decide +kernel
theorem dX8_takeHouse_123 : decode cX8_takeHouse 123 = .ok (.iconst 1, 1) := by decide +kernel
theorem dX8_takeHouse_124 : decode cX8_takeHouse 124 = .ok (.iadd, 1) := by decide +kernel
theorem dX8_takeHouse_125 : decode cX8_takeHouse 125 = .ok (.putfield 173, 3) := by decide +kernel
theorem dX8_takeHouse_128 : decode cX8_takeHouse 128 = .ok (.iinc 3 1, 3) := by decide +kernel
theorem dX8_takeHouse_131 : decode cX8_takeHouse 131 = .ok (.goto (-96), 3) := by decide +kernel
theorem dX8_takeHouse_134 : decode cX8_takeHouse 134 = .ok (.iload_n 2, 1) := by decide +kernel
theorem dX8_takeHouse_135 : decode cX8_takeHouse 135 = .ok (.ireturn, 1) := by decide +kernel
theorem dX8_takeWorth_0 : decode cX8_takeWorth 0 = .ok (.aload_n 0, 1) := by decide +kernel
theorem dX8_takeWorth_1 : decode cX8_takeWorth 1 = .ok (.iconst 0, 1) := by decide +kernel
theorem dX8_takeWorth_2 : decode cX8_takeWorth 2 = .ok (.aload_n 0, 1) := by decide +kernel
theorem dX8_takeWorth_3 : decode cX8_takeWorth 3 = .ok (.getfield 164, 3) := by decide +kernel
theorem dX8_takeWorth_6 : decode cX8_takeWorth 6 = .ok (.iconst 1, 1) := by decide +kernel
theorem dX8_takeWorth_7 : decode cX8_takeWorth 7 = .ok (.isub, 1) := by decide +kernel
theorem dX8_takeWorth_8 : decode cX8_takeWorth 8 = .ok (.invokevirtual 167, 3) := by decide +kernel
theorem dX8_takeWorth_11 : decode cX8_takeWorth 11 = .ok (.istore_n 1, 1) := by decide +kernel
theorem dX8_takeWorth_12 : decode cX8_takeWorth 12 = .ok (.aload_n 0, 1) := by decide +kernel
theorem dX8_takeWorth_13 : decode cX8_takeWorth 13 = .ok (.getfield 161, 3) := by decide +kernel
theorem dX8_takeWorth_16 : decode cX8_takeWorth 16 = .ok (.istore_n 2, 1) := by decide +kernel
theorem dX8_takeWorth_17 : decode cX8_takeWorth 17 = .ok (.iload_n 1, 1) := by decide +kernel
theorem dX8_takeWorth_18 : decode cX8_takeWorth 18 = .ok (.ifCond .le 7, 3) := by decide +kernel
theorem dX8_takeWorth_21 : decode cX8_takeWorth 21 = .ok (.iload_n 1, 1) := by decide +kernel
theorem dX8_takeWorth_22 : decode cX8_takeWorth 22 = .ok (.goto 14, 3) := by decide +kernel
theorem dX8_takeWorth_25 : decode cX8_takeWorth 25 = .ok (.aload_n 0, 1) := by decide +kernel
theorem dX8_takeWorth_26 : decode cX8_takeWorth 26 = .ok (.iconst 0, 1) := by decide +kernel
theorem dX8_takeWorth_27 : decode cX8_takeWorth 27 = .ok (.aload_n 0, 1) := by decide +kernel
theorem dX8_takeWorth_28 : decode cX8_takeWorth 28 = .ok (.getfield 170, 3) := by decide +kernel
theorem dX8_takeWorth_31 : decode cX8_takeWorth 31 = .ok (.iconst 1, 1) := by decide +kernel
theorem dX8_takeWorth_32 : decode cX8_takeWorth 32 = .ok (.isub, 1) := by decide +kernel
theorem dX8_takeWorth_33 : decode cX8_takeWorth 33 = .ok (.invokevirtual 167, 3) := by decide +kernel
theorem dX8_takeWorth_36 : decode cX8_takeWorth 36 = .ok (.istore_n 1, 1) := by decide +kernel
theorem dX8_takeWorth_37 : decode cX8_takeWorth 37 = .ok (.iload_n 1, 1) := by decide +kernel
theorem dX8_takeWorth_38 : decode cX8_takeWorth 38 = .ok (.ifCond .le 5, 3) := by decide +kernel
theorem dX8_takeWorth_41 : decode cX8_takeWorth 41 = .ok (.iload_n 1, 1) := by decide +kernel
theorem dX8_takeWorth_42 : decode cX8_takeWorth 42 = .ok (.ireturn, 1) := by decide +kernel
theorem dX8_takeWorth_43 : decode cX8_takeWorth 43 = .ok (.bipush 6, 2) := by decide +kernel
theorem dX8_takeWorth_45 : decode cX8_takeWorth 45 = .ok (.iload_n 2, 1) := by decide +kernel
theorem dX8_takeWorth_46 : decode cX8_takeWorth 46 = .ok (.imul, 1) := by decide +kernel
theorem dX8_takeWorth_47 : decode cX8_takeWorth 47 = .ok (.aload_n 0, 1) := by decide +kernel
theorem dX8_takeWorth_48 : decode cX8_takeWorth 48 = .ok (.getfield 161, 3) := by decide +kernel
theorem dX8_takeWorth_51 : decode cX8_takeWorth 51 = .ok (.iadd, 1) := by decide +kernel
theorem dX8_takeWorth_52 : decode cX8_takeWorth 52 = .ok (.istore_n 3, 1) := by decide +kernel
theorem dX8_takeWorth_53 : decode cX8_takeWorth 53 = .ok (.aload_n 0, 1) := by decide +kernel
theorem dX8_takeWorth_54 : decode cX8_takeWorth 54 = .ok (.getfield 53, 3) := by decide +kernel
theorem dX8_takeWorth_57 : decode cX8_takeWorth 57 = .ok (.iload_n 3, 1) := by decide +kernel
theorem dX8_takeWorth_58 : decode cX8_takeWorth 58 = .ok (.iaload, 1) := by decide +kernel
theorem dX8_takeWorth_59 : decode cX8_takeWorth 59 = .ok (.ifCond .lt 13, 3) := by decide +kernel
theorem dX8_takeWorth_62 : decode cX8_takeWorth 62 = .ok (.aload_n 0, 1) := by decide +kernel
theorem dX8_takeWorth_63 : decode cX8_takeWorth 63 = .ok (.iconst 4, 1) := by decide +kernel
theorem dX8_takeWorth_64 : decode cX8_takeWorth 64 = .ok (.aload_n 0, 1) := by decide +kernel
theorem dX8_takeWorth_65 : decode cX8_takeWorth 65 = .ok (.getfield 158, 3) := by decide +kernel
theorem dX8_takeWorth_68 : decode cX8_takeWorth 68 = .ok (.invokevirtual 154, 3) := by decide +kernel
theorem dX8_takeWorth_71 : decode cX8_takeWorth 71 = .ok (.ireturn, 1) := by decide +kernel
theorem dX8_takeWorth_72 : decode cX8_takeWorth 72 = .ok (.aload_n 0, 1) := by decide +kernel
theorem dX8_takeWorth_73 : decode cX8_takeWorth 73 = .ok (.dup, 1) := by decide +kernel
theorem dX8_takeWorth_74 : decode cX8_takeWorth 74 = .ok (.getfield 176, 3) := by decide +kernel
theorem dX8_takeWorth_77 : decode cX8_takeWorth 77 = .ok (.iconst 1, 1) := by decide +kernel
theorem dX8_takeWorth_78 : decode cX8_takeWorth 78 = .ok (.iadd, 1) := by decide +kernel
theorem dX8_takeWorth_79 : decode cX8_takeWorth 79 = .ok (.putfield 176, 3) := by decide +kernel
theorem dX8_takeWorth_82 : decode cX8_takeWorth 82 = .ok (.aload_n 0, 1) := by decide +kernel
theorem dX8_takeWorth_83 : decode cX8_takeWorth 83 = .ok (.iconst 0, 1) := by decide +kernel
theorem dX8_takeWorth_84 : decode cX8_takeWorth 84 = .ok (.bipush 99, 2) := by decide +kernel
theorem dX8_takeWorth_86 : decode cX8_takeWorth 86 = .ok (.invokevirtual 167, 3) := by decide +kernel
theorem dX8_takeWorth_89 : decode cX8_takeWorth 89 = .ok (.istore_n 1, 1) := by decide +kernel
theorem dX8_takeWorth_90 : decode cX8_takeWorth 90 = .ok (.aload_n 0, 1) := by decide +kernel
theorem dX8_takeWorth_91 : decode cX8_takeWorth 91 = .ok (.getfield 53, 3) := by decide +kernel
theorem dX8_takeWorth_94 : decode cX8_takeWorth 94 = .ok (.iload_n 3, 1) := by decide +kernel
theorem dX8_takeWorth_95 : decode cX8_takeWorth 95 = .ok (.aload_n 0, 1) := by decide +kernel
theorem dX8_takeWorth_96 : decode cX8_takeWorth 96 = .ok (.getfield 161, 3) := by decide +kernel
theorem dX8_takeWorth_99 : decode cX8_takeWorth 99 = .ok (.iastore, 1) := by decide +kernel
theorem dX8_takeWorth_100 : decode cX8_takeWorth 100 = .ok (.iload_n 1, 1) := by decide +kernel
theorem dX8_takeWorth_101 : decode cX8_takeWorth 101 = .ok (.ireturn, 1) := by decide +kernel
theorem dX8_takeClause_0 : decode cX8_takeClause 0 = .ok (.aload_n 0, 1) := by decide +kernel
theorem dX8_takeClause_1 : decode cX8_takeClause 1 = .ok (.invokevirtual 179, 3) := by decide +kernel
theorem dX8_takeClause_4 : decode cX8_takeClause 4 = .ok (.aload_n 0, 1) := by decide +kernel
theorem dX8_takeClause_5 : decode cX8_takeClause 5 = .ok (.getfield 131, 3) := by decide +kernel
theorem dX8_takeClause_8 : decode cX8_takeClause 8 = .ok (.bipush 115, 2) := by decide +kernel
theorem dX8_takeClause_10 : decode cX8_takeClause 10 = .ok (.bipush 111, 2) := by decide +kernel
theorem dX8_takeClause_12 : decode cX8_takeClause 12 = .ok (.bipush 114, 2) := by decide +kernel
theorem dX8_takeClause_14 : decode cX8_takeClause 14 = .ok (.bipush 116, 2) := by decide +kernel
theorem dX8_takeClause_16 : decode cX8_takeClause 16 = .ok (.bipush 115, 2) := by decide +kernel
theorem dX8_takeClause_18 : decode cX8_takeClause 18 = .ok (.invokestatic 182, 3) := by decide +kernel
theorem dX8_takeClause_21 : decode cX8_takeClause 21 = .ok (.lcmp, 1) := by decide +kernel
theorem dX8_takeClause_22 : decode cX8_takeClause 22 = .ok (.ifCond .ne 7, 3) := by decide +kernel
theorem dX8_takeClause_25 : decode cX8_takeClause 25 = .ok (.iconst 0, 1) := by decide +kernel
theorem dX8_takeClause_26 : decode cX8_takeClause 26 = .ok (.goto 54, 3) := by decide +kernel
theorem dX8_takeClause_29 : decode cX8_takeClause 29 = .ok (.aload_n 0, 1) := by decide +kernel
theorem dX8_takeClause_30 : decode cX8_takeClause 30 = .ok (.getfield 131, 3) := by decide +kernel
theorem dX8_takeClause_33 : decode cX8_takeClause 33 = .ok (.bipush 104, 2) := by decide +kernel
theorem dX8_takeClause_35 : decode cX8_takeClause 35 = .ok (.bipush 111, 2) := by decide +kernel
theorem dX8_takeClause_37 : decode cX8_takeClause 37 = .ok (.bipush 117, 2) := by decide +kernel
theorem dX8_takeClause_39 : decode cX8_takeClause 39 = .ok (.bipush 115, 2) := by decide +kernel
theorem dX8_takeClause_41 : decode cX8_takeClause 41 = .ok (.bipush 101, 2) := by decide +kernel
theorem dX8_takeClause_43 : decode cX8_takeClause 43 = .ok (.invokestatic 182, 3) := by decide +kernel
theorem dX8_takeClause_46 : decode cX8_takeClause 46 = .ok (.lcmp, 1) := by decide +kernel
theorem dX8_takeClause_47 : decode cX8_takeClause 47 = .ok (.ifCond .ne 7, 3) := by decide +kernel
theorem dX8_takeClause_50 : decode cX8_takeClause 50 = .ok (.iconst 1, 1) := by decide +kernel
theorem dX8_takeClause_51 : decode cX8_takeClause 51 = .ok (.goto 29, 3) := by decide +kernel
theorem dX8_takeClause_54 : decode cX8_takeClause 54 = .ok (.aload_n 0, 1) := by decide +kernel
theorem dX8_takeClause_55 : decode cX8_takeClause 55 = .ok (.getfield 131, 3) := by decide +kernel
theorem dX8_takeClause_58 : decode cX8_takeClause 58 = .ok (.bipush 119, 2) := by decide +kernel
theorem dX8_takeClause_60 : decode cX8_takeClause 60 = .ok (.bipush 111, 2) := by decide +kernel
theorem dX8_takeClause_62 : decode cX8_takeClause 62 = .ok (.bipush 114, 2) := by decide +kernel
theorem dX8_takeClause_64 : decode cX8_takeClause 64 = .ok (.bipush 116, 2) := by decide +kernel
theorem dX8_takeClause_66 : decode cX8_takeClause 66 = .ok (.bipush 104, 2) := by decide +kernel
theorem dX8_takeClause_68 : decode cX8_takeClause 68 = .ok (.invokestatic 182, 3) := by decide +kernel
theorem dX8_takeClause_71 : decode cX8_takeClause 71 = .ok (.lcmp, 1) := by decide +kernel
theorem dX8_takeClause_72 : decode cX8_takeClause 72 = .ok (.ifCond .ne 7, 3) := by decide +kernel
theorem dX8_takeClause_75 : decode cX8_takeClause 75 = .ok (.iconst 2, 1) := by decide +kernel
theorem dX8_takeClause_76 : decode cX8_takeClause 76 = .ok (.goto 4, 3) := by decide +kernel
theorem dX8_takeClause_79 : decode cX8_takeClause 79 = .ok (.iconst (-1), 1) := by decide +kernel
theorem dX8_takeClause_80 : decode cX8_takeClause 80 = .ok (.istore_n 1, 1) := by decide +kernel
theorem dX8_takeClause_81 : decode cX8_takeClause 81 = .ok (.iload_n 1, 1) := by decide +kernel
theorem dX8_takeClause_82 : decode cX8_takeClause 82 = .ok (.ifCond .lt 14, 3) := by decide +kernel
theorem dX8_takeClause_85 : decode cX8_takeClause 85 = .ok (.iload_n 1, 1) := by decide +kernel
theorem dX8_takeClause_86 : decode cX8_takeClause 86 = .ok (.ifCond .le 20, 3) := by decide +kernel
theorem dX8_takeClause_89 : decode cX8_takeClause 89 = .ok (.aload_n 0, 1) := by decide +kernel
theorem dX8_takeClause_90 : decode cX8_takeClause 90 = .ok (.getfield 170, 3) := by decide +kernel
theorem dX8_takeClause_93 : decode cX8_takeClause 93 = .ok (.ifCond .ne 13, 3) := by decide +kernel
theorem dX8_takeClause_96 : decode cX8_takeClause 96 = .ok (.aload_n 0, 1) := by decide +kernel
theorem dX8_takeClause_97 : decode cX8_takeClause 97 = .ok (.iconst 1, 1) := by decide +kernel
theorem dX8_takeClause_98 : decode cX8_takeClause 98 = .ok (.aload_n 0, 1) := by decide +kernel
theorem dX8_takeClause_99 : decode cX8_takeClause 99 = .ok (.getfield 124, 3) := by decide +kernel
theorem dX8_takeClause_102 : decode cX8_takeClause 102 = .ok (.invokevirtual 154, 3) := by decide +kernel
theorem dX8_takeClause_105 : decode cX8_takeClause 105 = .ok (.ireturn, 1) := by decide +kernel
theorem dX8_takeClause_106 : decode cX8_takeClause 106 = .ok (.iload_n 1, 1) := by decide +kernel
theorem dX8_takeClause_107 : decode cX8_takeClause 107 = .ok (.ifCond .ne 13, 3) := by decide +kernel
theorem dX8_takeClause_110 : decode cX8_takeClause 110 = .ok (.aload_n 0, 1) := by decide +kernel
theorem dX8_takeClause_111 : decode cX8_takeClause 111 = .ok (.getfield 170, 3) := by decide +kernel
theorem dX8_takeClause_114 : decode cX8_takeClause 114 = .ok (.ifCond .le 41, 3) := by decide +kernel
theorem dX8_takeClause_117 : decode cX8_takeClause 117 = .ok (.goto 28, 3) := by decide +kernel
theorem dX8_takeClause_120 : decode cX8_takeClause 120 = .ok (.iload_n 1, 1) := by decide +kernel
theorem dX8_takeClause_121 : decode cX8_takeClause 121 = .ok (.iconst 1, 1) := by decide +kernel
theorem dX8_takeClause_122 : decode cX8_takeClause 122 = .ok (.if_icmp .ne 14, 3) := by decide +kernel
theorem dX8_takeClause_125 : decode cX8_takeClause 125 = .ok (.aload_n 0, 1) := by decide +kernel
theorem dX8_takeClause_126 : decode cX8_takeClause 126 = .ok (.getfield 164, 3) := by decide +kernel
theorem dX8_takeClause_129 : decode cX8_takeClause 129 = .ok (.iconst 5, 1) := by decide +kernel
theorem dX8_takeClause_130 : decode cX8_takeClause 130 = .ok (.if_icmp .ne 25, 3) := by decide +kernel
theorem dX8_takeClause_133 : decode cX8_takeClause 133 = .ok (.goto 12, 3) := by decide +kernel
theorem dX8_takeClause_136 : decode cX8_takeClause 136 = .ok (.aload_n 0, 1) := by decide +kernel
theorem dX8_takeClause_137 : decode cX8_takeClause 137 = .ok (.getfield 176, 3) := by decide +kernel
theorem dX8_takeClause_140 : decode cX8_takeClause 140 = .ok (.bipush 30, 2) := by decide +kernel
theorem dX8_takeClause_142 : decode cX8_takeClause 142 = .ok (.if_icmp .ne 13, 3) := by decide +kernel
theorem dX8_takeClause_145 : decode cX8_takeClause 145 = .ok (.aload_n 0, 1) := by decide +kernel
theorem dX8_takeClause_146 : decode cX8_takeClause 146 = .ok (.iconst 3, 1) := by decide +kernel
theorem dX8_takeClause_147 : decode cX8_takeClause 147 = .ok (.aload_n 0, 1) := by decide +kernel
theorem dX8_takeClause_148 : decode cX8_takeClause 148 = .ok (.getfield 124, 3) := by decide +kernel
theorem dX8_takeClause_151 : decode cX8_takeClause 151 = .ok (.invokevirtual 154, 3) := by decide +kernel
theorem dX8_takeClause_154 : decode cX8_takeClause 154 = .ok (.ireturn, 1) := by decide +kernel
theorem dX8_takeClause_155 : decode cX8_takeClause 155 = .ok (.aload_n 0, 1) := by decide +kernel
theorem dX8_takeClause_156 : decode cX8_takeClause 156 = .ok (.aload_n 0, 1) := by decide +kernel
theorem dX8_takeClause_157 : decode cX8_takeClause 157 = .ok (.getfield 135, 3) := by decide +kernel
theorem dX8_takeClause_160 : decode cX8_takeClause 160 = .ok (.putfield 124, 3) := by decide +kernel
theorem dX8_takeClause_163 : decode cX8_takeClause 163 = .ok (.iconst 0, 1) := by decide +kernel
theorem dX8_takeClause_164 : decode cX8_takeClause 164 = .ok (.istore_n 2, 1) := by decide +kernel
theorem dX8_takeClause_165 : decode cX8_takeClause 165 = .ok (.iload_n 1, 1) := by decide +kernel
theorem dX8_takeClause_166 : decode cX8_takeClause 166 = .ok (.ifCond .ne 22, 3) := by decide +kernel
theorem dX8_takeClause_169 : decode cX8_takeClause 169 = .ok (.aload_n 0, 1) := by decide +kernel
theorem dX8_takeClause_170 : decode cX8_takeClause 170 = .ok (.iconst 1, 1) := by decide +kernel
theorem dX8_takeClause_171 : decode cX8_takeClause 171 = .ok (.bipush 6, 2) := by decide +kernel
theorem dX8_takeClause_173 : decode cX8_takeClause 173 = .ok (.invokevirtual 167, 3) := by decide +kernel
theorem dX8_takeClause_176 : decode cX8_takeClause 176 = .ok (.istore_n 2, 1) := by decide +kernel
theorem dX8_takeClause_177 : decode cX8_takeClause 177 = .ok (.aload_n 0, 1) := by decide +kernel
theorem dX8_takeClause_178 : decode cX8_takeClause 178 = .ok (.aload_n 0, 1) := by decide +kernel
theorem dX8_takeClause_179 : decode cX8_takeClause 179 = .ok (.getfield 161, 3) := by decide +kernel
theorem dX8_takeClause_182 : decode cX8_takeClause 182 = .ok (.putfield 170, 3) := by decide +kernel
theorem dX8_takeClause_185 : decode cX8_takeClause 185 = .ok (.goto 20, 3) := by decide +kernel
theorem dX8_takeClause_188 : decode cX8_takeClause 188 = .ok (.iload_n 1, 1) := by decide +kernel
theorem dX8_takeClause_189 : decode cX8_takeClause 189 = .ok (.iconst 1, 1) := by decide +kernel
theorem dX8_takeClause_190 : decode cX8_takeClause 190 = .ok (.if_icmp .ne 10, 3) := by decide +kernel
theorem dX8_takeClause_193 : decode cX8_takeClause 193 = .ok (.aload_n 0, 1) := by decide +kernel
theorem dX8_takeClause_194 : decode cX8_takeClause 194 = .ok (.invokevirtual 186, 3) := by decide +kernel
theorem dX8_takeClause_197 : decode cX8_takeClause 197 = .ok (.goto 7, 3) := by decide +kernel
theorem dX8_takeClause_200 : decode cX8_takeClause 200 = .ok (.aload_n 0, 1) := by decide +kernel
theorem dX8_takeClause_201 : decode cX8_takeClause 201 = .ok (.invokevirtual 189, 3) := by decide +kernel
theorem dX8_takeClause_204 : decode cX8_takeClause 204 = .ok (.istore_n 2, 1) := by decide +kernel
theorem dX8_takeClause_205 : decode cX8_takeClause 205 = .ok (.iload_n 2, 1) := by decide +kernel
theorem dX8_takeClause_206 : decode cX8_takeClause 206 = .ok (.ifCond .ne 22, 3) := by decide +kernel
theorem dX8_takeClause_209 : decode cX8_takeClause 209 = .ok (.aload_n 0, 1) := by decide +kernel
theorem dX8_takeClause_210 : decode cX8_takeClause 210 = .ok (.invokevirtual 127, 3) := by decide +kernel
theorem dX8_takeClause_213 : decode cX8_takeClause 213 = .ok (.bipush 59, 2) := by decide +kernel
theorem dX8_takeClause_215 : decode cX8_takeClause 215 = .ok (.if_icmp .eq 13, 3) := by decide +kernel
theorem dX8_takeClause_218 : decode cX8_takeClause 218 = .ok (.aload_n 0, 1) := by decide +kernel
theorem dX8_takeClause_219 : decode cX8_takeClause 219 = .ok (.iconst 1, 1) := by decide +kernel
theorem dX8_takeClause_220 : decode cX8_takeClause 220 = .ok (.aload_n 0, 1) := by decide +kernel
theorem dX8_takeClause_221 : decode cX8_takeClause 221 = .ok (.getfield 124, 3) := by decide +kernel
theorem dX8_takeClause_224 : decode cX8_takeClause 224 = .ok (.invokevirtual 154, 3) := by decide +kernel
theorem dX8_takeClause_227 : decode cX8_takeClause 227 = .ok (.ireturn, 1) := by decide +kernel
theorem dX8_takeClause_228 : decode cX8_takeClause 228 = .ok (.aload_n 0, 1) := by decide +kernel
theorem dX8_takeClause_229 : decode cX8_takeClause 229 = .ok (.dup, 1) := by decide +kernel
theorem dX8_takeClause_230 : decode cX8_takeClause 230 = .ok (.getfield 124, 3) := by decide +kernel
theorem dX8_takeClause_233 : decode cX8_takeClause 233 = .ok (.iconst 1, 1) := by decide +kernel
theorem dX8_takeClause_234 : decode cX8_takeClause 234 = .ok (.iadd, 1) := by decide +kernel
theorem dX8_takeClause_235 : decode cX8_takeClause 235 = .ok (.putfield 124, 3) := by decide +kernel
theorem dX8_takeClause_238 : decode cX8_takeClause 238 = .ok (.iload_n 2, 1) := by decide +kernel
theorem dX8_takeClause_239 : decode cX8_takeClause 239 = .ok (.ireturn, 1) := by decide +kernel
theorem dX8_spit_0 : decode cX8_spit 0 = .ok (.aload_n 0, 1) := by decide +kernel
theorem dX8_spit_1 : decode cX8_spit 1 = .ok (.iconst (-1), 1) := by decide +kernel
theorem dX8_spit_2 : decode cX8_spit 2 = .ok (.putfield 40, 3) := by decide +kernel
theorem dX8_spit_5 : decode cX8_spit 5 = .ok (.aload_n 0, 1) := by decide +kernel
theorem dX8_spit_6 : decode cX8_spit 6 = .ok (.iconst 0, 1) := by decide +kernel
theorem dX8_spit_7 : decode cX8_spit 7 = .ok (.putfield 124, 3) := by decide +kernel
theorem dX8_spit_10 : decode cX8_spit 10 = .ok (.aload_n 0, 1) := by decide +kernel
theorem dX8_spit_11 : decode cX8_spit 11 = .ok (.iconst 0, 1) := by decide +kernel
theorem dX8_spit_12 : decode cX8_spit 12 = .ok (.putfield 170, 3) := by decide +kernel
theorem dX8_spit_15 : decode cX8_spit 15 = .ok (.aload_n 0, 1) := by decide +kernel
theorem dX8_spit_16 : decode cX8_spit 16 = .ok (.iconst 0, 1) := by decide +kernel
theorem dX8_spit_17 : decode cX8_spit 17 = .ok (.putfield 164, 3) := by decide +kernel
theorem dX8_spit_20 : decode cX8_spit 20 = .ok (.aload_n 0, 1) := by decide +kernel
theorem dX8_spit_21 : decode cX8_spit 21 = .ok (.iconst 0, 1) := by decide +kernel
theorem dX8_spit_22 : decode cX8_spit 22 = .ok (.putfield 173, 3) := by decide +kernel
theorem dX8_spit_25 : decode cX8_spit 25 = .ok (.aload_n 0, 1) := by decide +kernel
theorem dX8_spit_26 : decode cX8_spit 26 = .ok (.iconst 0, 1) := by decide +kernel
theorem dX8_spit_27 : decode cX8_spit 27 = .ok (.putfield 176, 3) := by decide +kernel
theorem dX8_spit_30 : decode cX8_spit 30 = .ok (.iconst 0, 1) := by decide +kernel
theorem dX8_spit_31 : decode cX8_spit 31 = .ok (.istore_n 1, 1) := by decide +kernel
theorem dX8_spit_32 : decode cX8_spit 32 = .ok (.iload_n 1, 1) := by decide +kernel
theorem dX8_spit_33 : decode cX8_spit 33 = .ok (.bipush 30, 2) := by decide +kernel
theorem dX8_spit_35 : decode cX8_spit 35 = .ok (.if_icmp .ge 16, 3) := by decide +kernel
theorem dX8_spit_38 : decode cX8_spit 38 = .ok (.aload_n 0, 1) := by decide +kernel
theorem dX8_spit_39 : decode cX8_spit 39 = .ok (.getfield 53, 3) := by decide +kernel
theorem dX8_spit_42 : decode cX8_spit 42 = .ok (.iload_n 1, 1) := by decide +kernel
theorem dX8_spit_43 : decode cX8_spit 43 = .ok (.iconst (-1), 1) := by decide +kernel
theorem dX8_spit_44 : decode cX8_spit 44 = .ok (.iastore, 1) := by decide +kernel
theorem dX8_spit_45 : decode cX8_spit 45 = .ok (.iinc 1 1, 3) := by decide +kernel
theorem dX8_spit_48 : decode cX8_spit 48 = .ok (.goto (-16), 3) := by decide +kernel
theorem dX8_spit_51 : decode cX8_spit 51 = .ok (.iconst 0, 1) := by decide +kernel
theorem dX8_spit_52 : decode cX8_spit 52 = .ok (.istore_n 1, 1) := by decide +kernel
theorem dX8_spit_53 : decode cX8_spit 53 = .ok (.iload_n 1, 1) := by decide +kernel
theorem dX8_spit_54 : decode cX8_spit 54 = .ok (.ifCond .ne 18, 3) := by decide +kernel
theorem dX8_spit_57 : decode cX8_spit 57 = .ok (.aload_n 0, 1) := by decide +kernel
theorem dX8_spit_58 : decode cX8_spit 58 = .ok (.invokevirtual 127, 3) := by decide +kernel
theorem dX8_spit_61 : decode cX8_spit 61 = .ok (.ifCond .lt 11, 3) := by decide +kernel
theorem dX8_spit_64 : decode cX8_spit 64 = .ok (.aload_n 0, 1) := by decide +kernel
theorem dX8_spit_65 : decode cX8_spit 65 = .ok (.invokevirtual 192, 3) := by decide +kernel
theorem dX8_spit_68 : decode cX8_spit 68 = .ok (.istore_n 1, 1) := by decide +kernel
theorem dX8_spit_69 : decode cX8_spit 69 = .ok (.goto (-16), 3) := by decide +kernel
theorem dX8_spit_72 : decode cX8_spit 72 = .ok (.aload_n 0, 1) := by decide +kernel
theorem dX8_spit_73 : decode cX8_spit 73 = .ok (.iconst 0, 1) := by decide +kernel
theorem dX8_spit_74 : decode cX8_spit 74 = .ok (.putfield 118, 3) := by decide +kernel
theorem dX8_spit_77 : decode cX8_spit 77 = .ok (.iload_n 1, 1) := by decide +kernel
theorem dX8_spit_78 : decode cX8_spit 78 = .ok (.ifCond .le 8, 3) := by decide +kernel
theorem dX8_spit_81 : decode cX8_spit 81 = .ok (.bipush (-10), 2) := by decide +kernel
theorem dX8_spit_83 : decode cX8_spit 83 = .ok (.iload_n 1, 1) := by decide +kernel
theorem dX8_spit_84 : decode cX8_spit 84 = .ok (.isub, 1) := by decide +kernel
theorem dX8_spit_85 : decode cX8_spit 85 = .ok (.ireturn, 1) := by decide +kernel
theorem dX8_spit_86 : decode cX8_spit 86 = .ok (.aload_n 0, 1) := by decide +kernel
theorem dX8_spit_87 : decode cX8_spit 87 = .ok (.aload_n 0, 1) := by decide +kernel
theorem dX8_spit_88 : decode cX8_spit 88 = .ok (.getfield 170, 3) := by decide +kernel
theorem dX8_spit_91 : decode cX8_spit 91 = .ok (.putfield 96, 3) := by decide +kernel
theorem dX8_spit_94 : decode cX8_spit 94 = .ok (.aload_n 0, 1) := by decide +kernel
theorem dX8_spit_95 : decode cX8_spit 95 = .ok (.aload_n 0, 1) := by decide +kernel
theorem dX8_spit_96 : decode cX8_spit 96 = .ok (.getfield 164, 3) := by decide +kernel
theorem dX8_spit_99 : decode cX8_spit 99 = .ok (.putfield 99, 3) := by decide +kernel
theorem dX8_spit_102 : decode cX8_spit 102 = .ok (.aload_n 0, 1) := by decide +kernel
theorem dX8_spit_103 : decode cX8_spit 103 = .ok (.aload_n 0, 1) := by decide +kernel
theorem dX8_spit_104 : decode cX8_spit 104 = .ok (.getfield 173, 3) := by decide +kernel
theorem dX8_spit_107 : decode cX8_spit 107 = .ok (.putfield 112, 3) := by decide +kernel
theorem dX8_spit_110 : decode cX8_spit 110 = .ok (.iconst 0, 1) := by decide +kernel
theorem dX8_spit_111 : decode cX8_spit 111 = .ok (.istore_n 2, 1) := by decide +kernel
theorem dX8_spit_112 : decode cX8_spit 112 = .ok (.iload_n 2, 1) := by decide +kernel
theorem dX8_spit_113 : decode cX8_spit 113 = .ok (.iconst 5, 1) := by decide +kernel
theorem dX8_spit_114 : decode cX8_spit 114 = .ok (.if_icmp .ge 21, 3) := by decide +kernel
theorem dX8_spit_117 : decode cX8_spit 117 = .ok (.aload_n 0, 1) := by decide +kernel
theorem dX8_spit_118 : decode cX8_spit 118 = .ok (.getfield 7, 3) := by decide +kernel
theorem dX8_spit_121 : decode cX8_spit 121 = .ok (.iload_n 2, 1) := by decide +kernel
theorem dX8_spit_122 : decode cX8_spit 122 = .ok (.aload_n 0, 1) := by decide +kernel
theorem dX8_spit_123 : decode cX8_spit 123 = .ok (.getfield 44, 3) := by decide +kernel
theorem dX8_spit_126 : decode cX8_spit 126 = .ok (.iload_n 2, 1) := by decide +kernel
theorem dX8_spit_127 : decode cX8_spit 127 = .ok (.iaload, 1) := by decide +kernel
theorem dX8_spit_128 : decode cX8_spit 128 = .ok (.iastore, 1) := by decide +kernel
theorem dX8_spit_129 : decode cX8_spit 129 = .ok (.iinc 2 1, 3) := by decide +kernel
theorem dX8_spit_132 : decode cX8_spit 132 = .ok (.goto (-20), 3) := by decide +kernel
theorem dX8_spit_135 : decode cX8_spit 135 = .ok (.iconst 0, 1) := by decide +kernel
theorem dX8_spit_136 : decode cX8_spit 136 = .ok (.istore_n 2, 1) := by decide +kernel
theorem dX8_spit_137 : decode cX8_spit 137 = .ok (.iload_n 2, 1) := by decide +kernel
theorem dX8_spit_138 : decode cX8_spit 138 = .ok (.bipush 30, 2) := by decide +kernel
theorem dX8_spit_140 : decode cX8_spit 140 = .ok (.if_icmp .ge 34, 3) := by decide +kernel
theorem dX8_spit_143 : decode cX8_spit 143 = .ok (.aload_n 0, 1) := by decide +kernel
theorem dX8_spit_144 : decode cX8_spit 144 = .ok (.getfield 13, 3) := by decide +kernel
theorem dX8_spit_147 : decode cX8_spit 147 = .ok (.iload_n 2, 1) := by decide +kernel
theorem dX8_spit_148 : decode cX8_spit 148 = .ok (.aload_n 0, 1) := by decide +kernel
theorem dX8_spit_149 : decode cX8_spit 149 = .ok (.getfield 53, 3) := by decide +kernel
theorem dX8_spit_152 : decode cX8_spit 152 = .ok (.iload_n 2, 1) := by decide +kernel
theorem dX8_spit_153 : decode cX8_spit 153 = .ok (.iaload, 1) := by decide +kernel
theorem dX8_spit_154 : decode cX8_spit 154 = .ok (.ifCond .ge 7, 3) := by decide +kernel
theorem dX8_spit_157 : decode cX8_spit 157 = .ok (.iconst 0, 1) := by decide +kernel
theorem dX8_spit_158 : decode cX8_spit 158 = .ok (.goto 9, 3) := by decide +kernel
theorem dX8_spit_161 : decode cX8_spit 161 = .ok (.aload_n 0, 1) := by decide +kernel
theorem dX8_spit_162 : decode cX8_spit 162 = .ok (.getfield 53, 3) := by decide +kernel
theorem dX8_spit_165 : decode cX8_spit 165 = .ok (.iload_n 2, 1) := by decide +kernel
theorem dX8_spit_166 : decode cX8_spit 166 = .ok (.iaload, 1) := by decide +kernel
theorem dX8_spit_167 : decode cX8_spit 167 = .ok (.iastore, 1) := by decide +kernel
theorem dX8_spit_168 : decode cX8_spit 168 = .ok (.iinc 2 1, 3) := by decide +kernel
theorem dX8_spit_171 : decode cX8_spit 171 = .ok (.goto (-34), 3) := by decide +kernel
theorem dX8_spit_174 : decode cX8_spit 174 = .ok (.iconst 0, 1) := by decide +kernel
theorem dX8_spit_175 : decode cX8_spit 175 = .ok (.istore_n 2, 1) := by decide +kernel
theorem dX8_spit_176 : decode cX8_spit 176 = .ok (.iload_n 2, 1) := by decide +kernel
theorem dX8_spit_177 : decode cX8_spit 177 = .ok (.bipush 20, 2) := by decide +kernel
theorem dX8_spit_179 : decode cX8_spit 179 = .ok (.if_icmp .ge 33, 3) := by decide +kernel
theorem dX8_spit_182 : decode cX8_spit 182 = .ok (.aload_n 0, 1) := by decide +kernel
theorem dX8_spit_183 : decode cX8_spit 183 = .ok (.getfield 16, 3) := by decide +kernel
theorem dX8_spit_186 : decode cX8_spit 186 = .ok (.iload_n 2, 1) := by decide +kernel
theorem dX8_spit_187 : decode cX8_spit 187 = .ok (.aload_n 0, 1) := by decide +kernel
theorem dX8_spit_188 : decode cX8_spit 188 = .ok (.getfield 47, 3) := by decide +kernel
theorem dX8_spit_191 : decode cX8_spit 191 = .ok (.iload_n 2, 1) := by decide +kernel
theorem dX8_spit_192 : decode cX8_spit 192 = .ok (.iaload, 1) := by decide +kernel
theorem dX8_spit_193 : decode cX8_spit 193 = .ok (.iastore, 1) := by decide +kernel
theorem dX8_spit_194 : decode cX8_spit 194 = .ok (.aload_n 0, 1) := by decide +kernel
theorem dX8_spit_195 : decode cX8_spit 195 = .ok (.getfield 19, 3) := by decide +kernel
theorem dX8_spit_198 : decode cX8_spit 198 = .ok (.iload_n 2, 1) := by decide +kernel
theorem dX8_spit_199 : decode cX8_spit 199 = .ok (.aload_n 0, 1) := by decide +kernel
theorem dX8_spit_200 : decode cX8_spit 200 = .ok (.getfield 50, 3) := by decide +kernel
theorem dX8_spit_203 : decode cX8_spit 203 = .ok (.iload_n 2, 1) := by decide +kernel
theorem dX8_spit_204 : decode cX8_spit 204 = .ok (.iaload, 1) := by decide +kernel
theorem dX8_spit_205 : decode cX8_spit 205 = .ok (.iastore, 1) := by decide +kernel
theorem dX8_spit_206 : decode cX8_spit 206 = .ok (.iinc 2 1, 3) := by decide +kernel
theorem dX8_spit_209 : decode cX8_spit 209 = .ok (.goto (-33), 3) := by decide +kernel
theorem dX8_spit_212 : decode cX8_spit 212 = .ok (.aload_n 0, 1) := by decide +kernel
theorem dX8_spit_213 : decode cX8_spit 213 = .ok (.iconst 0, 1) := by decide +kernel
theorem dX8_spit_214 : decode cX8_spit 214 = .ok (.putfield 195, 3) := by decide +kernel
theorem dX8_spit_217 : decode cX8_spit 217 = .ok (.aload_n 0, 1) := by decide +kernel
theorem dX8_spit_218 : decode cX8_spit 218 = .ok (.getfield 93, 3) := by decide +kernel
theorem dX8_spit_221 : decode cX8_spit 221 = .ok (.iconst 0, 1) := by decide +kernel
theorem dX8_spit_222 : decode cX8_spit 222 = .ok (.iconst 0, 1) := by decide +kernel
theorem dX8_spit_223 : decode cX8_spit 223 = .ok (.bastore, 1) := by decide +kernel
theorem dX8_spit_224 : decode cX8_spit 224 = .ok (.aload_n 0, 1) := by decide +kernel
theorem dX8_spit_225 : decode cX8_spit 225 = .ok (.getfield 93, 3) := by decide +kernel
theorem dX8_spit_228 : decode cX8_spit 228 = .ok (.iconst 1, 1) := by decide +kernel
theorem dX8_spit_229 : decode cX8_spit 229 = .ok (.iconst 0, 1) := by decide +kernel
theorem dX8_spit_230 : decode cX8_spit 230 = .ok (.bastore, 1) := by decide +kernel
theorem dX8_spit_231 : decode cX8_spit 231 = .ok (.aload_n 0, 1) := by decide +kernel
theorem dX8_spit_232 : decode cX8_spit 232 = .ok (.invokevirtual 198, 3) := by decide +kernel
theorem dX8_spit_235 : decode cX8_spit 235 = .ok (.istore_n 2, 1) := by decide +kernel
theorem dX8_spit_236 : decode cX8_spit 236 = .ok (.aload_n 0, 1) := by decide +kernel
theorem dX8_spit_237 : decode cX8_spit 237 = .ok (.getfield 106, 3) := by decide +kernel
theorem dX8_spit_240 : decode cX8_spit 240 = .ok (.ireturn, 1) := by decide +kernel
theorem dX8_fault_0 : decode cX8_fault 0 = .ok (.aload_n 0, 1) := by decide +kernel
theorem dX8_fault_1 : decode cX8_fault 1 = .ok (.getfield 40, 3) := by decide +kernel
theorem dX8_fault_4 : decode cX8_fault 4 = .ok (.ireturn, 1) := by decide +kernel
theorem dX8_countOf_0 : decode cX8_countOf 0 = .ok (.iconst 0, 1) := by decide +kernel
theorem dX8_countOf_1 : decode cX8_countOf 1 = .ok (.istore_n 2, 1) := by decide +kernel
theorem dX8_countOf_2 : decode cX8_countOf 2 = .ok (.iconst 0, 1) := by decide +kernel
theorem dX8_countOf_3 : decode cX8_countOf 3 = .ok (.istore_n 3, 1) := by decide +kernel
theorem dX8_countOf_4 : decode cX8_countOf 4 = .ok (.iload_n 3, 1) := by decide +kernel
theorem dX8_countOf_5 : decode cX8_countOf 5 = .ok (.aload_n 0, 1) := by decide +kernel
theorem dX8_countOf_6 : decode cX8_countOf 6 = .ok (.getfield 106, 3) := by decide +kernel
theorem dX8_countOf_9 : decode cX8_countOf 9 = .ok (.if_icmp .ge 27, 3) := by decide +kernel
theorem dX8_countOf_12 : decode cX8_countOf 12 = .ok (.iload_n 2, 1) := by decide +kernel
theorem dX8_countOf_13 : decode cX8_countOf 13 = .ok (.aload_n 0, 1) := by decide +kernel
theorem dX8_countOf_14 : decode cX8_countOf 14 = .ok (.getfield 25, 3) := by decide +kernel
theorem dX8_countOf_17 : decode cX8_countOf 17 = .ok (.iload_n 3, 1) := by decide +kernel
theorem dX8_countOf_18 : decode cX8_countOf 18 = .ok (.iaload, 1) := by decide +kernel
theorem dX8_countOf_19 : decode cX8_countOf 19 = .ok (.iload_n 1, 1) := by decide +kernel
theorem dX8_countOf_20 : decode cX8_countOf 20 = .ok (.if_icmp .ne 7, 3) := by decide +kernel
theorem dX8_countOf_23 : decode cX8_countOf 23 = .ok (.iconst 1, 1) := by decide +kernel
theorem dX8_countOf_24 : decode cX8_countOf 24 = .ok (.goto 4, 3) := by decide +kernel
theorem dX8_countOf_27 : decode cX8_countOf 27 = .ok (.iconst 0, 1) := by decide +kernel
theorem dX8_countOf_28 : decode cX8_countOf 28 = .ok (.iadd, 1) := by decide +kernel
theorem dX8_countOf_29 : decode cX8_countOf 29 = .ok (.istore_n 2, 1) := by decide +kernel
theorem dX8_countOf_30 : decode cX8_countOf 30 = .ok (.iinc 3 1, 3) := by decide +kernel
theorem dX8_countOf_33 : decode cX8_countOf 33 = .ok (.goto (-29), 3) := by decide +kernel
theorem dX8_countOf_36 : decode cX8_countOf 36 = .ok (.iload_n 2, 1) := by decide +kernel
theorem dX8_countOf_37 : decode cX8_countOf 37 = .ok (.ireturn, 1) := by decide +kernel
theorem dX8_sortsOf_0 : decode cX8_sortsOf 0 = .ok (.iconst 0, 1) := by decide +kernel
theorem dX8_sortsOf_1 : decode cX8_sortsOf 1 = .ok (.istore_n 2, 1) := by decide +kernel
theorem dX8_sortsOf_2 : decode cX8_sortsOf 2 = .ok (.iconst 0, 1) := by decide +kernel
theorem dX8_sortsOf_3 : decode cX8_sortsOf 3 = .ok (.istore_n 3, 1) := by decide +kernel
theorem dX8_sortsOf_4 : decode cX8_sortsOf 4 = .ok (.iload_n 3, 1) := by decide +kernel
theorem dX8_sortsOf_5 : decode cX8_sortsOf 5 = .ok (.aload_n 0, 1) := by decide +kernel
theorem dX8_sortsOf_6 : decode cX8_sortsOf 6 = .ok (.getfield 106, 3) := by decide +kernel
theorem dX8_sortsOf_9 : decode cX8_sortsOf 9 = .ok (.if_icmp .ge 34, 3) := by decide +kernel
theorem dX8_sortsOf_12 : decode cX8_sortsOf 12 = .ok (.iload_n 2, 1) := by decide +kernel
theorem dX8_sortsOf_13 : decode cX8_sortsOf 13 = .ok (.aload_n 0, 1) := by decide +kernel
theorem dX8_sortsOf_14 : decode cX8_sortsOf 14 = .ok (.getfield 25, 3) := by decide +kernel
theorem dX8_sortsOf_17 : decode cX8_sortsOf 17 = .ok (.iload_n 3, 1) := by decide +kernel
theorem dX8_sortsOf_18 : decode cX8_sortsOf 18 = .ok (.iaload, 1) := by decide +kernel
theorem dX8_sortsOf_19 : decode cX8_sortsOf 19 = .ok (.iload_n 1, 1) := by decide +kernel
theorem dX8_sortsOf_20 : decode cX8_sortsOf 20 = .ok (.if_icmp .ne 14, 3) := by decide +kernel
theorem dX8_sortsOf_23 : decode cX8_sortsOf 23 = .ok (.iconst 1, 1) := by decide +kernel
theorem dX8_sortsOf_24 : decode cX8_sortsOf 24 = .ok (.aload_n 0, 1) := by decide +kernel
theorem dX8_sortsOf_25 : decode cX8_sortsOf 25 = .ok (.getfield 22, 3) := by decide +kernel
theorem dX8_sortsOf_28 : decode cX8_sortsOf 28 = .ok (.iload_n 3, 1) := by decide +kernel
theorem dX8_sortsOf_29 : decode cX8_sortsOf 29 = .ok (.iaload, 1) := by decide +kernel
theorem dX8_sortsOf_30 : decode cX8_sortsOf 30 = .ok (.ishl, 1) := by decide +kernel
theorem dX8_sortsOf_31 : decode cX8_sortsOf 31 = .ok (.goto 4, 3) := by decide +kernel
theorem dX8_sortsOf_34 : decode cX8_sortsOf 34 = .ok (.iconst 0, 1) := by decide +kernel
theorem dX8_sortsOf_35 : decode cX8_sortsOf 35 = .ok (.ior, 1) := by decide +kernel
theorem dX8_sortsOf_36 : decode cX8_sortsOf 36 = .ok (.istore_n 2, 1) := by decide +kernel
theorem dX8_sortsOf_37 : decode cX8_sortsOf 37 = .ok (.iinc 3 1, 3) := by decide +kernel
theorem dX8_sortsOf_40 : decode cX8_sortsOf 40 = .ok (.goto (-36), 3) := by decide +kernel
theorem dX8_sortsOf_43 : decode cX8_sortsOf 43 = .ok (.iload_n 2, 1) := by decide +kernel
theorem dX8_sortsOf_44 : decode cX8_sortsOf 44 = .ok (.ireturn, 1) := by decide +kernel
theorem dX8_worthOf_0 : decode cX8_worthOf 0 = .ok (.iconst 0, 1) := by decide +kernel
theorem dX8_worthOf_1 : decode cX8_worthOf 1 = .ok (.istore_n 3, 1) := by decide +kernel
theorem dX8_worthOf_2 : decode cX8_worthOf 2 = .ok (.iconst 0, 1) := by decide +kernel
theorem dX8_worthOf_3 : decode cX8_worthOf 3 = .ok (.istore 4, 2) := by decide +kernel
theorem dX8_worthOf_5 : decode cX8_worthOf 5 = .ok (.iload 4, 2) := by decide +kernel
theorem dX8_worthOf_7 : decode cX8_worthOf 7 = .ok (.aload_n 0, 1) := by decide +kernel
theorem dX8_worthOf_8 : decode cX8_worthOf 8 = .ok (.getfield 96, 3) := by decide +kernel
theorem dX8_worthOf_11 : decode cX8_worthOf 11 = .ok (.if_icmp .ge 37, 3) := by decide +kernel
theorem dX8_worthOf_14 : decode cX8_worthOf 14 = .ok (.iload_n 3, 1) := by decide +kernel
theorem dX8_worthOf_15 : decode cX8_worthOf 15 = .ok (.iload_n 2, 1) := by decide +kernel
theorem dX8_worthOf_16 : decode cX8_worthOf 16 = .ok (.iload 4, 2) := by decide +kernel
theorem dX8_worthOf_18 : decode cX8_worthOf 18 = .ok (.invokestatic 201, 3) := by decide +kernel
theorem dX8_worthOf_21 : decode cX8_worthOf 21 = .ok (.ifCond .eq 18, 3) := by decide +kernel
theorem dX8_worthOf_24 : decode cX8_worthOf 24 = .ok (.aload_n 0, 1) := by decide +kernel
theorem dX8_worthOf_25 : decode cX8_worthOf 25 = .ok (.getfield 13, 3) := by decide +kernel
theorem dX8_worthOf_28 : decode cX8_worthOf 28 = .ok (.bipush 6, 2) := by decide +kernel
theorem dX8_worthOf_30 : decode cX8_worthOf 30 = .ok (.iload_n 1, 1) := by decide +kernel
theorem dX8_worthOf_31 : decode cX8_worthOf 31 = .ok (.imul, 1) := by decide +kernel
theorem dX8_worthOf_32 : decode cX8_worthOf 32 = .ok (.iload 4, 2) := by decide +kernel
theorem dX8_worthOf_34 : decode cX8_worthOf 34 = .ok (.iadd, 1) := by decide +kernel
theorem dX8_worthOf_35 : decode cX8_worthOf 35 = .ok (.iaload, 1) := by decide +kernel
theorem dX8_worthOf_36 : decode cX8_worthOf 36 = .ok (.goto 4, 3) := by decide +kernel
theorem dX8_worthOf_39 : decode cX8_worthOf 39 = .ok (.iconst 0, 1) := by decide +kernel
theorem dX8_worthOf_40 : decode cX8_worthOf 40 = .ok (.iadd, 1) := by decide +kernel
theorem dX8_worthOf_41 : decode cX8_worthOf 41 = .ok (.istore_n 3, 1) := by decide +kernel
theorem dX8_worthOf_42 : decode cX8_worthOf 42 = .ok (.iinc 4 1, 3) := by decide +kernel
theorem dX8_worthOf_45 : decode cX8_worthOf 45 = .ok (.goto (-40), 3) := by decide +kernel
theorem dX8_worthOf_48 : decode cX8_worthOf 48 = .ok (.iload_n 3, 1) := by decide +kernel
theorem dX8_worthOf_49 : decode cX8_worthOf 49 = .ok (.ireturn, 1) := by decide +kernel
theorem dX8_wealthOf_0 : decode cX8_wealthOf 0 = .ok (.aload_n 0, 1) := by decide +kernel
theorem dX8_wealthOf_1 : decode cX8_wealthOf 1 = .ok (.iload_n 1, 1) := by decide +kernel
theorem dX8_wealthOf_2 : decode cX8_wealthOf 2 = .ok (.aload_n 0, 1) := by decide +kernel
theorem dX8_wealthOf_3 : decode cX8_wealthOf 3 = .ok (.iload_n 1, 1) := by decide +kernel
theorem dX8_wealthOf_4 : decode cX8_wealthOf 4 = .ok (.invokevirtual 205, 3) := by decide +kernel
theorem dX8_wealthOf_7 : decode cX8_wealthOf 7 = .ok (.invokevirtual 209, 3) := by decide +kernel
theorem dX8_wealthOf_10 : decode cX8_wealthOf 10 = .ok (.ireturn, 1) := by decide +kernel
theorem dX8_inYard_0 : decode cX8_inYard 0 = .ok (.iconst 0, 1) := by decide +kernel
theorem dX8_inYard_1 : decode cX8_inYard 1 = .ok (.istore_n 2, 1) := by decide +kernel
theorem dX8_inYard_2 : decode cX8_inYard 2 = .ok (.iconst 0, 1) := by decide +kernel
theorem dX8_inYard_3 : decode cX8_inYard 3 = .ok (.istore_n 3, 1) := by decide +kernel
theorem dX8_inYard_4 : decode cX8_inYard 4 = .ok (.iload_n 3, 1) := by decide +kernel
theorem dX8_inYard_5 : decode cX8_inYard 5 = .ok (.aload_n 0, 1) := by decide +kernel
theorem dX8_inYard_6 : decode cX8_inYard 6 = .ok (.getfield 106, 3) := by decide +kernel
theorem dX8_inYard_9 : decode cX8_inYard 9 = .ok (.if_icmp .ge 36, 3) := by decide +kernel
theorem dX8_inYard_12 : decode cX8_inYard 12 = .ok (.iload_n 2, 1) := by decide +kernel
theorem dX8_inYard_13 : decode cX8_inYard 13 = .ok (.aload_n 0, 1) := by decide +kernel
theorem dX8_inYard_14 : decode cX8_inYard 14 = .ok (.getfield 25, 3) := by decide +kernel
theorem dX8_inYard_17 : decode cX8_inYard 17 = .ok (.iload_n 3, 1) := by decide +kernel
theorem dX8_inYard_18 : decode cX8_inYard 18 = .ok (.iaload, 1) := by decide +kernel
theorem dX8_inYard_19 : decode cX8_inYard 19 = .ok (.ifCond .ge 17, 3) := by decide +kernel
theorem dX8_inYard_22 : decode cX8_inYard 22 = .ok (.aload_n 0, 1) := by decide +kernel
theorem dX8_inYard_23 : decode cX8_inYard 23 = .ok (.getfield 28, 3) := by decide +kernel
theorem dX8_inYard_26 : decode cX8_inYard 26 = .ok (.iload_n 3, 1) := by decide +kernel
theorem dX8_inYard_27 : decode cX8_inYard 27 = .ok (.iaload, 1) := by decide +kernel
theorem dX8_inYard_28 : decode cX8_inYard 28 = .ok (.iload_n 1, 1) := by decide +kernel
theorem dX8_inYard_29 : decode cX8_inYard 29 = .ok (.if_icmp .ne 7, 3) := by decide +kernel
theorem dX8_inYard_32 : decode cX8_inYard 32 = .ok (.iconst 1, 1) := by decide +kernel
theorem dX8_inYard_33 : decode cX8_inYard 33 = .ok (.goto 4, 3) := by decide +kernel
theorem dX8_inYard_36 : decode cX8_inYard 36 = .ok (.iconst 0, 1) := by decide +kernel
theorem dX8_inYard_37 : decode cX8_inYard 37 = .ok (.iadd, 1) := by decide +kernel
theorem dX8_inYard_38 : decode cX8_inYard 38 = .ok (.istore_n 2, 1) := by decide +kernel
theorem dX8_inYard_39 : decode cX8_inYard 39 = .ok (.iinc 3 1, 3) := by decide +kernel
theorem dX8_inYard_42 : decode cX8_inYard 42 = .ok (.goto (-38), 3) := by decide +kernel
theorem dX8_inYard_45 : decode cX8_inYard 45 = .ok (.iload_n 2, 1) := by decide +kernel
theorem dX8_inYard_46 : decode cX8_inYard 46 = .ok (.ireturn, 1) := by decide +kernel
theorem dX8_poor_0 : decode cX8_poor 0 = .ok (.iconst 0, 1) := by decide +kernel
theorem dX8_poor_1 : decode cX8_poor 1 = .ok (.istore_n 1, 1) := by decide +kernel
theorem dX8_poor_2 : decode cX8_poor 2 = .ok (.iconst 0, 1) := by decide +kernel
theorem dX8_poor_3 : decode cX8_poor 3 = .ok (.istore_n 2, 1) := by decide +kernel
theorem dX8_poor_4 : decode cX8_poor 4 = .ok (.iload_n 2, 1) := by decide +kernel
theorem dX8_poor_5 : decode cX8_poor 5 = .ok (.aload_n 0, 1) := by decide +kernel
theorem dX8_poor_6 : decode cX8_poor 6 = .ok (.getfield 99, 3) := by decide +kernel
theorem dX8_poor_9 : decode cX8_poor 9 = .ok (.if_icmp .ge 27, 3) := by decide +kernel
theorem dX8_poor_12 : decode cX8_poor 12 = .ok (.iload_n 1, 1) := by decide +kernel
theorem dX8_poor_13 : decode cX8_poor 13 = .ok (.aload_n 0, 1) := by decide +kernel
theorem dX8_poor_14 : decode cX8_poor 14 = .ok (.iload_n 2, 1) := by decide +kernel
theorem dX8_poor_15 : decode cX8_poor 15 = .ok (.invokevirtual 212, 3) := by decide +kernel
theorem dX8_poor_18 : decode cX8_poor 18 = .ok (.ifCond .ne 9, 3) := by decide +kernel
theorem dX8_poor_21 : decode cX8_poor 21 = .ok (.iconst 1, 1) := by decide +kernel
theorem dX8_poor_22 : decode cX8_poor 22 = .ok (.iload_n 2, 1) := by decide +kernel
theorem dX8_poor_23 : decode cX8_poor 23 = .ok (.ishl, 1) := by decide +kernel
theorem dX8_poor_24 : decode cX8_poor 24 = .ok (.goto 4, 3) := by decide +kernel
theorem dX8_poor_27 : decode cX8_poor 27 = .ok (.iconst 0, 1) := by decide +kernel
theorem dX8_poor_28 : decode cX8_poor 28 = .ok (.ior, 1) := by decide +kernel
theorem dX8_poor_29 : decode cX8_poor 29 = .ok (.istore_n 1, 1) := by decide +kernel
theorem dX8_poor_30 : decode cX8_poor 30 = .ok (.iinc 2 1, 3) := by decide +kernel
theorem dX8_poor_33 : decode cX8_poor 33 = .ok (.goto (-29), 3) := by decide +kernel
theorem dX8_poor_36 : decode cX8_poor 36 = .ok (.iload_n 1, 1) := by decide +kernel
theorem dX8_poor_37 : decode cX8_poor 37 = .ok (.ireturn, 1) := by decide +kernel
theorem dX8_told_0 : decode cX8_told 0 = .ok (.iload_n 1, 1) := by decide +kernel
theorem dX8_told_1 : decode cX8_told 1 = .ok (.tableswitch 88 0 7 #[47, 52, 57, 62, 67, 72, 77, 82], 47) := by decide +kernel
theorem dX8_told_48 : decode cX8_told 48 = .ok (.aload_n 0, 1) := by decide +kernel
theorem dX8_told_49 : decode cX8_told 49 = .ok (.getfield 96, 3) := by decide +kernel
theorem dX8_told_52 : decode cX8_told 52 = .ok (.ireturn, 1) := by decide +kernel
theorem dX8_told_53 : decode cX8_told 53 = .ok (.aload_n 0, 1) := by decide +kernel
theorem dX8_told_54 : decode cX8_told 54 = .ok (.getfield 99, 3) := by decide +kernel
theorem dX8_told_57 : decode cX8_told 57 = .ok (.ireturn, 1) := by decide +kernel
theorem dX8_told_58 : decode cX8_told 58 = .ok (.aload_n 0, 1) := by decide +kernel
theorem dX8_told_59 : decode cX8_told 59 = .ok (.getfield 106, 3) := by decide +kernel
theorem dX8_told_62 : decode cX8_told 62 = .ok (.ireturn, 1) := by decide +kernel
theorem dX8_told_63 : decode cX8_told 63 = .ok (.aload_n 0, 1) := by decide +kernel
theorem dX8_told_64 : decode cX8_told 64 = .ok (.getfield 118, 3) := by decide +kernel
theorem dX8_told_67 : decode cX8_told 67 = .ok (.ireturn, 1) := by decide +kernel
theorem dX8_told_68 : decode cX8_told 68 = .ok (.aload_n 0, 1) := by decide +kernel
theorem dX8_told_69 : decode cX8_told 69 = .ok (.getfield 109, 3) := by decide +kernel
theorem dX8_told_72 : decode cX8_told 72 = .ok (.ireturn, 1) := by decide +kernel
theorem dX8_told_73 : decode cX8_told 73 = .ok (.aload_n 0, 1) := by decide +kernel
theorem dX8_told_74 : decode cX8_told 74 = .ok (.getfield 195, 3) := by decide +kernel
theorem dX8_told_77 : decode cX8_told 77 = .ok (.ireturn, 1) := by decide +kernel
theorem dX8_told_78 : decode cX8_told 78 = .ok (.aload_n 0, 1) := by decide +kernel
theorem dX8_told_79 : decode cX8_told 79 = .ok (.invokevirtual 215, 3) := by decide +kernel
theorem dX8_told_82 : decode cX8_told 82 = .ok (.ireturn, 1) := by decide +kernel
theorem dX8_told_83 : decode cX8_told 83 = .ok (.aload_n 0, 1) := by decide +kernel
theorem dX8_told_84 : decode cX8_told 84 = .ok (.iconst (-1), 1) := by decide +kernel
theorem dX8_told_85 : decode cX8_told 85 = .ok (.invokevirtual 212, 3) := by decide +kernel
theorem dX8_told_88 : decode cX8_told 88 = .ok (.ireturn, 1) := by decide +kernel
theorem dX8_told_89 : decode cX8_told 89 = .ok (.ldc 117, 2) := by decide +kernel
theorem dX8_told_91 : decode cX8_told 91 = .ok (.ireturn, 1) := by decide +kernel
theorem dX8_house_0 : decode cX8_house 0 = .ok (.aload_n 0, 1) := by decide +kernel
theorem dX8_house_1 : decode cX8_house 1 = .ok (.iload_n 1, 1) := by decide +kernel
theorem dX8_house_2 : decode cX8_house 2 = .ok (.invokevirtual 218, 3) := by decide +kernel
theorem dX8_house_5 : decode cX8_house 5 = .ok (.ifCond .ne 6, 3) := by decide +kernel
theorem dX8_house_8 : decode cX8_house 8 = .ok (.ldc 222, 2) := by decide +kernel
theorem dX8_house_10 : decode cX8_house 10 = .ok (.ireturn, 1) := by decide +kernel
theorem dX8_house_11 : decode cX8_house 11 = .ok (.iload_n 2, 1) := by decide +kernel
theorem dX8_house_12 : decode cX8_house 12 = .ok (.tableswitch 67 0 4 #[36, 43, 49, 55, 61], 36) := by decide +kernel
theorem dX8_house_48 : decode cX8_house 48 = .ok (.aload_n 0, 1) := by decide +kernel
theorem dX8_house_49 : decode cX8_house 49 = .ok (.getfield 7, 3) := by decide +kernel
theorem dX8_house_52 : decode cX8_house 52 = .ok (.iload_n 1, 1) := by decide +kernel
theorem dX8_house_53 : decode cX8_house 53 = .ok (.iaload, 1) := by decide +kernel
theorem dX8_house_54 : decode cX8_house 54 = .ok (.ireturn, 1) := by decide +kernel
theorem dX8_house_55 : decode cX8_house 55 = .ok (.aload_n 0, 1) := by decide +kernel
theorem dX8_house_56 : decode cX8_house 56 = .ok (.iload_n 1, 1) := by decide +kernel
theorem dX8_house_57 : decode cX8_house 57 = .ok (.invokevirtual 212, 3) := by decide +kernel
theorem dX8_house_60 : decode cX8_house 60 = .ok (.ireturn, 1) := by decide +kernel
theorem dX8_house_61 : decode cX8_house 61 = .ok (.aload_n 0, 1) := by decide +kernel
theorem dX8_house_62 : decode cX8_house 62 = .ok (.iload_n 1, 1) := by decide +kernel
theorem dX8_house_63 : decode cX8_house 63 = .ok (.invokevirtual 223, 3) := by decide +kernel
theorem dX8_house_66 : decode cX8_house 66 = .ok (.ireturn, 1) := by decide +kernel
theorem dX8_house_67 : decode cX8_house 67 = .ok (.aload_n 0, 1) := by decide +kernel
theorem dX8_house_68 : decode cX8_house 68 = .ok (.iload_n 1, 1) := by decide +kernel
theorem dX8_house_69 : decode cX8_house 69 = .ok (.invokevirtual 205, 3) := by decide +kernel
theorem dX8_house_72 : decode cX8_house 72 = .ok (.ireturn, 1) := by decide +kernel
theorem dX8_house_73 : decode cX8_house 73 = .ok (.aload_n 0, 1) := by decide +kernel
theorem dX8_house_74 : decode cX8_house 74 = .ok (.iload_n 1, 1) := by decide +kernel
theorem dX8_house_75 : decode cX8_house 75 = .ok (.invokevirtual 226, 3) := by decide +kernel
theorem dX8_house_78 : decode cX8_house 78 = .ok (.ireturn, 1) := by decide +kernel
theorem dX8_house_79 : decode cX8_house 79 = .ok (.ldc 117, 2) := by decide +kernel
theorem dX8_house_81 : decode cX8_house 81 = .ok (.ireturn, 1) := by decide +kernel
theorem dX8_worth_0 : decode cX8_worth 0 = .ok (.aload_n 0, 1) := by decide +kernel
theorem dX8_worth_1 : decode cX8_worth 1 = .ok (.iload_n 1, 1) := by decide +kernel
theorem dX8_worth_2 : decode cX8_worth 2 = .ok (.invokevirtual 218, 3) := by decide +kernel
theorem dX8_worth_5 : decode cX8_worth 5 = .ok (.ifCond .eq 25, 3) := by decide +kernel
theorem dX8_worth_8 : decode cX8_worth 8 = .ok (.aload_n 0, 1) := by decide +kernel
theorem dX8_worth_9 : decode cX8_worth 9 = .ok (.iload_n 2, 1) := by decide +kernel
theorem dX8_worth_10 : decode cX8_worth 10 = .ok (.invokevirtual 229, 3) := by decide +kernel
theorem dX8_worth_13 : decode cX8_worth 13 = .ok (.ifCond .eq 17, 3) := by decide +kernel
theorem dX8_worth_16 : decode cX8_worth 16 = .ok (.aload_n 0, 1) := by decide +kernel
theorem dX8_worth_17 : decode cX8_worth 17 = .ok (.getfield 13, 3) := by decide +kernel
theorem dX8_worth_20 : decode cX8_worth 20 = .ok (.bipush 6, 2) := by decide +kernel
theorem dX8_worth_22 : decode cX8_worth 22 = .ok (.iload_n 1, 1) := by decide +kernel
theorem dX8_worth_23 : decode cX8_worth 23 = .ok (.imul, 1) := by decide +kernel
theorem dX8_worth_24 : decode cX8_worth 24 = .ok (.iload_n 2, 1) := by decide +kernel
theorem dX8_worth_25 : decode cX8_worth 25 = .ok (.iadd, 1) := by decide +kernel
theorem dX8_worth_26 : decode cX8_worth 26 = .ok (.iaload, 1) := by decide +kernel
theorem dX8_worth_27 : decode cX8_worth 27 = .ok (.goto 5, 3) := by decide +kernel
theorem dX8_worth_30 : decode cX8_worth 30 = .ok (.ldc 222, 2) := by decide +kernel
theorem dX8_worth_32 : decode cX8_worth 32 = .ok (.ireturn, 1) := by decide +kernel
theorem dX8_part_0 : decode cX8_part 0 = .ok (.aload_n 0, 1) := by decide +kernel
theorem dX8_part_1 : decode cX8_part 1 = .ok (.iload_n 1, 1) := by decide +kernel
theorem dX8_part_2 : decode cX8_part 2 = .ok (.invokevirtual 232, 3) := by decide +kernel
theorem dX8_part_5 : decode cX8_part 5 = .ok (.ifCond .ne 6, 3) := by decide +kernel
theorem dX8_part_8 : decode cX8_part 8 = .ok (.ldc 222, 2) := by decide +kernel
theorem dX8_part_10 : decode cX8_part 10 = .ok (.ireturn, 1) := by decide +kernel
theorem dX8_part_11 : decode cX8_part 11 = .ok (.iload_n 2, 1) := by decide +kernel
theorem dX8_part_12 : decode cX8_part 12 = .ok (.ifCond .ne 12, 3) := by decide +kernel
theorem dX8_part_15 : decode cX8_part 15 = .ok (.aload_n 0, 1) := by decide +kernel
theorem dX8_part_16 : decode cX8_part 16 = .ok (.getfield 22, 3) := by decide +kernel
theorem dX8_part_19 : decode cX8_part 19 = .ok (.iload_n 1, 1) := by decide +kernel
theorem dX8_part_20 : decode cX8_part 20 = .ok (.iaload, 1) := by decide +kernel
theorem dX8_part_21 : decode cX8_part 21 = .ok (.goto 60, 3) := by decide +kernel
theorem dX8_part_24 : decode cX8_part 24 = .ok (.iload_n 2, 1) := by decide +kernel
theorem dX8_part_25 : decode cX8_part 25 = .ok (.iconst 1, 1) := by decide +kernel
theorem dX8_part_26 : decode cX8_part 26 = .ok (.if_icmp .ne 12, 3) := by decide +kernel
theorem dX8_part_29 : decode cX8_part 29 = .ok (.aload_n 0, 1) := by decide +kernel
theorem dX8_part_30 : decode cX8_part 30 = .ok (.getfield 25, 3) := by decide +kernel
theorem dX8_part_33 : decode cX8_part 33 = .ok (.iload_n 1, 1) := by decide +kernel
theorem dX8_part_34 : decode cX8_part 34 = .ok (.iaload, 1) := by decide +kernel
theorem dX8_part_35 : decode cX8_part 35 = .ok (.goto 46, 3) := by decide +kernel
theorem dX8_part_38 : decode cX8_part 38 = .ok (.iload_n 2, 1) := by decide +kernel
theorem dX8_part_39 : decode cX8_part 39 = .ok (.iconst 2, 1) := by decide +kernel
theorem dX8_part_40 : decode cX8_part 40 = .ok (.if_icmp .ne 25, 3) := by decide +kernel
theorem dX8_part_43 : decode cX8_part 43 = .ok (.aload_n 0, 1) := by decide +kernel
theorem dX8_part_44 : decode cX8_part 44 = .ok (.getfield 25, 3) := by decide +kernel
theorem dX8_part_47 : decode cX8_part 47 = .ok (.iload_n 1, 1) := by decide +kernel
theorem dX8_part_48 : decode cX8_part 48 = .ok (.iaload, 1) := by decide +kernel
theorem dX8_part_49 : decode cX8_part 49 = .ok (.ifCond .ge 12, 3) := by decide +kernel
theorem dX8_part_52 : decode cX8_part 52 = .ok (.aload_n 0, 1) := by decide +kernel
theorem dX8_part_53 : decode cX8_part 53 = .ok (.getfield 28, 3) := by decide +kernel
theorem dX8_part_56 : decode cX8_part 56 = .ok (.iload_n 1, 1) := by decide +kernel
theorem dX8_part_57 : decode cX8_part 57 = .ok (.iaload, 1) := by decide +kernel
theorem dX8_part_58 : decode cX8_part 58 = .ok (.goto 23, 3) := by decide +kernel
theorem dX8_part_61 : decode cX8_part 61 = .ok (.iconst (-1), 1) := by decide +kernel
theorem dX8_part_62 : decode cX8_part 62 = .ok (.goto 19, 3) := by decide +kernel
theorem dX8_part_65 : decode cX8_part 65 = .ok (.iload_n 2, 1) := by decide +kernel
theorem dX8_part_66 : decode cX8_part 66 = .ok (.iconst 3, 1) := by decide +kernel
theorem dX8_part_67 : decode cX8_part 67 = .ok (.if_icmp .ne 12, 3) := by decide +kernel
theorem dX8_part_70 : decode cX8_part 70 = .ok (.aload_n 0, 1) := by decide +kernel
theorem dX8_part_71 : decode cX8_part 71 = .ok (.getfield 31, 3) := by decide +kernel
theorem dX8_part_74 : decode cX8_part 74 = .ok (.iload_n 1, 1) := by decide +kernel
theorem dX8_part_75 : decode cX8_part 75 = .ok (.iaload, 1) := by decide +kernel
theorem dX8_part_76 : decode cX8_part 76 = .ok (.goto 5, 3) := by decide +kernel
theorem dX8_part_79 : decode cX8_part 79 = .ok (.ldc 117, 2) := by decide +kernel
theorem dX8_part_81 : decode cX8_part 81 = .ok (.ireturn, 1) := by decide +kernel
theorem dX8_hand_0 : decode cX8_hand 0 = .ok (.aload_n 0, 1) := by decide +kernel
theorem dX8_hand_1 : decode cX8_hand 1 = .ok (.iload_n 1, 1) := by decide +kernel
theorem dX8_hand_2 : decode cX8_hand 2 = .ok (.invokevirtual 232, 3) := by decide +kernel
theorem dX8_hand_5 : decode cX8_hand 5 = .ok (.ifCond .ne 6, 3) := by decide +kernel
theorem dX8_hand_8 : decode cX8_hand 8 = .ok (.ldc 222, 2) := by decide +kernel
theorem dX8_hand_10 : decode cX8_hand 10 = .ok (.ireturn, 1) := by decide +kernel
theorem dX8_hand_11 : decode cX8_hand 11 = .ok (.iload_n 2, 1) := by decide +kernel
theorem dX8_hand_12 : decode cX8_hand 12 = .ok (.i2l, 1) := by decide +kernel
theorem dX8_hand_13 : decode cX8_hand 13 = .ok (.lconst 0, 1) := by decide +kernel
theorem dX8_hand_14 : decode cX8_hand 14 = .ok (.aload_n 0, 1) := by decide +kernel
theorem dX8_hand_15 : decode cX8_hand 15 = .ok (.getfield 31, 3) := by decide +kernel
theorem dX8_hand_18 : decode cX8_hand 18 = .ok (.iload_n 1, 1) := by decide +kernel
theorem dX8_hand_19 : decode cX8_hand 19 = .ok (.iaload, 1) := by decide +kernel
theorem dX8_hand_20 : decode cX8_hand 20 = .ok (.iconst 1, 1) := by decide +kernel
theorem dX8_hand_21 : decode cX8_hand 21 = .ok (.isub, 1) := by decide +kernel
theorem dX8_hand_22 : decode cX8_hand 22 = .ok (.i2l, 1) := by decide +kernel
theorem dX8_hand_23 : decode cX8_hand 23 = .ok (.invokestatic 102, 3) := by decide +kernel
theorem dX8_hand_26 : decode cX8_hand 26 = .ok (.ifCond .eq 17, 3) := by decide +kernel
theorem dX8_hand_29 : decode cX8_hand 29 = .ok (.aload_n 0, 1) := by decide +kernel
theorem dX8_hand_30 : decode cX8_hand 30 = .ok (.getfield 34, 3) := by decide +kernel
theorem dX8_hand_33 : decode cX8_hand 33 = .ok (.bipush 20, 2) := by decide +kernel
theorem dX8_hand_35 : decode cX8_hand 35 = .ok (.iload_n 1, 1) := by decide +kernel
theorem dX8_hand_36 : decode cX8_hand 36 = .ok (.imul, 1) := by decide +kernel
theorem dX8_hand_37 : decode cX8_hand 37 = .ok (.iload_n 2, 1) := by decide +kernel
theorem dX8_hand_38 : decode cX8_hand 38 = .ok (.iadd, 1) := by decide +kernel
theorem dX8_hand_39 : decode cX8_hand 39 = .ok (.iaload, 1) := by decide +kernel
theorem dX8_hand_40 : decode cX8_hand 40 = .ok (.goto 4, 3) := by decide +kernel
theorem dX8_hand_43 : decode cX8_hand 43 = .ok (.iconst (-1), 1) := by decide +kernel
theorem dX8_hand_44 : decode cX8_hand 44 = .ok (.ireturn, 1) := by decide +kernel
theorem dX8_tossNow_0 : decode cX8_tossNow 0 = .ok (.aload_n 0, 1) := by decide +kernel
theorem dX8_tossNow_1 : decode cX8_tossNow 1 = .ok (.getfield 25, 3) := by decide +kernel
theorem dX8_tossNow_4 : decode cX8_tossNow 4 = .ok (.iload_n 2, 1) := by decide +kernel
theorem dX8_tossNow_5 : decode cX8_tossNow 5 = .ok (.iconst (-1), 1) := by decide +kernel
theorem dX8_tossNow_6 : decode cX8_tossNow 6 = .ok (.iastore, 1) := by decide +kernel
theorem dX8_tossNow_7 : decode cX8_tossNow 7 = .ok (.aload_n 0, 1) := by decide +kernel
theorem dX8_tossNow_8 : decode cX8_tossNow 8 = .ok (.getfield 28, 3) := by decide +kernel
theorem dX8_tossNow_11 : decode cX8_tossNow 11 = .ok (.iload_n 2, 1) := by decide +kernel
theorem dX8_tossNow_12 : decode cX8_tossNow 12 = .ok (.iload_n 1, 1) := by decide +kernel
theorem dX8_tossNow_13 : decode cX8_tossNow 13 = .ok (.iastore, 1) := by decide +kernel
theorem dX8_tossNow_14 : decode cX8_tossNow 14 = .ok (.return_, 1) := by decide +kernel
theorem dX8_takeNow_0 : decode cX8_takeNow 0 = .ok (.aload_n 0, 1) := by decide +kernel
theorem dX8_takeNow_1 : decode cX8_takeNow 1 = .ok (.getfield 25, 3) := by decide +kernel
theorem dX8_takeNow_4 : decode cX8_takeNow 4 = .ok (.iload_n 2, 1) := by decide +kernel
theorem dX8_takeNow_5 : decode cX8_takeNow 5 = .ok (.iload_n 1, 1) := by decide +kernel
theorem dX8_takeNow_6 : decode cX8_takeNow 6 = .ok (.iastore, 1) := by decide +kernel
theorem dX8_takeNow_7 : decode cX8_takeNow 7 = .ok (.aload_n 0, 1) := by decide +kernel
theorem dX8_takeNow_8 : decode cX8_takeNow 8 = .ok (.getfield 28, 3) := by decide +kernel
theorem dX8_takeNow_11 : decode cX8_takeNow 11 = .ok (.iload_n 2, 1) := by decide +kernel
theorem dX8_takeNow_12 : decode cX8_takeNow 12 = .ok (.iconst (-1), 1) := by decide +kernel
theorem dX8_takeNow_13 : decode cX8_takeNow 13 = .ok (.iastore, 1) := by decide +kernel
theorem dX8_takeNow_14 : decode cX8_takeNow 14 = .ok (.aload_n 0, 1) := by decide +kernel
theorem dX8_takeNow_15 : decode cX8_takeNow 15 = .ok (.getfield 31, 3) := by decide +kernel
theorem dX8_takeNow_18 : decode cX8_takeNow 18 = .ok (.iload_n 2, 1) := by decide +kernel
theorem dX8_takeNow_19 : decode cX8_takeNow 19 = .ok (.iaload, 1) := by decide +kernel
theorem dX8_takeNow_20 : decode cX8_takeNow 20 = .ok (.bipush 20, 2) := by decide +kernel
theorem dX8_takeNow_22 : decode cX8_takeNow 22 = .ok (.if_icmp .ge 30, 3) := by decide +kernel
theorem dX8_takeNow_25 : decode cX8_takeNow 25 = .ok (.aload_n 0, 1) := by decide +kernel
theorem dX8_takeNow_26 : decode cX8_takeNow 26 = .ok (.getfield 34, 3) := by decide +kernel
theorem dX8_takeNow_29 : decode cX8_takeNow 29 = .ok (.bipush 20, 2) := by decide +kernel
theorem dX8_takeNow_31 : decode cX8_takeNow 31 = .ok (.iload_n 2, 1) := by decide +kernel
theorem dX8_takeNow_32 : decode cX8_takeNow 32 = .ok (.imul, 1) := by decide +kernel
theorem dX8_takeNow_33 : decode cX8_takeNow 33 = .ok (.aload_n 0, 1) := by decide +kernel
theorem dX8_takeNow_34 : decode cX8_takeNow 34 = .ok (.getfield 31, 3) := by decide +kernel
theorem dX8_takeNow_37 : decode cX8_takeNow 37 = .ok (.iload_n 2, 1) := by decide +kernel
theorem dX8_takeNow_38 : decode cX8_takeNow 38 = .ok (.iaload, 1) := by decide +kernel
theorem dX8_takeNow_39 : decode cX8_takeNow 39 = .ok (.iadd, 1) := by decide +kernel
theorem dX8_takeNow_40 : decode cX8_takeNow 40 = .ok (.iload_n 1, 1) := by decide +kernel
theorem dX8_takeNow_41 : decode cX8_takeNow 41 = .ok (.iastore, 1) := by decide +kernel
theorem dX8_takeNow_42 : decode cX8_takeNow 42 = .ok (.aload_n 0, 1) := by decide +kernel
theorem dX8_takeNow_43 : decode cX8_takeNow 43 = .ok (.getfield 31, 3) := by decide +kernel
theorem dX8_takeNow_46 : decode cX8_takeNow 46 = .ok (.iload_n 2, 1) := by decide +kernel
theorem dX8_takeNow_47 : decode cX8_takeNow 47 = .ok (.dup2, 1) := by decide +kernel
theorem dX8_takeNow_48 : decode cX8_takeNow 48 = .ok (.iaload, 1) := by decide +kernel
theorem dX8_takeNow_49 : decode cX8_takeNow 49 = .ok (.iconst 1, 1) := by decide +kernel
theorem dX8_takeNow_50 : decode cX8_takeNow 50 = .ok (.iadd, 1) := by decide +kernel
theorem dX8_takeNow_51 : decode cX8_takeNow 51 = .ok (.iastore, 1) := by decide +kernel
theorem dX8_takeNow_52 : decode cX8_takeNow 52 = .ok (.return_, 1) := by decide +kernel
theorem dX8_mayTake_0 : decode cX8_mayTake 0 = .ok (.aload_n 0, 1) := by decide +kernel
theorem dX8_mayTake_1 : decode cX8_mayTake 1 = .ok (.getfield 25, 3) := by decide +kernel
theorem dX8_mayTake_4 : decode cX8_mayTake 4 = .ok (.iload_n 2, 1) := by decide +kernel
theorem dX8_mayTake_5 : decode cX8_mayTake 5 = .ok (.iaload, 1) := by decide +kernel
theorem dX8_mayTake_6 : decode cX8_mayTake 6 = .ok (.ifCond .ge 26, 3) := by decide +kernel
theorem dX8_mayTake_9 : decode cX8_mayTake 9 = .ok (.aload_n 0, 1) := by decide +kernel
theorem dX8_mayTake_10 : decode cX8_mayTake 10 = .ok (.getfield 28, 3) := by decide +kernel
theorem dX8_mayTake_13 : decode cX8_mayTake 13 = .ok (.iload_n 2, 1) := by decide +kernel
theorem dX8_mayTake_14 : decode cX8_mayTake 14 = .ok (.iaload, 1) := by decide +kernel
theorem dX8_mayTake_15 : decode cX8_mayTake 15 = .ok (.iload_n 1, 1) := by decide +kernel
theorem dX8_mayTake_16 : decode cX8_mayTake 16 = .ok (.if_icmp .eq 16, 3) := by decide +kernel
theorem dX8_mayTake_19 : decode cX8_mayTake 19 = .ok (.aload_n 0, 1) := by decide +kernel
theorem dX8_mayTake_20 : decode cX8_mayTake 20 = .ok (.iload_n 1, 1) := by decide +kernel
theorem dX8_mayTake_21 : decode cX8_mayTake 21 = .ok (.invokevirtual 212, 3) := by decide +kernel
theorem dX8_mayTake_24 : decode cX8_mayTake 24 = .ok (.iconst 4, 1) := by decide +kernel
theorem dX8_mayTake_25 : decode cX8_mayTake 25 = .ok (.if_icmp .ge 7, 3) := by decide +kernel
theorem dX8_mayTake_28 : decode cX8_mayTake 28 = .ok (.iconst 1, 1) := by decide +kernel
theorem dX8_mayTake_29 : decode cX8_mayTake 29 = .ok (.goto 4, 3) := by decide +kernel
theorem dX8_mayTake_32 : decode cX8_mayTake 32 = .ok (.iconst 0, 1) := by decide +kernel
theorem dX8_mayTake_33 : decode cX8_mayTake 33 = .ok (.ireturn, 1) := by decide +kernel
theorem dX8_toss_0 : decode cX8_toss 0 = .ok (.aload_n 0, 1) := by decide +kernel
theorem dX8_toss_1 : decode cX8_toss 1 = .ok (.iload_n 1, 1) := by decide +kernel
theorem dX8_toss_2 : decode cX8_toss 2 = .ok (.invokevirtual 218, 3) := by decide +kernel
theorem dX8_toss_5 : decode cX8_toss 5 = .ok (.ifCond .eq 11, 3) := by decide +kernel
theorem dX8_toss_8 : decode cX8_toss 8 = .ok (.aload_n 0, 1) := by decide +kernel
theorem dX8_toss_9 : decode cX8_toss 9 = .ok (.iload_n 2, 1) := by decide +kernel
theorem dX8_toss_10 : decode cX8_toss 10 = .ok (.invokevirtual 232, 3) := by decide +kernel
theorem dX8_toss_13 : decode cX8_toss 13 = .ok (.ifCond .ne 6, 3) := by decide +kernel
theorem dX8_toss_16 : decode cX8_toss 16 = .ok (.ldc 222, 2) := by decide +kernel
theorem dX8_toss_18 : decode cX8_toss 18 = .ok (.ireturn, 1) := by decide +kernel
theorem dX8_toss_19 : decode cX8_toss 19 = .ok (.aload_n 0, 1) := by decide +kernel
theorem dX8_toss_20 : decode cX8_toss 20 = .ok (.getfield 25, 3) := by decide +kernel
theorem dX8_toss_23 : decode cX8_toss 23 = .ok (.iload_n 2, 1) := by decide +kernel
theorem dX8_toss_24 : decode cX8_toss 24 = .ok (.iaload, 1) := by decide +kernel
theorem dX8_toss_25 : decode cX8_toss 25 = .ok (.iload_n 1, 1) := by decide +kernel
theorem dX8_toss_26 : decode cX8_toss 26 = .ok (.if_icmp .eq 6, 3) := by decide +kernel
theorem dX8_toss_29 : decode cX8_toss 29 = .ok (.ldc 235, 2) := by decide +kernel
theorem dX8_toss_31 : decode cX8_toss 31 = .ok (.ireturn, 1) := by decide +kernel
theorem dX8_toss_32 : decode cX8_toss 32 = .ok (.aload_n 0, 1) := by decide +kernel
theorem dX8_toss_33 : decode cX8_toss 33 = .ok (.iload_n 1, 1) := by decide +kernel
theorem dX8_toss_34 : decode cX8_toss 34 = .ok (.iload_n 2, 1) := by decide +kernel
theorem dX8_toss_35 : decode cX8_toss 35 = .ok (.invokevirtual 236, 3) := by decide +kernel
theorem dX8_toss_38 : decode cX8_toss 38 = .ok (.aload_n 0, 1) := by decide +kernel
theorem dX8_toss_39 : decode cX8_toss 39 = .ok (.iload_n 1, 1) := by decide +kernel
theorem dX8_toss_40 : decode cX8_toss 40 = .ok (.invokevirtual 212, 3) := by decide +kernel
theorem dX8_toss_43 : decode cX8_toss 43 = .ok (.ireturn, 1) := by decide +kernel
theorem dX8_take_0 : decode cX8_take 0 = .ok (.aload_n 0, 1) := by decide +kernel
theorem dX8_take_1 : decode cX8_take 1 = .ok (.iload_n 1, 1) := by decide +kernel
theorem dX8_take_2 : decode cX8_take 2 = .ok (.invokevirtual 218, 3) := by decide +kernel
theorem dX8_take_5 : decode cX8_take 5 = .ok (.ifCond .eq 11, 3) := by decide +kernel
theorem dX8_take_8 : decode cX8_take 8 = .ok (.aload_n 0, 1) := by decide +kernel
theorem dX8_take_9 : decode cX8_take 9 = .ok (.iload_n 2, 1) := by decide +kernel
theorem dX8_take_10 : decode cX8_take 10 = .ok (.invokevirtual 232, 3) := by decide +kernel
theorem dX8_take_13 : decode cX8_take 13 = .ok (.ifCond .ne 6, 3) := by decide +kernel
theorem dX8_take_16 : decode cX8_take 16 = .ok (.ldc 222, 2) := by decide +kernel
theorem dX8_take_18 : decode cX8_take 18 = .ok (.ireturn, 1) := by decide +kernel
theorem dX8_take_19 : decode cX8_take 19 = .ok (.aload_n 0, 1) := by decide +kernel
theorem dX8_take_20 : decode cX8_take 20 = .ok (.iload_n 1, 1) := by decide +kernel
theorem dX8_take_21 : decode cX8_take 21 = .ok (.iload_n 2, 1) := by decide +kernel
theorem dX8_take_22 : decode cX8_take 22 = .ok (.invokevirtual 240, 3) := by decide +kernel
theorem dX8_take_25 : decode cX8_take 25 = .ok (.ifCond .ne 6, 3) := by decide +kernel
theorem dX8_take_28 : decode cX8_take 28 = .ok (.ldc 235, 2) := by decide +kernel
theorem dX8_take_30 : decode cX8_take 30 = .ok (.ireturn, 1) := by decide +kernel
theorem dX8_take_31 : decode cX8_take 31 = .ok (.aload_n 0, 1) := by decide +kernel
theorem dX8_take_32 : decode cX8_take 32 = .ok (.iload_n 1, 1) := by decide +kernel
theorem dX8_take_33 : decode cX8_take 33 = .ok (.iload_n 2, 1) := by decide +kernel
theorem dX8_take_34 : decode cX8_take 34 = .ok (.invokevirtual 243, 3) := by decide +kernel
theorem dX8_take_37 : decode cX8_take 37 = .ok (.aload_n 0, 1) := by decide +kernel
theorem dX8_take_38 : decode cX8_take 38 = .ok (.iload_n 1, 1) := by decide +kernel
theorem dX8_take_39 : decode cX8_take 39 = .ok (.invokevirtual 212, 3) := by decide +kernel
theorem dX8_take_42 : decode cX8_take 42 = .ok (.ireturn, 1) := by decide +kernel
theorem dX8_ashoreNow_0 : decode cX8_ashoreNow 0 = .ok (.aload_n 0, 1) := by decide +kernel
theorem dX8_ashoreNow_1 : decode cX8_ashoreNow 1 = .ok (.getfield 22, 3) := by decide +kernel
theorem dX8_ashoreNow_4 : decode cX8_ashoreNow 4 = .ok (.aload_n 0, 1) := by decide +kernel
theorem dX8_ashoreNow_5 : decode cX8_ashoreNow 5 = .ok (.getfield 106, 3) := by decide +kernel
theorem dX8_ashoreNow_8 : decode cX8_ashoreNow 8 = .ok (.iload_n 1, 1) := by decide +kernel
theorem dX8_ashoreNow_9 : decode cX8_ashoreNow 9 = .ok (.iastore, 1) := by decide +kernel
theorem dX8_ashoreNow_10 : decode cX8_ashoreNow 10 = .ok (.aload_n 0, 1) := by decide +kernel
theorem dX8_ashoreNow_11 : decode cX8_ashoreNow 11 = .ok (.getfield 25, 3) := by decide +kernel
theorem dX8_ashoreNow_14 : decode cX8_ashoreNow 14 = .ok (.aload_n 0, 1) := by decide +kernel
theorem dX8_ashoreNow_15 : decode cX8_ashoreNow 15 = .ok (.getfield 106, 3) := by decide +kernel
theorem dX8_ashoreNow_18 : decode cX8_ashoreNow 18 = .ok (.iconst (-1), 1) := by decide +kernel
theorem dX8_ashoreNow_19 : decode cX8_ashoreNow 19 = .ok (.iastore, 1) := by decide +kernel
theorem dX8_ashoreNow_20 : decode cX8_ashoreNow 20 = .ok (.aload_n 0, 1) := by decide +kernel
theorem dX8_ashoreNow_21 : decode cX8_ashoreNow 21 = .ok (.getfield 28, 3) := by decide +kernel
theorem dX8_ashoreNow_24 : decode cX8_ashoreNow 24 = .ok (.aload_n 0, 1) := by decide +kernel
theorem dX8_ashoreNow_25 : decode cX8_ashoreNow 25 = .ok (.getfield 106, 3) := by decide +kernel
theorem dX8_ashoreNow_28 : decode cX8_ashoreNow 28 = .ok (.iconst (-1), 1) := by decide +kernel
theorem dX8_ashoreNow_29 : decode cX8_ashoreNow 29 = .ok (.iastore, 1) := by decide +kernel
theorem dX8_ashoreNow_30 : decode cX8_ashoreNow 30 = .ok (.aload_n 0, 1) := by decide +kernel
theorem dX8_ashoreNow_31 : decode cX8_ashoreNow 31 = .ok (.getfield 31, 3) := by decide +kernel
theorem dX8_ashoreNow_34 : decode cX8_ashoreNow 34 = .ok (.aload_n 0, 1) := by decide +kernel
theorem dX8_ashoreNow_35 : decode cX8_ashoreNow 35 = .ok (.getfield 106, 3) := by decide +kernel
theorem dX8_ashoreNow_38 : decode cX8_ashoreNow 38 = .ok (.iconst 0, 1) := by decide +kernel
theorem dX8_ashoreNow_39 : decode cX8_ashoreNow 39 = .ok (.iastore, 1) := by decide +kernel
theorem dX8_ashoreNow_40 : decode cX8_ashoreNow 40 = .ok (.aload_n 0, 1) := by decide +kernel
theorem dX8_ashoreNow_41 : decode cX8_ashoreNow 41 = .ok (.dup, 1) := by decide +kernel
theorem dX8_ashoreNow_42 : decode cX8_ashoreNow 42 = .ok (.getfield 106, 3) := by decide +kernel
theorem dX8_ashoreNow_45 : decode cX8_ashoreNow 45 = .ok (.iconst 1, 1) := by decide +kernel
theorem dX8_ashoreNow_46 : decode cX8_ashoreNow 46 = .ok (.iadd, 1) := by decide +kernel
theorem dX8_ashoreNow_47 : decode cX8_ashoreNow 47 = .ok (.putfield 106, 3) := by decide +kernel
theorem dX8_ashoreNow_50 : decode cX8_ashoreNow 50 = .ok (.aload_n 0, 1) := by decide +kernel
theorem dX8_ashoreNow_51 : decode cX8_ashoreNow 51 = .ok (.getfield 106, 3) := by decide +kernel
theorem dX8_ashoreNow_54 : decode cX8_ashoreNow 54 = .ok (.iconst 1, 1) := by decide +kernel
theorem dX8_ashoreNow_55 : decode cX8_ashoreNow 55 = .ok (.isub, 1) := by decide +kernel
theorem dX8_ashoreNow_56 : decode cX8_ashoreNow 56 = .ok (.ireturn, 1) := by decide +kernel
theorem dX8_ashore_0 : decode cX8_ashore 0 = .ok (.aload_n 0, 1) := by decide +kernel
theorem dX8_ashore_1 : decode cX8_ashore 1 = .ok (.iload_n 1, 1) := by decide +kernel
theorem dX8_ashore_2 : decode cX8_ashore 2 = .ok (.invokevirtual 229, 3) := by decide +kernel
theorem dX8_ashore_5 : decode cX8_ashore 5 = .ok (.ifCond .ne 6, 3) := by decide +kernel
theorem dX8_ashore_8 : decode cX8_ashore 8 = .ok (.ldc 222, 2) := by decide +kernel
theorem dX8_ashore_10 : decode cX8_ashore 10 = .ok (.ireturn, 1) := by decide +kernel
theorem dX8_ashore_11 : decode cX8_ashore 11 = .ok (.aload_n 0, 1) := by decide +kernel
theorem dX8_ashore_12 : decode cX8_ashore 12 = .ok (.getfield 106, 3) := by decide +kernel
theorem dX8_ashore_15 : decode cX8_ashore 15 = .ok (.bipush 32, 2) := by decide +kernel
theorem dX8_ashore_17 : decode cX8_ashore 17 = .ok (.if_icmp .ne 8, 3) := by decide +kernel
theorem dX8_ashore_20 : decode cX8_ashore 20 = .ok (.ldc 121, 2) := by decide +kernel
theorem dX8_ashore_22 : decode cX8_ashore 22 = .ok (.goto 8, 3) := by decide +kernel
theorem dX8_ashore_25 : decode cX8_ashore 25 = .ok (.aload_n 0, 1) := by decide +kernel
theorem dX8_ashore_26 : decode cX8_ashore 26 = .ok (.iload_n 1, 1) := by decide +kernel
theorem dX8_ashore_27 : decode cX8_ashore 27 = .ok (.invokevirtual 246, 3) := by decide +kernel
theorem dX8_ashore_30 : decode cX8_ashore 30 = .ok (.ireturn, 1) := by decide +kernel
theorem dX8_gainOf_0 : decode cX8_gainOf 0 = .ok (.aload_n 0, 1) := by decide +kernel
theorem dX8_gainOf_1 : decode cX8_gainOf 1 = .ok (.iload_n 1, 1) := by decide +kernel
theorem dX8_gainOf_2 : decode cX8_gainOf 2 = .ok (.invokevirtual 205, 3) := by decide +kernel
theorem dX8_gainOf_5 : decode cX8_gainOf 5 = .ok (.aload_n 0, 1) := by decide +kernel
theorem dX8_gainOf_6 : decode cX8_gainOf 6 = .ok (.getfield 22, 3) := by decide +kernel
theorem dX8_gainOf_9 : decode cX8_gainOf 9 = .ok (.iload_n 2, 1) := by decide +kernel
theorem dX8_gainOf_10 : decode cX8_gainOf 10 = .ok (.iaload, 1) := by decide +kernel
theorem dX8_gainOf_11 : decode cX8_gainOf 11 = .ok (.invokestatic 201, 3) := by decide +kernel
theorem dX8_gainOf_14 : decode cX8_gainOf 14 = .ok (.ifCond .eq 7, 3) := by decide +kernel
theorem dX8_gainOf_17 : decode cX8_gainOf 17 = .ok (.iconst 0, 1) := by decide +kernel
theorem dX8_gainOf_18 : decode cX8_gainOf 18 = .ok (.goto 19, 3) := by decide +kernel
theorem dX8_gainOf_21 : decode cX8_gainOf 21 = .ok (.aload_n 0, 1) := by decide +kernel
theorem dX8_gainOf_22 : decode cX8_gainOf 22 = .ok (.getfield 13, 3) := by decide +kernel
theorem dX8_gainOf_25 : decode cX8_gainOf 25 = .ok (.bipush 6, 2) := by decide +kernel
theorem dX8_gainOf_27 : decode cX8_gainOf 27 = .ok (.iload_n 1, 1) := by decide +kernel
theorem dX8_gainOf_28 : decode cX8_gainOf 28 = .ok (.imul, 1) := by decide +kernel
theorem dX8_gainOf_29 : decode cX8_gainOf 29 = .ok (.aload_n 0, 1) := by decide +kernel
theorem dX8_gainOf_30 : decode cX8_gainOf 30 = .ok (.getfield 22, 3) := by decide +kernel
theorem dX8_gainOf_33 : decode cX8_gainOf 33 = .ok (.iload_n 2, 1) := by decide +kernel
theorem dX8_gainOf_34 : decode cX8_gainOf 34 = .ok (.iaload, 1) := by decide +kernel
theorem dX8_gainOf_35 : decode cX8_gainOf 35 = .ok (.iadd, 1) := by decide +kernel
theorem dX8_gainOf_36 : decode cX8_gainOf 36 = .ok (.iaload, 1) := by decide +kernel
theorem dX8_gainOf_37 : decode cX8_gainOf 37 = .ok (.ireturn, 1) := by decide +kernel
theorem dX8_first_0 : decode cX8_first 0 = .ok (.aload_n 0, 1) := by decide +kernel
theorem dX8_first_1 : decode cX8_first 1 = .ok (.iload_n 1, 1) := by decide +kernel
theorem dX8_first_2 : decode cX8_first 2 = .ok (.invokevirtual 232, 3) := by decide +kernel
theorem dX8_first_5 : decode cX8_first 5 = .ok (.ifCond .ne 6, 3) := by decide +kernel
theorem dX8_first_8 : decode cX8_first 8 = .ok (.ldc 222, 2) := by decide +kernel
theorem dX8_first_10 : decode cX8_first 10 = .ok (.ireturn, 1) := by decide +kernel
theorem dX8_first_11 : decode cX8_first 11 = .ok (.aload_n 0, 1) := by decide +kernel
theorem dX8_first_12 : decode cX8_first 12 = .ok (.getfield 25, 3) := by decide +kernel
theorem dX8_first_15 : decode cX8_first 15 = .ok (.iload_n 1, 1) := by decide +kernel
theorem dX8_first_16 : decode cX8_first 16 = .ok (.iaload, 1) := by decide +kernel
theorem dX8_first_17 : decode cX8_first 17 = .ok (.ifCond .lt 6, 3) := by decide +kernel
theorem dX8_first_20 : decode cX8_first 20 = .ok (.ldc 235, 2) := by decide +kernel
theorem dX8_first_22 : decode cX8_first 22 = .ok (.ireturn, 1) := by decide +kernel
theorem dX8_first_23 : decode cX8_first 23 = .ok (.aload_n 0, 1) := by decide +kernel
theorem dX8_first_24 : decode cX8_first 24 = .ok (.getfield 28, 3) := by decide +kernel
theorem dX8_first_27 : decode cX8_first 27 = .ok (.iload_n 1, 1) := by decide +kernel
theorem dX8_first_28 : decode cX8_first 28 = .ok (.iaload, 1) := by decide +kernel
theorem dX8_first_29 : decode cX8_first 29 = .ok (.ifCond .ge 8, 3) := by decide +kernel
theorem dX8_first_32 : decode cX8_first 32 = .ok (.bipush 50, 2) := by decide +kernel
theorem dX8_first_34 : decode cX8_first 34 = .ok (.goto 14, 3) := by decide +kernel
theorem dX8_first_37 : decode cX8_first 37 = .ok (.aload_n 0, 1) := by decide +kernel
theorem dX8_first_38 : decode cX8_first 38 = .ok (.getfield 7, 3) := by decide +kernel
theorem dX8_first_41 : decode cX8_first 41 = .ok (.aload_n 0, 1) := by decide +kernel
theorem dX8_first_42 : decode cX8_first 42 = .ok (.getfield 28, 3) := by decide +kernel
theorem dX8_first_45 : decode cX8_first 45 = .ok (.iload_n 1, 1) := by decide +kernel
theorem dX8_first_46 : decode cX8_first 46 = .ok (.iaload, 1) := by decide +kernel
theorem dX8_first_47 : decode cX8_first 47 = .ok (.iaload, 1) := by decide +kernel
theorem dX8_first_48 : decode cX8_first 48 = .ok (.istore_n 2, 1) := by decide +kernel
theorem dX8_first_49 : decode cX8_first 49 = .ok (.iconst (-1), 1) := by decide +kernel
theorem dX8_first_50 : decode cX8_first 50 = .ok (.istore_n 3, 1) := by decide +kernel
theorem dX8_first_51 : decode cX8_first 51 = .ok (.iconst 0, 1) := by decide +kernel
theorem dX8_first_52 : decode cX8_first 52 = .ok (.istore 4, 2) := by decide +kernel
theorem dX8_first_54 : decode cX8_first 54 = .ok (.iload 4, 2) := by decide +kernel
theorem dX8_first_56 : decode cX8_first 56 = .ok (.aload_n 0, 1) := by decide +kernel
theorem dX8_first_57 : decode cX8_first 57 = .ok (.getfield 99, 3) := by decide +kernel
theorem dX8_first_60 : decode cX8_first 60 = .ok (.if_icmp .ge 100, 3) := by decide +kernel
theorem dX8_first_63 : decode cX8_first 63 = .ok (.aload_n 0, 1) := by decide +kernel
theorem dX8_first_64 : decode cX8_first 64 = .ok (.iload 4, 2) := by decide +kernel
theorem dX8_first_66 : decode cX8_first 66 = .ok (.iload_n 1, 1) := by decide +kernel
theorem dX8_first_67 : decode cX8_first 67 = .ok (.invokevirtual 240, 3) := by decide +kernel
theorem dX8_first_70 : decode cX8_first 70 = .ok (.ifCond .eq 84, 3) := by decide +kernel
theorem dX8_first_73 : decode cX8_first 73 = .ok (.aload_n 0, 1) := by decide +kernel
theorem dX8_first_74 : decode cX8_first 74 = .ok (.iload 4, 2) := by decide +kernel
theorem dX8_first_76 : decode cX8_first 76 = .ok (.iload_n 1, 1) := by decide +kernel
theorem dX8_first_77 : decode cX8_first 77 = .ok (.invokevirtual 249, 3) := by decide +kernel
theorem dX8_first_80 : decode cX8_first 80 = .ok (.ifCond .le 74, 3) := by decide +kernel
theorem dX8_first_83 : decode cX8_first 83 = .ok (.iload_n 3, 1) := by decide +kernel
theorem dX8_first_84 : decode cX8_first 84 = .ok (.ifCond .ge 7, 3) := by decide +kernel
theorem dX8_first_87 : decode cX8_first 87 = .ok (.iconst 0, 1) := by decide +kernel
theorem dX8_first_88 : decode cX8_first 88 = .ok (.goto 27, 3) := by decide +kernel
theorem dX8_first_91 : decode cX8_first 91 = .ok (.aload_n 0, 1) := by decide +kernel
theorem dX8_first_92 : decode cX8_first 92 = .ok (.getfield 7, 3) := by decide +kernel
theorem dX8_first_95 : decode cX8_first 95 = .ok (.iload 4, 2) := by decide +kernel
theorem dX8_first_97 : decode cX8_first 97 = .ok (.iaload, 1) := by decide +kernel
theorem dX8_first_98 : decode cX8_first 98 = .ok (.iload_n 2, 1) := by decide +kernel
theorem dX8_first_99 : decode cX8_first 99 = .ok (.isub, 1) := by decide +kernel
theorem dX8_first_100 : decode cX8_first 100 = .ok (.invokestatic 252, 3) := by decide +kernel
theorem dX8_first_103 : decode cX8_first 103 = .ok (.aload_n 0, 1) := by decide +kernel
theorem dX8_first_104 : decode cX8_first 104 = .ok (.getfield 7, 3) := by decide +kernel
theorem dX8_first_107 : decode cX8_first 107 = .ok (.iload_n 3, 1) := by decide +kernel
theorem dX8_first_108 : decode cX8_first 108 = .ok (.iaload, 1) := by decide +kernel
theorem dX8_first_109 : decode cX8_first 109 = .ok (.iload_n 2, 1) := by decide +kernel
theorem dX8_first_110 : decode cX8_first 110 = .ok (.isub, 1) := by decide +kernel
theorem dX8_first_111 : decode cX8_first 111 = .ok (.invokestatic 252, 3) := by decide +kernel
theorem dX8_first_114 : decode cX8_first 114 = .ok (.isub, 1) := by decide +kernel
theorem dX8_first_115 : decode cX8_first 115 = .ok (.istore 5, 2) := by decide +kernel
theorem dX8_first_117 : decode cX8_first 117 = .ok (.iload_n 3, 1) := by decide +kernel
theorem dX8_first_118 : decode cX8_first 118 = .ok (.ifCond .lt 29, 3) := by decide +kernel
theorem dX8_first_121 : decode cX8_first 121 = .ok (.iload 5, 2) := by decide +kernel
theorem dX8_first_123 : decode cX8_first 123 = .ok (.ifCond .lt 24, 3) := by decide +kernel
theorem dX8_first_126 : decode cX8_first 126 = .ok (.iload 5, 2) := by decide +kernel
theorem dX8_first_128 : decode cX8_first 128 = .ok (.ifCond .ne 24, 3) := by decide +kernel
theorem dX8_first_131 : decode cX8_first 131 = .ok (.aload_n 0, 1) := by decide +kernel
theorem dX8_first_132 : decode cX8_first 132 = .ok (.iload 4, 2) := by decide +kernel
theorem dX8_first_134 : decode cX8_first 134 = .ok (.iload_n 1, 1) := by decide +kernel
theorem dX8_first_135 : decode cX8_first 135 = .ok (.invokevirtual 249, 3) := by decide +kernel
theorem dX8_first_138 : decode cX8_first 138 = .ok (.aload_n 0, 1) := by decide +kernel
theorem dX8_first_139 : decode cX8_first 139 = .ok (.iload_n 3, 1) := by decide +kernel
theorem dX8_first_140 : decode cX8_first 140 = .ok (.iload_n 1, 1) := by decide +kernel
theorem dX8_first_141 : decode cX8_first 141 = .ok (.invokevirtual 249, 3) := by decide +kernel
theorem dX8_first_144 : decode cX8_first 144 = .ok (.if_icmp .le 8, 3) := by decide +kernel
theorem dX8_first_147 : decode cX8_first 147 = .ok (.iload 4, 2) := by decide +kernel
theorem dX8_first_149 : decode cX8_first 149 = .ok (.goto 4, 3) := by decide +kernel
theorem dX8_first_152 : decode cX8_first 152 = .ok (.iload_n 3, 1) := by decide +kernel
theorem dX8_first_153 : decode cX8_first 153 = .ok (.istore_n 3, 1) := by decide +kernel
theorem dX8_first_154 : decode cX8_first 154 = .ok (.iinc 4 1, 3) := by decide +kernel
theorem dX8_first_157 : decode cX8_first 157 = .ok (.goto (-103), 3) := by decide +kernel
theorem dX8_first_160 : decode cX8_first 160 = .ok (.iload_n 3, 1) := by decide +kernel
theorem dX8_first_161 : decode cX8_first 161 = .ok (.ireturn, 1) := by decide +kernel
theorem dX8_isIdle_0 : decode cX8_isIdle 0 = .ok (.iconst 0, 1) := by decide +kernel
theorem dX8_isIdle_1 : decode cX8_isIdle 1 = .ok (.istore_n 3, 1) := by decide +kernel
theorem dX8_isIdle_2 : decode cX8_isIdle 2 = .ok (.iconst 0, 1) := by decide +kernel
theorem dX8_isIdle_3 : decode cX8_isIdle 3 = .ok (.istore 4, 2) := by decide +kernel
theorem dX8_isIdle_5 : decode cX8_isIdle 5 = .ok (.iload 4, 2) := by decide +kernel
theorem dX8_isIdle_7 : decode cX8_isIdle 7 = .ok (.aload_n 0, 1) := by decide +kernel
theorem dX8_isIdle_8 : decode cX8_isIdle 8 = .ok (.getfield 106, 3) := by decide +kernel
theorem dX8_isIdle_11 : decode cX8_isIdle 11 = .ok (.if_icmp .ge 44, 3) := by decide +kernel
theorem dX8_isIdle_14 : decode cX8_isIdle 14 = .ok (.iload_n 3, 1) := by decide +kernel
theorem dX8_isIdle_15 : decode cX8_isIdle 15 = .ok (.aload_n 0, 1) := by decide +kernel
theorem dX8_isIdle_16 : decode cX8_isIdle 16 = .ok (.getfield 25, 3) := by decide +kernel
theorem dX8_isIdle_19 : decode cX8_isIdle 19 = .ok (.iload 4, 2) := by decide +kernel
theorem dX8_isIdle_21 : decode cX8_isIdle 21 = .ok (.iaload, 1) := by decide +kernel
theorem dX8_isIdle_22 : decode cX8_isIdle 22 = .ok (.iload_n 1, 1) := by decide +kernel
theorem dX8_isIdle_23 : decode cX8_isIdle 23 = .ok (.if_icmp .ne 23, 3) := by decide +kernel
theorem dX8_isIdle_26 : decode cX8_isIdle 26 = .ok (.aload_n 0, 1) := by decide +kernel
theorem dX8_isIdle_27 : decode cX8_isIdle 27 = .ok (.getfield 22, 3) := by decide +kernel
theorem dX8_isIdle_30 : decode cX8_isIdle 30 = .ok (.iload 4, 2) := by decide +kernel
theorem dX8_isIdle_32 : decode cX8_isIdle 32 = .ok (.iaload, 1) := by decide +kernel
theorem dX8_isIdle_33 : decode cX8_isIdle 33 = .ok (.aload_n 0, 1) := by decide +kernel
theorem dX8_isIdle_34 : decode cX8_isIdle 34 = .ok (.getfield 22, 3) := by decide +kernel
theorem dX8_isIdle_37 : decode cX8_isIdle 37 = .ok (.iload_n 2, 1) := by decide +kernel
theorem dX8_isIdle_38 : decode cX8_isIdle 38 = .ok (.iaload, 1) := by decide +kernel
theorem dX8_isIdle_39 : decode cX8_isIdle 39 = .ok (.if_icmp .ne 7, 3) := by decide +kernel
theorem dX8_isIdle_42 : decode cX8_isIdle 42 = .ok (.iconst 1, 1) := by decide +kernel
theorem dX8_isIdle_43 : decode cX8_isIdle 43 = .ok (.goto 4, 3) := by decide +kernel
theorem dX8_isIdle_46 : decode cX8_isIdle 46 = .ok (.iconst 0, 1) := by decide +kernel
theorem dX8_isIdle_47 : decode cX8_isIdle 47 = .ok (.iadd, 1) := by decide +kernel
theorem dX8_isIdle_48 : decode cX8_isIdle 48 = .ok (.istore_n 3, 1) := by decide +kernel
theorem dX8_isIdle_49 : decode cX8_isIdle 49 = .ok (.iinc 4 1, 3) := by decide +kernel
theorem dX8_isIdle_52 : decode cX8_isIdle 52 = .ok (.goto (-47), 3) := by decide +kernel
theorem dX8_isIdle_55 : decode cX8_isIdle 55 = .ok (.iload_n 3, 1) := by decide +kernel
theorem dX8_isIdle_56 : decode cX8_isIdle 56 = .ok (.iconst 1, 1) := by decide +kernel
theorem dX8_isIdle_57 : decode cX8_isIdle 57 = .ok (.if_icmp .gt 22, 3) := by decide +kernel
theorem dX8_isIdle_60 : decode cX8_isIdle 60 = .ok (.aload_n 0, 1) := by decide +kernel
theorem dX8_isIdle_61 : decode cX8_isIdle 61 = .ok (.getfield 13, 3) := by decide +kernel
theorem dX8_isIdle_64 : decode cX8_isIdle 64 = .ok (.bipush 6, 2) := by decide +kernel
theorem dX8_isIdle_66 : decode cX8_isIdle 66 = .ok (.iload_n 1, 1) := by decide +kernel
theorem dX8_isIdle_67 : decode cX8_isIdle 67 = .ok (.imul, 1) := by decide +kernel
theorem dX8_isIdle_68 : decode cX8_isIdle 68 = .ok (.aload_n 0, 1) := by decide +kernel
theorem dX8_isIdle_69 : decode cX8_isIdle 69 = .ok (.getfield 22, 3) := by decide +kernel
theorem dX8_isIdle_72 : decode cX8_isIdle 72 = .ok (.iload_n 2, 1) := by decide +kernel
theorem dX8_isIdle_73 : decode cX8_isIdle 73 = .ok (.iaload, 1) := by decide +kernel
theorem dX8_isIdle_74 : decode cX8_isIdle 74 = .ok (.iadd, 1) := by decide +kernel
theorem dX8_isIdle_75 : decode cX8_isIdle 75 = .ok (.iaload, 1) := by decide +kernel
theorem dX8_isIdle_76 : decode cX8_isIdle 76 = .ok (.ifCond .ne 7, 3) := by decide +kernel
theorem dX8_isIdle_79 : decode cX8_isIdle 79 = .ok (.iconst 1, 1) := by decide +kernel
theorem dX8_isIdle_80 : decode cX8_isIdle 80 = .ok (.goto 4, 3) := by decide +kernel
theorem dX8_isIdle_83 : decode cX8_isIdle 83 = .ok (.iconst 0, 1) := by decide +kernel
theorem dX8_isIdle_84 : decode cX8_isIdle 84 = .ok (.ireturn, 1) := by decide +kernel
theorem dX8_bestTake_0 : decode cX8_bestTake 0 = .ok (.iconst (-1), 1) := by decide +kernel
theorem dX8_bestTake_1 : decode cX8_bestTake 1 = .ok (.istore_n 2, 1) := by decide +kernel
theorem dX8_bestTake_2 : decode cX8_bestTake 2 = .ok (.iconst 0, 1) := by decide +kernel
theorem dX8_bestTake_3 : decode cX8_bestTake 3 = .ok (.istore_n 3, 1) := by decide +kernel
theorem dX8_bestTake_4 : decode cX8_bestTake 4 = .ok (.iconst 0, 1) := by decide +kernel
theorem dX8_bestTake_5 : decode cX8_bestTake 5 = .ok (.istore 4, 2) := by decide +kernel
theorem dX8_bestTake_7 : decode cX8_bestTake 7 = .ok (.iload 4, 2) := by decide +kernel
theorem dX8_bestTake_9 : decode cX8_bestTake 9 = .ok (.aload_n 0, 1) := by decide +kernel
theorem dX8_bestTake_10 : decode cX8_bestTake 10 = .ok (.getfield 106, 3) := by decide +kernel
theorem dX8_bestTake_13 : decode cX8_bestTake 13 = .ok (.if_icmp .ge 58, 3) := by decide +kernel
theorem dX8_bestTake_16 : decode cX8_bestTake 16 = .ok (.aload_n 0, 1) := by decide +kernel
theorem dX8_bestTake_17 : decode cX8_bestTake 17 = .ok (.iload_n 1, 1) := by decide +kernel
theorem dX8_bestTake_18 : decode cX8_bestTake 18 = .ok (.iload 4, 2) := by decide +kernel
theorem dX8_bestTake_20 : decode cX8_bestTake 20 = .ok (.invokevirtual 240, 3) := by decide +kernel
theorem dX8_bestTake_23 : decode cX8_bestTake 23 = .ok (.ifCond .eq 13, 3) := by decide +kernel
theorem dX8_bestTake_26 : decode cX8_bestTake 26 = .ok (.aload_n 0, 1) := by decide +kernel
theorem dX8_bestTake_27 : decode cX8_bestTake 27 = .ok (.iload_n 1, 1) := by decide +kernel
theorem dX8_bestTake_28 : decode cX8_bestTake 28 = .ok (.iload 4, 2) := by decide +kernel
theorem dX8_bestTake_30 : decode cX8_bestTake 30 = .ok (.invokevirtual 249, 3) := by decide +kernel
theorem dX8_bestTake_33 : decode cX8_bestTake 33 = .ok (.goto 4, 3) := by decide +kernel
theorem dX8_bestTake_36 : decode cX8_bestTake 36 = .ok (.iconst 0, 1) := by decide +kernel
theorem dX8_bestTake_37 : decode cX8_bestTake 37 = .ok (.istore 5, 2) := by decide +kernel
theorem dX8_bestTake_39 : decode cX8_bestTake 39 = .ok (.iload 5, 2) := by decide +kernel
theorem dX8_bestTake_41 : decode cX8_bestTake 41 = .ok (.iload_n 3, 1) := by decide +kernel
theorem dX8_bestTake_42 : decode cX8_bestTake 42 = .ok (.if_icmp .le 8, 3) := by decide +kernel
theorem dX8_bestTake_45 : decode cX8_bestTake 45 = .ok (.iload 4, 2) := by decide +kernel
theorem dX8_bestTake_47 : decode cX8_bestTake 47 = .ok (.goto 4, 3) := by decide +kernel
theorem dX8_bestTake_50 : decode cX8_bestTake 50 = .ok (.iload_n 2, 1) := by decide +kernel
theorem dX8_bestTake_51 : decode cX8_bestTake 51 = .ok (.istore_n 2, 1) := by decide +kernel
theorem dX8_bestTake_52 : decode cX8_bestTake 52 = .ok (.iload 5, 2) := by decide +kernel
theorem dX8_bestTake_54 : decode cX8_bestTake 54 = .ok (.iload_n 3, 1) := by decide +kernel
theorem dX8_bestTake_55 : decode cX8_bestTake 55 = .ok (.if_icmp .le 8, 3) := by decide +kernel
theorem dX8_bestTake_58 : decode cX8_bestTake 58 = .ok (.iload 5, 2) := by decide +kernel
theorem dX8_bestTake_60 : decode cX8_bestTake 60 = .ok (.goto 4, 3) := by decide +kernel
theorem dX8_bestTake_63 : decode cX8_bestTake 63 = .ok (.iload_n 3, 1) := by decide +kernel
theorem dX8_bestTake_64 : decode cX8_bestTake 64 = .ok (.istore_n 3, 1) := by decide +kernel
theorem dX8_bestTake_65 : decode cX8_bestTake 65 = .ok (.iinc 4 1, 3) := by decide +kernel
theorem dX8_bestTake_68 : decode cX8_bestTake 68 = .ok (.goto (-61), 3) := by decide +kernel
theorem dX8_bestTake_71 : decode cX8_bestTake 71 = .ok (.iload_n 2, 1) := by decide +kernel
theorem dX8_bestTake_72 : decode cX8_bestTake 72 = .ok (.ireturn, 1) := by decide +kernel
theorem dX8_weekNow_0 : decode cX8_weekNow 0 = .ok (.iconst 0, 1) := by decide +kernel
theorem dX8_weekNow_1 : decode cX8_weekNow 1 = .ok (.istore_n 1, 1) := by decide +kernel
theorem dX8_weekNow_2 : decode cX8_weekNow 2 = .ok (.iconst 0, 1) := by decide +kernel
theorem dX8_weekNow_3 : decode cX8_weekNow 3 = .ok (.istore_n 2, 1) := by decide +kernel
theorem dX8_weekNow_4 : decode cX8_weekNow 4 = .ok (.iload_n 2, 1) := by decide +kernel
theorem dX8_weekNow_5 : decode cX8_weekNow 5 = .ok (.aload_n 0, 1) := by decide +kernel
theorem dX8_weekNow_6 : decode cX8_weekNow 6 = .ok (.getfield 99, 3) := by decide +kernel
theorem dX8_weekNow_9 : decode cX8_weekNow 9 = .ok (.if_icmp .ge 74, 3) := by decide +kernel
theorem dX8_weekNow_12 : decode cX8_weekNow 12 = .ok (.aload_n 0, 1) := by decide +kernel
theorem dX8_weekNow_13 : decode cX8_weekNow 13 = .ok (.iload_n 2, 1) := by decide +kernel
theorem dX8_weekNow_14 : decode cX8_weekNow 14 = .ok (.invokevirtual 255, 3) := by decide +kernel
theorem dX8_weekNow_17 : decode cX8_weekNow 17 = .ok (.istore_n 3, 1) := by decide +kernel
theorem dX8_weekNow_18 : decode cX8_weekNow 18 = .ok (.iload_n 3, 1) := by decide +kernel
theorem dX8_weekNow_19 : decode cX8_weekNow 19 = .ok (.ifCond .lt 12, 3) := by decide +kernel
theorem dX8_weekNow_22 : decode cX8_weekNow 22 = .ok (.aload_n 0, 1) := by decide +kernel
theorem dX8_weekNow_23 : decode cX8_weekNow 23 = .ok (.iload_n 2, 1) := by decide +kernel
theorem dX8_weekNow_24 : decode cX8_weekNow 24 = .ok (.iload_n 3, 1) := by decide +kernel
theorem dX8_weekNow_25 : decode cX8_weekNow 25 = .ok (.invokevirtual 243, 3) := by decide +kernel
theorem dX8_weekNow_28 : decode cX8_weekNow 28 = .ok (.iinc 1 1, 3) := by decide +kernel
theorem dX8_weekNow_31 : decode cX8_weekNow 31 = .ok (.iconst 0, 1) := by decide +kernel
theorem dX8_weekNow_32 : decode cX8_weekNow 32 = .ok (.istore 4, 2) := by decide +kernel
theorem dX8_weekNow_34 : decode cX8_weekNow 34 = .ok (.iload 4, 2) := by decide +kernel
theorem dX8_weekNow_36 : decode cX8_weekNow 36 = .ok (.aload_n 0, 1) := by decide +kernel
theorem dX8_weekNow_37 : decode cX8_weekNow 37 = .ok (.getfield 106, 3) := by decide +kernel
theorem dX8_weekNow_40 : decode cX8_weekNow 40 = .ok (.if_icmp .ge 37, 3) := by decide +kernel
theorem dX8_weekNow_43 : decode cX8_weekNow 43 = .ok (.aload_n 0, 1) := by decide +kernel
theorem dX8_weekNow_44 : decode cX8_weekNow 44 = .ok (.getfield 25, 3) := by decide +kernel
theorem dX8_weekNow_47 : decode cX8_weekNow 47 = .ok (.iload 4, 2) := by decide +kernel
theorem dX8_weekNow_49 : decode cX8_weekNow 49 = .ok (.iaload, 1) := by decide +kernel
theorem dX8_weekNow_50 : decode cX8_weekNow 50 = .ok (.iload_n 2, 1) := by decide +kernel
theorem dX8_weekNow_51 : decode cX8_weekNow 51 = .ok (.if_icmp .ne 20, 3) := by decide +kernel
theorem dX8_weekNow_54 : decode cX8_weekNow 54 = .ok (.aload_n 0, 1) := by decide +kernel
theorem dX8_weekNow_55 : decode cX8_weekNow 55 = .ok (.iload_n 2, 1) := by decide +kernel
theorem dX8_weekNow_56 : decode cX8_weekNow 56 = .ok (.iload 4, 2) := by decide +kernel
theorem dX8_weekNow_58 : decode cX8_weekNow 58 = .ok (.invokevirtual 258, 3) := by decide +kernel
theorem dX8_weekNow_61 : decode cX8_weekNow 61 = .ok (.ifCond .eq 10, 3) := by decide +kernel
theorem dX8_weekNow_64 : decode cX8_weekNow 64 = .ok (.aload_n 0, 1) := by decide +kernel
theorem dX8_weekNow_65 : decode cX8_weekNow 65 = .ok (.iload_n 2, 1) := by decide +kernel
theorem dX8_weekNow_66 : decode cX8_weekNow 66 = .ok (.iload 4, 2) := by decide +kernel
theorem dX8_weekNow_68 : decode cX8_weekNow 68 = .ok (.invokevirtual 236, 3) := by decide +kernel
theorem dX8_weekNow_71 : decode cX8_weekNow 71 = .ok (.iinc 4 1, 3) := by decide +kernel
theorem dX8_weekNow_74 : decode cX8_weekNow 74 = .ok (.goto (-40), 3) := by decide +kernel
theorem dX8_weekNow_77 : decode cX8_weekNow 77 = .ok (.iinc 2 1, 3) := by decide +kernel
theorem dX8_weekNow_80 : decode cX8_weekNow 80 = .ok (.goto (-76), 3) := by decide +kernel
theorem dX8_weekNow_83 : decode cX8_weekNow 83 = .ok (.aload_n 0, 1) := by decide +kernel
theorem dX8_weekNow_84 : decode cX8_weekNow 84 = .ok (.dup, 1) := by decide +kernel
theorem dX8_weekNow_85 : decode cX8_weekNow 85 = .ok (.getfield 109, 3) := by decide +kernel
theorem dX8_weekNow_88 : decode cX8_weekNow 88 = .ok (.iconst 1, 1) := by decide +kernel
theorem dX8_weekNow_89 : decode cX8_weekNow 89 = .ok (.iadd, 1) := by decide +kernel
theorem dX8_weekNow_90 : decode cX8_weekNow 90 = .ok (.putfield 109, 3) := by decide +kernel
theorem dX8_weekNow_93 : decode cX8_weekNow 93 = .ok (.iload_n 1, 1) := by decide +kernel
theorem dX8_weekNow_94 : decode cX8_weekNow 94 = .ok (.ireturn, 1) := by decide +kernel
theorem dX8_week_0 : decode cX8_week 0 = .ok (.iload_n 1, 1) := by decide +kernel
theorem dX8_week_1 : decode cX8_week 1 = .ok (.i2l, 1) := by decide +kernel
theorem dX8_week_2 : decode cX8_week 2 = .ok (.lconst 1, 1) := by decide +kernel
theorem dX8_week_3 : decode cX8_week 3 = .ok (.ldc2_w 261, 3) := by decide +kernel
theorem dX8_week_6 : decode cX8_week 6 = .ok (.invokestatic 102, 3) := by decide +kernel
theorem dX8_week_9 : decode cX8_week 9 = .ok (.ifCond .ne 6, 3) := by decide +kernel
theorem dX8_week_12 : decode cX8_week 12 = .ok (.ldc 117, 2) := by decide +kernel
theorem dX8_week_14 : decode cX8_week 14 = .ok (.ireturn, 1) := by decide +kernel
theorem dX8_week_15 : decode cX8_week 15 = .ok (.iconst 0, 1) := by decide +kernel
theorem dX8_week_16 : decode cX8_week 16 = .ok (.istore_n 2, 1) := by decide +kernel
theorem dX8_week_17 : decode cX8_week 17 = .ok (.iconst 0, 1) := by decide +kernel
theorem dX8_week_18 : decode cX8_week 18 = .ok (.istore_n 3, 1) := by decide +kernel
theorem dX8_week_19 : decode cX8_week 19 = .ok (.iload_n 3, 1) := by decide +kernel
theorem dX8_week_20 : decode cX8_week 20 = .ok (.iload_n 1, 1) := by decide +kernel
theorem dX8_week_21 : decode cX8_week 21 = .ok (.if_icmp .ge 20, 3) := by decide +kernel
theorem dX8_week_24 : decode cX8_week 24 = .ok (.aload_n 0, 1) := by decide +kernel
theorem dX8_week_25 : decode cX8_week 25 = .ok (.invokevirtual 263, 3) := by decide +kernel
theorem dX8_week_28 : decode cX8_week 28 = .ok (.istore 4, 2) := by decide +kernel
theorem dX8_week_30 : decode cX8_week 30 = .ok (.iload_n 2, 1) := by decide +kernel
theorem dX8_week_31 : decode cX8_week 31 = .ok (.iload 4, 2) := by decide +kernel
theorem dX8_week_33 : decode cX8_week 33 = .ok (.iadd, 1) := by decide +kernel
theorem dX8_week_34 : decode cX8_week 34 = .ok (.istore_n 2, 1) := by decide +kernel
theorem dX8_week_35 : decode cX8_week 35 = .ok (.iinc 3 1, 3) := by decide +kernel
end
section
theorem dX8_week_38 : decode cX8_week 38 = .ok (.goto (-19), 3) := by decide +kernel
theorem dX8_week_41 : decode cX8_week 41 = .ok (.iload_n 2, 1) := by decide +kernel
theorem dX8_week_42 : decode cX8_week 42 = .ok (.ireturn, 1) := by decide +kernel
theorem dX8_draw_0 : decode cX8_draw 0 = .ok (.aload_n 0, 1) := by decide +kernel
theorem dX8_draw_1 : decode cX8_draw 1 = .ok (.aload_n 0, 1) := by decide +kernel
theorem dX8_draw_2 : decode cX8_draw 2 = .ok (.getfield 266, 3) := by decide +kernel
theorem dX8_draw_5 : decode cX8_draw 5 = .ok (.i2l, 1) := by decide +kernel
theorem dX8_draw_6 : decode cX8_draw 6 = .ok (.ldc2_w 269, 3) := by decide +kernel
theorem dX8_draw_9 : decode cX8_draw 9 = .ok (.lmul, 1) := by decide +kernel
theorem dX8_draw_10 : decode cX8_draw 10 = .ok (.ldc2_w 271, 3) := by decide +kernel
theorem dX8_draw_13 : decode cX8_draw 13 = .ok (.ladd, 1) := by decide +kernel
theorem dX8_draw_14 : decode cX8_draw 14 = .ok (.ldc2_w 273, 3) := by decide +kernel
theorem dX8_draw_17 : decode cX8_draw 17 = .ok (.lrem, 1) := by decide +kernel
theorem dX8_draw_18 : decode cX8_draw 18 = .ok (.l2i, 1) := by decide +kernel
theorem dX8_draw_19 : decode cX8_draw 19 = .ok (.putfield 266, 3) := by decide +kernel
theorem dX8_draw_22 : decode cX8_draw 22 = .ok (.aload_n 0, 1) := by decide +kernel
theorem dX8_draw_23 : decode cX8_draw 23 = .ok (.getfield 266, 3) := by decide +kernel
theorem dX8_draw_26 : decode cX8_draw 26 = .ok (.ldc_w 275, 3) := by decide +kernel
theorem dX8_draw_29 : decode cX8_draw 29 = .ok (.idiv, 1) := by decide +kernel
theorem dX8_draw_30 : decode cX8_draw 30 = .ok (.iload_n 1, 1) := by decide +kernel
theorem dX8_draw_31 : decode cX8_draw 31 = .ok (.irem, 1) := by decide +kernel
theorem dX8_draw_32 : decode cX8_draw 32 = .ok (.ireturn, 1) := by decide +kernel
theorem dX8_drift_0 : decode cX8_drift 0 = .ok (.iload_n 1, 1) := by decide +kernel
theorem dX8_drift_1 : decode cX8_drift 1 = .ok (.i2l, 1) := by decide +kernel
theorem dX8_drift_2 : decode cX8_drift 2 = .ok (.lconst 1, 1) := by decide +kernel
theorem dX8_drift_3 : decode cX8_drift 3 = .ok (.ldc2_w 261, 3) := by decide +kernel
theorem dX8_drift_6 : decode cX8_drift 6 = .ok (.invokestatic 102, 3) := by decide +kernel
theorem dX8_drift_9 : decode cX8_drift 9 = .ok (.ifCond .ne 6, 3) := by decide +kernel
theorem dX8_drift_12 : decode cX8_drift 12 = .ok (.ldc 117, 2) := by decide +kernel
theorem dX8_drift_14 : decode cX8_drift 14 = .ok (.ireturn, 1) := by decide +kernel
theorem dX8_drift_15 : decode cX8_drift 15 = .ok (.aload_n 0, 1) := by decide +kernel
theorem dX8_drift_16 : decode cX8_drift 16 = .ok (.getfield 96, 3) := by decide +kernel
theorem dX8_drift_19 : decode cX8_drift 19 = .ok (.ifCond .ne 6, 3) := by decide +kernel
theorem dX8_drift_22 : decode cX8_drift 22 = .ok (.ldc 235, 2) := by decide +kernel
theorem dX8_drift_24 : decode cX8_drift 24 = .ok (.ireturn, 1) := by decide +kernel
theorem dX8_drift_25 : decode cX8_drift 25 = .ok (.iconst 0, 1) := by decide +kernel
theorem dX8_drift_26 : decode cX8_drift 26 = .ok (.istore_n 2, 1) := by decide +kernel
theorem dX8_drift_27 : decode cX8_drift 27 = .ok (.iconst 0, 1) := by decide +kernel
theorem dX8_drift_28 : decode cX8_drift 28 = .ok (.istore_n 3, 1) := by decide +kernel
theorem dX8_drift_29 : decode cX8_drift 29 = .ok (.iload_n 3, 1) := by decide +kernel
theorem dX8_drift_30 : decode cX8_drift 30 = .ok (.iload_n 1, 1) := by decide +kernel
theorem dX8_drift_31 : decode cX8_drift 31 = .ok (.if_icmp .ge 43, 3) := by decide +kernel
theorem dX8_drift_34 : decode cX8_drift 34 = .ok (.aload_n 0, 1) := by decide +kernel
theorem dX8_drift_35 : decode cX8_drift 35 = .ok (.getfield 106, 3) := by decide +kernel
theorem dX8_drift_38 : decode cX8_drift 38 = .ok (.bipush 32, 2) := by decide +kernel
theorem dX8_drift_40 : decode cX8_drift 40 = .ok (.if_icmp .ge 17, 3) := by decide +kernel
theorem dX8_drift_43 : decode cX8_drift 43 = .ok (.aload_n 0, 1) := by decide +kernel
theorem dX8_drift_44 : decode cX8_drift 44 = .ok (.aload_n 0, 1) := by decide +kernel
theorem dX8_drift_45 : decode cX8_drift 45 = .ok (.aload_n 0, 1) := by decide +kernel
theorem dX8_drift_46 : decode cX8_drift 46 = .ok (.getfield 96, 3) := by decide +kernel
theorem dX8_drift_49 : decode cX8_drift 49 = .ok (.invokevirtual 276, 3) := by decide +kernel
theorem dX8_drift_52 : decode cX8_drift 52 = .ok (.invokevirtual 246, 3) := by decide +kernel
theorem dX8_drift_55 : decode cX8_drift 55 = .ok (.istore 4, 2) := by decide +kernel
theorem dX8_drift_57 : decode cX8_drift 57 = .ok (.aload_n 0, 1) := by decide +kernel
theorem dX8_drift_58 : decode cX8_drift 58 = .ok (.invokevirtual 263, 3) := by decide +kernel
theorem dX8_drift_61 : decode cX8_drift 61 = .ok (.istore 4, 2) := by decide +kernel
theorem dX8_drift_63 : decode cX8_drift 63 = .ok (.iload_n 2, 1) := by decide +kernel
theorem dX8_drift_64 : decode cX8_drift 64 = .ok (.iload 4, 2) := by decide +kernel
theorem dX8_drift_66 : decode cX8_drift 66 = .ok (.iadd, 1) := by decide +kernel
theorem dX8_drift_67 : decode cX8_drift 67 = .ok (.istore_n 2, 1) := by decide +kernel
theorem dX8_drift_68 : decode cX8_drift 68 = .ok (.iinc 3 1, 3) := by decide +kernel
theorem dX8_drift_71 : decode cX8_drift 71 = .ok (.goto (-42), 3) := by decide +kernel
theorem dX8_drift_74 : decode cX8_drift 74 = .ok (.iload_n 2, 1) := by decide +kernel
theorem dX8_drift_75 : decode cX8_drift 75 = .ok (.ireturn, 1) := by decide +kernel
theorem dX8_gain_0 : decode cX8_gain 0 = .ok (.aload_n 0, 1) := by decide +kernel
theorem dX8_gain_1 : decode cX8_gain 1 = .ok (.iload_n 1, 1) := by decide +kernel
theorem dX8_gain_2 : decode cX8_gain 2 = .ok (.invokevirtual 218, 3) := by decide +kernel
theorem dX8_gain_5 : decode cX8_gain 5 = .ok (.ifCond .eq 20, 3) := by decide +kernel
theorem dX8_gain_8 : decode cX8_gain 8 = .ok (.aload_n 0, 1) := by decide +kernel
theorem dX8_gain_9 : decode cX8_gain 9 = .ok (.iload_n 2, 1) := by decide +kernel
theorem dX8_gain_10 : decode cX8_gain 10 = .ok (.invokevirtual 232, 3) := by decide +kernel
theorem dX8_gain_13 : decode cX8_gain 13 = .ok (.ifCond .eq 12, 3) := by decide +kernel
theorem dX8_gain_16 : decode cX8_gain 16 = .ok (.aload_n 0, 1) := by decide +kernel
theorem dX8_gain_17 : decode cX8_gain 17 = .ok (.iload_n 1, 1) := by decide +kernel
theorem dX8_gain_18 : decode cX8_gain 18 = .ok (.iload_n 2, 1) := by decide +kernel
theorem dX8_gain_19 : decode cX8_gain 19 = .ok (.invokevirtual 249, 3) := by decide +kernel
theorem dX8_gain_22 : decode cX8_gain 22 = .ok (.goto 5, 3) := by decide +kernel
theorem dX8_gain_25 : decode cX8_gain 25 = .ok (.ldc 222, 2) := by decide +kernel
theorem dX8_gain_27 : decode cX8_gain 27 = .ok (.ireturn, 1) := by decide +kernel
theorem dX8_down_0 : decode cX8_down 0 = .ok (.aload_n 0, 1) := by decide +kernel
theorem dX8_down_1 : decode cX8_down 1 = .ok (.iload_n 1, 1) := by decide +kernel
theorem dX8_down_2 : decode cX8_down 2 = .ok (.invokevirtual 229, 3) := by decide +kernel
theorem dX8_down_5 : decode cX8_down 5 = .ok (.ifCond .eq 16, 3) := by decide +kernel
theorem dX8_down_8 : decode cX8_down 8 = .ok (.iload_n 3, 1) := by decide +kernel
theorem dX8_down_9 : decode cX8_down 9 = .ok (.iconst (-1), 1) := by decide +kernel
theorem dX8_down_10 : decode cX8_down 10 = .ok (.if_icmp .eq 14, 3) := by decide +kernel
theorem dX8_down_13 : decode cX8_down 13 = .ok (.aload_n 0, 1) := by decide +kernel
theorem dX8_down_14 : decode cX8_down 14 = .ok (.iload_n 3, 1) := by decide +kernel
theorem dX8_down_15 : decode cX8_down 15 = .ok (.invokevirtual 218, 3) := by decide +kernel
theorem dX8_down_18 : decode cX8_down 18 = .ok (.ifCond .ne 6, 3) := by decide +kernel
theorem dX8_down_21 : decode cX8_down 21 = .ok (.ldc 222, 2) := by decide +kernel
theorem dX8_down_23 : decode cX8_down 23 = .ok (.ireturn, 1) := by decide +kernel
theorem dX8_down_24 : decode cX8_down 24 = .ok (.iload_n 2, 1) := by decide +kernel
theorem dX8_down_25 : decode cX8_down 25 = .ok (.i2l, 1) := by decide +kernel
theorem dX8_down_26 : decode cX8_down 26 = .ok (.lconst 1, 1) := by decide +kernel
theorem dX8_down_27 : decode cX8_down 27 = .ok (.ldc2_w 279, 3) := by decide +kernel
theorem dX8_down_30 : decode cX8_down 30 = .ok (.invokestatic 102, 3) := by decide +kernel
theorem dX8_down_33 : decode cX8_down 33 = .ok (.ifCond .ne 6, 3) := by decide +kernel
theorem dX8_down_36 : decode cX8_down 36 = .ok (.ldc 117, 2) := by decide +kernel
theorem dX8_down_38 : decode cX8_down 38 = .ok (.ireturn, 1) := by decide +kernel
theorem dX8_down_39 : decode cX8_down 39 = .ok (.aload_n 0, 1) := by decide +kernel
theorem dX8_down_40 : decode cX8_down 40 = .ok (.getfield 106, 3) := by decide +kernel
theorem dX8_down_43 : decode cX8_down 43 = .ok (.bipush 32, 2) := by decide +kernel
theorem dX8_down_45 : decode cX8_down 45 = .ok (.if_icmp .ne 6, 3) := by decide +kernel
theorem dX8_down_48 : decode cX8_down 48 = .ok (.ldc 121, 2) := by decide +kernel
theorem dX8_down_50 : decode cX8_down 50 = .ok (.ireturn, 1) := by decide +kernel
theorem dX8_down_51 : decode cX8_down 51 = .ok (.aload_n 0, 1) := by decide +kernel
theorem dX8_down_52 : decode cX8_down 52 = .ok (.iconst 2, 1) := by decide +kernel
theorem dX8_down_53 : decode cX8_down 53 = .ok (.invokevirtual 281, 3) := by decide +kernel
theorem dX8_down_56 : decode cX8_down 56 = .ok (.iconst 0, 1) := by decide +kernel
theorem dX8_down_57 : decode cX8_down 57 = .ok (.istore 4, 2) := by decide +kernel
theorem dX8_down_59 : decode cX8_down 59 = .ok (.iload 4, 2) := by decide +kernel
theorem dX8_down_61 : decode cX8_down 61 = .ok (.iload_n 2, 1) := by decide +kernel
theorem dX8_down_62 : decode cX8_down 62 = .ok (.if_icmp .ge 15, 3) := by decide +kernel
theorem dX8_down_65 : decode cX8_down 65 = .ok (.aload_n 0, 1) := by decide +kernel
theorem dX8_down_66 : decode cX8_down 66 = .ok (.invokevirtual 263, 3) := by decide +kernel
theorem dX8_down_69 : decode cX8_down 69 = .ok (.istore 5, 2) := by decide +kernel
theorem dX8_down_71 : decode cX8_down 71 = .ok (.iinc 4 1, 3) := by decide +kernel
theorem dX8_down_74 : decode cX8_down 74 = .ok (.goto (-15), 3) := by decide +kernel
theorem dX8_down_77 : decode cX8_down 77 = .ok (.iconst 0, 1) := by decide +kernel
theorem dX8_down_78 : decode cX8_down 78 = .ok (.istore 4, 2) := by decide +kernel
theorem dX8_down_80 : decode cX8_down 80 = .ok (.iload 4, 2) := by decide +kernel
theorem dX8_down_82 : decode cX8_down 82 = .ok (.aload_n 0, 1) := by decide +kernel
theorem dX8_down_83 : decode cX8_down 83 = .ok (.getfield 99, 3) := by decide +kernel
theorem dX8_down_86 : decode cX8_down 86 = .ok (.if_icmp .ge 22, 3) := by decide +kernel
theorem dX8_down_89 : decode cX8_down 89 = .ok (.aload_n 0, 1) := by decide +kernel
theorem dX8_down_90 : decode cX8_down 90 = .ok (.getfield 56, 3) := by decide +kernel
theorem dX8_down_93 : decode cX8_down 93 = .ok (.iload 4, 2) := by decide +kernel
theorem dX8_down_95 : decode cX8_down 95 = .ok (.aload_n 0, 1) := by decide +kernel
theorem dX8_down_96 : decode cX8_down 96 = .ok (.iload 4, 2) := by decide +kernel
theorem dX8_down_98 : decode cX8_down 98 = .ok (.invokevirtual 223, 3) := by decide +kernel
theorem dX8_down_101 : decode cX8_down 101 = .ok (.iastore, 1) := by decide +kernel
theorem dX8_down_102 : decode cX8_down 102 = .ok (.iinc 4 1, 3) := by decide +kernel
theorem dX8_down_105 : decode cX8_down 105 = .ok (.goto (-25), 3) := by decide +kernel
theorem dX8_down_108 : decode cX8_down 108 = .ok (.aload_n 0, 1) := by decide +kernel
theorem dX8_down_109 : decode cX8_down 109 = .ok (.iconst 2, 1) := by decide +kernel
theorem dX8_down_110 : decode cX8_down 110 = .ok (.invokevirtual 285, 3) := by decide +kernel
theorem dX8_down_113 : decode cX8_down 113 = .ok (.aload_n 0, 1) := by decide +kernel
theorem dX8_down_114 : decode cX8_down 114 = .ok (.iload_n 1, 1) := by decide +kernel
theorem dX8_down_115 : decode cX8_down 115 = .ok (.invokevirtual 246, 3) := by decide +kernel
theorem dX8_down_118 : decode cX8_down 118 = .ok (.istore 4, 2) := by decide +kernel
theorem dX8_down_120 : decode cX8_down 120 = .ok (.iconst 0, 1) := by decide +kernel
theorem dX8_down_121 : decode cX8_down 121 = .ok (.istore 5, 2) := by decide +kernel
theorem dX8_down_123 : decode cX8_down 123 = .ok (.iload 5, 2) := by decide +kernel
theorem dX8_down_125 : decode cX8_down 125 = .ok (.iload_n 2, 1) := by decide +kernel
theorem dX8_down_126 : decode cX8_down 126 = .ok (.if_icmp .ge 15, 3) := by decide +kernel
theorem dX8_down_129 : decode cX8_down 129 = .ok (.aload_n 0, 1) := by decide +kernel
theorem dX8_down_130 : decode cX8_down 130 = .ok (.invokevirtual 263, 3) := by decide +kernel
theorem dX8_down_133 : decode cX8_down 133 = .ok (.istore 6, 2) := by decide +kernel
theorem dX8_down_135 : decode cX8_down 135 = .ok (.iinc 5 1, 3) := by decide +kernel
theorem dX8_down_138 : decode cX8_down 138 = .ok (.goto (-15), 3) := by decide +kernel
theorem dX8_down_141 : decode cX8_down 141 = .ok (.iconst 0, 1) := by decide +kernel
theorem dX8_down_142 : decode cX8_down 142 = .ok (.istore 5, 2) := by decide +kernel
theorem dX8_down_144 : decode cX8_down 144 = .ok (.iconst 0, 1) := by decide +kernel
theorem dX8_down_145 : decode cX8_down 145 = .ok (.istore 6, 2) := by decide +kernel
theorem dX8_down_147 : decode cX8_down 147 = .ok (.iload 6, 2) := by decide +kernel
theorem dX8_down_149 : decode cX8_down 149 = .ok (.aload_n 0, 1) := by decide +kernel
theorem dX8_down_150 : decode cX8_down 150 = .ok (.getfield 99, 3) := by decide +kernel
theorem dX8_down_153 : decode cX8_down 153 = .ok (.if_icmp .ge 43, 3) := by decide +kernel
theorem dX8_down_156 : decode cX8_down 156 = .ok (.iload 5, 2) := by decide +kernel
theorem dX8_down_158 : decode cX8_down 158 = .ok (.iload_n 3, 1) := by decide +kernel
theorem dX8_down_159 : decode cX8_down 159 = .ok (.iconst (-1), 1) := by decide +kernel
theorem dX8_down_160 : decode cX8_down 160 = .ok (.if_icmp .eq 9, 3) := by decide +kernel
theorem dX8_down_163 : decode cX8_down 163 = .ok (.iload 6, 2) := by decide +kernel
theorem dX8_down_165 : decode cX8_down 165 = .ok (.iload_n 3, 1) := by decide +kernel
theorem dX8_down_166 : decode cX8_down 166 = .ok (.if_icmp .ne 20, 3) := by decide +kernel
theorem dX8_down_169 : decode cX8_down 169 = .ok (.aload_n 0, 1) := by decide +kernel
theorem dX8_down_170 : decode cX8_down 170 = .ok (.iload 6, 2) := by decide +kernel
theorem dX8_down_172 : decode cX8_down 172 = .ok (.invokevirtual 223, 3) := by decide +kernel
theorem dX8_down_175 : decode cX8_down 175 = .ok (.aload_n 0, 1) := by decide +kernel
theorem dX8_down_176 : decode cX8_down 176 = .ok (.getfield 56, 3) := by decide +kernel
theorem dX8_down_179 : decode cX8_down 179 = .ok (.iload 6, 2) := by decide +kernel
theorem dX8_down_181 : decode cX8_down 181 = .ok (.iaload, 1) := by decide +kernel
theorem dX8_down_182 : decode cX8_down 182 = .ok (.isub, 1) := by decide +kernel
theorem dX8_down_183 : decode cX8_down 183 = .ok (.goto 4, 3) := by decide +kernel
theorem dX8_down_186 : decode cX8_down 186 = .ok (.iconst 0, 1) := by decide +kernel
theorem dX8_down_187 : decode cX8_down 187 = .ok (.iadd, 1) := by decide +kernel
theorem dX8_down_188 : decode cX8_down 188 = .ok (.istore 5, 2) := by decide +kernel
theorem dX8_down_190 : decode cX8_down 190 = .ok (.iinc 6 1, 3) := by decide +kernel
theorem dX8_down_193 : decode cX8_down 193 = .ok (.goto (-46), 3) := by decide +kernel
theorem dX8_down_196 : decode cX8_down 196 = .ok (.aload_n 0, 1) := by decide +kernel
theorem dX8_down_197 : decode cX8_down 197 = .ok (.iconst 2, 1) := by decide +kernel
theorem dX8_down_198 : decode cX8_down 198 = .ok (.invokevirtual 285, 3) := by decide +kernel
theorem dX8_down_201 : decode cX8_down 201 = .ok (.iload 5, 2) := by decide +kernel
theorem dX8_down_203 : decode cX8_down 203 = .ok (.ireturn, 1) := by decide +kernel
theorem dX8_betterBy_0 : decode cX8_betterBy 0 = .ok (.iconst 1, 1) := by decide +kernel
theorem dX8_betterBy_1 : decode cX8_betterBy 1 = .ok (.aload_n 0, 1) := by decide +kernel
theorem dX8_betterBy_2 : decode cX8_betterBy 2 = .ok (.getfield 22, 3) := by decide +kernel
theorem dX8_betterBy_5 : decode cX8_betterBy 5 = .ok (.iload_n 2, 1) := by decide +kernel
theorem dX8_betterBy_6 : decode cX8_betterBy 6 = .ok (.iaload, 1) := by decide +kernel
theorem dX8_betterBy_7 : decode cX8_betterBy 7 = .ok (.ishl, 1) := by decide +kernel
theorem dX8_betterBy_8 : decode cX8_betterBy 8 = .ok (.istore 4, 2) := by decide +kernel
theorem dX8_betterBy_10 : decode cX8_betterBy 10 = .ok (.iconst 0, 1) := by decide +kernel
theorem dX8_betterBy_11 : decode cX8_betterBy 11 = .ok (.istore 5, 2) := by decide +kernel
theorem dX8_betterBy_13 : decode cX8_betterBy 13 = .ok (.iload 5, 2) := by decide +kernel
theorem dX8_betterBy_15 : decode cX8_betterBy 15 = .ok (.aload_n 0, 1) := by decide +kernel
theorem dX8_betterBy_16 : decode cX8_betterBy 16 = .ok (.getfield 106, 3) := by decide +kernel
theorem dX8_betterBy_19 : decode cX8_betterBy 19 = .ok (.if_icmp .ge 44, 3) := by decide +kernel
theorem dX8_betterBy_22 : decode cX8_betterBy 22 = .ok (.iload 4, 2) := by decide +kernel
theorem dX8_betterBy_24 : decode cX8_betterBy 24 = .ok (.aload_n 0, 1) := by decide +kernel
theorem dX8_betterBy_25 : decode cX8_betterBy 25 = .ok (.getfield 25, 3) := by decide +kernel
theorem dX8_betterBy_28 : decode cX8_betterBy 28 = .ok (.iload 5, 2) := by decide +kernel
theorem dX8_betterBy_30 : decode cX8_betterBy 30 = .ok (.iaload, 1) := by decide +kernel
theorem dX8_betterBy_31 : decode cX8_betterBy 31 = .ok (.iload_n 1, 1) := by decide +kernel
theorem dX8_betterBy_32 : decode cX8_betterBy 32 = .ok (.if_icmp .ne 21, 3) := by decide +kernel
theorem dX8_betterBy_35 : decode cX8_betterBy 35 = .ok (.iload 5, 2) := by decide +kernel
theorem dX8_betterBy_37 : decode cX8_betterBy 37 = .ok (.iload_n 3, 1) := by decide +kernel
theorem dX8_betterBy_38 : decode cX8_betterBy 38 = .ok (.if_icmp .eq 15, 3) := by decide +kernel
theorem dX8_betterBy_41 : decode cX8_betterBy 41 = .ok (.iconst 1, 1) := by decide +kernel
theorem dX8_betterBy_42 : decode cX8_betterBy 42 = .ok (.aload_n 0, 1) := by decide +kernel
theorem dX8_betterBy_43 : decode cX8_betterBy 43 = .ok (.getfield 22, 3) := by decide +kernel
theorem dX8_betterBy_46 : decode cX8_betterBy 46 = .ok (.iload 5, 2) := by decide +kernel
theorem dX8_betterBy_48 : decode cX8_betterBy 48 = .ok (.iaload, 1) := by decide +kernel
theorem dX8_betterBy_49 : decode cX8_betterBy 49 = .ok (.ishl, 1) := by decide +kernel
theorem dX8_betterBy_50 : decode cX8_betterBy 50 = .ok (.goto 4, 3) := by decide +kernel
theorem dX8_betterBy_53 : decode cX8_betterBy 53 = .ok (.iconst 0, 1) := by decide +kernel
theorem dX8_betterBy_54 : decode cX8_betterBy 54 = .ok (.ior, 1) := by decide +kernel
theorem dX8_betterBy_55 : decode cX8_betterBy 55 = .ok (.istore 4, 2) := by decide +kernel
theorem dX8_betterBy_57 : decode cX8_betterBy 57 = .ok (.iinc 5 1, 3) := by decide +kernel
theorem dX8_betterBy_60 : decode cX8_betterBy 60 = .ok (.goto (-47), 3) := by decide +kernel
theorem dX8_betterBy_63 : decode cX8_betterBy 63 = .ok (.aload_n 0, 1) := by decide +kernel
theorem dX8_betterBy_64 : decode cX8_betterBy 64 = .ok (.iload_n 1, 1) := by decide +kernel
theorem dX8_betterBy_65 : decode cX8_betterBy 65 = .ok (.iload 4, 2) := by decide +kernel
theorem dX8_betterBy_67 : decode cX8_betterBy 67 = .ok (.invokevirtual 209, 3) := by decide +kernel
theorem dX8_betterBy_70 : decode cX8_betterBy 70 = .ok (.aload_n 0, 1) := by decide +kernel
theorem dX8_betterBy_71 : decode cX8_betterBy 71 = .ok (.iload_n 1, 1) := by decide +kernel
theorem dX8_betterBy_72 : decode cX8_betterBy 72 = .ok (.invokevirtual 223, 3) := by decide +kernel
theorem dX8_betterBy_75 : decode cX8_betterBy 75 = .ok (.isub, 1) := by decide +kernel
theorem dX8_betterBy_76 : decode cX8_betterBy 76 = .ok (.ireturn, 1) := by decide +kernel
theorem dX8_fromOf_0 : decode cX8_fromOf 0 = .ok (.aload_n 0, 1) := by decide +kernel
theorem dX8_fromOf_1 : decode cX8_fromOf 1 = .ok (.getfield 25, 3) := by decide +kernel
theorem dX8_fromOf_4 : decode cX8_fromOf 4 = .ok (.iload_n 1, 1) := by decide +kernel
theorem dX8_fromOf_5 : decode cX8_fromOf 5 = .ok (.iaload, 1) := by decide +kernel
theorem dX8_fromOf_6 : decode cX8_fromOf 6 = .ok (.ifCond .ge 12, 3) := by decide +kernel
theorem dX8_fromOf_9 : decode cX8_fromOf 9 = .ok (.aload_n 0, 1) := by decide +kernel
theorem dX8_fromOf_10 : decode cX8_fromOf 10 = .ok (.getfield 28, 3) := by decide +kernel
theorem dX8_fromOf_13 : decode cX8_fromOf 13 = .ok (.iload_n 1, 1) := by decide +kernel
theorem dX8_fromOf_14 : decode cX8_fromOf 14 = .ok (.iaload, 1) := by decide +kernel
theorem dX8_fromOf_15 : decode cX8_fromOf 15 = .ok (.goto 9, 3) := by decide +kernel
theorem dX8_fromOf_18 : decode cX8_fromOf 18 = .ok (.aload_n 0, 1) := by decide +kernel
theorem dX8_fromOf_19 : decode cX8_fromOf 19 = .ok (.getfield 25, 3) := by decide +kernel
theorem dX8_fromOf_22 : decode cX8_fromOf 22 = .ok (.iload_n 1, 1) := by decide +kernel
theorem dX8_fromOf_23 : decode cX8_fromOf 23 = .ok (.iaload, 1) := by decide +kernel
theorem dX8_fromOf_24 : decode cX8_fromOf 24 = .ok (.ireturn, 1) := by decide +kernel
theorem dX8_chain_0 : decode cX8_chain 0 = .ok (.aload_n 0, 1) := by decide +kernel
theorem dX8_chain_1 : decode cX8_chain 1 = .ok (.iload_n 1, 1) := by decide +kernel
theorem dX8_chain_2 : decode cX8_chain 2 = .ok (.invokevirtual 218, 3) := by decide +kernel
theorem dX8_chain_5 : decode cX8_chain 5 = .ok (.ifCond .eq 11, 3) := by decide +kernel
theorem dX8_chain_8 : decode cX8_chain 8 = .ok (.aload_n 0, 1) := by decide +kernel
theorem dX8_chain_9 : decode cX8_chain 9 = .ok (.iload_n 2, 1) := by decide +kernel
theorem dX8_chain_10 : decode cX8_chain 10 = .ok (.invokevirtual 229, 3) := by decide +kernel
theorem dX8_chain_13 : decode cX8_chain 13 = .ok (.ifCond .ne 6, 3) := by decide +kernel
theorem dX8_chain_16 : decode cX8_chain 16 = .ok (.ldc 222, 2) := by decide +kernel
theorem dX8_chain_18 : decode cX8_chain 18 = .ok (.ireturn, 1) := by decide +kernel
theorem dX8_chain_19 : decode cX8_chain 19 = .ok (.iconst 0, 1) := by decide +kernel
theorem dX8_chain_20 : decode cX8_chain 20 = .ok (.istore_n 3, 1) := by decide +kernel
theorem dX8_chain_21 : decode cX8_chain 21 = .ok (.iload_n 3, 1) := by decide +kernel
theorem dX8_chain_22 : decode cX8_chain 22 = .ok (.aload_n 0, 1) := by decide +kernel
theorem dX8_chain_23 : decode cX8_chain 23 = .ok (.getfield 106, 3) := by decide +kernel
theorem dX8_chain_26 : decode cX8_chain 26 = .ok (.if_icmp .ge 29, 3) := by decide +kernel
theorem dX8_chain_29 : decode cX8_chain 29 = .ok (.aload_n 0, 1) := by decide +kernel
theorem dX8_chain_30 : decode cX8_chain 30 = .ok (.getfield 59, 3) := by decide +kernel
theorem dX8_chain_33 : decode cX8_chain 33 = .ok (.iload_n 3, 1) := by decide +kernel
theorem dX8_chain_34 : decode cX8_chain 34 = .ok (.aload_n 0, 1) := by decide +kernel
theorem dX8_chain_35 : decode cX8_chain 35 = .ok (.getfield 25, 3) := by decide +kernel
theorem dX8_chain_38 : decode cX8_chain 38 = .ok (.iload_n 3, 1) := by decide +kernel
theorem dX8_chain_39 : decode cX8_chain 39 = .ok (.iaload, 1) := by decide +kernel
theorem dX8_chain_40 : decode cX8_chain 40 = .ok (.ifCond .ge 7, 3) := by decide +kernel
theorem dX8_chain_43 : decode cX8_chain 43 = .ok (.iconst 0, 1) := by decide +kernel
theorem dX8_chain_44 : decode cX8_chain 44 = .ok (.goto 4, 3) := by decide +kernel
theorem dX8_chain_47 : decode cX8_chain 47 = .ok (.iconst (-1), 1) := by decide +kernel
theorem dX8_chain_48 : decode cX8_chain 48 = .ok (.iastore, 1) := by decide +kernel
theorem dX8_chain_49 : decode cX8_chain 49 = .ok (.iinc 3 1, 3) := by decide +kernel
theorem dX8_chain_52 : decode cX8_chain 52 = .ok (.goto (-31), 3) := by decide +kernel
theorem dX8_chain_55 : decode cX8_chain 55 = .ok (.iconst 0, 1) := by decide +kernel
theorem dX8_chain_56 : decode cX8_chain 56 = .ok (.istore_n 3, 1) := by decide +kernel
theorem dX8_chain_57 : decode cX8_chain 57 = .ok (.iload_n 3, 1) := by decide +kernel
theorem dX8_chain_58 : decode cX8_chain 58 = .ok (.aload_n 0, 1) := by decide +kernel
theorem dX8_chain_59 : decode cX8_chain 59 = .ok (.getfield 106, 3) := by decide +kernel
theorem dX8_chain_62 : decode cX8_chain 62 = .ok (.if_icmp .gt 195, 3) := by decide +kernel
theorem dX8_chain_65 : decode cX8_chain 65 = .ok (.iconst 0, 1) := by decide +kernel
theorem dX8_chain_66 : decode cX8_chain 66 = .ok (.istore 4, 2) := by decide +kernel
theorem dX8_chain_68 : decode cX8_chain 68 = .ok (.iload 4, 2) := by decide +kernel
theorem dX8_chain_70 : decode cX8_chain 70 = .ok (.aload_n 0, 1) := by decide +kernel
theorem dX8_chain_71 : decode cX8_chain 71 = .ok (.getfield 106, 3) := by decide +kernel
theorem dX8_chain_74 : decode cX8_chain 74 = .ok (.if_icmp .ge 43, 3) := by decide +kernel
theorem dX8_chain_77 : decode cX8_chain 77 = .ok (.aload_n 0, 1) := by decide +kernel
theorem dX8_chain_78 : decode cX8_chain 78 = .ok (.getfield 59, 3) := by decide +kernel
theorem dX8_chain_81 : decode cX8_chain 81 = .ok (.iload 4, 2) := by decide +kernel
theorem dX8_chain_83 : decode cX8_chain 83 = .ok (.iaload, 1) := by decide +kernel
theorem dX8_chain_84 : decode cX8_chain 84 = .ok (.iload_n 3, 1) := by decide +kernel
theorem dX8_chain_85 : decode cX8_chain 85 = .ok (.if_icmp .ne 26, 3) := by decide +kernel
theorem dX8_chain_88 : decode cX8_chain 88 = .ok (.aload_n 0, 1) := by decide +kernel
theorem dX8_chain_89 : decode cX8_chain 89 = .ok (.getfield 22, 3) := by decide +kernel
theorem dX8_chain_92 : decode cX8_chain 92 = .ok (.iload 4, 2) := by decide +kernel
theorem dX8_chain_94 : decode cX8_chain 94 = .ok (.iaload, 1) := by decide +kernel
theorem dX8_chain_95 : decode cX8_chain 95 = .ok (.iload_n 2, 1) := by decide +kernel
theorem dX8_chain_96 : decode cX8_chain 96 = .ok (.if_icmp .ne 15, 3) := by decide +kernel
theorem dX8_chain_99 : decode cX8_chain 99 = .ok (.aload_n 0, 1) := by decide +kernel
theorem dX8_chain_100 : decode cX8_chain 100 = .ok (.iload 4, 2) := by decide +kernel
theorem dX8_chain_102 : decode cX8_chain 102 = .ok (.invokevirtual 288, 3) := by decide +kernel
theorem dX8_chain_105 : decode cX8_chain 105 = .ok (.iload_n 1, 1) := by decide +kernel
theorem dX8_chain_106 : decode cX8_chain 106 = .ok (.if_icmp .eq 5, 3) := by decide +kernel
theorem dX8_chain_109 : decode cX8_chain 109 = .ok (.iload_n 3, 1) := by decide +kernel
theorem dX8_chain_110 : decode cX8_chain 110 = .ok (.ireturn, 1) := by decide +kernel
theorem dX8_chain_111 : decode cX8_chain 111 = .ok (.iinc 4 1, 3) := by decide +kernel
theorem dX8_chain_114 : decode cX8_chain 114 = .ok (.goto (-46), 3) := by decide +kernel
theorem dX8_chain_117 : decode cX8_chain 117 = .ok (.iconst 0, 1) := by decide +kernel
theorem dX8_chain_118 : decode cX8_chain 118 = .ok (.istore 4, 2) := by decide +kernel
theorem dX8_chain_120 : decode cX8_chain 120 = .ok (.iload 4, 2) := by decide +kernel
theorem dX8_chain_122 : decode cX8_chain 122 = .ok (.aload_n 0, 1) := by decide +kernel
theorem dX8_chain_123 : decode cX8_chain 123 = .ok (.getfield 106, 3) := by decide +kernel
theorem dX8_chain_126 : decode cX8_chain 126 = .ok (.if_icmp .ge 125, 3) := by decide +kernel
theorem dX8_chain_129 : decode cX8_chain 129 = .ok (.iconst 0, 1) := by decide +kernel
theorem dX8_chain_130 : decode cX8_chain 130 = .ok (.istore 5, 2) := by decide +kernel
theorem dX8_chain_132 : decode cX8_chain 132 = .ok (.iload 5, 2) := by decide +kernel
theorem dX8_chain_134 : decode cX8_chain 134 = .ok (.aload_n 0, 1) := by decide +kernel
theorem dX8_chain_135 : decode cX8_chain 135 = .ok (.getfield 106, 3) := by decide +kernel
theorem dX8_chain_138 : decode cX8_chain 138 = .ok (.if_icmp .ge 107, 3) := by decide +kernel
theorem dX8_chain_141 : decode cX8_chain 141 = .ok (.aload_n 0, 1) := by decide +kernel
theorem dX8_chain_142 : decode cX8_chain 142 = .ok (.getfield 59, 3) := by decide +kernel
theorem dX8_chain_145 : decode cX8_chain 145 = .ok (.iload 4, 2) := by decide +kernel
theorem dX8_chain_147 : decode cX8_chain 147 = .ok (.iaload, 1) := by decide +kernel
theorem dX8_chain_148 : decode cX8_chain 148 = .ok (.iload_n 3, 1) := by decide +kernel
theorem dX8_chain_149 : decode cX8_chain 149 = .ok (.if_icmp .ne 96, 3) := by decide +kernel
theorem dX8_chain_152 : decode cX8_chain 152 = .ok (.aload_n 0, 1) := by decide +kernel
theorem dX8_chain_153 : decode cX8_chain 153 = .ok (.getfield 59, 3) := by decide +kernel
theorem dX8_chain_156 : decode cX8_chain 156 = .ok (.iload 5, 2) := by decide +kernel
theorem dX8_chain_158 : decode cX8_chain 158 = .ok (.iaload, 1) := by decide +kernel
theorem dX8_chain_159 : decode cX8_chain 159 = .ok (.ifCond .ge 52, 3) := by decide +kernel
theorem dX8_chain_162 : decode cX8_chain 162 = .ok (.aload_n 0, 1) := by decide +kernel
theorem dX8_chain_163 : decode cX8_chain 163 = .ok (.getfield 25, 3) := by decide +kernel
theorem dX8_chain_166 : decode cX8_chain 166 = .ok (.iload 5, 2) := by decide +kernel
theorem dX8_chain_168 : decode cX8_chain 168 = .ok (.iaload, 1) := by decide +kernel
theorem dX8_chain_169 : decode cX8_chain 169 = .ok (.iload_n 1, 1) := by decide +kernel
theorem dX8_chain_170 : decode cX8_chain 170 = .ok (.if_icmp .eq 41, 3) := by decide +kernel
theorem dX8_chain_173 : decode cX8_chain 173 = .ok (.aload_n 0, 1) := by decide +kernel
theorem dX8_chain_174 : decode cX8_chain 174 = .ok (.getfield 25, 3) := by decide +kernel
theorem dX8_chain_177 : decode cX8_chain 177 = .ok (.iload 5, 2) := by decide +kernel
theorem dX8_chain_179 : decode cX8_chain 179 = .ok (.iaload, 1) := by decide +kernel
theorem dX8_chain_180 : decode cX8_chain 180 = .ok (.aload_n 0, 1) := by decide +kernel
theorem dX8_chain_181 : decode cX8_chain 181 = .ok (.iload 4, 2) := by decide +kernel
theorem dX8_chain_183 : decode cX8_chain 183 = .ok (.invokevirtual 288, 3) := by decide +kernel
theorem dX8_chain_186 : decode cX8_chain 186 = .ok (.if_icmp .eq 25, 3) := by decide +kernel
theorem dX8_chain_189 : decode cX8_chain 189 = .ok (.aload_n 0, 1) := by decide +kernel
theorem dX8_chain_190 : decode cX8_chain 190 = .ok (.aload_n 0, 1) := by decide +kernel
theorem dX8_chain_191 : decode cX8_chain 191 = .ok (.getfield 25, 3) := by decide +kernel
theorem dX8_chain_194 : decode cX8_chain 194 = .ok (.iload 5, 2) := by decide +kernel
theorem dX8_chain_196 : decode cX8_chain 196 = .ok (.iaload, 1) := by decide +kernel
theorem dX8_chain_197 : decode cX8_chain 197 = .ok (.iload 4, 2) := by decide +kernel
theorem dX8_chain_199 : decode cX8_chain 199 = .ok (.iload 5, 2) := by decide +kernel
theorem dX8_chain_201 : decode cX8_chain 201 = .ok (.invokevirtual 291, 3) := by decide +kernel
theorem dX8_chain_204 : decode cX8_chain 204 = .ok (.ifCond .le 7, 3) := by decide +kernel
theorem dX8_chain_207 : decode cX8_chain 207 = .ok (.iconst 1, 1) := by decide +kernel
theorem dX8_chain_208 : decode cX8_chain 208 = .ok (.goto 4, 3) := by decide +kernel
theorem dX8_chain_211 : decode cX8_chain 211 = .ok (.iconst 0, 1) := by decide +kernel
theorem dX8_chain_212 : decode cX8_chain 212 = .ok (.istore 6, 2) := by decide +kernel
theorem dX8_chain_214 : decode cX8_chain 214 = .ok (.aload_n 0, 1) := by decide +kernel
theorem dX8_chain_215 : decode cX8_chain 215 = .ok (.getfield 59, 3) := by decide +kernel
theorem dX8_chain_218 : decode cX8_chain 218 = .ok (.iload 5, 2) := by decide +kernel
theorem dX8_chain_220 : decode cX8_chain 220 = .ok (.iload 6, 2) := by decide +kernel
theorem dX8_chain_222 : decode cX8_chain 222 = .ok (.ifCond .eq 9, 3) := by decide +kernel
theorem dX8_chain_225 : decode cX8_chain 225 = .ok (.iload_n 3, 1) := by decide +kernel
theorem dX8_chain_226 : decode cX8_chain 226 = .ok (.iconst 1, 1) := by decide +kernel
theorem dX8_chain_227 : decode cX8_chain 227 = .ok (.iadd, 1) := by decide +kernel
theorem dX8_chain_228 : decode cX8_chain 228 = .ok (.goto 10, 3) := by decide +kernel
theorem dX8_chain_231 : decode cX8_chain 231 = .ok (.aload_n 0, 1) := by decide +kernel
theorem dX8_chain_232 : decode cX8_chain 232 = .ok (.getfield 59, 3) := by decide +kernel
theorem dX8_chain_235 : decode cX8_chain 235 = .ok (.iload 5, 2) := by decide +kernel
theorem dX8_chain_237 : decode cX8_chain 237 = .ok (.iaload, 1) := by decide +kernel
theorem dX8_chain_238 : decode cX8_chain 238 = .ok (.iastore, 1) := by decide +kernel
theorem dX8_chain_239 : decode cX8_chain 239 = .ok (.iinc 5 1, 3) := by decide +kernel
theorem dX8_chain_242 : decode cX8_chain 242 = .ok (.goto (-110), 3) := by decide +kernel
theorem dX8_chain_245 : decode cX8_chain 245 = .ok (.iinc 4 1, 3) := by decide +kernel
theorem dX8_chain_248 : decode cX8_chain 248 = .ok (.goto (-128), 3) := by decide +kernel
theorem dX8_chain_251 : decode cX8_chain 251 = .ok (.iinc 3 1, 3) := by decide +kernel
theorem dX8_chain_254 : decode cX8_chain 254 = .ok (.goto (-197), 3) := by decide +kernel
theorem dX8_chain_257 : decode cX8_chain 257 = .ok (.iconst (-1), 1) := by decide +kernel
theorem dX8_chain_258 : decode cX8_chain 258 = .ok (.ireturn, 1) := by decide +kernel
theorem dX8_areRings_0 : decode cX8_areRings 0 = .ok (.iload_n 1, 1) := by decide +kernel
theorem dX8_areRings_1 : decode cX8_areRings 1 = .ok (.istore_n 2, 1) := by decide +kernel
theorem dX8_areRings_2 : decode cX8_areRings 2 = .ok (.iconst 0, 1) := by decide +kernel
theorem dX8_areRings_3 : decode cX8_areRings 3 = .ok (.istore_n 3, 1) := by decide +kernel
theorem dX8_areRings_4 : decode cX8_areRings 4 = .ok (.iconst 0, 1) := by decide +kernel
theorem dX8_areRings_5 : decode cX8_areRings 5 = .ok (.istore 4, 2) := by decide +kernel
theorem dX8_areRings_7 : decode cX8_areRings 7 = .ok (.iconst 1, 1) := by decide +kernel
theorem dX8_areRings_8 : decode cX8_areRings 8 = .ok (.istore 5, 2) := by decide +kernel
theorem dX8_areRings_10 : decode cX8_areRings 10 = .ok (.aload_n 0, 1) := by decide +kernel
theorem dX8_areRings_11 : decode cX8_areRings 11 = .ok (.getfield 99, 3) := by decide +kernel
theorem dX8_areRings_14 : decode cX8_areRings 14 = .ok (.iconst 1, 1) := by decide +kernel
theorem dX8_areRings_15 : decode cX8_areRings 15 = .ok (.isub, 1) := by decide +kernel
theorem dX8_areRings_16 : decode cX8_areRings 16 = .ok (.istore 6, 2) := by decide +kernel
theorem dX8_areRings_18 : decode cX8_areRings 18 = .ok (.iload 6, 2) := by decide +kernel
theorem dX8_areRings_20 : decode cX8_areRings 20 = .ok (.ifCond .lt 132, 3) := by decide +kernel
theorem dX8_areRings_23 : decode cX8_areRings 23 = .ok (.aload_n 0, 1) := by decide +kernel
theorem dX8_areRings_24 : decode cX8_areRings 24 = .ok (.getfield 62, 3) := by decide +kernel
theorem dX8_areRings_27 : decode cX8_areRings 27 = .ok (.iload 6, 2) := by decide +kernel
theorem dX8_areRings_29 : decode cX8_areRings 29 = .ok (.iload_n 2, 1) := by decide +kernel
theorem dX8_areRings_30 : decode cX8_areRings 30 = .ok (.aload_n 0, 1) := by decide +kernel
theorem dX8_areRings_31 : decode cX8_areRings 31 = .ok (.getfield 99, 3) := by decide +kernel
theorem dX8_areRings_34 : decode cX8_areRings 34 = .ok (.iconst 1, 1) := by decide +kernel
theorem dX8_areRings_35 : decode cX8_areRings 35 = .ok (.iadd, 1) := by decide +kernel
theorem dX8_areRings_36 : decode cX8_areRings 36 = .ok (.irem, 1) := by decide +kernel
theorem dX8_areRings_37 : decode cX8_areRings 37 = .ok (.iconst 1, 1) := by decide +kernel
theorem dX8_areRings_38 : decode cX8_areRings 38 = .ok (.isub, 1) := by decide +kernel
theorem dX8_areRings_39 : decode cX8_areRings 39 = .ok (.iastore, 1) := by decide +kernel
theorem dX8_areRings_40 : decode cX8_areRings 40 = .ok (.iload_n 2, 1) := by decide +kernel
theorem dX8_areRings_41 : decode cX8_areRings 41 = .ok (.aload_n 0, 1) := by decide +kernel
theorem dX8_areRings_42 : decode cX8_areRings 42 = .ok (.getfield 99, 3) := by decide +kernel
theorem dX8_areRings_45 : decode cX8_areRings 45 = .ok (.iconst 1, 1) := by decide +kernel
theorem dX8_areRings_46 : decode cX8_areRings 46 = .ok (.iadd, 1) := by decide +kernel
theorem dX8_areRings_47 : decode cX8_areRings 47 = .ok (.idiv, 1) := by decide +kernel
theorem dX8_areRings_48 : decode cX8_areRings 48 = .ok (.istore_n 2, 1) := by decide +kernel
theorem dX8_areRings_49 : decode cX8_areRings 49 = .ok (.iload 5, 2) := by decide +kernel
theorem dX8_areRings_51 : decode cX8_areRings 51 = .ok (.ifCond .eq 43, 3) := by decide +kernel
theorem dX8_areRings_54 : decode cX8_areRings 54 = .ok (.aload_n 0, 1) := by decide +kernel
theorem dX8_areRings_55 : decode cX8_areRings 55 = .ok (.getfield 62, 3) := by decide +kernel
theorem dX8_areRings_58 : decode cX8_areRings 58 = .ok (.iload 6, 2) := by decide +kernel
theorem dX8_areRings_60 : decode cX8_areRings 60 = .ok (.iaload, 1) := by decide +kernel
theorem dX8_areRings_61 : decode cX8_areRings 61 = .ok (.iload 6, 2) := by decide +kernel
theorem dX8_areRings_63 : decode cX8_areRings 63 = .ok (.if_icmp .eq 31, 3) := by decide +kernel
theorem dX8_areRings_66 : decode cX8_areRings 66 = .ok (.aload_n 0, 1) := by decide +kernel
theorem dX8_areRings_67 : decode cX8_areRings 67 = .ok (.getfield 62, 3) := by decide +kernel
theorem dX8_areRings_70 : decode cX8_areRings 70 = .ok (.iload 6, 2) := by decide +kernel
theorem dX8_areRings_72 : decode cX8_areRings 72 = .ok (.iaload, 1) := by decide +kernel
theorem dX8_areRings_73 : decode cX8_areRings 73 = .ok (.ifCond .lt 17, 3) := by decide +kernel
theorem dX8_areRings_76 : decode cX8_areRings 76 = .ok (.iload_n 3, 1) := by decide +kernel
theorem dX8_areRings_77 : decode cX8_areRings 77 = .ok (.aload_n 0, 1) := by decide +kernel
theorem dX8_areRings_78 : decode cX8_areRings 78 = .ok (.getfield 62, 3) := by decide +kernel
theorem dX8_areRings_81 : decode cX8_areRings 81 = .ok (.iload 6, 2) := by decide +kernel
theorem dX8_areRings_83 : decode cX8_areRings 83 = .ok (.iaload, 1) := by decide +kernel
theorem dX8_areRings_84 : decode cX8_areRings 84 = .ok (.invokestatic 201, 3) := by decide +kernel
theorem dX8_areRings_87 : decode cX8_areRings 87 = .ok (.ifCond .ne 7, 3) := by decide +kernel
theorem dX8_areRings_90 : decode cX8_areRings 90 = .ok (.iconst 1, 1) := by decide +kernel
theorem dX8_areRings_91 : decode cX8_areRings 91 = .ok (.goto 4, 3) := by decide +kernel
theorem dX8_areRings_94 : decode cX8_areRings 94 = .ok (.iconst 0, 1) := by decide +kernel
theorem dX8_areRings_95 : decode cX8_areRings 95 = .ok (.istore 5, 2) := by decide +kernel
theorem dX8_areRings_97 : decode cX8_areRings 97 = .ok (.iload_n 3, 1) := by decide +kernel
theorem dX8_areRings_98 : decode cX8_areRings 98 = .ok (.aload_n 0, 1) := by decide +kernel
theorem dX8_areRings_99 : decode cX8_areRings 99 = .ok (.getfield 62, 3) := by decide +kernel
theorem dX8_areRings_102 : decode cX8_areRings 102 = .ok (.iload 6, 2) := by decide +kernel
theorem dX8_areRings_104 : decode cX8_areRings 104 = .ok (.iaload, 1) := by decide +kernel
theorem dX8_areRings_105 : decode cX8_areRings 105 = .ok (.ifCond .ge 7, 3) := by decide +kernel
theorem dX8_areRings_108 : decode cX8_areRings 108 = .ok (.iconst 0, 1) := by decide +kernel
theorem dX8_areRings_109 : decode cX8_areRings 109 = .ok (.goto 12, 3) := by decide +kernel
theorem dX8_areRings_112 : decode cX8_areRings 112 = .ok (.iconst 1, 1) := by decide +kernel
theorem dX8_areRings_113 : decode cX8_areRings 113 = .ok (.aload_n 0, 1) := by decide +kernel
theorem dX8_areRings_114 : decode cX8_areRings 114 = .ok (.getfield 62, 3) := by decide +kernel
theorem dX8_areRings_117 : decode cX8_areRings 117 = .ok (.iload 6, 2) := by decide +kernel
theorem dX8_areRings_119 : decode cX8_areRings 119 = .ok (.iaload, 1) := by decide +kernel
theorem dX8_areRings_120 : decode cX8_areRings 120 = .ok (.ishl, 1) := by decide +kernel
theorem dX8_areRings_121 : decode cX8_areRings 121 = .ok (.ior, 1) := by decide +kernel
theorem dX8_areRings_122 : decode cX8_areRings 122 = .ok (.istore_n 3, 1) := by decide +kernel
theorem dX8_areRings_123 : decode cX8_areRings 123 = .ok (.iload 4, 2) := by decide +kernel
theorem dX8_areRings_125 : decode cX8_areRings 125 = .ok (.aload_n 0, 1) := by decide +kernel
theorem dX8_areRings_126 : decode cX8_areRings 126 = .ok (.getfield 62, 3) := by decide +kernel
theorem dX8_areRings_129 : decode cX8_areRings 129 = .ok (.iload 6, 2) := by decide +kernel
theorem dX8_areRings_131 : decode cX8_areRings 131 = .ok (.iaload, 1) := by decide +kernel
theorem dX8_areRings_132 : decode cX8_areRings 132 = .ok (.ifCond .ge 7, 3) := by decide +kernel
theorem dX8_areRings_135 : decode cX8_areRings 135 = .ok (.iconst 0, 1) := by decide +kernel
theorem dX8_areRings_136 : decode cX8_areRings 136 = .ok (.goto 7, 3) := by decide +kernel
theorem dX8_areRings_139 : decode cX8_areRings 139 = .ok (.iconst 1, 1) := by decide +kernel
theorem dX8_areRings_140 : decode cX8_areRings 140 = .ok (.iload 6, 2) := by decide +kernel
theorem dX8_areRings_142 : decode cX8_areRings 142 = .ok (.ishl, 1) := by decide +kernel
theorem dX8_areRings_143 : decode cX8_areRings 143 = .ok (.ior, 1) := by decide +kernel
theorem dX8_areRings_144 : decode cX8_areRings 144 = .ok (.istore 4, 2) := by decide +kernel
theorem dX8_areRings_146 : decode cX8_areRings 146 = .ok (.iinc 6 (-1), 3) := by decide +kernel
theorem dX8_areRings_149 : decode cX8_areRings 149 = .ok (.goto (-131), 3) := by decide +kernel
theorem dX8_areRings_152 : decode cX8_areRings 152 = .ok (.iload 5, 2) := by decide +kernel
theorem dX8_areRings_154 : decode cX8_areRings 154 = .ok (.ifCond .eq 13, 3) := by decide +kernel
theorem dX8_areRings_157 : decode cX8_areRings 157 = .ok (.iload_n 3, 1) := by decide +kernel
theorem dX8_areRings_158 : decode cX8_areRings 158 = .ok (.iload 4, 2) := by decide +kernel
theorem dX8_areRings_160 : decode cX8_areRings 160 = .ok (.if_icmp .ne 7, 3) := by decide +kernel
theorem dX8_areRings_163 : decode cX8_areRings 163 = .ok (.iconst 1, 1) := by decide +kernel
theorem dX8_areRings_164 : decode cX8_areRings 164 = .ok (.goto 4, 3) := by decide +kernel
theorem dX8_areRings_167 : decode cX8_areRings 167 = .ok (.iconst 0, 1) := by decide +kernel
theorem dX8_areRings_168 : decode cX8_areRings 168 = .ok (.ireturn, 1) := by decide +kernel
theorem dX8_partOf_0 : decode cX8_partOf 0 = .ok (.iconst 0, 1) := by decide +kernel
theorem dX8_partOf_1 : decode cX8_partOf 1 = .ok (.istore_n 3, 1) := by decide +kernel
theorem dX8_partOf_2 : decode cX8_partOf 2 = .ok (.iconst 0, 1) := by decide +kernel
theorem dX8_partOf_3 : decode cX8_partOf 3 = .ok (.istore 4, 2) := by decide +kernel
theorem dX8_partOf_5 : decode cX8_partOf 5 = .ok (.iload 4, 2) := by decide +kernel
theorem dX8_partOf_7 : decode cX8_partOf 7 = .ok (.aload_n 0, 1) := by decide +kernel
theorem dX8_partOf_8 : decode cX8_partOf 8 = .ok (.getfield 106, 3) := by decide +kernel
theorem dX8_partOf_11 : decode cX8_partOf 11 = .ok (.if_icmp .ge 31, 3) := by decide +kernel
theorem dX8_partOf_14 : decode cX8_partOf 14 = .ok (.aload_n 0, 1) := by decide +kernel
theorem dX8_partOf_15 : decode cX8_partOf 15 = .ok (.getfield 25, 3) := by decide +kernel
theorem dX8_partOf_18 : decode cX8_partOf 18 = .ok (.iload 4, 2) := by decide +kernel
theorem dX8_partOf_20 : decode cX8_partOf 20 = .ok (.iaload, 1) := by decide +kernel
theorem dX8_partOf_21 : decode cX8_partOf 21 = .ok (.iload_n 1, 1) := by decide +kernel
theorem dX8_partOf_22 : decode cX8_partOf 22 = .ok (.if_icmp .ne 14, 3) := by decide +kernel
theorem dX8_partOf_25 : decode cX8_partOf 25 = .ok (.iload_n 3, 1) := by decide +kernel
theorem dX8_partOf_26 : decode cX8_partOf 26 = .ok (.iload_n 2, 1) := by decide +kernel
theorem dX8_partOf_27 : decode cX8_partOf 27 = .ok (.if_icmp .ne 6, 3) := by decide +kernel
theorem dX8_partOf_30 : decode cX8_partOf 30 = .ok (.iload 4, 2) := by decide +kernel
theorem dX8_partOf_32 : decode cX8_partOf 32 = .ok (.ireturn, 1) := by decide +kernel
theorem dX8_partOf_33 : decode cX8_partOf 33 = .ok (.iinc 3 1, 3) := by decide +kernel
theorem dX8_partOf_36 : decode cX8_partOf 36 = .ok (.iinc 4 1, 3) := by decide +kernel
theorem dX8_partOf_39 : decode cX8_partOf 39 = .ok (.goto (-34), 3) := by decide +kernel
theorem dX8_partOf_42 : decode cX8_partOf 42 = .ok (.iconst (-1), 1) := by decide +kernel
theorem dX8_partOf_43 : decode cX8_partOf 43 = .ok (.ireturn, 1) := by decide +kernel
theorem dX8_areThrown_0 : decode cX8_areThrown 0 = .ok (.iload_n 1, 1) := by decide +kernel
theorem dX8_areThrown_1 : decode cX8_areThrown 1 = .ok (.istore_n 2, 1) := by decide +kernel
theorem dX8_areThrown_2 : decode cX8_areThrown 2 = .ok (.iconst 1, 1) := by decide +kernel
theorem dX8_areThrown_3 : decode cX8_areThrown 3 = .ok (.istore_n 3, 1) := by decide +kernel
theorem dX8_areThrown_4 : decode cX8_areThrown 4 = .ok (.aload_n 0, 1) := by decide +kernel
theorem dX8_areThrown_5 : decode cX8_areThrown 5 = .ok (.getfield 99, 3) := by decide +kernel
theorem dX8_areThrown_8 : decode cX8_areThrown 8 = .ok (.iconst 1, 1) := by decide +kernel
theorem dX8_areThrown_9 : decode cX8_areThrown 9 = .ok (.isub, 1) := by decide +kernel
theorem dX8_areThrown_10 : decode cX8_areThrown 10 = .ok (.istore 4, 2) := by decide +kernel
theorem dX8_areThrown_12 : decode cX8_areThrown 12 = .ok (.iload 4, 2) := by decide +kernel
theorem dX8_areThrown_14 : decode cX8_areThrown 14 = .ok (.ifCond .lt 67, 3) := by decide +kernel
theorem dX8_areThrown_17 : decode cX8_areThrown 17 = .ok (.aload_n 0, 1) := by decide +kernel
theorem dX8_areThrown_18 : decode cX8_areThrown 18 = .ok (.getfield 65, 3) := by decide +kernel
theorem dX8_areThrown_21 : decode cX8_areThrown 21 = .ok (.iload 4, 2) := by decide +kernel
theorem dX8_areThrown_23 : decode cX8_areThrown 23 = .ok (.iconst (-1), 1) := by decide +kernel
theorem dX8_areThrown_24 : decode cX8_areThrown 24 = .ok (.iastore, 1) := by decide +kernel
theorem dX8_areThrown_25 : decode cX8_areThrown 25 = .ok (.aload_n 0, 1) := by decide +kernel
theorem dX8_areThrown_26 : decode cX8_areThrown 26 = .ok (.getfield 62, 3) := by decide +kernel
theorem dX8_areThrown_29 : decode cX8_areThrown 29 = .ok (.iload 4, 2) := by decide +kernel
theorem dX8_areThrown_31 : decode cX8_areThrown 31 = .ok (.iaload, 1) := by decide +kernel
theorem dX8_areThrown_32 : decode cX8_areThrown 32 = .ok (.ifCond .lt 43, 3) := by decide +kernel
theorem dX8_areThrown_35 : decode cX8_areThrown 35 = .ok (.aload_n 0, 1) := by decide +kernel
theorem dX8_areThrown_36 : decode cX8_areThrown 36 = .ok (.getfield 65, 3) := by decide +kernel
theorem dX8_areThrown_39 : decode cX8_areThrown 39 = .ok (.iload 4, 2) := by decide +kernel
theorem dX8_areThrown_41 : decode cX8_areThrown 41 = .ok (.aload_n 0, 1) := by decide +kernel
theorem dX8_areThrown_42 : decode cX8_areThrown 42 = .ok (.iload 4, 2) := by decide +kernel
theorem dX8_areThrown_44 : decode cX8_areThrown 44 = .ok (.iload_n 2, 1) := by decide +kernel
theorem dX8_areThrown_45 : decode cX8_areThrown 45 = .ok (.iconst 4, 1) := by decide +kernel
theorem dX8_areThrown_46 : decode cX8_areThrown 46 = .ok (.irem, 1) := by decide +kernel
theorem dX8_areThrown_47 : decode cX8_areThrown 47 = .ok (.invokevirtual 295, 3) := by decide +kernel
theorem dX8_areThrown_50 : decode cX8_areThrown 50 = .ok (.iastore, 1) := by decide +kernel
theorem dX8_areThrown_51 : decode cX8_areThrown 51 = .ok (.iload_n 2, 1) := by decide +kernel
theorem dX8_areThrown_52 : decode cX8_areThrown 52 = .ok (.iconst 4, 1) := by decide +kernel
theorem dX8_areThrown_53 : decode cX8_areThrown 53 = .ok (.idiv, 1) := by decide +kernel
theorem dX8_areThrown_54 : decode cX8_areThrown 54 = .ok (.istore_n 2, 1) := by decide +kernel
theorem dX8_areThrown_55 : decode cX8_areThrown 55 = .ok (.iload_n 3, 1) := by decide +kernel
theorem dX8_areThrown_56 : decode cX8_areThrown 56 = .ok (.ifCond .eq 17, 3) := by decide +kernel
theorem dX8_areThrown_59 : decode cX8_areThrown 59 = .ok (.aload_n 0, 1) := by decide +kernel
theorem dX8_areThrown_60 : decode cX8_areThrown 60 = .ok (.getfield 65, 3) := by decide +kernel
theorem dX8_areThrown_63 : decode cX8_areThrown 63 = .ok (.iload 4, 2) := by decide +kernel
theorem dX8_areThrown_65 : decode cX8_areThrown 65 = .ok (.iaload, 1) := by decide +kernel
theorem dX8_areThrown_66 : decode cX8_areThrown 66 = .ok (.ifCond .lt 7, 3) := by decide +kernel
theorem dX8_areThrown_69 : decode cX8_areThrown 69 = .ok (.iconst 1, 1) := by decide +kernel
theorem dX8_areThrown_70 : decode cX8_areThrown 70 = .ok (.goto 4, 3) := by decide +kernel
theorem dX8_areThrown_73 : decode cX8_areThrown 73 = .ok (.iconst 0, 1) := by decide +kernel
theorem dX8_areThrown_74 : decode cX8_areThrown 74 = .ok (.istore_n 3, 1) := by decide +kernel
theorem dX8_areThrown_75 : decode cX8_areThrown 75 = .ok (.iinc 4 (-1), 3) := by decide +kernel
theorem dX8_areThrown_78 : decode cX8_areThrown 78 = .ok (.goto (-66), 3) := by decide +kernel
theorem dX8_areThrown_81 : decode cX8_areThrown 81 = .ok (.iload_n 3, 1) := by decide +kernel
theorem dX8_areThrown_82 : decode cX8_areThrown 82 = .ok (.ireturn, 1) := by decide +kernel
theorem dX8_ringsSum_0 : decode cX8_ringsSum 0 = .ok (.iconst 0, 1) := by decide +kernel
theorem dX8_ringsSum_1 : decode cX8_ringsSum 1 = .ok (.istore_n 1, 1) := by decide +kernel
theorem dX8_ringsSum_2 : decode cX8_ringsSum 2 = .ok (.iconst 0, 1) := by decide +kernel
theorem dX8_ringsSum_3 : decode cX8_ringsSum 3 = .ok (.istore_n 2, 1) := by decide +kernel
theorem dX8_ringsSum_4 : decode cX8_ringsSum 4 = .ok (.iload_n 2, 1) := by decide +kernel
theorem dX8_ringsSum_5 : decode cX8_ringsSum 5 = .ok (.aload_n 0, 1) := by decide +kernel
theorem dX8_ringsSum_6 : decode cX8_ringsSum 6 = .ok (.getfield 99, 3) := by decide +kernel
theorem dX8_ringsSum_9 : decode cX8_ringsSum 9 = .ok (.if_icmp .ge 51, 3) := by decide +kernel
theorem dX8_ringsSum_12 : decode cX8_ringsSum 12 = .ok (.aload_n 0, 1) := by decide +kernel
theorem dX8_ringsSum_13 : decode cX8_ringsSum 13 = .ok (.getfield 62, 3) := by decide +kernel
theorem dX8_ringsSum_16 : decode cX8_ringsSum 16 = .ok (.iload_n 2, 1) := by decide +kernel
theorem dX8_ringsSum_17 : decode cX8_ringsSum 17 = .ok (.iaload, 1) := by decide +kernel
theorem dX8_ringsSum_18 : decode cX8_ringsSum 18 = .ok (.ifCond .lt 36, 3) := by decide +kernel
theorem dX8_ringsSum_21 : decode cX8_ringsSum 21 = .ok (.aload_n 0, 1) := by decide +kernel
theorem dX8_ringsSum_22 : decode cX8_ringsSum 22 = .ok (.iload_n 2, 1) := by decide +kernel
theorem dX8_ringsSum_23 : decode cX8_ringsSum 23 = .ok (.aload_n 0, 1) := by decide +kernel
theorem dX8_ringsSum_24 : decode cX8_ringsSum 24 = .ok (.getfield 65, 3) := by decide +kernel
theorem dX8_ringsSum_27 : decode cX8_ringsSum 27 = .ok (.aload_n 0, 1) := by decide +kernel
theorem dX8_ringsSum_28 : decode cX8_ringsSum 28 = .ok (.getfield 62, 3) := by decide +kernel
theorem dX8_ringsSum_31 : decode cX8_ringsSum 31 = .ok (.iload_n 2, 1) := by decide +kernel
theorem dX8_ringsSum_32 : decode cX8_ringsSum 32 = .ok (.iaload, 1) := by decide +kernel
theorem dX8_ringsSum_33 : decode cX8_ringsSum 33 = .ok (.iaload, 1) := by decide +kernel
theorem dX8_ringsSum_34 : decode cX8_ringsSum 34 = .ok (.aload_n 0, 1) := by decide +kernel
theorem dX8_ringsSum_35 : decode cX8_ringsSum 35 = .ok (.getfield 65, 3) := by decide +kernel
theorem dX8_ringsSum_38 : decode cX8_ringsSum 38 = .ok (.iload_n 2, 1) := by decide +kernel
theorem dX8_ringsSum_39 : decode cX8_ringsSum 39 = .ok (.iaload, 1) := by decide +kernel
theorem dX8_ringsSum_40 : decode cX8_ringsSum 40 = .ok (.invokevirtual 291, 3) := by decide +kernel
theorem dX8_ringsSum_43 : decode cX8_ringsSum 43 = .ok (.istore_n 3, 1) := by decide +kernel
theorem dX8_ringsSum_44 : decode cX8_ringsSum 44 = .ok (.iload_n 3, 1) := by decide +kernel
theorem dX8_ringsSum_45 : decode cX8_ringsSum 45 = .ok (.ifCond .gt 5, 3) := by decide +kernel
theorem dX8_ringsSum_48 : decode cX8_ringsSum 48 = .ok (.iconst 0, 1) := by decide +kernel
theorem dX8_ringsSum_49 : decode cX8_ringsSum 49 = .ok (.ireturn, 1) := by decide +kernel
theorem dX8_ringsSum_50 : decode cX8_ringsSum 50 = .ok (.iload_n 1, 1) := by decide +kernel
theorem dX8_ringsSum_51 : decode cX8_ringsSum 51 = .ok (.iload_n 3, 1) := by decide +kernel
theorem dX8_ringsSum_52 : decode cX8_ringsSum 52 = .ok (.iadd, 1) := by decide +kernel
theorem dX8_ringsSum_53 : decode cX8_ringsSum 53 = .ok (.istore_n 1, 1) := by decide +kernel
theorem dX8_ringsSum_54 : decode cX8_ringsSum 54 = .ok (.iinc 2 1, 3) := by decide +kernel
theorem dX8_ringsSum_57 : decode cX8_ringsSum 57 = .ok (.goto (-53), 3) := by decide +kernel
theorem dX8_ringsSum_60 : decode cX8_ringsSum 60 = .ok (.iload_n 1, 1) := by decide +kernel
theorem dX8_ringsSum_61 : decode cX8_ringsSum 61 = .ok (.ireturn, 1) := by decide +kernel
theorem dX8_findRings_0 : decode cX8_findRings 0 = .ok (.iconst 0, 1) := by decide +kernel
theorem dX8_findRings_1 : decode cX8_findRings 1 = .ok (.istore_n 1, 1) := by decide +kernel
theorem dX8_findRings_2 : decode cX8_findRings 2 = .ok (.iconst 0, 1) := by decide +kernel
theorem dX8_findRings_3 : decode cX8_findRings 3 = .ok (.istore_n 2, 1) := by decide +kernel
theorem dX8_findRings_4 : decode cX8_findRings 4 = .ok (.iload_n 2, 1) := by decide +kernel
theorem dX8_findRings_5 : decode cX8_findRings 5 = .ok (.iconst 5, 1) := by decide +kernel
theorem dX8_findRings_6 : decode cX8_findRings 6 = .ok (.if_icmp .ge 23, 3) := by decide +kernel
theorem dX8_findRings_9 : decode cX8_findRings 9 = .ok (.aload_n 0, 1) := by decide +kernel
theorem dX8_findRings_10 : decode cX8_findRings 10 = .ok (.getfield 68, 3) := by decide +kernel
theorem dX8_findRings_13 : decode cX8_findRings 13 = .ok (.iload_n 2, 1) := by decide +kernel
theorem dX8_findRings_14 : decode cX8_findRings 14 = .ok (.iconst (-1), 1) := by decide +kernel
theorem dX8_findRings_15 : decode cX8_findRings 15 = .ok (.iastore, 1) := by decide +kernel
theorem dX8_findRings_16 : decode cX8_findRings 16 = .ok (.aload_n 0, 1) := by decide +kernel
theorem dX8_findRings_17 : decode cX8_findRings 17 = .ok (.getfield 71, 3) := by decide +kernel
theorem dX8_findRings_20 : decode cX8_findRings 20 = .ok (.iload_n 2, 1) := by decide +kernel
theorem dX8_findRings_21 : decode cX8_findRings 21 = .ok (.iconst (-1), 1) := by decide +kernel
theorem dX8_findRings_22 : decode cX8_findRings 22 = .ok (.iastore, 1) := by decide +kernel
theorem dX8_findRings_23 : decode cX8_findRings 23 = .ok (.iinc 2 1, 3) := by decide +kernel
theorem dX8_findRings_26 : decode cX8_findRings 26 = .ok (.goto (-22), 3) := by decide +kernel
theorem dX8_findRings_29 : decode cX8_findRings 29 = .ok (.iconst 1, 1) := by decide +kernel
theorem dX8_findRings_30 : decode cX8_findRings 30 = .ok (.istore_n 2, 1) := by decide +kernel
theorem dX8_findRings_31 : decode cX8_findRings 31 = .ok (.iconst 0, 1) := by decide +kernel
theorem dX8_findRings_32 : decode cX8_findRings 32 = .ok (.istore_n 3, 1) := by decide +kernel
theorem dX8_findRings_33 : decode cX8_findRings 33 = .ok (.iload_n 3, 1) := by decide +kernel
theorem dX8_findRings_34 : decode cX8_findRings 34 = .ok (.aload_n 0, 1) := by decide +kernel
theorem dX8_findRings_35 : decode cX8_findRings 35 = .ok (.getfield 99, 3) := by decide +kernel
theorem dX8_findRings_38 : decode cX8_findRings 38 = .ok (.if_icmp .ge 18, 3) := by decide +kernel
theorem dX8_findRings_41 : decode cX8_findRings 41 = .ok (.iload_n 2, 1) := by decide +kernel
theorem dX8_findRings_42 : decode cX8_findRings 42 = .ok (.aload_n 0, 1) := by decide +kernel
theorem dX8_findRings_43 : decode cX8_findRings 43 = .ok (.getfield 99, 3) := by decide +kernel
theorem dX8_findRings_46 : decode cX8_findRings 46 = .ok (.iconst 1, 1) := by decide +kernel
theorem dX8_findRings_47 : decode cX8_findRings 47 = .ok (.iadd, 1) := by decide +kernel
theorem dX8_findRings_48 : decode cX8_findRings 48 = .ok (.imul, 1) := by decide +kernel
theorem dX8_findRings_49 : decode cX8_findRings 49 = .ok (.istore_n 2, 1) := by decide +kernel
theorem dX8_findRings_50 : decode cX8_findRings 50 = .ok (.iinc 3 1, 3) := by decide +kernel
theorem dX8_findRings_53 : decode cX8_findRings 53 = .ok (.goto (-20), 3) := by decide +kernel
theorem dX8_findRings_56 : decode cX8_findRings 56 = .ok (.iconst 0, 1) := by decide +kernel
theorem dX8_findRings_57 : decode cX8_findRings 57 = .ok (.istore_n 3, 1) := by decide +kernel
theorem dX8_findRings_58 : decode cX8_findRings 58 = .ok (.iload_n 3, 1) := by decide +kernel
theorem dX8_findRings_59 : decode cX8_findRings 59 = .ok (.iload_n 2, 1) := by decide +kernel
theorem dX8_findRings_60 : decode cX8_findRings 60 = .ok (.if_icmp .ge 167, 3) := by decide +kernel
theorem dX8_findRings_63 : decode cX8_findRings 63 = .ok (.aload_n 0, 1) := by decide +kernel
theorem dX8_findRings_64 : decode cX8_findRings 64 = .ok (.iload_n 3, 1) := by decide +kernel
theorem dX8_findRings_65 : decode cX8_findRings 65 = .ok (.invokevirtual 298, 3) := by decide +kernel
theorem dX8_findRings_68 : decode cX8_findRings 68 = .ok (.ifCond .eq 153, 3) := by decide +kernel
theorem dX8_findRings_71 : decode cX8_findRings 71 = .ok (.iconst 1, 1) := by decide +kernel
theorem dX8_findRings_72 : decode cX8_findRings 72 = .ok (.istore 4, 2) := by decide +kernel
theorem dX8_findRings_74 : decode cX8_findRings 74 = .ok (.iconst 0, 1) := by decide +kernel
theorem dX8_findRings_75 : decode cX8_findRings 75 = .ok (.istore 5, 2) := by decide +kernel
theorem dX8_findRings_77 : decode cX8_findRings 77 = .ok (.iload 5, 2) := by decide +kernel
theorem dX8_findRings_79 : decode cX8_findRings 79 = .ok (.aload_n 0, 1) := by decide +kernel
theorem dX8_findRings_80 : decode cX8_findRings 80 = .ok (.getfield 99, 3) := by decide +kernel
theorem dX8_findRings_83 : decode cX8_findRings 83 = .ok (.if_icmp .ge 29, 3) := by decide +kernel
theorem dX8_findRings_86 : decode cX8_findRings 86 = .ok (.iload 4, 2) := by decide +kernel
theorem dX8_findRings_88 : decode cX8_findRings 88 = .ok (.aload_n 0, 1) := by decide +kernel
theorem dX8_findRings_89 : decode cX8_findRings 89 = .ok (.getfield 62, 3) := by decide +kernel
theorem dX8_findRings_92 : decode cX8_findRings 92 = .ok (.iload 5, 2) := by decide +kernel
theorem dX8_findRings_94 : decode cX8_findRings 94 = .ok (.iaload, 1) := by decide +kernel
theorem dX8_findRings_95 : decode cX8_findRings 95 = .ok (.ifCond .ge 7, 3) := by decide +kernel
theorem dX8_findRings_98 : decode cX8_findRings 98 = .ok (.iconst 1, 1) := by decide +kernel
theorem dX8_findRings_99 : decode cX8_findRings 99 = .ok (.goto 4, 3) := by decide +kernel
theorem dX8_findRings_102 : decode cX8_findRings 102 = .ok (.iconst 4, 1) := by decide +kernel
theorem dX8_findRings_103 : decode cX8_findRings 103 = .ok (.imul, 1) := by decide +kernel
theorem dX8_findRings_104 : decode cX8_findRings 104 = .ok (.istore 4, 2) := by decide +kernel
theorem dX8_findRings_106 : decode cX8_findRings 106 = .ok (.iinc 5 1, 3) := by decide +kernel
theorem dX8_findRings_109 : decode cX8_findRings 109 = .ok (.goto (-32), 3) := by decide +kernel
theorem dX8_findRings_112 : decode cX8_findRings 112 = .ok (.iconst 0, 1) := by decide +kernel
theorem dX8_findRings_113 : decode cX8_findRings 113 = .ok (.istore 5, 2) := by decide +kernel
theorem dX8_findRings_115 : decode cX8_findRings 115 = .ok (.iload 5, 2) := by decide +kernel
theorem dX8_findRings_117 : decode cX8_findRings 117 = .ok (.iload 4, 2) := by decide +kernel
theorem dX8_findRings_119 : decode cX8_findRings 119 = .ok (.if_icmp .ge 102, 3) := by decide +kernel
theorem dX8_findRings_122 : decode cX8_findRings 122 = .ok (.aload_n 0, 1) := by decide +kernel
theorem dX8_findRings_123 : decode cX8_findRings 123 = .ok (.iload 5, 2) := by decide +kernel
theorem dX8_findRings_125 : decode cX8_findRings 125 = .ok (.invokevirtual 301, 3) := by decide +kernel
theorem dX8_findRings_128 : decode cX8_findRings 128 = .ok (.ifCond .eq 10, 3) := by decide +kernel
theorem dX8_findRings_131 : decode cX8_findRings 131 = .ok (.aload_n 0, 1) := by decide +kernel
theorem dX8_findRings_132 : decode cX8_findRings 132 = .ok (.invokevirtual 304, 3) := by decide +kernel
theorem dX8_findRings_135 : decode cX8_findRings 135 = .ok (.goto 4, 3) := by decide +kernel
theorem dX8_findRings_138 : decode cX8_findRings 138 = .ok (.iconst 0, 1) := by decide +kernel
theorem dX8_findRings_139 : decode cX8_findRings 139 = .ok (.istore 6, 2) := by decide +kernel
theorem dX8_findRings_141 : decode cX8_findRings 141 = .ok (.iload 6, 2) := by decide +kernel
theorem dX8_findRings_143 : decode cX8_findRings 143 = .ok (.iload_n 1, 1) := by decide +kernel
theorem dX8_findRings_144 : decode cX8_findRings 144 = .ok (.if_icmp .le 71, 3) := by decide +kernel
theorem dX8_findRings_147 : decode cX8_findRings 147 = .ok (.iload 6, 2) := by decide +kernel
theorem dX8_findRings_149 : decode cX8_findRings 149 = .ok (.istore_n 1, 1) := by decide +kernel
theorem dX8_findRings_150 : decode cX8_findRings 150 = .ok (.iconst 0, 1) := by decide +kernel
theorem dX8_findRings_151 : decode cX8_findRings 151 = .ok (.istore 7, 2) := by decide +kernel
theorem dX8_findRings_153 : decode cX8_findRings 153 = .ok (.iload 7, 2) := by decide +kernel
theorem dX8_findRings_155 : decode cX8_findRings 155 = .ok (.aload_n 0, 1) := by decide +kernel
theorem dX8_findRings_156 : decode cX8_findRings 156 = .ok (.getfield 99, 3) := by decide +kernel
theorem dX8_findRings_159 : decode cX8_findRings 159 = .ok (.if_icmp .ge 56, 3) := by decide +kernel
theorem dX8_findRings_162 : decode cX8_findRings 162 = .ok (.aload_n 0, 1) := by decide +kernel
theorem dX8_findRings_163 : decode cX8_findRings 163 = .ok (.getfield 68, 3) := by decide +kernel
theorem dX8_findRings_166 : decode cX8_findRings 166 = .ok (.iload 7, 2) := by decide +kernel
theorem dX8_findRings_168 : decode cX8_findRings 168 = .ok (.aload_n 0, 1) := by decide +kernel
theorem dX8_findRings_169 : decode cX8_findRings 169 = .ok (.getfield 62, 3) := by decide +kernel
theorem dX8_findRings_172 : decode cX8_findRings 172 = .ok (.iload 7, 2) := by decide +kernel
theorem dX8_findRings_174 : decode cX8_findRings 174 = .ok (.iaload, 1) := by decide +kernel
theorem dX8_findRings_175 : decode cX8_findRings 175 = .ok (.ifCond .ge 7, 3) := by decide +kernel
theorem dX8_findRings_178 : decode cX8_findRings 178 = .ok (.iconst (-1), 1) := by decide +kernel
theorem dX8_findRings_179 : decode cX8_findRings 179 = .ok (.goto 15, 3) := by decide +kernel
theorem dX8_findRings_182 : decode cX8_findRings 182 = .ok (.aload_n 0, 1) := by decide +kernel
theorem dX8_findRings_183 : decode cX8_findRings 183 = .ok (.getfield 65, 3) := by decide +kernel
theorem dX8_findRings_186 : decode cX8_findRings 186 = .ok (.aload_n 0, 1) := by decide +kernel
theorem dX8_findRings_187 : decode cX8_findRings 187 = .ok (.getfield 62, 3) := by decide +kernel
theorem dX8_findRings_190 : decode cX8_findRings 190 = .ok (.iload 7, 2) := by decide +kernel
theorem dX8_findRings_192 : decode cX8_findRings 192 = .ok (.iaload, 1) := by decide +kernel
theorem dX8_findRings_193 : decode cX8_findRings 193 = .ok (.iaload, 1) := by decide +kernel
theorem dX8_findRings_194 : decode cX8_findRings 194 = .ok (.iastore, 1) := by decide +kernel
theorem dX8_findRings_195 : decode cX8_findRings 195 = .ok (.aload_n 0, 1) := by decide +kernel
theorem dX8_findRings_196 : decode cX8_findRings 196 = .ok (.getfield 71, 3) := by decide +kernel
theorem dX8_findRings_199 : decode cX8_findRings 199 = .ok (.iload 7, 2) := by decide +kernel
theorem dX8_findRings_201 : decode cX8_findRings 201 = .ok (.aload_n 0, 1) := by decide +kernel
theorem dX8_findRings_202 : decode cX8_findRings 202 = .ok (.getfield 65, 3) := by decide +kernel
theorem dX8_findRings_205 : decode cX8_findRings 205 = .ok (.iload 7, 2) := by decide +kernel
theorem dX8_findRings_207 : decode cX8_findRings 207 = .ok (.iaload, 1) := by decide +kernel
theorem dX8_findRings_208 : decode cX8_findRings 208 = .ok (.iastore, 1) := by decide +kernel
theorem dX8_findRings_209 : decode cX8_findRings 209 = .ok (.iinc 7 1, 3) := by decide +kernel
theorem dX8_findRings_212 : decode cX8_findRings 212 = .ok (.goto (-59), 3) := by decide +kernel
theorem dX8_findRings_215 : decode cX8_findRings 215 = .ok (.iinc 5 1, 3) := by decide +kernel
theorem dX8_findRings_218 : decode cX8_findRings 218 = .ok (.goto (-103), 3) := by decide +kernel
theorem dX8_findRings_221 : decode cX8_findRings 221 = .ok (.iinc 3 1, 3) := by decide +kernel
theorem dX8_findRings_224 : decode cX8_findRings 224 = .ok (.goto (-166), 3) := by decide +kernel
theorem dX8_findRings_227 : decode cX8_findRings 227 = .ok (.iload_n 1, 1) := by decide +kernel
theorem dX8_findRings_228 : decode cX8_findRings 228 = .ok (.ireturn, 1) := by decide +kernel
theorem dX8_rings_0 : decode cX8_rings 0 = .ok (.iload_n 1, 1) := by decide +kernel
theorem dX8_rings_1 : decode cX8_rings 1 = .ok (.iconst (-1), 1) := by decide +kernel
theorem dX8_rings_2 : decode cX8_rings 2 = .ok (.if_icmp .eq 14, 3) := by decide +kernel
theorem dX8_rings_5 : decode cX8_rings 5 = .ok (.aload_n 0, 1) := by decide +kernel
theorem dX8_rings_6 : decode cX8_rings 6 = .ok (.iload_n 1, 1) := by decide +kernel
theorem dX8_rings_7 : decode cX8_rings 7 = .ok (.invokevirtual 218, 3) := by decide +kernel
theorem dX8_rings_10 : decode cX8_rings 10 = .ok (.ifCond .ne 6, 3) := by decide +kernel
theorem dX8_rings_13 : decode cX8_rings 13 = .ok (.ldc 222, 2) := by decide +kernel
theorem dX8_rings_15 : decode cX8_rings 15 = .ok (.ireturn, 1) := by decide +kernel
theorem dX8_rings_16 : decode cX8_rings 16 = .ok (.iload_n 2, 1) := by decide +kernel
theorem dX8_rings_17 : decode cX8_rings 17 = .ok (.i2l, 1) := by decide +kernel
theorem dX8_rings_18 : decode cX8_rings 18 = .ok (.lconst 0, 1) := by decide +kernel
theorem dX8_rings_19 : decode cX8_rings 19 = .ok (.lconst 1, 1) := by decide +kernel
theorem dX8_rings_20 : decode cX8_rings 20 = .ok (.invokestatic 102, 3) := by decide +kernel
theorem dX8_rings_23 : decode cX8_rings 23 = .ok (.ifCond .ne 6, 3) := by decide +kernel
theorem dX8_rings_26 : decode cX8_rings 26 = .ok (.ldc 117, 2) := by decide +kernel
theorem dX8_rings_28 : decode cX8_rings 28 = .ok (.ireturn, 1) := by decide +kernel
theorem dX8_rings_29 : decode cX8_rings 29 = .ok (.aload_n 0, 1) := by decide +kernel
theorem dX8_rings_30 : decode cX8_rings 30 = .ok (.invokevirtual 307, 3) := by decide +kernel
theorem dX8_rings_33 : decode cX8_rings 33 = .ok (.istore_n 3, 1) := by decide +kernel
theorem dX8_rings_34 : decode cX8_rings 34 = .ok (.iload_n 1, 1) := by decide +kernel
theorem dX8_rings_35 : decode cX8_rings 35 = .ok (.iconst (-1), 1) := by decide +kernel
theorem dX8_rings_36 : decode cX8_rings 36 = .ok (.if_icmp .ne 7, 3) := by decide +kernel
theorem dX8_rings_39 : decode cX8_rings 39 = .ok (.iload_n 3, 1) := by decide +kernel
theorem dX8_rings_40 : decode cX8_rings 40 = .ok (.goto 22, 3) := by decide +kernel
theorem dX8_rings_43 : decode cX8_rings 43 = .ok (.iload_n 2, 1) := by decide +kernel
theorem dX8_rings_44 : decode cX8_rings 44 = .ok (.ifCond .ne 12, 3) := by decide +kernel
theorem dX8_rings_47 : decode cX8_rings 47 = .ok (.aload_n 0, 1) := by decide +kernel
theorem dX8_rings_48 : decode cX8_rings 48 = .ok (.getfield 71, 3) := by decide +kernel
theorem dX8_rings_51 : decode cX8_rings 51 = .ok (.iload_n 1, 1) := by decide +kernel
theorem dX8_rings_52 : decode cX8_rings 52 = .ok (.iaload, 1) := by decide +kernel
theorem dX8_rings_53 : decode cX8_rings 53 = .ok (.goto 9, 3) := by decide +kernel
theorem dX8_rings_56 : decode cX8_rings 56 = .ok (.aload_n 0, 1) := by decide +kernel
theorem dX8_rings_57 : decode cX8_rings 57 = .ok (.getfield 68, 3) := by decide +kernel
theorem dX8_rings_60 : decode cX8_rings 60 = .ok (.iload_n 1, 1) := by decide +kernel
theorem dX8_rings_61 : decode cX8_rings 61 = .ok (.iaload, 1) := by decide +kernel
theorem dX8_rings_62 : decode cX8_rings 62 = .ok (.ireturn, 1) := by decide +kernel
theorem dX8_oddsBy_0 : decode cX8_oddsBy 0 = .ok (.ldc2_w 310, 3) := by decide +kernel
theorem dX8_oddsBy_3 : decode cX8_oddsBy 3 = .ok (.lstore_n 2, 1) := by decide +kernel
theorem dX8_oddsBy_4 : decode cX8_oddsBy 4 = .ok (.iconst 0, 1) := by decide +kernel
theorem dX8_oddsBy_5 : decode cX8_oddsBy 5 = .ok (.istore 4, 2) := by decide +kernel
theorem dX8_oddsBy_7 : decode cX8_oddsBy 7 = .ok (.iload 4, 2) := by decide +kernel
theorem dX8_oddsBy_9 : decode cX8_oddsBy 9 = .ok (.iload_n 1, 1) := by decide +kernel
theorem dX8_oddsBy_10 : decode cX8_oddsBy 10 = .ok (.if_icmp .ge 25, 3) := by decide +kernel
theorem dX8_oddsBy_13 : decode cX8_oddsBy 13 = .ok (.lload_n 2, 1) := by decide +kernel
theorem dX8_oddsBy_14 : decode cX8_oddsBy 14 = .ok (.aload_n 0, 1) := by decide +kernel
theorem dX8_oddsBy_15 : decode cX8_oddsBy 15 = .ok (.getfield 96, 3) := by decide +kernel
theorem dX8_oddsBy_18 : decode cX8_oddsBy 18 = .ok (.iconst 1, 1) := by decide +kernel
theorem dX8_oddsBy_19 : decode cX8_oddsBy 19 = .ok (.isub, 1) := by decide +kernel
theorem dX8_oddsBy_20 : decode cX8_oddsBy 20 = .ok (.i2l, 1) := by decide +kernel
theorem dX8_oddsBy_21 : decode cX8_oddsBy 21 = .ok (.lmul, 1) := by decide +kernel
theorem dX8_oddsBy_22 : decode cX8_oddsBy 22 = .ok (.aload_n 0, 1) := by decide +kernel
theorem dX8_oddsBy_23 : decode cX8_oddsBy 23 = .ok (.getfield 96, 3) := by decide +kernel
theorem dX8_oddsBy_26 : decode cX8_oddsBy 26 = .ok (.i2l, 1) := by decide +kernel
theorem dX8_oddsBy_27 : decode cX8_oddsBy 27 = .ok (.ldiv, 1) := by decide +kernel
theorem dX8_oddsBy_28 : decode cX8_oddsBy 28 = .ok (.lstore_n 2, 1) := by decide +kernel
theorem dX8_oddsBy_29 : decode cX8_oddsBy 29 = .ok (.iinc 4 1, 3) := by decide +kernel
theorem dX8_oddsBy_32 : decode cX8_oddsBy 32 = .ok (.goto (-25), 3) := by decide +kernel
theorem dX8_oddsBy_35 : decode cX8_oddsBy 35 = .ok (.ldc2_w 310, 3) := by decide +kernel
theorem dX8_oddsBy_38 : decode cX8_oddsBy 38 = .ok (.lload_n 2, 1) := by decide +kernel
theorem dX8_oddsBy_39 : decode cX8_oddsBy 39 = .ok (.lsub, 1) := by decide +kernel
theorem dX8_oddsBy_40 : decode cX8_oddsBy 40 = .ok (.lreturn, 1) := by decide +kernel
theorem dX8_odds_0 : decode cX8_odds 0 = .ok (.aload_n 0, 1) := by decide +kernel
theorem dX8_odds_1 : decode cX8_odds 1 = .ok (.iload_n 1, 1) := by decide +kernel
theorem dX8_odds_2 : decode cX8_odds 2 = .ok (.invokevirtual 229, 3) := by decide +kernel
theorem dX8_odds_5 : decode cX8_odds 5 = .ok (.ifCond .ne 6, 3) := by decide +kernel
theorem dX8_odds_8 : decode cX8_odds 8 = .ok (.ldc 222, 2) := by decide +kernel
theorem dX8_odds_10 : decode cX8_odds 10 = .ok (.ireturn, 1) := by decide +kernel
theorem dX8_odds_11 : decode cX8_odds 11 = .ok (.iload_n 2, 1) := by decide +kernel
theorem dX8_odds_12 : decode cX8_odds 12 = .ok (.i2l, 1) := by decide +kernel
theorem dX8_odds_13 : decode cX8_odds 13 = .ok (.lconst 0, 1) := by decide +kernel
theorem dX8_odds_14 : decode cX8_odds 14 = .ok (.ldc2_w 312, 3) := by decide +kernel
theorem dX8_odds_17 : decode cX8_odds 17 = .ok (.invokestatic 102, 3) := by decide +kernel
theorem dX8_odds_20 : decode cX8_odds 20 = .ok (.ifCond .eq 12, 3) := by decide +kernel
theorem dX8_odds_23 : decode cX8_odds 23 = .ok (.aload_n 0, 1) := by decide +kernel
theorem dX8_odds_24 : decode cX8_odds 24 = .ok (.iload_n 2, 1) := by decide +kernel
theorem dX8_odds_25 : decode cX8_odds 25 = .ok (.invokevirtual 314, 3) := by decide +kernel
theorem dX8_odds_28 : decode cX8_odds 28 = .ok (.l2i, 1) := by decide +kernel
theorem dX8_odds_29 : decode cX8_odds 29 = .ok (.goto 5, 3) := by decide +kernel
theorem dX8_odds_32 : decode cX8_odds 32 = .ok (.ldc 117, 2) := by decide +kernel
theorem dX8_odds_34 : decode cX8_odds 34 = .ok (.ireturn, 1) := by decide +kernel
theorem dX8_waits_0 : decode cX8_waits 0 = .ok (.aload_n 0, 1) := by decide +kernel
theorem dX8_waits_1 : decode cX8_waits 1 = .ok (.iload_n 1, 1) := by decide +kernel
theorem dX8_waits_2 : decode cX8_waits 2 = .ok (.invokevirtual 218, 3) := by decide +kernel
theorem dX8_waits_5 : decode cX8_waits 5 = .ok (.ifCond .eq 11, 3) := by decide +kernel
theorem dX8_waits_8 : decode cX8_waits 8 = .ok (.aload_n 0, 1) := by decide +kernel
theorem dX8_waits_9 : decode cX8_waits 9 = .ok (.iload_n 2, 1) := by decide +kernel
theorem dX8_waits_10 : decode cX8_waits 10 = .ok (.invokevirtual 229, 3) := by decide +kernel
theorem dX8_waits_13 : decode cX8_waits 13 = .ok (.ifCond .ne 6, 3) := by decide +kernel
theorem dX8_waits_16 : decode cX8_waits 16 = .ok (.ldc 222, 2) := by decide +kernel
theorem dX8_waits_18 : decode cX8_waits 18 = .ok (.ireturn, 1) := by decide +kernel
theorem dX8_waits_19 : decode cX8_waits 19 = .ok (.iload_n 3, 1) := by decide +kernel
theorem dX8_waits_20 : decode cX8_waits 20 = .ok (.i2l, 1) := by decide +kernel
theorem dX8_waits_21 : decode cX8_waits 21 = .ok (.lconst 0, 1) := by decide +kernel
theorem dX8_waits_22 : decode cX8_waits 22 = .ok (.ldc2_w 261, 3) := by decide +kernel
theorem dX8_waits_25 : decode cX8_waits 25 = .ok (.invokestatic 102, 3) := by decide +kernel
theorem dX8_waits_28 : decode cX8_waits 28 = .ok (.ifCond .ne 6, 3) := by decide +kernel
theorem dX8_waits_31 : decode cX8_waits 31 = .ok (.ldc 117, 2) := by decide +kernel
theorem dX8_waits_33 : decode cX8_waits 33 = .ok (.ireturn, 1) := by decide +kernel
theorem dX8_waits_34 : decode cX8_waits 34 = .ok (.aload_n 0, 1) := by decide +kernel
theorem dX8_waits_35 : decode cX8_waits 35 = .ok (.iload_n 1, 1) := by decide +kernel
theorem dX8_waits_36 : decode cX8_waits 36 = .ok (.invokevirtual 255, 3) := by decide +kernel
theorem dX8_waits_39 : decode cX8_waits 39 = .ok (.istore 4, 2) := by decide +kernel
theorem dX8_waits_41 : decode cX8_waits 41 = .ok (.iload 4, 2) := by decide +kernel
theorem dX8_waits_43 : decode cX8_waits 43 = .ok (.ifCond .ge 7, 3) := by decide +kernel
theorem dX8_waits_46 : decode cX8_waits 46 = .ok (.lconst 0, 1) := by decide +kernel
theorem dX8_waits_47 : decode cX8_waits 47 = .ok (.goto 11, 3) := by decide +kernel
theorem dX8_waits_50 : decode cX8_waits 50 = .ok (.aload_n 0, 1) := by decide +kernel
theorem dX8_waits_51 : decode cX8_waits 51 = .ok (.iload_n 1, 1) := by decide +kernel
theorem dX8_waits_52 : decode cX8_waits 52 = .ok (.iload 4, 2) := by decide +kernel
theorem dX8_waits_54 : decode cX8_waits 54 = .ok (.invokevirtual 249, 3) := by decide +kernel
theorem dX8_waits_57 : decode cX8_waits 57 = .ok (.i2l, 1) := by decide +kernel
theorem dX8_waits_58 : decode cX8_waits 58 = .ok (.lstore 5, 2) := by decide +kernel
theorem dX8_waits_60 : decode cX8_waits 60 = .ok (.aload_n 0, 1) := by decide +kernel
theorem dX8_waits_61 : decode cX8_waits 61 = .ok (.iload_n 1, 1) := by decide +kernel
theorem dX8_waits_62 : decode cX8_waits 62 = .ok (.invokevirtual 205, 3) := by decide +kernel
theorem dX8_waits_65 : decode cX8_waits 65 = .ok (.iload_n 2, 1) := by decide +kernel
theorem dX8_waits_66 : decode cX8_waits 66 = .ok (.invokestatic 201, 3) := by decide +kernel
theorem dX8_waits_69 : decode cX8_waits 69 = .ok (.ifCond .eq 7, 3) := by decide +kernel
theorem dX8_waits_72 : decode cX8_waits 72 = .ok (.lconst 0, 1) := by decide +kernel
theorem dX8_waits_73 : decode cX8_waits 73 = .ok (.goto 15, 3) := by decide +kernel
theorem dX8_waits_76 : decode cX8_waits 76 = .ok (.aload_n 0, 1) := by decide +kernel
theorem dX8_waits_77 : decode cX8_waits 77 = .ok (.getfield 13, 3) := by decide +kernel
theorem dX8_waits_80 : decode cX8_waits 80 = .ok (.bipush 6, 2) := by decide +kernel
theorem dX8_waits_82 : decode cX8_waits 82 = .ok (.iload_n 1, 1) := by decide +kernel
theorem dX8_waits_83 : decode cX8_waits 83 = .ok (.imul, 1) := by decide +kernel
theorem dX8_waits_84 : decode cX8_waits 84 = .ok (.iload_n 2, 1) := by decide +kernel
theorem dX8_waits_85 : decode cX8_waits 85 = .ok (.iadd, 1) := by decide +kernel
theorem dX8_waits_86 : decode cX8_waits 86 = .ok (.iaload, 1) := by decide +kernel
theorem dX8_waits_87 : decode cX8_waits 87 = .ok (.i2l, 1) := by decide +kernel
theorem dX8_waits_88 : decode cX8_waits 88 = .ok (.lstore 7, 2) := by decide +kernel
theorem dX8_waits_90 : decode cX8_waits 90 = .ok (.iconst (-1), 1) := by decide +kernel
theorem dX8_waits_91 : decode cX8_waits 91 = .ok (.istore 9, 2) := by decide +kernel
theorem dX8_waits_93 : decode cX8_waits 93 = .ok (.iconst 0, 1) := by decide +kernel
theorem dX8_waits_94 : decode cX8_waits 94 = .ok (.istore 10, 2) := by decide +kernel
theorem dX8_waits_96 : decode cX8_waits 96 = .ok (.iload 10, 2) := by decide +kernel
theorem dX8_waits_98 : decode cX8_waits 98 = .ok (.bipush 60, 2) := by decide +kernel
theorem dX8_waits_100 : decode cX8_waits 100 = .ok (.if_icmp .gt 65, 3) := by decide +kernel
theorem dX8_waits_103 : decode cX8_waits 103 = .ok (.lload 7, 2) := by decide +kernel
theorem dX8_waits_105 : decode cX8_waits 105 = .ok (.aload_n 0, 1) := by decide +kernel
theorem dX8_waits_106 : decode cX8_waits 106 = .ok (.iload 10, 2) := by decide +kernel
theorem dX8_waits_108 : decode cX8_waits 108 = .ok (.invokevirtual 314, 3) := by decide +kernel
theorem dX8_waits_111 : decode cX8_waits 111 = .ok (.lmul, 1) := by decide +kernel
theorem dX8_waits_112 : decode cX8_waits 112 = .ok (.ldc2_w 310, 3) := by decide +kernel
theorem dX8_waits_115 : decode cX8_waits 115 = .ok (.ldiv, 1) := by decide +kernel
theorem dX8_waits_116 : decode cX8_waits 116 = .ok (.iload 10, 2) := by decide +kernel
theorem dX8_waits_118 : decode cX8_waits 118 = .ok (.i2l, 1) := by decide +kernel
theorem dX8_waits_119 : decode cX8_waits 119 = .ok (.iload_n 3, 1) := by decide +kernel
theorem dX8_waits_120 : decode cX8_waits 120 = .ok (.i2l, 1) := by decide +kernel
theorem dX8_waits_121 : decode cX8_waits 121 = .ok (.lmul, 1) := by decide +kernel
theorem dX8_waits_122 : decode cX8_waits 122 = .ok (.lsub, 1) := by decide +kernel
theorem dX8_waits_123 : decode cX8_waits 123 = .ok (.lstore 11, 2) := by decide +kernel
theorem dX8_waits_125 : decode cX8_waits 125 = .ok (.lload 11, 2) := by decide +kernel
theorem dX8_waits_127 : decode cX8_waits 127 = .ok (.lload 5, 2) := by decide +kernel
theorem dX8_waits_129 : decode cX8_waits 129 = .ok (.lcmp, 1) := by decide +kernel
theorem dX8_waits_130 : decode cX8_waits 130 = .ok (.ifCond .le 8, 3) := by decide +kernel
theorem dX8_waits_133 : decode cX8_waits 133 = .ok (.iload 10, 2) := by decide +kernel
theorem dX8_waits_135 : decode cX8_waits 135 = .ok (.goto 5, 3) := by decide +kernel
theorem dX8_waits_138 : decode cX8_waits 138 = .ok (.iload 9, 2) := by decide +kernel
theorem dX8_waits_140 : decode cX8_waits 140 = .ok (.istore 9, 2) := by decide +kernel
theorem dX8_waits_142 : decode cX8_waits 142 = .ok (.lload 11, 2) := by decide +kernel
theorem dX8_waits_144 : decode cX8_waits 144 = .ok (.lload 5, 2) := by decide +kernel
theorem dX8_waits_146 : decode cX8_waits 146 = .ok (.lcmp, 1) := by decide +kernel
theorem dX8_waits_147 : decode cX8_waits 147 = .ok (.ifCond .le 8, 3) := by decide +kernel
theorem dX8_waits_150 : decode cX8_waits 150 = .ok (.lload 11, 2) := by decide +kernel
theorem dX8_waits_152 : decode cX8_waits 152 = .ok (.goto 5, 3) := by decide +kernel
theorem dX8_waits_155 : decode cX8_waits 155 = .ok (.lload 5, 2) := by decide +kernel
theorem dX8_waits_157 : decode cX8_waits 157 = .ok (.lstore 5, 2) := by decide +kernel
theorem dX8_waits_159 : decode cX8_waits 159 = .ok (.iinc 10 1, 3) := by decide +kernel
theorem dX8_waits_162 : decode cX8_waits 162 = .ok (.goto (-66), 3) := by decide +kernel
theorem dX8_waits_165 : decode cX8_waits 165 = .ok (.iload 9, 2) := by decide +kernel
theorem dX8_waits_167 : decode cX8_waits 167 = .ok (.ireturn, 1) := by decide +kernel
theorem dX8_power_0 : decode cX8_power 0 = .ok (.iconst 1, 1) := by decide +kernel
theorem dX8_power_1 : decode cX8_power 1 = .ok (.istore_n 1, 1) := by decide +kernel
theorem dX8_power_2 : decode cX8_power 2 = .ok (.iconst 0, 1) := by decide +kernel
theorem dX8_power_3 : decode cX8_power 3 = .ok (.istore_n 2, 1) := by decide +kernel
theorem dX8_power_4 : decode cX8_power 4 = .ok (.iload_n 2, 1) := by decide +kernel
theorem dX8_power_5 : decode cX8_power 5 = .ok (.iload_n 0, 1) := by decide +kernel
theorem dX8_power_6 : decode cX8_power 6 = .ok (.if_icmp .ge 14, 3) := by decide +kernel
theorem dX8_power_9 : decode cX8_power 9 = .ok (.iload_n 1, 1) := by decide +kernel
theorem dX8_power_10 : decode cX8_power 10 = .ok (.bipush 9, 2) := by decide +kernel
theorem dX8_power_12 : decode cX8_power 12 = .ok (.imul, 1) := by decide +kernel
theorem dX8_power_13 : decode cX8_power 13 = .ok (.istore_n 1, 1) := by decide +kernel
theorem dX8_power_14 : decode cX8_power 14 = .ok (.iinc 2 1, 3) := by decide +kernel
theorem dX8_power_17 : decode cX8_power 17 = .ok (.goto (-13), 3) := by decide +kernel
theorem dX8_power_20 : decode cX8_power 20 = .ok (.iload_n 1, 1) := by decide +kernel
theorem dX8_power_21 : decode cX8_power 21 = .ok (.ireturn, 1) := by decide +kernel
theorem dX8_findLie_0 : decode cX8_findLie 0 = .ok (.aload_n 0, 1) := by decide +kernel
theorem dX8_findLie_1 : decode cX8_findLie 1 = .ok (.iconst 0, 1) := by decide +kernel
theorem dX8_findLie_2 : decode cX8_findLie 2 = .ok (.putfield 318, 3) := by decide +kernel
theorem dX8_findLie_5 : decode cX8_findLie 5 = .ok (.iconst 0, 1) := by decide +kernel
theorem dX8_findLie_6 : decode cX8_findLie 6 = .ok (.istore_n 2, 1) := by decide +kernel
theorem dX8_findLie_7 : decode cX8_findLie 7 = .ok (.iload_n 2, 1) := by decide +kernel
theorem dX8_findLie_8 : decode cX8_findLie 8 = .ok (.aload_n 0, 1) := by decide +kernel
theorem dX8_findLie_9 : decode cX8_findLie 9 = .ok (.getfield 106, 3) := by decide +kernel
theorem dX8_findLie_12 : decode cX8_findLie 12 = .ok (.if_icmp .ge 57, 3) := by decide +kernel
theorem dX8_findLie_15 : decode cX8_findLie 15 = .ok (.aload_n 0, 1) := by decide +kernel
theorem dX8_findLie_16 : decode cX8_findLie 16 = .ok (.getfield 318, 3) := by decide +kernel
theorem dX8_findLie_19 : decode cX8_findLie 19 = .ok (.bipush 8, 2) := by decide +kernel
theorem dX8_findLie_21 : decode cX8_findLie 21 = .ok (.if_icmp .ge 48, 3) := by decide +kernel
theorem dX8_findLie_24 : decode cX8_findLie 24 = .ok (.aload_n 0, 1) := by decide +kernel
theorem dX8_findLie_25 : decode cX8_findLie 25 = .ok (.getfield 25, 3) := by decide +kernel
theorem dX8_findLie_28 : decode cX8_findLie 28 = .ok (.iload_n 2, 1) := by decide +kernel
theorem dX8_findLie_29 : decode cX8_findLie 29 = .ok (.iaload, 1) := by decide +kernel
theorem dX8_findLie_30 : decode cX8_findLie 30 = .ok (.ifCond .ge 33, 3) := by decide +kernel
theorem dX8_findLie_33 : decode cX8_findLie 33 = .ok (.aload_n 0, 1) := by decide +kernel
theorem dX8_findLie_34 : decode cX8_findLie 34 = .ok (.getfield 28, 3) := by decide +kernel
theorem dX8_findLie_37 : decode cX8_findLie 37 = .ok (.iload_n 2, 1) := by decide +kernel
theorem dX8_findLie_38 : decode cX8_findLie 38 = .ok (.iaload, 1) := by decide +kernel
theorem dX8_findLie_39 : decode cX8_findLie 39 = .ok (.iload_n 1, 1) := by decide +kernel
theorem dX8_findLie_40 : decode cX8_findLie 40 = .ok (.if_icmp .ne 23, 3) := by decide +kernel
theorem dX8_findLie_43 : decode cX8_findLie 43 = .ok (.aload_n 0, 1) := by decide +kernel
theorem dX8_findLie_44 : decode cX8_findLie 44 = .ok (.getfield 74, 3) := by decide +kernel
theorem dX8_findLie_47 : decode cX8_findLie 47 = .ok (.aload_n 0, 1) := by decide +kernel
theorem dX8_findLie_48 : decode cX8_findLie 48 = .ok (.getfield 318, 3) := by decide +kernel
theorem dX8_findLie_51 : decode cX8_findLie 51 = .ok (.iload_n 2, 1) := by decide +kernel
theorem dX8_findLie_52 : decode cX8_findLie 52 = .ok (.iastore, 1) := by decide +kernel
theorem dX8_findLie_53 : decode cX8_findLie 53 = .ok (.aload_n 0, 1) := by decide +kernel
theorem dX8_findLie_54 : decode cX8_findLie 54 = .ok (.dup, 1) := by decide +kernel
theorem dX8_findLie_55 : decode cX8_findLie 55 = .ok (.getfield 318, 3) := by decide +kernel
theorem dX8_findLie_58 : decode cX8_findLie 58 = .ok (.iconst 1, 1) := by decide +kernel
theorem dX8_findLie_59 : decode cX8_findLie 59 = .ok (.iadd, 1) := by decide +kernel
theorem dX8_findLie_60 : decode cX8_findLie 60 = .ok (.putfield 318, 3) := by decide +kernel
theorem dX8_findLie_63 : decode cX8_findLie 63 = .ok (.iinc 2 1, 3) := by decide +kernel
theorem dX8_findLie_66 : decode cX8_findLie 66 = .ok (.goto (-59), 3) := by decide +kernel
theorem dX8_findLie_69 : decode cX8_findLie 69 = .ok (.return_, 1) := by decide +kernel
theorem dX8_mayBe_0 : decode cX8_mayBe 0 = .ok (.iload_n 1, 1) := by decide +kernel
theorem dX8_mayBe_1 : decode cX8_mayBe 1 = .ok (.iload_n 2, 1) := by decide +kernel
theorem dX8_mayBe_2 : decode cX8_mayBe 2 = .ok (.iconst 1, 1) := by decide +kernel
theorem dX8_mayBe_3 : decode cX8_mayBe 3 = .ok (.isub, 1) := by decide +kernel
theorem dX8_mayBe_4 : decode cX8_mayBe 4 = .ok (.invokestatic 321, 3) := by decide +kernel
theorem dX8_mayBe_7 : decode cX8_mayBe 7 = .ok (.idiv, 1) := by decide +kernel
theorem dX8_mayBe_8 : decode cX8_mayBe 8 = .ok (.bipush 9, 2) := by decide +kernel
theorem dX8_mayBe_10 : decode cX8_mayBe 10 = .ok (.irem, 1) := by decide +kernel
theorem dX8_mayBe_11 : decode cX8_mayBe 11 = .ok (.istore 4, 2) := by decide +kernel
theorem dX8_mayBe_13 : decode cX8_mayBe 13 = .ok (.iload 4, 2) := by decide +kernel
theorem dX8_mayBe_15 : decode cX8_mayBe 15 = .ok (.ifCond .ne 5, 3) := by decide +kernel
theorem dX8_mayBe_18 : decode cX8_mayBe 18 = .ok (.iconst 1, 1) := by decide +kernel
theorem dX8_mayBe_19 : decode cX8_mayBe 19 = .ok (.ireturn, 1) := by decide +kernel
theorem dX8_mayBe_20 : decode cX8_mayBe 20 = .ok (.iload_n 3, 1) := by decide +kernel
theorem dX8_mayBe_21 : decode cX8_mayBe 21 = .ok (.istore 5, 2) := by decide +kernel
theorem dX8_mayBe_23 : decode cX8_mayBe 23 = .ok (.iload 4, 2) := by decide +kernel
theorem dX8_mayBe_25 : decode cX8_mayBe 25 = .ok (.aload_n 0, 1) := by decide +kernel
theorem dX8_mayBe_26 : decode cX8_mayBe 26 = .ok (.getfield 318, 3) := by decide +kernel
theorem dX8_mayBe_29 : decode cX8_mayBe 29 = .ok (.if_icmp .gt 7, 3) := by decide +kernel
theorem dX8_mayBe_32 : decode cX8_mayBe 32 = .ok (.iconst 1, 1) := by decide +kernel
theorem dX8_mayBe_33 : decode cX8_mayBe 33 = .ok (.goto 4, 3) := by decide +kernel
theorem dX8_mayBe_36 : decode cX8_mayBe 36 = .ok (.iconst 0, 1) := by decide +kernel
theorem dX8_mayBe_37 : decode cX8_mayBe 37 = .ok (.istore 6, 2) := by decide +kernel
theorem dX8_mayBe_39 : decode cX8_mayBe 39 = .ok (.iconst 0, 1) := by decide +kernel
theorem dX8_mayBe_40 : decode cX8_mayBe 40 = .ok (.istore 7, 2) := by decide +kernel
theorem dX8_mayBe_42 : decode cX8_mayBe 42 = .ok (.iload 7, 2) := by decide +kernel
theorem dX8_mayBe_44 : decode cX8_mayBe 44 = .ok (.iload_n 2, 1) := by decide +kernel
theorem dX8_mayBe_45 : decode cX8_mayBe 45 = .ok (.iconst 1, 1) := by decide +kernel
theorem dX8_mayBe_46 : decode cX8_mayBe 46 = .ok (.isub, 1) := by decide +kernel
theorem dX8_mayBe_47 : decode cX8_mayBe 47 = .ok (.if_icmp .ge 67, 3) := by decide +kernel
theorem dX8_mayBe_50 : decode cX8_mayBe 50 = .ok (.iload_n 1, 1) := by decide +kernel
theorem dX8_mayBe_51 : decode cX8_mayBe 51 = .ok (.iload 7, 2) := by decide +kernel
theorem dX8_mayBe_53 : decode cX8_mayBe 53 = .ok (.invokestatic 321, 3) := by decide +kernel
theorem dX8_mayBe_56 : decode cX8_mayBe 56 = .ok (.idiv, 1) := by decide +kernel
theorem dX8_mayBe_57 : decode cX8_mayBe 57 = .ok (.bipush 9, 2) := by decide +kernel
theorem dX8_mayBe_59 : decode cX8_mayBe 59 = .ok (.irem, 1) := by decide +kernel
theorem dX8_mayBe_60 : decode cX8_mayBe 60 = .ok (.istore 8, 2) := by decide +kernel
theorem dX8_mayBe_62 : decode cX8_mayBe 62 = .ok (.iload 6, 2) := by decide +kernel
theorem dX8_mayBe_64 : decode cX8_mayBe 64 = .ok (.ifCond .eq 14, 3) := by decide +kernel
theorem dX8_mayBe_67 : decode cX8_mayBe 67 = .ok (.iload 8, 2) := by decide +kernel
theorem dX8_mayBe_69 : decode cX8_mayBe 69 = .ok (.iload 4, 2) := by decide +kernel
theorem dX8_mayBe_71 : decode cX8_mayBe 71 = .ok (.if_icmp .eq 7, 3) := by decide +kernel
theorem dX8_mayBe_74 : decode cX8_mayBe 74 = .ok (.iconst 1, 1) := by decide +kernel
theorem dX8_mayBe_75 : decode cX8_mayBe 75 = .ok (.goto 4, 3) := by decide +kernel
theorem dX8_mayBe_78 : decode cX8_mayBe 78 = .ok (.iconst 0, 1) := by decide +kernel
theorem dX8_mayBe_79 : decode cX8_mayBe 79 = .ok (.istore 6, 2) := by decide +kernel
theorem dX8_mayBe_81 : decode cX8_mayBe 81 = .ok (.iload 5, 2) := by decide +kernel
theorem dX8_mayBe_83 : decode cX8_mayBe 83 = .ok (.iload 7, 2) := by decide +kernel
theorem dX8_mayBe_85 : decode cX8_mayBe 85 = .ok (.iconst 2, 1) := by decide +kernel
theorem dX8_mayBe_86 : decode cX8_mayBe 86 = .ok (.irem, 1) := by decide +kernel
theorem dX8_mayBe_87 : decode cX8_mayBe 87 = .ok (.iload_n 2, 1) := by decide +kernel
theorem dX8_mayBe_88 : decode cX8_mayBe 88 = .ok (.iconst 1, 1) := by decide +kernel
theorem dX8_mayBe_89 : decode cX8_mayBe 89 = .ok (.isub, 1) := by decide +kernel
theorem dX8_mayBe_90 : decode cX8_mayBe 90 = .ok (.iconst 2, 1) := by decide +kernel
theorem dX8_mayBe_91 : decode cX8_mayBe 91 = .ok (.irem, 1) := by decide +kernel
theorem dX8_mayBe_92 : decode cX8_mayBe 92 = .ok (.if_icmp .ne 12, 3) := by decide +kernel
theorem dX8_mayBe_95 : decode cX8_mayBe 95 = .ok (.iload 8, 2) := by decide +kernel
theorem dX8_mayBe_97 : decode cX8_mayBe 97 = .ok (.ifCond .le 7, 3) := by decide +kernel
theorem dX8_mayBe_100 : decode cX8_mayBe 100 = .ok (.iconst 1, 1) := by decide +kernel
theorem dX8_mayBe_101 : decode cX8_mayBe 101 = .ok (.goto 4, 3) := by decide +kernel
theorem dX8_mayBe_104 : decode cX8_mayBe 104 = .ok (.iconst 0, 1) := by decide +kernel
theorem dX8_mayBe_105 : decode cX8_mayBe 105 = .ok (.iadd, 1) := by decide +kernel
theorem dX8_mayBe_106 : decode cX8_mayBe 106 = .ok (.istore 5, 2) := by decide +kernel
theorem dX8_mayBe_108 : decode cX8_mayBe 108 = .ok (.iinc 7 1, 3) := by decide +kernel
theorem dX8_mayBe_111 : decode cX8_mayBe 111 = .ok (.goto (-69), 3) := by decide +kernel
theorem dX8_mayBe_114 : decode cX8_mayBe 114 = .ok (.iload 6, 2) := by decide +kernel
theorem dX8_mayBe_116 : decode cX8_mayBe 116 = .ok (.ifCond .eq 13, 3) := by decide +kernel
theorem dX8_mayBe_119 : decode cX8_mayBe 119 = .ok (.iload 5, 2) := by decide +kernel
theorem dX8_mayBe_121 : decode cX8_mayBe 121 = .ok (.iconst 4, 1) := by decide +kernel
theorem dX8_mayBe_122 : decode cX8_mayBe 122 = .ok (.if_icmp .ge 7, 3) := by decide +kernel
theorem dX8_mayBe_125 : decode cX8_mayBe 125 = .ok (.iconst 1, 1) := by decide +kernel
theorem dX8_mayBe_126 : decode cX8_mayBe 126 = .ok (.goto 4, 3) := by decide +kernel
theorem dX8_mayBe_129 : decode cX8_mayBe 129 = .ok (.iconst 0, 1) := by decide +kernel
theorem dX8_mayBe_130 : decode cX8_mayBe 130 = .ok (.ireturn, 1) := by decide +kernel
theorem dX8_endOf_0 : decode cX8_endOf 0 = .ok (.aload_n 0, 1) := by decide +kernel
theorem dX8_endOf_1 : decode cX8_endOf 1 = .ok (.iload_n 1, 1) := by decide +kernel
theorem dX8_endOf_2 : decode cX8_endOf 2 = .ok (.invokevirtual 205, 3) := by decide +kernel
theorem dX8_endOf_5 : decode cX8_endOf 5 = .ok (.istore 5, 2) := by decide +kernel
theorem dX8_endOf_7 : decode cX8_endOf 7 = .ok (.aload_n 0, 1) := by decide +kernel
theorem dX8_endOf_8 : decode cX8_endOf 8 = .ok (.iload_n 2, 1) := by decide +kernel
theorem dX8_endOf_9 : decode cX8_endOf 9 = .ok (.invokevirtual 205, 3) := by decide +kernel
theorem dX8_endOf_12 : decode cX8_endOf 12 = .ok (.istore 6, 2) := by decide +kernel
theorem dX8_endOf_14 : decode cX8_endOf 14 = .ok (.iconst 0, 1) := by decide +kernel
theorem dX8_endOf_15 : decode cX8_endOf 15 = .ok (.istore 7, 2) := by decide +kernel
theorem dX8_endOf_17 : decode cX8_endOf 17 = .ok (.iload 7, 2) := by decide +kernel
theorem dX8_endOf_19 : decode cX8_endOf 19 = .ok (.iload_n 3, 1) := by decide +kernel
theorem dX8_endOf_20 : decode cX8_endOf 20 = .ok (.if_icmp .ge 94, 3) := by decide +kernel
theorem dX8_endOf_23 : decode cX8_endOf 23 = .ok (.iload 4, 2) := by decide +kernel
theorem dX8_endOf_25 : decode cX8_endOf 25 = .ok (.iload 7, 2) := by decide +kernel
theorem dX8_endOf_27 : decode cX8_endOf 27 = .ok (.invokestatic 321, 3) := by decide +kernel
theorem dX8_endOf_30 : decode cX8_endOf 30 = .ok (.idiv, 1) := by decide +kernel
theorem dX8_endOf_31 : decode cX8_endOf 31 = .ok (.bipush 9, 2) := by decide +kernel
theorem dX8_endOf_33 : decode cX8_endOf 33 = .ok (.irem, 1) := by decide +kernel
theorem dX8_endOf_34 : decode cX8_endOf 34 = .ok (.istore 8, 2) := by decide +kernel
theorem dX8_endOf_36 : decode cX8_endOf 36 = .ok (.iload 8, 2) := by decide +kernel
theorem dX8_endOf_38 : decode cX8_endOf 38 = .ok (.ifCond .eq 12, 3) := by decide +kernel
theorem dX8_endOf_41 : decode cX8_endOf 41 = .ok (.iload 8, 2) := by decide +kernel
theorem dX8_endOf_43 : decode cX8_endOf 43 = .ok (.aload_n 0, 1) := by decide +kernel
theorem dX8_endOf_44 : decode cX8_endOf 44 = .ok (.getfield 318, 3) := by decide +kernel
theorem dX8_endOf_47 : decode cX8_endOf 47 = .ok (.if_icmp .le 7, 3) := by decide +kernel
theorem dX8_endOf_50 : decode cX8_endOf 50 = .ok (.iconst 0, 1) := by decide +kernel
theorem dX8_endOf_51 : decode cX8_endOf 51 = .ok (.goto 19, 3) := by decide +kernel
theorem dX8_endOf_54 : decode cX8_endOf 54 = .ok (.iconst 1, 1) := by decide +kernel
theorem dX8_endOf_55 : decode cX8_endOf 55 = .ok (.aload_n 0, 1) := by decide +kernel
theorem dX8_endOf_56 : decode cX8_endOf 56 = .ok (.getfield 22, 3) := by decide +kernel
theorem dX8_endOf_59 : decode cX8_endOf 59 = .ok (.aload_n 0, 1) := by decide +kernel
theorem dX8_endOf_60 : decode cX8_endOf 60 = .ok (.getfield 74, 3) := by decide +kernel
theorem dX8_endOf_63 : decode cX8_endOf 63 = .ok (.iload 8, 2) := by decide +kernel
theorem dX8_endOf_65 : decode cX8_endOf 65 = .ok (.iconst 1, 1) := by decide +kernel
theorem dX8_endOf_66 : decode cX8_endOf 66 = .ok (.isub, 1) := by decide +kernel
theorem dX8_endOf_67 : decode cX8_endOf 67 = .ok (.iaload, 1) := by decide +kernel
theorem dX8_endOf_68 : decode cX8_endOf 68 = .ok (.iaload, 1) := by decide +kernel
theorem dX8_endOf_69 : decode cX8_endOf 69 = .ok (.ishl, 1) := by decide +kernel
theorem dX8_endOf_70 : decode cX8_endOf 70 = .ok (.istore 9, 2) := by decide +kernel
theorem dX8_endOf_72 : decode cX8_endOf 72 = .ok (.iload 5, 2) := by decide +kernel
theorem dX8_endOf_74 : decode cX8_endOf 74 = .ok (.iload 7, 2) := by decide +kernel
theorem dX8_endOf_76 : decode cX8_endOf 76 = .ok (.iconst 2, 1) := by decide +kernel
theorem dX8_endOf_77 : decode cX8_endOf 77 = .ok (.irem, 1) := by decide +kernel
theorem dX8_endOf_78 : decode cX8_endOf 78 = .ok (.ifCond .ne 8, 3) := by decide +kernel
theorem dX8_endOf_81 : decode cX8_endOf 81 = .ok (.iload 9, 2) := by decide +kernel
theorem dX8_endOf_83 : decode cX8_endOf 83 = .ok (.goto 4, 3) := by decide +kernel
theorem dX8_endOf_86 : decode cX8_endOf 86 = .ok (.iconst 0, 1) := by decide +kernel
theorem dX8_endOf_87 : decode cX8_endOf 87 = .ok (.ior, 1) := by decide +kernel
theorem dX8_endOf_88 : decode cX8_endOf 88 = .ok (.istore 5, 2) := by decide +kernel
theorem dX8_endOf_90 : decode cX8_endOf 90 = .ok (.iload 6, 2) := by decide +kernel
theorem dX8_endOf_92 : decode cX8_endOf 92 = .ok (.iload 7, 2) := by decide +kernel
theorem dX8_endOf_94 : decode cX8_endOf 94 = .ok (.iconst 2, 1) := by decide +kernel
theorem dX8_endOf_95 : decode cX8_endOf 95 = .ok (.irem, 1) := by decide +kernel
theorem dX8_endOf_96 : decode cX8_endOf 96 = .ok (.ifCond .ne 7, 3) := by decide +kernel
theorem dX8_endOf_99 : decode cX8_endOf 99 = .ok (.iconst 0, 1) := by decide +kernel
theorem dX8_endOf_100 : decode cX8_endOf 100 = .ok (.goto 5, 3) := by decide +kernel
theorem dX8_endOf_103 : decode cX8_endOf 103 = .ok (.iload 9, 2) := by decide +kernel
theorem dX8_endOf_105 : decode cX8_endOf 105 = .ok (.ior, 1) := by decide +kernel
theorem dX8_endOf_106 : decode cX8_endOf 106 = .ok (.istore 6, 2) := by decide +kernel
theorem dX8_endOf_108 : decode cX8_endOf 108 = .ok (.iinc 7 1, 3) := by decide +kernel
theorem dX8_endOf_111 : decode cX8_endOf 111 = .ok (.goto (-94), 3) := by decide +kernel
theorem dX8_endOf_114 : decode cX8_endOf 114 = .ok (.aload_n 0, 1) := by decide +kernel
theorem dX8_endOf_115 : decode cX8_endOf 115 = .ok (.iload_n 1, 1) := by decide +kernel
theorem dX8_endOf_116 : decode cX8_endOf 116 = .ok (.iload 5, 2) := by decide +kernel
theorem dX8_endOf_118 : decode cX8_endOf 118 = .ok (.invokevirtual 209, 3) := by decide +kernel
theorem dX8_endOf_121 : decode cX8_endOf 121 = .ok (.aload_n 0, 1) := by decide +kernel
theorem dX8_endOf_122 : decode cX8_endOf 122 = .ok (.iload_n 2, 1) := by decide +kernel
theorem dX8_endOf_123 : decode cX8_endOf 123 = .ok (.iload 6, 2) := by decide +kernel
theorem dX8_endOf_125 : decode cX8_endOf 125 = .ok (.invokevirtual 209, 3) := by decide +kernel
theorem dX8_endOf_128 : decode cX8_endOf 128 = .ok (.isub, 1) := by decide +kernel
theorem dX8_endOf_129 : decode cX8_endOf 129 = .ok (.ireturn, 1) := by decide +kernel
theorem dX8_turnsAt_0 : decode cX8_turnsAt 0 = .ok (.aload_n 0, 1) := by decide +kernel
theorem dX8_turnsAt_1 : decode cX8_turnsAt 1 = .ok (.iload_n 1, 1) := by decide +kernel
theorem dX8_turnsAt_2 : decode cX8_turnsAt 2 = .ok (.invokevirtual 218, 3) := by decide +kernel
theorem dX8_turnsAt_5 : decode cX8_turnsAt 5 = .ok (.ifCond .eq 39, 3) := by decide +kernel
theorem dX8_turnsAt_8 : decode cX8_turnsAt 8 = .ok (.aload_n 0, 1) := by decide +kernel
theorem dX8_turnsAt_9 : decode cX8_turnsAt 9 = .ok (.iload_n 2, 1) := by decide +kernel
theorem dX8_turnsAt_10 : decode cX8_turnsAt 10 = .ok (.invokevirtual 218, 3) := by decide +kernel
theorem dX8_turnsAt_13 : decode cX8_turnsAt 13 = .ok (.ifCond .eq 31, 3) := by decide +kernel
theorem dX8_turnsAt_16 : decode cX8_turnsAt 16 = .ok (.iload_n 1, 1) := by decide +kernel
theorem dX8_turnsAt_17 : decode cX8_turnsAt 17 = .ok (.iload_n 2, 1) := by decide +kernel
theorem dX8_turnsAt_18 : decode cX8_turnsAt 18 = .ok (.if_icmp .eq 26, 3) := by decide +kernel
theorem dX8_turnsAt_21 : decode cX8_turnsAt 21 = .ok (.iload_n 3, 1) := by decide +kernel
theorem dX8_turnsAt_22 : decode cX8_turnsAt 22 = .ok (.iconst (-1), 1) := by decide +kernel
theorem dX8_turnsAt_23 : decode cX8_turnsAt 23 = .ok (.if_icmp .eq 24, 3) := by decide +kernel
theorem dX8_turnsAt_26 : decode cX8_turnsAt 26 = .ok (.aload_n 0, 1) := by decide +kernel
theorem dX8_turnsAt_27 : decode cX8_turnsAt 27 = .ok (.iload_n 3, 1) := by decide +kernel
theorem dX8_turnsAt_28 : decode cX8_turnsAt 28 = .ok (.invokevirtual 218, 3) := by decide +kernel
theorem dX8_turnsAt_31 : decode cX8_turnsAt 31 = .ok (.ifCond .eq 13, 3) := by decide +kernel
theorem dX8_turnsAt_34 : decode cX8_turnsAt 34 = .ok (.iload_n 3, 1) := by decide +kernel
theorem dX8_turnsAt_35 : decode cX8_turnsAt 35 = .ok (.iload_n 1, 1) := by decide +kernel
theorem dX8_turnsAt_36 : decode cX8_turnsAt 36 = .ok (.if_icmp .eq 8, 3) := by decide +kernel
theorem dX8_turnsAt_39 : decode cX8_turnsAt 39 = .ok (.iload_n 3, 1) := by decide +kernel
theorem dX8_turnsAt_40 : decode cX8_turnsAt 40 = .ok (.iload_n 2, 1) := by decide +kernel
theorem dX8_turnsAt_41 : decode cX8_turnsAt 41 = .ok (.if_icmp .ne 6, 3) := by decide +kernel
theorem dX8_turnsAt_44 : decode cX8_turnsAt 44 = .ok (.ldc 222, 2) := by decide +kernel
theorem dX8_turnsAt_46 : decode cX8_turnsAt 46 = .ok (.ireturn, 1) := by decide +kernel
theorem dX8_turnsAt_47 : decode cX8_turnsAt 47 = .ok (.iload 4, 2) := by decide +kernel
theorem dX8_turnsAt_49 : decode cX8_turnsAt 49 = .ok (.i2l, 1) := by decide +kernel
theorem dX8_turnsAt_50 : decode cX8_turnsAt 50 = .ok (.lconst 0, 1) := by decide +kernel
theorem dX8_turnsAt_51 : decode cX8_turnsAt 51 = .ok (.ldc2_w 324, 3) := by decide +kernel
theorem dX8_turnsAt_54 : decode cX8_turnsAt 54 = .ok (.invokestatic 102, 3) := by decide +kernel
theorem dX8_turnsAt_57 : decode cX8_turnsAt 57 = .ok (.ifCond .eq 14, 3) := by decide +kernel
theorem dX8_turnsAt_60 : decode cX8_turnsAt 60 = .ok (.iload 5, 2) := by decide +kernel
theorem dX8_turnsAt_62 : decode cX8_turnsAt 62 = .ok (.i2l, 1) := by decide +kernel
theorem dX8_turnsAt_63 : decode cX8_turnsAt 63 = .ok (.lconst 0, 1) := by decide +kernel
theorem dX8_turnsAt_64 : decode cX8_turnsAt 64 = .ok (.lconst 1, 1) := by decide +kernel
theorem dX8_turnsAt_65 : decode cX8_turnsAt 65 = .ok (.invokestatic 102, 3) := by decide +kernel
theorem dX8_turnsAt_68 : decode cX8_turnsAt 68 = .ok (.ifCond .ne 6, 3) := by decide +kernel
theorem dX8_turnsAt_71 : decode cX8_turnsAt 71 = .ok (.ldc 117, 2) := by decide +kernel
theorem dX8_turnsAt_73 : decode cX8_turnsAt 73 = .ok (.ireturn, 1) := by decide +kernel
theorem dX8_turnsAt_74 : decode cX8_turnsAt 74 = .ok (.aload_n 0, 1) := by decide +kernel
theorem dX8_turnsAt_75 : decode cX8_turnsAt 75 = .ok (.iload_n 3, 1) := by decide +kernel
theorem dX8_turnsAt_76 : decode cX8_turnsAt 76 = .ok (.invokevirtual 326, 3) := by decide +kernel
theorem dX8_turnsAt_79 : decode cX8_turnsAt 79 = .ok (.iconst 0, 1) := by decide +kernel
theorem dX8_turnsAt_80 : decode cX8_turnsAt 80 = .ok (.istore 6, 2) := by decide +kernel
theorem dX8_turnsAt_82 : decode cX8_turnsAt 82 = .ok (.iload 6, 2) := by decide +kernel
theorem dX8_turnsAt_84 : decode cX8_turnsAt 84 = .ok (.iload 4, 2) := by decide +kernel
theorem dX8_turnsAt_86 : decode cX8_turnsAt 86 = .ok (.invokestatic 321, 3) := by decide +kernel
theorem dX8_turnsAt_89 : decode cX8_turnsAt 89 = .ok (.if_icmp .ge 26, 3) := by decide +kernel
theorem dX8_turnsAt_92 : decode cX8_turnsAt 92 = .ok (.aload_n 0, 1) := by decide +kernel
theorem dX8_turnsAt_93 : decode cX8_turnsAt 93 = .ok (.getfield 77, 3) := by decide +kernel
theorem dX8_turnsAt_96 : decode cX8_turnsAt 96 = .ok (.iload 6, 2) := by decide +kernel
theorem dX8_turnsAt_98 : decode cX8_turnsAt 98 = .ok (.aload_n 0, 1) := by decide +kernel
theorem dX8_turnsAt_99 : decode cX8_turnsAt 99 = .ok (.iload_n 1, 1) := by decide +kernel
theorem dX8_turnsAt_100 : decode cX8_turnsAt 100 = .ok (.iload_n 2, 1) := by decide +kernel
theorem dX8_turnsAt_101 : decode cX8_turnsAt 101 = .ok (.iload 4, 2) := by decide +kernel
theorem dX8_turnsAt_103 : decode cX8_turnsAt 103 = .ok (.iload 6, 2) := by decide +kernel
theorem dX8_turnsAt_105 : decode cX8_turnsAt 105 = .ok (.invokevirtual 329, 3) := by decide +kernel
theorem dX8_turnsAt_108 : decode cX8_turnsAt 108 = .ok (.iastore, 1) := by decide +kernel
theorem dX8_turnsAt_109 : decode cX8_turnsAt 109 = .ok (.iinc 6 1, 3) := by decide +kernel
theorem dX8_turnsAt_112 : decode cX8_turnsAt 112 = .ok (.goto (-30), 3) := by decide +kernel
theorem dX8_turnsAt_115 : decode cX8_turnsAt 115 = .ok (.iconst 0, 1) := by decide +kernel
theorem dX8_turnsAt_116 : decode cX8_turnsAt 116 = .ok (.istore 6, 2) := by decide +kernel
theorem dX8_turnsAt_118 : decode cX8_turnsAt 118 = .ok (.iload 4, 2) := by decide +kernel
theorem dX8_turnsAt_120 : decode cX8_turnsAt 120 = .ok (.istore 7, 2) := by decide +kernel
theorem dX8_turnsAt_122 : decode cX8_turnsAt 122 = .ok (.iload 7, 2) := by decide +kernel
theorem dX8_turnsAt_124 : decode cX8_turnsAt 124 = .ok (.ifCond .le 189, 3) := by decide +kernel
theorem dX8_turnsAt_127 : decode cX8_turnsAt 127 = .ok (.aload_n 0, 1) := by decide +kernel
theorem dX8_turnsAt_128 : decode cX8_turnsAt 128 = .ok (.iload 7, 2) := by decide +kernel
theorem dX8_turnsAt_130 : decode cX8_turnsAt 130 = .ok (.iconst 2, 1) := by decide +kernel
theorem dX8_turnsAt_131 : decode cX8_turnsAt 131 = .ok (.irem, 1) := by decide +kernel
theorem dX8_turnsAt_132 : decode cX8_turnsAt 132 = .ok (.iconst 1, 1) := by decide +kernel
theorem dX8_turnsAt_133 : decode cX8_turnsAt 133 = .ok (.if_icmp .ne 7, 3) := by decide +kernel
theorem dX8_turnsAt_136 : decode cX8_turnsAt 136 = .ok (.iload_n 1, 1) := by decide +kernel
theorem dX8_turnsAt_137 : decode cX8_turnsAt 137 = .ok (.goto 4, 3) := by decide +kernel
theorem dX8_turnsAt_140 : decode cX8_turnsAt 140 = .ok (.iload_n 2, 1) := by decide +kernel
theorem dX8_turnsAt_141 : decode cX8_turnsAt 141 = .ok (.invokevirtual 212, 3) := by decide +kernel
theorem dX8_turnsAt_144 : decode cX8_turnsAt 144 = .ok (.istore 8, 2) := by decide +kernel
theorem dX8_turnsAt_146 : decode cX8_turnsAt 146 = .ok (.iconst 0, 1) := by decide +kernel
theorem dX8_turnsAt_147 : decode cX8_turnsAt 147 = .ok (.istore 9, 2) := by decide +kernel
theorem dX8_turnsAt_149 : decode cX8_turnsAt 149 = .ok (.iload 9, 2) := by decide +kernel
theorem dX8_turnsAt_151 : decode cX8_turnsAt 151 = .ok (.iload 7, 2) := by decide +kernel
theorem dX8_turnsAt_153 : decode cX8_turnsAt 153 = .ok (.iconst 1, 1) := by decide +kernel
theorem dX8_turnsAt_154 : decode cX8_turnsAt 154 = .ok (.isub, 1) := by decide +kernel
theorem dX8_turnsAt_155 : decode cX8_turnsAt 155 = .ok (.invokestatic 321, 3) := by decide +kernel
theorem dX8_turnsAt_158 : decode cX8_turnsAt 158 = .ok (.if_icmp .ge 149, 3) := by decide +kernel
theorem dX8_turnsAt_161 : decode cX8_turnsAt 161 = .ok (.aload_n 0, 1) := by decide +kernel
theorem dX8_turnsAt_162 : decode cX8_turnsAt 162 = .ok (.getfield 77, 3) := by decide +kernel
theorem dX8_turnsAt_165 : decode cX8_turnsAt 165 = .ok (.iload 9, 2) := by decide +kernel
theorem dX8_turnsAt_167 : decode cX8_turnsAt 167 = .ok (.iaload, 1) := by decide +kernel
theorem dX8_turnsAt_168 : decode cX8_turnsAt 168 = .ok (.istore 10, 2) := by decide +kernel
theorem dX8_turnsAt_170 : decode cX8_turnsAt 170 = .ok (.iconst 0, 1) := by decide +kernel
theorem dX8_turnsAt_171 : decode cX8_turnsAt 171 = .ok (.istore 6, 2) := by decide +kernel
theorem dX8_turnsAt_173 : decode cX8_turnsAt 173 = .ok (.iconst 1, 1) := by decide +kernel
theorem dX8_turnsAt_174 : decode cX8_turnsAt 174 = .ok (.istore 11, 2) := by decide +kernel
theorem dX8_turnsAt_176 : decode cX8_turnsAt 176 = .ok (.iload 11, 2) := by decide +kernel
theorem dX8_turnsAt_178 : decode cX8_turnsAt 178 = .ok (.bipush 9, 2) := by decide +kernel
theorem dX8_turnsAt_180 : decode cX8_turnsAt 180 = .ok (.if_icmp .ge 112, 3) := by decide +kernel
theorem dX8_turnsAt_183 : decode cX8_turnsAt 183 = .ok (.iload 9, 2) := by decide +kernel
theorem dX8_turnsAt_185 : decode cX8_turnsAt 185 = .ok (.iload 11, 2) := by decide +kernel
theorem dX8_turnsAt_187 : decode cX8_turnsAt 187 = .ok (.iload 7, 2) := by decide +kernel
theorem dX8_turnsAt_189 : decode cX8_turnsAt 189 = .ok (.iconst 1, 1) := by decide +kernel
theorem dX8_turnsAt_190 : decode cX8_turnsAt 190 = .ok (.isub, 1) := by decide +kernel
theorem dX8_turnsAt_191 : decode cX8_turnsAt 191 = .ok (.invokestatic 321, 3) := by decide +kernel
theorem dX8_turnsAt_194 : decode cX8_turnsAt 194 = .ok (.imul, 1) := by decide +kernel
theorem dX8_turnsAt_195 : decode cX8_turnsAt 195 = .ok (.iadd, 1) := by decide +kernel
theorem dX8_turnsAt_196 : decode cX8_turnsAt 196 = .ok (.istore 12, 2) := by decide +kernel
theorem dX8_turnsAt_198 : decode cX8_turnsAt 198 = .ok (.aload_n 0, 1) := by decide +kernel
theorem dX8_turnsAt_199 : decode cX8_turnsAt 199 = .ok (.iload 12, 2) := by decide +kernel
theorem dX8_turnsAt_201 : decode cX8_turnsAt 201 = .ok (.iload 7, 2) := by decide +kernel
theorem dX8_turnsAt_203 : decode cX8_turnsAt 203 = .ok (.iload 8, 2) := by decide +kernel
theorem dX8_turnsAt_205 : decode cX8_turnsAt 205 = .ok (.invokevirtual 333, 3) := by decide +kernel
theorem dX8_turnsAt_208 : decode cX8_turnsAt 208 = .ok (.ifCond .eq 42, 3) := by decide +kernel
theorem dX8_turnsAt_211 : decode cX8_turnsAt 211 = .ok (.iload 7, 2) := by decide +kernel
theorem dX8_turnsAt_213 : decode cX8_turnsAt 213 = .ok (.iconst 2, 1) := by decide +kernel
theorem dX8_turnsAt_214 : decode cX8_turnsAt 214 = .ok (.irem, 1) := by decide +kernel
theorem dX8_turnsAt_215 : decode cX8_turnsAt 215 = .ok (.iconst 1, 1) := by decide +kernel
theorem dX8_turnsAt_216 : decode cX8_turnsAt 216 = .ok (.if_icmp .ne 18, 3) := by decide +kernel
theorem dX8_turnsAt_219 : decode cX8_turnsAt 219 = .ok (.aload_n 0, 1) := by decide +kernel
theorem dX8_turnsAt_220 : decode cX8_turnsAt 220 = .ok (.getfield 77, 3) := by decide +kernel
theorem dX8_turnsAt_223 : decode cX8_turnsAt 223 = .ok (.iload 12, 2) := by decide +kernel
theorem dX8_turnsAt_225 : decode cX8_turnsAt 225 = .ok (.iaload, 1) := by decide +kernel
theorem dX8_turnsAt_226 : decode cX8_turnsAt 226 = .ok (.iload 10, 2) := by decide +kernel
theorem dX8_turnsAt_228 : decode cX8_turnsAt 228 = .ok (.if_icmp .le 22, 3) := by decide +kernel
theorem dX8_turnsAt_231 : decode cX8_turnsAt 231 = .ok (.goto 15, 3) := by decide +kernel
theorem dX8_turnsAt_234 : decode cX8_turnsAt 234 = .ok (.aload_n 0, 1) := by decide +kernel
theorem dX8_turnsAt_235 : decode cX8_turnsAt 235 = .ok (.getfield 77, 3) := by decide +kernel
theorem dX8_turnsAt_238 : decode cX8_turnsAt 238 = .ok (.iload 12, 2) := by decide +kernel
theorem dX8_turnsAt_240 : decode cX8_turnsAt 240 = .ok (.iaload, 1) := by decide +kernel
theorem dX8_turnsAt_241 : decode cX8_turnsAt 241 = .ok (.iload 10, 2) := by decide +kernel
theorem dX8_turnsAt_243 : decode cX8_turnsAt 243 = .ok (.if_icmp .ge 7, 3) := by decide +kernel
theorem dX8_turnsAt_246 : decode cX8_turnsAt 246 = .ok (.iconst 1, 1) := by decide +kernel
theorem dX8_turnsAt_247 : decode cX8_turnsAt 247 = .ok (.goto 4, 3) := by decide +kernel
theorem dX8_turnsAt_250 : decode cX8_turnsAt 250 = .ok (.iconst 0, 1) := by decide +kernel
theorem dX8_turnsAt_251 : decode cX8_turnsAt 251 = .ok (.istore 13, 2) := by decide +kernel
theorem dX8_turnsAt_253 : decode cX8_turnsAt 253 = .ok (.iload 13, 2) := by decide +kernel
theorem dX8_turnsAt_255 : decode cX8_turnsAt 255 = .ok (.ifCond .eq 13, 3) := by decide +kernel
theorem dX8_turnsAt_258 : decode cX8_turnsAt 258 = .ok (.aload_n 0, 1) := by decide +kernel
theorem dX8_turnsAt_259 : decode cX8_turnsAt 259 = .ok (.getfield 77, 3) := by decide +kernel
theorem dX8_turnsAt_262 : decode cX8_turnsAt 262 = .ok (.iload 12, 2) := by decide +kernel
theorem dX8_turnsAt_264 : decode cX8_turnsAt 264 = .ok (.iaload, 1) := by decide +kernel
theorem dX8_turnsAt_265 : decode cX8_turnsAt 265 = .ok (.goto 5, 3) := by decide +kernel
theorem dX8_turnsAt_268 : decode cX8_turnsAt 268 = .ok (.iload 10, 2) := by decide +kernel
theorem dX8_turnsAt_270 : decode cX8_turnsAt 270 = .ok (.istore 10, 2) := by decide +kernel
theorem dX8_turnsAt_272 : decode cX8_turnsAt 272 = .ok (.iload 13, 2) := by decide +kernel
theorem dX8_turnsAt_274 : decode cX8_turnsAt 274 = .ok (.ifCond .eq 8, 3) := by decide +kernel
theorem dX8_turnsAt_277 : decode cX8_turnsAt 277 = .ok (.iload 11, 2) := by decide +kernel
theorem dX8_turnsAt_279 : decode cX8_turnsAt 279 = .ok (.goto 5, 3) := by decide +kernel
theorem dX8_turnsAt_282 : decode cX8_turnsAt 282 = .ok (.iload 6, 2) := by decide +kernel
theorem dX8_turnsAt_284 : decode cX8_turnsAt 284 = .ok (.istore 6, 2) := by decide +kernel
theorem dX8_turnsAt_286 : decode cX8_turnsAt 286 = .ok (.iinc 11 1, 3) := by decide +kernel
theorem dX8_turnsAt_289 : decode cX8_turnsAt 289 = .ok (.goto (-113), 3) := by decide +kernel
theorem dX8_turnsAt_292 : decode cX8_turnsAt 292 = .ok (.aload_n 0, 1) := by decide +kernel
theorem dX8_turnsAt_293 : decode cX8_turnsAt 293 = .ok (.getfield 77, 3) := by decide +kernel
theorem dX8_turnsAt_296 : decode cX8_turnsAt 296 = .ok (.iload 9, 2) := by decide +kernel
theorem dX8_turnsAt_298 : decode cX8_turnsAt 298 = .ok (.iload 10, 2) := by decide +kernel
theorem dX8_turnsAt_300 : decode cX8_turnsAt 300 = .ok (.iastore, 1) := by decide +kernel
theorem dX8_turnsAt_301 : decode cX8_turnsAt 301 = .ok (.iinc 9 1, 3) := by decide +kernel
theorem dX8_turnsAt_304 : decode cX8_turnsAt 304 = .ok (.goto (-155), 3) := by decide +kernel
theorem dX8_turnsAt_307 : decode cX8_turnsAt 307 = .ok (.iinc 7 (-1), 3) := by decide +kernel
theorem dX8_turnsAt_310 : decode cX8_turnsAt 310 = .ok (.goto (-188), 3) := by decide +kernel
theorem dX8_turnsAt_313 : decode cX8_turnsAt 313 = .ok (.iload 5, 2) := by decide +kernel
theorem dX8_turnsAt_315 : decode cX8_turnsAt 315 = .ok (.ifCond .ne 12, 3) := by decide +kernel
theorem dX8_turnsAt_318 : decode cX8_turnsAt 318 = .ok (.aload_n 0, 1) := by decide +kernel
theorem dX8_turnsAt_319 : decode cX8_turnsAt 319 = .ok (.getfield 77, 3) := by decide +kernel
theorem dX8_turnsAt_322 : decode cX8_turnsAt 322 = .ok (.iconst 0, 1) := by decide +kernel
theorem dX8_turnsAt_323 : decode cX8_turnsAt 323 = .ok (.iaload, 1) := by decide +kernel
theorem dX8_turnsAt_324 : decode cX8_turnsAt 324 = .ok (.goto 21, 3) := by decide +kernel
theorem dX8_turnsAt_327 : decode cX8_turnsAt 327 = .ok (.iload 6, 2) := by decide +kernel
theorem dX8_turnsAt_329 : decode cX8_turnsAt 329 = .ok (.ifCond .ne 7, 3) := by decide +kernel
theorem dX8_turnsAt_332 : decode cX8_turnsAt 332 = .ok (.iconst (-1), 1) := by decide +kernel
theorem dX8_turnsAt_333 : decode cX8_turnsAt 333 = .ok (.goto 12, 3) := by decide +kernel
theorem dX8_turnsAt_336 : decode cX8_turnsAt 336 = .ok (.aload_n 0, 1) := by decide +kernel
theorem dX8_turnsAt_337 : decode cX8_turnsAt 337 = .ok (.getfield 74, 3) := by decide +kernel
theorem dX8_turnsAt_340 : decode cX8_turnsAt 340 = .ok (.iload 6, 2) := by decide +kernel
theorem dX8_turnsAt_342 : decode cX8_turnsAt 342 = .ok (.iconst 1, 1) := by decide +kernel
theorem dX8_turnsAt_343 : decode cX8_turnsAt 343 = .ok (.isub, 1) := by decide +kernel
theorem dX8_turnsAt_344 : decode cX8_turnsAt 344 = .ok (.iaload, 1) := by decide +kernel
theorem dX8_turnsAt_345 : decode cX8_turnsAt 345 = .ok (.ireturn, 1) := by decide +kernel
theorem dX8_write_0 : decode cX8_write 0 = .ok (.aload_n 0, 1) := by decide +kernel
theorem dX8_write_1 : decode cX8_write 1 = .ok (.iload_n 1, 1) := by decide +kernel
theorem dX8_write_2 : decode cX8_write 2 = .ok (.invokevirtual 218, 3) := by decide +kernel
theorem dX8_write_5 : decode cX8_write 5 = .ok (.ifCond .eq 11, 3) := by decide +kernel
theorem dX8_write_8 : decode cX8_write 8 = .ok (.aload_n 0, 1) := by decide +kernel
theorem dX8_write_9 : decode cX8_write 9 = .ok (.iload_n 2, 1) := by decide +kernel
theorem dX8_write_10 : decode cX8_write 10 = .ok (.invokevirtual 232, 3) := by decide +kernel
theorem dX8_write_13 : decode cX8_write 13 = .ok (.ifCond .ne 6, 3) := by decide +kernel
theorem dX8_write_16 : decode cX8_write 16 = .ok (.ldc 222, 2) := by decide +kernel
theorem dX8_write_18 : decode cX8_write 18 = .ok (.ireturn, 1) := by decide +kernel
theorem dX8_write_19 : decode cX8_write 19 = .ok (.aload_n 0, 1) := by decide +kernel
theorem dX8_write_20 : decode cX8_write 20 = .ok (.getfield 195, 3) := by decide +kernel
theorem dX8_write_23 : decode cX8_write 23 = .ok (.bipush 40, 2) := by decide +kernel
theorem dX8_write_25 : decode cX8_write 25 = .ok (.if_icmp .ne 6, 3) := by decide +kernel
theorem dX8_write_28 : decode cX8_write 28 = .ok (.ldc 121, 2) := by decide +kernel
theorem dX8_write_30 : decode cX8_write 30 = .ok (.ireturn, 1) := by decide +kernel
theorem dX8_write_31 : decode cX8_write 31 = .ok (.aload_n 0, 1) := by decide +kernel
theorem dX8_write_32 : decode cX8_write 32 = .ok (.getfield 80, 3) := by decide +kernel
theorem dX8_write_35 : decode cX8_write 35 = .ok (.aload_n 0, 1) := by decide +kernel
theorem dX8_write_36 : decode cX8_write 36 = .ok (.getfield 195, 3) := by decide +kernel
theorem dX8_write_39 : decode cX8_write 39 = .ok (.iload_n 1, 1) := by decide +kernel
theorem dX8_write_40 : decode cX8_write 40 = .ok (.iastore, 1) := by decide +kernel
theorem dX8_write_41 : decode cX8_write 41 = .ok (.aload_n 0, 1) := by decide +kernel
theorem dX8_write_42 : decode cX8_write 42 = .ok (.getfield 83, 3) := by decide +kernel
theorem dX8_write_45 : decode cX8_write 45 = .ok (.aload_n 0, 1) := by decide +kernel
theorem dX8_write_46 : decode cX8_write 46 = .ok (.getfield 195, 3) := by decide +kernel
theorem dX8_write_49 : decode cX8_write 49 = .ok (.iload_n 2, 1) := by decide +kernel
theorem dX8_write_50 : decode cX8_write 50 = .ok (.iastore, 1) := by decide +kernel
theorem dX8_write_51 : decode cX8_write 51 = .ok (.aload_n 0, 1) := by decide +kernel
theorem dX8_write_52 : decode cX8_write 52 = .ok (.getfield 86, 3) := by decide +kernel
theorem dX8_write_55 : decode cX8_write 55 = .ok (.aload_n 0, 1) := by decide +kernel
theorem dX8_write_56 : decode cX8_write 56 = .ok (.getfield 195, 3) := by decide +kernel
theorem dX8_write_59 : decode cX8_write 59 = .ok (.iload_n 3, 1) := by decide +kernel
theorem dX8_write_60 : decode cX8_write 60 = .ok (.bastore, 1) := by decide +kernel
theorem dX8_write_61 : decode cX8_write 61 = .ok (.aload_n 0, 1) := by decide +kernel
theorem dX8_write_62 : decode cX8_write 62 = .ok (.dup, 1) := by decide +kernel
theorem dX8_write_63 : decode cX8_write 63 = .ok (.getfield 195, 3) := by decide +kernel
theorem dX8_write_66 : decode cX8_write 66 = .ok (.iconst 1, 1) := by decide +kernel
theorem dX8_write_67 : decode cX8_write 67 = .ok (.iadd, 1) := by decide +kernel
theorem dX8_write_68 : decode cX8_write 68 = .ok (.putfield 195, 3) := by decide +kernel
theorem dX8_write_71 : decode cX8_write 71 = .ok (.aload_n 0, 1) := by decide +kernel
theorem dX8_write_72 : decode cX8_write 72 = .ok (.getfield 195, 3) := by decide +kernel
theorem dX8_write_75 : decode cX8_write 75 = .ok (.ireturn, 1) := by decide +kernel
theorem dX8_tear_0 : decode cX8_tear 0 = .ok (.aload_n 0, 1) := by decide +kernel
theorem dX8_tear_1 : decode cX8_tear 1 = .ok (.getfield 195, 3) := by decide +kernel
theorem dX8_tear_4 : decode cX8_tear 4 = .ok (.istore_n 1, 1) := by decide +kernel
theorem dX8_tear_5 : decode cX8_tear 5 = .ok (.aload_n 0, 1) := by decide +kernel
theorem dX8_tear_6 : decode cX8_tear 6 = .ok (.iconst 0, 1) := by decide +kernel
theorem dX8_tear_7 : decode cX8_tear 7 = .ok (.putfield 195, 3) := by decide +kernel
theorem dX8_tear_10 : decode cX8_tear 10 = .ok (.iload_n 1, 1) := by decide +kernel
theorem dX8_tear_11 : decode cX8_tear 11 = .ok (.ireturn, 1) := by decide +kernel
theorem dX8_judge_0 : decode cX8_judge 0 = .ok (.aload_n 0, 1) := by decide +kernel
theorem dX8_judge_1 : decode cX8_judge 1 = .ok (.iconst 2, 1) := by decide +kernel
theorem dX8_judge_2 : decode cX8_judge 2 = .ok (.invokevirtual 281, 3) := by decide +kernel
theorem dX8_judge_5 : decode cX8_judge 5 = .ok (.iconst (-1), 1) := by decide +kernel
theorem dX8_judge_6 : decode cX8_judge 6 = .ok (.istore_n 1, 1) := by decide +kernel
theorem dX8_judge_7 : decode cX8_judge 7 = .ok (.iconst 0, 1) := by decide +kernel
theorem dX8_judge_8 : decode cX8_judge 8 = .ok (.istore_n 2, 1) := by decide +kernel
theorem dX8_judge_9 : decode cX8_judge 9 = .ok (.iload_n 2, 1) := by decide +kernel
theorem dX8_judge_10 : decode cX8_judge 10 = .ok (.aload_n 0, 1) := by decide +kernel
theorem dX8_judge_11 : decode cX8_judge 11 = .ok (.getfield 195, 3) := by decide +kernel
theorem dX8_judge_14 : decode cX8_judge 14 = .ok (.if_icmp .ge 115, 3) := by decide +kernel
theorem dX8_judge_17 : decode cX8_judge 17 = .ok (.iload_n 1, 1) := by decide +kernel
theorem dX8_judge_18 : decode cX8_judge 18 = .ok (.ifCond .ge 111, 3) := by decide +kernel
theorem dX8_judge_21 : decode cX8_judge 21 = .ok (.aload_n 0, 1) := by decide +kernel
theorem dX8_judge_22 : decode cX8_judge 22 = .ok (.getfield 80, 3) := by decide +kernel
theorem dX8_judge_25 : decode cX8_judge 25 = .ok (.iload_n 2, 1) := by decide +kernel
theorem dX8_judge_26 : decode cX8_judge 26 = .ok (.iaload, 1) := by decide +kernel
theorem dX8_judge_27 : decode cX8_judge 27 = .ok (.istore_n 3, 1) := by decide +kernel
theorem dX8_judge_28 : decode cX8_judge 28 = .ok (.aload_n 0, 1) := by decide +kernel
theorem dX8_judge_29 : decode cX8_judge 29 = .ok (.getfield 83, 3) := by decide +kernel
theorem dX8_judge_32 : decode cX8_judge 32 = .ok (.iload_n 2, 1) := by decide +kernel
theorem dX8_judge_33 : decode cX8_judge 33 = .ok (.iaload, 1) := by decide +kernel
theorem dX8_judge_34 : decode cX8_judge 34 = .ok (.istore 4, 2) := by decide +kernel
theorem dX8_judge_36 : decode cX8_judge 36 = .ok (.iload 4, 2) := by decide +kernel
theorem dX8_judge_38 : decode cX8_judge 38 = .ok (.aload_n 0, 1) := by decide +kernel
theorem dX8_judge_39 : decode cX8_judge 39 = .ok (.getfield 106, 3) := by decide +kernel
theorem dX8_judge_42 : decode cX8_judge 42 = .ok (.if_icmp .ge 7, 3) := by decide +kernel
theorem dX8_judge_45 : decode cX8_judge 45 = .ok (.iconst 1, 1) := by decide +kernel
theorem dX8_judge_46 : decode cX8_judge 46 = .ok (.goto 4, 3) := by decide +kernel
theorem dX8_judge_49 : decode cX8_judge 49 = .ok (.iconst 0, 1) := by decide +kernel
theorem dX8_judge_50 : decode cX8_judge 50 = .ok (.istore 5, 2) := by decide +kernel
theorem dX8_judge_52 : decode cX8_judge 52 = .ok (.iload 5, 2) := by decide +kernel
theorem dX8_judge_54 : decode cX8_judge 54 = .ok (.ifCond .eq 32, 3) := by decide +kernel
theorem dX8_judge_57 : decode cX8_judge 57 = .ok (.aload_n 0, 1) := by decide +kernel
theorem dX8_judge_58 : decode cX8_judge 58 = .ok (.getfield 86, 3) := by decide +kernel
theorem dX8_judge_61 : decode cX8_judge 61 = .ok (.iload_n 2, 1) := by decide +kernel
theorem dX8_judge_62 : decode cX8_judge 62 = .ok (.baload, 1) := by decide +kernel
theorem dX8_judge_63 : decode cX8_judge 63 = .ok (.ifCond .eq 23, 3) := by decide +kernel
theorem dX8_judge_66 : decode cX8_judge 66 = .ok (.aload_n 0, 1) := by decide +kernel
theorem dX8_judge_67 : decode cX8_judge 67 = .ok (.iload_n 3, 1) := by decide +kernel
theorem dX8_judge_68 : decode cX8_judge 68 = .ok (.iload 4, 2) := by decide +kernel
theorem dX8_judge_70 : decode cX8_judge 70 = .ok (.invokevirtual 240, 3) := by decide +kernel
theorem dX8_judge_73 : decode cX8_judge 73 = .ok (.ifCond .eq 13, 3) := by decide +kernel
theorem dX8_judge_76 : decode cX8_judge 76 = .ok (.aload_n 0, 1) := by decide +kernel
theorem dX8_judge_77 : decode cX8_judge 77 = .ok (.iload_n 3, 1) := by decide +kernel
theorem dX8_judge_78 : decode cX8_judge 78 = .ok (.iload 4, 2) := by decide +kernel
theorem dX8_judge_80 : decode cX8_judge 80 = .ok (.invokevirtual 243, 3) := by decide +kernel
theorem dX8_judge_83 : decode cX8_judge 83 = .ok (.goto 40, 3) := by decide +kernel
theorem dX8_judge_86 : decode cX8_judge 86 = .ok (.iload 5, 2) := by decide +kernel
theorem dX8_judge_88 : decode cX8_judge 88 = .ok (.ifCond .eq 33, 3) := by decide +kernel
theorem dX8_judge_91 : decode cX8_judge 91 = .ok (.aload_n 0, 1) := by decide +kernel
theorem dX8_judge_92 : decode cX8_judge 92 = .ok (.getfield 86, 3) := by decide +kernel
theorem dX8_judge_95 : decode cX8_judge 95 = .ok (.iload_n 2, 1) := by decide +kernel
theorem dX8_judge_96 : decode cX8_judge 96 = .ok (.baload, 1) := by decide +kernel
theorem dX8_judge_97 : decode cX8_judge 97 = .ok (.ifCond .ne 24, 3) := by decide +kernel
theorem dX8_judge_100 : decode cX8_judge 100 = .ok (.aload_n 0, 1) := by decide +kernel
theorem dX8_judge_101 : decode cX8_judge 101 = .ok (.getfield 25, 3) := by decide +kernel
theorem dX8_judge_104 : decode cX8_judge 104 = .ok (.iload 4, 2) := by decide +kernel
theorem dX8_judge_106 : decode cX8_judge 106 = .ok (.iaload, 1) := by decide +kernel
theorem dX8_judge_107 : decode cX8_judge 107 = .ok (.iload_n 3, 1) := by decide +kernel
theorem dX8_judge_108 : decode cX8_judge 108 = .ok (.if_icmp .ne 13, 3) := by decide +kernel
theorem dX8_judge_111 : decode cX8_judge 111 = .ok (.aload_n 0, 1) := by decide +kernel
theorem dX8_judge_112 : decode cX8_judge 112 = .ok (.iload_n 3, 1) := by decide +kernel
theorem dX8_judge_113 : decode cX8_judge 113 = .ok (.iload 4, 2) := by decide +kernel
theorem dX8_judge_115 : decode cX8_judge 115 = .ok (.invokevirtual 236, 3) := by decide +kernel
theorem dX8_judge_118 : decode cX8_judge 118 = .ok (.goto 5, 3) := by decide +kernel
theorem dX8_judge_121 : decode cX8_judge 121 = .ok (.iload_n 2, 1) := by decide +kernel
theorem dX8_judge_122 : decode cX8_judge 122 = .ok (.istore_n 1, 1) := by decide +kernel
theorem dX8_judge_123 : decode cX8_judge 123 = .ok (.iinc 2 1, 3) := by decide +kernel
theorem dX8_judge_126 : decode cX8_judge 126 = .ok (.goto (-117), 3) := by decide +kernel
theorem dX8_judge_129 : decode cX8_judge 129 = .ok (.aload_n 0, 1) := by decide +kernel
theorem dX8_judge_130 : decode cX8_judge 130 = .ok (.iconst 2, 1) := by decide +kernel
theorem dX8_judge_131 : decode cX8_judge 131 = .ok (.invokevirtual 285, 3) := by decide +kernel
theorem dX8_judge_134 : decode cX8_judge 134 = .ok (.iload_n 1, 1) := by decide +kernel
theorem dX8_judge_135 : decode cX8_judge 135 = .ok (.ireturn, 1) := by decide +kernel
theorem dX8_seed_0 : decode cX8_seed 0 = .ok (.iload_n 1, 1) := by decide +kernel
theorem dX8_seed_1 : decode cX8_seed 1 = .ok (.ifCond .ge 6, 3) := by decide +kernel
theorem dX8_seed_4 : decode cX8_seed 4 = .ok (.ldc 117, 2) := by decide +kernel
theorem dX8_seed_6 : decode cX8_seed 6 = .ok (.ireturn, 1) := by decide +kernel
theorem dX8_seed_7 : decode cX8_seed 7 = .ok (.aload_n 0, 1) := by decide +kernel
theorem dX8_seed_8 : decode cX8_seed 8 = .ok (.getfield 266, 3) := by decide +kernel
theorem dX8_seed_11 : decode cX8_seed 11 = .ok (.istore_n 2, 1) := by decide +kernel
theorem dX8_seed_12 : decode cX8_seed 12 = .ok (.aload_n 0, 1) := by decide +kernel
theorem dX8_seed_13 : decode cX8_seed 13 = .ok (.iload_n 1, 1) := by decide +kernel
theorem dX8_seed_14 : decode cX8_seed 14 = .ok (.putfield 266, 3) := by decide +kernel
theorem dX8_seed_17 : decode cX8_seed 17 = .ok (.iload_n 2, 1) := by decide +kernel
theorem dX8_seed_18 : decode cX8_seed 18 = .ok (.ireturn, 1) := by decide +kernel
theorem dX8_save_0 : decode cX8_save 0 = .ok (.sipush 800, 3) := by decide +kernel
theorem dX8_save_3 : decode cX8_save 3 = .ok (.iload_n 1, 1) := by decide +kernel
theorem dX8_save_4 : decode cX8_save 4 = .ok (.imul, 1) := by decide +kernel
theorem dX8_save_5 : decode cX8_save 5 = .ok (.istore_n 2, 1) := by decide +kernel
theorem dX8_save_6 : decode cX8_save 6 = .ok (.iconst 0, 1) := by decide +kernel
theorem dX8_save_7 : decode cX8_save 7 = .ok (.istore_n 3, 1) := by decide +kernel
theorem dX8_save_8 : decode cX8_save 8 = .ok (.iload_n 3, 1) := by decide +kernel
theorem dX8_save_9 : decode cX8_save 9 = .ok (.bipush 32, 2) := by decide +kernel
theorem dX8_save_11 : decode cX8_save 11 = .ok (.if_icmp .ge 74, 3) := by decide +kernel
theorem dX8_save_14 : decode cX8_save 14 = .ok (.aload_n 0, 1) := by decide +kernel
theorem dX8_save_15 : decode cX8_save 15 = .ok (.getfield 90, 3) := by decide +kernel
theorem dX8_save_18 : decode cX8_save 18 = .ok (.iload_n 2, 1) := by decide +kernel
theorem dX8_save_19 : decode cX8_save 19 = .ok (.iload_n 3, 1) := by decide +kernel
theorem dX8_save_20 : decode cX8_save 20 = .ok (.iadd, 1) := by decide +kernel
theorem dX8_save_21 : decode cX8_save 21 = .ok (.aload_n 0, 1) := by decide +kernel
theorem dX8_save_22 : decode cX8_save 22 = .ok (.getfield 22, 3) := by decide +kernel
theorem dX8_save_25 : decode cX8_save 25 = .ok (.iload_n 3, 1) := by decide +kernel
theorem dX8_save_26 : decode cX8_save 26 = .ok (.iaload, 1) := by decide +kernel
theorem dX8_save_27 : decode cX8_save 27 = .ok (.iastore, 1) := by decide +kernel
theorem dX8_save_28 : decode cX8_save 28 = .ok (.aload_n 0, 1) := by decide +kernel
theorem dX8_save_29 : decode cX8_save 29 = .ok (.getfield 90, 3) := by decide +kernel
theorem dX8_save_32 : decode cX8_save 32 = .ok (.iload_n 2, 1) := by decide +kernel
theorem dX8_save_33 : decode cX8_save 33 = .ok (.bipush 32, 2) := by decide +kernel
theorem dX8_save_35 : decode cX8_save 35 = .ok (.iadd, 1) := by decide +kernel
theorem dX8_save_36 : decode cX8_save 36 = .ok (.iload_n 3, 1) := by decide +kernel
theorem dX8_save_37 : decode cX8_save 37 = .ok (.iadd, 1) := by decide +kernel
theorem dX8_save_38 : decode cX8_save 38 = .ok (.aload_n 0, 1) := by decide +kernel
theorem dX8_save_39 : decode cX8_save 39 = .ok (.getfield 25, 3) := by decide +kernel
theorem dX8_save_42 : decode cX8_save 42 = .ok (.iload_n 3, 1) := by decide +kernel
theorem dX8_save_43 : decode cX8_save 43 = .ok (.iaload, 1) := by decide +kernel
theorem dX8_save_44 : decode cX8_save 44 = .ok (.iastore, 1) := by decide +kernel
theorem dX8_save_45 : decode cX8_save 45 = .ok (.aload_n 0, 1) := by decide +kernel
theorem dX8_save_46 : decode cX8_save 46 = .ok (.getfield 90, 3) := by decide +kernel
theorem dX8_save_49 : decode cX8_save 49 = .ok (.iload_n 2, 1) := by decide +kernel
theorem dX8_save_50 : decode cX8_save 50 = .ok (.bipush 64, 2) := by decide +kernel
theorem dX8_save_52 : decode cX8_save 52 = .ok (.iadd, 1) := by decide +kernel
theorem dX8_save_53 : decode cX8_save 53 = .ok (.iload_n 3, 1) := by decide +kernel
theorem dX8_save_54 : decode cX8_save 54 = .ok (.iadd, 1) := by decide +kernel
theorem dX8_save_55 : decode cX8_save 55 = .ok (.aload_n 0, 1) := by decide +kernel
theorem dX8_save_56 : decode cX8_save 56 = .ok (.getfield 28, 3) := by decide +kernel
theorem dX8_save_59 : decode cX8_save 59 = .ok (.iload_n 3, 1) := by decide +kernel
theorem dX8_save_60 : decode cX8_save 60 = .ok (.iaload, 1) := by decide +kernel
theorem dX8_save_61 : decode cX8_save 61 = .ok (.iastore, 1) := by decide +kernel
theorem dX8_save_62 : decode cX8_save 62 = .ok (.aload_n 0, 1) := by decide +kernel
theorem dX8_save_63 : decode cX8_save 63 = .ok (.getfield 90, 3) := by decide +kernel
theorem dX8_save_66 : decode cX8_save 66 = .ok (.iload_n 2, 1) := by decide +kernel
theorem dX8_save_67 : decode cX8_save 67 = .ok (.bipush 96, 2) := by decide +kernel
theorem dX8_save_69 : decode cX8_save 69 = .ok (.iadd, 1) := by decide +kernel
theorem dX8_save_70 : decode cX8_save 70 = .ok (.iload_n 3, 1) := by decide +kernel
theorem dX8_save_71 : decode cX8_save 71 = .ok (.iadd, 1) := by decide +kernel
theorem dX8_save_72 : decode cX8_save 72 = .ok (.aload_n 0, 1) := by decide +kernel
theorem dX8_save_73 : decode cX8_save 73 = .ok (.getfield 31, 3) := by decide +kernel
theorem dX8_save_76 : decode cX8_save 76 = .ok (.iload_n 3, 1) := by decide +kernel
theorem dX8_save_77 : decode cX8_save 77 = .ok (.iaload, 1) := by decide +kernel
theorem dX8_save_78 : decode cX8_save 78 = .ok (.iastore, 1) := by decide +kernel
theorem dX8_save_79 : decode cX8_save 79 = .ok (.iinc 3 1, 3) := by decide +kernel
theorem dX8_save_82 : decode cX8_save 82 = .ok (.goto (-74), 3) := by decide +kernel
theorem dX8_save_85 : decode cX8_save 85 = .ok (.iconst 0, 1) := by decide +kernel
theorem dX8_save_86 : decode cX8_save 86 = .ok (.istore_n 3, 1) := by decide +kernel
theorem dX8_save_87 : decode cX8_save 87 = .ok (.iload_n 3, 1) := by decide +kernel
theorem dX8_save_88 : decode cX8_save 88 = .ok (.sipush 640, 3) := by decide +kernel
theorem dX8_save_91 : decode cX8_save 91 = .ok (.if_icmp .ge 27, 3) := by decide +kernel
theorem dX8_save_94 : decode cX8_save 94 = .ok (.aload_n 0, 1) := by decide +kernel
theorem dX8_save_95 : decode cX8_save 95 = .ok (.getfield 90, 3) := by decide +kernel
theorem dX8_save_98 : decode cX8_save 98 = .ok (.iload_n 2, 1) := by decide +kernel
theorem dX8_save_99 : decode cX8_save 99 = .ok (.sipush 128, 3) := by decide +kernel
theorem dX8_save_102 : decode cX8_save 102 = .ok (.iadd, 1) := by decide +kernel
theorem dX8_save_103 : decode cX8_save 103 = .ok (.iload_n 3, 1) := by decide +kernel
theorem dX8_save_104 : decode cX8_save 104 = .ok (.iadd, 1) := by decide +kernel
theorem dX8_save_105 : decode cX8_save 105 = .ok (.aload_n 0, 1) := by decide +kernel
theorem dX8_save_106 : decode cX8_save 106 = .ok (.getfield 34, 3) := by decide +kernel
theorem dX8_save_109 : decode cX8_save 109 = .ok (.iload_n 3, 1) := by decide +kernel
theorem dX8_save_110 : decode cX8_save 110 = .ok (.iaload, 1) := by decide +kernel
theorem dX8_save_111 : decode cX8_save 111 = .ok (.iastore, 1) := by decide +kernel
theorem dX8_save_112 : decode cX8_save 112 = .ok (.iinc 3 1, 3) := by decide +kernel
theorem dX8_save_115 : decode cX8_save 115 = .ok (.goto (-28), 3) := by decide +kernel
theorem dX8_save_118 : decode cX8_save 118 = .ok (.aload_n 0, 1) := by decide +kernel
theorem dX8_save_119 : decode cX8_save 119 = .ok (.getfield 90, 3) := by decide +kernel
theorem dX8_save_122 : decode cX8_save 122 = .ok (.iload_n 2, 1) := by decide +kernel
theorem dX8_save_123 : decode cX8_save 123 = .ok (.sipush 768, 3) := by decide +kernel
theorem dX8_save_126 : decode cX8_save 126 = .ok (.iadd, 1) := by decide +kernel
theorem dX8_save_127 : decode cX8_save 127 = .ok (.aload_n 0, 1) := by decide +kernel
theorem dX8_save_128 : decode cX8_save 128 = .ok (.getfield 106, 3) := by decide +kernel
theorem dX8_save_131 : decode cX8_save 131 = .ok (.iastore, 1) := by decide +kernel
theorem dX8_save_132 : decode cX8_save 132 = .ok (.aload_n 0, 1) := by decide +kernel
theorem dX8_save_133 : decode cX8_save 133 = .ok (.getfield 90, 3) := by decide +kernel
theorem dX8_save_136 : decode cX8_save 136 = .ok (.iload_n 2, 1) := by decide +kernel
theorem dX8_save_137 : decode cX8_save 137 = .ok (.sipush 769, 3) := by decide +kernel
theorem dX8_save_140 : decode cX8_save 140 = .ok (.iadd, 1) := by decide +kernel
theorem dX8_save_141 : decode cX8_save 141 = .ok (.aload_n 0, 1) := by decide +kernel
theorem dX8_save_142 : decode cX8_save 142 = .ok (.getfield 109, 3) := by decide +kernel
theorem dX8_save_145 : decode cX8_save 145 = .ok (.iastore, 1) := by decide +kernel
theorem dX8_save_146 : decode cX8_save 146 = .ok (.aload_n 0, 1) := by decide +kernel
theorem dX8_save_147 : decode cX8_save 147 = .ok (.getfield 90, 3) := by decide +kernel
theorem dX8_save_150 : decode cX8_save 150 = .ok (.iload_n 2, 1) := by decide +kernel
theorem dX8_save_151 : decode cX8_save 151 = .ok (.sipush 770, 3) := by decide +kernel
theorem dX8_save_154 : decode cX8_save 154 = .ok (.iadd, 1) := by decide +kernel
theorem dX8_save_155 : decode cX8_save 155 = .ok (.aload_n 0, 1) := by decide +kernel
theorem dX8_save_156 : decode cX8_save 156 = .ok (.getfield 266, 3) := by decide +kernel
theorem dX8_save_159 : decode cX8_save 159 = .ok (.iastore, 1) := by decide +kernel
theorem dX8_save_160 : decode cX8_save 160 = .ok (.return_, 1) := by decide +kernel
theorem dX8_load_0 : decode cX8_load 0 = .ok (.sipush 800, 3) := by decide +kernel
theorem dX8_load_3 : decode cX8_load 3 = .ok (.iload_n 1, 1) := by decide +kernel
theorem dX8_load_4 : decode cX8_load 4 = .ok (.imul, 1) := by decide +kernel
theorem dX8_load_5 : decode cX8_load 5 = .ok (.istore_n 2, 1) := by decide +kernel
theorem dX8_load_6 : decode cX8_load 6 = .ok (.iconst 0, 1) := by decide +kernel
theorem dX8_load_7 : decode cX8_load 7 = .ok (.istore_n 3, 1) := by decide +kernel
theorem dX8_load_8 : decode cX8_load 8 = .ok (.iload_n 3, 1) := by decide +kernel
theorem dX8_load_9 : decode cX8_load 9 = .ok (.bipush 32, 2) := by decide +kernel
theorem dX8_load_11 : decode cX8_load 11 = .ok (.if_icmp .ge 74, 3) := by decide +kernel
theorem dX8_load_14 : decode cX8_load 14 = .ok (.aload_n 0, 1) := by decide +kernel
theorem dX8_load_15 : decode cX8_load 15 = .ok (.getfield 22, 3) := by decide +kernel
theorem dX8_load_18 : decode cX8_load 18 = .ok (.iload_n 3, 1) := by decide +kernel
theorem dX8_load_19 : decode cX8_load 19 = .ok (.aload_n 0, 1) := by decide +kernel
theorem dX8_load_20 : decode cX8_load 20 = .ok (.getfield 90, 3) := by decide +kernel
theorem dX8_load_23 : decode cX8_load 23 = .ok (.iload_n 2, 1) := by decide +kernel
theorem dX8_load_24 : decode cX8_load 24 = .ok (.iload_n 3, 1) := by decide +kernel
theorem dX8_load_25 : decode cX8_load 25 = .ok (.iadd, 1) := by decide +kernel
theorem dX8_load_26 : decode cX8_load 26 = .ok (.iaload, 1) := by decide +kernel
theorem dX8_load_27 : decode cX8_load 27 = .ok (.iastore, 1) := by decide +kernel
theorem dX8_load_28 : decode cX8_load 28 = .ok (.aload_n 0, 1) := by decide +kernel
theorem dX8_load_29 : decode cX8_load 29 = .ok (.getfield 25, 3) := by decide +kernel
theorem dX8_load_32 : decode cX8_load 32 = .ok (.iload_n 3, 1) := by decide +kernel
theorem dX8_load_33 : decode cX8_load 33 = .ok (.aload_n 0, 1) := by decide +kernel
theorem dX8_load_34 : decode cX8_load 34 = .ok (.getfield 90, 3) := by decide +kernel
theorem dX8_load_37 : decode cX8_load 37 = .ok (.iload_n 2, 1) := by decide +kernel
theorem dX8_load_38 : decode cX8_load 38 = .ok (.bipush 32, 2) := by decide +kernel
theorem dX8_load_40 : decode cX8_load 40 = .ok (.iadd, 1) := by decide +kernel
theorem dX8_load_41 : decode cX8_load 41 = .ok (.iload_n 3, 1) := by decide +kernel
theorem dX8_load_42 : decode cX8_load 42 = .ok (.iadd, 1) := by decide +kernel
theorem dX8_load_43 : decode cX8_load 43 = .ok (.iaload, 1) := by decide +kernel
theorem dX8_load_44 : decode cX8_load 44 = .ok (.iastore, 1) := by decide +kernel
theorem dX8_load_45 : decode cX8_load 45 = .ok (.aload_n 0, 1) := by decide +kernel
theorem dX8_load_46 : decode cX8_load 46 = .ok (.getfield 28, 3) := by decide +kernel
theorem dX8_load_49 : decode cX8_load 49 = .ok (.iload_n 3, 1) := by decide +kernel
theorem dX8_load_50 : decode cX8_load 50 = .ok (.aload_n 0, 1) := by decide +kernel
theorem dX8_load_51 : decode cX8_load 51 = .ok (.getfield 90, 3) := by decide +kernel
theorem dX8_load_54 : decode cX8_load 54 = .ok (.iload_n 2, 1) := by decide +kernel
theorem dX8_load_55 : decode cX8_load 55 = .ok (.bipush 64, 2) := by decide +kernel
theorem dX8_load_57 : decode cX8_load 57 = .ok (.iadd, 1) := by decide +kernel
theorem dX8_load_58 : decode cX8_load 58 = .ok (.iload_n 3, 1) := by decide +kernel
theorem dX8_load_59 : decode cX8_load 59 = .ok (.iadd, 1) := by decide +kernel
theorem dX8_load_60 : decode cX8_load 60 = .ok (.iaload, 1) := by decide +kernel
theorem dX8_load_61 : decode cX8_load 61 = .ok (.iastore, 1) := by decide +kernel
theorem dX8_load_62 : decode cX8_load 62 = .ok (.aload_n 0, 1) := by decide +kernel
theorem dX8_load_63 : decode cX8_load 63 = .ok (.getfield 31, 3) := by decide +kernel
theorem dX8_load_66 : decode cX8_load 66 = .ok (.iload_n 3, 1) := by decide +kernel
theorem dX8_load_67 : decode cX8_load 67 = .ok (.aload_n 0, 1) := by decide +kernel
theorem dX8_load_68 : decode cX8_load 68 = .ok (.getfield 90, 3) := by decide +kernel
theorem dX8_load_71 : decode cX8_load 71 = .ok (.iload_n 2, 1) := by decide +kernel
theorem dX8_load_72 : decode cX8_load 72 = .ok (.bipush 96, 2) := by decide +kernel
theorem dX8_load_74 : decode cX8_load 74 = .ok (.iadd, 1) := by decide +kernel
theorem dX8_load_75 : decode cX8_load 75 = .ok (.iload_n 3, 1) := by decide +kernel
theorem dX8_load_76 : decode cX8_load 76 = .ok (.iadd, 1) := by decide +kernel
theorem dX8_load_77 : decode cX8_load 77 = .ok (.iaload, 1) := by decide +kernel
theorem dX8_load_78 : decode cX8_load 78 = .ok (.iastore, 1) := by decide +kernel
theorem dX8_load_79 : decode cX8_load 79 = .ok (.iinc 3 1, 3) := by decide +kernel
theorem dX8_load_82 : decode cX8_load 82 = .ok (.goto (-74), 3) := by decide +kernel
theorem dX8_load_85 : decode cX8_load 85 = .ok (.iconst 0, 1) := by decide +kernel
theorem dX8_load_86 : decode cX8_load 86 = .ok (.istore_n 3, 1) := by decide +kernel
theorem dX8_load_87 : decode cX8_load 87 = .ok (.iload_n 3, 1) := by decide +kernel
theorem dX8_load_88 : decode cX8_load 88 = .ok (.sipush 640, 3) := by decide +kernel
theorem dX8_load_91 : decode cX8_load 91 = .ok (.if_icmp .ge 27, 3) := by decide +kernel
theorem dX8_load_94 : decode cX8_load 94 = .ok (.aload_n 0, 1) := by decide +kernel
theorem dX8_load_95 : decode cX8_load 95 = .ok (.getfield 34, 3) := by decide +kernel
theorem dX8_load_98 : decode cX8_load 98 = .ok (.iload_n 3, 1) := by decide +kernel
theorem dX8_load_99 : decode cX8_load 99 = .ok (.aload_n 0, 1) := by decide +kernel
theorem dX8_load_100 : decode cX8_load 100 = .ok (.getfield 90, 3) := by decide +kernel
theorem dX8_load_103 : decode cX8_load 103 = .ok (.iload_n 2, 1) := by decide +kernel
theorem dX8_load_104 : decode cX8_load 104 = .ok (.sipush 128, 3) := by decide +kernel
theorem dX8_load_107 : decode cX8_load 107 = .ok (.iadd, 1) := by decide +kernel
theorem dX8_load_108 : decode cX8_load 108 = .ok (.iload_n 3, 1) := by decide +kernel
theorem dX8_load_109 : decode cX8_load 109 = .ok (.iadd, 1) := by decide +kernel
theorem dX8_load_110 : decode cX8_load 110 = .ok (.iaload, 1) := by decide +kernel
theorem dX8_load_111 : decode cX8_load 111 = .ok (.iastore, 1) := by decide +kernel
theorem dX8_load_112 : decode cX8_load 112 = .ok (.iinc 3 1, 3) := by decide +kernel
theorem dX8_load_115 : decode cX8_load 115 = .ok (.goto (-28), 3) := by decide +kernel
theorem dX8_load_118 : decode cX8_load 118 = .ok (.aload_n 0, 1) := by decide +kernel
theorem dX8_load_119 : decode cX8_load 119 = .ok (.aload_n 0, 1) := by decide +kernel
theorem dX8_load_120 : decode cX8_load 120 = .ok (.getfield 90, 3) := by decide +kernel
theorem dX8_load_123 : decode cX8_load 123 = .ok (.iload_n 2, 1) := by decide +kernel
theorem dX8_load_124 : decode cX8_load 124 = .ok (.sipush 768, 3) := by decide +kernel
theorem dX8_load_127 : decode cX8_load 127 = .ok (.iadd, 1) := by decide +kernel
theorem dX8_load_128 : decode cX8_load 128 = .ok (.iaload, 1) := by decide +kernel
theorem dX8_load_129 : decode cX8_load 129 = .ok (.putfield 106, 3) := by decide +kernel
theorem dX8_load_132 : decode cX8_load 132 = .ok (.aload_n 0, 1) := by decide +kernel
theorem dX8_load_133 : decode cX8_load 133 = .ok (.aload_n 0, 1) := by decide +kernel
theorem dX8_load_134 : decode cX8_load 134 = .ok (.getfield 90, 3) := by decide +kernel
theorem dX8_load_137 : decode cX8_load 137 = .ok (.iload_n 2, 1) := by decide +kernel
theorem dX8_load_138 : decode cX8_load 138 = .ok (.sipush 769, 3) := by decide +kernel
theorem dX8_load_141 : decode cX8_load 141 = .ok (.iadd, 1) := by decide +kernel
theorem dX8_load_142 : decode cX8_load 142 = .ok (.iaload, 1) := by decide +kernel
theorem dX8_load_143 : decode cX8_load 143 = .ok (.putfield 109, 3) := by decide +kernel
theorem dX8_load_146 : decode cX8_load 146 = .ok (.aload_n 0, 1) := by decide +kernel
theorem dX8_load_147 : decode cX8_load 147 = .ok (.aload_n 0, 1) := by decide +kernel
theorem dX8_load_148 : decode cX8_load 148 = .ok (.getfield 90, 3) := by decide +kernel
theorem dX8_load_151 : decode cX8_load 151 = .ok (.iload_n 2, 1) := by decide +kernel
theorem dX8_load_152 : decode cX8_load 152 = .ok (.sipush 770, 3) := by decide +kernel
theorem dX8_load_155 : decode cX8_load 155 = .ok (.iadd, 1) := by decide +kernel
theorem dX8_load_156 : decode cX8_load 156 = .ok (.iaload, 1) := by decide +kernel
theorem dX8_load_157 : decode cX8_load 157 = .ok (.putfield 266, 3) := by decide +kernel
theorem dX8_load_160 : decode cX8_load 160 = .ok (.return_, 1) := by decide +kernel
theorem dX8_keep_0 : decode cX8_keep 0 = .ok (.iload_n 1, 1) := by decide +kernel
theorem dX8_keep_1 : decode cX8_keep 1 = .ok (.i2l, 1) := by decide +kernel
theorem dX8_keep_2 : decode cX8_keep 2 = .ok (.lconst 0, 1) := by decide +kernel
theorem dX8_keep_3 : decode cX8_keep 3 = .ok (.lconst 1, 1) := by decide +kernel
theorem dX8_keep_4 : decode cX8_keep 4 = .ok (.invokestatic 102, 3) := by decide +kernel
theorem dX8_keep_7 : decode cX8_keep 7 = .ok (.ifCond .ne 6, 3) := by decide +kernel
theorem dX8_keep_10 : decode cX8_keep 10 = .ok (.ldc 222, 2) := by decide +kernel
theorem dX8_keep_12 : decode cX8_keep 12 = .ok (.ireturn, 1) := by decide +kernel
theorem dX8_keep_13 : decode cX8_keep 13 = .ok (.aload_n 0, 1) := by decide +kernel
theorem dX8_keep_14 : decode cX8_keep 14 = .ok (.iload_n 1, 1) := by decide +kernel
theorem dX8_keep_15 : decode cX8_keep 15 = .ok (.invokevirtual 281, 3) := by decide +kernel
theorem dX8_keep_18 : decode cX8_keep 18 = .ok (.aload_n 0, 1) := by decide +kernel
theorem dX8_keep_19 : decode cX8_keep 19 = .ok (.getfield 93, 3) := by decide +kernel
theorem dX8_keep_22 : decode cX8_keep 22 = .ok (.iload_n 1, 1) := by decide +kernel
theorem dX8_keep_23 : decode cX8_keep 23 = .ok (.iconst 1, 1) := by decide +kernel
theorem dX8_keep_24 : decode cX8_keep 24 = .ok (.bastore, 1) := by decide +kernel
theorem dX8_keep_25 : decode cX8_keep 25 = .ok (.iconst 1, 1) := by decide +kernel
theorem dX8_keep_26 : decode cX8_keep 26 = .ok (.ireturn, 1) := by decide +kernel
theorem dX8_goBack_0 : decode cX8_goBack 0 = .ok (.iload_n 1, 1) := by decide +kernel
theorem dX8_goBack_1 : decode cX8_goBack 1 = .ok (.i2l, 1) := by decide +kernel
theorem dX8_goBack_2 : decode cX8_goBack 2 = .ok (.lconst 0, 1) := by decide +kernel
theorem dX8_goBack_3 : decode cX8_goBack 3 = .ok (.lconst 1, 1) := by decide +kernel
theorem dX8_goBack_4 : decode cX8_goBack 4 = .ok (.invokestatic 102, 3) := by decide +kernel
theorem dX8_goBack_7 : decode cX8_goBack 7 = .ok (.ifCond .ne 6, 3) := by decide +kernel
theorem dX8_goBack_10 : decode cX8_goBack 10 = .ok (.ldc 222, 2) := by decide +kernel
theorem dX8_goBack_12 : decode cX8_goBack 12 = .ok (.ireturn, 1) := by decide +kernel
theorem dX8_goBack_13 : decode cX8_goBack 13 = .ok (.aload_n 0, 1) := by decide +kernel
theorem dX8_goBack_14 : decode cX8_goBack 14 = .ok (.getfield 93, 3) := by decide +kernel
theorem dX8_goBack_17 : decode cX8_goBack 17 = .ok (.iload_n 1, 1) := by decide +kernel
theorem dX8_goBack_18 : decode cX8_goBack 18 = .ok (.baload, 1) := by decide +kernel
theorem dX8_goBack_19 : decode cX8_goBack 19 = .ok (.ifCond .ne 6, 3) := by decide +kernel
theorem dX8_goBack_22 : decode cX8_goBack 22 = .ok (.ldc 235, 2) := by decide +kernel
theorem dX8_goBack_24 : decode cX8_goBack 24 = .ok (.ireturn, 1) := by decide +kernel
theorem dX8_goBack_25 : decode cX8_goBack 25 = .ok (.aload_n 0, 1) := by decide +kernel
theorem dX8_goBack_26 : decode cX8_goBack 26 = .ok (.iload_n 1, 1) := by decide +kernel
theorem dX8_goBack_27 : decode cX8_goBack 27 = .ok (.invokevirtual 285, 3) := by decide +kernel
theorem dX8_goBack_30 : decode cX8_goBack 30 = .ok (.iconst 1, 1) := by decide +kernel
theorem dX8_goBack_31 : decode cX8_goBack 31 = .ok (.ireturn, 1) := by decide +kernel
end
section
/-! ===== THE ABSTRACT MACHINE: the cells are fixed, numbered from 0 on; what they hold are whole numbers ===== -/
abbrev HP : Type := Nat → Nat → Int
abbrev AV : Type := Int ⊕ Int ⊕ Nat
abbrev vI (x : Int) : AV := Sum.inl x
abbrev vL (x : Int) : AV := Sum.inr (Sum.inl x)
abbrev vR (k : Nat) : AV := Sum.inr (Sum.inr k)
def cv (ad : Nat → Nat) (v : AV) : Value := match v with
  | .inl x => .int (Int32.ofInt x)
  | .inr (.inl x) => .long (Int64.ofInt x)
  | .inr (.inr k) => .ref (ad k)
def w32 (x : Int) : Int := (x + 2147483648) % 4294967296 - 2147483648
def w64 (x : Int) : Int := (x + 9223372036854775808) % 18446744073709551616 - 9223372036854775808
def ix (x : Int) : Nat := (w32 x).toNat
def inb (x : Int) (n : Nat) : Prop := 0 ≤ w32 x ∧ w32 x < n
def hset (h : HP) (c j : Nat) (v : Int) : HP := fun c' j' => if c' = c ∧ j' = j then v else h c' j'
def hcpy (h : HP) (c1 p1 c2 p2 n : Nat) : HP := fun c' j' => if c' = c2 ∧ p2 ≤ j' ∧ j' < p2 + n then h c1 (p1 + (j' - p2)) else h c' j'
theorem bmod32 (x : Int) : x.bmod (2 ^ 32) = w32 x := by
  unfold w32 Int.bmod
  simp only [Nat.reducePow]
  omega
theorem bmod64 (x : Int) : x.bmod (2 ^ 64) = w64 x := by
  unfold w64 Int.bmod
  simp only [Nat.reducePow]
  omega
theorem i32T (x : Int) : (Int32.ofInt x).toInt = w32 x := by
  rw [Int32.toInt_ofInt, show Int32.size = 2 ^ 32 from rfl, bmod32]
theorem i64T (x : Int) : (Int64.ofInt x).toInt = w64 x := by
  rw [Int64.toInt_ofInt, show Int64.size = 2 ^ 64 from rfl, bmod64]
theorem i32eq (x y : Int) : (Int32.ofInt x = Int32.ofInt y) ↔ w32 x = w32 y := by
  rw [← Int32.toInt_inj, i32T, i32T]
theorem i32lt (x y : Int) : (Int32.ofInt x < Int32.ofInt y) ↔ w32 x < w32 y := by
  rw [Int32.lt_iff_toInt_lt, i32T, i32T]
theorem i32le (x y : Int) : (Int32.ofInt x ≤ Int32.ofInt y) ↔ w32 x ≤ w32 y := by
  rw [Int32.le_iff_toInt_le, i32T, i32T]
theorem w32_0 : w32 0 = 0 := by decide
theorem i32z : (0 : Int32) = Int32.ofInt 0 := by decide
theorem i32w (x : Int) : Int32.ofInt (w32 x) = Int32.ofInt x := by rw [← i32T, Int32.ofInt_toInt]
theorem i64w (x : Int) : Int64.ofInt (w64 x) = Int64.ofInt x := by rw [← i64T, Int64.ofInt_toInt]
theorem inb_in {x : Int} {n : Nat} (h : inb x n) : vp_in (Int32.ofInt x) n := by
  rw [vp_in_iff, i32T]; exact h
theorem ix_cl {x : Int} {n : Nat} (h : inb x n) : (Int32.ofInt x).toNatClampNeg = ix x := by
  unfold ix
  rw [← i32T]
  rfl
def ia (x y : Int) : Int := (Int32.ofInt x &&& Int32.ofInt y).toInt
def io (x y : Int) : Int := (Int32.ofInt x ||| Int32.ofInt y).toInt
def sl (x y : Int) : Int := (Int32.ofInt x <<< (Int32.ofInt y &&& 31)).toInt
def sr (x y : Int) : Int := (Int32.ofInt x >>> (Int32.ofInt y &&& 31)).toInt
def la (x y : Int) : Int := (Int64.ofInt x &&& Int64.ofInt y).toInt
def lo (x y : Int) : Int := (Int64.ofInt x ||| Int64.ofInt y).toInt
def ll (x y : Int) : Int := (Int64.ofInt x <<< ((Int32.ofInt y).toInt64 &&& 63)).toInt
def lr (x y : Int) : Int := (Int64.ofInt x >>> ((Int32.ofInt y).toInt64 &&& 63)).toInt
def qd (x y : Int) : Int := (w32 x).tdiv (w32 y)
def qm (x y : Int) : Int := (w32 x).tmod (w32 y)
def ld (x y : Int) : Int := (w64 x).tdiv (w64 y)
def lm (x y : Int) : Int := (w64 x).tmod (w64 y)
def ch (x : Int) : Int := (w32 x) % 65536
def bb (x : Int) : Int := (w32 x) % 2
def lc (x y : Int) : Int := if w64 y < w64 x then 1 else if w64 x = w64 y then 0 else -1
theorem qd_ok (x y : Int) : Int32.ofInt x / Int32.ofInt y = Int32.ofInt (qd x y) := by
  rw [← Int32.toInt_inj, Int32.toInt_div, i32T, i32T, i32T, bmod32]; rfl
theorem qm_ok (x y : Int) : Int32.ofInt x - Int32.ofInt x / Int32.ofInt y * Int32.ofInt y = Int32.ofInt (qm x y) := by
  rw [qd_ok, ← i32w x, ← i32w y, ← Int32.ofInt_mul, ← Int32.ofInt_sub]
  congr 1
  unfold qm qd
  rw [Int.tmod_def, Int.mul_comm]
theorem ld_ok (x y : Int) : Int64.ofInt x / Int64.ofInt y = Int64.ofInt (ld x y) := by
  rw [← Int64.toInt_inj, Int64.toInt_div, i64T, i64T, i64T, bmod64]; rfl
theorem lm_ok (x y : Int) : Int64.ofInt x - Int64.ofInt x / Int64.ofInt y * Int64.ofInt y = Int64.ofInt (lm x y) := by
  rw [ld_ok, ← i64w x, ← i64w y, ← Int64.ofInt_mul, ← Int64.ofInt_sub]
  congr 1
  unfold lm ld
  rw [Int.tmod_def, Int.mul_comm]
theorem i2l_ok (x : Int) : (Int32.ofInt x).toInt64 = Int64.ofInt (w32 x) := by
  rw [← Int64.toInt_inj, Int32.toInt_toInt64, i32T, i64T]
  unfold w32 w64
  omega
theorem l2i_ok (x : Int) : (Int64.ofInt x).toInt32 = Int32.ofInt x := by
  rw [← Int32.toInt_inj, Int64.toInt_toInt32, i32T, i64T, bmod32]
  unfold w32 w64
  omega
theorem ofI_nat (x : Int) : (Int32.ofInt x).toBitVec.toNat = (x % 4294967296).toNat := by
  rw [Int32.toBitVec_ofInt, BitVec.toNat_ofInt]
  rfl
theorem ch_ok (x : Int) : ((Int32.ofInt x).toUInt32 % 65536).toInt32 = Int32.ofInt (ch x) := by
  rw [pk_char, ofI_nat]
  show Int32.ofNat _ = _
  rw [← Int32.ofInt_eq_ofNat]
  congr 1
  unfold ch w32
  omega
theorem nar_char (x : Int) : vp_nar .char (Int32.ofInt x) = Int32.ofInt (ch x) := by
  rw [vp_nar_char, ← ch_ok]
  congr 1
theorem nar_bool (x : Int) : vp_nar .boolean (Int32.ofInt x) = Int32.ofInt (bb x) := by
  show Int32.ofInt x &&& 1 = _
  rw [pk_and (Int32.ofInt x) (m := 1) 1 (by decide), ofI_nat]
  show Int32.ofNat _ = _
  rw [← Int32.ofInt_eq_ofNat]
  congr 1
  unfold bb w32
  omega
theorem nar_bool1 {x : Int} (h : x = 0 ∨ x = 1) : narrow .boolean (.int (Int32.ofInt x)) = .int (Int32.ofInt x) := by
  rcases h with rfl | rfl <;> decide
theorem lc_ok (x y : Int) : lg_cmp (Int64.ofInt x) (Int64.ofInt y) = Int32.ofInt (lc x y) := by
  unfold lg_cmp lc
  simp only [gt_iff_lt, Int64.lt_iff_toInt_lt, ← Int64.toInt_inj, i64T]
  by_cases h1 : w64 y < w64 x
  · rw [if_pos h1, if_pos h1]; decide
  · rw [if_neg h1, if_neg h1]
    by_cases h2 : w64 x = w64 y
    · rw [if_pos h2, if_pos h2]; decide
    · rw [if_neg h2, if_neg h2]; decide
theorem i64ne (y : Int) (h : w64 y ≠ 0) : ¬ Int64.ofInt y = 0 := by
  intro e
  rw [← Int64.toInt_inj, i64T] at e
  exact h e
theorem i32ne (y : Int) (h : w32 y ≠ 0) : ¬ Int32.ofInt y = 0 := by
  intro e
  rw [← Int32.toInt_inj, i32T] at e
  exact h e
end
section
/-- the cells, in the order of their making: an object (its class, its fields: 0 an int, 1 a long, r + 2 the cell r), an array (its kind, its length, its cells) -/
def SHL : List ((Nat × List Nat) ⊕ (Nat × Nat × List Nat)) := [
  .inl (7, [3, 0, 0, 4, 9, 14, 15, 23, 31, 48, 49, 53, 56, 64, 70]),
  .inr (1, 400, []),
  .inl (4, [0, 0, 0, 5, 6, 7, 8]),
  .inr (0, 5, []),
  .inr (0, 20, []),
  .inr (0, 20, []),
  .inr (0, 30, []),
  .inl (4, [0, 0, 0, 10, 11, 12, 13]),
  .inr (0, 5, []),
  .inr (0, 20, []),
  .inr (0, 20, []),
  .inr (0, 30, []),
  .inl (2, [3, 9, 0, 0, 0, 0, 0, 0]),
  .inl (5, [4, 0, 0, 0, 0, 16, 17, 18, 19, 20, 21, 22]),
  .inr (0, 32, []),
  .inr (0, 32, []),
  .inr (0, 32, []),
  .inr (0, 32, []),
  .inr (0, 640, []),
  .inr (0, 5, []),
  .inr (0, 30, []),
  .inl (5, [4, 0, 0, 0, 0, 24, 25, 26, 27, 28, 29, 30]),
  .inr (0, 32, []),
  .inr (0, 32, []),
  .inr (0, 32, []),
  .inr (0, 32, []),
  .inr (0, 640, []),
  .inr (0, 5, []),
  .inr (0, 30, []),
  .inr (3, 2, [30, 38]),
  .inl (5, [4, 0, 0, 0, 0, 33, 34, 35, 36, 37, 38, 39]),
  .inr (0, 32, []),
  .inr (0, 32, []),
  .inr (0, 32, []),
  .inr (0, 32, []),
  .inr (0, 640, []),
  .inr (0, 5, []),
  .inr (0, 30, []),
  .inl (5, [4, 0, 0, 0, 0, 41, 42, 43, 44, 45, 46, 47]),
  .inr (0, 32, []),
  .inr (0, 32, []),
  .inr (0, 32, []),
  .inr (0, 32, []),
  .inr (0, 640, []),
  .inr (0, 5, []),
  .inr (0, 30, []),
  .inr (2, 2, []),
  .inl (0, [0, 50, 51, 52]),
  .inr (0, 40, []),
  .inr (0, 40, []),
  .inr (2, 40, []),
  .inl (1, [15, 54, 55, 0]),
  .inr (0, 32, []),
  .inr (0, 32, []),
  .inl (3, [15, 0, 0, 57, 58, 59, 60, 61, 62, 63]),
  .inr (0, 5, []),
  .inr (0, 5, []),
  .inr (0, 5, []),
  .inr (0, 5, []),
  .inr (0, 20, []),
  .inr (0, 5, []),
  .inr (0, 25, []),
  .inl (6, [15, 65, 66, 67, 68, 69, 0]),
  .inr (0, 2, []),
  .inr (0, 2, []),
  .inr (0, 2, []),
  .inr (0, 6, []),
  .inr (0, 6, []),
  .inr (0, 5, []),
  .inl (8, [0, 0, 72, 73, 0, 74, 75, 0, 76, 77, 78, 79, 80, 0, 0, 81, 0, 0, 0, 1, 0, 0, 0, 0, 0, 82, 0, 83, 84, 0, 85, 86, 87, 88, 89, 90, 91, 92, 0, 93, 0, 94, 95, 96, 97, 98]),
  .inr (0, 5, []),
  .inr (0, 30, []),
  .inr (0, 20, []),
  .inr (0, 20, []),
  .inr (0, 32, []),
  .inr (0, 32, []),
  .inr (0, 32, []),
  .inr (0, 32, []),
  .inr (0, 640, []),
  .inr (0, 400, []),
  .inr (0, 5, []),
  .inr (0, 20, []),
  .inr (0, 20, []),
  .inr (0, 30, []),
  .inr (0, 5, []),
  .inr (0, 32, []),
  .inr (0, 5, []),
  .inr (0, 5, []),
  .inr (0, 5, []),
  .inr (0, 5, []),
  .inr (0, 8, []),
  .inr (0, 6561, []),
  .inr (0, 40, []),
  .inr (0, 40, []),
  .inr (2, 40, []),
  .inr (0, 2400, []),
  .inr (2, 2, [])]
theorem so_0 : SHL[0]? = some (.inl (7, [3, 0, 0, 4, 9, 14, 15, 23, 31, 48, 49, 53, 56, 64, 70])) := rfl
theorem so_1 : SHL[1]? = some (.inr (1, 400, [])) := rfl
theorem so_2 : SHL[2]? = some (.inl (4, [0, 0, 0, 5, 6, 7, 8])) := rfl
theorem so_3 : SHL[3]? = some (.inr (0, 5, [])) := rfl
theorem so_4 : SHL[4]? = some (.inr (0, 20, [])) := rfl
theorem so_5 : SHL[5]? = some (.inr (0, 20, [])) := rfl
theorem so_6 : SHL[6]? = some (.inr (0, 30, [])) := rfl
theorem so_7 : SHL[7]? = some (.inl (4, [0, 0, 0, 10, 11, 12, 13])) := rfl
theorem so_8 : SHL[8]? = some (.inr (0, 5, [])) := rfl
theorem so_9 : SHL[9]? = some (.inr (0, 20, [])) := rfl
theorem so_10 : SHL[10]? = some (.inr (0, 20, [])) := rfl
theorem so_11 : SHL[11]? = some (.inr (0, 30, [])) := rfl
theorem so_12 : SHL[12]? = some (.inl (2, [3, 9, 0, 0, 0, 0, 0, 0])) := rfl
theorem so_13 : SHL[13]? = some (.inl (5, [4, 0, 0, 0, 0, 16, 17, 18, 19, 20, 21, 22])) := rfl
theorem so_14 : SHL[14]? = some (.inr (0, 32, [])) := rfl
theorem so_15 : SHL[15]? = some (.inr (0, 32, [])) := rfl
theorem so_16 : SHL[16]? = some (.inr (0, 32, [])) := rfl
theorem so_17 : SHL[17]? = some (.inr (0, 32, [])) := rfl
theorem so_18 : SHL[18]? = some (.inr (0, 640, [])) := rfl
theorem so_19 : SHL[19]? = some (.inr (0, 5, [])) := rfl
theorem so_20 : SHL[20]? = some (.inr (0, 30, [])) := rfl
theorem so_21 : SHL[21]? = some (.inl (5, [4, 0, 0, 0, 0, 24, 25, 26, 27, 28, 29, 30])) := rfl
theorem so_22 : SHL[22]? = some (.inr (0, 32, [])) := rfl
theorem so_23 : SHL[23]? = some (.inr (0, 32, [])) := rfl
theorem so_24 : SHL[24]? = some (.inr (0, 32, [])) := rfl
theorem so_25 : SHL[25]? = some (.inr (0, 32, [])) := rfl
theorem so_26 : SHL[26]? = some (.inr (0, 640, [])) := rfl
theorem so_27 : SHL[27]? = some (.inr (0, 5, [])) := rfl
theorem so_28 : SHL[28]? = some (.inr (0, 30, [])) := rfl
theorem so_29 : SHL[29]? = some (.inr (3, 2, [30, 38])) := rfl
theorem so_30 : SHL[30]? = some (.inl (5, [4, 0, 0, 0, 0, 33, 34, 35, 36, 37, 38, 39])) := rfl
theorem so_31 : SHL[31]? = some (.inr (0, 32, [])) := rfl
theorem so_32 : SHL[32]? = some (.inr (0, 32, [])) := rfl
theorem so_33 : SHL[33]? = some (.inr (0, 32, [])) := rfl
theorem so_34 : SHL[34]? = some (.inr (0, 32, [])) := rfl
theorem so_35 : SHL[35]? = some (.inr (0, 640, [])) := rfl
theorem so_36 : SHL[36]? = some (.inr (0, 5, [])) := rfl
theorem so_37 : SHL[37]? = some (.inr (0, 30, [])) := rfl
theorem so_38 : SHL[38]? = some (.inl (5, [4, 0, 0, 0, 0, 41, 42, 43, 44, 45, 46, 47])) := rfl
theorem so_39 : SHL[39]? = some (.inr (0, 32, [])) := rfl
theorem so_40 : SHL[40]? = some (.inr (0, 32, [])) := rfl
theorem so_41 : SHL[41]? = some (.inr (0, 32, [])) := rfl
theorem so_42 : SHL[42]? = some (.inr (0, 32, [])) := rfl
theorem so_43 : SHL[43]? = some (.inr (0, 640, [])) := rfl
theorem so_44 : SHL[44]? = some (.inr (0, 5, [])) := rfl
theorem so_45 : SHL[45]? = some (.inr (0, 30, [])) := rfl
theorem so_46 : SHL[46]? = some (.inr (2, 2, [])) := rfl
theorem so_47 : SHL[47]? = some (.inl (0, [0, 50, 51, 52])) := rfl
theorem so_48 : SHL[48]? = some (.inr (0, 40, [])) := rfl
theorem so_49 : SHL[49]? = some (.inr (0, 40, [])) := rfl
theorem so_50 : SHL[50]? = some (.inr (2, 40, [])) := rfl
theorem so_51 : SHL[51]? = some (.inl (1, [15, 54, 55, 0])) := rfl
theorem so_52 : SHL[52]? = some (.inr (0, 32, [])) := rfl
theorem so_53 : SHL[53]? = some (.inr (0, 32, [])) := rfl
theorem so_54 : SHL[54]? = some (.inl (3, [15, 0, 0, 57, 58, 59, 60, 61, 62, 63])) := rfl
theorem so_55 : SHL[55]? = some (.inr (0, 5, [])) := rfl
theorem so_56 : SHL[56]? = some (.inr (0, 5, [])) := rfl
theorem so_57 : SHL[57]? = some (.inr (0, 5, [])) := rfl
theorem so_58 : SHL[58]? = some (.inr (0, 5, [])) := rfl
theorem so_59 : SHL[59]? = some (.inr (0, 20, [])) := rfl
theorem so_60 : SHL[60]? = some (.inr (0, 5, [])) := rfl
theorem so_61 : SHL[61]? = some (.inr (0, 25, [])) := rfl
theorem so_62 : SHL[62]? = some (.inl (6, [15, 65, 66, 67, 68, 69, 0])) := rfl
theorem so_63 : SHL[63]? = some (.inr (0, 2, [])) := rfl
theorem so_64 : SHL[64]? = some (.inr (0, 2, [])) := rfl
theorem so_65 : SHL[65]? = some (.inr (0, 2, [])) := rfl
theorem so_66 : SHL[66]? = some (.inr (0, 6, [])) := rfl
theorem so_67 : SHL[67]? = some (.inr (0, 6, [])) := rfl
theorem so_68 : SHL[68]? = some (.inr (0, 5, [])) := rfl
theorem so_69 : SHL[69]? = some (.inl (8, [0, 0, 72, 73, 0, 74, 75, 0, 76, 77, 78, 79, 80, 0, 0, 81, 0, 0, 0, 1, 0, 0, 0, 0, 0, 82, 0, 83, 84, 0, 85, 86, 87, 88, 89, 90, 91, 92, 0, 93, 0, 94, 95, 96, 97, 98])) := rfl
theorem so_70 : SHL[70]? = some (.inr (0, 5, [])) := rfl
theorem so_71 : SHL[71]? = some (.inr (0, 30, [])) := rfl
theorem so_72 : SHL[72]? = some (.inr (0, 20, [])) := rfl
theorem so_73 : SHL[73]? = some (.inr (0, 20, [])) := rfl
theorem so_74 : SHL[74]? = some (.inr (0, 32, [])) := rfl
theorem so_75 : SHL[75]? = some (.inr (0, 32, [])) := rfl
theorem so_76 : SHL[76]? = some (.inr (0, 32, [])) := rfl
theorem so_77 : SHL[77]? = some (.inr (0, 32, [])) := rfl
theorem so_78 : SHL[78]? = some (.inr (0, 640, [])) := rfl
theorem so_79 : SHL[79]? = some (.inr (0, 400, [])) := rfl
theorem so_80 : SHL[80]? = some (.inr (0, 5, [])) := rfl
theorem so_81 : SHL[81]? = some (.inr (0, 20, [])) := rfl
theorem so_82 : SHL[82]? = some (.inr (0, 20, [])) := rfl
theorem so_83 : SHL[83]? = some (.inr (0, 30, [])) := rfl
theorem so_84 : SHL[84]? = some (.inr (0, 5, [])) := rfl
theorem so_85 : SHL[85]? = some (.inr (0, 32, [])) := rfl
theorem so_86 : SHL[86]? = some (.inr (0, 5, [])) := rfl
theorem so_87 : SHL[87]? = some (.inr (0, 5, [])) := rfl
theorem so_88 : SHL[88]? = some (.inr (0, 5, [])) := rfl
theorem so_89 : SHL[89]? = some (.inr (0, 5, [])) := rfl
theorem so_90 : SHL[90]? = some (.inr (0, 8, [])) := rfl
theorem so_91 : SHL[91]? = some (.inr (0, 6561, [])) := rfl
theorem so_92 : SHL[92]? = some (.inr (0, 40, [])) := rfl
theorem so_93 : SHL[93]? = some (.inr (0, 40, [])) := rfl
theorem so_94 : SHL[94]? = some (.inr (2, 40, [])) := rfl
theorem so_95 : SHL[95]? = some (.inr (0, 2400, [])) := rfl
theorem so_96 : SHL[96]? = some (.inr (2, 2, [])) := rfl
end
section
/-! ===== the world that a heap of whole numbers stands for ===== -/
def fv (ad : Nat → Nat) (h : HP) (k j r : Nat) : Value := match r with
  | 0 => .int (Int32.ofInt (h k j))
  | 1 => .long (Int64.ofInt (h k j))
  | r + 2 => .ref (ad r)
def cellE (ad : Nat → Nat) (cA : Nat → ClassId) (h : HP) (k : Nat) : va_E := match SHL[k]? with
  | some (.inl (ci, fs)) => .inr (ci, fs.mapIdx (fun j r => fv ad h k j r))
  | some (.inr (t, n, rs)) => .inl (cA t, n, if t = 3 then .inr (.inr (.inr (.inr (fun j => (rs[j]?).map ad)))) else .inl (fun j => Int32.ofInt (h k j)))
  | none => .inr (0, [])
def wl (ad : Nat → Nat) (cA : Nat → ClassId) (h : HP) : va_W := (List.range SHL.length).map (fun k => (ad k, cellE ad cA h k))
theorem wl_at {ad : Nat → Nat} {cA : Nat → ClassId} {h : HP} {k : Nat} (hk : k < SHL.length) : (wl ad cA h)[k]? = some (ad k, cellE ad cA h k) := by
  unfold wl
  rw [List.getElem?_map, List.getElem?_range hk]
  rfl
theorem wl_lt {k : Nat} {x : (Nat × List Nat) ⊕ (Nat × Nat × List Nat)} (hs : SHL[k]? = some x) : k < SHL.length := (List.getElem?_eq_some_iff.mp hs).1
theorem cellE_congr {ad : Nat → Nat} {cA : Nat → ClassId} {h h' : HP} {k : Nat} (e : ∀ j, h k j = h' k j) : cellE ad cA h k = cellE ad cA h' k := by
  unfold cellE fv
  simp only [e]
theorem wl_set {ad : Nat → Nat} {cA : Nat → ClassId} {h h' : HP} {k : Nat} {e : va_E} (he : cellE ad cA h' k = e) (ho : ∀ c j, c ≠ k → h' c j = h c j) : (wl ad cA h).set k (ad k, e) = wl ad cA h' := by
  apply List.ext_getElem?
  intro i
  by_cases hl : i < SHL.length
  · rw [wl_at hl, List.getElem?_set]
    by_cases hi : k = i
    · subst hi
      rw [if_pos rfl, if_pos (by unfold wl; simpa using hl), he]
    · rw [if_neg hi, wl_at hl, cellE_congr (h := h') (h' := h) (fun j => ho i j (fun q => hi q.symm))]
  · have h1 : ¬ i < (wl ad cA h').length := by unfold wl; simpa using hl
    have h2 : ¬ i < ((wl ad cA h).set k (ad k, e)).length := by unfold wl; simpa using hl
    rw [List.getElem?_eq_none (Nat.not_lt.mp h1), List.getElem?_eq_none (Nat.not_lt.mp h2)]
theorem wl_D {A : Nat → Prop} {ad : Nat → Nat} {cA : Nat → ClassId} {h h' : HP} (hD : va_D A (wl ad cA h)) : va_D A (wl ad cA h') := by
  have key : ∀ (k : Nat) (q : Nat × va_E), (wl ad cA h')[k]? = some q → ∃ q0, (wl ad cA h)[k]? = some q0 ∧ q0.1 = q.1 := by
    intro k q hk
    have hl : k < SHL.length := by
      have := (List.getElem?_eq_some_iff.mp hk).1
      unfold wl at this
      simpa using this
    rw [wl_at hl] at hk
    cases hk
    exact ⟨_, wl_at hl, rfl⟩
  refine ⟨fun i j x y hi hj hxy => ?_, fun k q hk => ?_⟩
  · obtain ⟨x0, h1, h2⟩ := key i x hi
    obtain ⟨y0, h3, h4⟩ := key j y hj
    exact hD.1 i j x0 y0 h1 h3 (by rw [h2, h4]; exact hxy)
  · obtain ⟨q0, h1, h2⟩ := key k q hk
    rw [← h2]
    exact hD.2 k q0 h1
theorem wl_A {ad : Nat → Nat} {cA : Nat → ClassId} {h h' : HP} {sz q : Nat} (hq : va_A (wl ad cA h) sz q) : va_A (wl ad cA h') sz q := by
  rcases hq with ⟨k, e, hk⟩ | hq
  · have hl : k < SHL.length := by
      have := (List.getElem?_eq_some_iff.mp hk).1
      unfold wl at this
      simpa using this
    rw [wl_at hl] at hk
    cases hk
    exact Or.inl ⟨k, _, wl_at hl⟩
  · exact Or.inr hq
def tysA (cA : Nat → ClassId) : List (ClassId × FieldType) := [(cA 0, .int), (cA 1, .char), (cA 2, .boolean), (cA 3, .object "CastOffs$Stock")]
def isNest : Cond → Bool
  | .fieldLinkNest _ _ _ _ _ _ => true
  | .methodLinkNest _ _ _ _ => true
  | _ => false
def cs_TG : List Cond := lw_tbl.filter goodWord
def cs_NW : List Cond := lw_tbl.filter isNest
theorem nw_warm {s U : State} (hW : s.WarmedH U.vm) (h : ∀ w ∈ cs_NW, va_Nw w s) : ∀ w ∈ cs_NW, va_Nw w U := by
  intro w hw
  have h1 := h w hw
  have h2 := (List.mem_filter.mp hw).2
  cases w <;> first | exact va_Nw.warmF hW h1 | exact va_Nw.warmM hW h1 | (exact absurd h2 (by simp [isNest]))
theorem nw_same {s U : State} (hv : s.vm = U.vm) (h : ∀ w ∈ cs_NW, va_Nw w s) : ∀ w ∈ cs_NW, va_Nw w U := by
  intro w hw
  have h1 := h w hw
  have h2 := (List.mem_filter.mp hw).2
  cases w <;> first | exact va_Nw.same rfl hv h1 | (exact absurd h2 (by simp [isNest]))
/-- the String constants, two statics of the JDK -/
def cs_EX (ad : Nat → Nat) (A : Nat → Prop) (U : State) (H : Heap) : Prop :=
  (vk_R "CastOffs$Reader" 55 "sorts" (ad 1000) U ∧ vk_R "CastOffs$Reader" 67 "house" (ad 1001) U ∧ vk_R "CastOffs$Reader" 72 "worth" (ad 1002) U) ∧
  vk_S 3 [5, 5, 5] [[115, 111, 114, 116, 115], [104, 111, 117, 115, 101], [119, 111, 114, 116, 104]] (fun i => ad (1000 + i)) (fun i => ad (1010 + i)) A U H ∧
  va_Z "java/lang/String" "COMPACT_STRINGS" "Z" (.int 1) A U H ∧ va_Zq "jdk/internal/util/Preconditions" "SIOOBE_FORMATTER" "Ljava/util/function/BiFunction;" A U H
theorem cs_EX.to {ad : Nat → Nat} {A B : Nat → Prop} {s U : State} {H H1 : Heap} (h : cs_EX ad A s H) (hW : s.WarmedH U.vm) (hq : ∀ a : Nat, a < H.size → ¬ A a → H1[a]? = H[a]?) (hAB : ∀ q, B q → A q) : cs_EX ad B U H1 := by
  obtain ⟨⟨a1, a2, a3⟩, b, c, d⟩ := h
  exact ⟨⟨a1.warm hW, a2.warm hW, a3.warm hW⟩, ((b.kept hq).narrow hAB).moved hW.alike, ((c.kept hq).narrow hAB).moved hW.alike, ((d.kept hq).narrow hAB).moved hW.alike⟩
theorem cs_EX.blind {ad : Nat → Nat} {A : Nat → Prop} {s U : State} {H : Heap} (h : cs_EX ad A s H) (hv : U.vm = s.vm) (ha : s.vm.Alike U.vm) : cs_EX ad A U H := by
  obtain ⟨⟨a1, a2, a3⟩, b, c, d⟩ := h
  exact ⟨⟨a1.same hv, a2.same hv, a3.same hv⟩, b.moved ha, c.moved ha, d.moved ha⟩
/-! ===== the locals: a list of places ===== -/
def cs_LS (ad : Nat → Nat) (ls : List (Option AV)) (arr : Array Slot) (nL : Nat) : Prop := arr.size = nL ∧ lv_wf arr ∧ ∀ (i : Nat) (v : AV), ls[i]? = some (some v) → arr[i]? = some (.val (cv ad v))
def lvl (ad : Nat → Nat) (ls : List (Option AV)) : List (Nat × Value) := (List.range ls.length).filterMap (fun i => match ls[i]? with
  | some (some v) => some (i, cv ad v)
  | _ => none)
theorem lvl_mem {ad : Nat → Nat} {ls : List (Option AV)} {q : Nat × Value} : q ∈ lvl ad ls ↔ ∃ v, ls[q.1]? = some (some v) ∧ q.2 = cv ad v := by
  unfold lvl
  rw [List.mem_filterMap]
  constructor
  · rintro ⟨i, -, h⟩
    split at h
    next v hv => cases h; exact ⟨v, hv, rfl⟩
    next => cases h
  · rintro ⟨v, h1, h2⟩
    refine ⟨q.1, List.mem_range.mpr (List.getElem?_eq_some_iff.mp h1).1, ?_⟩
    rw [h1]
    show some (q.1, cv ad v) = some q
    rw [← h2]
theorem cs_LS.has {ad : Nat → Nat} {ls : List (Option AV)} {arr : Array Slot} {nL : Nat} (h : cs_LS ad ls arr nL) : lv_has arr nL (lvl ad ls) := by
  refine ⟨h.1, h.2.1, fun q hq => ?_⟩
  obtain ⟨v, h1, h2⟩ := lvl_mem.mp hq
  rw [h2]
  exact h.2.2 q.1 v h1
def isL : Option AV → Bool
  | some (.inr (.inl _)) => true
  | _ => false
theorem cv_cat {ad : Nat → Nat} {v : AV} (h : (cv ad v).category = 2) : isL (some v) = true := by
  rcases v with x | x | x
  · cases h
  · rfl
  · cases h
/-- what a store of one slot leaves -/
theorem cs_LS.st1 {ad : Nat → Nat} {ls : List (Option AV)} {arr' : Array Slot} {nL i : Nat} {v : AV} (hn : ∀ j, j + 1 = i → isL ((ls[j]?).getD none) = false)
    (h : lv_has arr' nL ((i, cv ad v) :: (lvl ad ls).filter (fun q => !(q.1 == i) && !(q.1 + 1 == i && q.2.category == 2)))) : cs_LS ad (ls.set i (some v)) arr' nL := by
  refine ⟨h.1, h.2.1, fun j u hj => ?_⟩
  rw [List.getElem?_set] at hj
  by_cases hij : i = j
  · subst hij
    rw [if_pos rfl] at hj
    split at hj
    · cases hj; exact h.2.2 (i, cv ad v) List.mem_cons_self
    · cases hj
  · rw [if_neg hij] at hj
    refine h.2.2 (j, cv ad u) (List.mem_cons_of_mem _ (List.mem_filter.mpr ⟨lvl_mem.mpr ⟨u, hj, rfl⟩, ?_⟩))
    simp only [Bool.and_eq_true, Bool.not_eq_true', beq_eq_false_iff_ne, ne_eq, Bool.and_eq_false_iff]
    refine ⟨fun q => hij q.symm, ?_⟩
    by_cases hc : (cv ad u).category = 2
    · left
      intro hji
      have := hn j hji
      rw [hj] at this
      have h2 := cv_cat hc
      simp only [Option.getD_some] at this
      rw [this] at h2
      cases h2
    · right; exact hc
theorem cs_LS.st2 {ad : Nat → Nat} {ls : List (Option AV)} {arr' : Array Slot} {nL i : Nat} {v : AV} (hn : ∀ j, j + 1 = i → isL ((ls[j]?).getD none) = false)
    (h : lv_has arr' nL ((i, cv ad v) :: (lvl ad ls).filter (fun q => !(q.1 == i) && (!(q.1 == i + 1) && !(q.1 + 1 == i && q.2.category == 2))))) : cs_LS ad ((ls.set i (some v)).set (i + 1) none) arr' nL := by
  refine ⟨h.1, h.2.1, fun j u hj => ?_⟩
  rw [List.getElem?_set] at hj
  by_cases hij1 : i + 1 = j
  · subst hij1
    rw [if_pos rfl] at hj
    split at hj
    · cases hj
    · cases hj
  rw [if_neg hij1, List.getElem?_set] at hj
  by_cases hij : i = j
  · subst hij
    rw [if_pos rfl] at hj
    split at hj
    · cases hj; exact h.2.2 (i, cv ad v) List.mem_cons_self
    · cases hj
  · rw [if_neg hij] at hj
    refine h.2.2 (j, cv ad u) (List.mem_cons_of_mem _ (List.mem_filter.mpr ⟨lvl_mem.mpr ⟨u, hj, rfl⟩, ?_⟩))
    simp only [Bool.and_eq_true, Bool.not_eq_true', beq_eq_false_iff_ne, ne_eq, Bool.and_eq_false_iff]
    refine ⟨fun q => hij q.symm, fun q => hij1 q.symm, ?_⟩
    by_cases hc : (cv ad u).category = 2
    · left
      intro hji
      have := hn j hji
      rw [hj] at this
      have h2 := cv_cat hc
      simp only [Option.getD_some] at this
      rw [this] at h2
      cases h2
    · right; exact hc
/-- fewer locals: those that are marked -/
def msk : List Bool → List (Option AV) → List (Option AV)
  | true :: bs, x :: ls => x :: msk bs ls
  | false :: bs, _ :: ls => none :: msk bs ls
  | [], ls => ls
  | _, [] => []
theorem msk_at : ∀ (bs : List Bool) (ls : List (Option AV)) (i : Nat) (v : AV), (msk bs ls)[i]? = some (some v) → ls[i]? = some (some v)
  | [], ls, i, v, h => by simpa [msk] using h
  | _ :: _, [], i, v, h => by cases ‹Bool› <;> simp [msk] at h
  | true :: bs, x :: ls, 0, v, h => by simpa [msk] using h
  | false :: bs, x :: ls, 0, v, h => by simp [msk] at h
  | true :: bs, x :: ls, i + 1, v, h => by
    simp only [msk, List.getElem?_cons_succ] at h ⊢
    exact msk_at bs ls i v h
  | false :: bs, x :: ls, i + 1, v, h => by
    simp only [msk, List.getElem?_cons_succ] at h ⊢
    exact msk_at bs ls i v h
/-- the places with which a method begins -/
def entL : List AV → List (Option AV)
  | [] => []
  | .inr (.inl x) :: r => some (vL x) :: none :: entL r
  | v :: r => some v :: entL r
theorem entL_args (ad : Nat → Nat) : ∀ (as : List AV) (b i : Nat) (v : AV), (entL as)[i]? = some (some v) → (b + i, cv ad v) ∈ lv_args b (as.map (cv ad))
  | [], b, i, v, h => by simp [entL] at h
  | .inl x :: r, b, i, v, h => by
    simp only [List.map_cons, lv_args]
    cases i with
    | zero =>
      simp only [entL, List.getElem?_cons_zero] at h
      cases h
      exact List.mem_cons_self
    | succ i =>
      simp only [entL, List.getElem?_cons_succ] at h
      have := entL_args ad r (b + 1) i v h
      refine List.mem_cons_of_mem _ ?_
      rw [if_neg (by intro q; cases q)]
      rw [show b + (i + 1) = b + 1 + i from by omega]
      exact this
  | .inr (.inr x) :: r, b, i, v, h => by
    simp only [List.map_cons, lv_args]
    cases i with
    | zero =>
      simp only [entL, List.getElem?_cons_zero] at h
      cases h
      exact List.mem_cons_self
    | succ i =>
      simp only [entL, List.getElem?_cons_succ] at h
      have := entL_args ad r (b + 1) i v h
      refine List.mem_cons_of_mem _ ?_
      rw [if_neg (by intro q; cases q)]
      rw [show b + (i + 1) = b + 1 + i from by omega]
      exact this
  | .inr (.inl x) :: r, b, i, v, h => by
    simp only [List.map_cons, lv_args]
    match i, h with
    | 0, h =>
      simp only [entL, List.getElem?_cons_zero] at h
      cases h
      exact List.mem_cons_self
    | 1, h =>
      simp [entL] at h
    | i + 2, h =>
      simp only [entL, List.getElem?_cons_succ] at h
      have := entL_args ad r (b + 2) i v h
      refine List.mem_cons_of_mem _ ?_
      rw [if_pos (by rfl)]
      rw [show b + (i + 2) = b + 2 + i from by omega]
      exact this
theorem entL_len (ad : Nat → Nat) : ∀ as : List AV, (lg_sl (as.map (cv ad))).length = (entL as).length
  | [] => rfl
  | .inl x :: r => by
    have := entL_len ad r
    simp only [lg_sl, List.map_cons, List.flatMap_cons, entL, List.length_append, List.length_cons] at this ⊢
    rw [this, if_neg (by intro q; cases q)]
    simp; omega
  | .inr (.inr x) :: r => by
    have := entL_len ad r
    simp only [lg_sl, List.map_cons, List.flatMap_cons, entL, List.length_append, List.length_cons] at this ⊢
    rw [this, if_neg (by intro q; cases q)]
    simp; omega
  | .inr (.inl x) :: r => by
    have := entL_len ad r
    simp only [lg_sl, List.map_cons, List.flatMap_cons, entL, List.length_append, List.length_cons] at this ⊢
    rw [this, if_pos (by rfl)]
    simp; omega
end
section
abbrev Cx : Type := Program × Launch × Env × Room × State × MethodId × Array Value × List Frame × Method × Code × (State → Prop) × va_G × (Nat → ClassId) × (Nat → Nat) × (Nat → Prop) × Nat × Nat
/-- the machine at pc, with these locals, this stack, this heap, comes to its end -/
def AW (X : Cx) (nL pc : Nat) (ls : List (Option AV)) (st : List AV) (h : HP) : Prop := match X with
  | (p, l, e, R, s, m, args, below, meth, c, Z, D, cA, ad, A, kc, ks) => ∀ (H : Heap) (locs : List Loc) (arr : Array Slot), va_P D vwCl (wl ad cA h) H → va_D A (wl ad cA h) → va_S A s.heap H locs → cs_LS ad ls arr nL → W p l e R s m args below meth c H locs kc ks Z (F0 m pc arr (st.map (cv ad)))
/-- what stays within a method -/
def Fx (X : Cx) (cc : ByteArray) (own : String) (nL d : Nat) : Prop := match X with
  | (p, l, e, R, s, m, args, below, meth, c, Z, D, cA, ad, A, kc, ks) => p.tables.exec = Jvm.exec ∧ c.code = cc ∧ c.maxLocals = nL ∧ s.vm.findClass own = some m.cls ∧ (∀ w ∈ cs_TG, w.before args s = true) ∧ (∀ w ∈ cs_NW, va_Nw w s) ∧ va_K D vwCl (tysA cA) s ∧ (∀ q, s.heap.size ≤ q → A q) ∧ cs_EX ad A s s.heap ∧ d ≤ R.frames ∧ 40 * d ≤ R.locals ∧ kc ≤ R.cells ∧ ks ≤ R.slots
/-- how a method ends -/
def Rx (X : Cx) (ret : Option FieldType) (Q : Option AV → HP → Prop) : Prop := match X with
  | (p, l, e, R, s, m, args, below, meth, c, Z, D, cA, ad, A, kc, ks) => meth.sig.returnType = ret ∧ meth.locks = false ∧ ∃ (Qc : Array Value → State → Outcome → State → Prop) (free : Addr → Prop), Z = MQ below Qc args s kc ks free ∧ (∀ q, A q → free q) ∧ ∀ (t : State) (H : Heap) (locs : List Loc) (r : Option AV) (h : HP), t.heap = H → s.WarmedH t.vm → va_P D vwCl (wl ad cA h) H → va_S A s.heap H locs → Q r h → Qc args s (.returned (r.map (cv ad))) t
section AROWS
variable {X : Cx} {cc : ByteArray} {own : String} {nL d pc pn : Nat} {ls : List (Option AV)} {st : List AV} {h : HP}
theorem AW.iconst {n : Int} (F : Fx X cc own nL d) (hd : decode cc pc = .ok (.iconst n, 1)) (hp : pc + 1 = pn) (k : AW X nL pn ls (vI n :: st) h) : AW X nL pc ls (st) h := by
  obtain ⟨p, l, e, R, s, m, args, below, meth, c, Z, D, cA, ad, A, kc, ks⟩ := X
  obtain ⟨hx, hb, hml, hown, hts, hnw, hK, hA, hE, hf, hlo, hc, hs⟩ := F
  subst hp
  intro H locs arr hP hD hS hl
  refine lv_iconst hx hb hd rfl ?_
  exact k H locs arr hP hD hS hl
theorem AW.bipush {n : Int} (F : Fx X cc own nL d) (hd : decode cc pc = .ok (.bipush n, 2)) (hp : pc + 2 = pn) (hv : (Int8.ofInt n).toInt32 = Int32.ofInt n) (k : AW X nL pn ls (vI n :: st) h) : AW X nL pc ls (st) h := by
  obtain ⟨p, l, e, R, s, m, args, below, meth, c, Z, D, cA, ad, A, kc, ks⟩ := X
  obtain ⟨hx, hb, hml, hown, hts, hnw, hK, hA, hE, hf, hlo, hc, hs⟩ := F
  subst hp
  intro H locs arr hP hD hS hl
  refine lv_bipush hx hb hd hv ?_
  exact k H locs arr hP hD hS hl
theorem AW.sipush {n : Int} (F : Fx X cc own nL d) (hd : decode cc pc = .ok (.sipush n, 3)) (hp : pc + 3 = pn) (hv : (Int16.ofInt n).toInt32 = Int32.ofInt n) (k : AW X nL pn ls (vI n :: st) h) : AW X nL pc ls (st) h := by
  obtain ⟨p, l, e, R, s, m, args, below, meth, c, Z, D, cA, ad, A, kc, ks⟩ := X
  obtain ⟨hx, hb, hml, hown, hts, hnw, hK, hA, hE, hf, hlo, hc, hs⟩ := F
  subst hp
  intro H locs arr hP hD hS hl
  refine lv_sipush hx hb hd hv ?_
  exact k H locs arr hP hD hS hl
theorem AW.lconst {n : Fin 2} {x : Int} (F : Fx X cc own nL d) (hd : decode cc pc = .ok (.lconst n, 1)) (hp : pc + 1 = pn) (hv : Int64.ofNat (n : Nat) = Int64.ofInt x) (k : AW X nL pn ls (vL x :: st) h) : AW X nL pc ls (st) h := by
  obtain ⟨p, l, e, R, s, m, args, below, meth, c, Z, D, cA, ad, A, kc, ks⟩ := X
  obtain ⟨hx, hb, hml, hown, hts, hnw, hK, hA, hE, hf, hlo, hc, hs⟩ := F
  subst hp
  intro H locs arr hP hD hS hl
  refine lv_lconst hx hb hd hv ?_
  exact k H locs arr hP hD hS hl
theorem AW.ldc {idx : Nat} {v : Int32} {x : Int} (F : Fx X cc own nL d) (hd : decode cc pc = .ok (.ldc idx, 2)) (hp : pc + 2 = pn) (hw : Cond.constant own idx v ∈ cs_TG) (hv : v = Int32.ofInt x) (k : AW X nL pn ls (vI x :: st) h) : AW X nL pc ls (st) h := by
  obtain ⟨p, l, e, R, s, m, args, below, meth, c, Z, D, cA, ad, A, kc, ks⟩ := X
  obtain ⟨hx, hb, hml, hown, hts, hnw, hK, hA, hE, hf, hlo, hc, hs⟩ := F
  subst hp
  intro H locs arr hP hD hS hl
  refine lv_ldc hx hb hown (hts _ hw) hd ?_
  subst hv
  exact k H locs arr hP hD hS hl
theorem AW.ldcw {idx : Nat} {v : Int32} {x : Int} (F : Fx X cc own nL d) (hd : decode cc pc = .ok (.ldc_w idx, 3)) (hp : pc + 3 = pn) (hw : Cond.constant own idx v ∈ cs_TG) (hv : v = Int32.ofInt x) (k : AW X nL pn ls (vI x :: st) h) : AW X nL pc ls (st) h := by
  obtain ⟨p, l, e, R, s, m, args, below, meth, c, Z, D, cA, ad, A, kc, ks⟩ := X
  obtain ⟨hx, hb, hml, hown, hts, hnw, hK, hA, hE, hf, hlo, hc, hs⟩ := F
  subst hp
  intro H locs arr hP hD hS hl
  refine lv_ldcw hx hb hown (hts _ hw) hd ?_
  subst hv
  exact k H locs arr hP hD hS hl
theorem AW.ldc2 {idx : Nat} {v : Int64} {x : Int} (F : Fx X cc own nL d) (hd : decode cc pc = .ok (.ldc2_w idx, 3)) (hp : pc + 3 = pn) (hw : Cond.constantLong own idx v ∈ cs_TG) (hv : v = Int64.ofInt x) (k : AW X nL pn ls (vL x :: st) h) : AW X nL pc ls (st) h := by
  obtain ⟨p, l, e, R, s, m, args, below, meth, c, Z, D, cA, ad, A, kc, ks⟩ := X
  obtain ⟨hx, hb, hml, hown, hts, hnw, hK, hA, hE, hf, hlo, hc, hs⟩ := F
  subst hp
  intro H locs arr hP hD hS hl
  refine lv_ldc2 hx hb hown (hts _ hw) hd ?_
  subst hv
  exact k H locs arr hP hD hS hl
theorem AW.iload_n {k : Fin 4} {i : Nat} {x : Int} (F : Fx X cc own nL d) (hd : decode cc pc = .ok (.iload_n k, 1)) (hp : pc + 1 = pn) (hi : (k : Nat) = i) (hv : ls[i]? = some (some (vI x))) (k : AW X nL pn ls (vI x :: st) h) : AW X nL pc ls (st) h := by
  obtain ⟨p, l, e, R, s, m, args, below, meth, c, Z, D, cA, ad, A, kc, ks⟩ := X
  obtain ⟨hx, hb, hml, hown, hts, hnw, hK, hA, hE, hf, hlo, hc, hs⟩ := F
  subst hp
  intro H locs arr hP hD hS hl
  refine lv_iload_n hx hb hd hi (hl.2.2 i _ hv) ?_
  exact k H locs arr hP hD hS hl
theorem AW.iload {i : Nat} {x : Int} (F : Fx X cc own nL d) (hd : decode cc pc = .ok (.iload i, 2)) (hp : pc + 2 = pn) (hv : ls[i]? = some (some (vI x))) (k : AW X nL pn ls (vI x :: st) h) : AW X nL pc ls (st) h := by
  obtain ⟨p, l, e, R, s, m, args, below, meth, c, Z, D, cA, ad, A, kc, ks⟩ := X
  obtain ⟨hx, hb, hml, hown, hts, hnw, hK, hA, hE, hf, hlo, hc, hs⟩ := F
  subst hp
  intro H locs arr hP hD hS hl
  refine lv_iload hx hb hd (hl.2.2 i _ hv) ?_
  exact k H locs arr hP hD hS hl
theorem AW.lload_n {k : Fin 4} {i : Nat} {x : Int} (F : Fx X cc own nL d) (hd : decode cc pc = .ok (.lload_n k, 1)) (hp : pc + 1 = pn) (hi : (k : Nat) = i) (hv : ls[i]? = some (some (vL x))) (k : AW X nL pn ls (vL x :: st) h) : AW X nL pc ls (st) h := by
  obtain ⟨p, l, e, R, s, m, args, below, meth, c, Z, D, cA, ad, A, kc, ks⟩ := X
  obtain ⟨hx, hb, hml, hown, hts, hnw, hK, hA, hE, hf, hlo, hc, hs⟩ := F
  subst hp
  intro H locs arr hP hD hS hl
  refine lv_lload_n hx hb hd hi (hl.2.2 i _ hv) ?_
  exact k H locs arr hP hD hS hl
theorem AW.lload {i : Nat} {x : Int} (F : Fx X cc own nL d) (hd : decode cc pc = .ok (.lload i, 2)) (hp : pc + 2 = pn) (hv : ls[i]? = some (some (vL x))) (k : AW X nL pn ls (vL x :: st) h) : AW X nL pc ls (st) h := by
  obtain ⟨p, l, e, R, s, m, args, below, meth, c, Z, D, cA, ad, A, kc, ks⟩ := X
  obtain ⟨hx, hb, hml, hown, hts, hnw, hK, hA, hE, hf, hlo, hc, hs⟩ := F
  subst hp
  intro H locs arr hP hD hS hl
  refine lv_lload hx hb hd (hl.2.2 i _ hv) ?_
  exact k H locs arr hP hD hS hl
theorem AW.aload_n {k : Fin 4} {i : Nat} {x : Nat} (F : Fx X cc own nL d) (hd : decode cc pc = .ok (.aload_n k, 1)) (hp : pc + 1 = pn) (hi : (k : Nat) = i) (hv : ls[i]? = some (some (vR x))) (k : AW X nL pn ls (vR x :: st) h) : AW X nL pc ls (st) h := by
  obtain ⟨p, l, e, R, s, m, args, below, meth, c, Z, D, cA, ad, A, kc, ks⟩ := X
  obtain ⟨hx, hb, hml, hown, hts, hnw, hK, hA, hE, hf, hlo, hc, hs⟩ := F
  subst hp
  intro H locs arr hP hD hS hl
  refine lv_aload_n hx hb hd hi (hl.2.2 i _ hv) ?_
  exact k H locs arr hP hD hS hl
theorem AW.aload {i : Nat} {x : Nat} (F : Fx X cc own nL d) (hd : decode cc pc = .ok (.aload i, 2)) (hp : pc + 2 = pn) (hv : ls[i]? = some (some (vR x))) (k : AW X nL pn ls (vR x :: st) h) : AW X nL pc ls (st) h := by
  obtain ⟨p, l, e, R, s, m, args, below, meth, c, Z, D, cA, ad, A, kc, ks⟩ := X
  obtain ⟨hx, hb, hml, hown, hts, hnw, hK, hA, hE, hf, hlo, hc, hs⟩ := F
  subst hp
  intro H locs arr hP hD hS hl
  refine lv_aload hx hb hd (hl.2.2 i _ hv) ?_
  exact k H locs arr hP hD hS hl
theorem AW.istore_n {k : Fin 4} {i : Nat} {x : Int} {ls2 : List (Option AV)} (F : Fx X cc own nL d) (hd : decode cc pc = .ok (.istore_n k, 1)) (hp : pc + 1 = pn) (hi : (k : Nat) = i) (hn : i < nL) (hnl : isL ((ls[i - 1]?).getD none) = false) (hls : ls.set i (some (vI x)) = ls2) (k : AW X nL pn ls2 st h) : AW X nL pc ls (vI x :: st) h := by
  obtain ⟨p, l, e, R, s, m, args, below, meth, c, Z, D, cA, ad, A, kc, ks⟩ := X
  obtain ⟨hx, hb, hml, hown, hts, hnw, hK, hA, hE, hf, hlo, hc, hs⟩ := F
  subst hp
  intro H locs arr hP hD hS hl
  subst hls
  refine lv_istore_n hx hb hd hi hl.has hn rfl (fun arr2 hl2 => ?_)
  exact k H locs arr2 hP hD hS (cs_LS.st1 (fun j hj => by rw [show j = i - 1 from by omega]; exact hnl) hl2)
theorem AW.istore {i : Nat} {x : Int} {ls2 : List (Option AV)} (F : Fx X cc own nL d) (hd : decode cc pc = .ok (.istore i, 2)) (hp : pc + 2 = pn) (hn : i < nL) (hnl : isL ((ls[i - 1]?).getD none) = false) (hls : ls.set i (some (vI x)) = ls2) (k : AW X nL pn ls2 st h) : AW X nL pc ls (vI x :: st) h := by
  obtain ⟨p, l, e, R, s, m, args, below, meth, c, Z, D, cA, ad, A, kc, ks⟩ := X
  obtain ⟨hx, hb, hml, hown, hts, hnw, hK, hA, hE, hf, hlo, hc, hs⟩ := F
  subst hp
  intro H locs arr hP hD hS hl
  subst hls
  refine lv_istore hx hb hd hl.has hn rfl (fun arr2 hl2 => ?_)
  exact k H locs arr2 hP hD hS (cs_LS.st1 (fun j hj => by rw [show j = i - 1 from by omega]; exact hnl) hl2)
theorem AW.lstore_n {k : Fin 4} {i : Nat} {x : Int} {ls2 : List (Option AV)} (F : Fx X cc own nL d) (hd : decode cc pc = .ok (.lstore_n k, 1)) (hp : pc + 1 = pn) (hi : (k : Nat) = i) (hn : i + 1 < nL) (hnl : isL ((ls[i - 1]?).getD none) = false) (hls : (ls.set i (some (vL x))).set (i + 1) none = ls2) (k : AW X nL pn ls2 st h) : AW X nL pc ls (vL x :: st) h := by
  obtain ⟨p, l, e, R, s, m, args, below, meth, c, Z, D, cA, ad, A, kc, ks⟩ := X
  obtain ⟨hx, hb, hml, hown, hts, hnw, hK, hA, hE, hf, hlo, hc, hs⟩ := F
  subst hp
  intro H locs arr hP hD hS hl
  subst hls
  refine lv_lstore_n hx hb hd hi hl.has hn rfl (fun arr2 hl2 => ?_)
  exact k H locs arr2 hP hD hS (cs_LS.st2 (fun j hj => by rw [show j = i - 1 from by omega]; exact hnl) hl2)
theorem AW.lstore {i : Nat} {x : Int} {ls2 : List (Option AV)} (F : Fx X cc own nL d) (hd : decode cc pc = .ok (.lstore i, 2)) (hp : pc + 2 = pn) (hn : i + 1 < nL) (hnl : isL ((ls[i - 1]?).getD none) = false) (hls : (ls.set i (some (vL x))).set (i + 1) none = ls2) (k : AW X nL pn ls2 st h) : AW X nL pc ls (vL x :: st) h := by
  obtain ⟨p, l, e, R, s, m, args, below, meth, c, Z, D, cA, ad, A, kc, ks⟩ := X
  obtain ⟨hx, hb, hml, hown, hts, hnw, hK, hA, hE, hf, hlo, hc, hs⟩ := F
  subst hp
  intro H locs arr hP hD hS hl
  subst hls
  refine lv_lstore hx hb hd hl.has hn rfl (fun arr2 hl2 => ?_)
  exact k H locs arr2 hP hD hS (cs_LS.st2 (fun j hj => by rw [show j = i - 1 from by omega]; exact hnl) hl2)
theorem AW.astore_n {k : Fin 4} {i : Nat} {x : Nat} {ls2 : List (Option AV)} (F : Fx X cc own nL d) (hd : decode cc pc = .ok (.astore_n k, 1)) (hp : pc + 1 = pn) (hi : (k : Nat) = i) (hn : i < nL) (hnl : isL ((ls[i - 1]?).getD none) = false) (hls : ls.set i (some (vR x)) = ls2) (k : AW X nL pn ls2 st h) : AW X nL pc ls (vR x :: st) h := by
  obtain ⟨p, l, e, R, s, m, args, below, meth, c, Z, D, cA, ad, A, kc, ks⟩ := X
  obtain ⟨hx, hb, hml, hown, hts, hnw, hK, hA, hE, hf, hlo, hc, hs⟩ := F
  subst hp
  intro H locs arr hP hD hS hl
  subst hls
  refine lv_astore_n hx hb hd hi hl.has hn rfl (fun arr2 hl2 => ?_)
  exact k H locs arr2 hP hD hS (cs_LS.st1 (fun j hj => by rw [show j = i - 1 from by omega]; exact hnl) hl2)
theorem AW.astore {i : Nat} {x : Nat} {ls2 : List (Option AV)} (F : Fx X cc own nL d) (hd : decode cc pc = .ok (.astore i, 2)) (hp : pc + 2 = pn) (hn : i < nL) (hnl : isL ((ls[i - 1]?).getD none) = false) (hls : ls.set i (some (vR x)) = ls2) (k : AW X nL pn ls2 st h) : AW X nL pc ls (vR x :: st) h := by
  obtain ⟨p, l, e, R, s, m, args, below, meth, c, Z, D, cA, ad, A, kc, ks⟩ := X
  obtain ⟨hx, hb, hml, hown, hts, hnw, hK, hA, hE, hf, hlo, hc, hs⟩ := F
  subst hp
  intro H locs arr hP hD hS hl
  subst hls
  refine lv_astore hx hb hd hl.has hn rfl (fun arr2 hl2 => ?_)
  exact k H locs arr2 hP hD hS (cs_LS.st1 (fun j hj => by rw [show j = i - 1 from by omega]; exact hnl) hl2)
theorem AW.iinc {i : Nat} {n x : Int} {ls2 : List (Option AV)} (F : Fx X cc own nL d) (hd : decode cc pc = .ok (.iinc i n, 3)) (hp : pc + 3 = pn) (hv : ls[i]? = some (some (vI x))) (hn : i < nL) (hnl : isL ((ls[i - 1]?).getD none) = false) (hls : ls.set i (some (vI (x + n))) = ls2) (k : AW X nL pn ls2 st h) : AW X nL pc ls st h := by
  obtain ⟨p, l, e, R, s, m, args, below, meth, c, Z, D, cA, ad, A, kc, ks⟩ := X
  obtain ⟨hx, hb, hml, hown, hts, hnw, hK, hA, hE, hf, hlo, hc, hs⟩ := F
  subst hp
  intro H locs arr hP hD hS hl
  subst hls
  obtain ⟨q, hq⟩ := List.getElem?_of_mem (lvl_mem.mpr ⟨vI x, hv, rfl⟩ : (i, cv ad (vI x)) ∈ lvl ad ls)
  refine lv_iinc (v := Int32.ofInt (x + n)) hx hb hd hl.has hq (by rw [Int32.ofInt_add]) hn rfl (fun arr2 hl2 => ?_)
  exact k H locs arr2 hP hD hS (cs_LS.st1 (v := vI (x + n)) (fun j hj => by rw [show j = i - 1 from by omega]; exact hnl) hl2)
theorem AW.iadd {x y : Int} (F : Fx X cc own nL d) (hd : decode cc pc = .ok (.iadd, 1)) (hp : pc + 1 = pn) (k : AW X nL pn ls (vI (x + y) :: st) h) : AW X nL pc ls (vI y :: vI x :: st) h := by
  obtain ⟨p, l, e, R, s, m, args, below, meth, c, Z, D, cA, ad, A, kc, ks⟩ := X
  obtain ⟨hx, hb, hml, hown, hts, hnw, hK, hA, hE, hf, hlo, hc, hs⟩ := F
  subst hp
  intro H locs arr hP hD hS hl
  refine lv_iadd hx hb hd ?_
  rw [← Int32.ofInt_add]
  exact k H locs arr hP hD hS hl
theorem AW.isub {x y : Int} (F : Fx X cc own nL d) (hd : decode cc pc = .ok (.isub, 1)) (hp : pc + 1 = pn) (k : AW X nL pn ls (vI (x - y) :: st) h) : AW X nL pc ls (vI y :: vI x :: st) h := by
  obtain ⟨p, l, e, R, s, m, args, below, meth, c, Z, D, cA, ad, A, kc, ks⟩ := X
  obtain ⟨hx, hb, hml, hown, hts, hnw, hK, hA, hE, hf, hlo, hc, hs⟩ := F
  subst hp
  intro H locs arr hP hD hS hl
  refine lv_isub hx hb hd ?_
  rw [← Int32.ofInt_sub]
  exact k H locs arr hP hD hS hl
theorem AW.imul {x y : Int} (F : Fx X cc own nL d) (hd : decode cc pc = .ok (.imul, 1)) (hp : pc + 1 = pn) (k : AW X nL pn ls (vI (x * y) :: st) h) : AW X nL pc ls (vI y :: vI x :: st) h := by
  obtain ⟨p, l, e, R, s, m, args, below, meth, c, Z, D, cA, ad, A, kc, ks⟩ := X
  obtain ⟨hx, hb, hml, hown, hts, hnw, hK, hA, hE, hf, hlo, hc, hs⟩ := F
  subst hp
  intro H locs arr hP hD hS hl
  refine lv_imul hx hb hd ?_
  rw [← Int32.ofInt_mul]
  exact k H locs arr hP hD hS hl
theorem AW.iand {x y : Int} (F : Fx X cc own nL d) (hd : decode cc pc = .ok (.iand, 1)) (hp : pc + 1 = pn) (k : AW X nL pn ls (vI (ia x y) :: st) h) : AW X nL pc ls (vI y :: vI x :: st) h := by
  obtain ⟨p, l, e, R, s, m, args, below, meth, c, Z, D, cA, ad, A, kc, ks⟩ := X
  obtain ⟨hx, hb, hml, hown, hts, hnw, hK, hA, hE, hf, hlo, hc, hs⟩ := F
  subst hp
  intro H locs arr hP hD hS hl
  refine lv_iand hx hb hd ?_
  rw [show Int32.ofInt x &&& Int32.ofInt y = Int32.ofInt (ia x y) from (Int32.ofInt_toInt _).symm]
  exact k H locs arr hP hD hS hl
theorem AW.ior {x y : Int} (F : Fx X cc own nL d) (hd : decode cc pc = .ok (.ior, 1)) (hp : pc + 1 = pn) (k : AW X nL pn ls (vI (io x y) :: st) h) : AW X nL pc ls (vI y :: vI x :: st) h := by
  obtain ⟨p, l, e, R, s, m, args, below, meth, c, Z, D, cA, ad, A, kc, ks⟩ := X
  obtain ⟨hx, hb, hml, hown, hts, hnw, hK, hA, hE, hf, hlo, hc, hs⟩ := F
  subst hp
  intro H locs arr hP hD hS hl
  refine lv_ior hx hb hd ?_
  rw [show Int32.ofInt x ||| Int32.ofInt y = Int32.ofInt (io x y) from (Int32.ofInt_toInt _).symm]
  exact k H locs arr hP hD hS hl
theorem AW.ishl {x y : Int} (F : Fx X cc own nL d) (hd : decode cc pc = .ok (.ishl, 1)) (hp : pc + 1 = pn) (k : AW X nL pn ls (vI (sl x y) :: st) h) : AW X nL pc ls (vI y :: vI x :: st) h := by
  obtain ⟨p, l, e, R, s, m, args, below, meth, c, Z, D, cA, ad, A, kc, ks⟩ := X
  obtain ⟨hx, hb, hml, hown, hts, hnw, hK, hA, hE, hf, hlo, hc, hs⟩ := F
  subst hp
  intro H locs arr hP hD hS hl
  refine lv_ishl hx hb hd ?_
  rw [show Int32.ofInt x <<< (Int32.ofInt y &&& 31) = Int32.ofInt (sl x y) from (Int32.ofInt_toInt _).symm]
  exact k H locs arr hP hD hS hl
theorem AW.ishr {x y : Int} (F : Fx X cc own nL d) (hd : decode cc pc = .ok (.ishr, 1)) (hp : pc + 1 = pn) (k : AW X nL pn ls (vI (sr x y) :: st) h) : AW X nL pc ls (vI y :: vI x :: st) h := by
  obtain ⟨p, l, e, R, s, m, args, below, meth, c, Z, D, cA, ad, A, kc, ks⟩ := X
  obtain ⟨hx, hb, hml, hown, hts, hnw, hK, hA, hE, hf, hlo, hc, hs⟩ := F
  subst hp
  intro H locs arr hP hD hS hl
  refine lv_ishr hx hb hd ?_
  rw [show Int32.ofInt x >>> (Int32.ofInt y &&& 31) = Int32.ofInt (sr x y) from (Int32.ofInt_toInt _).symm]
  exact k H locs arr hP hD hS hl
theorem AW.idiv {x y : Int} (F : Fx X cc own nL d) (hd : decode cc pc = .ok (.idiv, 1)) (hp : pc + 1 = pn) (hz : w32 y ≠ 0) (k : AW X nL pn ls (vI (qd x y) :: st) h) : AW X nL pc ls (vI y :: vI x :: st) h := by
  obtain ⟨p, l, e, R, s, m, args, below, meth, c, Z, D, cA, ad, A, kc, ks⟩ := X
  obtain ⟨hx, hb, hml, hown, hts, hnw, hK, hA, hE, hf, hlo, hc, hs⟩ := F
  subst hp
  intro H locs arr hP hD hS hl
  refine lv_idiv hx hb hd (i32ne y hz) ?_
  rw [qd_ok]
  exact k H locs arr hP hD hS hl
theorem AW.irem {x y : Int} (F : Fx X cc own nL d) (hd : decode cc pc = .ok (.irem, 1)) (hp : pc + 1 = pn) (hz : w32 y ≠ 0) (k : AW X nL pn ls (vI (qm x y) :: st) h) : AW X nL pc ls (vI y :: vI x :: st) h := by
  obtain ⟨p, l, e, R, s, m, args, below, meth, c, Z, D, cA, ad, A, kc, ks⟩ := X
  obtain ⟨hx, hb, hml, hown, hts, hnw, hK, hA, hE, hf, hlo, hc, hs⟩ := F
  subst hp
  intro H locs arr hP hD hS hl
  refine lv_irem hx hb hd (i32ne y hz) ?_
  rw [qm_ok]
  exact k H locs arr hP hD hS hl
theorem AW.ladd {x y : Int} (F : Fx X cc own nL d) (hd : decode cc pc = .ok (.ladd, 1)) (hp : pc + 1 = pn) (k : AW X nL pn ls (vL (x + y) :: st) h) : AW X nL pc ls (vL y :: vL x :: st) h := by
  obtain ⟨p, l, e, R, s, m, args, below, meth, c, Z, D, cA, ad, A, kc, ks⟩ := X
  obtain ⟨hx, hb, hml, hown, hts, hnw, hK, hA, hE, hf, hlo, hc, hs⟩ := F
  subst hp
  intro H locs arr hP hD hS hl
  refine lv_ladd hx hb hd ?_
  rw [← Int64.ofInt_add]
  exact k H locs arr hP hD hS hl
theorem AW.lsub {x y : Int} (F : Fx X cc own nL d) (hd : decode cc pc = .ok (.lsub, 1)) (hp : pc + 1 = pn) (k : AW X nL pn ls (vL (x - y) :: st) h) : AW X nL pc ls (vL y :: vL x :: st) h := by
  obtain ⟨p, l, e, R, s, m, args, below, meth, c, Z, D, cA, ad, A, kc, ks⟩ := X
  obtain ⟨hx, hb, hml, hown, hts, hnw, hK, hA, hE, hf, hlo, hc, hs⟩ := F
  subst hp
  intro H locs arr hP hD hS hl
  refine lv_lsub hx hb hd ?_
  rw [← Int64.ofInt_sub]
  exact k H locs arr hP hD hS hl
theorem AW.lmul {x y : Int} (F : Fx X cc own nL d) (hd : decode cc pc = .ok (.lmul, 1)) (hp : pc + 1 = pn) (k : AW X nL pn ls (vL (x * y) :: st) h) : AW X nL pc ls (vL y :: vL x :: st) h := by
  obtain ⟨p, l, e, R, s, m, args, below, meth, c, Z, D, cA, ad, A, kc, ks⟩ := X
  obtain ⟨hx, hb, hml, hown, hts, hnw, hK, hA, hE, hf, hlo, hc, hs⟩ := F
  subst hp
  intro H locs arr hP hD hS hl
  refine lv_lmul hx hb hd ?_
  rw [← Int64.ofInt_mul]
  exact k H locs arr hP hD hS hl
theorem AW.land {x y : Int} (F : Fx X cc own nL d) (hd : decode cc pc = .ok (.land, 1)) (hp : pc + 1 = pn) (k : AW X nL pn ls (vL (la x y) :: st) h) : AW X nL pc ls (vL y :: vL x :: st) h := by
  obtain ⟨p, l, e, R, s, m, args, below, meth, c, Z, D, cA, ad, A, kc, ks⟩ := X
  obtain ⟨hx, hb, hml, hown, hts, hnw, hK, hA, hE, hf, hlo, hc, hs⟩ := F
  subst hp
  intro H locs arr hP hD hS hl
  refine lv_land hx hb hd ?_
  rw [show Int64.ofInt x &&& Int64.ofInt y = Int64.ofInt (la x y) from (Int64.ofInt_toInt _).symm]
  exact k H locs arr hP hD hS hl
theorem AW.lor {x y : Int} (F : Fx X cc own nL d) (hd : decode cc pc = .ok (.lor, 1)) (hp : pc + 1 = pn) (k : AW X nL pn ls (vL (lo x y) :: st) h) : AW X nL pc ls (vL y :: vL x :: st) h := by
  obtain ⟨p, l, e, R, s, m, args, below, meth, c, Z, D, cA, ad, A, kc, ks⟩ := X
  obtain ⟨hx, hb, hml, hown, hts, hnw, hK, hA, hE, hf, hlo, hc, hs⟩ := F
  subst hp
  intro H locs arr hP hD hS hl
  refine lv_lor hx hb hd ?_
  rw [show Int64.ofInt x ||| Int64.ofInt y = Int64.ofInt (lo x y) from (Int64.ofInt_toInt _).symm]
  exact k H locs arr hP hD hS hl
theorem AW.ldiv {x y : Int} (F : Fx X cc own nL d) (hd : decode cc pc = .ok (.ldiv, 1)) (hp : pc + 1 = pn) (hz : w64 y ≠ 0) (k : AW X nL pn ls (vL (ld x y) :: st) h) : AW X nL pc ls (vL y :: vL x :: st) h := by
  obtain ⟨p, l, e, R, s, m, args, below, meth, c, Z, D, cA, ad, A, kc, ks⟩ := X
  obtain ⟨hx, hb, hml, hown, hts, hnw, hK, hA, hE, hf, hlo, hc, hs⟩ := F
  subst hp
  intro H locs arr hP hD hS hl
  refine lv_ldiv hx hb hd (i64ne y hz) ?_
  rw [ld_ok]
  exact k H locs arr hP hD hS hl
theorem AW.lrem {x y : Int} (F : Fx X cc own nL d) (hd : decode cc pc = .ok (.lrem, 1)) (hp : pc + 1 = pn) (hz : w64 y ≠ 0) (k : AW X nL pn ls (vL (lm x y) :: st) h) : AW X nL pc ls (vL y :: vL x :: st) h := by
  obtain ⟨p, l, e, R, s, m, args, below, meth, c, Z, D, cA, ad, A, kc, ks⟩ := X
  obtain ⟨hx, hb, hml, hown, hts, hnw, hK, hA, hE, hf, hlo, hc, hs⟩ := F
  subst hp
  intro H locs arr hP hD hS hl
  refine lv_lrem hx hb hd (i64ne y hz) ?_
  rw [lm_ok]
  exact k H locs arr hP hD hS hl
theorem AW.lshl {x y : Int} (F : Fx X cc own nL d) (hd : decode cc pc = .ok (.lshl, 1)) (hp : pc + 1 = pn) (k : AW X nL pn ls (vL (ll x y) :: st) h) : AW X nL pc ls (vI y :: vL x :: st) h := by
  obtain ⟨p, l, e, R, s, m, args, below, meth, c, Z, D, cA, ad, A, kc, ks⟩ := X
  obtain ⟨hx, hb, hml, hown, hts, hnw, hK, hA, hE, hf, hlo, hc, hs⟩ := F
  subst hp
  intro H locs arr hP hD hS hl
  refine lv_lshl (v := Int64.ofInt (ll x y)) hx hb hd (Int64.ofInt_toInt _).symm ?_
  exact k H locs arr hP hD hS hl
theorem AW.lshr {x y : Int} (F : Fx X cc own nL d) (hd : decode cc pc = .ok (.lshr, 1)) (hp : pc + 1 = pn) (k : AW X nL pn ls (vL (lr x y) :: st) h) : AW X nL pc ls (vI y :: vL x :: st) h := by
  obtain ⟨p, l, e, R, s, m, args, below, meth, c, Z, D, cA, ad, A, kc, ks⟩ := X
  obtain ⟨hx, hb, hml, hown, hts, hnw, hK, hA, hE, hf, hlo, hc, hs⟩ := F
  subst hp
  intro H locs arr hP hD hS hl
  refine lv_lshr (v := Int64.ofInt (lr x y)) hx hb hd (Int64.ofInt_toInt _).symm ?_
  exact k H locs arr hP hD hS hl
theorem AW.lcmp {x y : Int} (F : Fx X cc own nL d) (hd : decode cc pc = .ok (.lcmp, 1)) (hp : pc + 1 = pn) (k : AW X nL pn ls (vI (lc x y) :: st) h) : AW X nL pc ls (vL y :: vL x :: st) h := by
  obtain ⟨p, l, e, R, s, m, args, below, meth, c, Z, D, cA, ad, A, kc, ks⟩ := X
  obtain ⟨hx, hb, hml, hown, hts, hnw, hK, hA, hE, hf, hlo, hc, hs⟩ := F
  subst hp
  intro H locs arr hP hD hS hl
  refine W.lcmp hx hb hd ?_
  rw [lc_ok]
  exact k H locs arr hP hD hS hl
theorem AW.ineg {x : Int} (F : Fx X cc own nL d) (hd : decode cc pc = .ok (.ineg, 1)) (hp : pc + 1 = pn) (k : AW X nL pn ls (vI (-x) :: st) h) : AW X nL pc ls (vI x :: st) h := by
  obtain ⟨p, l, e, R, s, m, args, below, meth, c, Z, D, cA, ad, A, kc, ks⟩ := X
  obtain ⟨hx, hb, hml, hown, hts, hnw, hK, hA, hE, hf, hlo, hc, hs⟩ := F
  subst hp
  intro H locs arr hP hD hS hl
  refine lv_ineg hx hb hd ?_
  rw [← Int32.ofInt_neg]
  exact k H locs arr hP hD hS hl
theorem AW.i2l {x : Int} (F : Fx X cc own nL d) (hd : decode cc pc = .ok (.i2l, 1)) (hp : pc + 1 = pn) (k : AW X nL pn ls (vL (w32 x) :: st) h) : AW X nL pc ls (vI x :: st) h := by
  obtain ⟨p, l, e, R, s, m, args, below, meth, c, Z, D, cA, ad, A, kc, ks⟩ := X
  obtain ⟨hx, hb, hml, hown, hts, hnw, hK, hA, hE, hf, hlo, hc, hs⟩ := F
  subst hp
  intro H locs arr hP hD hS hl
  refine lv_i2l hx hb hd (i2l_ok x) ?_
  exact k H locs arr hP hD hS hl
theorem AW.l2i {x : Int} (F : Fx X cc own nL d) (hd : decode cc pc = .ok (.l2i, 1)) (hp : pc + 1 = pn) (k : AW X nL pn ls (vI x :: st) h) : AW X nL pc ls (vL x :: st) h := by
  obtain ⟨p, l, e, R, s, m, args, below, meth, c, Z, D, cA, ad, A, kc, ks⟩ := X
  obtain ⟨hx, hb, hml, hown, hts, hnw, hK, hA, hE, hf, hlo, hc, hs⟩ := F
  subst hp
  intro H locs arr hP hD hS hl
  refine lv_l2i hx hb hd (l2i_ok x) ?_
  exact k H locs arr hP hD hS hl
theorem AW.i2c {x : Int} (F : Fx X cc own nL d) (hd : decode cc pc = .ok (.i2c, 1)) (hp : pc + 1 = pn) (k : AW X nL pn ls (vI (ch x) :: st) h) : AW X nL pc ls (vI x :: st) h := by
  obtain ⟨p, l, e, R, s, m, args, below, meth, c, Z, D, cA, ad, A, kc, ks⟩ := X
  obtain ⟨hx, hb, hml, hown, hts, hnw, hK, hA, hE, hf, hlo, hc, hs⟩ := F
  subst hp
  intro H locs arr hP hD hS hl
  refine lv_i2c hx hb hd (ch_ok x) ?_
  exact k H locs arr hP hD hS hl
theorem AW.dupI {x : Int} (F : Fx X cc own nL d) (hd : decode cc pc = .ok (.dup, 1)) (hp : pc + 1 = pn) (k : AW X nL pn ls (vI x :: vI x :: st) h) : AW X nL pc ls (vI x :: st) h := by
  obtain ⟨p, l, e, R, s, m, args, below, meth, c, Z, D, cA, ad, A, kc, ks⟩ := X
  obtain ⟨hx, hb, hml, hown, hts, hnw, hK, hA, hE, hf, hlo, hc, hs⟩ := F
  subst hp
  intro H locs arr hP hD hS hl
  refine lv_dup hx hb hd rfl ?_
  exact k H locs arr hP hD hS hl
theorem AW.dupR {x : Nat} (F : Fx X cc own nL d) (hd : decode cc pc = .ok (.dup, 1)) (hp : pc + 1 = pn) (k : AW X nL pn ls (vR x :: vR x :: st) h) : AW X nL pc ls (vR x :: st) h := by
  obtain ⟨p, l, e, R, s, m, args, below, meth, c, Z, D, cA, ad, A, kc, ks⟩ := X
  obtain ⟨hx, hb, hml, hown, hts, hnw, hK, hA, hE, hf, hlo, hc, hs⟩ := F
  subst hp
  intro H locs arr hP hD hS hl
  refine lv_dup hx hb hd rfl ?_
  exact k H locs arr hP hD hS hl
theorem AW.popI {x : Int} (F : Fx X cc own nL d) (hd : decode cc pc = .ok (.pop, 1)) (hp : pc + 1 = pn) (k : AW X nL pn ls (st) h) : AW X nL pc ls (vI x :: st) h := by
  obtain ⟨p, l, e, R, s, m, args, below, meth, c, Z, D, cA, ad, A, kc, ks⟩ := X
  obtain ⟨hx, hb, hml, hown, hts, hnw, hK, hA, hE, hf, hlo, hc, hs⟩ := F
  subst hp
  intro H locs arr hP hD hS hl
  refine lv_pop hx hb hd rfl ?_
  exact k H locs arr hP hD hS hl
theorem AW.dup2IR {x : Int} {r : Nat} (F : Fx X cc own nL d) (hd : decode cc pc = .ok (.dup2, 1)) (hp : pc + 1 = pn) (k : AW X nL pn ls (vI x :: vR r :: vI x :: vR r :: st) h) : AW X nL pc ls (vI x :: vR r :: st) h := by
  obtain ⟨p, l, e, R, s, m, args, below, meth, c, Z, D, cA, ad, A, kc, ks⟩ := X
  obtain ⟨hx, hb, hml, hown, hts, hnw, hK, hA, hE, hf, hlo, hc, hs⟩ := F
  subst hp
  intro H locs arr hP hD hS hl
  refine lv_dup2_11 hx hb hd rfl rfl ?_
  exact k H locs arr hP hD hS hl
theorem AW.icmp_lt {x y : Int} {off : Int} {tg : Nat} {a b : Prop} (F : Fx X cc own nL d) (hd : decode cc pc = .ok (.if_icmp .lt off, 3)) (hp : pc + 3 = pn) (ht : (pc : Int) + off = (tg : Int)) (hb : (w32 x < w32 y → a) ∧ (¬ (w32 x < w32 y) → b)) (kt : a → AW X nL tg ls st h) (kf : b → AW X nL pn ls st h) : AW X nL pc ls (vI y :: vI x :: st) h := by
  obtain ⟨p, l, e, R, s, m, args, below, meth, c, Z, D, cA, ad, A, kc, ks⟩ := X
  obtain ⟨hx, hbc, hml, hown, hts, hnw, hK, hA, hE, hf, hlo, hc, hs⟩ := F
  subst hp
  intro H locs arr hP hD hS hl
  refine lv_icmp_lt hx hbc hd ht (fun q => kt (hb.1 ((i32lt x y).mp q)) H locs arr hP hD hS hl) (fun q => kf (hb.2 (fun z => q ((i32lt x y).mpr z))) H locs arr hP hD hS hl)
theorem AW.icmp_ge {x y : Int} {off : Int} {tg : Nat} {a b : Prop} (F : Fx X cc own nL d) (hd : decode cc pc = .ok (.if_icmp .ge off, 3)) (hp : pc + 3 = pn) (ht : (pc : Int) + off = (tg : Int)) (hb : (w32 y ≤ w32 x → a) ∧ (¬ (w32 y ≤ w32 x) → b)) (kt : a → AW X nL tg ls st h) (kf : b → AW X nL pn ls st h) : AW X nL pc ls (vI y :: vI x :: st) h := by
  obtain ⟨p, l, e, R, s, m, args, below, meth, c, Z, D, cA, ad, A, kc, ks⟩ := X
  obtain ⟨hx, hbc, hml, hown, hts, hnw, hK, hA, hE, hf, hlo, hc, hs⟩ := F
  subst hp
  intro H locs arr hP hD hS hl
  refine lv_icmp_ge hx hbc hd ht (fun q => kt (hb.1 ((i32le y x).mp q)) H locs arr hP hD hS hl) (fun q => kf (hb.2 (fun z => q ((i32le y x).mpr z))) H locs arr hP hD hS hl)
theorem AW.icmp_gt {x y : Int} {off : Int} {tg : Nat} {a b : Prop} (F : Fx X cc own nL d) (hd : decode cc pc = .ok (.if_icmp .gt off, 3)) (hp : pc + 3 = pn) (ht : (pc : Int) + off = (tg : Int)) (hb : (w32 y < w32 x → a) ∧ (¬ (w32 y < w32 x) → b)) (kt : a → AW X nL tg ls st h) (kf : b → AW X nL pn ls st h) : AW X nL pc ls (vI y :: vI x :: st) h := by
  obtain ⟨p, l, e, R, s, m, args, below, meth, c, Z, D, cA, ad, A, kc, ks⟩ := X
  obtain ⟨hx, hbc, hml, hown, hts, hnw, hK, hA, hE, hf, hlo, hc, hs⟩ := F
  subst hp
  intro H locs arr hP hD hS hl
  refine lv_icmp_gt hx hbc hd ht (fun q => kt (hb.1 ((i32lt y x).mp q)) H locs arr hP hD hS hl) (fun q => kf (hb.2 (fun z => q ((i32lt y x).mpr z))) H locs arr hP hD hS hl)
theorem AW.icmp_le {x y : Int} {off : Int} {tg : Nat} {a b : Prop} (F : Fx X cc own nL d) (hd : decode cc pc = .ok (.if_icmp .le off, 3)) (hp : pc + 3 = pn) (ht : (pc : Int) + off = (tg : Int)) (hb : (w32 x ≤ w32 y → a) ∧ (¬ (w32 x ≤ w32 y) → b)) (kt : a → AW X nL tg ls st h) (kf : b → AW X nL pn ls st h) : AW X nL pc ls (vI y :: vI x :: st) h := by
  obtain ⟨p, l, e, R, s, m, args, below, meth, c, Z, D, cA, ad, A, kc, ks⟩ := X
  obtain ⟨hx, hbc, hml, hown, hts, hnw, hK, hA, hE, hf, hlo, hc, hs⟩ := F
  subst hp
  intro H locs arr hP hD hS hl
  refine lv_icmp_le hx hbc hd ht (fun q => kt (hb.1 ((i32le x y).mp q)) H locs arr hP hD hS hl) (fun q => kf (hb.2 (fun z => q ((i32le x y).mpr z))) H locs arr hP hD hS hl)
theorem AW.icmp_eq {x y : Int} {off : Int} {tg : Nat} {a b : Prop} (F : Fx X cc own nL d) (hd : decode cc pc = .ok (.if_icmp .eq off, 3)) (hp : pc + 3 = pn) (ht : (pc : Int) + off = (tg : Int)) (hb : (w32 x = w32 y → a) ∧ (¬ (w32 x = w32 y) → b)) (kt : a → AW X nL tg ls st h) (kf : b → AW X nL pn ls st h) : AW X nL pc ls (vI y :: vI x :: st) h := by
  obtain ⟨p, l, e, R, s, m, args, below, meth, c, Z, D, cA, ad, A, kc, ks⟩ := X
  obtain ⟨hx, hbc, hml, hown, hts, hnw, hK, hA, hE, hf, hlo, hc, hs⟩ := F
  subst hp
  intro H locs arr hP hD hS hl
  refine lv_icmp_eq hx hbc hd ht (fun q => kt (hb.1 ((i32eq x y).mp q)) H locs arr hP hD hS hl) (fun q => kf (hb.2 (fun z => q ((i32eq x y).mpr z))) H locs arr hP hD hS hl)
theorem AW.icmp_ne {x y : Int} {off : Int} {tg : Nat} {a b : Prop} (F : Fx X cc own nL d) (hd : decode cc pc = .ok (.if_icmp .ne off, 3)) (hp : pc + 3 = pn) (ht : (pc : Int) + off = (tg : Int)) (hb : (w32 x = w32 y → a) ∧ (¬ (w32 x = w32 y) → b)) (kt : b → AW X nL tg ls st h) (kf : a → AW X nL pn ls st h) : AW X nL pc ls (vI y :: vI x :: st) h := by
  obtain ⟨p, l, e, R, s, m, args, below, meth, c, Z, D, cA, ad, A, kc, ks⟩ := X
  obtain ⟨hx, hbc, hml, hown, hts, hnw, hK, hA, hE, hf, hlo, hc, hs⟩ := F
  subst hp
  intro H locs arr hP hD hS hl
  refine lv_icmp_ne hx hbc hd ht (fun q => kt (hb.2 (fun z => q ((i32eq x y).mpr z))) H locs arr hP hD hS hl) (fun q => kf (hb.1 ((i32eq x y).mp q)) H locs arr hP hD hS hl)
theorem i32lt0 (x : Int) : (Int32.ofInt x < 0) ↔ w32 x < 0 := by rw [i32z, i32lt, w32_0]
theorem i32gt0 (x : Int) : (0 < Int32.ofInt x) ↔ 0 < w32 x := by rw [i32z, i32lt, w32_0]
theorem i32le0 (x : Int) : (Int32.ofInt x ≤ 0) ↔ w32 x ≤ 0 := by rw [i32z, i32le, w32_0]
theorem i32ge0 (x : Int) : (0 ≤ Int32.ofInt x) ↔ 0 ≤ w32 x := by rw [i32z, i32le, w32_0]
theorem i32eq0 (x : Int) : (Int32.ofInt x = 0) ↔ w32 x = 0 := by rw [i32z, i32eq, w32_0]
theorem AW.if_lt {x : Int} {off : Int} {tg : Nat} {a b : Prop} (F : Fx X cc own nL d) (hd : decode cc pc = .ok (.ifCond .lt off, 3)) (hp : pc + 3 = pn) (ht : (pc : Int) + off = (tg : Int)) (hb : (w32 x < 0 → a) ∧ (¬ (w32 x < 0) → b)) (kt : a → AW X nL tg ls st h) (kf : b → AW X nL pn ls st h) : AW X nL pc ls (vI x :: st) h := by
  obtain ⟨p, l, e, R, s, m, args, below, meth, c, Z, D, cA, ad, A, kc, ks⟩ := X
  obtain ⟨hx, hbc, hml, hown, hts, hnw, hK, hA, hE, hf, hlo, hc, hs⟩ := F
  subst hp
  intro H locs arr hP hD hS hl
  refine lv_if_lt hx hbc hd ht (fun q => kt (hb.1 ((i32lt0 x).mp q)) H locs arr hP hD hS hl) (fun q => kf (hb.2 (fun z => q ((i32lt0 x).mpr z))) H locs arr hP hD hS hl)
theorem AW.if_ge {x : Int} {off : Int} {tg : Nat} {a b : Prop} (F : Fx X cc own nL d) (hd : decode cc pc = .ok (.ifCond .ge off, 3)) (hp : pc + 3 = pn) (ht : (pc : Int) + off = (tg : Int)) (hb : (0 ≤ w32 x → a) ∧ (¬ (0 ≤ w32 x) → b)) (kt : a → AW X nL tg ls st h) (kf : b → AW X nL pn ls st h) : AW X nL pc ls (vI x :: st) h := by
  obtain ⟨p, l, e, R, s, m, args, below, meth, c, Z, D, cA, ad, A, kc, ks⟩ := X
  obtain ⟨hx, hbc, hml, hown, hts, hnw, hK, hA, hE, hf, hlo, hc, hs⟩ := F
  subst hp
  intro H locs arr hP hD hS hl
  refine lv_if_ge hx hbc hd ht (fun q => kt (hb.1 ((i32ge0 x).mp q)) H locs arr hP hD hS hl) (fun q => kf (hb.2 (fun z => q ((i32ge0 x).mpr z))) H locs arr hP hD hS hl)
theorem AW.if_gt {x : Int} {off : Int} {tg : Nat} {a b : Prop} (F : Fx X cc own nL d) (hd : decode cc pc = .ok (.ifCond .gt off, 3)) (hp : pc + 3 = pn) (ht : (pc : Int) + off = (tg : Int)) (hb : (0 < w32 x → a) ∧ (¬ (0 < w32 x) → b)) (kt : a → AW X nL tg ls st h) (kf : b → AW X nL pn ls st h) : AW X nL pc ls (vI x :: st) h := by
  obtain ⟨p, l, e, R, s, m, args, below, meth, c, Z, D, cA, ad, A, kc, ks⟩ := X
  obtain ⟨hx, hbc, hml, hown, hts, hnw, hK, hA, hE, hf, hlo, hc, hs⟩ := F
  subst hp
  intro H locs arr hP hD hS hl
  refine lv_if_gt hx hbc hd ht (fun q => kt (hb.1 ((i32gt0 x).mp q)) H locs arr hP hD hS hl) (fun q => kf (hb.2 (fun z => q ((i32gt0 x).mpr z))) H locs arr hP hD hS hl)
theorem AW.if_le {x : Int} {off : Int} {tg : Nat} {a b : Prop} (F : Fx X cc own nL d) (hd : decode cc pc = .ok (.ifCond .le off, 3)) (hp : pc + 3 = pn) (ht : (pc : Int) + off = (tg : Int)) (hb : (w32 x ≤ 0 → a) ∧ (¬ (w32 x ≤ 0) → b)) (kt : a → AW X nL tg ls st h) (kf : b → AW X nL pn ls st h) : AW X nL pc ls (vI x :: st) h := by
  obtain ⟨p, l, e, R, s, m, args, below, meth, c, Z, D, cA, ad, A, kc, ks⟩ := X
  obtain ⟨hx, hbc, hml, hown, hts, hnw, hK, hA, hE, hf, hlo, hc, hs⟩ := F
  subst hp
  intro H locs arr hP hD hS hl
  refine lv_if_le hx hbc hd ht (fun q => kt (hb.1 ((i32le0 x).mp q)) H locs arr hP hD hS hl) (fun q => kf (hb.2 (fun z => q ((i32le0 x).mpr z))) H locs arr hP hD hS hl)
theorem AW.if_eq {x : Int} {off : Int} {tg : Nat} {a b : Prop} (F : Fx X cc own nL d) (hd : decode cc pc = .ok (.ifCond .eq off, 3)) (hp : pc + 3 = pn) (ht : (pc : Int) + off = (tg : Int)) (hb : (w32 x = 0 → a) ∧ (¬ (w32 x = 0) → b)) (kt : a → AW X nL tg ls st h) (kf : b → AW X nL pn ls st h) : AW X nL pc ls (vI x :: st) h := by
  obtain ⟨p, l, e, R, s, m, args, below, meth, c, Z, D, cA, ad, A, kc, ks⟩ := X
  obtain ⟨hx, hbc, hml, hown, hts, hnw, hK, hA, hE, hf, hlo, hc, hs⟩ := F
  subst hp
  intro H locs arr hP hD hS hl
  refine lv_if_eq hx hbc hd ht (fun q => kt (hb.1 ((i32eq0 x).mp q)) H locs arr hP hD hS hl) (fun q => kf (hb.2 (fun z => q ((i32eq0 x).mpr z))) H locs arr hP hD hS hl)
theorem AW.if_ne {x : Int} {off : Int} {tg : Nat} {a b : Prop} (F : Fx X cc own nL d) (hd : decode cc pc = .ok (.ifCond .ne off, 3)) (hp : pc + 3 = pn) (ht : (pc : Int) + off = (tg : Int)) (hb : (w32 x = 0 → a) ∧ (¬ (w32 x = 0) → b)) (kt : b → AW X nL tg ls st h) (kf : a → AW X nL pn ls st h) : AW X nL pc ls (vI x :: st) h := by
  obtain ⟨p, l, e, R, s, m, args, below, meth, c, Z, D, cA, ad, A, kc, ks⟩ := X
  obtain ⟨hx, hbc, hml, hown, hts, hnw, hK, hA, hE, hf, hlo, hc, hs⟩ := F
  subst hp
  intro H locs arr hP hD hS hl
  refine lv_if_ne hx hbc hd ht (fun q => kt (hb.2 (fun z => q ((i32eq0 x).mpr z))) H locs arr hP hD hS hl) (fun q => kf (hb.1 ((i32eq0 x).mp q)) H locs arr hP hD hS hl)
theorem AW.goto {off : Int} {tg : Nat} (F : Fx X cc own nL d) (hd : decode cc pc = .ok (.goto off, 3)) (ht : (pc : Int) + off = (tg : Int)) (k : AW X nL tg ls st h) : AW X nL pc ls st h := by
  obtain ⟨p, l, e, R, s, m, args, below, meth, c, Z, D, cA, ad, A, kc, ks⟩ := X
  obtain ⟨hx, hb, hml, hown, hts, hnw, hK, hA, hE, hf, hlo, hc, hs⟩ := F
  intro H locs arr hP hD hS hl
  exact lv_goto hx hb hd ht (k H locs arr hP hD hS hl)
theorem AW.tabIn {x : Int} {dflt lo2 hi2 off : Int} {offs : Array Int} {len tg : Nat} (v : Int) (F : Fx X cc own nL d) (hd : decode cc pc = .ok (.tableswitch dflt lo2 hi2 offs, len)) (hv : w32 x = v) (h1 : ¬ v < lo2) (h2 : ¬ hi2 < v) (ho : offs[(v - lo2).toNat]? = some off) (ht : (pc : Int) + off = (tg : Int)) (k : AW X nL tg ls st h) : AW X nL pc ls (vI x :: st) h := by
  obtain ⟨p, l, e, R, s, m, args, below, meth, c, Z, D, cA, ad, A, kc, ks⟩ := X
  obtain ⟨hx, hb, hml, hown, hts, hnw, hK, hA, hE, hf, hlo, hc, hs⟩ := F
  intro H locs arr hP hD hS hl
  subst hv
  exact lv_tableIn hx hb hd (by rw [i32T]; exact h1) (by rw [i32T]; exact h2) (by rw [i32T]; exact ho) ht (k H locs arr hP hD hS hl)
theorem AW.tabOut {x : Int} {dflt lo2 hi2 : Int} {offs : Array Int} {len tg : Nat} (F : Fx X cc own nL d) (hd : decode cc pc = .ok (.tableswitch dflt lo2 hi2 offs, len)) (hv : w32 x < lo2 ∨ hi2 < w32 x) (ht : (pc : Int) + dflt = (tg : Int)) (k : AW X nL tg ls st h) : AW X nL pc ls (vI x :: st) h := by
  obtain ⟨p, l, e, R, s, m, args, below, meth, c, Z, D, cA, ad, A, kc, ks⟩ := X
  obtain ⟨hx, hb, hml, hown, hts, hnw, hK, hA, hE, hf, hlo, hc, hs⟩ := F
  intro H locs arr hP hD hS hl
  exact lv_tableOut hx hb hd (by rw [i32T]; exact hv) ht (k H locs arr hP hD hS hl)
theorem AW.drop {ls2 : List (Option AV)} (bs : List Bool) (hls : msk bs ls = ls2) (k : AW X nL pc ls2 st h) : AW X nL pc ls st h := by
  obtain ⟨p, l, e, R, s, m, args, below, meth, c, Z, D, cA, ad, A, kc, ks⟩ := X
  subst hls
  intro H locs arr hP hD hS hl
  exact k H locs arr hP hD hS ⟨hl.1, hl.2.1, fun i v q => hl.2.2 i v (msk_at bs ls i v q)⟩
theorem AW.iret {x : Int} {Q : Option AV → HP → Prop} (F : Fx X cc own nL d) (G : Rx X (some .int) Q) (hd : decode cc pc = .ok (.ireturn, 1)) (hq : Q (some (vI x)) h) : AW X nL pc ls [vI x] h := by
  obtain ⟨p, l, e, R, s, m, args, below, meth, c, Z, D, cA, ad, A, kc, ks⟩ := X
  obtain ⟨hx, hb, hml, hown, hts, hnw, hK, hA, hE, hf, hlo, hc, hs⟩ := F
  intro H locs arr hP hD hS hl
  obtain ⟨hr, hlk, Qc, free, rfl, hfr, hQ⟩ := G
  exact W.iret hx hb hr (fun t ht hW => hQ t H locs (some (vI x)) h ht hW hP hS hq) (fun q hq2 => hfr _ (hS.2.2 q hq2)) hd
theorem AW.zret {x : Int} {Q : Option AV → HP → Prop} (F : Fx X cc own nL d) (G : Rx X (some .boolean) Q) (hd : decode cc pc = .ok (.ireturn, 1)) (h01 : x = 0 ∨ x = 1) (hq : Q (some (vI x)) h) : AW X nL pc ls [vI x] h := by
  obtain ⟨p, l, e, R, s, m, args, below, meth, c, Z, D, cA, ad, A, kc, ks⟩ := X
  obtain ⟨hx, hb, hml, hown, hts, hnw, hK, hA, hE, hf, hlo, hc, hs⟩ := F
  intro H locs arr hP hD hS hl
  obtain ⟨hr, hlk, Qc, free, rfl, hfr, hQ⟩ := G
  exact W.zret hx hb hr (nar_bool1 h01) (fun t ht hW => hQ t H locs (some (vI x)) h ht hW hP hS hq) (fun q hq2 => hfr _ (hS.2.2 q hq2)) hd
theorem AW.lret {x : Int} {Q : Option AV → HP → Prop} (F : Fx X cc own nL d) (G : Rx X (some .long) Q) (hd : decode cc pc = .ok (.lreturn, 1)) (hq : Q (some (vL x)) h) : AW X nL pc ls [vL x] h := by
  obtain ⟨p, l, e, R, s, m, args, below, meth, c, Z, D, cA, ad, A, kc, ks⟩ := X
  obtain ⟨hx, hb, hml, hown, hts, hnw, hK, hA, hE, hf, hlo, hc, hs⟩ := F
  intro H locs arr hP hD hS hl
  obtain ⟨hr, hlk, Qc, free, rfl, hfr, hQ⟩ := G
  exact W.lret hx hb hr (fun t ht hW => hQ t H locs (some (vL x)) h ht hW hP hS hq) (fun q hq2 => hfr _ (hS.2.2 q hq2)) hd
theorem AW.vret {Q : Option AV → HP → Prop} (F : Fx X cc own nL d) (G : Rx X none Q) (hd : decode cc pc = .ok (.return_, 1)) (hq : Q none h) : AW X nL pc ls [] h := by
  obtain ⟨p, l, e, R, s, m, args, below, meth, c, Z, D, cA, ad, A, kc, ks⟩ := X
  obtain ⟨hx, hb, hml, hown, hts, hnw, hK, hA, hE, hf, hlo, hc, hs⟩ := F
  intro H locs arr hP hD hS hl
  obtain ⟨hr, hlk, Qc, free, rfl, hfr, hQ⟩ := G
  exact W.vret hx hb hr (fun t ht hW => hQ t H locs none h ht hW hP hS hq) (fun q hq2 => hfr _ (hS.2.2 q hq2)) hd
end AROWS
end
section
/-! ===== fields, arrays, calls ===== -/
def GL (own : String) (idx ci k : Nat) : Prop := ∃ (C : String) (T : u_T) (N : Nat), vwCl[ci]? = some (C, T, N) ∧ k < N ∧ (∀ w ∈ u_ws C T N, w ∈ cs_TG) ∧ (Cond.fieldLink own idx (T k).1 (T k).2.1 (T k).2.2.1 ∈ cs_TG ∨ ∃ host, Cond.fieldLinkNest own idx (T k).1 (T k).2.1 (T k).2.2.1 host ∈ cs_NW)
def PL (own : String) (idx ci k : Nat) (ty : FieldType) : Prop := ∃ (C : String) (T : u_T) (N : Nat) (ty0 : Nat → FieldType), vwCl[ci]? = some (C, T, N) ∧ k < N ∧ (∀ w ∈ u_ws C T N, w ∈ cs_TG) ∧ (Cond.fieldLink own idx (T k).1 (T k).2.1 (T k).2.2.1 ∈ cs_TG ∨ ∃ host, Cond.fieldLinkNest own idx (T k).1 (T k).2.1 (T k).2.2.1 host ∈ cs_NW) ∧ (∀ k, k < N → parseFieldDescriptor (T k).2.2.1 = some (ty0 k)) ∧ (∀ a, a < N → ∀ b, b < N → a ≠ b → (T a).2.1 ≠ (T b).2.1) ∧ (T k).2.2.2 = false ∧ parseFieldDescriptor (T k).2.2.1 = some ty
theorem cellE_o {ad : Nat → Nat} {cA : Nat → ClassId} {h : HP} {k ci : Nat} {fs : List Nat} (so : SHL[k]? = some (.inl (ci, fs))) : cellE ad cA h k = .inr (ci, fs.mapIdx (fun j r => fv ad h k j r)) := by
  unfold cellE; rw [so]
theorem cellE_a {ad : Nat → Nat} {cA : Nat → ClassId} {h : HP} {k t n : Nat} {rs : List Nat} (sa : SHL[k]? = some (.inr (t, n, rs))) (ht : ¬ t = 3) : cellE ad cA h k = .inl (cA t, n, .inl (fun j => Int32.ofInt (h k j))) := by
  unfold cellE; rw [sa]; simp only [if_neg ht]
theorem cellE_r {ad : Nat → Nat} {cA : Nat → ClassId} {h : HP} {k n : Nat} {rs : List Nat} (sa : SHL[k]? = some (.inr (3, n, rs))) : cellE ad cA h k = .inl (cA 3, n, .inr (.inr (.inr (.inr (fun j => (rs[j]?).map ad))))) := by
  unfold cellE; rw [sa]; rfl
theorem wl_o {ad : Nat → Nat} {cA : Nat → ClassId} {h : HP} {k ci : Nat} {fs : List Nat} (so : SHL[k]? = some (.inl (ci, fs))) : (wl ad cA h)[k]? = some (ad k, .inr (ci, fs.mapIdx (fun j r => fv ad h k j r))) := by
  rw [wl_at (wl_lt so), cellE_o so]
theorem wl_a {ad : Nat → Nat} {cA : Nat → ClassId} {h : HP} {k t n : Nat} {rs : List Nat} (sa : SHL[k]? = some (.inr (t, n, rs))) (ht : ¬ t = 3) : (wl ad cA h)[k]? = some (ad k, .inl (cA t, n, .inl (fun j => Int32.ofInt (h k j)))) := by
  rw [wl_at (wl_lt sa), cellE_a sa ht]
theorem hset_ne {h : HP} {c j : Nat} {v : Int} {c' j' : Nat} (hn : ¬ (c' = c ∧ j' = j)) : hset h c j v c' j' = h c' j' := if_neg hn
theorem hset_eq {h : HP} {c j : Nat} {v : Int} : hset h c j v c j = v := if_pos ⟨rfl, rfl⟩
theorem wl_put {ad : Nat → Nat} {cA : Nat → ClassId} {h : HP} {c ci k r : Nat} {fs : List Nat} {v : Int} (so : SHL[c]? = some (.inl (ci, fs))) (hf : fs[k]? = some r) :
    (wl ad cA h).set c (ad c, .inr (ci, (fs.mapIdx (fun j r => fv ad h c j r)).set k (fv ad (hset h c k v) c k r))) = wl ad cA (hset h c k v) := by
  refine wl_set ?_ (fun c' j hc => hset_ne (fun q => hc q.1))
  rw [cellE_o so]
  congr 2
  apply List.ext_getElem?
  intro i
  rw [List.getElem?_mapIdx, List.getElem?_set]
  by_cases hi : k = i
  · subst hi
    rw [if_pos rfl, hf, if_pos (by rw [List.length_mapIdx]; exact (List.getElem?_eq_some_iff.mp hf).1)]
    rfl
  · rw [if_neg hi, List.getElem?_mapIdx]
    cases fs[i]? with
    | none => rfl
    | some r =>
      simp only [Option.map_some, fv]
      rw [hset_ne (fun q => hi q.2.symm)]
theorem wl_sto {ad : Nat → Nat} {cA : Nat → ClassId} {h : HP} {c t n i : Nat} {rs : List Nat} {v : Int} (sa : SHL[c]? = some (.inr (t, n, rs))) (ht : ¬ t = 3) :
    (wl ad cA h).set c (ad c, .inl (cA t, n, .inl (upd (fun j => Int32.ofInt (h c j)) i (Int32.ofInt v)))) = wl ad cA (hset h c i v) := by
  refine wl_set ?_ (fun c' j hc => hset_ne (fun q => hc q.1))
  rw [cellE_a sa ht]
  congr 3
  congr 1
  funext j
  unfold upd
  by_cases hj : j = i
  · subst hj; rw [if_pos rfl, hset_eq]
  · rw [if_neg hj, hset_ne (fun q => hj q.2)]
def rd (h : HP) (c n : Nat) (i : Int) (K : Int → Prop) : Prop := inb i n ∧ K (h c (ix i))
def wr (h : HP) (c n : Nat) (i v : Int) (K : HP → Prop) : Prop := inb i n ∧ K (hset h c (ix i) v)
def pf (h : HP) (c k : Nat) (v : Int) (K : HP → Prop) : Prop := K (hset h c k v)
def cpw (h : HP) (c1 c2 n : Nat) (K : HP → Prop) : Prop := K (hcpy h c1 0 c2 0 n)
def brc (c a b : Prop) : Prop := (c → a) ∧ (¬ c → b)
section HROWS
variable {X : Cx} {cc : ByteArray} {own : String} {nL d pc pn : Nat} {ls : List (Option AV)} {st : List AV} {h : HP}
theorem AW.getV {idx ci c k r : Nat} {fs : List Nat} {v : AV} (F : Fx X cc own nL d) (hd : decode cc pc = .ok (.getfield idx, 3)) (hp : pc + 3 = pn) (g : GL own idx ci k) (so : SHL[c]? = some (.inl (ci, fs))) (hf : fs[k]? = some r) (hv : ∀ ad, fv ad h c k r = cv ad v) (kk : AW X nL pn ls (v :: st) h) : AW X nL pc ls (vR c :: st) h := by
  obtain ⟨p, l, e, R, s, m, args, below, meth, c0, Z, D, cA, ad, A, kc, ks⟩ := X
  obtain ⟨hx, hb, hml, hown, hts, hnw, hK, hA, hE, hfr, hlo, hc, hs⟩ := F
  subst hp
  intro H locs arr hP hD hS hl
  obtain ⟨C, T, N, g1, g2, g3, g4⟩ := g
  have hv2 : (fs.mapIdx (fun j r => fv ad h c j r))[k]? = some (cv ad v) := by
    rw [List.getElem?_mapIdx, hf, ← hv ad]; rfl
  rcases g4 with g4 | ⟨host, g4⟩
  · exact va_get hx hb hts g3 hown hK hP c (wl_o so) g1 k g2 (hts _ g4) (fun _ q => q) hv2 hd (kk H locs arr hP hD hS hl)
  · exact va_getN hx hb hts g3 hown hK hP c (wl_o so) g1 k g2 (va_Nw.use rfl (hnw _ g4)) (fun _ q => q) hv2 hd (kk H locs arr hP hD hS hl)
theorem AW.getI {idx ci c k : Nat} {fs : List Nat} (F : Fx X cc own nL d) (hd : decode cc pc = .ok (.getfield idx, 3)) (hp : pc + 3 = pn) (g : GL own idx ci k) (so : SHL[c]? = some (.inl (ci, fs))) (hf : fs[k]? = some 0) (kk : AW X nL pn ls (vI (h c k) :: st) h) : AW X nL pc ls (vR c :: st) h :=
  AW.getV F hd hp g so hf (fun _ => rfl) kk
theorem AW.getL {idx ci c k : Nat} {fs : List Nat} (F : Fx X cc own nL d) (hd : decode cc pc = .ok (.getfield idx, 3)) (hp : pc + 3 = pn) (g : GL own idx ci k) (so : SHL[c]? = some (.inl (ci, fs))) (hf : fs[k]? = some 1) (kk : AW X nL pn ls (vL (h c k) :: st) h) : AW X nL pc ls (vR c :: st) h :=
  AW.getV F hd hp g so hf (fun _ => rfl) kk
theorem AW.getR {idx ci c k : Nat} (r : Nat) {fs : List Nat} (F : Fx X cc own nL d) (hd : decode cc pc = .ok (.getfield idx, 3)) (hp : pc + 3 = pn) (g : GL own idx ci k) (so : SHL[c]? = some (.inl (ci, fs))) (hf : fs[k]? = some (r + 2)) (kk : AW X nL pn ls (vR r :: st) h) : AW X nL pc ls (vR c :: st) h :=
  AW.getV F hd hp g so hf (fun _ => rfl) kk
theorem AW.putV {idx ci c k r : Nat} {fs : List Nat} {ty : FieldType} {v : AV} {y : Int} {K : HP → Prop} (F : Fx X cc own nL d) (hd : decode cc pc = .ok (.putfield idx, 3)) (hp : pc + 3 = pn) (g : PL own idx ci k ty) (so : SHL[c]? = some (.inl (ci, fs))) (hf : fs[k]? = some r) (hv : ∀ ad, fv ad (hset h c k y) c k r = cv ad v) (hn : ∀ ad, narrow ty (cv ad v) = cv ad v) (hfit : ∀ ad, fits ty (cv ad v) = true) (hk : pf h c k y K) (kk : ∀ h', K h' → AW X nL pn ls st h') : AW X nL pc ls (v :: vR c :: st) h := by
  obtain ⟨p, l, e, R, s, m, args, below, meth, c0, Z, D, cA, ad, A, kc, ks⟩ := X
  obtain ⟨hx, hb, hml, hown, hts, hnw, hK, hA, hE, hfr, hlo, hc, hs⟩ := F
  subst hp
  intro H locs arr hP hD hS hl
  obtain ⟨C, T, N, ty0, g1, g2, g3, g4, g5, g6, g7, g8⟩ := g
  have hlen : k < (fs.mapIdx (fun j r => fv ad h c j r)).length := by
    rw [List.length_mapIdx]; exact (List.getElem?_eq_some_iff.mp hf).1
  have fin : ∀ (H1 : Heap) (locs1 : List Loc), va_P D vwCl ((wl ad cA h).set c (ad c, .inr (ci, (fs.mapIdx (fun j r => fv ad h c j r)).set k (cv ad v)))) H1 → va_D A ((wl ad cA h).set c (ad c, .inr (ci, (fs.mapIdx (fun j r => fv ad h c j r)).set k (cv ad v)))) → va_S A s.heap H1 locs1 → W p l e R s m args below meth c0 H1 locs1 kc ks Z (F0 m (pc + 3) arr (st.map (cv ad))) := by
    intro H1 locs1 hP1 hD1 hS1
    rw [← hv ad, wl_put so hf] at hP1 hD1
    exact kk _ hk H1 locs1 arr hP1 hD1 hS1 hl
  rcases g4 with g4 | ⟨host, g4⟩
  · exact va_put hx hb hts g3 ty0 g5 g6 hown hK hP hD hS c (wl_o so) g1 k g2 (hts _ g4) (fun _ q => q) g7 g8 (hn ad) (hfit ad) hlen hd fin
  · exact va_putN hx hb hts g3 ty0 g5 g6 hown hK hP hD hS c (wl_o so) g1 k g2 (va_Nw.use rfl (hnw _ g4)) (fun _ q => q) g7 g8 (hn ad) (hfit ad) hlen hd fin
theorem AW.putI {idx ci c k : Nat} {fs : List Nat} {y : Int} {K : HP → Prop} (F : Fx X cc own nL d) (hd : decode cc pc = .ok (.putfield idx, 3)) (hp : pc + 3 = pn) (g : PL own idx ci k .int) (so : SHL[c]? = some (.inl (ci, fs))) (hf : fs[k]? = some 0) (hk : pf h c k y K) (kk : ∀ h', K h' → AW X nL pn ls st h') : AW X nL pc ls (vI y :: vR c :: st) h :=
  AW.putV F hd hp g so hf (fun _ => by show Value.int (Int32.ofInt (hset h c k y c k)) = _; rw [hset_eq]; rfl) (fun _ => rfl) (fun _ => rfl) hk kk
theorem AW.putL {idx ci c k : Nat} {fs : List Nat} {y : Int} {K : HP → Prop} (F : Fx X cc own nL d) (hd : decode cc pc = .ok (.putfield idx, 3)) (hp : pc + 3 = pn) (g : PL own idx ci k .long) (so : SHL[c]? = some (.inl (ci, fs))) (hf : fs[k]? = some 1) (hk : pf h c k y K) (kk : ∀ h', K h' → AW X nL pn ls st h') : AW X nL pc ls (vL y :: vR c :: st) h :=
  AW.putV F hd hp g so hf (fun _ => by show Value.long (Int64.ofInt (hset h c k y c k)) = _; rw [hset_eq]; rfl) (fun _ => rfl) (fun _ => rfl) hk kk
theorem AW.iald {c n : Nat} {rs : List Nat} {i : Int} {K : Int → Prop} (F : Fx X cc own nL d) (hd : decode cc pc = .ok (.iaload, 1)) (hp : pc + 1 = pn) (sa : SHL[c]? = some (.inr (0, n, rs))) (hr : rd h c n i K) (kk : ∀ v, K v → AW X nL pn ls (vI v :: st) h) : AW X nL pc ls (vI i :: vR c :: st) h := by
  obtain ⟨p, l, e, R, s, m, args, below, meth, c0, Z, D, cA, ad, A, kc, ks⟩ := X
  obtain ⟨hx, hb, hml, hown, hts, hnw, hK, hA, hE, hfr, hlo, hc, hs⟩ := F
  subst hp
  intro H locs arr hP hD hS hl
  refine va_iald hx hb hK hP c 0 (wl_a sa (by decide)) rfl (inb_in hr.1) hd ?_
  rw [ix_cl hr.1]
  exact kk _ hr.2 H locs arr hP hD hS hl
theorem AW.cald {c n : Nat} {rs : List Nat} {i : Int} {K : Int → Prop} (F : Fx X cc own nL d) (hd : decode cc pc = .ok (.caload, 1)) (hp : pc + 1 = pn) (sa : SHL[c]? = some (.inr (1, n, rs))) (hr : rd h c n i K) (kk : ∀ v, K v → AW X nL pn ls (vI v :: st) h) : AW X nL pc ls (vI i :: vR c :: st) h := by
  obtain ⟨p, l, e, R, s, m, args, below, meth, c0, Z, D, cA, ad, A, kc, ks⟩ := X
  obtain ⟨hx, hb, hml, hown, hts, hnw, hK, hA, hE, hfr, hlo, hc, hs⟩ := F
  subst hp
  intro H locs arr hP hD hS hl
  refine va_cald hx hb hK hP c 1 (wl_a sa (by decide)) rfl (inb_in hr.1) hd ?_
  rw [ix_cl hr.1]
  exact kk _ hr.2 H locs arr hP hD hS hl
theorem AW.zald {c n : Nat} {rs : List Nat} {i : Int} {K : Int → Prop} (F : Fx X cc own nL d) (hd : decode cc pc = .ok (.baload, 1)) (hp : pc + 1 = pn) (sa : SHL[c]? = some (.inr (2, n, rs))) (hr : rd h c n i K) (kk : ∀ v, K v → AW X nL pn ls (vI v :: st) h) : AW X nL pc ls (vI i :: vR c :: st) h := by
  obtain ⟨p, l, e, R, s, m, args, below, meth, c0, Z, D, cA, ad, A, kc, ks⟩ := X
  obtain ⟨hx, hb, hml, hown, hts, hnw, hK, hA, hE, hfr, hlo, hc, hs⟩ := F
  subst hp
  intro H locs arr hP hD hS hl
  refine va_zald hx hb hK hP c 2 (wl_a sa (by decide)) rfl (inb_in hr.1) hd ?_
  rw [ix_cl hr.1]
  exact kk _ hr.2 H locs arr hP hD hS hl
theorem AW.iast {c n : Nat} {rs : List Nat} {i v : Int} {K : HP → Prop} (F : Fx X cc own nL d) (hd : decode cc pc = .ok (.iastore, 1)) (hp : pc + 1 = pn) (sa : SHL[c]? = some (.inr (0, n, rs))) (hr : wr h c n i v K) (kk : ∀ h', K h' → AW X nL pn ls st h') : AW X nL pc ls (vI v :: vI i :: vR c :: st) h := by
  obtain ⟨p, l, e, R, s, m, args, below, meth, c0, Z, D, cA, ad, A, kc, ks⟩ := X
  obtain ⟨hx, hb, hml, hown, hts, hnw, hK, hA, hE, hfr, hlo, hc, hs⟩ := F
  subst hp
  intro H locs arr hP hD hS hl
  refine va_iast hx hb hK hP hD hS c 0 (wl_a sa (by decide)) rfl (inb_in hr.1) hd (fun H1 locs1 hP1 hD1 hS1 => ?_)
  rw [ix_cl hr.1, wl_sto sa (by decide)] at hP1 hD1
  exact kk _ hr.2 H1 locs1 arr hP1 hD1 hS1 hl
theorem AW.cast {c n : Nat} {rs : List Nat} {i v : Int} {K : HP → Prop} (F : Fx X cc own nL d) (hd : decode cc pc = .ok (.castore, 1)) (hp : pc + 1 = pn) (sa : SHL[c]? = some (.inr (1, n, rs))) (hr : wr h c n i (ch v) K) (kk : ∀ h', K h' → AW X nL pn ls st h') : AW X nL pc ls (vI v :: vI i :: vR c :: st) h := by
  obtain ⟨p, l, e, R, s, m, args, below, meth, c0, Z, D, cA, ad, A, kc, ks⟩ := X
  obtain ⟨hx, hb, hml, hown, hts, hnw, hK, hA, hE, hfr, hlo, hc, hs⟩ := F
  subst hp
  intro H locs arr hP hD hS hl
  refine va_cast hx hb hK hP hD hS c 1 (wl_a sa (by decide)) rfl (inb_in hr.1) hd (fun H1 locs1 hP1 hD1 hS1 => ?_)
  rw [ix_cl hr.1, nar_char, wl_sto sa (by decide)] at hP1 hD1
  exact kk _ hr.2 H1 locs1 arr hP1 hD1 hS1 hl
theorem AW.zast {c n : Nat} {rs : List Nat} {i v : Int} {K : HP → Prop} (F : Fx X cc own nL d) (hd : decode cc pc = .ok (.bastore, 1)) (hp : pc + 1 = pn) (sa : SHL[c]? = some (.inr (2, n, rs))) (hr : wr h c n i (bb v) K) (kk : ∀ h', K h' → AW X nL pn ls st h') : AW X nL pc ls (vI v :: vI i :: vR c :: st) h := by
  obtain ⟨p, l, e, R, s, m, args, below, meth, c0, Z, D, cA, ad, A, kc, ks⟩ := X
  obtain ⟨hx, hb, hml, hown, hts, hnw, hK, hA, hE, hfr, hlo, hc, hs⟩ := F
  subst hp
  intro H locs arr hP hD hS hl
  refine va_zast hx hb hK hP hD hS c 2 (wl_a sa (by decide)) rfl (inb_in hr.1) hd (fun H1 locs1 hP1 hD1 hS1 => ?_)
  rw [ix_cl hr.1, nar_bool, wl_sto sa (by decide)] at hP1 hD1
  exact kk _ hr.2 H1 locs1 arr hP1 hD1 hS1 hl
theorem AW.aald {c n r j : Nat} {rs : List Nat} {i : Int} (F : Fx X cc own nL d) (hd : decode cc pc = .ok (.aaload, 1)) (hp : pc + 1 = pn) (sa : SHL[c]? = some (.inr (3, n, rs))) (hj : w32 i = (j : Int)) (hjn : j < n) (hr : rs[j]? = some r) (kk : AW X nL pn ls (vR r :: st) h) : AW X nL pc ls (vI i :: vR c :: st) h := by
  obtain ⟨p, l, e, R, s, m, args, below, meth, c0, Z, D, cA, ad, A, kc, ks⟩ := X
  obtain ⟨hx, hb, hml, hown, hts, hnw, hK, hA, hE, hfr, hlo, hc, hs⟩ := F
  subst hp
  intro H locs arr hP hD hS hl
  have hin : inb i n := ⟨by omega, by omega⟩
  have hix : ix i = j := by unfold ix; omega
  refine va_aldq (C := "CastOffs$Stock") hx hb hK hP c 3 (by rw [wl_at (wl_lt sa), cellE_r sa]) rfl (inb_in hin) hd ?_
  rw [ix_cl hin, hix, hr]
  exact kk H locs arr hP hD hS hl
theorem AW.alen {c t n : Nat} {rs : List Nat} (F : Fx X cc own nL d) (hd : decode cc pc = .ok (.arraylength, 1)) (hp : pc + 1 = pn) (sa : SHL[c]? = some (.inr (t, n, rs))) (ht : t < 3) (kk : AW X nL pn ls (vI (n : Int) :: st) h) : AW X nL pc ls (vR c :: st) h := by
  obtain ⟨p, l, e, R, s, m, args, below, meth, c0, Z, D, cA, ad, A, kc, ks⟩ := X
  obtain ⟨hx, hb, hml, hown, hts, hnw, hK, hA, hE, hfr, hlo, hc, hs⟩ := F
  subst hp
  intro H locs arr hP hD hS hl
  have hq : ∃ ty, (tysA cA)[t]? = some (cA t, ty) := by
    match t, ht with
    | 0, _ => exact ⟨_, rfl⟩
    | 1, _ => exact ⟨_, rfl⟩
    | 2, _ => exact ⟨_, rfl⟩
  obtain ⟨ty, hq⟩ := hq
  exact va_alen (v := Int32.ofInt (n : Int)) hx hb hK hP c t (wl_a sa (by omega)) hq (by rw [Int32.ofInt_eq_ofNat]) hd (kk H locs arr hP hD hS hl)
end HROWS
end
section
/-! ===== contracts and calls ===== -/
def rmD (d : Nat) : Room := { frames := d, cells := 0, slots := 0, locals := 40 * d }
def WU (D : va_G) (cA : Nat → ClassId) (ad : Nat → Nat) (h : HP) (sz : Nat) (U : State) : Prop := U.heap.size = sz ∧ va_P D vwCl (wl ad cA h) U.heap ∧ va_K D vwCl (tysA cA) U ∧ va_D (fun _ => True) (wl ad cA h) ∧ (∀ w ∈ cs_NW, va_Nw w U) ∧ cs_EX ad (va_A (wl ad cA h) sz) U U.heap
def Qm (D : va_G) (cA : Nat → ClassId) (ad : Nat → Nat) (h : HP) (sz : Nat) (Q : Option AV → HP → Prop) : Array Value → State → Outcome → State → Prop := fun _ st oc t => (∃ (r : Option AV) (h' : HP), oc = .returned (r.map (cv ad)) ∧ Q r h' ∧ va_P D vwCl (wl ad cA h') t.heap) ∧ va_F (va_A (wl ad cA h) sz) st t
/-- the contract of a method, with these arguments at this heap: it returns, with Q -/
def MT (y : MethodName) (cc : ByteArray) (maxL : Nat) (ret : Option FieldType) (d : Nat) (as : List AV) (h : HP) (Q : Option AV → HP → Prop) : Prop :=
  ∀ (l : Launch) (D : va_G) (cA : Nat → ClassId) (ad : Nat → Nat) (sz : Nat), Met l y (.code y cc maxL ret :: cs_TG) (rmD d) (va_Pc (as.map (cv ad)) (WU D cA ad h sz)) (Qm D cA ad h sz Q) 0 0 (va_A (wl ad cA h) sz)
def padL (n : Nat) (ls : List (Option AV)) : List (Option AV) := ls ++ List.replicate (n - ls.length) none
theorem MT.of {y : MethodName} {cc : ByteArray} {maxL d : Nat} {ret : Option FieldType} {as : List AV} {h : HP} {Q : Option AV → HP → Prop} {own : String} {ls : List (Option AV)} (hy : plainName y.cls = true) (ho : y.cls = own) (hlen : (entL as).length ≤ maxL) (hls : padL maxL (entL as) = ls)
    (body : ∀ X : Cx, Fx X cc own maxL d → Rx X ret Q → AW X maxL 0 ls [] h) : MT y cc maxL ret d as h Q := by
  intro l D cA ad sz
  subst ho; subst hls
  refine Met.ofW (cc := cc) (maxL := maxL) (ret := ret) hy rfl ?_
  intro p e s m args below meth c s₁ B hml hv
  obtain ⟨rfl, hsz, hP, hK, hD0, hnw, hE⟩ := hv
  have hts := atoms_spec (ws := .code y cc maxL ret :: cs_TG) B.pre
  subst hsz
  have hA : ∀ q : Nat, s.heap.size ≤ q → va_A (wl ad cA h) s.heap.size q := fun q hq => Or.inr hq
  have hD : va_D (va_A (wl ad cA h) s.heap.size) (wl ad cA h) := hD0.self
  have hl := lv_entry (as.map (cv ad)) (n := maxL) (by rw [entL_len]; exact hlen)
  rw [lg_entry_eq]
  have hLS : cs_LS ad (padL maxL (entL as)) ((lg_sl (as.map (cv ad)) ++ List.replicate (maxL - (lg_sl (as.map (cv ad))).length) Slot.unset).toArray) maxL := by
    refine ⟨hl.1, hl.2.1, fun i v hi => ?_⟩
    unfold padL at hi
    by_cases hil : i < (entL as).length
    · rw [List.getElem?_append_left hil] at hi
      have := entL_args ad as 0 i v hi
      rw [Nat.zero_add] at this
      exact hl.2.2 (i, cv ad v) this
    · rw [List.getElem?_append_right (Nat.not_lt.mp hil)] at hi
      rw [List.getElem?_replicate] at hi
      split at hi <;> cases hi
  refine body (p, l, e, rmD d, s, m, (as.map (cv ad)).toArray, below, meth, c, MQ below (Qm D cA ad h s.heap.size Q) (as.map (cv ad)).toArray s 0 0 (va_A (wl ad cA h) s.heap.size), D, cA, ad, va_A (wl ad cA h) s.heap.size, 0, 0) ?_ ?_ s.heap [] _ hP hD va_S.rf hLS
  · exact ⟨B.exec, B.bytes, hml, findClass_of_methodNamed B.named, fun w hw => hts w (List.mem_cons_of_mem _ hw), hnw, hK, hA, hE, Nat.le_refl _, Nat.le_refl _, Nat.le_refl _, Nat.le_refl _⟩
  · refine ⟨B.returns, B.notSynchronized, _, _, rfl, fun q hq => hq, fun t H locs r h' ht hW hP1 hS1 hq => ⟨⟨r, h', rfl, hq, by rw [ht]; exact hP1⟩, hS1.F ht⟩⟩
def catA : List AV → Nat
  | [] => 0
  | v :: r => (if isL (some v) = true then 2 else 1) + catA r
theorem catA_ok (ad : Nat → Nat) : ∀ st : List AV, ((st.map (cv ad)).map fun v => v.category).sum = catA st
  | [] => rfl
  | .inl x :: r => by
    have := catA_ok ad r
    simp only [List.map_cons, List.sum_cons, catA] at this ⊢
    rw [this]; rfl
  | .inr (.inl x) :: r => by
    have := catA_ok ad r
    simp only [List.map_cons, List.sum_cons, catA] at this ⊢
    rw [this]; rfl
  | .inr (.inr x) :: r => by
    have := catA_ok ad r
    simp only [List.map_cons, List.sum_cons, catA] at this ⊢
    rw [this]; rfl
theorem tg_good {w : Cond} (h : w ∈ cs_TG) : (w.onTables && w.keeps) = true ∨ ∃ ty, w = .arrayClass ty := good_of_word (List.mem_filter.mp h).2
theorem tg_goodIn {w : Cond} (h : w ∈ cs_TG) : GoodIn cs_TG (w :: cs_TG) := by
  intro v hv
  rcases List.mem_cons.mp hv with rfl | hv
  · exact ⟨h, tg_good h⟩
  · exact ⟨hv, tg_good hv⟩
def CLV (own : String) (idx ci : Nat) (y : MethodName) (bytes : ByteArray) (maxL : Nat) (ret : Option FieldType) (n : Nat) : Prop := ∃ q : vw_C, vwCl[ci]? = some q ∧ y.cls = q.1 ∧ (Cond.methodLink own idx y ∈ cs_TG ∨ ∃ host, Cond.methodLinkNest own idx y host ∈ cs_NW) ∧ Cond.instanceMethod y ∈ cs_TG ∧ Cond.selects y.cls y y ∈ cs_TG ∧ Cond.initialized y.cls ∈ cs_TG ∧ Cond.code y bytes maxL ret ∈ cs_TG ∧ (y.cls ≠ "java/lang/invoke/MethodHandle" ∧ y.cls ≠ "java/lang/invoke/VarHandle" ∧ (parseMethodDescriptor y.desc).map (fun d => d.parameters.length) = some n) ∧ maxL ≤ 21
def CLS (own : String) (idx : Nat) (y : MethodName) (bytes : ByteArray) (maxL : Nat) (ret : Option FieldType) (n : Nat) : Prop := Cond.methodLink own idx y ∈ cs_TG ∧ Cond.static y ∈ cs_TG ∧ Cond.initialized y.cls ∈ cs_TG ∧ Cond.code y bytes maxL ret ∈ cs_TG ∧ (y.cls ≠ "java/lang/invoke/MethodHandle" ∧ y.cls ≠ "java/lang/invoke/VarHandle" ∧ (parseMethodDescriptor y.desc).map (fun d => d.parameters.length) = some n) ∧ maxL ≤ 21
theorem WU.blind {D : va_G} {cA : Nat → ClassId} {ad : Nat → Nat} {h : HP} {sz : Nat} {vs : List Value} : FrameBlind (va_Pc vs (WU D cA ad h sz)) := by
  rintro a U g mk ⟨q0, q1, qP, qK, qD, qN, qE⟩
  exact ⟨q0, q1, qP, va_K.moved (u := U) (U := U.calling g mk a) (Vm.Alike.refl U.vm) qK, qD, nw_same (s := U) (U := U.calling g mk a) rfl qN, qE.blind (U := U.calling g mk a) rfl (Vm.Alike.refl U.vm)⟩
section CROWS
variable {X : Cx} {cc : ByteArray} {own : String} {nL d pc pn : Nat} {ls : List (Option AV)} {st stk : List AV} {h : HP}
variable {y : MethodName} {bytes : ByteArray} {maxL d2 n idx ci c : Nat} {ret : Option FieldType} {as : List AV} {Q : Option AV → HP → Prop} {fs : List Nat}
theorem cs_WU {D : va_G} {cA : Nat → ClassId} {ad : Nat → Nat} {A : Nat → Prop} {s U : State} {H : Heap} {locs : List Loc} (hP : va_P D vwCl (wl ad cA h) H) (hD : va_D A (wl ad cA h)) (hS : va_S A s.heap H locs) (hK : va_K D vwCl (tysA cA) s) (hnw : ∀ w ∈ cs_NW, va_Nw w s) (hE : cs_EX ad A s s.heap) (hA : ∀ q, s.heap.size ≤ q → A q) (hU : U.heap = H) (hW : s.WarmedH U.vm) : WU D cA ad h H.size U := by
  refine ⟨by rw [hU], by rw [hU]; exact hP, va_K.moved hW.alike hK, hD.weaken (fun _ _ _ _ => trivial), nw_warm hW hnw, ?_⟩
  rw [hU]
  refine cs_EX.to hE hW hS.2.1 (fun q hq => ?_)
  rcases hq with ⟨k, e, hk⟩ | hq
  · exact hD.2 k _ hk
  · exact hA q (Nat.le_trans hS.1 hq)
theorem cs_after {p : Program} {l : Launch} {e : Env} {R : Room} {s : State} {m : MethodId} {args : Array Value} {below : List Frame} {meth : Method} {c0 : Code} {Z : State → Prop} {D : va_G} {cA : Nat → ClassId} {ad : Nat → Nat} {A : Nat → Prop} {kc ks : Nat} {H : Heap} {locs : List Loc} {arr : Array Slot} {a : Array Value} {st0 : List Value}
    (hr : va_Run p l e R s m args below meth c0 H locs kc ks 0 0 (F0 m pc arr st0) (st.map (cv ad)) (Qm D cA ad h H.size Q a) (va_A (wl ad cA h) H.size)) (hD : va_D A (wl ad cA h)) (hS : va_S A s.heap H locs) (hA : ∀ q, s.heap.size ≤ q → A q) (hl : cs_LS ad ls arr nL)
    (kk : ∀ r h', Q r h' → AW (p, l, e, R, s, m, args, below, meth, c0, Z, D, cA, ad, A, kc, ks) nL (pc + 3) ls (r.toList ++ st) h') : W p l e R s m args below meth c0 H locs kc ks Z (F0 m pc arr st0) := by
  have hF : ∀ q, va_A (wl ad cA h) H.size q → A q := by
    rintro q (⟨k, e, hk⟩ | hq)
    · exact hD.2 k _ hk
    · exact hA q (Nat.le_trans hS.1 hq)
  intro T hT X
  obtain ⟨v, st₀, t, T', L, h0, X', hL, e1, e2, ⟨⟨r, h', hv, hq, hP1⟩, hz, hk⟩, stp⟩ := hr T hT X
  have hv' : v = r.map (cv ad) := by
    injection hv
  subst hv'
  rw [h0] at hz hk
  have hS' : va_S A s.heap T'.heap (locs ++ L) := ⟨Nat.le_trans hS.1 (by rw [e1]; exact hz), fun q h1 h2 => by rw [e1, hk q (Nat.lt_of_lt_of_le h1 hS.1) (fun z => h2 (hF q z))]; exact hS.2.1 q h1 h2, fun q hq => by
      rcases List.mem_append.mp hq with h | h
      · exact hS.2.2 q h
      · exact hF _ (hL q h)⟩
  have K := kk r h' hq T'.heap (locs ++ L) arr (by rw [e1]; exact hP1) (wl_D hD) hS' hl
  have hst : (r.toList ++ st).map (cv ad) = (r.map (cv ad)).toList ++ st.map (cv ad) := by
    cases r <;> simp
  rw [hst] at K
  obtain ⟨t2, a1, b1⟩ := K T' rfl X'
  exact ⟨t2, stp t2 a1, b1⟩
theorem AW.invV (F : Fx X cc own nL d) (hd : decode cc pc = .ok (.invokevirtual idx, 3)) (hp : pc + 3 = pn) (cl : CLV own idx ci y bytes maxL ret n) (so : SHL[c]? = some (.inl (ci, fs))) (hm : MT y bytes maxL ret d2 (vR c :: as) h Q) (hn : as.length = n) (hst : stk = as.reverse ++ vR c :: st) (hcat : catA st ≤ 8) (hdd : d2 + 1 ≤ d)
    (kk : ∀ r h', Q r h' → AW X nL pn ls (r.toList ++ st) h') : AW X nL pc ls stk h := by
  obtain ⟨p, l, e, R, s, m, args, below, meth, c0, Z, D, cA, ad, A, kc, ks⟩ := X
  obtain ⟨hx, hb, hml, hown, hts, hnw, hK, hA, hE, hfr, hlo, hc, hs⟩ := F
  subst hp
  intro H locs arr hP hD hS hl
  obtain ⟨q, c1, c2, c3, c4, c5, c6, c7, c8, c9⟩ := cl
  have hR : (rmD d2).frames + 1 ≤ R.frames ∧ 8 + (maxL + 11) + (rmD d2).locals ≤ R.locals := ⟨Nat.le_trans hdd hfr, by show 8 + (maxL + 11) + 40 * d2 ≤ R.locals; omega⟩
  have hrecv : ∃ cell : Cell, H[ad c]? = some cell ∧ cell.vm.isStatics = false ∧ s.vm.findClass y.cls = some cell.cls := by
    rw [c2]; exact va_recv hK hP c1 (wl_o so)
  have hpre : PreV s H y.cls (ad c) (va_Pc ((vR c :: as).map (cv ad)) (WU D cA ad h H.size)) (as.map (cv ad)) :=
    ⟨WU.blind, hrecv, fun U hU hW => ⟨rfl, cs_WU hP hD hS hK hnw hE hA hU hW⟩⟩
  have hstk : stk.map (cv ad) = (as.map (cv ad)).reverse ++ .ref (ad c) :: st.map (cv ad) := by
    rw [hst, List.map_append, List.map_reverse]; rfl
  refine cs_after (a := ((vR c :: as).map (cv ad)).toArray) (h := h) (Q := Q) (st := st) (ls := ls) (nL := nL) ?_ hD hS hA hl kk
  rcases c3 with c3 | ⟨host, c3⟩
  · exact va_runV (C := y.cls) (nL := nL) (Ts := cs_TG) ⟨hx, hb, hml, hown, hts⟩ (hm l D cA ad H.size) (cwV (C := y.cls) n hts (by
        intro w hw
        rcases List.mem_append.mp hw with hw | hw
        · rcases List.mem_cons.mp hw with rfl | hw
          · exact ⟨c3, tg_good c3⟩
          rcases List.mem_cons.mp hw with rfl | hw
          · exact ⟨c4, tg_good c4⟩
          rcases List.mem_cons.mp hw with rfl | hw
          · exact ⟨c5, tg_good c5⟩
          rcases List.mem_cons.mp hw with rfl | hw
          · exact ⟨c6, tg_good c6⟩
          cases hw
        · exact tg_goodIn c7 w hw) rfl rfl rfl ⟨rfl, c8⟩ hR) hpre rfl (by rw [List.length_map]; exact hn) hl.1 hstk (lv_room (by rw [catA_ok]; exact hcat)) hd ⟨hc, hs⟩
  · exact va_runVN (C := y.cls) (nL := nL) (Ts := cs_TG) ⟨hx, hb, hml, hown, hts⟩ (hm l D cA ad H.size) ⟨va_cnB (Ts := cs_TG) n hts (tg_goodIn c7) rfl rfl rfl (hnw _ c3) (hts _ c6) c8 hR, hts _ c4, hts _ c5⟩ hpre rfl (by rw [List.length_map]; exact hn) hl.1 hstk (lv_room (by rw [catA_ok]; exact hcat)) hd ⟨hc, hs⟩
theorem AW.invS (F : Fx X cc own nL d) (hd : decode cc pc = .ok (.invokestatic idx, 3)) (hp : pc + 3 = pn) (cl : CLS own idx y bytes maxL ret n) (hm : MT y bytes maxL ret d2 as h Q) (hn : as.length = n) (hst : stk = as.reverse ++ st) (hcat : catA st ≤ 8) (hdd : d2 + 1 ≤ d)
    (kk : ∀ r h', Q r h' → AW X nL pn ls (r.toList ++ st) h') : AW X nL pc ls stk h := by
  obtain ⟨p, l, e, R, s, m, args, below, meth, c0, Z, D, cA, ad, A, kc, ks⟩ := X
  obtain ⟨hx, hb, hml, hown, hts, hnw, hK, hA, hE, hfr, hlo, hc, hs⟩ := F
  subst hp
  intro H locs arr hP hD hS hl
  obtain ⟨c3, c4, c6, c7, c8, c9⟩ := cl
  have hR : (rmD d2).frames + 1 ≤ R.frames ∧ 8 + (maxL + 11) + (rmD d2).locals ≤ R.locals := ⟨Nat.le_trans hdd hfr, by show 8 + (maxL + 11) + 40 * d2 ≤ R.locals; omega⟩
  have hpre : PreS s H (va_Pc (as.map (cv ad)) (WU D cA ad h H.size)) (as.map (cv ad)) :=
    ⟨WU.blind, fun U hU hW => ⟨rfl, cs_WU hP hD hS hK hnw hE hA hU hW⟩⟩
  have hstk : stk.map (cv ad) = (as.map (cv ad)).reverse ++ st.map (cv ad) := by
    rw [hst, List.map_append, List.map_reverse]
  refine cs_after (a := (as.map (cv ad)).toArray) (h := h) (Q := Q) (st := st) (ls := ls) (nL := nL) ?_ hD hS hA hl kk
  exact va_runS (nL := nL) (Ts := cs_TG) ⟨hx, hb, hml, hown, hts⟩ (hm l D cA ad H.size) ⟨callB_of n hts (tg_goodIn c7) rfl rfl rfl (hts _ c6) (hts _ c3) c8 hR, hts _ c4⟩ hpre rfl (by rw [List.length_map]; exact hn) hl.1 hstk (lv_room (by rw [catA_ok]; exact hcat)) hd ⟨hc, hs⟩
end CROWS
end
section
/-! ===== calls by what they give back; joins; the JDK's three of Math; arraycopy ===== -/
def QI (K : Int → HP → Prop) : Option AV → HP → Prop := fun r h => ∃ x, r = some (vI x) ∧ K x h
def QP (h0 : HP) (K : Int → Prop) : Option AV → HP → Prop := fun r h => h = h0 ∧ ∃ x, r = some (vI x) ∧ K x
def QLP (h0 : HP) (K : Int → Prop) : Option AV → HP → Prop := fun r h => h = h0 ∧ ∃ x, r = some (vL x) ∧ K x
def QV (K : HP → Prop) : Option AV → HP → Prop := fun r h => r = none ∧ K h
def FUEL : Nat := 10000
def jn {α : Sort _} (K : α) (B : α → Prop) : Prop := B K
theorem jn_0 {K G : Prop} {B : Prop → Prop} (hb : jn K B) (P : Prop) (h1 : K → P) (h2 : ∀ K', (K' → P) → B K' → G) : G := h2 K h1 hb
theorem jn_1 {α0 : Type} {K : α0 → Prop} {G : Prop} {B : (α0 → Prop) → Prop} (hb : jn K B) (P : α0 → Prop) (h1 : ∀ a0, K a0 → P a0) (h2 : ∀ K' : α0 → Prop, (∀ a0, K' a0 → P a0) → B K' → G) : G := h2 K h1 hb
theorem jn_2 {α0 α1 : Type} {K : α0 → α1 → Prop} {G : Prop} {B : (α0 → α1 → Prop) → Prop} (hb : jn K B) (P : α0 → α1 → Prop) (h1 : ∀ a0 a1, K a0 a1 → P a0 a1) (h2 : ∀ K' : α0 → α1 → Prop, (∀ a0 a1, K' a0 a1 → P a0 a1) → B K' → G) : G := h2 K h1 hb
theorem jn_3 {α0 α1 α2 : Type} {K : α0 → α1 → α2 → Prop} {G : Prop} {B : (α0 → α1 → α2 → Prop) → Prop} (hb : jn K B) (P : α0 → α1 → α2 → Prop) (h1 : ∀ a0 a1 a2, K a0 a1 a2 → P a0 a1 a2) (h2 : ∀ K' : α0 → α1 → α2 → Prop, (∀ a0 a1 a2, K' a0 a1 a2 → P a0 a1 a2) → B K' → G) : G := h2 K h1 hb
theorem jn_4 {α0 α1 α2 α3 : Type} {K : α0 → α1 → α2 → α3 → Prop} {G : Prop} {B : (α0 → α1 → α2 → α3 → Prop) → Prop} (hb : jn K B) (P : α0 → α1 → α2 → α3 → Prop) (h1 : ∀ a0 a1 a2 a3, K a0 a1 a2 a3 → P a0 a1 a2 a3) (h2 : ∀ K' : α0 → α1 → α2 → α3 → Prop, (∀ a0 a1 a2 a3, K' a0 a1 a2 a3 → P a0 a1 a2 a3) → B K' → G) : G := h2 K h1 hb
theorem jn_5 {α0 α1 α2 α3 α4 : Type} {K : α0 → α1 → α2 → α3 → α4 → Prop} {G : Prop} {B : (α0 → α1 → α2 → α3 → α4 → Prop) → Prop} (hb : jn K B) (P : α0 → α1 → α2 → α3 → α4 → Prop) (h1 : ∀ a0 a1 a2 a3 a4, K a0 a1 a2 a3 a4 → P a0 a1 a2 a3 a4) (h2 : ∀ K' : α0 → α1 → α2 → α3 → α4 → Prop, (∀ a0 a1 a2 a3 a4, K' a0 a1 a2 a3 a4 → P a0 a1 a2 a3 a4) → B K' → G) : G := h2 K h1 hb
theorem jn_6 {α0 α1 α2 α3 α4 α5 : Type} {K : α0 → α1 → α2 → α3 → α4 → α5 → Prop} {G : Prop} {B : (α0 → α1 → α2 → α3 → α4 → α5 → Prop) → Prop} (hb : jn K B) (P : α0 → α1 → α2 → α3 → α4 → α5 → Prop) (h1 : ∀ a0 a1 a2 a3 a4 a5, K a0 a1 a2 a3 a4 a5 → P a0 a1 a2 a3 a4 a5) (h2 : ∀ K' : α0 → α1 → α2 → α3 → α4 → α5 → Prop, (∀ a0 a1 a2 a3 a4 a5, K' a0 a1 a2 a3 a4 a5 → P a0 a1 a2 a3 a4 a5) → B K' → G) : G := h2 K h1 hb
theorem jn_7 {α0 α1 α2 α3 α4 α5 α6 : Type} {K : α0 → α1 → α2 → α3 → α4 → α5 → α6 → Prop} {G : Prop} {B : (α0 → α1 → α2 → α3 → α4 → α5 → α6 → Prop) → Prop} (hb : jn K B) (P : α0 → α1 → α2 → α3 → α4 → α5 → α6 → Prop) (h1 : ∀ a0 a1 a2 a3 a4 a5 a6, K a0 a1 a2 a3 a4 a5 a6 → P a0 a1 a2 a3 a4 a5 a6) (h2 : ∀ K' : α0 → α1 → α2 → α3 → α4 → α5 → α6 → Prop, (∀ a0 a1 a2 a3 a4 a5 a6, K' a0 a1 a2 a3 a4 a5 a6 → P a0 a1 a2 a3 a4 a5 a6) → B K' → G) : G := h2 K h1 hb
def mx (x y : Int) : Int := if w32 x < w32 y then y else x
def mn (x y : Int) : Int := if w32 y < w32 x then y else x
def ab (x : Int) : Int := if 0 ≤ w32 x then x else -x
theorem mx_ok (x y : Int) : (if Int32.ofInt x < Int32.ofInt y then Int32.ofInt y else Int32.ofInt x) = Int32.ofInt (mx x y) := by
  unfold mx
  by_cases q : w32 x < w32 y
  · rw [if_pos q, if_pos ((i32lt x y).mpr q)]
  · rw [if_neg q, if_neg (fun z => q ((i32lt x y).mp z))]
theorem mn_ok (x y : Int) : (if Int32.ofInt y < Int32.ofInt x then Int32.ofInt y else Int32.ofInt x) = Int32.ofInt (mn x y) := by
  unfold mn
  by_cases q : w32 y < w32 x
  · rw [if_pos q, if_pos ((i32lt y x).mpr q)]
  · rw [if_neg q, if_neg (fun z => q ((i32lt y x).mp z))]
theorem ab_ok (x : Int) : (if 0 ≤ Int32.ofInt x then Int32.ofInt x else 0 - Int32.ofInt x) = Int32.ofInt (ab x) := by
  unfold ab
  by_cases q : 0 ≤ w32 x
  · rw [if_pos q, if_pos ((i32ge0 x).mpr q)]
  · rw [if_neg q, if_neg (fun z => q ((i32ge0 x).mp z)), i32z, ← Int32.ofInt_sub]
    congr 1
    omega
theorem wl_cpy {ad : Nat → Nat} {cA : Nat → ClassId} {h : HP} {c1 c2 n n2 : Nat} {rs : List Nat} (sa : SHL[c2]? = some (.inr (0, n2, rs))) :
    (wl ad cA h).set c2 (ad c2, .inl (cA 0, n2, .inl (va_cpy (fun j => Int32.ofInt (h c1 j)) (fun j => Int32.ofInt (h c2 j)) 0 0 n))) = wl ad cA (hcpy h c1 0 c2 0 n) := by
  refine wl_set ?_ (fun c' j hc => if_neg (fun q => hc q.1))
  rw [cellE_a sa (by decide)]
  congr 3
  congr 1
  funext j
  unfold va_cpy hcpy
  by_cases hj : j < n
  · rw [if_pos ⟨rfl, Nat.zero_le _, by omega⟩, if_pos ⟨Nat.zero_le _, by omega⟩]
  · rw [if_neg (fun q => hj (by omega)), if_neg (fun q => hj (by omega))]
section DROWS
variable {X : Cx} {cc : ByteArray} {own : String} {nL d pc pn : Nat} {ls : List (Option AV)} {st stk : List AV} {h : HP}
variable {y : MethodName} {bytes : ByteArray} {maxL d2 n idx ci c : Nat} {ret : Option FieldType} {as : List AV} {fs : List Nat}
theorem AW.cVI {K : Int → HP → Prop} (F : Fx X cc own nL d) (hd : decode cc pc = .ok (.invokevirtual idx, 3)) (hp : pc + 3 = pn) (cl : CLV own idx ci y bytes maxL ret n) (so : SHL[c]? = some (.inl (ci, fs))) (hm : MT y bytes maxL ret d2 (vR c :: as) h (QI K)) (hn : as.length = n) (hst : stk = as.reverse ++ vR c :: st) (hcat : catA st ≤ 8) (hdd : d2 + 1 ≤ d) (kk : ∀ x h', K x h' → AW X nL pn ls (vI x :: st) h') : AW X nL pc ls stk h :=
  AW.invV F hd hp cl so hm hn hst hcat hdd (by rintro _ h' ⟨x, rfl, q⟩; exact kk x h' q)
theorem AW.cSI {K : Int → HP → Prop} (F : Fx X cc own nL d) (hd : decode cc pc = .ok (.invokestatic idx, 3)) (hp : pc + 3 = pn) (cl : CLS own idx y bytes maxL ret n) (hm : MT y bytes maxL ret d2 as h (QI K)) (hn : as.length = n) (hst : stk = as.reverse ++ st) (hcat : catA st ≤ 8) (hdd : d2 + 1 ≤ d) (kk : ∀ x h', K x h' → AW X nL pn ls (vI x :: st) h') : AW X nL pc ls stk h :=
  AW.invS F hd hp cl hm hn hst hcat hdd (by rintro _ h' ⟨x, rfl, q⟩; exact kk x h' q)
theorem AW.cVP {K : Int → Prop} (F : Fx X cc own nL d) (hd : decode cc pc = .ok (.invokevirtual idx, 3)) (hp : pc + 3 = pn) (cl : CLV own idx ci y bytes maxL ret n) (so : SHL[c]? = some (.inl (ci, fs))) (hm : MT y bytes maxL ret d2 (vR c :: as) h (QP h K)) (hn : as.length = n) (hst : stk = as.reverse ++ vR c :: st) (hcat : catA st ≤ 8) (hdd : d2 + 1 ≤ d) (kk : ∀ x, K x → AW X nL pn ls (vI x :: st) h) : AW X nL pc ls stk h :=
  AW.invV F hd hp cl so hm hn hst hcat hdd (by rintro _ h' ⟨rfl, x, rfl, q⟩; exact kk x q)
theorem AW.cSP {K : Int → Prop} (F : Fx X cc own nL d) (hd : decode cc pc = .ok (.invokestatic idx, 3)) (hp : pc + 3 = pn) (cl : CLS own idx y bytes maxL ret n) (hm : MT y bytes maxL ret d2 as h (QP h K)) (hn : as.length = n) (hst : stk = as.reverse ++ st) (hcat : catA st ≤ 8) (hdd : d2 + 1 ≤ d) (kk : ∀ x, K x → AW X nL pn ls (vI x :: st) h) : AW X nL pc ls stk h :=
  AW.invS F hd hp cl hm hn hst hcat hdd (by rintro _ h' ⟨rfl, x, rfl, q⟩; exact kk x q)
theorem AW.cVLP {K : Int → Prop} (F : Fx X cc own nL d) (hd : decode cc pc = .ok (.invokevirtual idx, 3)) (hp : pc + 3 = pn) (cl : CLV own idx ci y bytes maxL ret n) (so : SHL[c]? = some (.inl (ci, fs))) (hm : MT y bytes maxL ret d2 (vR c :: as) h (QLP h K)) (hn : as.length = n) (hst : stk = as.reverse ++ vR c :: st) (hcat : catA st ≤ 8) (hdd : d2 + 1 ≤ d) (kk : ∀ x, K x → AW X nL pn ls (vL x :: st) h) : AW X nL pc ls stk h :=
  AW.invV F hd hp cl so hm hn hst hcat hdd (by rintro _ h' ⟨rfl, x, rfl, q⟩; exact kk x q)
theorem AW.cSLP {K : Int → Prop} (F : Fx X cc own nL d) (hd : decode cc pc = .ok (.invokestatic idx, 3)) (hp : pc + 3 = pn) (cl : CLS own idx y bytes maxL ret n) (hm : MT y bytes maxL ret d2 as h (QLP h K)) (hn : as.length = n) (hst : stk = as.reverse ++ st) (hcat : catA st ≤ 8) (hdd : d2 + 1 ≤ d) (kk : ∀ x, K x → AW X nL pn ls (vL x :: st) h) : AW X nL pc ls stk h :=
  AW.invS F hd hp cl hm hn hst hcat hdd (by rintro _ h' ⟨rfl, x, rfl, q⟩; exact kk x q)
theorem AW.cVV {K : HP → Prop} (F : Fx X cc own nL d) (hd : decode cc pc = .ok (.invokevirtual idx, 3)) (hp : pc + 3 = pn) (cl : CLV own idx ci y bytes maxL ret n) (so : SHL[c]? = some (.inl (ci, fs))) (hm : MT y bytes maxL ret d2 (vR c :: as) h (QV K)) (hn : as.length = n) (hst : stk = as.reverse ++ vR c :: st) (hcat : catA st ≤ 8) (hdd : d2 + 1 ≤ d) (kk : ∀ h', K h' → AW X nL pn ls st h') : AW X nL pc ls stk h :=
  AW.invV F hd hp cl so hm hn hst hcat hdd (by rintro _ h' ⟨rfl, q⟩; exact kk h' q)
theorem AW.cSV {K : HP → Prop} (F : Fx X cc own nL d) (hd : decode cc pc = .ok (.invokestatic idx, 3)) (hp : pc + 3 = pn) (cl : CLS own idx y bytes maxL ret n) (hm : MT y bytes maxL ret d2 as h (QV K)) (hn : as.length = n) (hst : stk = as.reverse ++ st) (hcat : catA st ≤ 8) (hdd : d2 + 1 ≤ d) (kk : ∀ h', K h' → AW X nL pn ls st h') : AW X nL pc ls stk h :=
  AW.invS F hd hp cl hm hn hst hcat hdd (by rintro _ h' ⟨rfl, q⟩; exact kk h' q)
theorem AW.mmax {x y : Int} (F : Fx X cc own nL d) (hd : decode cc pc = .ok (.invokestatic idx, 3)) (hp : pc + 3 = pn) (w1 : Cond.methodLink own idx Lib.Math.max.name ∈ cs_TG) (w2 : Cond.static Lib.Math.max.name ∈ cs_TG) (w3 : Cond.initialized "java/lang/Math" ∈ cs_TG) (w4 : Cond.code Lib.Math.max.name Lib.Math.max.code 2 (some .int) ∈ cs_TG) (h1 : 1 ≤ d) (hcat : catA st ≤ 8) (k : AW X nL pn ls (vI (mx x y) :: st) h) : AW X nL pc ls (vI y :: vI x :: st) h := by
  obtain ⟨p, l, e, R, s, m, args, below, meth, c0, Z, D, cA, ad, A, kc, ks⟩ := X
  obtain ⟨hx, hb, hml, hown, hts, hnw, hK, hA, hE, hfr, hlo, hc, hs⟩ := F
  subst hp
  intro H locs arr hP hD hS hl
  refine va_mmax hx hb (hml.trans hl.1.symm) hown (hts _ w1) (hts _ w2) (hts _ w3) (hts _ w4) (by omega) (by rw [catA_ok]; omega) hc hs hd ?_
  rw [mx_ok]
  exact k H locs arr hP hD hS hl
theorem AW.mmin {x y : Int} (F : Fx X cc own nL d) (hd : decode cc pc = .ok (.invokestatic idx, 3)) (hp : pc + 3 = pn) (w1 : Cond.methodLink own idx Lib.Math.min.name ∈ cs_TG) (w2 : Cond.static Lib.Math.min.name ∈ cs_TG) (w3 : Cond.initialized "java/lang/Math" ∈ cs_TG) (w4 : Cond.code Lib.Math.min.name Lib.Math.min.code 2 (some .int) ∈ cs_TG) (h1 : 1 ≤ d) (hcat : catA st ≤ 8) (k : AW X nL pn ls (vI (mn x y) :: st) h) : AW X nL pc ls (vI y :: vI x :: st) h := by
  obtain ⟨p, l, e, R, s, m, args, below, meth, c0, Z, D, cA, ad, A, kc, ks⟩ := X
  obtain ⟨hx, hb, hml, hown, hts, hnw, hK, hA, hE, hfr, hlo, hc, hs⟩ := F
  subst hp
  intro H locs arr hP hD hS hl
  refine va_mmin hx hb (hml.trans hl.1.symm) hown (hts _ w1) (hts _ w2) (hts _ w3) (hts _ w4) (by omega) (by rw [catA_ok]; omega) hc hs hd ?_
  rw [mn_ok]
  exact k H locs arr hP hD hS hl
theorem AW.mabs {x : Int} (F : Fx X cc own nL d) (hd : decode cc pc = .ok (.invokestatic idx, 3)) (hp : pc + 3 = pn) (w1 : Cond.methodLink own idx Lib.Math.abs.name ∈ cs_TG) (w2 : Cond.static Lib.Math.abs.name ∈ cs_TG) (w3 : Cond.initialized "java/lang/Math" ∈ cs_TG) (w4 : Cond.code Lib.Math.abs.name Lib.Math.abs.code 1 (some .int) ∈ cs_TG) (h1 : 1 ≤ d) (hcat : catA st ≤ 8) (k : AW X nL pn ls (vI (ab x) :: st) h) : AW X nL pc ls (vI x :: st) h := by
  obtain ⟨p, l, e, R, s, m, args, below, meth, c0, Z, D, cA, ad, A, kc, ks⟩ := X
  obtain ⟨hx, hb, hml, hown, hts, hnw, hK, hA, hE, hfr, hlo, hc, hs⟩ := F
  subst hp
  intro H locs arr hP hD hS hl
  refine va_mabs hx hb (hml.trans hl.1.symm) hown (hts _ w1) (hts _ w2) (hts _ w3) (hts _ w4) (by omega) (by rw [catA_ok]; omega) hc hs hd ?_
  rw [ab_ok]
  exact k H locs arr hP hD hS hl
theorem AW.acpy {c1 c2 n1 n2 : Nat} (n : Nat) {rs1 rs2 : List Nat} {z : Int} {K : HP → Prop} (F : Fx X cc own nL d) (hd : decode cc pc = .ok (.invokestatic idx, 3)) (hp : pc + 3 = pn) (w1 : Cond.methodLink own idx arraycopyName ∈ cs_TG) (w2 : Cond.native arraycopyName ∈ cs_TG) (w3 : Cond.static arraycopyName ∈ cs_TG) (w4 : Cond.initialized "java/lang/System" ∈ cs_TG) (s1 : SHL[c1]? = some (.inr (0, n1, rs1))) (s2 : SHL[c2]? = some (.inr (0, n2, rs2))) (hz : z = (n : Int)) (hn1 : n ≤ n1) (hn2 : n ≤ n2) (hnn : n < 2 ^ 31) (h1 : 1 ≤ d) (hcat : catA st ≤ 8) (hk : cpw h c1 c2 n K) (kk : ∀ h', K h' → AW X nL pn ls st h') : AW X nL pc ls (vI z :: vI 0 :: vR c2 :: vI 0 :: vR c1 :: st) h := by
  obtain ⟨p, l, e, R, s, m, args, below, meth, c0, Z, D, cA, ad, A, kc, ks⟩ := X
  obtain ⟨hx, hb, hml, hown, hts, hnw, hK, hA, hE, hfr, hlo, hc, hs⟩ := F
  subst hp; subst hz
  intro H locs arr hP hD hS hl
  have hz0 : (Int32.ofInt 0).toNatClampNeg = 0 := by decide
  have hzn : (Int32.ofInt (n : Int)).toNatClampNeg = n := by rw [Int32.ofInt_eq_ofNat]; exact nI_clamp hnn
  have hn0 : ¬ Int32.ofInt (n : Int) < 0 := by rw [Int32.ofInt_eq_ofNat]; exact nI_pos hnn
  refine va_copyi (ty := .int) hx hb (hml.trans hl.1.symm) hown (hts _ w1) (hts _ w2) (hts _ w3) (hts _ w4) hK hP hD hS c1 c2 0 0 (wl_a s1 (by decide)) (wl_a s2 (by decide)) rfl rfl rfl (by decide) (by decide) hn0 (by rw [hz0, hzn]; omega) (by rw [hz0, hzn]; omega) (fun i _ => rfl) (by omega) ?_ hd (fun H1 locs1 hP1 hD1 hS1 => ?_)
  · rw [catA_ok]
    show catA st + (7 + 11) ≤ R.locals
    omega
  · rw [hz0, hzn, wl_cpy s2] at hP1 hD1
    exact kk _ hk H1 locs1 arr hP1 hD1 hS1 hl
end DROWS
end
