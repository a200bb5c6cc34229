section
-- ===== PART A: goes FIRST, ahead of the names: the tables' words, and 'selects' of the private methods out of them =====
/-- a private method of a class that the tables say can be made, by its rows of tables_1 -/
def lw_okq (q : MethodName × Nat) : Prop := (q.1.cls ≠ "java/lang/invoke/MethodHandle" ∧ q.1.cls ≠ "java/lang/invoke/VarHandle") ∧ Cond.instantiable q.1.cls q.2 ∈ tables_1 ∧ Cond.privateMethod q.1 ∈ tables_1 ∧ Cond.instanceMethod q.1 ∈ tables_1
theorem lw_p0 : lw_okq (⟨"PlaneNet", "forgetAnswers", "()V"⟩, 8) := ⟨⟨by decide +kernel, by decide +kernel⟩, List.mem_of_getElem? (i := 18) (by decide +kernel), List.mem_of_getElem? (i := 221) (by decide +kernel), List.mem_of_getElem? (i := 222) (by decide +kernel)⟩
theorem lw_p1 : lw_okq (⟨"PlaneNet", "forgetFound", "()V"⟩, 8) := ⟨⟨by decide +kernel, by decide +kernel⟩, List.mem_of_getElem? (i := 18) (by decide +kernel), List.mem_of_getElem? (i := 225) (by decide +kernel), List.mem_of_getElem? (i := 226) (by decide +kernel)⟩
theorem lw_p2 : lw_okq (⟨"PlaneNet$Outline", "draw", "()V"⟩, 5) := ⟨⟨by decide +kernel, by decide +kernel⟩, List.mem_of_getElem? (i := 163) (by decide +kernel), List.mem_of_getElem? (i := 256) (by decide +kernel), List.mem_of_getElem? (i := 257) (by decide +kernel)⟩
theorem lw_p3 : lw_okq (⟨"PlaneNet$Outline", "drawLine", "()V"⟩, 5) := ⟨⟨by decide +kernel, by decide +kernel⟩, List.mem_of_getElem? (i := 163) (by decide +kernel), List.mem_of_getElem? (i := 264) (by decide +kernel), List.mem_of_getElem? (i := 265) (by decide +kernel)⟩
theorem lw_p4 : lw_okq (⟨"PlaneNet$Points", "isAbove", "(III)Z"⟩, 5) := ⟨⟨by decide +kernel, by decide +kernel⟩, List.mem_of_getElem? (i := 26) (by decide +kernel), List.mem_of_getElem? (i := 273) (by decide +kernel), List.mem_of_getElem? (i := 274) (by decide +kernel)⟩
theorem lw_p5 : lw_okq (⟨"PlaneNet$Points", "isBelow", "(III)Z"⟩, 5) := ⟨⟨by decide +kernel, by decide +kernel⟩, List.mem_of_getElem? (i := 26) (by decide +kernel), List.mem_of_getElem? (i := 290) (by decide +kernel), List.mem_of_getElem? (i := 291) (by decide +kernel)⟩
theorem lw_p6 : lw_okq (⟨"PlaneNet$Outline", "put", "(I)V"⟩, 5) := ⟨⟨by decide +kernel, by decide +kernel⟩, List.mem_of_getElem? (i := 163) (by decide +kernel), List.mem_of_getElem? (i := 294) (by decide +kernel), List.mem_of_getElem? (i := 295) (by decide +kernel)⟩
theorem lw_p7 : lw_okq (⟨"PlaneNet$Outline", "drawRound", "()V"⟩, 5) := ⟨⟨by decide +kernel, by decide +kernel⟩, List.mem_of_getElem? (i := 163) (by decide +kernel), List.mem_of_getElem? (i := 302) (by decide +kernel), List.mem_of_getElem? (i := 303) (by decide +kernel)⟩
theorem lw_p8 : lw_okq (⟨"PlaneNet$Net", "placeOf", "(I)I"⟩, 13) := ⟨⟨by decide +kernel, by decide +kernel⟩, List.mem_of_getElem? (i := 88) (by decide +kernel), List.mem_of_getElem? (i := 310) (by decide +kernel), List.mem_of_getElem? (i := 311) (by decide +kernel)⟩
theorem lw_p9 : lw_okq (⟨"PlaneNet$Net", "leftOf", "(I)I"⟩, 13) := ⟨⟨by decide +kernel, by decide +kernel⟩, List.mem_of_getElem? (i := 88) (by decide +kernel), List.mem_of_getElem? (i := 322) (by decide +kernel), List.mem_of_getElem? (i := 323) (by decide +kernel)⟩
theorem lw_p10 : lw_okq (⟨"PlaneNet$Outline", "isCorner", "(III)Z"⟩, 5) := ⟨⟨by decide +kernel, by decide +kernel⟩, List.mem_of_getElem? (i := 163) (by decide +kernel), List.mem_of_getElem? (i := 334) (by decide +kernel), List.mem_of_getElem? (i := 335) (by decide +kernel)⟩
theorem lw_p11 : lw_okq (⟨"java/lang/Throwable", "fillInStackTrace", "(I)Ljava/lang/Throwable;"⟩, 6) := ⟨⟨by decide +kernel, by decide +kernel⟩, List.mem_of_getElem? (i := 405) (by decide +kernel), List.mem_of_getElem? (i := 403) (by decide +kernel), List.mem_of_getElem? (i := 404) (by decide +kernel)⟩
theorem lw_p12 : lw_okq (⟨"PlaneNet", "makeRoom", "(I)V"⟩, 8) := ⟨⟨by decide +kernel, by decide +kernel⟩, List.mem_of_getElem? (i := 18) (by decide +kernel), List.mem_of_getElem? (i := 467) (by decide +kernel), List.mem_of_getElem? (i := 468) (by decide +kernel)⟩
theorem lw_p13 : lw_okq (⟨"PlaneNet", "noteClosest", "(II)V"⟩, 8) := ⟨⟨by decide +kernel, by decide +kernel⟩, List.mem_of_getElem? (i := 18) (by decide +kernel), List.mem_of_getElem? (i := 499) (by decide +kernel), List.mem_of_getElem? (i := 500) (by decide +kernel)⟩
theorem lw_p14 : lw_okq (⟨"PlaneNet", "tryToBeginNet", "(I)V"⟩, 8) := ⟨⟨by decide +kernel, by decide +kernel⟩, List.mem_of_getElem? (i := 18) (by decide +kernel), List.mem_of_getElem? (i := 507) (by decide +kernel), List.mem_of_getElem? (i := 508) (by decide +kernel)⟩
theorem lw_p15 : lw_okq (⟨"PlaneNet$Net", "setTriangle", "(IIII)V"⟩, 13) := ⟨⟨by decide +kernel, by decide +kernel⟩, List.mem_of_getElem? (i := 88) (by decide +kernel), List.mem_of_getElem? (i := 516) (by decide +kernel), List.mem_of_getElem? (i := 517) (by decide +kernel)⟩
def lw_privs_1 : List (MethodName × Nat) := [(⟨"PlaneNet", "forgetAnswers", "()V"⟩, 8), (⟨"PlaneNet", "forgetFound", "()V"⟩, 8), (⟨"PlaneNet$Outline", "draw", "()V"⟩, 5), (⟨"PlaneNet$Outline", "drawLine", "()V"⟩, 5), (⟨"PlaneNet$Points", "isAbove", "(III)Z"⟩, 5), (⟨"PlaneNet$Points", "isBelow", "(III)Z"⟩, 5), (⟨"PlaneNet$Outline", "put", "(I)V"⟩, 5), (⟨"PlaneNet$Outline", "drawRound", "()V"⟩, 5), (⟨"PlaneNet$Net", "placeOf", "(I)I"⟩, 13), (⟨"PlaneNet$Net", "leftOf", "(I)I"⟩, 13), (⟨"PlaneNet$Outline", "isCorner", "(III)Z"⟩, 5), (⟨"java/lang/Throwable", "fillInStackTrace", "(I)Ljava/lang/Throwable;"⟩, 6), (⟨"PlaneNet", "makeRoom", "(I)V"⟩, 8), (⟨"PlaneNet", "noteClosest", "(II)V"⟩, 8), (⟨"PlaneNet", "tryToBeginNet", "(I)V"⟩, 8), (⟨"PlaneNet$Net", "setTriangle", "(IIII)V"⟩, 13)]
theorem lw_r1 : ∀ q ∈ lw_privs_1, lw_okq q := List.forall_mem_cons.mpr ⟨lw_p0, List.forall_mem_cons.mpr ⟨lw_p1, List.forall_mem_cons.mpr ⟨lw_p2, List.forall_mem_cons.mpr ⟨lw_p3, List.forall_mem_cons.mpr ⟨lw_p4, List.forall_mem_cons.mpr ⟨lw_p5, List.forall_mem_cons.mpr ⟨lw_p6, List.forall_mem_cons.mpr ⟨lw_p7, List.forall_mem_cons.mpr ⟨lw_p8, List.forall_mem_cons.mpr ⟨lw_p9, List.forall_mem_cons.mpr ⟨lw_p10, List.forall_mem_cons.mpr ⟨lw_p11, List.forall_mem_cons.mpr ⟨lw_p12, List.forall_mem_cons.mpr ⟨lw_p13, List.forall_mem_cons.mpr ⟨lw_p14, List.forall_mem_cons.mpr ⟨lw_p15, fun _ h => absurd h List.not_mem_nil⟩⟩⟩⟩⟩⟩⟩⟩⟩⟩⟩⟩⟩⟩⟩⟩
theorem lw_p16 : lw_okq (⟨"PlaneNet$Net", "join", "(II)V"⟩, 13) := ⟨⟨by decide +kernel, by decide +kernel⟩, List.mem_of_getElem? (i := 88) (by decide +kernel), List.mem_of_getElem? (i := 521) (by decide +kernel), List.mem_of_getElem? (i := 522) (by decide +kernel)⟩
theorem lw_p17 : lw_okq (⟨"PlaneNet$Net", "baseOf", "(I)I"⟩, 13) := ⟨⟨by decide +kernel, by decide +kernel⟩, List.mem_of_getElem? (i := 88) (by decide +kernel), List.mem_of_getElem? (i := 539) (by decide +kernel), List.mem_of_getElem? (i := 540) (by decide +kernel)⟩
theorem lw_p18 : lw_okq (⟨"PlaneNet$Net", "wayOut", "(III)I"⟩, 13) := ⟨⟨by decide +kernel, by decide +kernel⟩, List.mem_of_getElem? (i := 88) (by decide +kernel), List.mem_of_getElem? (i := 543) (by decide +kernel), List.mem_of_getElem? (i := 544) (by decide +kernel)⟩
theorem lw_p19 : lw_okq (⟨"PlaneNet$Net", "dig", "(II)V"⟩, 13) := ⟨⟨by decide +kernel, by decide +kernel⟩, List.mem_of_getElem? (i := 88) (by decide +kernel), List.mem_of_getElem? (i := 549) (by decide +kernel), List.mem_of_getElem? (i := 550) (by decide +kernel)⟩
theorem lw_p20 : lw_okq (⟨"PlaneNet$Net", "takeAway", "(I)V"⟩, 13) := ⟨⟨by decide +kernel, by decide +kernel⟩, List.mem_of_getElem? (i := 88) (by decide +kernel), List.mem_of_getElem? (i := 553) (by decide +kernel), List.mem_of_getElem? (i := 554) (by decide +kernel)⟩
theorem lw_p21 : lw_okq (⟨"PlaneNet$Net", "isSeen", "(II)Z"⟩, 13) := ⟨⟨by decide +kernel, by decide +kernel⟩, List.mem_of_getElem? (i := 88) (by decide +kernel), List.mem_of_getElem? (i := 557) (by decide +kernel), List.mem_of_getElem? (i := 558) (by decide +kernel)⟩
theorem lw_p22 : lw_okq (⟨"PlaneNet$Points", "dot", "(III)J"⟩, 5) := ⟨⟨by decide +kernel, by decide +kernel⟩, List.mem_of_getElem? (i := 26) (by decide +kernel), List.mem_of_getElem? (i := 571) (by decide +kernel), List.mem_of_getElem? (i := 572) (by decide +kernel)⟩
theorem lw_p23 : lw_okq (⟨"PlaneNet$Net", "fill", "(I)V"⟩, 13) := ⟨⟨by decide +kernel, by decide +kernel⟩, List.mem_of_getElem? (i := 88) (by decide +kernel), List.mem_of_getElem? (i := 585) (by decide +kernel), List.mem_of_getElem? (i := 586) (by decide +kernel)⟩
theorem lw_p24 : lw_okq (⟨"PlaneNet$Roll", "sortAll", "()V"⟩, 6) := ⟨⟨by decide +kernel, by decide +kernel⟩, List.mem_of_getElem? (i := 136) (by decide +kernel), List.mem_of_getElem? (i := 624) (by decide +kernel), List.mem_of_getElem? (i := 625) (by decide +kernel)⟩
theorem lw_p25 : lw_okq (⟨"PlaneNet$Roll", "gather", "()I"⟩, 6) := ⟨⟨by decide +kernel, by decide +kernel⟩, List.mem_of_getElem? (i := 136) (by decide +kernel), List.mem_of_getElem? (i := 628) (by decide +kernel), List.mem_of_getElem? (i := 629) (by decide +kernel)⟩
theorem lw_p26 : lw_okq (⟨"PlaneNet$Roll", "sortInto", "(LPlaneNet$Row;LPlaneNet$Row;II)V"⟩, 6) := ⟨⟨by decide +kernel, by decide +kernel⟩, List.mem_of_getElem? (i := 136) (by decide +kernel), List.mem_of_getElem? (i := 642) (by decide +kernel), List.mem_of_getElem? (i := 643) (by decide +kernel)⟩
theorem lw_p27 : lw_okq (⟨"PlaneNet", "checkNumber", "(I)V"⟩, 8) := ⟨⟨by decide +kernel, by decide +kernel⟩, List.mem_of_getElem? (i := 18) (by decide +kernel), List.mem_of_getElem? (i := 658) (by decide +kernel), List.mem_of_getElem? (i := 659) (by decide +kernel)⟩
theorem lw_p28 : lw_okq (⟨"PlaneNet", "neighbourCount", "(I)I"⟩, 8) := ⟨⟨by decide +kernel, by decide +kernel⟩, List.mem_of_getElem? (i := 18) (by decide +kernel), List.mem_of_getElem? (i := 663) (by decide +kernel), List.mem_of_getElem? (i := 664) (by decide +kernel)⟩
theorem lw_p29 : lw_okq (⟨"PlaneNet", "neighbourOnLine", "(II)I"⟩, 8) := ⟨⟨by decide +kernel, by decide +kernel⟩, List.mem_of_getElem? (i := 18) (by decide +kernel), List.mem_of_getElem? (i := 681) (by decide +kernel), List.mem_of_getElem? (i := 682) (by decide +kernel)⟩
theorem lw_p30 : lw_okq (⟨"PlaneNet$Net", "lowestFrom", "(I)I"⟩, 13) := ⟨⟨by decide +kernel, by decide +kernel⟩, List.mem_of_getElem? (i := 88) (by decide +kernel), List.mem_of_getElem? (i := 689) (by decide +kernel), List.mem_of_getElem? (i := 690) (by decide +kernel)⟩
theorem lw_p31 : lw_okq (⟨"PlaneNet", "locateOnLine", "(II)I"⟩, 8) := ⟨⟨by decide +kernel, by decide +kernel⟩, List.mem_of_getElem? (i := 18) (by decide +kernel), List.mem_of_getElem? (i := 713) (by decide +kernel), List.mem_of_getElem? (i := 714) (by decide +kernel)⟩
def lw_privs_2 : List (MethodName × Nat) := [(⟨"PlaneNet$Net", "join", "(II)V"⟩, 13), (⟨"PlaneNet$Net", "baseOf", "(I)I"⟩, 13), (⟨"PlaneNet$Net", "wayOut", "(III)I"⟩, 13), (⟨"PlaneNet$Net", "dig", "(II)V"⟩, 13), (⟨"PlaneNet$Net", "takeAway", "(I)V"⟩, 13), (⟨"PlaneNet$Net", "isSeen", "(II)Z"⟩, 13), (⟨"PlaneNet$Points", "dot", "(III)J"⟩, 5), (⟨"PlaneNet$Net", "fill", "(I)V"⟩, 13), (⟨"PlaneNet$Roll", "sortAll", "()V"⟩, 6), (⟨"PlaneNet$Roll", "gather", "()I"⟩, 6), (⟨"PlaneNet$Roll", "sortInto", "(LPlaneNet$Row;LPlaneNet$Row;II)V"⟩, 6), (⟨"PlaneNet", "checkNumber", "(I)V"⟩, 8), (⟨"PlaneNet", "neighbourCount", "(I)I"⟩, 8), (⟨"PlaneNet", "neighbourOnLine", "(II)I"⟩, 8), (⟨"PlaneNet$Net", "lowestFrom", "(I)I"⟩, 13), (⟨"PlaneNet", "locateOnLine", "(II)I"⟩, 8)]
theorem lw_r2 : ∀ q ∈ lw_privs_2, lw_okq q := List.forall_mem_cons.mpr ⟨lw_p16, List.forall_mem_cons.mpr ⟨lw_p17, List.forall_mem_cons.mpr ⟨lw_p18, List.forall_mem_cons.mpr ⟨lw_p19, List.forall_mem_cons.mpr ⟨lw_p20, List.forall_mem_cons.mpr ⟨lw_p21, List.forall_mem_cons.mpr ⟨lw_p22, List.forall_mem_cons.mpr ⟨lw_p23, List.forall_mem_cons.mpr ⟨lw_p24, List.forall_mem_cons.mpr ⟨lw_p25, List.forall_mem_cons.mpr ⟨lw_p26, List.forall_mem_cons.mpr ⟨lw_p27, List.forall_mem_cons.mpr ⟨lw_p28, List.forall_mem_cons.mpr ⟨lw_p29, List.forall_mem_cons.mpr ⟨lw_p30, List.forall_mem_cons.mpr ⟨lw_p31, fun _ h => absurd h List.not_mem_nil⟩⟩⟩⟩⟩⟩⟩⟩⟩⟩⟩⟩⟩⟩⟩⟩
theorem lw_p32 : lw_okq (⟨"PlaneNet", "foundBetween", "(II)I"⟩, 8) := ⟨⟨by decide +kernel, by decide +kernel⟩, List.mem_of_getElem? (i := 18) (by decide +kernel), List.mem_of_getElem? (i := 717) (by decide +kernel), List.mem_of_getElem? (i := 718) (by decide +kernel)⟩
theorem lw_p33 : lw_okq (⟨"PlaneNet", "locateInNet", "(III)I"⟩, 8) := ⟨⟨by decide +kernel, by decide +kernel⟩, List.mem_of_getElem? (i := 18) (by decide +kernel), List.mem_of_getElem? (i := 721) (by decide +kernel), List.mem_of_getElem? (i := 722) (by decide +kernel)⟩
theorem lw_p34 : lw_okq (⟨"PlaneNetModel", "fail", "(I)I"⟩, 26) := ⟨⟨by decide +kernel, by decide +kernel⟩, List.mem_of_getElem? (i := 754) (by decide +kernel), List.mem_of_getElem? (i := 855) (by decide +kernel), List.mem_of_getElem? (i := 856) (by decide +kernel)⟩
theorem lw_p35 : lw_okq (⟨"PlaneNetModel", "findPoint", "(II)I"⟩, 26) := ⟨⟨by decide +kernel, by decide +kernel⟩, List.mem_of_getElem? (i := 754) (by decide +kernel), List.mem_of_getElem? (i := 859) (by decide +kernel), List.mem_of_getElem? (i := 860) (by decide +kernel)⟩
theorem lw_p36 : lw_okq (⟨"PlaneNetModel", "forget", "()V"⟩, 26) := ⟨⟨by decide +kernel, by decide +kernel⟩, List.mem_of_getElem? (i := 754) (by decide +kernel), List.mem_of_getElem? (i := 863) (by decide +kernel), List.mem_of_getElem? (i := 864) (by decide +kernel)⟩
theorem lw_p37 : lw_okq (⟨"PlaneNetModel", "know", "()V"⟩, 26) := ⟨⟨by decide +kernel, by decide +kernel⟩, List.mem_of_getElem? (i := 754) (by decide +kernel), List.mem_of_getElem? (i := 879) (by decide +kernel), List.mem_of_getElem? (i := 880) (by decide +kernel)⟩
theorem lw_p38 : lw_okq (⟨"PlaneNetModel", "findCorners", "()V"⟩, 26) := ⟨⟨by decide +kernel, by decide +kernel⟩, List.mem_of_getElem? (i := 754) (by decide +kernel), List.mem_of_getElem? (i := 883) (by decide +kernel), List.mem_of_getElem? (i := 884) (by decide +kernel)⟩
theorem lw_p39 : lw_okq (⟨"PlaneNetModel", "least", "()I"⟩, 26) := ⟨⟨by decide +kernel, by decide +kernel⟩, List.mem_of_getElem? (i := 754) (by decide +kernel), List.mem_of_getElem? (i := 887) (by decide +kernel), List.mem_of_getElem? (i := 888) (by decide +kernel)⟩
theorem lw_p40 : lw_okq (⟨"PlaneNetModel", "isLess", "(II)Z"⟩, 26) := ⟨⟨by decide +kernel, by decide +kernel⟩, List.mem_of_getElem? (i := 754) (by decide +kernel), List.mem_of_getElem? (i := 891) (by decide +kernel), List.mem_of_getElem? (i := 892) (by decide +kernel)⟩
theorem lw_p41 : lw_okq (⟨"PlaneNetModel", "cornerBehind", "(I)I"⟩, 26) := ⟨⟨by decide +kernel, by decide +kernel⟩, List.mem_of_getElem? (i := 754) (by decide +kernel), List.mem_of_getElem? (i := 895) (by decide +kernel), List.mem_of_getElem? (i := 896) (by decide +kernel)⟩
theorem lw_p42 : lw_okq (⟨"PlaneNetModel", "sideOf", "(III)I"⟩, 26) := ⟨⟨by decide +kernel, by decide +kernel⟩, List.mem_of_getElem? (i := 754) (by decide +kernel), List.mem_of_getElem? (i := 899) (by decide +kernel), List.mem_of_getElem? (i := 900) (by decide +kernel)⟩
theorem lw_p43 : lw_okq (⟨"PlaneNetModel", "side", "(IIII)I"⟩, 26) := ⟨⟨by decide +kernel, by decide +kernel⟩, List.mem_of_getElem? (i := 754) (by decide +kernel), List.mem_of_getElem? (i := 903) (by decide +kernel), List.mem_of_getElem? (i := 904) (by decide +kernel)⟩
theorem lw_p44 : lw_okq (⟨"PlaneNetModel", "apart", "(III)J"⟩, 26) := ⟨⟨by decide +kernel, by decide +kernel⟩, List.mem_of_getElem? (i := 754) (by decide +kernel), List.mem_of_getElem? (i := 913) (by decide +kernel), List.mem_of_getElem? (i := 914) (by decide +kernel)⟩
theorem lw_p45 : lw_okq (⟨"PlaneNetModel", "look", "(II)V"⟩, 26) := ⟨⟨by decide +kernel, by decide +kernel⟩, List.mem_of_getElem? (i := 754) (by decide +kernel), List.mem_of_getElem? (i := 917) (by decide +kernel), List.mem_of_getElem? (i := 918) (by decide +kernel)⟩
theorem lw_p46 : lw_okq (⟨"PlaneNetModel", "isSide", "(II)Z"⟩, 26) := ⟨⟨by decide +kernel, by decide +kernel⟩, List.mem_of_getElem? (i := 754) (by decide +kernel), List.mem_of_getElem? (i := 921) (by decide +kernel), List.mem_of_getElem? (i := 922) (by decide +kernel)⟩
theorem lw_p47 : lw_okq (⟨"PlaneNetModel", "inCircle", "(IIII)I"⟩, 26) := ⟨⟨by decide +kernel, by decide +kernel⟩, List.mem_of_getElem? (i := 754) (by decide +kernel), List.mem_of_getElem? (i := 925) (by decide +kernel), List.mem_of_getElem? (i := 926) (by decide +kernel)⟩
def lw_privs_3 : List (MethodName × Nat) := [(⟨"PlaneNet", "foundBetween", "(II)I"⟩, 8), (⟨"PlaneNet", "locateInNet", "(III)I"⟩, 8), (⟨"PlaneNetModel", "fail", "(I)I"⟩, 26), (⟨"PlaneNetModel", "findPoint", "(II)I"⟩, 26), (⟨"PlaneNetModel", "forget", "()V"⟩, 26), (⟨"PlaneNetModel", "know", "()V"⟩, 26), (⟨"PlaneNetModel", "findCorners", "()V"⟩, 26), (⟨"PlaneNetModel", "least", "()I"⟩, 26), (⟨"PlaneNetModel", "isLess", "(II)Z"⟩, 26), (⟨"PlaneNetModel", "cornerBehind", "(I)I"⟩, 26), (⟨"PlaneNetModel", "sideOf", "(III)I"⟩, 26), (⟨"PlaneNetModel", "side", "(IIII)I"⟩, 26), (⟨"PlaneNetModel", "apart", "(III)J"⟩, 26), (⟨"PlaneNetModel", "look", "(II)V"⟩, 26), (⟨"PlaneNetModel", "isSide", "(II)Z"⟩, 26), (⟨"PlaneNetModel", "inCircle", "(IIII)I"⟩, 26)]
theorem lw_r3 : ∀ q ∈ lw_privs_3, lw_okq q := List.forall_mem_cons.mpr ⟨lw_p32, List.forall_mem_cons.mpr ⟨lw_p33, List.forall_mem_cons.mpr ⟨lw_p34, List.forall_mem_cons.mpr ⟨lw_p35, List.forall_mem_cons.mpr ⟨lw_p36, List.forall_mem_cons.mpr ⟨lw_p37, List.forall_mem_cons.mpr ⟨lw_p38, List.forall_mem_cons.mpr ⟨lw_p39, List.forall_mem_cons.mpr ⟨lw_p40, List.forall_mem_cons.mpr ⟨lw_p41, List.forall_mem_cons.mpr ⟨lw_p42, List.forall_mem_cons.mpr ⟨lw_p43, List.forall_mem_cons.mpr ⟨lw_p44, List.forall_mem_cons.mpr ⟨lw_p45, List.forall_mem_cons.mpr ⟨lw_p46, List.forall_mem_cons.mpr ⟨lw_p47, fun _ h => absurd h List.not_mem_nil⟩⟩⟩⟩⟩⟩⟩⟩⟩⟩⟩⟩⟩⟩⟩⟩
theorem lw_p48 : lw_okq (⟨"PlaneNetModel", "part", "(IIII)V"⟩, 26) := ⟨⟨by decide +kernel, by decide +kernel⟩, List.mem_of_getElem? (i := 754) (by decide +kernel), List.mem_of_getElem? (i := 929) (by decide +kernel), List.mem_of_getElem? (i := 930) (by decide +kernel)⟩
theorem lw_p49 : lw_okq (⟨"PlaneNetModel", "product", "(JJ)V"⟩, 26) := ⟨⟨by decide +kernel, by decide +kernel⟩, List.mem_of_getElem? (i := 754) (by decide +kernel), List.mem_of_getElem? (i := 933) (by decide +kernel), List.mem_of_getElem? (i := 934) (by decide +kernel)⟩
theorem lw_p50 : lw_okq (⟨"PlaneNetModel", "signOfSum", "()I"⟩, 26) := ⟨⟨by decide +kernel, by decide +kernel⟩, List.mem_of_getElem? (i := 754) (by decide +kernel), List.mem_of_getElem? (i := 938) (by decide +kernel), List.mem_of_getElem? (i := 939) (by decide +kernel)⟩
theorem lw_p51 : lw_okq (⟨"PlaneNetModel", "findCell", "(III)V"⟩, 26) := ⟨⟨by decide +kernel, by decide +kernel⟩, List.mem_of_getElem? (i := 754) (by decide +kernel), List.mem_of_getElem? (i := 942) (by decide +kernel), List.mem_of_getElem? (i := 943) (by decide +kernel)⟩
theorem lw_p52 : lw_okq (⟨"PlaneNetModel", "isCelled", "(I)Z"⟩, 26) := ⟨⟨by decide +kernel, by decide +kernel⟩, List.mem_of_getElem? (i := 754) (by decide +kernel), List.mem_of_getElem? (i := 946) (by decide +kernel), List.mem_of_getElem? (i := 947) (by decide +kernel)⟩
theorem lw_p53 : lw_okq (⟨"PlaneNetModel", "tell", "(III)V"⟩, 26) := ⟨⟨by decide +kernel, by decide +kernel⟩, List.mem_of_getElem? (i := 754) (by decide +kernel), List.mem_of_getElem? (i := 950) (by decide +kernel), List.mem_of_getElem? (i := 951) (by decide +kernel)⟩
theorem lw_p54 : lw_okq (⟨"PlaneNetModel", "sort", "()V"⟩, 26) := ⟨⟨by decide +kernel, by decide +kernel⟩, List.mem_of_getElem? (i := 754) (by decide +kernel), List.mem_of_getElem? (i := 954) (by decide +kernel), List.mem_of_getElem? (i := 955) (by decide +kernel)⟩
theorem lw_p55 : lw_okq (⟨"PlaneNetModel", "isBefore", "(II)Z"⟩, 26) := ⟨⟨by decide +kernel, by decide +kernel⟩, List.mem_of_getElem? (i := 754) (by decide +kernel), List.mem_of_getElem? (i := 958) (by decide +kernel), List.mem_of_getElem? (i := 959) (by decide +kernel)⟩
theorem lw_p56 : lw_okq (⟨"PlaneNetModel", "swap", "(I)V"⟩, 26) := ⟨⟨by decide +kernel, by decide +kernel⟩, List.mem_of_getElem? (i := 754) (by decide +kernel), List.mem_of_getElem? (i := 962) (by decide +kernel), List.mem_of_getElem? (i := 963) (by decide +kernel)⟩
theorem lw_p57 : lw_okq (⟨"PlaneNetModel", "findNeighbours", "(I)V"⟩, 26) := ⟨⟨by decide +kernel, by decide +kernel⟩, List.mem_of_getElem? (i := 754) (by decide +kernel), List.mem_of_getElem? (i := 974) (by decide +kernel), List.mem_of_getElem? (i := 975) (by decide +kernel)⟩
theorem lw_p58 : lw_okq (⟨"PlaneNetModel", "areNeighbours", "(II)Z"⟩, 26) := ⟨⟨by decide +kernel, by decide +kernel⟩, List.mem_of_getElem? (i := 754) (by decide +kernel), List.mem_of_getElem? (i := 978) (by decide +kernel), List.mem_of_getElem? (i := 979) (by decide +kernel)⟩
theorem lw_p59 : lw_okq (⟨"PlaneNetModel", "isOn", "(IIII)Z"⟩, 26) := ⟨⟨by decide +kernel, by decide +kernel⟩, List.mem_of_getElem? (i := 754) (by decide +kernel), List.mem_of_getElem? (i := 982) (by decide +kernel), List.mem_of_getElem? (i := 983) (by decide +kernel)⟩
theorem lw_p60 : lw_okq (⟨"PlaneNetModel", "isIn", "(II)Z"⟩, 26) := ⟨⟨by decide +kernel, by decide +kernel⟩, List.mem_of_getElem? (i := 754) (by decide +kernel), List.mem_of_getElem? (i := 986) (by decide +kernel), List.mem_of_getElem? (i := 987) (by decide +kernel)⟩
theorem lw_p61 : lw_okq (⟨"PlaneNetModel", "isSooner", "(IIII)Z"⟩, 26) := ⟨⟨by decide +kernel, by decide +kernel⟩, List.mem_of_getElem? (i := 754) (by decide +kernel), List.mem_of_getElem? (i := 990) (by decide +kernel), List.mem_of_getElem? (i := 991) (by decide +kernel)⟩
theorem lw_p62 : lw_okq (⟨"PlaneNetModel", "found", "(IIII)I"⟩, 26) := ⟨⟨by decide +kernel, by decide +kernel⟩, List.mem_of_getElem? (i := 754) (by decide +kernel), List.mem_of_getElem? (i := 1002) (by decide +kernel), List.mem_of_getElem? (i := 1003) (by decide +kernel)⟩
def lw_privs_4 : List (MethodName × Nat) := [(⟨"PlaneNetModel", "part", "(IIII)V"⟩, 26), (⟨"PlaneNetModel", "product", "(JJ)V"⟩, 26), (⟨"PlaneNetModel", "signOfSum", "()I"⟩, 26), (⟨"PlaneNetModel", "findCell", "(III)V"⟩, 26), (⟨"PlaneNetModel", "isCelled", "(I)Z"⟩, 26), (⟨"PlaneNetModel", "tell", "(III)V"⟩, 26), (⟨"PlaneNetModel", "sort", "()V"⟩, 26), (⟨"PlaneNetModel", "isBefore", "(II)Z"⟩, 26), (⟨"PlaneNetModel", "swap", "(I)V"⟩, 26), (⟨"PlaneNetModel", "findNeighbours", "(I)V"⟩, 26), (⟨"PlaneNetModel", "areNeighbours", "(II)Z"⟩, 26), (⟨"PlaneNetModel", "isOn", "(IIII)Z"⟩, 26), (⟨"PlaneNetModel", "isIn", "(II)Z"⟩, 26), (⟨"PlaneNetModel", "isSooner", "(IIII)Z"⟩, 26), (⟨"PlaneNetModel", "found", "(IIII)I"⟩, 26)]
theorem lw_r4 : ∀ q ∈ lw_privs_4, lw_okq q := List.forall_mem_cons.mpr ⟨lw_p48, List.forall_mem_cons.mpr ⟨lw_p49, List.forall_mem_cons.mpr ⟨lw_p50, List.forall_mem_cons.mpr ⟨lw_p51, List.forall_mem_cons.mpr ⟨lw_p52, List.forall_mem_cons.mpr ⟨lw_p53, List.forall_mem_cons.mpr ⟨lw_p54, List.forall_mem_cons.mpr ⟨lw_p55, List.forall_mem_cons.mpr ⟨lw_p56, List.forall_mem_cons.mpr ⟨lw_p57, List.forall_mem_cons.mpr ⟨lw_p58, List.forall_mem_cons.mpr ⟨lw_p59, List.forall_mem_cons.mpr ⟨lw_p60, List.forall_mem_cons.mpr ⟨lw_p61, List.forall_mem_cons.mpr ⟨lw_p62, fun _ h => absurd h List.not_mem_nil⟩⟩⟩⟩⟩⟩⟩⟩⟩⟩⟩⟩⟩⟩⟩
def lw_privs : List (MethodName × Nat) := lw_privs_1 ++ (lw_privs_2 ++ (lw_privs_3 ++ (lw_privs_4)))
def lw_tbl : List Cond := k2_sels lw_privs ++ tables_1
theorem lw_privs_ok : ∀ q ∈ lw_privs, lw_okq q := by
  show ∀ q ∈ lw_privs_1 ++ (lw_privs_2 ++ (lw_privs_3 ++ (lw_privs_4))), lw_okq q
  exact List.forall_mem_append.mpr ⟨lw_r1, List.forall_mem_append.mpr ⟨lw_r2, List.forall_mem_append.mpr ⟨lw_r3, lw_r4⟩⟩⟩
def TT : List Cond := lw_tbl.filter goodWord
theorem mem_TT {w : Cond} (h : w ∈ lw_tbl) (hg : goodWord w = true) : w ∈ TT := List.mem_filter.mpr ⟨h, hg⟩
theorem good_TT {w : Cond} (h : w ∈ TT) : goodWord w = true := (List.mem_filter.mp h).2
theorem gd_of {h c : Cond} (hc : c ∈ TT) : GoodIn (h :: TT) (c :: TT) := fun w hw => by
  have h2 : w ∈ TT := by
    rcases List.mem_cons.mp hw with e | e
    · exact e ▸ hc
    · exact e
  exact ⟨List.mem_cons_of_mem _ h2, good_of_word (good_TT h2)⟩
/-- words that are carried along, being no goodWord -/
def thK : Cond → Bool
  | .declares _ => true
  | .castable _ _ => true
  | .methodLinkNest _ _ _ _ => true
  | _ => false
theorem thK_tab {w : Cond} (h : thK w = true) : w.onTables = true := by
  cases w <;> first | rfl | cases h
theorem aoA_moved {t : FieldType} {u U : State} (hvm : u.vm.Alike U.vm) (h : va_Nw (.arrayOver (.array t)) u) : va_Nw (.arrayOver (.array t)) U := by
  obtain ⟨comp, c, k, h1, h2, h3, h4, h5⟩ := arrayOverA_spec h
  obtain ⟨k', hk', he⟩ := hvm.2.2 _ _ h3
  have e1 := va_idx_bare U.vm comp
  have e2 := va_idx_bare u.vm comp
  have e3 : U.vm.bare = u.vm.bare := by first | exact hvm.bare_eq | exact hvm.bare_eq.symm
  rw [e3] at e1
  have hi := e1.symm.trans (e2.trans h2)
  have hkind : k'.kind = .array comp (.array t) := by rw [he]; exact h4
  have f1 : U.vm.findClass (FieldType.array t).toString = some comp := by rw [hvm.findClass]; exact h1
  have f2 : U.vm.findClass ("[" ++ (FieldType.array t).toString) = some c := by rw [hvm.findClass]; exact h5
  unfold va_Nw Cond.before Cond.holds
  simp only [Cond.value]
  rw [f1, Option.bind_some]
  refine (congrArg (fun o : Option Nat => (o.bind (fun c => (U.vm.classes[c]?).map fun (k : Class) => match k.kind with | .array _ ty => decide (ty = FieldType.array t) && decide (U.vm.findClass ("[" ++ (FieldType.array t).toString) = some c) | _ => false) == some true)) hi).trans ?_
  simp [hk', hkind, f2]
theorem thK_warm {w : Cond} {s U : State} (hk : thK w = true) (hW : s.WarmedH U.vm) (h : va_Nw w s) : va_Nw w U := by
  cases w with
  | declares x => exact va_Nw.warmD hW h
  | castable a b => exact va_Nw.warmC hW h
  | methodLinkNest a i x b => exact va_Nw.warmM hW h
  | _ => cases hk
def NW (U : State) : Prop := (∀ w ∈ lw_tbl, thK w = true → va_Nw w U) ∧ (∀ (own : String) (k : Nat) (tx : String), Cond.stringRef own k tx ∈ lw_tbl → ∃ a : Nat, vk_R own k tx a U) ∧ va_Nw (.arrayOver (.array .int)) U
theorem NW.warm {s U : State} (hW : s.WarmedH U.vm) (h : NW s) : NW U := by
  refine ⟨fun w hw hk => thK_warm hk hW (h.1 w hw hk), fun own k tx hm => ?_, aoA_moved hW.alike h.2.2⟩
  obtain ⟨a, ha⟩ := h.2.1 own k tx hm
  exact ⟨a, ha.warm hW⟩
theorem NW.same {s U : State} (hv : U.vm = s.vm) (h : NW s) : NW U := by
  refine ⟨fun w hw hk => (h.1 w hw hk).same (thK_tab hk) hv.symm, fun own k tx hm => ?_, aoA_moved (by rw [hv]; exact Vm.Alike.refl _) h.2.2⟩
  obtain ⟨a, ha⟩ := h.2.1 own k tx hm
  exact ⟨a, ha.same hv⟩
end
section
def R_Ar : String := "java/util/Arrays"
def R_Pn : String := "PlaneNet"
def F_Pn : u_T := fun k => match k with
  | 0 => ("PlaneNet", "points", "LPlaneNet$Points;", true)
  | 1 => ("PlaneNet", "net", "LPlaneNet$Net;", true)
  | 2 => ("PlaneNet", "roll", "LPlaneNet$Roll;", true)
  | 3 => ("PlaneNet", "outline", "LPlaneNet$Outline;", true)
  | 4 => ("PlaneNet", "found", "[I", true)
  | 5 => ("PlaneNet", "closestGap", "J", false)
  | 6 => ("PlaneNet", "closestLower", "I", false)
  | _ => ("PlaneNet", "closestOther", "I", false)
def t_Pn : Nat → FieldType := fun k => match k with
  | 0 => .object "PlaneNet$Points"
  | 1 => .object "PlaneNet$Net"
  | 2 => .object "PlaneNet$Roll"
  | 3 => .object "PlaneNet$Outline"
  | 4 => .array .int
  | 5 => .long
  | 6 => .int
  | _ => .int
theorem nk_Pn : ∀ a, a < 8 → ∀ b, b < 8 → a ≠ b → (F_Pn a).2.1 ≠ (F_Pn b).2.1 := by decide +kernel
theorem tk_Pn : ∀ k, k < 8 → parseFieldDescriptor (F_Pn k).2.2.1 = some (t_Pn k) := by decide +kernel
theorem in_Pn : ∀ w ∈ u_ws R_Pn F_Pn 8, w ∈ TT := fun w h => mem_TT ((by decide +kernel : ∀ w ∈ u_ws R_Pn F_Pn 8, w ∈ lw_tbl) w h) ((by decide +kernel : ∀ w ∈ u_ws R_Pn F_Pn 8, goodWord w = true) w h)
def R_Pt : String := "PlaneNet$Points"
def F_Pt : u_T := fun k => match k with
  | 0 => ("PlaneNet$Points", "room", "I", true)
  | 1 => ("PlaneNet$Points", "size", "I", false)
  | 2 => ("PlaneNet$Points", "xs", "LPlaneNet$Row;", true)
  | 3 => ("PlaneNet$Points", "ys", "LPlaneNet$Row;", true)
  | _ => ("PlaneNet$Points", "sum", "LPlaneNet$Wide;", true)
def t_Pt : Nat → FieldType := fun k => match k with
  | 0 => .int
  | 1 => .int
  | 2 => .object "PlaneNet$Row"
  | 3 => .object "PlaneNet$Row"
  | _ => .object "PlaneNet$Wide"
theorem nk_Pt : ∀ a, a < 5 → ∀ b, b < 5 → a ≠ b → (F_Pt a).2.1 ≠ (F_Pt b).2.1 := by decide +kernel
theorem tk_Pt : ∀ k, k < 5 → parseFieldDescriptor (F_Pt k).2.2.1 = some (t_Pt k) := by decide +kernel
theorem in_Pt : ∀ w ∈ u_ws R_Pt F_Pt 5, w ∈ TT := fun w h => mem_TT ((by decide +kernel : ∀ w ∈ u_ws R_Pt F_Pt 5, w ∈ lw_tbl) w h) ((by decide +kernel : ∀ w ∈ u_ws R_Pt F_Pt 5, goodWord w = true) w h)
def R_Wd : String := "PlaneNet$Wide"
def F_Wd : u_T := fun k => match k with
  | 0 => ("PlaneNet$Wide", "high", "J", false)
  | _ => ("PlaneNet$Wide", "low", "J", false)
def t_Wd : Nat → FieldType := fun k => match k with
  | 0 => .long
  | _ => .long
theorem nk_Wd : ∀ a, a < 2 → ∀ b, b < 2 → a ≠ b → (F_Wd a).2.1 ≠ (F_Wd b).2.1 := by decide +kernel
theorem tk_Wd : ∀ k, k < 2 → parseFieldDescriptor (F_Wd k).2.2.1 = some (t_Wd k) := by decide +kernel
theorem in_Wd : ∀ w ∈ u_ws R_Wd F_Wd 2, w ∈ TT := fun w h => mem_TT ((by decide +kernel : ∀ w ∈ u_ws R_Wd F_Wd 2, w ∈ lw_tbl) w h) ((by decide +kernel : ∀ w ∈ u_ws R_Wd F_Wd 2, goodWord w = true) w h)
def R_Nt : String := "PlaneNet$Net"
def F_Nt : u_T := fun k => match k with
  | 0 => ("PlaneNet$Net", "points", "LPlaneNet$Points;", true)
  | 1 => ("PlaneNet$Net", "ghost", "I", true)
  | 2 => ("PlaneNet$Net", "starts", "LPlaneNet$Row;", true)
  | 3 => ("PlaneNet$Net", "twins", "LPlaneNet$Row;", true)
  | 4 => ("PlaneNet$Net", "leaving", "LPlaneNet$Row;", true)
  | 5 => ("PlaneNet$Net", "marks", "LPlaneNet$Row;", true)
  | 6 => ("PlaneNet$Net", "pit", "LPlaneNet$Row;", true)
  | 7 => ("PlaneNet$Net", "rim", "LPlaneNet$Row;", true)
  | 8 => ("PlaneNet$Net", "mark", "I", false)
  | 9 => ("PlaneNet$Net", "all", "I", false)
  | 10 => ("PlaneNet$Net", "outer", "I", false)
  | 11 => ("PlaneNet$Net", "pitSize", "I", false)
  | _ => ("PlaneNet$Net", "rimSize", "I", false)
def t_Nt : Nat → FieldType := fun k => match k with
  | 0 => .object "PlaneNet$Points"
  | 1 => .int
  | 2 => .object "PlaneNet$Row"
  | 3 => .object "PlaneNet$Row"
  | 4 => .object "PlaneNet$Row"
  | 5 => .object "PlaneNet$Row"
  | 6 => .object "PlaneNet$Row"
  | 7 => .object "PlaneNet$Row"
  | 8 => .int
  | 9 => .int
  | 10 => .int
  | 11 => .int
  | _ => .int
theorem nk_Nt : ∀ a, a < 13 → ∀ b, b < 13 → a ≠ b → (F_Nt a).2.1 ≠ (F_Nt b).2.1 := by decide +kernel
theorem tk_Nt : ∀ k, k < 13 → parseFieldDescriptor (F_Nt k).2.2.1 = some (t_Nt k) := by decide +kernel
theorem in_Nt : ∀ w ∈ u_ws R_Nt F_Nt 13, w ∈ TT := fun w h => mem_TT ((by decide +kernel : ∀ w ∈ u_ws R_Nt F_Nt 13, w ∈ lw_tbl) w h) ((by decide +kernel : ∀ w ∈ u_ws R_Nt F_Nt 13, goodWord w = true) w h)
def R_Rl : String := "PlaneNet$Roll"
def F_Rl : u_T := fun k => match k with
  | 0 => ("PlaneNet$Roll", "points", "LPlaneNet$Points;", true)
  | 1 => ("PlaneNet$Roll", "net", "LPlaneNet$Net;", true)
  | 2 => ("PlaneNet$Roll", "edges", "LPlaneNet$Row;", true)
  | 3 => ("PlaneNet$Roll", "spare", "LPlaneNet$Row;", true)
  | 4 => ("PlaneNet$Roll", "ends", "LPlaneNet$Row;", true)
  | _ => ("PlaneNet$Roll", "fresh", "Z", false)
def t_Rl : Nat → FieldType := fun k => match k with
  | 0 => .object "PlaneNet$Points"
  | 1 => .object "PlaneNet$Net"
  | 2 => .object "PlaneNet$Row"
  | 3 => .object "PlaneNet$Row"
  | 4 => .object "PlaneNet$Row"
  | _ => .boolean
theorem nk_Rl : ∀ a, a < 6 → ∀ b, b < 6 → a ≠ b → (F_Rl a).2.1 ≠ (F_Rl b).2.1 := by decide +kernel
theorem tk_Rl : ∀ k, k < 6 → parseFieldDescriptor (F_Rl k).2.2.1 = some (t_Rl k) := by decide +kernel
theorem in_Rl : ∀ w ∈ u_ws R_Rl F_Rl 6, w ∈ TT := fun w h => mem_TT ((by decide +kernel : ∀ w ∈ u_ws R_Rl F_Rl 6, w ∈ lw_tbl) w h) ((by decide +kernel : ∀ w ∈ u_ws R_Rl F_Rl 6, goodWord w = true) w h)
def R_Ol : String := "PlaneNet$Outline"
def F_Ol : u_T := fun k => match k with
  | 0 => ("PlaneNet$Outline", "points", "LPlaneNet$Points;", true)
  | 1 => ("PlaneNet$Outline", "net", "LPlaneNet$Net;", true)
  | 2 => ("PlaneNet$Outline", "corners", "LPlaneNet$Row;", true)
  | 3 => ("PlaneNet$Outline", "size", "I", false)
  | _ => ("PlaneNet$Outline", "fresh", "Z", false)
def t_Ol : Nat → FieldType := fun k => match k with
  | 0 => .object "PlaneNet$Points"
  | 1 => .object "PlaneNet$Net"
  | 2 => .object "PlaneNet$Row"
  | 3 => .int
  | _ => .boolean
theorem nk_Ol : ∀ a, a < 5 → ∀ b, b < 5 → a ≠ b → (F_Ol a).2.1 ≠ (F_Ol b).2.1 := by decide +kernel
theorem tk_Ol : ∀ k, k < 5 → parseFieldDescriptor (F_Ol k).2.2.1 = some (t_Ol k) := by decide +kernel
theorem in_Ol : ∀ w ∈ u_ws R_Ol F_Ol 5, w ∈ TT := fun w h => mem_TT ((by decide +kernel : ∀ w ∈ u_ws R_Ol F_Ol 5, w ∈ lw_tbl) w h) ((by decide +kernel : ∀ w ∈ u_ws R_Ol F_Ol 5, goodWord w = true) w h)
def R_Rw : String := "PlaneNet$Row"
def F_Rw : u_T := fun k => match k with
  | 0 => ("PlaneNet$Row", "pages", "[[I", true)
  | _ => ("PlaneNet$Row", "made", "I", false)
def t_Rw : Nat → FieldType := fun k => match k with
  | 0 => .array (.array .int)
  | _ => .int
theorem nk_Rw : ∀ a, a < 2 → ∀ b, b < 2 → a ≠ b → (F_Rw a).2.1 ≠ (F_Rw b).2.1 := by decide +kernel
theorem tk_Rw : ∀ k, k < 2 → parseFieldDescriptor (F_Rw k).2.2.1 = some (t_Rw k) := by decide +kernel
theorem in_Rw : ∀ w ∈ u_ws R_Rw F_Rw 2, w ∈ TT := fun w h => mem_TT ((by decide +kernel : ∀ w ∈ u_ws R_Rw F_Rw 2, w ∈ lw_tbl) w h) ((by decide +kernel : ∀ w ∈ u_ws R_Rw F_Rw 2, goodWord w = true) w h)
def R_Md : String := "PlaneNetModel"
def F_Md : u_T := fun k => match k with
  | 0 => ("PlaneNetModel", "thrown", "I", false)
  | 1 => ("PlaneNetModel", "most", "I", true)
  | 2 => ("PlaneNetModel", "n", "I", false)
  | 3 => ("PlaneNetModel", "xs", "[I", true)
  | 4 => ("PlaneNetModel", "ys", "[I", true)
  | 5 => ("PlaneNetModel", "known", "Z", false)
  | 6 => ("PlaneNetModel", "triangles", "I", false)
  | 7 => ("PlaneNetModel", "t0", "[I", true)
  | 8 => ("PlaneNetModel", "t1", "[I", true)
  | 9 => ("PlaneNetModel", "t2", "[I", true)
  | 10 => ("PlaneNetModel", "corners", "I", false)
  | 11 => ("PlaneNetModel", "corner", "[I", true)
  | 12 => ("PlaneNetModel", "sides", "I", false)
  | 13 => ("PlaneNetModel", "looked", "I", false)
  | 14 => ("PlaneNetModel", "from", "[I", true)
  | 15 => ("PlaneNetModel", "to", "[I", true)
  | 16 => ("PlaneNetModel", "celled", "I", false)
  | 17 => ("PlaneNetModel", "cell", "[I", true)
  | 18 => ("PlaneNetModel", "d0", "J", false)
  | 19 => ("PlaneNetModel", "d1", "J", false)
  | 20 => ("PlaneNetModel", "d2", "J", false)
  | 21 => ("PlaneNetModel", "d3", "J", false)
  | 22 => ("PlaneNetModel", "d4", "J", false)
  | 23 => ("PlaneNetModel", "near", "I", false)
  | 24 => ("PlaneNetModel", "row", "[I", true)
  | _ => ("PlaneNetModel", "located", "[I", true)
def t_Md : Nat → FieldType := fun k => match k with
  | 0 => .int
  | 1 => .int
  | 2 => .int
  | 3 => .array .int
  | 4 => .array .int
  | 5 => .boolean
  | 6 => .int
  | 7 => .array .int
  | 8 => .array .int
  | 9 => .array .int
  | 10 => .int
  | 11 => .array .int
  | 12 => .int
  | 13 => .int
  | 14 => .array .int
  | 15 => .array .int
  | 16 => .int
  | 17 => .array .int
  | 18 => .long
  | 19 => .long
  | 20 => .long
  | 21 => .long
  | 22 => .long
  | 23 => .int
  | 24 => .array .int
  | _ => .array .int
theorem nk_Md : ∀ a, a < 26 → ∀ b, b < 26 → a ≠ b → (F_Md a).2.1 ≠ (F_Md b).2.1 := by decide +kernel
theorem tk_Md : ∀ k, k < 26 → parseFieldDescriptor (F_Md k).2.2.1 = some (t_Md k) := by decide +kernel
theorem in_Md : ∀ w ∈ u_ws R_Md F_Md 26, w ∈ TT := fun w h => mem_TT ((by decide +kernel : ∀ w ∈ u_ws R_Md F_Md 26, w ∈ lw_tbl) w h) ((by decide +kernel : ∀ w ∈ u_ws R_Md F_Md 26, goodWord w = true) w h)
abbrev clC : List vw_C := [(R_Pn, F_Pn, 8), (R_Pt, F_Pt, 5), (R_Wd, F_Wd, 2), (R_Nt, F_Nt, 13), (R_Rl, F_Rl, 6), (R_Ol, F_Ol, 5), (R_Rw, F_Rw, 2), (R_Md, F_Md, 26)]
theorem wd_0 : (Cond.selects "PlaneNet" (⟨"PlaneNet", "forgetAnswers", "()V"⟩ : MethodName) (⟨"PlaneNet", "forgetAnswers", "()V"⟩ : MethodName)) ∈ TT := mem_TT (List.mem_of_getElem? (i := 0) (by decide +kernel)) (by decide +kernel)
theorem wd_1 : (Cond.selects "PlaneNet" (⟨"PlaneNet", "forgetFound", "()V"⟩ : MethodName) (⟨"PlaneNet", "forgetFound", "()V"⟩ : MethodName)) ∈ TT := mem_TT (List.mem_of_getElem? (i := 1) (by decide +kernel)) (by decide +kernel)
theorem wd_2 : (Cond.selects "PlaneNet$Outline" (⟨"PlaneNet$Outline", "draw", "()V"⟩ : MethodName) (⟨"PlaneNet$Outline", "draw", "()V"⟩ : MethodName)) ∈ TT := mem_TT (List.mem_of_getElem? (i := 2) (by decide +kernel)) (by decide +kernel)
theorem wd_3 : (Cond.selects "PlaneNet$Outline" (⟨"PlaneNet$Outline", "drawLine", "()V"⟩ : MethodName) (⟨"PlaneNet$Outline", "drawLine", "()V"⟩ : MethodName)) ∈ TT := mem_TT (List.mem_of_getElem? (i := 3) (by decide +kernel)) (by decide +kernel)
theorem wd_4 : (Cond.selects "PlaneNet$Points" (⟨"PlaneNet$Points", "isAbove", "(III)Z"⟩ : MethodName) (⟨"PlaneNet$Points", "isAbove", "(III)Z"⟩ : MethodName)) ∈ TT := mem_TT (List.mem_of_getElem? (i := 4) (by decide +kernel)) (by decide +kernel)
theorem wd_5 : (Cond.selects "PlaneNet$Points" (⟨"PlaneNet$Points", "isBelow", "(III)Z"⟩ : MethodName) (⟨"PlaneNet$Points", "isBelow", "(III)Z"⟩ : MethodName)) ∈ TT := mem_TT (List.mem_of_getElem? (i := 5) (by decide +kernel)) (by decide +kernel)
theorem wd_6 : (Cond.selects "PlaneNet$Outline" (⟨"PlaneNet$Outline", "put", "(I)V"⟩ : MethodName) (⟨"PlaneNet$Outline", "put", "(I)V"⟩ : MethodName)) ∈ TT := mem_TT (List.mem_of_getElem? (i := 6) (by decide +kernel)) (by decide +kernel)
theorem wd_7 : (Cond.selects "PlaneNet$Outline" (⟨"PlaneNet$Outline", "drawRound", "()V"⟩ : MethodName) (⟨"PlaneNet$Outline", "drawRound", "()V"⟩ : MethodName)) ∈ TT := mem_TT (List.mem_of_getElem? (i := 7) (by decide +kernel)) (by decide +kernel)
theorem wd_8 : (Cond.selects "PlaneNet$Net" (⟨"PlaneNet$Net", "placeOf", "(I)I"⟩ : MethodName) (⟨"PlaneNet$Net", "placeOf", "(I)I"⟩ : MethodName)) ∈ TT := mem_TT (List.mem_of_getElem? (i := 8) (by decide +kernel)) (by decide +kernel)
theorem wd_9 : (Cond.selects "PlaneNet$Net" (⟨"PlaneNet$Net", "leftOf", "(I)I"⟩ : MethodName) (⟨"PlaneNet$Net", "leftOf", "(I)I"⟩ : MethodName)) ∈ TT := mem_TT (List.mem_of_getElem? (i := 9) (by decide +kernel)) (by decide +kernel)
theorem wd_10 : (Cond.selects "PlaneNet$Outline" (⟨"PlaneNet$Outline", "isCorner", "(III)Z"⟩ : MethodName) (⟨"PlaneNet$Outline", "isCorner", "(III)Z"⟩ : MethodName)) ∈ TT := mem_TT (List.mem_of_getElem? (i := 10) (by decide +kernel)) (by decide +kernel)
theorem wd_12 : (Cond.selects "PlaneNet" (⟨"PlaneNet", "makeRoom", "(I)V"⟩ : MethodName) (⟨"PlaneNet", "makeRoom", "(I)V"⟩ : MethodName)) ∈ TT := mem_TT (List.mem_of_getElem? (i := 12) (by decide +kernel)) (by decide +kernel)
theorem wd_13 : (Cond.selects "PlaneNet" (⟨"PlaneNet", "noteClosest", "(II)V"⟩ : MethodName) (⟨"PlaneNet", "noteClosest", "(II)V"⟩ : MethodName)) ∈ TT := mem_TT (List.mem_of_getElem? (i := 13) (by decide +kernel)) (by decide +kernel)
theorem wd_14 : (Cond.selects "PlaneNet" (⟨"PlaneNet", "tryToBeginNet", "(I)V"⟩ : MethodName) (⟨"PlaneNet", "tryToBeginNet", "(I)V"⟩ : MethodName)) ∈ TT := mem_TT (List.mem_of_getElem? (i := 14) (by decide +kernel)) (by decide +kernel)
theorem wd_15 : (Cond.selects "PlaneNet$Net" (⟨"PlaneNet$Net", "setTriangle", "(IIII)V"⟩ : MethodName) (⟨"PlaneNet$Net", "setTriangle", "(IIII)V"⟩ : MethodName)) ∈ TT := mem_TT (List.mem_of_getElem? (i := 15) (by decide +kernel)) (by decide +kernel)
theorem wd_16 : (Cond.selects "PlaneNet$Net" (⟨"PlaneNet$Net", "join", "(II)V"⟩ : MethodName) (⟨"PlaneNet$Net", "join", "(II)V"⟩ : MethodName)) ∈ TT := mem_TT (List.mem_of_getElem? (i := 16) (by decide +kernel)) (by decide +kernel)
theorem wd_17 : (Cond.selects "PlaneNet$Net" (⟨"PlaneNet$Net", "baseOf", "(I)I"⟩ : MethodName) (⟨"PlaneNet$Net", "baseOf", "(I)I"⟩ : MethodName)) ∈ TT := mem_TT (List.mem_of_getElem? (i := 17) (by decide +kernel)) (by decide +kernel)
theorem wd_18 : (Cond.selects "PlaneNet$Net" (⟨"PlaneNet$Net", "wayOut", "(III)I"⟩ : MethodName) (⟨"PlaneNet$Net", "wayOut", "(III)I"⟩ : MethodName)) ∈ TT := mem_TT (List.mem_of_getElem? (i := 18) (by decide +kernel)) (by decide +kernel)
theorem wd_19 : (Cond.selects "PlaneNet$Net" (⟨"PlaneNet$Net", "dig", "(II)V"⟩ : MethodName) (⟨"PlaneNet$Net", "dig", "(II)V"⟩ : MethodName)) ∈ TT := mem_TT (List.mem_of_getElem? (i := 19) (by decide +kernel)) (by decide +kernel)
theorem wd_20 : (Cond.selects "PlaneNet$Net" (⟨"PlaneNet$Net", "takeAway", "(I)V"⟩ : MethodName) (⟨"PlaneNet$Net", "takeAway", "(I)V"⟩ : MethodName)) ∈ TT := mem_TT (List.mem_of_getElem? (i := 20) (by decide +kernel)) (by decide +kernel)
theorem wd_21 : (Cond.selects "PlaneNet$Net" (⟨"PlaneNet$Net", "isSeen", "(II)Z"⟩ : MethodName) (⟨"PlaneNet$Net", "isSeen", "(II)Z"⟩ : MethodName)) ∈ TT := mem_TT (List.mem_of_getElem? (i := 21) (by decide +kernel)) (by decide +kernel)
theorem wd_22 : (Cond.selects "PlaneNet$Points" (⟨"PlaneNet$Points", "dot", "(III)J"⟩ : MethodName) (⟨"PlaneNet$Points", "dot", "(III)J"⟩ : MethodName)) ∈ TT := mem_TT (List.mem_of_getElem? (i := 22) (by decide +kernel)) (by decide +kernel)
theorem wd_23 : (Cond.selects "PlaneNet$Net" (⟨"PlaneNet$Net", "fill", "(I)V"⟩ : MethodName) (⟨"PlaneNet$Net", "fill", "(I)V"⟩ : MethodName)) ∈ TT := mem_TT (List.mem_of_getElem? (i := 23) (by decide +kernel)) (by decide +kernel)
theorem wd_24 : (Cond.selects "PlaneNet$Roll" (⟨"PlaneNet$Roll", "sortAll", "()V"⟩ : MethodName) (⟨"PlaneNet$Roll", "sortAll", "()V"⟩ : MethodName)) ∈ TT := mem_TT (List.mem_of_getElem? (i := 24) (by decide +kernel)) (by decide +kernel)
theorem wd_25 : (Cond.selects "PlaneNet$Roll" (⟨"PlaneNet$Roll", "gather", "()I"⟩ : MethodName) (⟨"PlaneNet$Roll", "gather", "()I"⟩ : MethodName)) ∈ TT := mem_TT (List.mem_of_getElem? (i := 25) (by decide +kernel)) (by decide +kernel)
theorem wd_26 : (Cond.selects "PlaneNet$Roll" (⟨"PlaneNet$Roll", "sortInto", "(LPlaneNet$Row;LPlaneNet$Row;II)V"⟩ : MethodName) (⟨"PlaneNet$Roll", "sortInto", "(LPlaneNet$Row;LPlaneNet$Row;II)V"⟩ : MethodName)) ∈ TT := mem_TT (List.mem_of_getElem? (i := 26) (by decide +kernel)) (by decide +kernel)
theorem wd_27 : (Cond.selects "PlaneNet" (⟨"PlaneNet", "checkNumber", "(I)V"⟩ : MethodName) (⟨"PlaneNet", "checkNumber", "(I)V"⟩ : MethodName)) ∈ TT := mem_TT (List.mem_of_getElem? (i := 27) (by decide +kernel)) (by decide +kernel)
theorem wd_28 : (Cond.selects "PlaneNet" (⟨"PlaneNet", "neighbourCount", "(I)I"⟩ : MethodName) (⟨"PlaneNet", "neighbourCount", "(I)I"⟩ : MethodName)) ∈ TT := mem_TT (List.mem_of_getElem? (i := 28) (by decide +kernel)) (by decide +kernel)
theorem wd_29 : (Cond.selects "PlaneNet" (⟨"PlaneNet", "neighbourOnLine", "(II)I"⟩ : MethodName) (⟨"PlaneNet", "neighbourOnLine", "(II)I"⟩ : MethodName)) ∈ TT := mem_TT (List.mem_of_getElem? (i := 29) (by decide +kernel)) (by decide +kernel)
theorem wd_30 : (Cond.selects "PlaneNet$Net" (⟨"PlaneNet$Net", "lowestFrom", "(I)I"⟩ : MethodName) (⟨"PlaneNet$Net", "lowestFrom", "(I)I"⟩ : MethodName)) ∈ TT := mem_TT (List.mem_of_getElem? (i := 30) (by decide +kernel)) (by decide +kernel)
theorem wd_31 : (Cond.selects "PlaneNet" (⟨"PlaneNet", "locateOnLine", "(II)I"⟩ : MethodName) (⟨"PlaneNet", "locateOnLine", "(II)I"⟩ : MethodName)) ∈ TT := mem_TT (List.mem_of_getElem? (i := 31) (by decide +kernel)) (by decide +kernel)
theorem wd_32 : (Cond.selects "PlaneNet" (⟨"PlaneNet", "foundBetween", "(II)I"⟩ : MethodName) (⟨"PlaneNet", "foundBetween", "(II)I"⟩ : MethodName)) ∈ TT := mem_TT (List.mem_of_getElem? (i := 32) (by decide +kernel)) (by decide +kernel)
theorem wd_33 : (Cond.selects "PlaneNet" (⟨"PlaneNet", "locateInNet", "(III)I"⟩ : MethodName) (⟨"PlaneNet", "locateInNet", "(III)I"⟩ : MethodName)) ∈ TT := mem_TT (List.mem_of_getElem? (i := 33) (by decide +kernel)) (by decide +kernel)
theorem wd_34 : (Cond.selects "PlaneNetModel" (⟨"PlaneNetModel", "fail", "(I)I"⟩ : MethodName) (⟨"PlaneNetModel", "fail", "(I)I"⟩ : MethodName)) ∈ TT := mem_TT (List.mem_of_getElem? (i := 34) (by decide +kernel)) (by decide +kernel)
theorem wd_35 : (Cond.selects "PlaneNetModel" (⟨"PlaneNetModel", "findPoint", "(II)I"⟩ : MethodName) (⟨"PlaneNetModel", "findPoint", "(II)I"⟩ : MethodName)) ∈ TT := mem_TT (List.mem_of_getElem? (i := 35) (by decide +kernel)) (by decide +kernel)
theorem wd_36 : (Cond.selects "PlaneNetModel" (⟨"PlaneNetModel", "forget", "()V"⟩ : MethodName) (⟨"PlaneNetModel", "forget", "()V"⟩ : MethodName)) ∈ TT := mem_TT (List.mem_of_getElem? (i := 36) (by decide +kernel)) (by decide +kernel)
theorem wd_37 : (Cond.selects "PlaneNetModel" (⟨"PlaneNetModel", "know", "()V"⟩ : MethodName) (⟨"PlaneNetModel", "know", "()V"⟩ : MethodName)) ∈ TT := mem_TT (List.mem_of_getElem? (i := 37) (by decide +kernel)) (by decide +kernel)
theorem wd_38 : (Cond.selects "PlaneNetModel" (⟨"PlaneNetModel", "findCorners", "()V"⟩ : MethodName) (⟨"PlaneNetModel", "findCorners", "()V"⟩ : MethodName)) ∈ TT := mem_TT (List.mem_of_getElem? (i := 38) (by decide +kernel)) (by decide +kernel)
theorem wd_39 : (Cond.selects "PlaneNetModel" (⟨"PlaneNetModel", "least", "()I"⟩ : MethodName) (⟨"PlaneNetModel", "least", "()I"⟩ : MethodName)) ∈ TT := mem_TT (List.mem_of_getElem? (i := 39) (by decide +kernel)) (by decide +kernel)
theorem wd_40 : (Cond.selects "PlaneNetModel" (⟨"PlaneNetModel", "isLess", "(II)Z"⟩ : MethodName) (⟨"PlaneNetModel", "isLess", "(II)Z"⟩ : MethodName)) ∈ TT := mem_TT (List.mem_of_getElem? (i := 40) (by decide +kernel)) (by decide +kernel)
theorem wd_41 : (Cond.selects "PlaneNetModel" (⟨"PlaneNetModel", "cornerBehind", "(I)I"⟩ : MethodName) (⟨"PlaneNetModel", "cornerBehind", "(I)I"⟩ : MethodName)) ∈ TT := mem_TT (List.mem_of_getElem? (i := 41) (by decide +kernel)) (by decide +kernel)
theorem wd_42 : (Cond.selects "PlaneNetModel" (⟨"PlaneNetModel", "sideOf", "(III)I"⟩ : MethodName) (⟨"PlaneNetModel", "sideOf", "(III)I"⟩ : MethodName)) ∈ TT := mem_TT (List.mem_of_getElem? (i := 42) (by decide +kernel)) (by decide +kernel)
theorem wd_43 : (Cond.selects "PlaneNetModel" (⟨"PlaneNetModel", "side", "(IIII)I"⟩ : MethodName) (⟨"PlaneNetModel", "side", "(IIII)I"⟩ : MethodName)) ∈ TT := mem_TT (List.mem_of_getElem? (i := 43) (by decide +kernel)) (by decide +kernel)
theorem wd_44 : (Cond.selects "PlaneNetModel" (⟨"PlaneNetModel", "apart", "(III)J"⟩ : MethodName) (⟨"PlaneNetModel", "apart", "(III)J"⟩ : MethodName)) ∈ TT := mem_TT (List.mem_of_getElem? (i := 44) (by decide +kernel)) (by decide +kernel)
theorem wd_45 : (Cond.selects "PlaneNetModel" (⟨"PlaneNetModel", "look", "(II)V"⟩ : MethodName) (⟨"PlaneNetModel", "look", "(II)V"⟩ : MethodName)) ∈ TT := mem_TT (List.mem_of_getElem? (i := 45) (by decide +kernel)) (by decide +kernel)
theorem wd_46 : (Cond.selects "PlaneNetModel" (⟨"PlaneNetModel", "isSide", "(II)Z"⟩ : MethodName) (⟨"PlaneNetModel", "isSide", "(II)Z"⟩ : MethodName)) ∈ TT := mem_TT (List.mem_of_getElem? (i := 46) (by decide +kernel)) (by decide +kernel)
theorem wd_47 : (Cond.selects "PlaneNetModel" (⟨"PlaneNetModel", "inCircle", "(IIII)I"⟩ : MethodName) (⟨"PlaneNetModel", "inCircle", "(IIII)I"⟩ : MethodName)) ∈ TT := mem_TT (List.mem_of_getElem? (i := 47) (by decide +kernel)) (by decide +kernel)
theorem wd_48 : (Cond.selects "PlaneNetModel" (⟨"PlaneNetModel", "part", "(IIII)V"⟩ : MethodName) (⟨"PlaneNetModel", "part", "(IIII)V"⟩ : MethodName)) ∈ TT := mem_TT (List.mem_of_getElem? (i := 48) (by decide +kernel)) (by decide +kernel)
theorem wd_49 : (Cond.selects "PlaneNetModel" (⟨"PlaneNetModel", "product", "(JJ)V"⟩ : MethodName) (⟨"PlaneNetModel", "product", "(JJ)V"⟩ : MethodName)) ∈ TT := mem_TT (List.mem_of_getElem? (i := 49) (by decide +kernel)) (by decide +kernel)
theorem wd_50 : (Cond.selects "PlaneNetModel" (⟨"PlaneNetModel", "signOfSum", "()I"⟩ : MethodName) (⟨"PlaneNetModel", "signOfSum", "()I"⟩ : MethodName)) ∈ TT := mem_TT (List.mem_of_getElem? (i := 50) (by decide +kernel)) (by decide +kernel)
theorem wd_51 : (Cond.selects "PlaneNetModel" (⟨"PlaneNetModel", "findCell", "(III)V"⟩ : MethodName) (⟨"PlaneNetModel", "findCell", "(III)V"⟩ : MethodName)) ∈ TT := mem_TT (List.mem_of_getElem? (i := 51) (by decide +kernel)) (by decide +kernel)
theorem wd_52 : (Cond.selects "PlaneNetModel" (⟨"PlaneNetModel", "isCelled", "(I)Z"⟩ : MethodName) (⟨"PlaneNetModel", "isCelled", "(I)Z"⟩ : MethodName)) ∈ TT := mem_TT (List.mem_of_getElem? (i := 52) (by decide +kernel)) (by decide +kernel)
theorem wd_53 : (Cond.selects "PlaneNetModel" (⟨"PlaneNetModel", "tell", "(III)V"⟩ : MethodName) (⟨"PlaneNetModel", "tell", "(III)V"⟩ : MethodName)) ∈ TT := mem_TT (List.mem_of_getElem? (i := 53) (by decide +kernel)) (by decide +kernel)
theorem wd_54 : (Cond.selects "PlaneNetModel" (⟨"PlaneNetModel", "sort", "()V"⟩ : MethodName) (⟨"PlaneNetModel", "sort", "()V"⟩ : MethodName)) ∈ TT := mem_TT (List.mem_of_getElem? (i := 54) (by decide +kernel)) (by decide +kernel)
theorem wd_55 : (Cond.selects "PlaneNetModel" (⟨"PlaneNetModel", "isBefore", "(II)Z"⟩ : MethodName) (⟨"PlaneNetModel", "isBefore", "(II)Z"⟩ : MethodName)) ∈ TT := mem_TT (List.mem_of_getElem? (i := 55) (by decide +kernel)) (by decide +kernel)
theorem wd_56 : (Cond.selects "PlaneNetModel" (⟨"PlaneNetModel", "swap", "(I)V"⟩ : MethodName) (⟨"PlaneNetModel", "swap", "(I)V"⟩ : MethodName)) ∈ TT := mem_TT (List.mem_of_getElem? (i := 56) (by decide +kernel)) (by decide +kernel)
theorem wd_57 : (Cond.selects "PlaneNetModel" (⟨"PlaneNetModel", "findNeighbours", "(I)V"⟩ : MethodName) (⟨"PlaneNetModel", "findNeighbours", "(I)V"⟩ : MethodName)) ∈ TT := mem_TT (List.mem_of_getElem? (i := 57) (by decide +kernel)) (by decide +kernel)
theorem wd_58 : (Cond.selects "PlaneNetModel" (⟨"PlaneNetModel", "areNeighbours", "(II)Z"⟩ : MethodName) (⟨"PlaneNetModel", "areNeighbours", "(II)Z"⟩ : MethodName)) ∈ TT := mem_TT (List.mem_of_getElem? (i := 58) (by decide +kernel)) (by decide +kernel)
theorem wd_59 : (Cond.selects "PlaneNetModel" (⟨"PlaneNetModel", "isOn", "(IIII)Z"⟩ : MethodName) (⟨"PlaneNetModel", "isOn", "(IIII)Z"⟩ : MethodName)) ∈ TT := mem_TT (List.mem_of_getElem? (i := 59) (by decide +kernel)) (by decide +kernel)
theorem wd_60 : (Cond.selects "PlaneNetModel" (⟨"PlaneNetModel", "isIn", "(II)Z"⟩ : MethodName) (⟨"PlaneNetModel", "isIn", "(II)Z"⟩ : MethodName)) ∈ TT := mem_TT (List.mem_of_getElem? (i := 60) (by decide +kernel)) (by decide +kernel)
theorem wd_61 : (Cond.selects "PlaneNetModel" (⟨"PlaneNetModel", "isSooner", "(IIII)Z"⟩ : MethodName) (⟨"PlaneNetModel", "isSooner", "(IIII)Z"⟩ : MethodName)) ∈ TT := mem_TT (List.mem_of_getElem? (i := 61) (by decide +kernel)) (by decide +kernel)
theorem wd_62 : (Cond.selects "PlaneNetModel" (⟨"PlaneNetModel", "found", "(IIII)I"⟩ : MethodName) (⟨"PlaneNetModel", "found", "(IIII)I"⟩ : MethodName)) ∈ TT := mem_TT (List.mem_of_getElem? (i := 62) (by decide +kernel)) (by decide +kernel)
theorem wd_64 : (Cond.initialized "PlaneNet") ∈ TT := mem_TT (List.mem_of_getElem? (i := 64) (by decide +kernel)) (by decide +kernel)
theorem wd_65 : (Cond.initialized "PlaneNet$Points") ∈ TT := mem_TT (List.mem_of_getElem? (i := 65) (by decide +kernel)) (by decide +kernel)
theorem wd_66 : (Cond.initialized "java/lang/Math") ∈ TT := mem_TT (List.mem_of_getElem? (i := 66) (by decide +kernel)) (by decide +kernel)
theorem wd_67 : (Cond.initialized "PlaneNet$Row") ∈ TT := mem_TT (List.mem_of_getElem? (i := 67) (by decide +kernel)) (by decide +kernel)
theorem wd_68 : (Cond.initialized "PlaneNet$Wide") ∈ TT := mem_TT (List.mem_of_getElem? (i := 68) (by decide +kernel)) (by decide +kernel)
theorem wd_69 : (Cond.initialized "PlaneNet$Net") ∈ TT := mem_TT (List.mem_of_getElem? (i := 69) (by decide +kernel)) (by decide +kernel)
theorem wd_70 : (Cond.initialized "PlaneNet$Roll") ∈ TT := mem_TT (List.mem_of_getElem? (i := 70) (by decide +kernel)) (by decide +kernel)
theorem wd_71 : (Cond.initialized "PlaneNet$Outline") ∈ TT := mem_TT (List.mem_of_getElem? (i := 71) (by decide +kernel)) (by decide +kernel)
theorem wd_72 : (Cond.initialized "PlaneNetModel") ∈ TT := mem_TT (List.mem_of_getElem? (i := 72) (by decide +kernel)) (by decide +kernel)
theorem wd_78 : (Cond.initialized "java/util/Arrays") ∈ TT := mem_TT (List.mem_of_getElem? (i := 78) (by decide +kernel)) (by decide +kernel)
theorem wd_84 : (Cond.code (⟨"PlaneNet", "<init>", "(I)V"⟩ : MethodName) prog_1_method_1_code 2 (Option.none : Option ClassFile.FieldType)) ∈ TT := mem_TT (List.mem_of_getElem? (i := 84) (by decide +kernel)) (by decide +kernel)
theorem wd_85 : (Cond.methodLink "PlaneNet" 3 (⟨"java/lang/Object", "<init>", "()V"⟩ : MethodName)) ∈ TT := mem_TT (List.mem_of_getElem? (i := 85) (by decide +kernel)) (by decide +kernel)
theorem wd_86 : (Cond.instanceMethod (⟨"java/lang/Object", "<init>", "()V"⟩ : MethodName)) ∈ TT := mem_TT (List.mem_of_getElem? (i := 86) (by decide +kernel)) (by decide +kernel)
theorem wd_87 : (Cond.code (⟨"java/lang/Object", "<init>", "()V"⟩ : MethodName) object_method_1_code 1 (Option.none : Option ClassFile.FieldType)) ∈ TT := mem_TT (List.mem_of_getElem? (i := 87) (by decide +kernel)) (by decide +kernel)
theorem wd_88 : (Cond.classLink "PlaneNet" 9 "PlaneNet$Points") ∈ TT := mem_TT (List.mem_of_getElem? (i := 88) (by decide +kernel)) (by decide +kernel)
theorem wd_89 : (Cond.instantiable "PlaneNet$Points" 5) ∈ TT := mem_TT (List.mem_of_getElem? (i := 89) (by decide +kernel)) (by decide +kernel)
theorem wd_90 : (Cond.methodLink "PlaneNet" 11 (⟨"java/lang/Math", "min", "(II)I"⟩ : MethodName)) ∈ TT := mem_TT (List.mem_of_getElem? (i := 90) (by decide +kernel)) (by decide +kernel)
theorem wd_91 : (Cond.static (⟨"java/lang/Math", "min", "(II)I"⟩ : MethodName)) ∈ TT := mem_TT (List.mem_of_getElem? (i := 91) (by decide +kernel)) (by decide +kernel)
theorem wd_92 : (Cond.code (⟨"java/lang/Math", "min", "(II)I"⟩ : MethodName) prog_14_method_69_code 2 (Option.some .int)) ∈ TT := mem_TT (List.mem_of_getElem? (i := 92) (by decide +kernel)) (by decide +kernel)
theorem wd_93 : (Cond.methodLink "PlaneNet" 17 (⟨"java/lang/Math", "max", "(II)I"⟩ : MethodName)) ∈ TT := mem_TT (List.mem_of_getElem? (i := 93) (by decide +kernel)) (by decide +kernel)
theorem wd_94 : (Cond.static (⟨"java/lang/Math", "max", "(II)I"⟩ : MethodName)) ∈ TT := mem_TT (List.mem_of_getElem? (i := 94) (by decide +kernel)) (by decide +kernel)
theorem wd_95 : (Cond.code (⟨"java/lang/Math", "max", "(II)I"⟩ : MethodName) prog_14_method_65_code 2 (Option.some .int)) ∈ TT := mem_TT (List.mem_of_getElem? (i := 95) (by decide +kernel)) (by decide +kernel)
theorem wd_96 : (Cond.methodLink "PlaneNet" 20 (⟨"PlaneNet$Points", "<init>", "(I)V"⟩ : MethodName)) ∈ TT := mem_TT (List.mem_of_getElem? (i := 96) (by decide +kernel)) (by decide +kernel)
theorem wd_97 : (Cond.instanceMethod (⟨"PlaneNet$Points", "<init>", "(I)V"⟩ : MethodName)) ∈ TT := mem_TT (List.mem_of_getElem? (i := 97) (by decide +kernel)) (by decide +kernel)
theorem wd_98 : (Cond.code (⟨"PlaneNet$Points", "<init>", "(I)V"⟩ : MethodName) prog_4_method_1_code 2 (Option.none : Option ClassFile.FieldType)) ∈ TT := mem_TT (List.mem_of_getElem? (i := 98) (by decide +kernel)) (by decide +kernel)
theorem wd_99 : (Cond.methodLink "PlaneNet$Points" 3 (⟨"java/lang/Object", "<init>", "()V"⟩ : MethodName)) ∈ TT := mem_TT (List.mem_of_getElem? (i := 99) (by decide +kernel)) (by decide +kernel)
theorem wd_100 : (Cond.classLink "PlaneNet$Points" 18 "PlaneNet$Row") ∈ TT := mem_TT (List.mem_of_getElem? (i := 100) (by decide +kernel)) (by decide +kernel)
theorem wd_101 : (Cond.instantiable "PlaneNet$Row" 2) ∈ TT := mem_TT (List.mem_of_getElem? (i := 101) (by decide +kernel)) (by decide +kernel)
theorem wd_102 : (Cond.methodLink "PlaneNet$Points" 20 (⟨"PlaneNet$Row", "<init>", "(I)V"⟩ : MethodName)) ∈ TT := mem_TT (List.mem_of_getElem? (i := 102) (by decide +kernel)) (by decide +kernel)
theorem wd_103 : (Cond.instanceMethod (⟨"PlaneNet$Row", "<init>", "(I)V"⟩ : MethodName)) ∈ TT := mem_TT (List.mem_of_getElem? (i := 103) (by decide +kernel)) (by decide +kernel)
theorem wd_104 : (Cond.code (⟨"PlaneNet$Row", "<init>", "(I)V"⟩ : MethodName) prog_6_method_1_code 2 (Option.none : Option ClassFile.FieldType)) ∈ TT := mem_TT (List.mem_of_getElem? (i := 104) (by decide +kernel)) (by decide +kernel)
theorem wd_115 : (Cond.classLink "PlaneNet$Points" 30 "PlaneNet$Wide") ∈ TT := mem_TT (List.mem_of_getElem? (i := 115) (by decide +kernel)) (by decide +kernel)
theorem wd_116 : (Cond.instantiable "PlaneNet$Wide" 2) ∈ TT := mem_TT (List.mem_of_getElem? (i := 116) (by decide +kernel)) (by decide +kernel)
theorem wd_117 : (Cond.methodLink "PlaneNet$Points" 32 (⟨"PlaneNet$Wide", "<init>", "()V"⟩ : MethodName)) ∈ TT := mem_TT (List.mem_of_getElem? (i := 117) (by decide +kernel)) (by decide +kernel)
theorem wd_118 : (Cond.instanceMethod (⟨"PlaneNet$Wide", "<init>", "()V"⟩ : MethodName)) ∈ TT := mem_TT (List.mem_of_getElem? (i := 118) (by decide +kernel)) (by decide +kernel)
theorem wd_119 : (Cond.code (⟨"PlaneNet$Wide", "<init>", "()V"⟩ : MethodName) prog_7_method_1_code 1 (Option.none : Option ClassFile.FieldType)) ∈ TT := mem_TT (List.mem_of_getElem? (i := 119) (by decide +kernel)) (by decide +kernel)
theorem wd_120 : (Cond.methodLink "PlaneNet$Wide" 1 (⟨"java/lang/Object", "<init>", "()V"⟩ : MethodName)) ∈ TT := mem_TT (List.mem_of_getElem? (i := 120) (by decide +kernel)) (by decide +kernel)
theorem wd_121 : (Cond.fieldLink "PlaneNet$Wide" 7 "PlaneNet$Wide" "high" "J") ∈ TT := mem_TT (List.mem_of_getElem? (i := 121) (by decide +kernel)) (by decide +kernel)
theorem wd_122 : (Cond.fieldLink "PlaneNet$Wide" 13 "PlaneNet$Wide" "low" "J") ∈ TT := mem_TT (List.mem_of_getElem? (i := 122) (by decide +kernel)) (by decide +kernel)
theorem wd_128 : (Cond.fieldLink "PlaneNet$Points" 9 "PlaneNet$Points" "room" "I") ∈ TT := mem_TT (List.mem_of_getElem? (i := 128) (by decide +kernel)) (by decide +kernel)
theorem wd_129 : (Cond.fieldLink "PlaneNet$Net" 15 "PlaneNet$Points" "room" "I") ∈ TT := mem_TT (List.mem_of_getElem? (i := 129) (by decide +kernel)) (by decide +kernel)
theorem wd_130 : (Cond.fieldLink "PlaneNet$Outline" 21 "PlaneNet$Points" "room" "I") ∈ TT := mem_TT (List.mem_of_getElem? (i := 130) (by decide +kernel)) (by decide +kernel)
theorem wd_131 : (Cond.fieldLink "PlaneNet$Roll" 19 "PlaneNet$Points" "room" "I") ∈ TT := mem_TT (List.mem_of_getElem? (i := 131) (by decide +kernel)) (by decide +kernel)
theorem wd_132 : (Cond.fieldLink "PlaneNet$Points" 15 "PlaneNet$Points" "size" "I") ∈ TT := mem_TT (List.mem_of_getElem? (i := 132) (by decide +kernel)) (by decide +kernel)
theorem wd_133 : (Cond.fieldLink "PlaneNet" 71 "PlaneNet$Points" "size" "I") ∈ TT := mem_TT (List.mem_of_getElem? (i := 133) (by decide +kernel)) (by decide +kernel)
theorem wd_134 : (Cond.fieldLink "PlaneNet$Roll" 76 "PlaneNet$Points" "size" "I") ∈ TT := mem_TT (List.mem_of_getElem? (i := 134) (by decide +kernel)) (by decide +kernel)
theorem wd_135 : (Cond.fieldLink "PlaneNet$Outline" 78 "PlaneNet$Points" "size" "I") ∈ TT := mem_TT (List.mem_of_getElem? (i := 135) (by decide +kernel)) (by decide +kernel)
theorem wd_136 : (Cond.fieldLink "PlaneNet$Points" 23 "PlaneNet$Points" "xs" "LPlaneNet$Row;") ∈ TT := mem_TT (List.mem_of_getElem? (i := 136) (by decide +kernel)) (by decide +kernel)
theorem wd_137 : (Cond.fieldLink "PlaneNet$Points" 27 "PlaneNet$Points" "ys" "LPlaneNet$Row;") ∈ TT := mem_TT (List.mem_of_getElem? (i := 137) (by decide +kernel)) (by decide +kernel)
theorem wd_138 : (Cond.fieldLink "PlaneNet$Points" 33 "PlaneNet$Points" "sum" "LPlaneNet$Wide;") ∈ TT := mem_TT (List.mem_of_getElem? (i := 138) (by decide +kernel)) (by decide +kernel)
theorem wd_150 : (Cond.classLink "PlaneNet" 27 "PlaneNet$Net") ∈ TT := mem_TT (List.mem_of_getElem? (i := 150) (by decide +kernel)) (by decide +kernel)
theorem wd_151 : (Cond.instantiable "PlaneNet$Net" 13) ∈ TT := mem_TT (List.mem_of_getElem? (i := 151) (by decide +kernel)) (by decide +kernel)
theorem wd_152 : (Cond.methodLink "PlaneNet" 29 (⟨"PlaneNet$Net", "<init>", "(LPlaneNet$Points;)V"⟩ : MethodName)) ∈ TT := mem_TT (List.mem_of_getElem? (i := 152) (by decide +kernel)) (by decide +kernel)
theorem wd_153 : (Cond.instanceMethod (⟨"PlaneNet$Net", "<init>", "(LPlaneNet$Points;)V"⟩ : MethodName)) ∈ TT := mem_TT (List.mem_of_getElem? (i := 153) (by decide +kernel)) (by decide +kernel)
theorem wd_154 : (Cond.code (⟨"PlaneNet$Net", "<init>", "(LPlaneNet$Points;)V"⟩ : MethodName) prog_2_method_1_code 2 (Option.none : Option ClassFile.FieldType)) ∈ TT := mem_TT (List.mem_of_getElem? (i := 154) (by decide +kernel)) (by decide +kernel)
theorem wd_155 : (Cond.methodLink "PlaneNet$Net" 3 (⟨"java/lang/Object", "<init>", "()V"⟩ : MethodName)) ∈ TT := mem_TT (List.mem_of_getElem? (i := 155) (by decide +kernel)) (by decide +kernel)
theorem wd_156 : (Cond.classLink "PlaneNet$Net" 24 "PlaneNet$Row") ∈ TT := mem_TT (List.mem_of_getElem? (i := 156) (by decide +kernel)) (by decide +kernel)
theorem wd_157 : (Cond.methodLink "PlaneNet$Net" 26 (⟨"PlaneNet$Row", "<init>", "(I)V"⟩ : MethodName)) ∈ TT := mem_TT (List.mem_of_getElem? (i := 157) (by decide +kernel)) (by decide +kernel)
theorem wd_158 : (Cond.fieldLink "PlaneNet$Net" 9 "PlaneNet$Net" "points" "LPlaneNet$Points;") ∈ TT := mem_TT (List.mem_of_getElem? (i := 158) (by decide +kernel)) (by decide +kernel)
theorem wd_159 : (Cond.fieldLink "PlaneNet$Net" 21 "PlaneNet$Net" "ghost" "I") ∈ TT := mem_TT (List.mem_of_getElem? (i := 159) (by decide +kernel)) (by decide +kernel)
theorem wd_160 : (Cond.fieldLink "PlaneNet$Net" 29 "PlaneNet$Net" "starts" "LPlaneNet$Row;") ∈ TT := mem_TT (List.mem_of_getElem? (i := 160) (by decide +kernel)) (by decide +kernel)
theorem wd_161 : (Cond.fieldLink "PlaneNet$Net" 33 "PlaneNet$Net" "twins" "LPlaneNet$Row;") ∈ TT := mem_TT (List.mem_of_getElem? (i := 161) (by decide +kernel)) (by decide +kernel)
theorem wd_162 : (Cond.fieldLink "PlaneNet$Net" 36 "PlaneNet$Net" "leaving" "LPlaneNet$Row;") ∈ TT := mem_TT (List.mem_of_getElem? (i := 162) (by decide +kernel)) (by decide +kernel)
theorem wd_163 : (Cond.fieldLink "PlaneNet$Net" 39 "PlaneNet$Net" "marks" "LPlaneNet$Row;") ∈ TT := mem_TT (List.mem_of_getElem? (i := 163) (by decide +kernel)) (by decide +kernel)
theorem wd_164 : (Cond.fieldLink "PlaneNet$Net" 42 "PlaneNet$Net" "pit" "LPlaneNet$Row;") ∈ TT := mem_TT (List.mem_of_getElem? (i := 164) (by decide +kernel)) (by decide +kernel)
theorem wd_165 : (Cond.fieldLink "PlaneNet$Net" 45 "PlaneNet$Net" "rim" "LPlaneNet$Row;") ∈ TT := mem_TT (List.mem_of_getElem? (i := 165) (by decide +kernel)) (by decide +kernel)
theorem wd_166 : (Cond.fieldLink "PlaneNet$Net" 48 "PlaneNet$Net" "mark" "I") ∈ TT := mem_TT (List.mem_of_getElem? (i := 166) (by decide +kernel)) (by decide +kernel)
theorem wd_167 : (Cond.fieldLink "PlaneNet$Net" 51 "PlaneNet$Net" "all" "I") ∈ TT := mem_TT (List.mem_of_getElem? (i := 167) (by decide +kernel)) (by decide +kernel)
theorem wd_168 : (Cond.fieldLink "PlaneNet$Net" 54 "PlaneNet$Net" "outer" "I") ∈ TT := mem_TT (List.mem_of_getElem? (i := 168) (by decide +kernel)) (by decide +kernel)
theorem wd_169 : (Cond.fieldLink "PlaneNet$Net" 57 "PlaneNet$Net" "pitSize" "I") ∈ TT := mem_TT (List.mem_of_getElem? (i := 169) (by decide +kernel)) (by decide +kernel)
theorem wd_170 : (Cond.fieldLink "PlaneNet$Net" 60 "PlaneNet$Net" "rimSize" "I") ∈ TT := mem_TT (List.mem_of_getElem? (i := 170) (by decide +kernel)) (by decide +kernel)
theorem wd_198 : (Cond.classLink "PlaneNet" 36 "PlaneNet$Roll") ∈ TT := mem_TT (List.mem_of_getElem? (i := 198) (by decide +kernel)) (by decide +kernel)
theorem wd_199 : (Cond.instantiable "PlaneNet$Roll" 6) ∈ TT := mem_TT (List.mem_of_getElem? (i := 199) (by decide +kernel)) (by decide +kernel)
theorem wd_200 : (Cond.methodLink "PlaneNet" 38 (⟨"PlaneNet$Roll", "<init>", "(LPlaneNet$Points;LPlaneNet$Net;)V"⟩ : MethodName)) ∈ TT := mem_TT (List.mem_of_getElem? (i := 200) (by decide +kernel)) (by decide +kernel)
theorem wd_201 : (Cond.instanceMethod (⟨"PlaneNet$Roll", "<init>", "(LPlaneNet$Points;LPlaneNet$Net;)V"⟩ : MethodName)) ∈ TT := mem_TT (List.mem_of_getElem? (i := 201) (by decide +kernel)) (by decide +kernel)
theorem wd_202 : (Cond.code (⟨"PlaneNet$Roll", "<init>", "(LPlaneNet$Points;LPlaneNet$Net;)V"⟩ : MethodName) prog_5_method_1_code 3 (Option.none : Option ClassFile.FieldType)) ∈ TT := mem_TT (List.mem_of_getElem? (i := 202) (by decide +kernel)) (by decide +kernel)
theorem wd_203 : (Cond.methodLink "PlaneNet$Roll" 1 (⟨"java/lang/Object", "<init>", "()V"⟩ : MethodName)) ∈ TT := mem_TT (List.mem_of_getElem? (i := 203) (by decide +kernel)) (by decide +kernel)
theorem wd_204 : (Cond.classLink "PlaneNet$Roll" 17 "PlaneNet$Row") ∈ TT := mem_TT (List.mem_of_getElem? (i := 204) (by decide +kernel)) (by decide +kernel)
theorem wd_205 : (Cond.methodLink "PlaneNet$Roll" 25 (⟨"PlaneNet$Row", "<init>", "(I)V"⟩ : MethodName)) ∈ TT := mem_TT (List.mem_of_getElem? (i := 205) (by decide +kernel)) (by decide +kernel)
theorem wd_206 : (Cond.fieldLink "PlaneNet$Roll" 7 "PlaneNet$Roll" "points" "LPlaneNet$Points;") ∈ TT := mem_TT (List.mem_of_getElem? (i := 206) (by decide +kernel)) (by decide +kernel)
theorem wd_207 : (Cond.fieldLink "PlaneNet$Roll" 13 "PlaneNet$Roll" "net" "LPlaneNet$Net;") ∈ TT := mem_TT (List.mem_of_getElem? (i := 207) (by decide +kernel)) (by decide +kernel)
theorem wd_208 : (Cond.fieldLink "PlaneNet$Roll" 28 "PlaneNet$Roll" "edges" "LPlaneNet$Row;") ∈ TT := mem_TT (List.mem_of_getElem? (i := 208) (by decide +kernel)) (by decide +kernel)
theorem wd_209 : (Cond.fieldLink "PlaneNet$Roll" 32 "PlaneNet$Roll" "spare" "LPlaneNet$Row;") ∈ TT := mem_TT (List.mem_of_getElem? (i := 209) (by decide +kernel)) (by decide +kernel)
theorem wd_210 : (Cond.fieldLink "PlaneNet$Roll" 35 "PlaneNet$Roll" "ends" "LPlaneNet$Row;") ∈ TT := mem_TT (List.mem_of_getElem? (i := 210) (by decide +kernel)) (by decide +kernel)
theorem wd_211 : (Cond.fieldLink "PlaneNet$Roll" 38 "PlaneNet$Roll" "fresh" "Z") ∈ TT := mem_TT (List.mem_of_getElem? (i := 211) (by decide +kernel)) (by decide +kernel)
theorem wd_225 : (Cond.classLink "PlaneNet" 45 "PlaneNet$Outline") ∈ TT := mem_TT (List.mem_of_getElem? (i := 225) (by decide +kernel)) (by decide +kernel)
theorem wd_226 : (Cond.instantiable "PlaneNet$Outline" 5) ∈ TT := mem_TT (List.mem_of_getElem? (i := 226) (by decide +kernel)) (by decide +kernel)
theorem wd_227 : (Cond.methodLink "PlaneNet" 47 (⟨"PlaneNet$Outline", "<init>", "(LPlaneNet$Points;LPlaneNet$Net;)V"⟩ : MethodName)) ∈ TT := mem_TT (List.mem_of_getElem? (i := 227) (by decide +kernel)) (by decide +kernel)
theorem wd_228 : (Cond.instanceMethod (⟨"PlaneNet$Outline", "<init>", "(LPlaneNet$Points;LPlaneNet$Net;)V"⟩ : MethodName)) ∈ TT := mem_TT (List.mem_of_getElem? (i := 228) (by decide +kernel)) (by decide +kernel)
theorem wd_229 : (Cond.code (⟨"PlaneNet$Outline", "<init>", "(LPlaneNet$Points;LPlaneNet$Net;)V"⟩ : MethodName) prog_3_method_1_code 3 (Option.none : Option ClassFile.FieldType)) ∈ TT := mem_TT (List.mem_of_getElem? (i := 229) (by decide +kernel)) (by decide +kernel)
theorem wd_230 : (Cond.methodLink "PlaneNet$Outline" 3 (⟨"java/lang/Object", "<init>", "()V"⟩ : MethodName)) ∈ TT := mem_TT (List.mem_of_getElem? (i := 230) (by decide +kernel)) (by decide +kernel)
theorem wd_231 : (Cond.classLink "PlaneNet$Outline" 19 "PlaneNet$Row") ∈ TT := mem_TT (List.mem_of_getElem? (i := 231) (by decide +kernel)) (by decide +kernel)
theorem wd_232 : (Cond.methodLink "PlaneNet$Outline" 27 (⟨"PlaneNet$Row", "<init>", "(I)V"⟩ : MethodName)) ∈ TT := mem_TT (List.mem_of_getElem? (i := 232) (by decide +kernel)) (by decide +kernel)
theorem wd_233 : (Cond.fieldLink "PlaneNet$Outline" 9 "PlaneNet$Outline" "points" "LPlaneNet$Points;") ∈ TT := mem_TT (List.mem_of_getElem? (i := 233) (by decide +kernel)) (by decide +kernel)
theorem wd_234 : (Cond.fieldLink "PlaneNet$Outline" 15 "PlaneNet$Outline" "net" "LPlaneNet$Net;") ∈ TT := mem_TT (List.mem_of_getElem? (i := 234) (by decide +kernel)) (by decide +kernel)
theorem wd_235 : (Cond.fieldLink "PlaneNet$Outline" 30 "PlaneNet$Outline" "corners" "LPlaneNet$Row;") ∈ TT := mem_TT (List.mem_of_getElem? (i := 235) (by decide +kernel)) (by decide +kernel)
theorem wd_236 : (Cond.fieldLink "PlaneNet$Outline" 34 "PlaneNet$Outline" "size" "I") ∈ TT := mem_TT (List.mem_of_getElem? (i := 236) (by decide +kernel)) (by decide +kernel)
theorem wd_237 : (Cond.fieldLink "PlaneNet$Outline" 37 "PlaneNet$Outline" "fresh" "Z") ∈ TT := mem_TT (List.mem_of_getElem? (i := 237) (by decide +kernel)) (by decide +kernel)
theorem wd_249 : (Cond.fieldLink "PlaneNet" 23 "PlaneNet" "points" "LPlaneNet$Points;") ∈ TT := mem_TT (List.mem_of_getElem? (i := 249) (by decide +kernel)) (by decide +kernel)
theorem wd_250 : (Cond.fieldLink "PlaneNet" 32 "PlaneNet" "net" "LPlaneNet$Net;") ∈ TT := mem_TT (List.mem_of_getElem? (i := 250) (by decide +kernel)) (by decide +kernel)
theorem wd_251 : (Cond.fieldLink "PlaneNet" 41 "PlaneNet" "roll" "LPlaneNet$Roll;") ∈ TT := mem_TT (List.mem_of_getElem? (i := 251) (by decide +kernel)) (by decide +kernel)
theorem wd_252 : (Cond.fieldLink "PlaneNet" 48 "PlaneNet" "outline" "LPlaneNet$Outline;") ∈ TT := mem_TT (List.mem_of_getElem? (i := 252) (by decide +kernel)) (by decide +kernel)
theorem wd_253 : (Cond.fieldLink "PlaneNet" 52 "PlaneNet" "found" "[I") ∈ TT := mem_TT (List.mem_of_getElem? (i := 253) (by decide +kernel)) (by decide +kernel)
theorem wd_254 : (Cond.fieldLink "PlaneNet" 56 "PlaneNet" "closestGap" "J") ∈ TT := mem_TT (List.mem_of_getElem? (i := 254) (by decide +kernel)) (by decide +kernel)
theorem wd_255 : (Cond.fieldLink "PlaneNet" 60 "PlaneNet" "closestLower" "I") ∈ TT := mem_TT (List.mem_of_getElem? (i := 255) (by decide +kernel)) (by decide +kernel)
theorem wd_256 : (Cond.fieldLink "PlaneNet" 64 "PlaneNet" "closestOther" "I") ∈ TT := mem_TT (List.mem_of_getElem? (i := 256) (by decide +kernel)) (by decide +kernel)
theorem wd_274 : (Cond.arrayClass .int) ∈ TT := mem_TT (List.mem_of_getElem? (i := 274) (by decide +kernel)) (by decide +kernel)
theorem wd_278 : (Cond.code (⟨"PlaneNet", "clear", "()I"⟩ : MethodName) prog_1_method_3_code 2 (Option.some .int)) ∈ TT := mem_TT (List.mem_of_getElem? (i := 278) (by decide +kernel)) (by decide +kernel)
theorem wd_279 : (Cond.methodLink "PlaneNet" 114 (⟨"PlaneNet$Net", "removeAll", "()V"⟩ : MethodName)) ∈ TT := mem_TT (List.mem_of_getElem? (i := 279) (by decide +kernel)) (by decide +kernel)
theorem wd_280 : (Cond.instanceMethod (⟨"PlaneNet$Net", "removeAll", "()V"⟩ : MethodName)) ∈ TT := mem_TT (List.mem_of_getElem? (i := 280) (by decide +kernel)) (by decide +kernel)
theorem wd_281 : (Cond.selects "PlaneNet$Net" (⟨"PlaneNet$Net", "removeAll", "()V"⟩ : MethodName) (⟨"PlaneNet$Net", "removeAll", "()V"⟩ : MethodName)) ∈ TT := mem_TT (List.mem_of_getElem? (i := 281) (by decide +kernel)) (by decide +kernel)
theorem wd_282 : (Cond.code (⟨"PlaneNet$Net", "removeAll", "()V"⟩ : MethodName) prog_2_method_8_code 1 (Option.none : Option ClassFile.FieldType)) ∈ TT := mem_TT (List.mem_of_getElem? (i := 282) (by decide +kernel)) (by decide +kernel)
theorem wd_283 : (Cond.methodLink "PlaneNet" 111 (⟨"PlaneNet", "forgetAnswers", "()V"⟩ : MethodName)) ∈ TT := mem_TT (List.mem_of_getElem? (i := 283) (by decide +kernel)) (by decide +kernel)
theorem wd_285 : (Cond.instanceMethod (⟨"PlaneNet", "forgetAnswers", "()V"⟩ : MethodName)) ∈ TT := mem_TT (List.mem_of_getElem? (i := 285) (by decide +kernel)) (by decide +kernel)
theorem wd_286 : (Cond.code (⟨"PlaneNet", "forgetAnswers", "()V"⟩ : MethodName) prog_1_method_20_code 1 (Option.none : Option ClassFile.FieldType)) ∈ TT := mem_TT (List.mem_of_getElem? (i := 286) (by decide +kernel)) (by decide +kernel)
theorem wd_287 : (Cond.methodLink "PlaneNet" 158 (⟨"PlaneNet", "forgetFound", "()V"⟩ : MethodName)) ∈ TT := mem_TT (List.mem_of_getElem? (i := 287) (by decide +kernel)) (by decide +kernel)
theorem wd_289 : (Cond.instanceMethod (⟨"PlaneNet", "forgetFound", "()V"⟩ : MethodName)) ∈ TT := mem_TT (List.mem_of_getElem? (i := 289) (by decide +kernel)) (by decide +kernel)
theorem wd_290 : (Cond.code (⟨"PlaneNet", "forgetFound", "()V"⟩ : MethodName) prog_1_method_21_code 1 (Option.none : Option ClassFile.FieldType)) ∈ TT := mem_TT (List.mem_of_getElem? (i := 290) (by decide +kernel)) (by decide +kernel)
theorem wd_291 : (Cond.methodLink "PlaneNet" 210 (⟨"java/util/Arrays", "fill", "([II)V"⟩ : MethodName)) ∈ TT := mem_TT (List.mem_of_getElem? (i := 291) (by decide +kernel)) (by decide +kernel)
theorem wd_292 : (Cond.static (⟨"java/util/Arrays", "fill", "([II)V"⟩ : MethodName)) ∈ TT := mem_TT (List.mem_of_getElem? (i := 292) (by decide +kernel)) (by decide +kernel)
theorem wd_293 : (Cond.code (⟨"java/util/Arrays", "fill", "([II)V"⟩ : MethodName) prog_18_method_103_code 4 (Option.none : Option ClassFile.FieldType)) ∈ TT := mem_TT (List.mem_of_getElem? (i := 293) (by decide +kernel)) (by decide +kernel)
theorem wd_294 : (Cond.methodLink "PlaneNet" 206 (⟨"PlaneNet$Roll", "forget", "()V"⟩ : MethodName)) ∈ TT := mem_TT (List.mem_of_getElem? (i := 294) (by decide +kernel)) (by decide +kernel)
theorem wd_295 : (Cond.instanceMethod (⟨"PlaneNet$Roll", "forget", "()V"⟩ : MethodName)) ∈ TT := mem_TT (List.mem_of_getElem? (i := 295) (by decide +kernel)) (by decide +kernel)
theorem wd_296 : (Cond.selects "PlaneNet$Roll" (⟨"PlaneNet$Roll", "forget", "()V"⟩ : MethodName) (⟨"PlaneNet$Roll", "forget", "()V"⟩ : MethodName)) ∈ TT := mem_TT (List.mem_of_getElem? (i := 296) (by decide +kernel)) (by decide +kernel)
theorem wd_297 : (Cond.code (⟨"PlaneNet$Roll", "forget", "()V"⟩ : MethodName) prog_5_method_3_code 1 (Option.none : Option ClassFile.FieldType)) ∈ TT := mem_TT (List.mem_of_getElem? (i := 297) (by decide +kernel)) (by decide +kernel)
theorem wd_298 : (Cond.methodLink "PlaneNet" 209 (⟨"PlaneNet$Outline", "forget", "()V"⟩ : MethodName)) ∈ TT := mem_TT (List.mem_of_getElem? (i := 298) (by decide +kernel)) (by decide +kernel)
theorem wd_299 : (Cond.instanceMethod (⟨"PlaneNet$Outline", "forget", "()V"⟩ : MethodName)) ∈ TT := mem_TT (List.mem_of_getElem? (i := 299) (by decide +kernel)) (by decide +kernel)
theorem wd_300 : (Cond.selects "PlaneNet$Outline" (⟨"PlaneNet$Outline", "forget", "()V"⟩ : MethodName) (⟨"PlaneNet$Outline", "forget", "()V"⟩ : MethodName)) ∈ TT := mem_TT (List.mem_of_getElem? (i := 300) (by decide +kernel)) (by decide +kernel)
theorem wd_301 : (Cond.code (⟨"PlaneNet$Outline", "forget", "()V"⟩ : MethodName) prog_3_method_3_code 1 (Option.none : Option ClassFile.FieldType)) ∈ TT := mem_TT (List.mem_of_getElem? (i := 301) (by decide +kernel)) (by decide +kernel)
theorem wd_305 : (Cond.code (⟨"PlaneNet", "located", "(I)I"⟩ : MethodName) prog_1_method_10_code 2 (Option.some .int)) ∈ TT := mem_TT (List.mem_of_getElem? (i := 305) (by decide +kernel)) (by decide +kernel)
theorem wd_309 : (Cond.code (⟨"PlaneNet", "count", "(I)I"⟩ : MethodName) prog_1_method_14_code 2 (Option.some .int)) ∈ TT := mem_TT (List.mem_of_getElem? (i := 309) (by decide +kernel)) (by decide +kernel)
theorem wd_310 : (Cond.methodLink "PlaneNet" 117 (⟨"PlaneNet$Net", "solidCount", "()I"⟩ : MethodName)) ∈ TT := mem_TT (List.mem_of_getElem? (i := 310) (by decide +kernel)) (by decide +kernel)
theorem wd_311 : (Cond.instanceMethod (⟨"PlaneNet$Net", "solidCount", "()I"⟩ : MethodName)) ∈ TT := mem_TT (List.mem_of_getElem? (i := 311) (by decide +kernel)) (by decide +kernel)
theorem wd_312 : (Cond.selects "PlaneNet$Net" (⟨"PlaneNet$Net", "solidCount", "()I"⟩ : MethodName) (⟨"PlaneNet$Net", "solidCount", "()I"⟩ : MethodName)) ∈ TT := mem_TT (List.mem_of_getElem? (i := 312) (by decide +kernel)) (by decide +kernel)
theorem wd_313 : (Cond.code (⟨"PlaneNet$Net", "solidCount", "()I"⟩ : MethodName) prog_2_method_4_code 1 (Option.some .int)) ∈ TT := mem_TT (List.mem_of_getElem? (i := 313) (by decide +kernel)) (by decide +kernel)
theorem wd_314 : (Cond.methodLink "PlaneNet" 150 (⟨"PlaneNet$Outline", "many", "()I"⟩ : MethodName)) ∈ TT := mem_TT (List.mem_of_getElem? (i := 314) (by decide +kernel)) (by decide +kernel)
theorem wd_315 : (Cond.instanceMethod (⟨"PlaneNet$Outline", "many", "()I"⟩ : MethodName)) ∈ TT := mem_TT (List.mem_of_getElem? (i := 315) (by decide +kernel)) (by decide +kernel)
theorem wd_316 : (Cond.selects "PlaneNet$Outline" (⟨"PlaneNet$Outline", "many", "()I"⟩ : MethodName) (⟨"PlaneNet$Outline", "many", "()I"⟩ : MethodName)) ∈ TT := mem_TT (List.mem_of_getElem? (i := 316) (by decide +kernel)) (by decide +kernel)
theorem wd_317 : (Cond.code (⟨"PlaneNet$Outline", "many", "()I"⟩ : MethodName) prog_3_method_4_code 1 (Option.some .int)) ∈ TT := mem_TT (List.mem_of_getElem? (i := 317) (by decide +kernel)) (by decide +kernel)
theorem wd_318 : (Cond.methodLink "PlaneNet$Outline" 44 (⟨"PlaneNet$Outline", "draw", "()V"⟩ : MethodName)) ∈ TT := mem_TT (List.mem_of_getElem? (i := 318) (by decide +kernel)) (by decide +kernel)
theorem wd_320 : (Cond.instanceMethod (⟨"PlaneNet$Outline", "draw", "()V"⟩ : MethodName)) ∈ TT := mem_TT (List.mem_of_getElem? (i := 320) (by decide +kernel)) (by decide +kernel)
theorem wd_321 : (Cond.code (⟨"PlaneNet$Outline", "draw", "()V"⟩ : MethodName) prog_3_method_6_code 1 (Option.none : Option ClassFile.FieldType)) ∈ TT := mem_TT (List.mem_of_getElem? (i := 321) (by decide +kernel)) (by decide +kernel)
theorem wd_322 : (Cond.methodLink "PlaneNet$Outline" 51 (⟨"PlaneNet$Net", "isEmpty", "()Z"⟩ : MethodName)) ∈ TT := mem_TT (List.mem_of_getElem? (i := 322) (by decide +kernel)) (by decide +kernel)
theorem wd_323 : (Cond.instanceMethod (⟨"PlaneNet$Net", "isEmpty", "()Z"⟩ : MethodName)) ∈ TT := mem_TT (List.mem_of_getElem? (i := 323) (by decide +kernel)) (by decide +kernel)
theorem wd_324 : (Cond.selects "PlaneNet$Net" (⟨"PlaneNet$Net", "isEmpty", "()Z"⟩ : MethodName) (⟨"PlaneNet$Net", "isEmpty", "()Z"⟩ : MethodName)) ∈ TT := mem_TT (List.mem_of_getElem? (i := 324) (by decide +kernel)) (by decide +kernel)
theorem wd_325 : (Cond.code (⟨"PlaneNet$Net", "isEmpty", "()Z"⟩ : MethodName) prog_2_method_3_code 1 (Option.some .boolean)) ∈ TT := mem_TT (List.mem_of_getElem? (i := 325) (by decide +kernel)) (by decide +kernel)
theorem wd_326 : (Cond.methodLink "PlaneNet$Outline" 57 (⟨"PlaneNet$Outline", "drawLine", "()V"⟩ : MethodName)) ∈ TT := mem_TT (List.mem_of_getElem? (i := 326) (by decide +kernel)) (by decide +kernel)
theorem wd_328 : (Cond.instanceMethod (⟨"PlaneNet$Outline", "drawLine", "()V"⟩ : MethodName)) ∈ TT := mem_TT (List.mem_of_getElem? (i := 328) (by decide +kernel)) (by decide +kernel)
theorem wd_329 : (Cond.code (⟨"PlaneNet$Outline", "drawLine", "()V"⟩ : MethodName) prog_3_method_7_code 3 (Option.none : Option ClassFile.FieldType)) ∈ TT := mem_TT (List.mem_of_getElem? (i := 329) (by decide +kernel)) (by decide +kernel)
theorem wd_330 : (Cond.constant "PlaneNet$Outline" 63 (-1000000001)) ∈ TT := mem_TT (List.mem_of_getElem? (i := 330) (by decide +kernel)) (by decide +kernel)
theorem wd_331 : (Cond.methodLink "PlaneNet$Outline" 64 (⟨"PlaneNet$Points", "leastAbove", "(II)I"⟩ : MethodName)) ∈ TT := mem_TT (List.mem_of_getElem? (i := 331) (by decide +kernel)) (by decide +kernel)
theorem wd_332 : (Cond.instanceMethod (⟨"PlaneNet$Points", "leastAbove", "(II)I"⟩ : MethodName)) ∈ TT := mem_TT (List.mem_of_getElem? (i := 332) (by decide +kernel)) (by decide +kernel)
theorem wd_333 : (Cond.selects "PlaneNet$Points" (⟨"PlaneNet$Points", "leastAbove", "(II)I"⟩ : MethodName) (⟨"PlaneNet$Points", "leastAbove", "(II)I"⟩ : MethodName)) ∈ TT := mem_TT (List.mem_of_getElem? (i := 333) (by decide +kernel)) (by decide +kernel)
theorem wd_334 : (Cond.code (⟨"PlaneNet$Points", "leastAbove", "(II)I"⟩ : MethodName) prog_4_method_13_code 5 (Option.some .int)) ∈ TT := mem_TT (List.mem_of_getElem? (i := 334) (by decide +kernel)) (by decide +kernel)
theorem wd_335 : (Cond.methodLink "PlaneNet$Points" 52 (⟨"PlaneNet$Points", "isAbove", "(III)Z"⟩ : MethodName)) ∈ TT := mem_TT (List.mem_of_getElem? (i := 335) (by decide +kernel)) (by decide +kernel)
theorem wd_337 : (Cond.instanceMethod (⟨"PlaneNet$Points", "isAbove", "(III)Z"⟩ : MethodName)) ∈ TT := mem_TT (List.mem_of_getElem? (i := 337) (by decide +kernel)) (by decide +kernel)
theorem wd_338 : (Cond.code (⟨"PlaneNet$Points", "isAbove", "(III)Z"⟩ : MethodName) prog_4_method_10_code 4 (Option.some .boolean)) ∈ TT := mem_TT (List.mem_of_getElem? (i := 338) (by decide +kernel)) (by decide +kernel)
theorem wd_339 : (Cond.methodLink "PlaneNet$Points" 44 (⟨"PlaneNet$Row", "get", "(I)I"⟩ : MethodName)) ∈ TT := mem_TT (List.mem_of_getElem? (i := 339) (by decide +kernel)) (by decide +kernel)
theorem wd_340 : (Cond.instanceMethod (⟨"PlaneNet$Row", "get", "(I)I"⟩ : MethodName)) ∈ TT := mem_TT (List.mem_of_getElem? (i := 340) (by decide +kernel)) (by decide +kernel)
theorem wd_341 : (Cond.selects "PlaneNet$Row" (⟨"PlaneNet$Row", "get", "(I)I"⟩ : MethodName) (⟨"PlaneNet$Row", "get", "(I)I"⟩ : MethodName)) ∈ TT := mem_TT (List.mem_of_getElem? (i := 341) (by decide +kernel)) (by decide +kernel)
theorem wd_342 : (Cond.code (⟨"PlaneNet$Row", "get", "(I)I"⟩ : MethodName) prog_6_method_3_code 4 (Option.some .int)) ∈ TT := mem_TT (List.mem_of_getElem? (i := 342) (by decide +kernel)) (by decide +kernel)
theorem wd_343 : (Cond.methodLink "PlaneNet$Points" 56 (⟨"PlaneNet$Points", "isLess", "(II)Z"⟩ : MethodName)) ∈ TT := mem_TT (List.mem_of_getElem? (i := 343) (by decide +kernel)) (by decide +kernel)
theorem wd_344 : (Cond.instanceMethod (⟨"PlaneNet$Points", "isLess", "(II)Z"⟩ : MethodName)) ∈ TT := mem_TT (List.mem_of_getElem? (i := 344) (by decide +kernel)) (by decide +kernel)
theorem wd_345 : (Cond.selects "PlaneNet$Points" (⟨"PlaneNet$Points", "isLess", "(II)Z"⟩ : MethodName) (⟨"PlaneNet$Points", "isLess", "(II)Z"⟩ : MethodName)) ∈ TT := mem_TT (List.mem_of_getElem? (i := 345) (by decide +kernel)) (by decide +kernel)
theorem wd_346 : (Cond.code (⟨"PlaneNet$Points", "isLess", "(II)Z"⟩ : MethodName) prog_4_method_8_code 3 (Option.some .boolean)) ∈ TT := mem_TT (List.mem_of_getElem? (i := 346) (by decide +kernel)) (by decide +kernel)
theorem wd_347 : (Cond.constant "PlaneNet$Outline" 68 1000000001) ∈ TT := mem_TT (List.mem_of_getElem? (i := 347) (by decide +kernel)) (by decide +kernel)
theorem wd_348 : (Cond.methodLink "PlaneNet$Outline" 69 (⟨"PlaneNet$Points", "greatestBelow", "(II)I"⟩ : MethodName)) ∈ TT := mem_TT (List.mem_of_getElem? (i := 348) (by decide +kernel)) (by decide +kernel)
theorem wd_349 : (Cond.instanceMethod (⟨"PlaneNet$Points", "greatestBelow", "(II)I"⟩ : MethodName)) ∈ TT := mem_TT (List.mem_of_getElem? (i := 349) (by decide +kernel)) (by decide +kernel)
theorem wd_350 : (Cond.selects "PlaneNet$Points" (⟨"PlaneNet$Points", "greatestBelow", "(II)I"⟩ : MethodName) (⟨"PlaneNet$Points", "greatestBelow", "(II)I"⟩ : MethodName)) ∈ TT := mem_TT (List.mem_of_getElem? (i := 350) (by decide +kernel)) (by decide +kernel)
theorem wd_351 : (Cond.code (⟨"PlaneNet$Points", "greatestBelow", "(II)I"⟩ : MethodName) prog_4_method_14_code 5 (Option.some .int)) ∈ TT := mem_TT (List.mem_of_getElem? (i := 351) (by decide +kernel)) (by decide +kernel)
theorem wd_352 : (Cond.methodLink "PlaneNet$Points" 60 (⟨"PlaneNet$Points", "isBelow", "(III)Z"⟩ : MethodName)) ∈ TT := mem_TT (List.mem_of_getElem? (i := 352) (by decide +kernel)) (by decide +kernel)
theorem wd_354 : (Cond.instanceMethod (⟨"PlaneNet$Points", "isBelow", "(III)Z"⟩ : MethodName)) ∈ TT := mem_TT (List.mem_of_getElem? (i := 354) (by decide +kernel)) (by decide +kernel)
theorem wd_355 : (Cond.code (⟨"PlaneNet$Points", "isBelow", "(III)Z"⟩ : MethodName) prog_4_method_9_code 4 (Option.some .boolean)) ∈ TT := mem_TT (List.mem_of_getElem? (i := 355) (by decide +kernel)) (by decide +kernel)
theorem wd_356 : (Cond.methodLink "PlaneNet$Outline" 72 (⟨"PlaneNet$Outline", "put", "(I)V"⟩ : MethodName)) ∈ TT := mem_TT (List.mem_of_getElem? (i := 356) (by decide +kernel)) (by decide +kernel)
theorem wd_358 : (Cond.instanceMethod (⟨"PlaneNet$Outline", "put", "(I)V"⟩ : MethodName)) ∈ TT := mem_TT (List.mem_of_getElem? (i := 358) (by decide +kernel)) (by decide +kernel)
theorem wd_359 : (Cond.code (⟨"PlaneNet$Outline", "put", "(I)V"⟩ : MethodName) prog_3_method_10_code 2 (Option.none : Option ClassFile.FieldType)) ∈ TT := mem_TT (List.mem_of_getElem? (i := 359) (by decide +kernel)) (by decide +kernel)
theorem wd_360 : (Cond.methodLink "PlaneNet$Outline" 99 (⟨"PlaneNet$Row", "put", "(II)V"⟩ : MethodName)) ∈ TT := mem_TT (List.mem_of_getElem? (i := 360) (by decide +kernel)) (by decide +kernel)
theorem wd_361 : (Cond.instanceMethod (⟨"PlaneNet$Row", "put", "(II)V"⟩ : MethodName)) ∈ TT := mem_TT (List.mem_of_getElem? (i := 361) (by decide +kernel)) (by decide +kernel)
theorem wd_362 : (Cond.selects "PlaneNet$Row" (⟨"PlaneNet$Row", "put", "(II)V"⟩ : MethodName) (⟨"PlaneNet$Row", "put", "(II)V"⟩ : MethodName)) ∈ TT := mem_TT (List.mem_of_getElem? (i := 362) (by decide +kernel)) (by decide +kernel)
theorem wd_363 : (Cond.code (⟨"PlaneNet$Row", "put", "(II)V"⟩ : MethodName) prog_6_method_4_code 5 (Option.none : Option ClassFile.FieldType)) ∈ TT := mem_TT (List.mem_of_getElem? (i := 363) (by decide +kernel)) (by decide +kernel)
theorem wd_364 : (Cond.methodLink "PlaneNet$Outline" 60 (⟨"PlaneNet$Outline", "drawRound", "()V"⟩ : MethodName)) ∈ TT := mem_TT (List.mem_of_getElem? (i := 364) (by decide +kernel)) (by decide +kernel)
theorem wd_366 : (Cond.instanceMethod (⟨"PlaneNet$Outline", "drawRound", "()V"⟩ : MethodName)) ∈ TT := mem_TT (List.mem_of_getElem? (i := 366) (by decide +kernel)) (by decide +kernel)
theorem wd_367 : (Cond.code (⟨"PlaneNet$Outline", "drawRound", "()V"⟩ : MethodName) prog_3_method_8_code 7 (Option.none : Option ClassFile.FieldType)) ∈ TT := mem_TT (List.mem_of_getElem? (i := 367) (by decide +kernel)) (by decide +kernel)
theorem wd_368 : (Cond.methodLink "PlaneNet$Outline" 75 (⟨"PlaneNet$Net", "wayToGhost", "(I)I"⟩ : MethodName)) ∈ TT := mem_TT (List.mem_of_getElem? (i := 368) (by decide +kernel)) (by decide +kernel)
theorem wd_369 : (Cond.instanceMethod (⟨"PlaneNet$Net", "wayToGhost", "(I)I"⟩ : MethodName)) ∈ TT := mem_TT (List.mem_of_getElem? (i := 369) (by decide +kernel)) (by decide +kernel)
theorem wd_370 : (Cond.selects "PlaneNet$Net" (⟨"PlaneNet$Net", "wayToGhost", "(I)I"⟩ : MethodName) (⟨"PlaneNet$Net", "wayToGhost", "(I)I"⟩ : MethodName)) ∈ TT := mem_TT (List.mem_of_getElem? (i := 370) (by decide +kernel)) (by decide +kernel)
theorem wd_371 : (Cond.code (⟨"PlaneNet$Net", "wayToGhost", "(I)I"⟩ : MethodName) prog_2_method_28_code 4 (Option.some .int)) ∈ TT := mem_TT (List.mem_of_getElem? (i := 371) (by decide +kernel)) (by decide +kernel)
theorem wd_372 : (Cond.methodLink "PlaneNet$Net" 85 (⟨"PlaneNet$Net", "placeOf", "(I)I"⟩ : MethodName)) ∈ TT := mem_TT (List.mem_of_getElem? (i := 372) (by decide +kernel)) (by decide +kernel)
theorem wd_374 : (Cond.instanceMethod (⟨"PlaneNet$Net", "placeOf", "(I)I"⟩ : MethodName)) ∈ TT := mem_TT (List.mem_of_getElem? (i := 374) (by decide +kernel)) (by decide +kernel)
theorem wd_375 : (Cond.code (⟨"PlaneNet$Net", "placeOf", "(I)I"⟩ : MethodName) prog_2_method_12_code 2 (Option.some .int)) ∈ TT := mem_TT (List.mem_of_getElem? (i := 375) (by decide +kernel)) (by decide +kernel)
theorem wd_376 : (Cond.methodLink "PlaneNet$Net" 63 (⟨"PlaneNet$Row", "get", "(I)I"⟩ : MethodName)) ∈ TT := mem_TT (List.mem_of_getElem? (i := 376) (by decide +kernel)) (by decide +kernel)
theorem wd_377 : (Cond.methodLink "PlaneNet$Net" 118 (⟨"PlaneNet$Net", "endOf", "(I)I"⟩ : MethodName)) ∈ TT := mem_TT (List.mem_of_getElem? (i := 377) (by decide +kernel)) (by decide +kernel)
theorem wd_378 : (Cond.instanceMethod (⟨"PlaneNet$Net", "endOf", "(I)I"⟩ : MethodName)) ∈ TT := mem_TT (List.mem_of_getElem? (i := 378) (by decide +kernel)) (by decide +kernel)
theorem wd_379 : (Cond.selects "PlaneNet$Net" (⟨"PlaneNet$Net", "endOf", "(I)I"⟩ : MethodName) (⟨"PlaneNet$Net", "endOf", "(I)I"⟩ : MethodName)) ∈ TT := mem_TT (List.mem_of_getElem? (i := 379) (by decide +kernel)) (by decide +kernel)
theorem wd_380 : (Cond.code (⟨"PlaneNet$Net", "endOf", "(I)I"⟩ : MethodName) prog_2_method_7_code 2 (Option.some .int)) ∈ TT := mem_TT (List.mem_of_getElem? (i := 380) (by decide +kernel)) (by decide +kernel)
theorem wd_381 : (Cond.methodLink "PlaneNet$Net" 67 (⟨"PlaneNet$Net", "ahead", "(II)I"⟩ : MethodName)) ∈ TT := mem_TT (List.mem_of_getElem? (i := 381) (by decide +kernel)) (by decide +kernel)
theorem wd_382 : (Cond.static (⟨"PlaneNet$Net", "ahead", "(II)I"⟩ : MethodName)) ∈ TT := mem_TT (List.mem_of_getElem? (i := 382) (by decide +kernel)) (by decide +kernel)
theorem wd_383 : (Cond.code (⟨"PlaneNet$Net", "ahead", "(II)I"⟩ : MethodName) prog_2_method_2_code 3 (Option.some .int)) ∈ TT := mem_TT (List.mem_of_getElem? (i := 383) (by decide +kernel)) (by decide +kernel)
theorem wd_384 : (Cond.methodLink "PlaneNet$Net" 138 (⟨"PlaneNet$Net", "leftOf", "(I)I"⟩ : MethodName)) ∈ TT := mem_TT (List.mem_of_getElem? (i := 384) (by decide +kernel)) (by decide +kernel)
theorem wd_386 : (Cond.instanceMethod (⟨"PlaneNet$Net", "leftOf", "(I)I"⟩ : MethodName)) ∈ TT := mem_TT (List.mem_of_getElem? (i := 386) (by decide +kernel)) (by decide +kernel)
theorem wd_387 : (Cond.code (⟨"PlaneNet$Net", "leftOf", "(I)I"⟩ : MethodName) prog_2_method_24_code 2 (Option.some .int)) ∈ TT := mem_TT (List.mem_of_getElem? (i := 387) (by decide +kernel)) (by decide +kernel)
theorem wd_388 : (Cond.methodLink "PlaneNet$Outline" 79 (⟨"PlaneNet$Net", "nextWayToGhost", "(I)I"⟩ : MethodName)) ∈ TT := mem_TT (List.mem_of_getElem? (i := 388) (by decide +kernel)) (by decide +kernel)
theorem wd_389 : (Cond.instanceMethod (⟨"PlaneNet$Net", "nextWayToGhost", "(I)I"⟩ : MethodName)) ∈ TT := mem_TT (List.mem_of_getElem? (i := 389) (by decide +kernel)) (by decide +kernel)
theorem wd_390 : (Cond.selects "PlaneNet$Net" (⟨"PlaneNet$Net", "nextWayToGhost", "(I)I"⟩ : MethodName) (⟨"PlaneNet$Net", "nextWayToGhost", "(I)I"⟩ : MethodName)) ∈ TT := mem_TT (List.mem_of_getElem? (i := 390) (by decide +kernel)) (by decide +kernel)
theorem wd_391 : (Cond.code (⟨"PlaneNet$Net", "nextWayToGhost", "(I)I"⟩ : MethodName) prog_2_method_29_code 2 (Option.some .int)) ∈ TT := mem_TT (List.mem_of_getElem? (i := 391) (by decide +kernel)) (by decide +kernel)
theorem wd_392 : (Cond.methodLink "PlaneNet$Outline" 82 (⟨"PlaneNet$Net", "startOf", "(I)I"⟩ : MethodName)) ∈ TT := mem_TT (List.mem_of_getElem? (i := 392) (by decide +kernel)) (by decide +kernel)
theorem wd_393 : (Cond.instanceMethod (⟨"PlaneNet$Net", "startOf", "(I)I"⟩ : MethodName)) ∈ TT := mem_TT (List.mem_of_getElem? (i := 393) (by decide +kernel)) (by decide +kernel)
theorem wd_394 : (Cond.selects "PlaneNet$Net" (⟨"PlaneNet$Net", "startOf", "(I)I"⟩ : MethodName) (⟨"PlaneNet$Net", "startOf", "(I)I"⟩ : MethodName)) ∈ TT := mem_TT (List.mem_of_getElem? (i := 394) (by decide +kernel)) (by decide +kernel)
theorem wd_395 : (Cond.code (⟨"PlaneNet$Net", "startOf", "(I)I"⟩ : MethodName) prog_2_method_6_code 2 (Option.some .int)) ∈ TT := mem_TT (List.mem_of_getElem? (i := 395) (by decide +kernel)) (by decide +kernel)
theorem wd_396 : (Cond.methodLink "PlaneNet$Outline" 85 (⟨"PlaneNet$Outline", "isCorner", "(III)Z"⟩ : MethodName)) ∈ TT := mem_TT (List.mem_of_getElem? (i := 396) (by decide +kernel)) (by decide +kernel)
theorem wd_398 : (Cond.instanceMethod (⟨"PlaneNet$Outline", "isCorner", "(III)Z"⟩ : MethodName)) ∈ TT := mem_TT (List.mem_of_getElem? (i := 398) (by decide +kernel)) (by decide +kernel)
theorem wd_399 : (Cond.code (⟨"PlaneNet$Outline", "isCorner", "(III)Z"⟩ : MethodName) prog_3_method_9_code 4 (Option.some .boolean)) ∈ TT := mem_TT (List.mem_of_getElem? (i := 399) (by decide +kernel)) (by decide +kernel)
theorem wd_400 : (Cond.methodLink "PlaneNet$Outline" 89 (⟨"PlaneNet$Points", "x", "(I)I"⟩ : MethodName)) ∈ TT := mem_TT (List.mem_of_getElem? (i := 400) (by decide +kernel)) (by decide +kernel)
theorem wd_401 : (Cond.instanceMethod (⟨"PlaneNet$Points", "x", "(I)I"⟩ : MethodName)) ∈ TT := mem_TT (List.mem_of_getElem? (i := 401) (by decide +kernel)) (by decide +kernel)
theorem wd_402 : (Cond.selects "PlaneNet$Points" (⟨"PlaneNet$Points", "x", "(I)I"⟩ : MethodName) (⟨"PlaneNet$Points", "x", "(I)I"⟩ : MethodName)) ∈ TT := mem_TT (List.mem_of_getElem? (i := 402) (by decide +kernel)) (by decide +kernel)
theorem wd_403 : (Cond.code (⟨"PlaneNet$Points", "x", "(I)I"⟩ : MethodName) prog_4_method_5_code 2 (Option.some .int)) ∈ TT := mem_TT (List.mem_of_getElem? (i := 403) (by decide +kernel)) (by decide +kernel)
theorem wd_404 : (Cond.methodLink "PlaneNet$Outline" 92 (⟨"PlaneNet$Points", "y", "(I)I"⟩ : MethodName)) ∈ TT := mem_TT (List.mem_of_getElem? (i := 404) (by decide +kernel)) (by decide +kernel)
theorem wd_405 : (Cond.instanceMethod (⟨"PlaneNet$Points", "y", "(I)I"⟩ : MethodName)) ∈ TT := mem_TT (List.mem_of_getElem? (i := 405) (by decide +kernel)) (by decide +kernel)
theorem wd_406 : (Cond.selects "PlaneNet$Points" (⟨"PlaneNet$Points", "y", "(I)I"⟩ : MethodName) (⟨"PlaneNet$Points", "y", "(I)I"⟩ : MethodName)) ∈ TT := mem_TT (List.mem_of_getElem? (i := 406) (by decide +kernel)) (by decide +kernel)
theorem wd_407 : (Cond.code (⟨"PlaneNet$Points", "y", "(I)I"⟩ : MethodName) prog_4_method_6_code 2 (Option.some .int)) ∈ TT := mem_TT (List.mem_of_getElem? (i := 407) (by decide +kernel)) (by decide +kernel)
theorem wd_408 : (Cond.methodLink "PlaneNet$Outline" 95 (⟨"PlaneNet$Points", "turn", "(IIII)J"⟩ : MethodName)) ∈ TT := mem_TT (List.mem_of_getElem? (i := 408) (by decide +kernel)) (by decide +kernel)
theorem wd_409 : (Cond.instanceMethod (⟨"PlaneNet$Points", "turn", "(IIII)J"⟩ : MethodName)) ∈ TT := mem_TT (List.mem_of_getElem? (i := 409) (by decide +kernel)) (by decide +kernel)
theorem wd_410 : (Cond.selects "PlaneNet$Points" (⟨"PlaneNet$Points", "turn", "(IIII)J"⟩ : MethodName) (⟨"PlaneNet$Points", "turn", "(IIII)J"⟩ : MethodName)) ∈ TT := mem_TT (List.mem_of_getElem? (i := 410) (by decide +kernel)) (by decide +kernel)
theorem wd_411 : (Cond.code (⟨"PlaneNet$Points", "turn", "(IIII)J"⟩ : MethodName) prog_4_method_15_code 13 (Option.some .long)) ∈ TT := mem_TT (List.mem_of_getElem? (i := 411) (by decide +kernel)) (by decide +kernel)
theorem wd_423 : (Cond.code (⟨"PlaneNet", "add", "(II)I"⟩ : MethodName) prog_1_method_2_code 5 (Option.some .int)) ∈ TT := mem_TT (List.mem_of_getElem? (i := 423) (by decide +kernel)) (by decide +kernel)
theorem wd_424 : (Cond.methodLink "PlaneNet" 67 (⟨"PlaneNet", "checkPlace", "(II)V"⟩ : MethodName)) ∈ TT := mem_TT (List.mem_of_getElem? (i := 424) (by decide +kernel)) (by decide +kernel)
theorem wd_425 : (Cond.static (⟨"PlaneNet", "checkPlace", "(II)V"⟩ : MethodName)) ∈ TT := mem_TT (List.mem_of_getElem? (i := 425) (by decide +kernel)) (by decide +kernel)
theorem wd_426 : (Cond.code (⟨"PlaneNet", "checkPlace", "(II)V"⟩ : MethodName) prog_1_method_15_code 2 (Option.none : Option ClassFile.FieldType)) ∈ TT := mem_TT (List.mem_of_getElem? (i := 426) (by decide +kernel)) (by decide +kernel)
theorem wd_427 : (Cond.constant "PlaneNet" 181 (-1000000000)) ∈ TT := mem_TT (List.mem_of_getElem? (i := 427) (by decide +kernel)) (by decide +kernel)
theorem wd_428 : (Cond.constant "PlaneNet" 182 1000000000) ∈ TT := mem_TT (List.mem_of_getElem? (i := 428) (by decide +kernel)) (by decide +kernel)
theorem wd_497 : (Cond.methodLink "PlaneNet" 74 (⟨"PlaneNet$Points", "nearestOf", "(III)I"⟩ : MethodName)) ∈ TT := mem_TT (List.mem_of_getElem? (i := 497) (by decide +kernel)) (by decide +kernel)
theorem wd_498 : (Cond.instanceMethod (⟨"PlaneNet$Points", "nearestOf", "(III)I"⟩ : MethodName)) ∈ TT := mem_TT (List.mem_of_getElem? (i := 498) (by decide +kernel)) (by decide +kernel)
theorem wd_499 : (Cond.selects "PlaneNet$Points" (⟨"PlaneNet$Points", "nearestOf", "(III)I"⟩ : MethodName) (⟨"PlaneNet$Points", "nearestOf", "(III)I"⟩ : MethodName)) ∈ TT := mem_TT (List.mem_of_getElem? (i := 499) (by decide +kernel)) (by decide +kernel)
theorem wd_500 : (Cond.code (⟨"PlaneNet$Points", "nearestOf", "(III)I"⟩ : MethodName) prog_4_method_12_code 10 (Option.some .int)) ∈ TT := mem_TT (List.mem_of_getElem? (i := 500) (by decide +kernel)) (by decide +kernel)
theorem wd_501 : (Cond.methodLink "PlaneNet$Points" 48 (⟨"PlaneNet$Points", "gap", "(III)J"⟩ : MethodName)) ∈ TT := mem_TT (List.mem_of_getElem? (i := 501) (by decide +kernel)) (by decide +kernel)
theorem wd_502 : (Cond.instanceMethod (⟨"PlaneNet$Points", "gap", "(III)J"⟩ : MethodName)) ∈ TT := mem_TT (List.mem_of_getElem? (i := 502) (by decide +kernel)) (by decide +kernel)
theorem wd_503 : (Cond.selects "PlaneNet$Points" (⟨"PlaneNet$Points", "gap", "(III)J"⟩ : MethodName) (⟨"PlaneNet$Points", "gap", "(III)J"⟩ : MethodName)) ∈ TT := mem_TT (List.mem_of_getElem? (i := 503) (by decide +kernel)) (by decide +kernel)
theorem wd_504 : (Cond.code (⟨"PlaneNet$Points", "gap", "(III)J"⟩ : MethodName) prog_4_method_11_code 8 (Option.some .long)) ∈ TT := mem_TT (List.mem_of_getElem? (i := 504) (by decide +kernel)) (by decide +kernel)
theorem wd_505 : (Cond.methodLink "PlaneNet" 78 (⟨"PlaneNet$Points", "isAt", "(III)Z"⟩ : MethodName)) ∈ TT := mem_TT (List.mem_of_getElem? (i := 505) (by decide +kernel)) (by decide +kernel)
theorem wd_506 : (Cond.instanceMethod (⟨"PlaneNet$Points", "isAt", "(III)Z"⟩ : MethodName)) ∈ TT := mem_TT (List.mem_of_getElem? (i := 506) (by decide +kernel)) (by decide +kernel)
theorem wd_507 : (Cond.selects "PlaneNet$Points" (⟨"PlaneNet$Points", "isAt", "(III)Z"⟩ : MethodName) (⟨"PlaneNet$Points", "isAt", "(III)Z"⟩ : MethodName)) ∈ TT := mem_TT (List.mem_of_getElem? (i := 507) (by decide +kernel)) (by decide +kernel)
theorem wd_508 : (Cond.code (⟨"PlaneNet$Points", "isAt", "(III)Z"⟩ : MethodName) prog_4_method_7_code 4 (Option.some .boolean)) ∈ TT := mem_TT (List.mem_of_getElem? (i := 508) (by decide +kernel)) (by decide +kernel)
theorem wd_509 : (Cond.methodLink "PlaneNet" 82 (⟨"PlaneNet$Points", "isFull", "()Z"⟩ : MethodName)) ∈ TT := mem_TT (List.mem_of_getElem? (i := 509) (by decide +kernel)) (by decide +kernel)
theorem wd_510 : (Cond.instanceMethod (⟨"PlaneNet$Points", "isFull", "()Z"⟩ : MethodName)) ∈ TT := mem_TT (List.mem_of_getElem? (i := 510) (by decide +kernel)) (by decide +kernel)
theorem wd_511 : (Cond.selects "PlaneNet$Points" (⟨"PlaneNet$Points", "isFull", "()Z"⟩ : MethodName) (⟨"PlaneNet$Points", "isFull", "()Z"⟩ : MethodName)) ∈ TT := mem_TT (List.mem_of_getElem? (i := 511) (by decide +kernel)) (by decide +kernel)
theorem wd_512 : (Cond.code (⟨"PlaneNet$Points", "isFull", "()Z"⟩ : MethodName) prog_4_method_2_code 1 (Option.some .boolean)) ∈ TT := mem_TT (List.mem_of_getElem? (i := 512) (by decide +kernel)) (by decide +kernel)
theorem wd_529 : (Cond.methodLink "PlaneNet" 93 (⟨"PlaneNet", "makeRoom", "(I)V"⟩ : MethodName)) ∈ TT := mem_TT (List.mem_of_getElem? (i := 529) (by decide +kernel)) (by decide +kernel)
theorem wd_531 : (Cond.instanceMethod (⟨"PlaneNet", "makeRoom", "(I)V"⟩ : MethodName)) ∈ TT := mem_TT (List.mem_of_getElem? (i := 531) (by decide +kernel)) (by decide +kernel)
theorem wd_532 : (Cond.code (⟨"PlaneNet", "makeRoom", "(I)V"⟩ : MethodName) prog_1_method_17_code 2 (Option.none : Option ClassFile.FieldType)) ∈ TT := mem_TT (List.mem_of_getElem? (i := 532) (by decide +kernel)) (by decide +kernel)
theorem wd_533 : (Cond.methodLink "PlaneNet" 190 (⟨"PlaneNet$Points", "makeRoom", "(I)V"⟩ : MethodName)) ∈ TT := mem_TT (List.mem_of_getElem? (i := 533) (by decide +kernel)) (by decide +kernel)
theorem wd_534 : (Cond.instanceMethod (⟨"PlaneNet$Points", "makeRoom", "(I)V"⟩ : MethodName)) ∈ TT := mem_TT (List.mem_of_getElem? (i := 534) (by decide +kernel)) (by decide +kernel)
theorem wd_535 : (Cond.selects "PlaneNet$Points" (⟨"PlaneNet$Points", "makeRoom", "(I)V"⟩ : MethodName) (⟨"PlaneNet$Points", "makeRoom", "(I)V"⟩ : MethodName)) ∈ TT := mem_TT (List.mem_of_getElem? (i := 535) (by decide +kernel)) (by decide +kernel)
theorem wd_536 : (Cond.code (⟨"PlaneNet$Points", "makeRoom", "(I)V"⟩ : MethodName) prog_4_method_3_code 2 (Option.none : Option ClassFile.FieldType)) ∈ TT := mem_TT (List.mem_of_getElem? (i := 536) (by decide +kernel)) (by decide +kernel)
theorem wd_537 : (Cond.methodLink "PlaneNet$Points" 37 (⟨"PlaneNet$Row", "reach", "(I)V"⟩ : MethodName)) ∈ TT := mem_TT (List.mem_of_getElem? (i := 537) (by decide +kernel)) (by decide +kernel)
theorem wd_538 : (Cond.instanceMethod (⟨"PlaneNet$Row", "reach", "(I)V"⟩ : MethodName)) ∈ TT := mem_TT (List.mem_of_getElem? (i := 538) (by decide +kernel)) (by decide +kernel)
theorem wd_539 : (Cond.selects "PlaneNet$Row" (⟨"PlaneNet$Row", "reach", "(I)V"⟩ : MethodName) (⟨"PlaneNet$Row", "reach", "(I)V"⟩ : MethodName)) ∈ TT := mem_TT (List.mem_of_getElem? (i := 539) (by decide +kernel)) (by decide +kernel)
theorem wd_540 : (Cond.code (⟨"PlaneNet$Row", "reach", "(I)V"⟩ : MethodName) prog_6_method_2_code 2 (Option.none : Option ClassFile.FieldType)) ∈ TT := mem_TT (List.mem_of_getElem? (i := 540) (by decide +kernel)) (by decide +kernel)
theorem wd_541 : (Cond.methodLink "PlaneNet" 191 (⟨"PlaneNet$Net", "makeRoom", "(I)V"⟩ : MethodName)) ∈ TT := mem_TT (List.mem_of_getElem? (i := 541) (by decide +kernel)) (by decide +kernel)
theorem wd_542 : (Cond.instanceMethod (⟨"PlaneNet$Net", "makeRoom", "(I)V"⟩ : MethodName)) ∈ TT := mem_TT (List.mem_of_getElem? (i := 542) (by decide +kernel)) (by decide +kernel)
theorem wd_543 : (Cond.selects "PlaneNet$Net" (⟨"PlaneNet$Net", "makeRoom", "(I)V"⟩ : MethodName) (⟨"PlaneNet$Net", "makeRoom", "(I)V"⟩ : MethodName)) ∈ TT := mem_TT (List.mem_of_getElem? (i := 543) (by decide +kernel)) (by decide +kernel)
theorem wd_544 : (Cond.code (⟨"PlaneNet$Net", "makeRoom", "(I)V"⟩ : MethodName) prog_2_method_9_code 2 (Option.none : Option ClassFile.FieldType)) ∈ TT := mem_TT (List.mem_of_getElem? (i := 544) (by decide +kernel)) (by decide +kernel)
theorem wd_545 : (Cond.methodLink "PlaneNet$Net" 71 (⟨"PlaneNet$Row", "reach", "(I)V"⟩ : MethodName)) ∈ TT := mem_TT (List.mem_of_getElem? (i := 545) (by decide +kernel)) (by decide +kernel)
theorem wd_546 : (Cond.methodLink "PlaneNet" 192 (⟨"PlaneNet$Roll", "makeRoom", "(I)V"⟩ : MethodName)) ∈ TT := mem_TT (List.mem_of_getElem? (i := 546) (by decide +kernel)) (by decide +kernel)
theorem wd_547 : (Cond.instanceMethod (⟨"PlaneNet$Roll", "makeRoom", "(I)V"⟩ : MethodName)) ∈ TT := mem_TT (List.mem_of_getElem? (i := 547) (by decide +kernel)) (by decide +kernel)
theorem wd_548 : (Cond.selects "PlaneNet$Roll" (⟨"PlaneNet$Roll", "makeRoom", "(I)V"⟩ : MethodName) (⟨"PlaneNet$Roll", "makeRoom", "(I)V"⟩ : MethodName)) ∈ TT := mem_TT (List.mem_of_getElem? (i := 548) (by decide +kernel)) (by decide +kernel)
theorem wd_549 : (Cond.code (⟨"PlaneNet$Roll", "makeRoom", "(I)V"⟩ : MethodName) prog_5_method_2_code 2 (Option.none : Option ClassFile.FieldType)) ∈ TT := mem_TT (List.mem_of_getElem? (i := 549) (by decide +kernel)) (by decide +kernel)
theorem wd_550 : (Cond.methodLink "PlaneNet$Roll" 42 (⟨"PlaneNet$Row", "reach", "(I)V"⟩ : MethodName)) ∈ TT := mem_TT (List.mem_of_getElem? (i := 550) (by decide +kernel)) (by decide +kernel)
theorem wd_551 : (Cond.methodLink "PlaneNet" 193 (⟨"PlaneNet$Outline", "makeRoom", "(I)V"⟩ : MethodName)) ∈ TT := mem_TT (List.mem_of_getElem? (i := 551) (by decide +kernel)) (by decide +kernel)
theorem wd_552 : (Cond.instanceMethod (⟨"PlaneNet$Outline", "makeRoom", "(I)V"⟩ : MethodName)) ∈ TT := mem_TT (List.mem_of_getElem? (i := 552) (by decide +kernel)) (by decide +kernel)
theorem wd_553 : (Cond.selects "PlaneNet$Outline" (⟨"PlaneNet$Outline", "makeRoom", "(I)V"⟩ : MethodName) (⟨"PlaneNet$Outline", "makeRoom", "(I)V"⟩ : MethodName)) ∈ TT := mem_TT (List.mem_of_getElem? (i := 553) (by decide +kernel)) (by decide +kernel)
theorem wd_554 : (Cond.code (⟨"PlaneNet$Outline", "makeRoom", "(I)V"⟩ : MethodName) prog_3_method_2_code 2 (Option.none : Option ClassFile.FieldType)) ∈ TT := mem_TT (List.mem_of_getElem? (i := 554) (by decide +kernel)) (by decide +kernel)
theorem wd_555 : (Cond.methodLink "PlaneNet$Outline" 41 (⟨"PlaneNet$Row", "reach", "(I)V"⟩ : MethodName)) ∈ TT := mem_TT (List.mem_of_getElem? (i := 555) (by decide +kernel)) (by decide +kernel)
theorem wd_556 : (Cond.methodLink "PlaneNet" 96 (⟨"PlaneNet$Points", "append", "(II)I"⟩ : MethodName)) ∈ TT := mem_TT (List.mem_of_getElem? (i := 556) (by decide +kernel)) (by decide +kernel)
theorem wd_557 : (Cond.instanceMethod (⟨"PlaneNet$Points", "append", "(II)I"⟩ : MethodName)) ∈ TT := mem_TT (List.mem_of_getElem? (i := 557) (by decide +kernel)) (by decide +kernel)
theorem wd_558 : (Cond.selects "PlaneNet$Points" (⟨"PlaneNet$Points", "append", "(II)I"⟩ : MethodName) (⟨"PlaneNet$Points", "append", "(II)I"⟩ : MethodName)) ∈ TT := mem_TT (List.mem_of_getElem? (i := 558) (by decide +kernel)) (by decide +kernel)
theorem wd_559 : (Cond.code (⟨"PlaneNet$Points", "append", "(II)I"⟩ : MethodName) prog_4_method_4_code 4 (Option.some .int)) ∈ TT := mem_TT (List.mem_of_getElem? (i := 559) (by decide +kernel)) (by decide +kernel)
theorem wd_560 : (Cond.methodLink "PlaneNet$Points" 40 (⟨"PlaneNet$Row", "put", "(II)V"⟩ : MethodName)) ∈ TT := mem_TT (List.mem_of_getElem? (i := 560) (by decide +kernel)) (by decide +kernel)
theorem wd_561 : (Cond.methodLink "PlaneNet" 99 (⟨"PlaneNet", "noteClosest", "(II)V"⟩ : MethodName)) ∈ TT := mem_TT (List.mem_of_getElem? (i := 561) (by decide +kernel)) (by decide +kernel)
theorem wd_563 : (Cond.instanceMethod (⟨"PlaneNet", "noteClosest", "(II)V"⟩ : MethodName)) ∈ TT := mem_TT (List.mem_of_getElem? (i := 563) (by decide +kernel)) (by decide +kernel)
theorem wd_564 : (Cond.code (⟨"PlaneNet", "noteClosest", "(II)V"⟩ : MethodName) prog_1_method_18_code 5 (Option.none : Option ClassFile.FieldType)) ∈ TT := mem_TT (List.mem_of_getElem? (i := 564) (by decide +kernel)) (by decide +kernel)
theorem wd_565 : (Cond.methodLink "PlaneNet" 175 (⟨"PlaneNet$Points", "x", "(I)I"⟩ : MethodName)) ∈ TT := mem_TT (List.mem_of_getElem? (i := 565) (by decide +kernel)) (by decide +kernel)
theorem wd_566 : (Cond.methodLink "PlaneNet" 178 (⟨"PlaneNet$Points", "y", "(I)I"⟩ : MethodName)) ∈ TT := mem_TT (List.mem_of_getElem? (i := 566) (by decide +kernel)) (by decide +kernel)
theorem wd_567 : (Cond.methodLink "PlaneNet" 194 (⟨"PlaneNet$Points", "gap", "(III)J"⟩ : MethodName)) ∈ TT := mem_TT (List.mem_of_getElem? (i := 567) (by decide +kernel)) (by decide +kernel)
theorem wd_568 : (Cond.methodLink "PlaneNet" 102 (⟨"PlaneNet$Net", "isEmpty", "()Z"⟩ : MethodName)) ∈ TT := mem_TT (List.mem_of_getElem? (i := 568) (by decide +kernel)) (by decide +kernel)
theorem wd_569 : (Cond.methodLink "PlaneNet" 105 (⟨"PlaneNet", "tryToBeginNet", "(I)V"⟩ : MethodName)) ∈ TT := mem_TT (List.mem_of_getElem? (i := 569) (by decide +kernel)) (by decide +kernel)
theorem wd_571 : (Cond.instanceMethod (⟨"PlaneNet", "tryToBeginNet", "(I)V"⟩ : MethodName)) ∈ TT := mem_TT (List.mem_of_getElem? (i := 571) (by decide +kernel)) (by decide +kernel)
theorem wd_572 : (Cond.code (⟨"PlaneNet", "tryToBeginNet", "(I)V"⟩ : MethodName) prog_1_method_19_code 5 (Option.none : Option ClassFile.FieldType)) ∈ TT := mem_TT (List.mem_of_getElem? (i := 572) (by decide +kernel)) (by decide +kernel)
theorem wd_573 : (Cond.methodLink "PlaneNet" 198 (⟨"PlaneNet$Points", "turn", "(IIII)J"⟩ : MethodName)) ∈ TT := mem_TT (List.mem_of_getElem? (i := 573) (by decide +kernel)) (by decide +kernel)
theorem wd_574 : (Cond.methodLink "PlaneNet" 202 (⟨"PlaneNet$Net", "begin", "(III)V"⟩ : MethodName)) ∈ TT := mem_TT (List.mem_of_getElem? (i := 574) (by decide +kernel)) (by decide +kernel)
theorem wd_575 : (Cond.instanceMethod (⟨"PlaneNet$Net", "begin", "(III)V"⟩ : MethodName)) ∈ TT := mem_TT (List.mem_of_getElem? (i := 575) (by decide +kernel)) (by decide +kernel)
theorem wd_576 : (Cond.selects "PlaneNet$Net" (⟨"PlaneNet$Net", "begin", "(III)V"⟩ : MethodName) (⟨"PlaneNet$Net", "begin", "(III)V"⟩ : MethodName)) ∈ TT := mem_TT (List.mem_of_getElem? (i := 576) (by decide +kernel)) (by decide +kernel)
theorem wd_577 : (Cond.code (⟨"PlaneNet$Net", "begin", "(III)V"⟩ : MethodName) prog_2_method_10_code 4 (Option.none : Option ClassFile.FieldType)) ∈ TT := mem_TT (List.mem_of_getElem? (i := 577) (by decide +kernel)) (by decide +kernel)
theorem wd_578 : (Cond.methodLink "PlaneNet$Net" 74 (⟨"PlaneNet$Net", "setTriangle", "(IIII)V"⟩ : MethodName)) ∈ TT := mem_TT (List.mem_of_getElem? (i := 578) (by decide +kernel)) (by decide +kernel)
theorem wd_580 : (Cond.instanceMethod (⟨"PlaneNet$Net", "setTriangle", "(IIII)V"⟩ : MethodName)) ∈ TT := mem_TT (List.mem_of_getElem? (i := 580) (by decide +kernel)) (by decide +kernel)
theorem wd_581 : (Cond.code (⟨"PlaneNet$Net", "setTriangle", "(IIII)V"⟩ : MethodName) prog_2_method_11_code 6 (Option.none : Option ClassFile.FieldType)) ∈ TT := mem_TT (List.mem_of_getElem? (i := 581) (by decide +kernel)) (by decide +kernel)
theorem wd_582 : (Cond.methodLink "PlaneNet$Net" 82 (⟨"PlaneNet$Row", "put", "(II)V"⟩ : MethodName)) ∈ TT := mem_TT (List.mem_of_getElem? (i := 582) (by decide +kernel)) (by decide +kernel)
theorem wd_583 : (Cond.methodLink "PlaneNet$Net" 78 (⟨"PlaneNet$Net", "join", "(II)V"⟩ : MethodName)) ∈ TT := mem_TT (List.mem_of_getElem? (i := 583) (by decide +kernel)) (by decide +kernel)
theorem wd_585 : (Cond.instanceMethod (⟨"PlaneNet$Net", "join", "(II)V"⟩ : MethodName)) ∈ TT := mem_TT (List.mem_of_getElem? (i := 585) (by decide +kernel)) (by decide +kernel)
theorem wd_586 : (Cond.code (⟨"PlaneNet$Net", "join", "(II)V"⟩ : MethodName) prog_2_method_13_code 3 (Option.none : Option ClassFile.FieldType)) ∈ TT := mem_TT (List.mem_of_getElem? (i := 586) (by decide +kernel)) (by decide +kernel)
theorem wd_587 : (Cond.methodLink "PlaneNet" 108 (⟨"PlaneNet$Net", "insert", "(II)V"⟩ : MethodName)) ∈ TT := mem_TT (List.mem_of_getElem? (i := 587) (by decide +kernel)) (by decide +kernel)
theorem wd_588 : (Cond.instanceMethod (⟨"PlaneNet$Net", "insert", "(II)V"⟩ : MethodName)) ∈ TT := mem_TT (List.mem_of_getElem? (i := 588) (by decide +kernel)) (by decide +kernel)
theorem wd_589 : (Cond.selects "PlaneNet$Net" (⟨"PlaneNet$Net", "insert", "(II)V"⟩ : MethodName) (⟨"PlaneNet$Net", "insert", "(II)V"⟩ : MethodName)) ∈ TT := mem_TT (List.mem_of_getElem? (i := 589) (by decide +kernel)) (by decide +kernel)
theorem wd_590 : (Cond.code (⟨"PlaneNet$Net", "insert", "(II)V"⟩ : MethodName) prog_2_method_14_code 3 (Option.none : Option ClassFile.FieldType)) ∈ TT := mem_TT (List.mem_of_getElem? (i := 590) (by decide +kernel)) (by decide +kernel)
theorem wd_591 : (Cond.methodLink "PlaneNet$Net" 88 (⟨"PlaneNet$Points", "x", "(I)I"⟩ : MethodName)) ∈ TT := mem_TT (List.mem_of_getElem? (i := 591) (by decide +kernel)) (by decide +kernel)
theorem wd_592 : (Cond.methodLink "PlaneNet$Net" 91 (⟨"PlaneNet$Points", "y", "(I)I"⟩ : MethodName)) ∈ TT := mem_TT (List.mem_of_getElem? (i := 592) (by decide +kernel)) (by decide +kernel)
theorem wd_593 : (Cond.methodLink "PlaneNet$Net" 94 (⟨"PlaneNet$Net", "holder", "(III)I"⟩ : MethodName)) ∈ TT := mem_TT (List.mem_of_getElem? (i := 593) (by decide +kernel)) (by decide +kernel)
theorem wd_594 : (Cond.instanceMethod (⟨"PlaneNet$Net", "holder", "(III)I"⟩ : MethodName)) ∈ TT := mem_TT (List.mem_of_getElem? (i := 594) (by decide +kernel)) (by decide +kernel)
theorem wd_595 : (Cond.selects "PlaneNet$Net" (⟨"PlaneNet$Net", "holder", "(III)I"⟩ : MethodName) (⟨"PlaneNet$Net", "holder", "(III)I"⟩ : MethodName)) ∈ TT := mem_TT (List.mem_of_getElem? (i := 595) (by decide +kernel)) (by decide +kernel)
theorem wd_596 : (Cond.code (⟨"PlaneNet$Net", "holder", "(III)I"⟩ : MethodName) prog_2_method_21_code 7 (Option.some .int)) ∈ TT := mem_TT (List.mem_of_getElem? (i := 596) (by decide +kernel)) (by decide +kernel)
theorem wd_597 : (Cond.methodLink "PlaneNet$Net" 107 (⟨"PlaneNet$Net", "isOuter", "(I)Z"⟩ : MethodName)) ∈ TT := mem_TT (List.mem_of_getElem? (i := 597) (by decide +kernel)) (by decide +kernel)
theorem wd_598 : (Cond.instanceMethod (⟨"PlaneNet$Net", "isOuter", "(I)Z"⟩ : MethodName)) ∈ TT := mem_TT (List.mem_of_getElem? (i := 598) (by decide +kernel)) (by decide +kernel)
theorem wd_599 : (Cond.selects "PlaneNet$Net" (⟨"PlaneNet$Net", "isOuter", "(I)Z"⟩ : MethodName) (⟨"PlaneNet$Net", "isOuter", "(I)Z"⟩ : MethodName)) ∈ TT := mem_TT (List.mem_of_getElem? (i := 599) (by decide +kernel)) (by decide +kernel)
theorem wd_600 : (Cond.code (⟨"PlaneNet$Net", "isOuter", "(I)Z"⟩ : MethodName) prog_2_method_19_code 3 (Option.some .boolean)) ∈ TT := mem_TT (List.mem_of_getElem? (i := 600) (by decide +kernel)) (by decide +kernel)
theorem wd_601 : (Cond.methodLink "PlaneNet$Net" 125 (⟨"PlaneNet$Net", "baseOf", "(I)I"⟩ : MethodName)) ∈ TT := mem_TT (List.mem_of_getElem? (i := 601) (by decide +kernel)) (by decide +kernel)
theorem wd_603 : (Cond.instanceMethod (⟨"PlaneNet$Net", "baseOf", "(I)I"⟩ : MethodName)) ∈ TT := mem_TT (List.mem_of_getElem? (i := 603) (by decide +kernel)) (by decide +kernel)
theorem wd_604 : (Cond.code (⟨"PlaneNet$Net", "baseOf", "(I)I"⟩ : MethodName) prog_2_method_20_code 4 (Option.some .int)) ∈ TT := mem_TT (List.mem_of_getElem? (i := 604) (by decide +kernel)) (by decide +kernel)
theorem wd_605 : (Cond.methodLink "PlaneNet$Net" 135 (⟨"PlaneNet$Net", "wayOut", "(III)I"⟩ : MethodName)) ∈ TT := mem_TT (List.mem_of_getElem? (i := 605) (by decide +kernel)) (by decide +kernel)
theorem wd_607 : (Cond.instanceMethod (⟨"PlaneNet$Net", "wayOut", "(III)I"⟩ : MethodName)) ∈ TT := mem_TT (List.mem_of_getElem? (i := 607) (by decide +kernel)) (by decide +kernel)
theorem wd_608 : (Cond.code (⟨"PlaneNet$Net", "wayOut", "(III)I"⟩ : MethodName) prog_2_method_22_code 6 (Option.some .int)) ∈ TT := mem_TT (List.mem_of_getElem? (i := 608) (by decide +kernel)) (by decide +kernel)
theorem wd_609 : (Cond.methodLink "PlaneNet$Net" 115 (⟨"PlaneNet$Net", "startOf", "(I)I"⟩ : MethodName)) ∈ TT := mem_TT (List.mem_of_getElem? (i := 609) (by decide +kernel)) (by decide +kernel)
theorem wd_610 : (Cond.methodLink "PlaneNet$Net" 128 (⟨"PlaneNet$Points", "turn", "(IIII)J"⟩ : MethodName)) ∈ TT := mem_TT (List.mem_of_getElem? (i := 610) (by decide +kernel)) (by decide +kernel)
theorem wd_611 : (Cond.methodLink "PlaneNet$Net" 98 (⟨"PlaneNet$Net", "dig", "(II)V"⟩ : MethodName)) ∈ TT := mem_TT (List.mem_of_getElem? (i := 611) (by decide +kernel)) (by decide +kernel)
theorem wd_613 : (Cond.instanceMethod (⟨"PlaneNet$Net", "dig", "(II)V"⟩ : MethodName)) ∈ TT := mem_TT (List.mem_of_getElem? (i := 613) (by decide +kernel)) (by decide +kernel)
theorem wd_614 : (Cond.code (⟨"PlaneNet$Net", "dig", "(II)V"⟩ : MethodName) prog_2_method_15_code 8 (Option.none : Option ClassFile.FieldType)) ∈ TT := mem_TT (List.mem_of_getElem? (i := 614) (by decide +kernel)) (by decide +kernel)
theorem wd_615 : (Cond.methodLink "PlaneNet$Net" 104 (⟨"PlaneNet$Net", "takeAway", "(I)V"⟩ : MethodName)) ∈ TT := mem_TT (List.mem_of_getElem? (i := 615) (by decide +kernel)) (by decide +kernel)
theorem wd_617 : (Cond.instanceMethod (⟨"PlaneNet$Net", "takeAway", "(I)V"⟩ : MethodName)) ∈ TT := mem_TT (List.mem_of_getElem? (i := 617) (by decide +kernel)) (by decide +kernel)
theorem wd_618 : (Cond.code (⟨"PlaneNet$Net", "takeAway", "(I)V"⟩ : MethodName) prog_2_method_16_code 2 (Option.none : Option ClassFile.FieldType)) ∈ TT := mem_TT (List.mem_of_getElem? (i := 618) (by decide +kernel)) (by decide +kernel)
theorem wd_619 : (Cond.methodLink "PlaneNet$Net" 111 (⟨"PlaneNet$Net", "isSeen", "(II)Z"⟩ : MethodName)) ∈ TT := mem_TT (List.mem_of_getElem? (i := 619) (by decide +kernel)) (by decide +kernel)
theorem wd_621 : (Cond.instanceMethod (⟨"PlaneNet$Net", "isSeen", "(II)Z"⟩ : MethodName)) ∈ TT := mem_TT (List.mem_of_getElem? (i := 621) (by decide +kernel)) (by decide +kernel)
theorem wd_622 : (Cond.code (⟨"PlaneNet$Net", "isSeen", "(II)Z"⟩ : MethodName) prog_2_method_18_code 8 (Option.some .boolean)) ∈ TT := mem_TT (List.mem_of_getElem? (i := 622) (by decide +kernel)) (by decide +kernel)
theorem wd_623 : (Cond.methodLink "PlaneNet$Net" 132 (⟨"PlaneNet$Points", "isLess", "(II)Z"⟩ : MethodName)) ∈ TT := mem_TT (List.mem_of_getElem? (i := 623) (by decide +kernel)) (by decide +kernel)
theorem wd_624 : (Cond.methodLink "PlaneNet$Net" 121 (⟨"PlaneNet$Points", "takesAway", "(IIII)Z"⟩ : MethodName)) ∈ TT := mem_TT (List.mem_of_getElem? (i := 624) (by decide +kernel)) (by decide +kernel)
theorem wd_625 : (Cond.instanceMethod (⟨"PlaneNet$Points", "takesAway", "(IIII)Z"⟩ : MethodName)) ∈ TT := mem_TT (List.mem_of_getElem? (i := 625) (by decide +kernel)) (by decide +kernel)
theorem wd_626 : (Cond.selects "PlaneNet$Points" (⟨"PlaneNet$Points", "takesAway", "(IIII)Z"⟩ : MethodName) (⟨"PlaneNet$Points", "takesAway", "(IIII)Z"⟩ : MethodName)) ∈ TT := mem_TT (List.mem_of_getElem? (i := 626) (by decide +kernel)) (by decide +kernel)
theorem wd_627 : (Cond.code (⟨"PlaneNet$Points", "takesAway", "(IIII)Z"⟩ : MethodName) prog_4_method_17_code 6 (Option.some .boolean)) ∈ TT := mem_TT (List.mem_of_getElem? (i := 627) (by decide +kernel)) (by decide +kernel)
theorem wd_628 : (Cond.methodLink "PlaneNet$Points" 63 (⟨"PlaneNet$Wide", "reset", "()V"⟩ : MethodName)) ∈ TT := mem_TT (List.mem_of_getElem? (i := 628) (by decide +kernel)) (by decide +kernel)
theorem wd_629 : (Cond.instanceMethod (⟨"PlaneNet$Wide", "reset", "()V"⟩ : MethodName)) ∈ TT := mem_TT (List.mem_of_getElem? (i := 629) (by decide +kernel)) (by decide +kernel)
theorem wd_630 : (Cond.selects "PlaneNet$Wide" (⟨"PlaneNet$Wide", "reset", "()V"⟩ : MethodName) (⟨"PlaneNet$Wide", "reset", "()V"⟩ : MethodName)) ∈ TT := mem_TT (List.mem_of_getElem? (i := 630) (by decide +kernel)) (by decide +kernel)
theorem wd_631 : (Cond.code (⟨"PlaneNet$Wide", "reset", "()V"⟩ : MethodName) prog_7_method_2_code 1 (Option.none : Option ClassFile.FieldType)) ∈ TT := mem_TT (List.mem_of_getElem? (i := 631) (by decide +kernel)) (by decide +kernel)
theorem wd_632 : (Cond.methodLink "PlaneNet$Points" 66 (⟨"PlaneNet$Points", "turn", "(IIII)J"⟩ : MethodName)) ∈ TT := mem_TT (List.mem_of_getElem? (i := 632) (by decide +kernel)) (by decide +kernel)
theorem wd_633 : (Cond.methodLink "PlaneNet$Points" 70 (⟨"PlaneNet$Points", "dot", "(III)J"⟩ : MethodName)) ∈ TT := mem_TT (List.mem_of_getElem? (i := 633) (by decide +kernel)) (by decide +kernel)
theorem wd_635 : (Cond.instanceMethod (⟨"PlaneNet$Points", "dot", "(III)J"⟩ : MethodName)) ∈ TT := mem_TT (List.mem_of_getElem? (i := 635) (by decide +kernel)) (by decide +kernel)
theorem wd_636 : (Cond.code (⟨"PlaneNet$Points", "dot", "(III)J"⟩ : MethodName) prog_4_method_16_code 12 (Option.some .long)) ∈ TT := mem_TT (List.mem_of_getElem? (i := 636) (by decide +kernel)) (by decide +kernel)
theorem wd_637 : (Cond.methodLink "PlaneNet$Points" 73 (⟨"PlaneNet$Wide", "addProduct", "(JJ)V"⟩ : MethodName)) ∈ TT := mem_TT (List.mem_of_getElem? (i := 637) (by decide +kernel)) (by decide +kernel)
theorem wd_638 : (Cond.instanceMethod (⟨"PlaneNet$Wide", "addProduct", "(JJ)V"⟩ : MethodName)) ∈ TT := mem_TT (List.mem_of_getElem? (i := 638) (by decide +kernel)) (by decide +kernel)
theorem wd_639 : (Cond.selects "PlaneNet$Wide" (⟨"PlaneNet$Wide", "addProduct", "(JJ)V"⟩ : MethodName) (⟨"PlaneNet$Wide", "addProduct", "(JJ)V"⟩ : MethodName)) ∈ TT := mem_TT (List.mem_of_getElem? (i := 639) (by decide +kernel)) (by decide +kernel)
theorem wd_640 : (Cond.code (⟨"PlaneNet$Wide", "addProduct", "(JJ)V"⟩ : MethodName) prog_7_method_3_code 25 (Option.none : Option ClassFile.FieldType)) ∈ TT := mem_TT (List.mem_of_getElem? (i := 640) (by decide +kernel)) (by decide +kernel)
theorem wd_641 : (Cond.constantLong "PlaneNet$Wide" 16 4294967295) ∈ TT := mem_TT (List.mem_of_getElem? (i := 641) (by decide +kernel)) (by decide +kernel)
theorem wd_642 : (Cond.constantLong "PlaneNet$Wide" 18 (-1)) ∈ TT := mem_TT (List.mem_of_getElem? (i := 642) (by decide +kernel)) (by decide +kernel)
theorem wd_643 : (Cond.methodLink "PlaneNet$Points" 77 (⟨"PlaneNet$Wide", "sign", "()I"⟩ : MethodName)) ∈ TT := mem_TT (List.mem_of_getElem? (i := 643) (by decide +kernel)) (by decide +kernel)
theorem wd_644 : (Cond.instanceMethod (⟨"PlaneNet$Wide", "sign", "()I"⟩ : MethodName)) ∈ TT := mem_TT (List.mem_of_getElem? (i := 644) (by decide +kernel)) (by decide +kernel)
theorem wd_645 : (Cond.selects "PlaneNet$Wide" (⟨"PlaneNet$Wide", "sign", "()I"⟩ : MethodName) (⟨"PlaneNet$Wide", "sign", "()I"⟩ : MethodName)) ∈ TT := mem_TT (List.mem_of_getElem? (i := 645) (by decide +kernel)) (by decide +kernel)
theorem wd_646 : (Cond.code (⟨"PlaneNet$Wide", "sign", "()I"⟩ : MethodName) prog_7_method_4_code 1 (Option.some .int)) ∈ TT := mem_TT (List.mem_of_getElem? (i := 646) (by decide +kernel)) (by decide +kernel)
theorem wd_647 : (Cond.methodLink "PlaneNet$Net" 101 (⟨"PlaneNet$Net", "fill", "(I)V"⟩ : MethodName)) ∈ TT := mem_TT (List.mem_of_getElem? (i := 647) (by decide +kernel)) (by decide +kernel)
theorem wd_649 : (Cond.instanceMethod (⟨"PlaneNet$Net", "fill", "(I)V"⟩ : MethodName)) ∈ TT := mem_TT (List.mem_of_getElem? (i := 649) (by decide +kernel)) (by decide +kernel)
theorem wd_650 : (Cond.code (⟨"PlaneNet$Net", "fill", "(I)V"⟩ : MethodName) prog_2_method_17_code 5 (Option.none : Option ClassFile.FieldType)) ∈ TT := mem_TT (List.mem_of_getElem? (i := 650) (by decide +kernel)) (by decide +kernel)
theorem wd_657 : (Cond.code (⟨"PlaneNet", "find", "(II)I"⟩ : MethodName) prog_1_method_4_code 4 (Option.some .int)) ∈ TT := mem_TT (List.mem_of_getElem? (i := 657) (by decide +kernel)) (by decide +kernel)
theorem wd_665 : (Cond.code (⟨"PlaneNet", "triangle", "(II)I"⟩ : MethodName) prog_1_method_5_code 3 (Option.some .int)) ∈ TT := mem_TT (List.mem_of_getElem? (i := 665) (by decide +kernel)) (by decide +kernel)
theorem wd_682 : (Cond.methodLink "PlaneNet" 126 (⟨"PlaneNet$Roll", "edge", "(I)I"⟩ : MethodName)) ∈ TT := mem_TT (List.mem_of_getElem? (i := 682) (by decide +kernel)) (by decide +kernel)
theorem wd_683 : (Cond.instanceMethod (⟨"PlaneNet$Roll", "edge", "(I)I"⟩ : MethodName)) ∈ TT := mem_TT (List.mem_of_getElem? (i := 683) (by decide +kernel)) (by decide +kernel)
theorem wd_684 : (Cond.selects "PlaneNet$Roll" (⟨"PlaneNet$Roll", "edge", "(I)I"⟩ : MethodName) (⟨"PlaneNet$Roll", "edge", "(I)I"⟩ : MethodName)) ∈ TT := mem_TT (List.mem_of_getElem? (i := 684) (by decide +kernel)) (by decide +kernel)
theorem wd_685 : (Cond.code (⟨"PlaneNet$Roll", "edge", "(I)I"⟩ : MethodName) prog_5_method_4_code 2 (Option.some .int)) ∈ TT := mem_TT (List.mem_of_getElem? (i := 685) (by decide +kernel)) (by decide +kernel)
theorem wd_686 : (Cond.methodLink "PlaneNet$Roll" 45 (⟨"PlaneNet$Roll", "sortAll", "()V"⟩ : MethodName)) ∈ TT := mem_TT (List.mem_of_getElem? (i := 686) (by decide +kernel)) (by decide +kernel)
theorem wd_688 : (Cond.instanceMethod (⟨"PlaneNet$Roll", "sortAll", "()V"⟩ : MethodName)) ∈ TT := mem_TT (List.mem_of_getElem? (i := 688) (by decide +kernel)) (by decide +kernel)
theorem wd_689 : (Cond.code (⟨"PlaneNet$Roll", "sortAll", "()V"⟩ : MethodName) prog_5_method_5_code 2 (Option.none : Option ClassFile.FieldType)) ∈ TT := mem_TT (List.mem_of_getElem? (i := 689) (by decide +kernel)) (by decide +kernel)
theorem wd_690 : (Cond.methodLink "PlaneNet$Roll" 52 (⟨"PlaneNet$Roll", "gather", "()I"⟩ : MethodName)) ∈ TT := mem_TT (List.mem_of_getElem? (i := 690) (by decide +kernel)) (by decide +kernel)
theorem wd_692 : (Cond.instanceMethod (⟨"PlaneNet$Roll", "gather", "()I"⟩ : MethodName)) ∈ TT := mem_TT (List.mem_of_getElem? (i := 692) (by decide +kernel)) (by decide +kernel)
theorem wd_693 : (Cond.code (⟨"PlaneNet$Roll", "gather", "()I"⟩ : MethodName) prog_5_method_6_code 3 (Option.some .int)) ∈ TT := mem_TT (List.mem_of_getElem? (i := 693) (by decide +kernel)) (by decide +kernel)
theorem wd_694 : (Cond.methodLink "PlaneNet$Roll" 60 (⟨"PlaneNet$Net", "edgeCount", "()I"⟩ : MethodName)) ∈ TT := mem_TT (List.mem_of_getElem? (i := 694) (by decide +kernel)) (by decide +kernel)
theorem wd_695 : (Cond.instanceMethod (⟨"PlaneNet$Net", "edgeCount", "()I"⟩ : MethodName)) ∈ TT := mem_TT (List.mem_of_getElem? (i := 695) (by decide +kernel)) (by decide +kernel)
theorem wd_696 : (Cond.selects "PlaneNet$Net" (⟨"PlaneNet$Net", "edgeCount", "()I"⟩ : MethodName) (⟨"PlaneNet$Net", "edgeCount", "()I"⟩ : MethodName)) ∈ TT := mem_TT (List.mem_of_getElem? (i := 696) (by decide +kernel)) (by decide +kernel)
theorem wd_697 : (Cond.code (⟨"PlaneNet$Net", "edgeCount", "()I"⟩ : MethodName) prog_2_method_5_code 1 (Option.some .int)) ∈ TT := mem_TT (List.mem_of_getElem? (i := 697) (by decide +kernel)) (by decide +kernel)
theorem wd_698 : (Cond.methodLink "PlaneNet$Roll" 65 (⟨"PlaneNet$Net", "isOuter", "(I)Z"⟩ : MethodName)) ∈ TT := mem_TT (List.mem_of_getElem? (i := 698) (by decide +kernel)) (by decide +kernel)
theorem wd_699 : (Cond.methodLink "PlaneNet$Roll" 69 (⟨"PlaneNet$Net", "lowestFirst", "(I)I"⟩ : MethodName)) ∈ TT := mem_TT (List.mem_of_getElem? (i := 699) (by decide +kernel)) (by decide +kernel)
theorem wd_700 : (Cond.instanceMethod (⟨"PlaneNet$Net", "lowestFirst", "(I)I"⟩ : MethodName)) ∈ TT := mem_TT (List.mem_of_getElem? (i := 700) (by decide +kernel)) (by decide +kernel)
theorem wd_701 : (Cond.selects "PlaneNet$Net" (⟨"PlaneNet$Net", "lowestFirst", "(I)I"⟩ : MethodName) (⟨"PlaneNet$Net", "lowestFirst", "(I)I"⟩ : MethodName)) ∈ TT := mem_TT (List.mem_of_getElem? (i := 701) (by decide +kernel)) (by decide +kernel)
theorem wd_702 : (Cond.code (⟨"PlaneNet$Net", "lowestFirst", "(I)I"⟩ : MethodName) prog_2_method_23_code 5 (Option.some .int)) ∈ TT := mem_TT (List.mem_of_getElem? (i := 702) (by decide +kernel)) (by decide +kernel)
theorem wd_703 : (Cond.methodLink "PlaneNet$Roll" 72 (⟨"PlaneNet$Row", "put", "(II)V"⟩ : MethodName)) ∈ TT := mem_TT (List.mem_of_getElem? (i := 703) (by decide +kernel)) (by decide +kernel)
theorem wd_704 : (Cond.methodLink "PlaneNet$Roll" 56 (⟨"PlaneNet$Roll", "sortInto", "(LPlaneNet$Row;LPlaneNet$Row;II)V"⟩ : MethodName)) ∈ TT := mem_TT (List.mem_of_getElem? (i := 704) (by decide +kernel)) (by decide +kernel)
theorem wd_706 : (Cond.instanceMethod (⟨"PlaneNet$Roll", "sortInto", "(LPlaneNet$Row;LPlaneNet$Row;II)V"⟩ : MethodName)) ∈ TT := mem_TT (List.mem_of_getElem? (i := 706) (by decide +kernel)) (by decide +kernel)
theorem wd_707 : (Cond.code (⟨"PlaneNet$Roll", "sortInto", "(LPlaneNet$Row;LPlaneNet$Row;II)V"⟩ : MethodName) prog_5_method_7_code 9 (Option.none : Option ClassFile.FieldType)) ∈ TT := mem_TT (List.mem_of_getElem? (i := 707) (by decide +kernel)) (by decide +kernel)
theorem wd_708 : (Cond.methodLink "PlaneNet$Roll" 48 (⟨"PlaneNet$Row", "get", "(I)I"⟩ : MethodName)) ∈ TT := mem_TT (List.mem_of_getElem? (i := 708) (by decide +kernel)) (by decide +kernel)
theorem wd_709 : (Cond.methodLink "PlaneNet$Roll" 79 (⟨"PlaneNet$Net", "ahead", "(II)I"⟩ : MethodName)) ∈ TT := mem_TT (List.mem_of_getElem? (i := 709) (by decide +kernel)) (by decide +kernel)
theorem wd_710 : (Cond.methodLink "PlaneNet$Roll" 83 (⟨"PlaneNet$Net", "startOf", "(I)I"⟩ : MethodName)) ∈ TT := mem_TT (List.mem_of_getElem? (i := 710) (by decide +kernel)) (by decide +kernel)
theorem wd_711 : (Cond.methodLink "PlaneNet" 130 (⟨"PlaneNet$Net", "ahead", "(II)I"⟩ : MethodName)) ∈ TT := mem_TT (List.mem_of_getElem? (i := 711) (by decide +kernel)) (by decide +kernel)
theorem wd_712 : (Cond.methodLink "PlaneNet" 133 (⟨"PlaneNet$Net", "startOf", "(I)I"⟩ : MethodName)) ∈ TT := mem_TT (List.mem_of_getElem? (i := 712) (by decide +kernel)) (by decide +kernel)
theorem wd_719 : (Cond.code (⟨"PlaneNet", "neighbours", "(I)I"⟩ : MethodName) prog_1_method_6_code 2 (Option.some .int)) ∈ TT := mem_TT (List.mem_of_getElem? (i := 719) (by decide +kernel)) (by decide +kernel)
theorem wd_720 : (Cond.methodLink "PlaneNet" 136 (⟨"PlaneNet", "checkNumber", "(I)V"⟩ : MethodName)) ∈ TT := mem_TT (List.mem_of_getElem? (i := 720) (by decide +kernel)) (by decide +kernel)
theorem wd_722 : (Cond.instanceMethod (⟨"PlaneNet", "checkNumber", "(I)V"⟩ : MethodName)) ∈ TT := mem_TT (List.mem_of_getElem? (i := 722) (by decide +kernel)) (by decide +kernel)
theorem wd_723 : (Cond.code (⟨"PlaneNet", "checkNumber", "(I)V"⟩ : MethodName) prog_1_method_16_code 2 (Option.none : Option ClassFile.FieldType)) ∈ TT := mem_TT (List.mem_of_getElem? (i := 723) (by decide +kernel)) (by decide +kernel)
theorem wd_725 : (Cond.methodLink "PlaneNet" 139 (⟨"PlaneNet", "neighbourCount", "(I)I"⟩ : MethodName)) ∈ TT := mem_TT (List.mem_of_getElem? (i := 725) (by decide +kernel)) (by decide +kernel)
theorem wd_727 : (Cond.instanceMethod (⟨"PlaneNet", "neighbourCount", "(I)I"⟩ : MethodName)) ∈ TT := mem_TT (List.mem_of_getElem? (i := 727) (by decide +kernel)) (by decide +kernel)
theorem wd_728 : (Cond.code (⟨"PlaneNet", "neighbourCount", "(I)I"⟩ : MethodName) prog_1_method_22_code 3 (Option.some .int)) ∈ TT := mem_TT (List.mem_of_getElem? (i := 728) (by decide +kernel)) (by decide +kernel)
theorem wd_729 : (Cond.methodLink "PlaneNet" 216 (⟨"PlaneNet$Net", "degree", "(I)I"⟩ : MethodName)) ∈ TT := mem_TT (List.mem_of_getElem? (i := 729) (by decide +kernel)) (by decide +kernel)
theorem wd_730 : (Cond.instanceMethod (⟨"PlaneNet$Net", "degree", "(I)I"⟩ : MethodName)) ∈ TT := mem_TT (List.mem_of_getElem? (i := 730) (by decide +kernel)) (by decide +kernel)
theorem wd_731 : (Cond.selects "PlaneNet$Net" (⟨"PlaneNet$Net", "degree", "(I)I"⟩ : MethodName) (⟨"PlaneNet$Net", "degree", "(I)I"⟩ : MethodName)) ∈ TT := mem_TT (List.mem_of_getElem? (i := 731) (by decide +kernel)) (by decide +kernel)
theorem wd_732 : (Cond.code (⟨"PlaneNet$Net", "degree", "(I)I"⟩ : MethodName) prog_2_method_25_code 6 (Option.some .int)) ∈ TT := mem_TT (List.mem_of_getElem? (i := 732) (by decide +kernel)) (by decide +kernel)
theorem wd_733 : (Cond.methodLink "PlaneNet" 219 (⟨"PlaneNet$Points", "greatestBelow", "(II)I"⟩ : MethodName)) ∈ TT := mem_TT (List.mem_of_getElem? (i := 733) (by decide +kernel)) (by decide +kernel)
theorem wd_734 : (Cond.methodLink "PlaneNet" 222 (⟨"PlaneNet$Points", "leastAbove", "(II)I"⟩ : MethodName)) ∈ TT := mem_TT (List.mem_of_getElem? (i := 734) (by decide +kernel)) (by decide +kernel)
theorem wd_741 : (Cond.code (⟨"PlaneNet", "neighbour", "(II)I"⟩ : MethodName) prog_1_method_7_code 3 (Option.some .int)) ∈ TT := mem_TT (List.mem_of_getElem? (i := 741) (by decide +kernel)) (by decide +kernel)
theorem wd_743 : (Cond.methodLink "PlaneNet" 144 (⟨"PlaneNet", "neighbourOnLine", "(II)I"⟩ : MethodName)) ∈ TT := mem_TT (List.mem_of_getElem? (i := 743) (by decide +kernel)) (by decide +kernel)
theorem wd_745 : (Cond.instanceMethod (⟨"PlaneNet", "neighbourOnLine", "(II)I"⟩ : MethodName)) ∈ TT := mem_TT (List.mem_of_getElem? (i := 745) (by decide +kernel)) (by decide +kernel)
theorem wd_746 : (Cond.code (⟨"PlaneNet", "neighbourOnLine", "(II)I"⟩ : MethodName) prog_1_method_23_code 5 (Option.some .int)) ∈ TT := mem_TT (List.mem_of_getElem? (i := 746) (by decide +kernel)) (by decide +kernel)
theorem wd_747 : (Cond.methodLink "PlaneNet" 147 (⟨"PlaneNet$Net", "leftRound", "(II)I"⟩ : MethodName)) ∈ TT := mem_TT (List.mem_of_getElem? (i := 747) (by decide +kernel)) (by decide +kernel)
theorem wd_748 : (Cond.instanceMethod (⟨"PlaneNet$Net", "leftRound", "(II)I"⟩ : MethodName)) ∈ TT := mem_TT (List.mem_of_getElem? (i := 748) (by decide +kernel)) (by decide +kernel)
theorem wd_749 : (Cond.selects "PlaneNet$Net" (⟨"PlaneNet$Net", "leftRound", "(II)I"⟩ : MethodName) (⟨"PlaneNet$Net", "leftRound", "(II)I"⟩ : MethodName)) ∈ TT := mem_TT (List.mem_of_getElem? (i := 749) (by decide +kernel)) (by decide +kernel)
theorem wd_750 : (Cond.code (⟨"PlaneNet$Net", "leftRound", "(II)I"⟩ : MethodName) prog_2_method_26_code 6 (Option.some .int)) ∈ TT := mem_TT (List.mem_of_getElem? (i := 750) (by decide +kernel)) (by decide +kernel)
theorem wd_751 : (Cond.methodLink "PlaneNet$Net" 141 (⟨"PlaneNet$Net", "lowestFrom", "(I)I"⟩ : MethodName)) ∈ TT := mem_TT (List.mem_of_getElem? (i := 751) (by decide +kernel)) (by decide +kernel)
theorem wd_753 : (Cond.instanceMethod (⟨"PlaneNet$Net", "lowestFrom", "(I)I"⟩ : MethodName)) ∈ TT := mem_TT (List.mem_of_getElem? (i := 753) (by decide +kernel)) (by decide +kernel)
theorem wd_754 : (Cond.code (⟨"PlaneNet$Net", "lowestFrom", "(I)I"⟩ : MethodName) prog_2_method_27_code 6 (Option.some .int)) ∈ TT := mem_TT (List.mem_of_getElem? (i := 754) (by decide +kernel)) (by decide +kernel)
theorem wd_761 : (Cond.code (⟨"PlaneNet", "corner", "(I)I"⟩ : MethodName) prog_1_method_8_code 2 (Option.some .int)) ∈ TT := mem_TT (List.mem_of_getElem? (i := 761) (by decide +kernel)) (by decide +kernel)
theorem wd_763 : (Cond.methodLink "PlaneNet" 155 (⟨"PlaneNet$Outline", "at", "(I)I"⟩ : MethodName)) ∈ TT := mem_TT (List.mem_of_getElem? (i := 763) (by decide +kernel)) (by decide +kernel)
theorem wd_764 : (Cond.instanceMethod (⟨"PlaneNet$Outline", "at", "(I)I"⟩ : MethodName)) ∈ TT := mem_TT (List.mem_of_getElem? (i := 764) (by decide +kernel)) (by decide +kernel)
theorem wd_765 : (Cond.selects "PlaneNet$Outline" (⟨"PlaneNet$Outline", "at", "(I)I"⟩ : MethodName) (⟨"PlaneNet$Outline", "at", "(I)I"⟩ : MethodName)) ∈ TT := mem_TT (List.mem_of_getElem? (i := 765) (by decide +kernel)) (by decide +kernel)
theorem wd_766 : (Cond.code (⟨"PlaneNet$Outline", "at", "(I)I"⟩ : MethodName) prog_3_method_5_code 2 (Option.some .int)) ∈ TT := mem_TT (List.mem_of_getElem? (i := 766) (by decide +kernel)) (by decide +kernel)
theorem wd_767 : (Cond.methodLink "PlaneNet$Outline" 47 (⟨"PlaneNet$Row", "get", "(I)I"⟩ : MethodName)) ∈ TT := mem_TT (List.mem_of_getElem? (i := 767) (by decide +kernel)) (by decide +kernel)
theorem wd_774 : (Cond.code (⟨"PlaneNet", "locate", "(II)I"⟩ : MethodName) prog_1_method_9_code 4 (Option.some .int)) ∈ TT := mem_TT (List.mem_of_getElem? (i := 774) (by decide +kernel)) (by decide +kernel)
theorem wd_775 : (Cond.methodLink "PlaneNet" 161 (⟨"PlaneNet", "locateOnLine", "(II)I"⟩ : MethodName)) ∈ TT := mem_TT (List.mem_of_getElem? (i := 775) (by decide +kernel)) (by decide +kernel)
theorem wd_777 : (Cond.instanceMethod (⟨"PlaneNet", "locateOnLine", "(II)I"⟩ : MethodName)) ∈ TT := mem_TT (List.mem_of_getElem? (i := 777) (by decide +kernel)) (by decide +kernel)
theorem wd_778 : (Cond.code (⟨"PlaneNet", "locateOnLine", "(II)I"⟩ : MethodName) prog_1_method_24_code 5 (Option.some .int)) ∈ TT := mem_TT (List.mem_of_getElem? (i := 778) (by decide +kernel)) (by decide +kernel)
theorem wd_779 : (Cond.methodLink "PlaneNet" 225 (⟨"PlaneNet", "foundBetween", "(II)I"⟩ : MethodName)) ∈ TT := mem_TT (List.mem_of_getElem? (i := 779) (by decide +kernel)) (by decide +kernel)
theorem wd_781 : (Cond.instanceMethod (⟨"PlaneNet", "foundBetween", "(II)I"⟩ : MethodName)) ∈ TT := mem_TT (List.mem_of_getElem? (i := 781) (by decide +kernel)) (by decide +kernel)
theorem wd_782 : (Cond.code (⟨"PlaneNet", "foundBetween", "(II)I"⟩ : MethodName) prog_1_method_26_code 3 (Option.some .int)) ∈ TT := mem_TT (List.mem_of_getElem? (i := 782) (by decide +kernel)) (by decide +kernel)
theorem wd_783 : (Cond.methodLink "PlaneNet" 164 (⟨"PlaneNet", "locateInNet", "(III)I"⟩ : MethodName)) ∈ TT := mem_TT (List.mem_of_getElem? (i := 783) (by decide +kernel)) (by decide +kernel)
theorem wd_785 : (Cond.instanceMethod (⟨"PlaneNet", "locateInNet", "(III)I"⟩ : MethodName)) ∈ TT := mem_TT (List.mem_of_getElem? (i := 785) (by decide +kernel)) (by decide +kernel)
theorem wd_786 : (Cond.code (⟨"PlaneNet", "locateInNet", "(III)I"⟩ : MethodName) prog_1_method_25_code 7 (Option.some .int)) ∈ TT := mem_TT (List.mem_of_getElem? (i := 786) (by decide +kernel)) (by decide +kernel)
theorem wd_787 : (Cond.methodLink "PlaneNet" 228 (⟨"PlaneNet$Net", "holder", "(III)I"⟩ : MethodName)) ∈ TT := mem_TT (List.mem_of_getElem? (i := 787) (by decide +kernel)) (by decide +kernel)
theorem wd_788 : (Cond.methodLink "PlaneNet" 231 (⟨"PlaneNet$Net", "isOuter", "(I)Z"⟩ : MethodName)) ∈ TT := mem_TT (List.mem_of_getElem? (i := 788) (by decide +kernel)) (by decide +kernel)
theorem wd_789 : (Cond.methodLink "PlaneNet" 235 (⟨"PlaneNet$Net", "endOf", "(I)I"⟩ : MethodName)) ∈ TT := mem_TT (List.mem_of_getElem? (i := 789) (by decide +kernel)) (by decide +kernel)
theorem wd_790 : (Cond.methodLink "PlaneNet" 238 (⟨"PlaneNet$Net", "lowestFirst", "(I)I"⟩ : MethodName)) ∈ TT := mem_TT (List.mem_of_getElem? (i := 790) (by decide +kernel)) (by decide +kernel)
theorem wd_797 : (Cond.code (⟨"PlaneNet", "nearest", "(II)I"⟩ : MethodName) prog_1_method_11_code 3 (Option.some .int)) ∈ TT := mem_TT (List.mem_of_getElem? (i := 797) (by decide +kernel)) (by decide +kernel)
theorem wd_805 : (Cond.code (⟨"PlaneNet", "closest", "(I)J"⟩ : MethodName) prog_1_method_12_code 2 (Option.some .long)) ∈ TT := mem_TT (List.mem_of_getElem? (i := 805) (by decide +kernel)) (by decide +kernel)
theorem wd_814 : (Cond.code (⟨"PlaneNet", "point", "(II)I"⟩ : MethodName) prog_1_method_13_code 3 (Option.some .int)) ∈ TT := mem_TT (List.mem_of_getElem? (i := 814) (by decide +kernel)) (by decide +kernel)
theorem wd_820 : (Cond.code (⟨"PlaneNetModel", "<init>", "(I)V"⟩ : MethodName) prog_9_method_1_code 2 (Option.none : Option ClassFile.FieldType)) ∈ TT := mem_TT (List.mem_of_getElem? (i := 820) (by decide +kernel)) (by decide +kernel)
theorem wd_821 : (Cond.methodLink "PlaneNetModel" 1 (⟨"java/lang/Object", "<init>", "()V"⟩ : MethodName)) ∈ TT := mem_TT (List.mem_of_getElem? (i := 821) (by decide +kernel)) (by decide +kernel)
theorem wd_822 : (Cond.fieldLink "PlaneNetModel" 47 "PlaneNetModel" "thrown" "I") ∈ TT := mem_TT (List.mem_of_getElem? (i := 822) (by decide +kernel)) (by decide +kernel)
theorem wd_823 : (Cond.fieldLink "PlaneNetModel" 43 "PlaneNetModel" "most" "I") ∈ TT := mem_TT (List.mem_of_getElem? (i := 823) (by decide +kernel)) (by decide +kernel)
theorem wd_824 : (Cond.fieldLink "PlaneNetModel" 98 "PlaneNetModel" "n" "I") ∈ TT := mem_TT (List.mem_of_getElem? (i := 824) (by decide +kernel)) (by decide +kernel)
theorem wd_825 : (Cond.fieldLink "PlaneNetModel" 7 "PlaneNetModel" "xs" "[I") ∈ TT := mem_TT (List.mem_of_getElem? (i := 825) (by decide +kernel)) (by decide +kernel)
theorem wd_826 : (Cond.fieldLink "PlaneNetModel" 13 "PlaneNetModel" "ys" "[I") ∈ TT := mem_TT (List.mem_of_getElem? (i := 826) (by decide +kernel)) (by decide +kernel)
theorem wd_827 : (Cond.fieldLink "PlaneNetModel" 101 "PlaneNetModel" "known" "Z") ∈ TT := mem_TT (List.mem_of_getElem? (i := 827) (by decide +kernel)) (by decide +kernel)
theorem wd_828 : (Cond.fieldLink "PlaneNetModel" 153 "PlaneNetModel" "triangles" "I") ∈ TT := mem_TT (List.mem_of_getElem? (i := 828) (by decide +kernel)) (by decide +kernel)
theorem wd_829 : (Cond.fieldLink "PlaneNetModel" 16 "PlaneNetModel" "t0" "[I") ∈ TT := mem_TT (List.mem_of_getElem? (i := 829) (by decide +kernel)) (by decide +kernel)
theorem wd_830 : (Cond.fieldLink "PlaneNetModel" 19 "PlaneNetModel" "t1" "[I") ∈ TT := mem_TT (List.mem_of_getElem? (i := 830) (by decide +kernel)) (by decide +kernel)
theorem wd_831 : (Cond.fieldLink "PlaneNetModel" 22 "PlaneNetModel" "t2" "[I") ∈ TT := mem_TT (List.mem_of_getElem? (i := 831) (by decide +kernel)) (by decide +kernel)
theorem wd_832 : (Cond.fieldLink "PlaneNetModel" 131 "PlaneNetModel" "corners" "I") ∈ TT := mem_TT (List.mem_of_getElem? (i := 832) (by decide +kernel)) (by decide +kernel)
theorem wd_833 : (Cond.fieldLink "PlaneNetModel" 25 "PlaneNetModel" "corner" "[I") ∈ TT := mem_TT (List.mem_of_getElem? (i := 833) (by decide +kernel)) (by decide +kernel)
theorem wd_834 : (Cond.fieldLink "PlaneNetModel" 150 "PlaneNetModel" "sides" "I") ∈ TT := mem_TT (List.mem_of_getElem? (i := 834) (by decide +kernel)) (by decide +kernel)
theorem wd_835 : (Cond.fieldLink "PlaneNetModel" 173 "PlaneNetModel" "looked" "I") ∈ TT := mem_TT (List.mem_of_getElem? (i := 835) (by decide +kernel)) (by decide +kernel)
theorem wd_836 : (Cond.fieldLink "PlaneNetModel" 28 "PlaneNetModel" "from" "[I") ∈ TT := mem_TT (List.mem_of_getElem? (i := 836) (by decide +kernel)) (by decide +kernel)
theorem wd_837 : (Cond.fieldLink "PlaneNetModel" 31 "PlaneNetModel" "to" "[I") ∈ TT := mem_TT (List.mem_of_getElem? (i := 837) (by decide +kernel)) (by decide +kernel)
theorem wd_838 : (Cond.fieldLink "PlaneNetModel" 140 "PlaneNetModel" "celled" "I") ∈ TT := mem_TT (List.mem_of_getElem? (i := 838) (by decide +kernel)) (by decide +kernel)
theorem wd_839 : (Cond.fieldLink "PlaneNetModel" 34 "PlaneNetModel" "cell" "[I") ∈ TT := mem_TT (List.mem_of_getElem? (i := 839) (by decide +kernel)) (by decide +kernel)
theorem wd_840 : (Cond.fieldLink "PlaneNetModel" 70 "PlaneNetModel" "d0" "J") ∈ TT := mem_TT (List.mem_of_getElem? (i := 840) (by decide +kernel)) (by decide +kernel)
theorem wd_841 : (Cond.fieldLink "PlaneNetModel" 74 "PlaneNetModel" "d1" "J") ∈ TT := mem_TT (List.mem_of_getElem? (i := 841) (by decide +kernel)) (by decide +kernel)
theorem wd_842 : (Cond.fieldLink "PlaneNetModel" 77 "PlaneNetModel" "d2" "J") ∈ TT := mem_TT (List.mem_of_getElem? (i := 842) (by decide +kernel)) (by decide +kernel)
theorem wd_843 : (Cond.fieldLink "PlaneNetModel" 80 "PlaneNetModel" "d3" "J") ∈ TT := mem_TT (List.mem_of_getElem? (i := 843) (by decide +kernel)) (by decide +kernel)
theorem wd_844 : (Cond.fieldLink "PlaneNetModel" 83 "PlaneNetModel" "d4" "J") ∈ TT := mem_TT (List.mem_of_getElem? (i := 844) (by decide +kernel)) (by decide +kernel)
theorem wd_845 : (Cond.fieldLink "PlaneNetModel" 196 "PlaneNetModel" "near" "I") ∈ TT := mem_TT (List.mem_of_getElem? (i := 845) (by decide +kernel)) (by decide +kernel)
theorem wd_846 : (Cond.fieldLink "PlaneNetModel" 37 "PlaneNetModel" "row" "[I") ∈ TT := mem_TT (List.mem_of_getElem? (i := 846) (by decide +kernel)) (by decide +kernel)
theorem wd_847 : (Cond.fieldLink "PlaneNetModel" 40 "PlaneNetModel" "located" "[I") ∈ TT := mem_TT (List.mem_of_getElem? (i := 847) (by decide +kernel)) (by decide +kernel)
theorem wd_904 : (Cond.code (⟨"PlaneNetModel", "thrown", "()I"⟩ : MethodName) prog_9_method_2_code 1 (Option.some .int)) ∈ TT := mem_TT (List.mem_of_getElem? (i := 904) (by decide +kernel)) (by decide +kernel)
theorem wd_908 : (Cond.code (⟨"PlaneNetModel", "add", "(II)I"⟩ : MethodName) prog_9_method_18_code 3 (Option.some .int)) ∈ TT := mem_TT (List.mem_of_getElem? (i := 908) (by decide +kernel)) (by decide +kernel)
theorem wd_909 : (Cond.methodLink "PlaneNetModel" 105 (⟨"PlaneNetModel", "isFar", "(II)Z"⟩ : MethodName)) ∈ TT := mem_TT (List.mem_of_getElem? (i := 909) (by decide +kernel)) (by decide +kernel)
theorem wd_910 : (Cond.static (⟨"PlaneNetModel", "isFar", "(II)Z"⟩ : MethodName)) ∈ TT := mem_TT (List.mem_of_getElem? (i := 910) (by decide +kernel)) (by decide +kernel)
theorem wd_911 : (Cond.code (⟨"PlaneNetModel", "isFar", "(II)Z"⟩ : MethodName) prog_9_method_5_code 2 (Option.some .boolean)) ∈ TT := mem_TT (List.mem_of_getElem? (i := 911) (by decide +kernel)) (by decide +kernel)
theorem wd_912 : (Cond.constant "PlaneNetModel" 50 (-1000000000)) ∈ TT := mem_TT (List.mem_of_getElem? (i := 912) (by decide +kernel)) (by decide +kernel)
theorem wd_913 : (Cond.constant "PlaneNetModel" 51 1000000000) ∈ TT := mem_TT (List.mem_of_getElem? (i := 913) (by decide +kernel)) (by decide +kernel)
theorem wd_914 : (Cond.methodLink "PlaneNetModel" 52 (⟨"PlaneNetModel", "within", "(III)Z"⟩ : MethodName)) ∈ TT := mem_TT (List.mem_of_getElem? (i := 914) (by decide +kernel)) (by decide +kernel)
theorem wd_915 : (Cond.static (⟨"PlaneNetModel", "within", "(III)Z"⟩ : MethodName)) ∈ TT := mem_TT (List.mem_of_getElem? (i := 915) (by decide +kernel)) (by decide +kernel)
theorem wd_916 : (Cond.code (⟨"PlaneNetModel", "within", "(III)Z"⟩ : MethodName) prog_9_method_4_code 3 (Option.some .boolean)) ∈ TT := mem_TT (List.mem_of_getElem? (i := 916) (by decide +kernel)) (by decide +kernel)
theorem wd_917 : (Cond.methodLink "PlaneNetModel" 109 (⟨"PlaneNetModel", "fail", "(I)I"⟩ : MethodName)) ∈ TT := mem_TT (List.mem_of_getElem? (i := 917) (by decide +kernel)) (by decide +kernel)
theorem wd_919 : (Cond.instanceMethod (⟨"PlaneNetModel", "fail", "(I)I"⟩ : MethodName)) ∈ TT := mem_TT (List.mem_of_getElem? (i := 919) (by decide +kernel)) (by decide +kernel)
theorem wd_920 : (Cond.code (⟨"PlaneNetModel", "fail", "(I)I"⟩ : MethodName) prog_9_method_3_code 2 (Option.some .int)) ∈ TT := mem_TT (List.mem_of_getElem? (i := 920) (by decide +kernel)) (by decide +kernel)
theorem wd_921 : (Cond.methodLink "PlaneNetModel" 113 (⟨"PlaneNetModel", "findPoint", "(II)I"⟩ : MethodName)) ∈ TT := mem_TT (List.mem_of_getElem? (i := 921) (by decide +kernel)) (by decide +kernel)
theorem wd_923 : (Cond.instanceMethod (⟨"PlaneNetModel", "findPoint", "(II)I"⟩ : MethodName)) ∈ TT := mem_TT (List.mem_of_getElem? (i := 923) (by decide +kernel)) (by decide +kernel)
theorem wd_924 : (Cond.code (⟨"PlaneNetModel", "findPoint", "(II)I"⟩ : MethodName) prog_9_method_16_code 5 (Option.some .int)) ∈ TT := mem_TT (List.mem_of_getElem? (i := 924) (by decide +kernel)) (by decide +kernel)
theorem wd_925 : (Cond.methodLink "PlaneNetModel" 117 (⟨"PlaneNetModel", "forget", "()V"⟩ : MethodName)) ∈ TT := mem_TT (List.mem_of_getElem? (i := 925) (by decide +kernel)) (by decide +kernel)
theorem wd_927 : (Cond.instanceMethod (⟨"PlaneNetModel", "forget", "()V"⟩ : MethodName)) ∈ TT := mem_TT (List.mem_of_getElem? (i := 927) (by decide +kernel)) (by decide +kernel)
theorem wd_928 : (Cond.code (⟨"PlaneNetModel", "forget", "()V"⟩ : MethodName) prog_9_method_17_code 2 (Option.none : Option ClassFile.FieldType)) ∈ TT := mem_TT (List.mem_of_getElem? (i := 928) (by decide +kernel)) (by decide +kernel)
theorem wd_932 : (Cond.code (⟨"PlaneNetModel", "clear", "()I"⟩ : MethodName) prog_9_method_19_code 2 (Option.some .int)) ∈ TT := mem_TT (List.mem_of_getElem? (i := 932) (by decide +kernel)) (by decide +kernel)
theorem wd_936 : (Cond.code (⟨"PlaneNetModel", "find", "(II)I"⟩ : MethodName) prog_9_method_20_code 3 (Option.some .int)) ∈ TT := mem_TT (List.mem_of_getElem? (i := 936) (by decide +kernel)) (by decide +kernel)
theorem wd_940 : (Cond.code (⟨"PlaneNetModel", "triangle", "(II)I"⟩ : MethodName) prog_9_method_33_code 3 (Option.some .int)) ∈ TT := mem_TT (List.mem_of_getElem? (i := 940) (by decide +kernel)) (by decide +kernel)
theorem wd_941 : (Cond.methodLink "PlaneNetModel" 186 (⟨"PlaneNetModel", "know", "()V"⟩ : MethodName)) ∈ TT := mem_TT (List.mem_of_getElem? (i := 941) (by decide +kernel)) (by decide +kernel)
theorem wd_943 : (Cond.instanceMethod (⟨"PlaneNetModel", "know", "()V"⟩ : MethodName)) ∈ TT := mem_TT (List.mem_of_getElem? (i := 943) (by decide +kernel)) (by decide +kernel)
theorem wd_944 : (Cond.code (⟨"PlaneNetModel", "know", "()V"⟩ : MethodName) prog_9_method_32_code 4 (Option.none : Option ClassFile.FieldType)) ∈ TT := mem_TT (List.mem_of_getElem? (i := 944) (by decide +kernel)) (by decide +kernel)
theorem wd_945 : (Cond.methodLink "PlaneNetModel" 176 (⟨"PlaneNetModel", "findCorners", "()V"⟩ : MethodName)) ∈ TT := mem_TT (List.mem_of_getElem? (i := 945) (by decide +kernel)) (by decide +kernel)
theorem wd_947 : (Cond.instanceMethod (⟨"PlaneNetModel", "findCorners", "()V"⟩ : MethodName)) ∈ TT := mem_TT (List.mem_of_getElem? (i := 947) (by decide +kernel)) (by decide +kernel)
theorem wd_948 : (Cond.code (⟨"PlaneNetModel", "findCorners", "()V"⟩ : MethodName) prog_9_method_23_code 4 (Option.none : Option ClassFile.FieldType)) ∈ TT := mem_TT (List.mem_of_getElem? (i := 948) (by decide +kernel)) (by decide +kernel)
theorem wd_949 : (Cond.methodLink "PlaneNetModel" 134 (⟨"PlaneNetModel", "least", "()I"⟩ : MethodName)) ∈ TT := mem_TT (List.mem_of_getElem? (i := 949) (by decide +kernel)) (by decide +kernel)
theorem wd_951 : (Cond.instanceMethod (⟨"PlaneNetModel", "least", "()I"⟩ : MethodName)) ∈ TT := mem_TT (List.mem_of_getElem? (i := 951) (by decide +kernel)) (by decide +kernel)
theorem wd_952 : (Cond.code (⟨"PlaneNetModel", "least", "()I"⟩ : MethodName) prog_9_method_21_code 3 (Option.some .int)) ∈ TT := mem_TT (List.mem_of_getElem? (i := 952) (by decide +kernel)) (by decide +kernel)
theorem wd_953 : (Cond.methodLink "PlaneNetModel" 120 (⟨"PlaneNetModel", "isLess", "(II)Z"⟩ : MethodName)) ∈ TT := mem_TT (List.mem_of_getElem? (i := 953) (by decide +kernel)) (by decide +kernel)
theorem wd_955 : (Cond.instanceMethod (⟨"PlaneNetModel", "isLess", "(II)Z"⟩ : MethodName)) ∈ TT := mem_TT (List.mem_of_getElem? (i := 955) (by decide +kernel)) (by decide +kernel)
theorem wd_956 : (Cond.code (⟨"PlaneNetModel", "isLess", "(II)Z"⟩ : MethodName) prog_9_method_14_code 3 (Option.some .boolean)) ∈ TT := mem_TT (List.mem_of_getElem? (i := 956) (by decide +kernel)) (by decide +kernel)
theorem wd_957 : (Cond.methodLink "PlaneNetModel" 137 (⟨"PlaneNetModel", "cornerBehind", "(I)I"⟩ : MethodName)) ∈ TT := mem_TT (List.mem_of_getElem? (i := 957) (by decide +kernel)) (by decide +kernel)
theorem wd_959 : (Cond.instanceMethod (⟨"PlaneNetModel", "cornerBehind", "(I)I"⟩ : MethodName)) ∈ TT := mem_TT (List.mem_of_getElem? (i := 959) (by decide +kernel)) (by decide +kernel)
theorem wd_960 : (Cond.code (⟨"PlaneNetModel", "cornerBehind", "(I)I"⟩ : MethodName) prog_9_method_22_code 5 (Option.some .int)) ∈ TT := mem_TT (List.mem_of_getElem? (i := 960) (by decide +kernel)) (by decide +kernel)
theorem wd_961 : (Cond.methodLink "PlaneNetModel" 123 (⟨"PlaneNetModel", "sideOf", "(III)I"⟩ : MethodName)) ∈ TT := mem_TT (List.mem_of_getElem? (i := 961) (by decide +kernel)) (by decide +kernel)
theorem wd_963 : (Cond.instanceMethod (⟨"PlaneNetModel", "sideOf", "(III)I"⟩ : MethodName)) ∈ TT := mem_TT (List.mem_of_getElem? (i := 963) (by decide +kernel)) (by decide +kernel)
theorem wd_964 : (Cond.code (⟨"PlaneNetModel", "sideOf", "(III)I"⟩ : MethodName) prog_9_method_9_code 4 (Option.some .int)) ∈ TT := mem_TT (List.mem_of_getElem? (i := 964) (by decide +kernel)) (by decide +kernel)
theorem wd_965 : (Cond.methodLink "PlaneNetModel" 64 (⟨"PlaneNetModel", "side", "(IIII)I"⟩ : MethodName)) ∈ TT := mem_TT (List.mem_of_getElem? (i := 965) (by decide +kernel)) (by decide +kernel)
theorem wd_967 : (Cond.instanceMethod (⟨"PlaneNetModel", "side", "(IIII)I"⟩ : MethodName)) ∈ TT := mem_TT (List.mem_of_getElem? (i := 967) (by decide +kernel)) (by decide +kernel)
theorem wd_968 : (Cond.code (⟨"PlaneNetModel", "side", "(IIII)I"⟩ : MethodName) prog_9_method_8_code 5 (Option.some .int)) ∈ TT := mem_TT (List.mem_of_getElem? (i := 968) (by decide +kernel)) (by decide +kernel)
theorem wd_969 : (Cond.methodLink "PlaneNetModel" 56 (⟨"PlaneNetModel", "cross", "(JJJJ)J"⟩ : MethodName)) ∈ TT := mem_TT (List.mem_of_getElem? (i := 969) (by decide +kernel)) (by decide +kernel)
theorem wd_970 : (Cond.static (⟨"PlaneNetModel", "cross", "(JJJJ)J"⟩ : MethodName)) ∈ TT := mem_TT (List.mem_of_getElem? (i := 970) (by decide +kernel)) (by decide +kernel)
theorem wd_971 : (Cond.code (⟨"PlaneNetModel", "cross", "(JJJJ)J"⟩ : MethodName) prog_9_method_7_code 8 (Option.some .long)) ∈ TT := mem_TT (List.mem_of_getElem? (i := 971) (by decide +kernel)) (by decide +kernel)
theorem wd_972 : (Cond.methodLink "PlaneNetModel" 60 (⟨"PlaneNetModel", "sign", "(J)I"⟩ : MethodName)) ∈ TT := mem_TT (List.mem_of_getElem? (i := 972) (by decide +kernel)) (by decide +kernel)
theorem wd_973 : (Cond.static (⟨"PlaneNetModel", "sign", "(J)I"⟩ : MethodName)) ∈ TT := mem_TT (List.mem_of_getElem? (i := 973) (by decide +kernel)) (by decide +kernel)
theorem wd_974 : (Cond.code (⟨"PlaneNetModel", "sign", "(J)I"⟩ : MethodName) prog_9_method_6_code 2 (Option.some .int)) ∈ TT := mem_TT (List.mem_of_getElem? (i := 974) (by decide +kernel)) (by decide +kernel)
theorem wd_975 : (Cond.methodLink "PlaneNetModel" 127 (⟨"PlaneNetModel", "apart", "(III)J"⟩ : MethodName)) ∈ TT := mem_TT (List.mem_of_getElem? (i := 975) (by decide +kernel)) (by decide +kernel)
theorem wd_977 : (Cond.instanceMethod (⟨"PlaneNetModel", "apart", "(III)J"⟩ : MethodName)) ∈ TT := mem_TT (List.mem_of_getElem? (i := 977) (by decide +kernel)) (by decide +kernel)
theorem wd_978 : (Cond.code (⟨"PlaneNetModel", "apart", "(III)J"⟩ : MethodName) prog_9_method_15_code 8 (Option.some .long)) ∈ TT := mem_TT (List.mem_of_getElem? (i := 978) (by decide +kernel)) (by decide +kernel)
theorem wd_979 : (Cond.methodLink "PlaneNetModel" 179 (⟨"PlaneNetModel", "look", "(II)V"⟩ : MethodName)) ∈ TT := mem_TT (List.mem_of_getElem? (i := 979) (by decide +kernel)) (by decide +kernel)
theorem wd_981 : (Cond.instanceMethod (⟨"PlaneNetModel", "look", "(II)V"⟩ : MethodName)) ∈ TT := mem_TT (List.mem_of_getElem? (i := 981) (by decide +kernel)) (by decide +kernel)
theorem wd_982 : (Cond.code (⟨"PlaneNetModel", "look", "(II)V"⟩ : MethodName) prog_9_method_28_code 5 (Option.none : Option ClassFile.FieldType)) ∈ TT := mem_TT (List.mem_of_getElem? (i := 982) (by decide +kernel)) (by decide +kernel)
theorem wd_983 : (Cond.methodLink "PlaneNetModel" 156 (⟨"PlaneNetModel", "isSide", "(II)Z"⟩ : MethodName)) ∈ TT := mem_TT (List.mem_of_getElem? (i := 983) (by decide +kernel)) (by decide +kernel)
theorem wd_985 : (Cond.instanceMethod (⟨"PlaneNetModel", "isSide", "(II)Z"⟩ : MethodName)) ∈ TT := mem_TT (List.mem_of_getElem? (i := 985) (by decide +kernel)) (by decide +kernel)
theorem wd_986 : (Cond.code (⟨"PlaneNetModel", "isSide", "(II)Z"⟩ : MethodName) prog_9_method_26_code 5 (Option.some .boolean)) ∈ TT := mem_TT (List.mem_of_getElem? (i := 986) (by decide +kernel)) (by decide +kernel)
theorem wd_987 : (Cond.methodLink "PlaneNetModel" 143 (⟨"PlaneNetModel", "inCircle", "(IIII)I"⟩ : MethodName)) ∈ TT := mem_TT (List.mem_of_getElem? (i := 987) (by decide +kernel)) (by decide +kernel)
theorem wd_989 : (Cond.instanceMethod (⟨"PlaneNetModel", "inCircle", "(IIII)I"⟩ : MethodName)) ∈ TT := mem_TT (List.mem_of_getElem? (i := 989) (by decide +kernel)) (by decide +kernel)
theorem wd_990 : (Cond.code (⟨"PlaneNetModel", "inCircle", "(IIII)I"⟩ : MethodName) prog_9_method_13_code 5 (Option.some .int)) ∈ TT := mem_TT (List.mem_of_getElem? (i := 990) (by decide +kernel)) (by decide +kernel)
theorem wd_991 : (Cond.methodLink "PlaneNetModel" 90 (⟨"PlaneNetModel", "part", "(IIII)V"⟩ : MethodName)) ∈ TT := mem_TT (List.mem_of_getElem? (i := 991) (by decide +kernel)) (by decide +kernel)
theorem wd_993 : (Cond.instanceMethod (⟨"PlaneNetModel", "part", "(IIII)V"⟩ : MethodName)) ∈ TT := mem_TT (List.mem_of_getElem? (i := 993) (by decide +kernel)) (by decide +kernel)
theorem wd_994 : (Cond.code (⟨"PlaneNetModel", "part", "(IIII)V"⟩ : MethodName) prog_9_method_12_code 9 (Option.none : Option ClassFile.FieldType)) ∈ TT := mem_TT (List.mem_of_getElem? (i := 994) (by decide +kernel)) (by decide +kernel)
theorem wd_995 : (Cond.methodLink "PlaneNetModel" 86 (⟨"PlaneNetModel", "product", "(JJ)V"⟩ : MethodName)) ∈ TT := mem_TT (List.mem_of_getElem? (i := 995) (by decide +kernel)) (by decide +kernel)
theorem wd_997 : (Cond.instanceMethod (⟨"PlaneNetModel", "product", "(JJ)V"⟩ : MethodName)) ∈ TT := mem_TT (List.mem_of_getElem? (i := 997) (by decide +kernel)) (by decide +kernel)
theorem wd_998 : (Cond.code (⟨"PlaneNetModel", "product", "(JJ)V"⟩ : MethodName) prog_9_method_10_code 17 (Option.none : Option ClassFile.FieldType)) ∈ TT := mem_TT (List.mem_of_getElem? (i := 998) (by decide +kernel)) (by decide +kernel)
theorem wd_999 : (Cond.constantLong "PlaneNetModel" 68 2097151) ∈ TT := mem_TT (List.mem_of_getElem? (i := 999) (by decide +kernel)) (by decide +kernel)
theorem wd_1000 : (Cond.methodLink "PlaneNetModel" 94 (⟨"PlaneNetModel", "signOfSum", "()I"⟩ : MethodName)) ∈ TT := mem_TT (List.mem_of_getElem? (i := 1000) (by decide +kernel)) (by decide +kernel)
theorem wd_1002 : (Cond.instanceMethod (⟨"PlaneNetModel", "signOfSum", "()I"⟩ : MethodName)) ∈ TT := mem_TT (List.mem_of_getElem? (i := 1002) (by decide +kernel)) (by decide +kernel)
theorem wd_1003 : (Cond.code (⟨"PlaneNetModel", "signOfSum", "()I"⟩ : MethodName) prog_9_method_11_code 1 (Option.some .int)) ∈ TT := mem_TT (List.mem_of_getElem? (i := 1003) (by decide +kernel)) (by decide +kernel)
theorem wd_1004 : (Cond.methodLink "PlaneNetModel" 159 (⟨"PlaneNetModel", "findCell", "(III)V"⟩ : MethodName)) ∈ TT := mem_TT (List.mem_of_getElem? (i := 1004) (by decide +kernel)) (by decide +kernel)
theorem wd_1006 : (Cond.instanceMethod (⟨"PlaneNetModel", "findCell", "(III)V"⟩ : MethodName)) ∈ TT := mem_TT (List.mem_of_getElem? (i := 1006) (by decide +kernel)) (by decide +kernel)
theorem wd_1007 : (Cond.code (⟨"PlaneNetModel", "findCell", "(III)V"⟩ : MethodName) prog_9_method_25_code 8 (Option.none : Option ClassFile.FieldType)) ∈ TT := mem_TT (List.mem_of_getElem? (i := 1007) (by decide +kernel)) (by decide +kernel)
theorem wd_1008 : (Cond.methodLink "PlaneNetModel" 146 (⟨"PlaneNetModel", "isCelled", "(I)Z"⟩ : MethodName)) ∈ TT := mem_TT (List.mem_of_getElem? (i := 1008) (by decide +kernel)) (by decide +kernel)
theorem wd_1010 : (Cond.instanceMethod (⟨"PlaneNetModel", "isCelled", "(I)Z"⟩ : MethodName)) ∈ TT := mem_TT (List.mem_of_getElem? (i := 1010) (by decide +kernel)) (by decide +kernel)
theorem wd_1011 : (Cond.code (⟨"PlaneNetModel", "isCelled", "(I)Z"⟩ : MethodName) prog_9_method_24_code 4 (Option.some .boolean)) ∈ TT := mem_TT (List.mem_of_getElem? (i := 1011) (by decide +kernel)) (by decide +kernel)
theorem wd_1012 : (Cond.methodLink "PlaneNetModel" 163 (⟨"PlaneNetModel", "tell", "(III)V"⟩ : MethodName)) ∈ TT := mem_TT (List.mem_of_getElem? (i := 1012) (by decide +kernel)) (by decide +kernel)
theorem wd_1014 : (Cond.instanceMethod (⟨"PlaneNetModel", "tell", "(III)V"⟩ : MethodName)) ∈ TT := mem_TT (List.mem_of_getElem? (i := 1014) (by decide +kernel)) (by decide +kernel)
theorem wd_1015 : (Cond.code (⟨"PlaneNetModel", "tell", "(III)V"⟩ : MethodName) prog_9_method_27_code 6 (Option.none : Option ClassFile.FieldType)) ∈ TT := mem_TT (List.mem_of_getElem? (i := 1015) (by decide +kernel)) (by decide +kernel)
theorem wd_1016 : (Cond.methodLink "PlaneNetModel" 183 (⟨"PlaneNetModel", "sort", "()V"⟩ : MethodName)) ∈ TT := mem_TT (List.mem_of_getElem? (i := 1016) (by decide +kernel)) (by decide +kernel)
theorem wd_1018 : (Cond.instanceMethod (⟨"PlaneNetModel", "sort", "()V"⟩ : MethodName)) ∈ TT := mem_TT (List.mem_of_getElem? (i := 1018) (by decide +kernel)) (by decide +kernel)
theorem wd_1019 : (Cond.code (⟨"PlaneNetModel", "sort", "()V"⟩ : MethodName) prog_9_method_31_code 3 (Option.none : Option ClassFile.FieldType)) ∈ TT := mem_TT (List.mem_of_getElem? (i := 1019) (by decide +kernel)) (by decide +kernel)
theorem wd_1020 : (Cond.methodLink "PlaneNetModel" 166 (⟨"PlaneNetModel", "isBefore", "(II)Z"⟩ : MethodName)) ∈ TT := mem_TT (List.mem_of_getElem? (i := 1020) (by decide +kernel)) (by decide +kernel)
theorem wd_1022 : (Cond.instanceMethod (⟨"PlaneNetModel", "isBefore", "(II)Z"⟩ : MethodName)) ∈ TT := mem_TT (List.mem_of_getElem? (i := 1022) (by decide +kernel)) (by decide +kernel)
theorem wd_1023 : (Cond.code (⟨"PlaneNetModel", "isBefore", "(II)Z"⟩ : MethodName) prog_9_method_29_code 3 (Option.some .boolean)) ∈ TT := mem_TT (List.mem_of_getElem? (i := 1023) (by decide +kernel)) (by decide +kernel)
theorem wd_1024 : (Cond.methodLink "PlaneNetModel" 169 (⟨"PlaneNetModel", "swap", "(I)V"⟩ : MethodName)) ∈ TT := mem_TT (List.mem_of_getElem? (i := 1024) (by decide +kernel)) (by decide +kernel)
theorem wd_1026 : (Cond.instanceMethod (⟨"PlaneNetModel", "swap", "(I)V"⟩ : MethodName)) ∈ TT := mem_TT (List.mem_of_getElem? (i := 1026) (by decide +kernel)) (by decide +kernel)
theorem wd_1027 : (Cond.code (⟨"PlaneNetModel", "swap", "(I)V"⟩ : MethodName) prog_9_method_30_code 5 (Option.none : Option ClassFile.FieldType)) ∈ TT := mem_TT (List.mem_of_getElem? (i := 1027) (by decide +kernel)) (by decide +kernel)
theorem wd_1031 : (Cond.code (⟨"PlaneNetModel", "corner", "(I)I"⟩ : MethodName) prog_9_method_34_code 2 (Option.some .int)) ∈ TT := mem_TT (List.mem_of_getElem? (i := 1031) (by decide +kernel)) (by decide +kernel)
theorem wd_1035 : (Cond.code (⟨"PlaneNetModel", "neighbours", "(I)I"⟩ : MethodName) prog_9_method_40_code 2 (Option.some .int)) ∈ TT := mem_TT (List.mem_of_getElem? (i := 1035) (by decide +kernel)) (by decide +kernel)
theorem wd_1036 : (Cond.methodLink "PlaneNetModel" 205 (⟨"PlaneNetModel", "findNeighbours", "(I)V"⟩ : MethodName)) ∈ TT := mem_TT (List.mem_of_getElem? (i := 1036) (by decide +kernel)) (by decide +kernel)
theorem wd_1038 : (Cond.instanceMethod (⟨"PlaneNetModel", "findNeighbours", "(I)V"⟩ : MethodName)) ∈ TT := mem_TT (List.mem_of_getElem? (i := 1038) (by decide +kernel)) (by decide +kernel)
theorem wd_1039 : (Cond.code (⟨"PlaneNetModel", "findNeighbours", "(I)V"⟩ : MethodName) prog_9_method_39_code 5 (Option.none : Option ClassFile.FieldType)) ∈ TT := mem_TT (List.mem_of_getElem? (i := 1039) (by decide +kernel)) (by decide +kernel)
theorem wd_1040 : (Cond.methodLink "PlaneNetModel" 199 (⟨"PlaneNetModel", "areNeighbours", "(II)Z"⟩ : MethodName)) ∈ TT := mem_TT (List.mem_of_getElem? (i := 1040) (by decide +kernel)) (by decide +kernel)
theorem wd_1042 : (Cond.instanceMethod (⟨"PlaneNetModel", "areNeighbours", "(II)Z"⟩ : MethodName)) ∈ TT := mem_TT (List.mem_of_getElem? (i := 1042) (by decide +kernel)) (by decide +kernel)
theorem wd_1043 : (Cond.code (⟨"PlaneNetModel", "areNeighbours", "(II)Z"⟩ : MethodName) prog_9_method_37_code 5 (Option.some .boolean)) ∈ TT := mem_TT (List.mem_of_getElem? (i := 1043) (by decide +kernel)) (by decide +kernel)
theorem wd_1044 : (Cond.methodLink "PlaneNetModel" 189 (⟨"PlaneNetModel", "isOn", "(IIII)Z"⟩ : MethodName)) ∈ TT := mem_TT (List.mem_of_getElem? (i := 1044) (by decide +kernel)) (by decide +kernel)
theorem wd_1046 : (Cond.instanceMethod (⟨"PlaneNetModel", "isOn", "(IIII)Z"⟩ : MethodName)) ∈ TT := mem_TT (List.mem_of_getElem? (i := 1046) (by decide +kernel)) (by decide +kernel)
theorem wd_1047 : (Cond.code (⟨"PlaneNetModel", "isOn", "(IIII)Z"⟩ : MethodName) prog_9_method_36_code 7 (Option.some .boolean)) ∈ TT := mem_TT (List.mem_of_getElem? (i := 1047) (by decide +kernel)) (by decide +kernel)
theorem wd_1048 : (Cond.methodLink "PlaneNetModel" 193 (⟨"PlaneNetModel", "isIn", "(II)Z"⟩ : MethodName)) ∈ TT := mem_TT (List.mem_of_getElem? (i := 1048) (by decide +kernel)) (by decide +kernel)
theorem wd_1050 : (Cond.instanceMethod (⟨"PlaneNetModel", "isIn", "(II)Z"⟩ : MethodName)) ∈ TT := mem_TT (List.mem_of_getElem? (i := 1050) (by decide +kernel)) (by decide +kernel)
theorem wd_1051 : (Cond.code (⟨"PlaneNetModel", "isIn", "(II)Z"⟩ : MethodName) prog_9_method_35_code 3 (Option.some .boolean)) ∈ TT := mem_TT (List.mem_of_getElem? (i := 1051) (by decide +kernel)) (by decide +kernel)
theorem wd_1052 : (Cond.methodLink "PlaneNetModel" 202 (⟨"PlaneNetModel", "isSooner", "(IIII)Z"⟩ : MethodName)) ∈ TT := mem_TT (List.mem_of_getElem? (i := 1052) (by decide +kernel)) (by decide +kernel)
theorem wd_1054 : (Cond.instanceMethod (⟨"PlaneNetModel", "isSooner", "(IIII)Z"⟩ : MethodName)) ∈ TT := mem_TT (List.mem_of_getElem? (i := 1054) (by decide +kernel)) (by decide +kernel)
theorem wd_1055 : (Cond.code (⟨"PlaneNetModel", "isSooner", "(IIII)Z"⟩ : MethodName) prog_9_method_38_code 19 (Option.some .boolean)) ∈ TT := mem_TT (List.mem_of_getElem? (i := 1055) (by decide +kernel)) (by decide +kernel)
theorem wd_1059 : (Cond.code (⟨"PlaneNetModel", "neighbour", "(II)I"⟩ : MethodName) prog_9_method_41_code 3 (Option.some .int)) ∈ TT := mem_TT (List.mem_of_getElem? (i := 1059) (by decide +kernel)) (by decide +kernel)
theorem wd_1063 : (Cond.code (⟨"PlaneNetModel", "locate", "(II)I"⟩ : MethodName) prog_9_method_43_code 6 (Option.some .int)) ∈ TT := mem_TT (List.mem_of_getElem? (i := 1063) (by decide +kernel)) (by decide +kernel)
theorem wd_1064 : (Cond.methodLink "PlaneNetModel" 208 (⟨"PlaneNetModel", "found", "(IIII)I"⟩ : MethodName)) ∈ TT := mem_TT (List.mem_of_getElem? (i := 1064) (by decide +kernel)) (by decide +kernel)
theorem wd_1066 : (Cond.instanceMethod (⟨"PlaneNetModel", "found", "(IIII)I"⟩ : MethodName)) ∈ TT := mem_TT (List.mem_of_getElem? (i := 1066) (by decide +kernel)) (by decide +kernel)
theorem wd_1067 : (Cond.code (⟨"PlaneNetModel", "found", "(IIII)I"⟩ : MethodName) prog_9_method_42_code 5 (Option.some .int)) ∈ TT := mem_TT (List.mem_of_getElem? (i := 1067) (by decide +kernel)) (by decide +kernel)
theorem wd_1071 : (Cond.code (⟨"PlaneNetModel", "located", "(I)I"⟩ : MethodName) prog_9_method_44_code 2 (Option.some .int)) ∈ TT := mem_TT (List.mem_of_getElem? (i := 1071) (by decide +kernel)) (by decide +kernel)
theorem wd_1075 : (Cond.code (⟨"PlaneNetModel", "nearest", "(II)I"⟩ : MethodName) prog_9_method_45_code 5 (Option.some .int)) ∈ TT := mem_TT (List.mem_of_getElem? (i := 1075) (by decide +kernel)) (by decide +kernel)
theorem wd_1079 : (Cond.code (⟨"PlaneNetModel", "closest", "(I)J"⟩ : MethodName) prog_9_method_46_code 6 (Option.some .long)) ∈ TT := mem_TT (List.mem_of_getElem? (i := 1079) (by decide +kernel)) (by decide +kernel)
theorem wd_1083 : (Cond.code (⟨"PlaneNetModel", "point", "(II)I"⟩ : MethodName) prog_9_method_47_code 3 (Option.some .int)) ∈ TT := mem_TT (List.mem_of_getElem? (i := 1083) (by decide +kernel)) (by decide +kernel)
theorem wd_1087 : (Cond.code (⟨"PlaneNetModel", "count", "(I)I"⟩ : MethodName) prog_9_method_48_code 2 (Option.some .int)) ∈ TT := mem_TT (List.mem_of_getElem? (i := 1087) (by decide +kernel)) (by decide +kernel)
abbrev b_Rw_reach : ByteArray := prog_6_method_2_code
def y_Rw_reach : MethodName := ⟨R_Rw, "reach", "(I)V"⟩
def w_Rw_reach : List Cond := .code y_Rw_reach b_Rw_reach 2 none :: TT
def rm_Rw_reach : Room := { frames := 0, cells := 1, slots := 32, locals := 0 }
theorem gd_Rw_reach {h : Cond} : GoodIn (h :: TT) w_Rw_reach := gd_of wd_540
theorem dd_Rw_reach : y_Rw_reach.cls ≠ "java/lang/invoke/MethodHandle" ∧ y_Rw_reach.cls ≠ "java/lang/invoke/VarHandle" ∧ (parseMethodDescriptor y_Rw_reach.desc).map (fun d => d.parameters.length) = some 1 := ⟨by decide +kernel, by decide +kernel, by decide +kernel⟩
abbrev b_Rw_get : ByteArray := prog_6_method_3_code
def y_Rw_get : MethodName := ⟨R_Rw, "get", "(I)I"⟩
def w_Rw_get : List Cond := .code y_Rw_get b_Rw_get 4 (some .int) :: TT
def rm_Rw_get : Room := { frames := 0, cells := 0, slots := 0, locals := 0 }
theorem gd_Rw_get {h : Cond} : GoodIn (h :: TT) w_Rw_get := gd_of wd_342
theorem dd_Rw_get : y_Rw_get.cls ≠ "java/lang/invoke/MethodHandle" ∧ y_Rw_get.cls ≠ "java/lang/invoke/VarHandle" ∧ (parseMethodDescriptor y_Rw_get.desc).map (fun d => d.parameters.length) = some 1 := ⟨by decide +kernel, by decide +kernel, by decide +kernel⟩
abbrev b_Rw_put : ByteArray := prog_6_method_4_code
def y_Rw_put : MethodName := ⟨R_Rw, "put", "(II)V"⟩
def w_Rw_put : List Cond := .code y_Rw_put b_Rw_put 5 none :: TT
def rm_Rw_put : Room := { frames := 0, cells := 0, slots := 0, locals := 0 }
theorem gd_Rw_put {h : Cond} : GoodIn (h :: TT) w_Rw_put := gd_of wd_363
theorem dd_Rw_put : y_Rw_put.cls ≠ "java/lang/invoke/MethodHandle" ∧ y_Rw_put.cls ≠ "java/lang/invoke/VarHandle" ∧ (parseMethodDescriptor y_Rw_put.desc).map (fun d => d.parameters.length) = some 2 := ⟨by decide +kernel, by decide +kernel, by decide +kernel⟩
abbrev b_Pn_checkPlace : ByteArray := prog_1_method_15_code
def y_Pn_checkPlace : MethodName := ⟨R_Pn, "checkPlace", "(II)V"⟩
def w_Pn_checkPlace : List Cond := .code y_Pn_checkPlace b_Pn_checkPlace 2 none :: TT
def rm_Pn_checkPlace : Room := { frames := 0, cells := 0, slots := 0, locals := 0 }
theorem gd_Pn_checkPlace {h : Cond} : GoodIn (h :: TT) w_Pn_checkPlace := gd_of wd_426
theorem dd_Pn_checkPlace : y_Pn_checkPlace.cls ≠ "java/lang/invoke/MethodHandle" ∧ y_Pn_checkPlace.cls ≠ "java/lang/invoke/VarHandle" ∧ (parseMethodDescriptor y_Pn_checkPlace.desc).map (fun d => d.parameters.length) = some 2 := ⟨by decide +kernel, by decide +kernel, by decide +kernel⟩
abbrev b_Pt_gap : ByteArray := prog_4_method_11_code
def y_Pt_gap : MethodName := ⟨R_Pt, "gap", "(III)J"⟩
def w_Pt_gap : List Cond := .code y_Pt_gap b_Pt_gap 8 (some .long) :: TT
def rm_Pt_gap : Room := { frames := 1, cells := 0, slots := 0, locals := 23 }
theorem gd_Pt_gap {h : Cond} : GoodIn (h :: TT) w_Pt_gap := gd_of wd_504
theorem dd_Pt_gap : y_Pt_gap.cls ≠ "java/lang/invoke/MethodHandle" ∧ y_Pt_gap.cls ≠ "java/lang/invoke/VarHandle" ∧ (parseMethodDescriptor y_Pt_gap.desc).map (fun d => d.parameters.length) = some 3 := ⟨by decide +kernel, by decide +kernel, by decide +kernel⟩
abbrev b_Pt_nearestOf : ByteArray := prog_4_method_12_code
def y_Pt_nearestOf : MethodName := ⟨R_Pt, "nearestOf", "(III)I"⟩
def w_Pt_nearestOf : List Cond := .code y_Pt_nearestOf b_Pt_nearestOf 10 (some .int) :: TT
def rm_Pt_nearestOf : Room := { frames := 2, cells := 0, slots := 0, locals := 50 }
theorem gd_Pt_nearestOf {h : Cond} : GoodIn (h :: TT) w_Pt_nearestOf := gd_of wd_500
theorem dd_Pt_nearestOf : y_Pt_nearestOf.cls ≠ "java/lang/invoke/MethodHandle" ∧ y_Pt_nearestOf.cls ≠ "java/lang/invoke/VarHandle" ∧ (parseMethodDescriptor y_Pt_nearestOf.desc).map (fun d => d.parameters.length) = some 3 := ⟨by decide +kernel, by decide +kernel, by decide +kernel⟩
abbrev b_Pt_isAt : ByteArray := prog_4_method_7_code
def y_Pt_isAt : MethodName := ⟨R_Pt, "isAt", "(III)Z"⟩
def w_Pt_isAt : List Cond := .code y_Pt_isAt b_Pt_isAt 4 (some .boolean) :: TT
def rm_Pt_isAt : Room := { frames := 1, cells := 0, slots := 0, locals := 23 }
theorem gd_Pt_isAt {h : Cond} : GoodIn (h :: TT) w_Pt_isAt := gd_of wd_508
theorem dd_Pt_isAt : y_Pt_isAt.cls ≠ "java/lang/invoke/MethodHandle" ∧ y_Pt_isAt.cls ≠ "java/lang/invoke/VarHandle" ∧ (parseMethodDescriptor y_Pt_isAt.desc).map (fun d => d.parameters.length) = some 3 := ⟨by decide +kernel, by decide +kernel, by decide +kernel⟩
abbrev b_Pt_isFull : ByteArray := prog_4_method_2_code
def y_Pt_isFull : MethodName := ⟨R_Pt, "isFull", "()Z"⟩
def w_Pt_isFull : List Cond := .code y_Pt_isFull b_Pt_isFull 1 (some .boolean) :: TT
def rm_Pt_isFull : Room := { frames := 0, cells := 0, slots := 0, locals := 0 }
theorem gd_Pt_isFull {h : Cond} : GoodIn (h :: TT) w_Pt_isFull := gd_of wd_512
theorem dd_Pt_isFull : y_Pt_isFull.cls ≠ "java/lang/invoke/MethodHandle" ∧ y_Pt_isFull.cls ≠ "java/lang/invoke/VarHandle" ∧ (parseMethodDescriptor y_Pt_isFull.desc).map (fun d => d.parameters.length) = some 0 := ⟨by decide +kernel, by decide +kernel, by decide +kernel⟩
abbrev b_Pt_makeRoom : ByteArray := prog_4_method_3_code
def y_Pt_makeRoom : MethodName := ⟨R_Pt, "makeRoom", "(I)V"⟩
def w_Pt_makeRoom : List Cond := .code y_Pt_makeRoom b_Pt_makeRoom 2 none :: TT
def rm_Pt_makeRoom : Room := { frames := 1, cells := 2, slots := 64, locals := 21 }
theorem gd_Pt_makeRoom {h : Cond} : GoodIn (h :: TT) w_Pt_makeRoom := gd_of wd_536
theorem dd_Pt_makeRoom : y_Pt_makeRoom.cls ≠ "java/lang/invoke/MethodHandle" ∧ y_Pt_makeRoom.cls ≠ "java/lang/invoke/VarHandle" ∧ (parseMethodDescriptor y_Pt_makeRoom.desc).map (fun d => d.parameters.length) = some 1 := ⟨by decide +kernel, by decide +kernel, by decide +kernel⟩
abbrev b_Nt_makeRoom : ByteArray := prog_2_method_9_code
def y_Nt_makeRoom : MethodName := ⟨R_Nt, "makeRoom", "(I)V"⟩
def w_Nt_makeRoom : List Cond := .code y_Nt_makeRoom b_Nt_makeRoom 2 none :: TT
def rm_Nt_makeRoom : Room := { frames := 1, cells := 6, slots := 192, locals := 21 }
theorem gd_Nt_makeRoom {h : Cond} : GoodIn (h :: TT) w_Nt_makeRoom := gd_of wd_544
theorem dd_Nt_makeRoom : y_Nt_makeRoom.cls ≠ "java/lang/invoke/MethodHandle" ∧ y_Nt_makeRoom.cls ≠ "java/lang/invoke/VarHandle" ∧ (parseMethodDescriptor y_Nt_makeRoom.desc).map (fun d => d.parameters.length) = some 1 := ⟨by decide +kernel, by decide +kernel, by decide +kernel⟩
abbrev b_Rl_makeRoom : ByteArray := prog_5_method_2_code
def y_Rl_makeRoom : MethodName := ⟨R_Rl, "makeRoom", "(I)V"⟩
def w_Rl_makeRoom : List Cond := .code y_Rl_makeRoom b_Rl_makeRoom 2 none :: TT
def rm_Rl_makeRoom : Room := { frames := 1, cells := 3, slots := 96, locals := 21 }
theorem gd_Rl_makeRoom {h : Cond} : GoodIn (h :: TT) w_Rl_makeRoom := gd_of wd_549
theorem dd_Rl_makeRoom : y_Rl_makeRoom.cls ≠ "java/lang/invoke/MethodHandle" ∧ y_Rl_makeRoom.cls ≠ "java/lang/invoke/VarHandle" ∧ (parseMethodDescriptor y_Rl_makeRoom.desc).map (fun d => d.parameters.length) = some 1 := ⟨by decide +kernel, by decide +kernel, by decide +kernel⟩
abbrev b_Ol_makeRoom : ByteArray := prog_3_method_2_code
def y_Ol_makeRoom : MethodName := ⟨R_Ol, "makeRoom", "(I)V"⟩
def w_Ol_makeRoom : List Cond := .code y_Ol_makeRoom b_Ol_makeRoom 2 none :: TT
def rm_Ol_makeRoom : Room := { frames := 1, cells := 1, slots := 32, locals := 21 }
theorem gd_Ol_makeRoom {h : Cond} : GoodIn (h :: TT) w_Ol_makeRoom := gd_of wd_554
theorem dd_Ol_makeRoom : y_Ol_makeRoom.cls ≠ "java/lang/invoke/MethodHandle" ∧ y_Ol_makeRoom.cls ≠ "java/lang/invoke/VarHandle" ∧ (parseMethodDescriptor y_Ol_makeRoom.desc).map (fun d => d.parameters.length) = some 1 := ⟨by decide +kernel, by decide +kernel, by decide +kernel⟩
abbrev b_Pn_makeRoom : ByteArray := prog_1_method_17_code
def y_Pn_makeRoom : MethodName := ⟨R_Pn, "makeRoom", "(I)V"⟩
def w_Pn_makeRoom : List Cond := .code y_Pn_makeRoom b_Pn_makeRoom 2 none :: TT
def rm_Pn_makeRoom : Room := { frames := 2, cells := 12, slots := 384, locals := 42 }
theorem gd_Pn_makeRoom {h : Cond} : GoodIn (h :: TT) w_Pn_makeRoom := gd_of wd_532
theorem dd_Pn_makeRoom : y_Pn_makeRoom.cls ≠ "java/lang/invoke/MethodHandle" ∧ y_Pn_makeRoom.cls ≠ "java/lang/invoke/VarHandle" ∧ (parseMethodDescriptor y_Pn_makeRoom.desc).map (fun d => d.parameters.length) = some 1 := ⟨by decide +kernel, by decide +kernel, by decide +kernel⟩
abbrev b_Pt_append : ByteArray := prog_4_method_4_code
def y_Pt_append : MethodName := ⟨R_Pt, "append", "(II)I"⟩
def w_Pt_append : List Cond := .code y_Pt_append b_Pt_append 4 (some .int) :: TT
def rm_Pt_append : Room := { frames := 1, cells := 0, slots := 0, locals := 24 }
theorem gd_Pt_append {h : Cond} : GoodIn (h :: TT) w_Pt_append := gd_of wd_559
theorem dd_Pt_append : y_Pt_append.cls ≠ "java/lang/invoke/MethodHandle" ∧ y_Pt_append.cls ≠ "java/lang/invoke/VarHandle" ∧ (parseMethodDescriptor y_Pt_append.desc).map (fun d => d.parameters.length) = some 2 := ⟨by decide +kernel, by decide +kernel, by decide +kernel⟩
abbrev b_Pt_x : ByteArray := prog_4_method_5_code
def y_Pt_x : MethodName := ⟨R_Pt, "x", "(I)I"⟩
def w_Pt_x : List Cond := .code y_Pt_x b_Pt_x 2 (some .int) :: TT
def rm_Pt_x : Room := { frames := 1, cells := 0, slots := 0, locals := 23 }
theorem gd_Pt_x {h : Cond} : GoodIn (h :: TT) w_Pt_x := gd_of wd_403
theorem dd_Pt_x : y_Pt_x.cls ≠ "java/lang/invoke/MethodHandle" ∧ y_Pt_x.cls ≠ "java/lang/invoke/VarHandle" ∧ (parseMethodDescriptor y_Pt_x.desc).map (fun d => d.parameters.length) = some 1 := ⟨by decide +kernel, by decide +kernel, by decide +kernel⟩
abbrev b_Pt_y : ByteArray := prog_4_method_6_code
def y_Pt_y : MethodName := ⟨R_Pt, "y", "(I)I"⟩
def w_Pt_y : List Cond := .code y_Pt_y b_Pt_y 2 (some .int) :: TT
def rm_Pt_y : Room := { frames := 1, cells := 0, slots := 0, locals := 23 }
theorem gd_Pt_y {h : Cond} : GoodIn (h :: TT) w_Pt_y := gd_of wd_407
theorem dd_Pt_y : y_Pt_y.cls ≠ "java/lang/invoke/MethodHandle" ∧ y_Pt_y.cls ≠ "java/lang/invoke/VarHandle" ∧ (parseMethodDescriptor y_Pt_y.desc).map (fun d => d.parameters.length) = some 1 := ⟨by decide +kernel, by decide +kernel, by decide +kernel⟩
abbrev b_Pn_noteClosest : ByteArray := prog_1_method_18_code
def y_Pn_noteClosest : MethodName := ⟨R_Pn, "noteClosest", "(II)V"⟩
def w_Pn_noteClosest : List Cond := .code y_Pn_noteClosest b_Pn_noteClosest 5 none :: TT
def rm_Pn_noteClosest : Room := { frames := 2, cells := 0, slots := 0, locals := 50 }
theorem gd_Pn_noteClosest {h : Cond} : GoodIn (h :: TT) w_Pn_noteClosest := gd_of wd_564
theorem dd_Pn_noteClosest : y_Pn_noteClosest.cls ≠ "java/lang/invoke/MethodHandle" ∧ y_Pn_noteClosest.cls ≠ "java/lang/invoke/VarHandle" ∧ (parseMethodDescriptor y_Pn_noteClosest.desc).map (fun d => d.parameters.length) = some 2 := ⟨by decide +kernel, by decide +kernel, by decide +kernel⟩
abbrev b_Nt_isEmpty : ByteArray := prog_2_method_3_code
def y_Nt_isEmpty : MethodName := ⟨R_Nt, "isEmpty", "()Z"⟩
def w_Nt_isEmpty : List Cond := .code y_Nt_isEmpty b_Nt_isEmpty 1 (some .boolean) :: TT
def rm_Nt_isEmpty : Room := { frames := 0, cells := 0, slots := 0, locals := 0 }
theorem gd_Nt_isEmpty {h : Cond} : GoodIn (h :: TT) w_Nt_isEmpty := gd_of wd_325
theorem dd_Nt_isEmpty : y_Nt_isEmpty.cls ≠ "java/lang/invoke/MethodHandle" ∧ y_Nt_isEmpty.cls ≠ "java/lang/invoke/VarHandle" ∧ (parseMethodDescriptor y_Nt_isEmpty.desc).map (fun d => d.parameters.length) = some 0 := ⟨by decide +kernel, by decide +kernel, by decide +kernel⟩
abbrev b_Pt_turn : ByteArray := prog_4_method_15_code
def y_Pt_turn : MethodName := ⟨R_Pt, "turn", "(IIII)J"⟩
def w_Pt_turn : List Cond := .code y_Pt_turn b_Pt_turn 13 (some .long) :: TT
def rm_Pt_turn : Room := { frames := 1, cells := 0, slots := 0, locals := 23 }
theorem gd_Pt_turn {h : Cond} : GoodIn (h :: TT) w_Pt_turn := gd_of wd_411
theorem dd_Pt_turn : y_Pt_turn.cls ≠ "java/lang/invoke/MethodHandle" ∧ y_Pt_turn.cls ≠ "java/lang/invoke/VarHandle" ∧ (parseMethodDescriptor y_Pt_turn.desc).map (fun d => d.parameters.length) = some 4 := ⟨by decide +kernel, by decide +kernel, by decide +kernel⟩
abbrev b_Nt_placeOf : ByteArray := prog_2_method_12_code
def y_Nt_placeOf : MethodName := ⟨R_Nt, "placeOf", "(I)I"⟩
def w_Nt_placeOf : List Cond := .code y_Nt_placeOf b_Nt_placeOf 2 (some .int) :: TT
def rm_Nt_placeOf : Room := { frames := 0, cells := 0, slots := 0, locals := 0 }
theorem gd_Nt_placeOf {h : Cond} : GoodIn (h :: TT) w_Nt_placeOf := gd_of wd_375
theorem dd_Nt_placeOf : y_Nt_placeOf.cls ≠ "java/lang/invoke/MethodHandle" ∧ y_Nt_placeOf.cls ≠ "java/lang/invoke/VarHandle" ∧ (parseMethodDescriptor y_Nt_placeOf.desc).map (fun d => d.parameters.length) = some 1 := ⟨by decide +kernel, by decide +kernel, by decide +kernel⟩
abbrev b_Nt_setTriangle : ByteArray := prog_2_method_11_code
def y_Nt_setTriangle : MethodName := ⟨R_Nt, "setTriangle", "(IIII)V"⟩
def w_Nt_setTriangle : List Cond := .code y_Nt_setTriangle b_Nt_setTriangle 6 none :: TT
def rm_Nt_setTriangle : Room := { frames := 1, cells := 0, slots := 0, locals := 24 }
theorem gd_Nt_setTriangle {h : Cond} : GoodIn (h :: TT) w_Nt_setTriangle := gd_of wd_581
theorem dd_Nt_setTriangle : y_Nt_setTriangle.cls ≠ "java/lang/invoke/MethodHandle" ∧ y_Nt_setTriangle.cls ≠ "java/lang/invoke/VarHandle" ∧ (parseMethodDescriptor y_Nt_setTriangle.desc).map (fun d => d.parameters.length) = some 4 := ⟨by decide +kernel, by decide +kernel, by decide +kernel⟩
abbrev b_Nt_join : ByteArray := prog_2_method_13_code
def y_Nt_join : MethodName := ⟨R_Nt, "join", "(II)V"⟩
def w_Nt_join : List Cond := .code y_Nt_join b_Nt_join 3 none :: TT
def rm_Nt_join : Room := { frames := 1, cells := 0, slots := 0, locals := 24 }
theorem gd_Nt_join {h : Cond} : GoodIn (h :: TT) w_Nt_join := gd_of wd_586
theorem dd_Nt_join : y_Nt_join.cls ≠ "java/lang/invoke/MethodHandle" ∧ y_Nt_join.cls ≠ "java/lang/invoke/VarHandle" ∧ (parseMethodDescriptor y_Nt_join.desc).map (fun d => d.parameters.length) = some 2 := ⟨by decide +kernel, by decide +kernel, by decide +kernel⟩
abbrev b_Nt_begin : ByteArray := prog_2_method_10_code
def y_Nt_begin : MethodName := ⟨R_Nt, "begin", "(III)V"⟩
def w_Nt_begin : List Cond := .code y_Nt_begin b_Nt_begin 4 none :: TT
def rm_Nt_begin : Room := { frames := 2, cells := 0, slots := 0, locals := 49 }
theorem gd_Nt_begin {h : Cond} : GoodIn (h :: TT) w_Nt_begin := gd_of wd_577
theorem dd_Nt_begin : y_Nt_begin.cls ≠ "java/lang/invoke/MethodHandle" ∧ y_Nt_begin.cls ≠ "java/lang/invoke/VarHandle" ∧ (parseMethodDescriptor y_Nt_begin.desc).map (fun d => d.parameters.length) = some 3 := ⟨by decide +kernel, by decide +kernel, by decide +kernel⟩
abbrev b_Nt_isOuter : ByteArray := prog_2_method_19_code
def y_Nt_isOuter : MethodName := ⟨R_Nt, "isOuter", "(I)Z"⟩
def w_Nt_isOuter : List Cond := .code y_Nt_isOuter b_Nt_isOuter 3 (some .boolean) :: TT
def rm_Nt_isOuter : Room := { frames := 1, cells := 0, slots := 0, locals := 23 }
theorem gd_Nt_isOuter {h : Cond} : GoodIn (h :: TT) w_Nt_isOuter := gd_of wd_600
theorem dd_Nt_isOuter : y_Nt_isOuter.cls ≠ "java/lang/invoke/MethodHandle" ∧ y_Nt_isOuter.cls ≠ "java/lang/invoke/VarHandle" ∧ (parseMethodDescriptor y_Nt_isOuter.desc).map (fun d => d.parameters.length) = some 1 := ⟨by decide +kernel, by decide +kernel, by decide +kernel⟩
abbrev b_Nt_ahead : ByteArray := prog_2_method_2_code
def y_Nt_ahead : MethodName := ⟨R_Nt, "ahead", "(II)I"⟩
def w_Nt_ahead : List Cond := .code y_Nt_ahead b_Nt_ahead 3 (some .int) :: TT
def rm_Nt_ahead : Room := { frames := 0, cells := 0, slots := 0, locals := 0 }
theorem gd_Nt_ahead {h : Cond} : GoodIn (h :: TT) w_Nt_ahead := gd_of wd_383
theorem dd_Nt_ahead : y_Nt_ahead.cls ≠ "java/lang/invoke/MethodHandle" ∧ y_Nt_ahead.cls ≠ "java/lang/invoke/VarHandle" ∧ (parseMethodDescriptor y_Nt_ahead.desc).map (fun d => d.parameters.length) = some 2 := ⟨by decide +kernel, by decide +kernel, by decide +kernel⟩
abbrev b_Nt_baseOf : ByteArray := prog_2_method_20_code
def y_Nt_baseOf : MethodName := ⟨R_Nt, "baseOf", "(I)I"⟩
def w_Nt_baseOf : List Cond := .code y_Nt_baseOf b_Nt_baseOf 4 (some .int) :: TT
def rm_Nt_baseOf : Room := { frames := 1, cells := 0, slots := 0, locals := 23 }
theorem gd_Nt_baseOf {h : Cond} : GoodIn (h :: TT) w_Nt_baseOf := gd_of wd_604
theorem dd_Nt_baseOf : y_Nt_baseOf.cls ≠ "java/lang/invoke/MethodHandle" ∧ y_Nt_baseOf.cls ≠ "java/lang/invoke/VarHandle" ∧ (parseMethodDescriptor y_Nt_baseOf.desc).map (fun d => d.parameters.length) = some 1 := ⟨by decide +kernel, by decide +kernel, by decide +kernel⟩
abbrev b_Nt_startOf : ByteArray := prog_2_method_6_code
def y_Nt_startOf : MethodName := ⟨R_Nt, "startOf", "(I)I"⟩
def w_Nt_startOf : List Cond := .code y_Nt_startOf b_Nt_startOf 2 (some .int) :: TT
def rm_Nt_startOf : Room := { frames := 1, cells := 0, slots := 0, locals := 23 }
theorem gd_Nt_startOf {h : Cond} : GoodIn (h :: TT) w_Nt_startOf := gd_of wd_395
theorem dd_Nt_startOf : y_Nt_startOf.cls ≠ "java/lang/invoke/MethodHandle" ∧ y_Nt_startOf.cls ≠ "java/lang/invoke/VarHandle" ∧ (parseMethodDescriptor y_Nt_startOf.desc).map (fun d => d.parameters.length) = some 1 := ⟨by decide +kernel, by decide +kernel, by decide +kernel⟩
abbrev b_Nt_endOf : ByteArray := prog_2_method_7_code
def y_Nt_endOf : MethodName := ⟨R_Nt, "endOf", "(I)I"⟩
def w_Nt_endOf : List Cond := .code y_Nt_endOf b_Nt_endOf 2 (some .int) :: TT
def rm_Nt_endOf : Room := { frames := 1, cells := 0, slots := 0, locals := 23 }
theorem gd_Nt_endOf {h : Cond} : GoodIn (h :: TT) w_Nt_endOf := gd_of wd_380
theorem dd_Nt_endOf : y_Nt_endOf.cls ≠ "java/lang/invoke/MethodHandle" ∧ y_Nt_endOf.cls ≠ "java/lang/invoke/VarHandle" ∧ (parseMethodDescriptor y_Nt_endOf.desc).map (fun d => d.parameters.length) = some 1 := ⟨by decide +kernel, by decide +kernel, by decide +kernel⟩
abbrev b_Nt_wayOut : ByteArray := prog_2_method_22_code
def y_Nt_wayOut : MethodName := ⟨R_Nt, "wayOut", "(III)I"⟩
def w_Nt_wayOut : List Cond := .code y_Nt_wayOut b_Nt_wayOut 6 (some .int) :: TT
def rm_Nt_wayOut : Room := { frames := 2, cells := 0, slots := 0, locals := 55 }
theorem gd_Nt_wayOut {h : Cond} : GoodIn (h :: TT) w_Nt_wayOut := gd_of wd_608
theorem dd_Nt_wayOut : y_Nt_wayOut.cls ≠ "java/lang/invoke/MethodHandle" ∧ y_Nt_wayOut.cls ≠ "java/lang/invoke/VarHandle" ∧ (parseMethodDescriptor y_Nt_wayOut.desc).map (fun d => d.parameters.length) = some 3 := ⟨by decide +kernel, by decide +kernel, by decide +kernel⟩
abbrev b_Nt_holder : ByteArray := prog_2_method_21_code
def y_Nt_holder : MethodName := ⟨R_Nt, "holder", "(III)I"⟩
def w_Nt_holder : List Cond := .code y_Nt_holder b_Nt_holder 7 (some .int) :: TT
def rm_Nt_holder : Room := { frames := 3, cells := 0, slots := 0, locals := 80 }
theorem gd_Nt_holder {h : Cond} : GoodIn (h :: TT) w_Nt_holder := gd_of wd_596
theorem dd_Nt_holder : y_Nt_holder.cls ≠ "java/lang/invoke/MethodHandle" ∧ y_Nt_holder.cls ≠ "java/lang/invoke/VarHandle" ∧ (parseMethodDescriptor y_Nt_holder.desc).map (fun d => d.parameters.length) = some 3 := ⟨by decide +kernel, by decide +kernel, by decide +kernel⟩
abbrev b_Nt_takeAway : ByteArray := prog_2_method_16_code
def y_Nt_takeAway : MethodName := ⟨R_Nt, "takeAway", "(I)V"⟩
def w_Nt_takeAway : List Cond := .code y_Nt_takeAway b_Nt_takeAway 2 none :: TT
def rm_Nt_takeAway : Room := { frames := 2, cells := 0, slots := 0, locals := 45 }
theorem gd_Nt_takeAway {h : Cond} : GoodIn (h :: TT) w_Nt_takeAway := gd_of wd_618
theorem dd_Nt_takeAway : y_Nt_takeAway.cls ≠ "java/lang/invoke/MethodHandle" ∧ y_Nt_takeAway.cls ≠ "java/lang/invoke/VarHandle" ∧ (parseMethodDescriptor y_Nt_takeAway.desc).map (fun d => d.parameters.length) = some 1 := ⟨by decide +kernel, by decide +kernel, by decide +kernel⟩
abbrev b_Pt_isLess : ByteArray := prog_4_method_8_code
def y_Pt_isLess : MethodName := ⟨R_Pt, "isLess", "(II)Z"⟩
def w_Pt_isLess : List Cond := .code y_Pt_isLess b_Pt_isLess 3 (some .boolean) :: TT
def rm_Pt_isLess : Room := { frames := 1, cells := 0, slots := 0, locals := 23 }
theorem gd_Pt_isLess {h : Cond} : GoodIn (h :: TT) w_Pt_isLess := gd_of wd_346
theorem dd_Pt_isLess : y_Pt_isLess.cls ≠ "java/lang/invoke/MethodHandle" ∧ y_Pt_isLess.cls ≠ "java/lang/invoke/VarHandle" ∧ (parseMethodDescriptor y_Pt_isLess.desc).map (fun d => d.parameters.length) = some 2 := ⟨by decide +kernel, by decide +kernel, by decide +kernel⟩
abbrev b_Nt_isSeen : ByteArray := prog_2_method_18_code
def y_Nt_isSeen : MethodName := ⟨R_Nt, "isSeen", "(II)Z"⟩
def w_Nt_isSeen : List Cond := .code y_Nt_isSeen b_Nt_isSeen 8 (some .boolean) :: TT
def rm_Nt_isSeen : Room := { frames := 2, cells := 0, slots := 0, locals := 55 }
theorem gd_Nt_isSeen {h : Cond} : GoodIn (h :: TT) w_Nt_isSeen := gd_of wd_622
theorem dd_Nt_isSeen : y_Nt_isSeen.cls ≠ "java/lang/invoke/MethodHandle" ∧ y_Nt_isSeen.cls ≠ "java/lang/invoke/VarHandle" ∧ (parseMethodDescriptor y_Nt_isSeen.desc).map (fun d => d.parameters.length) = some 2 := ⟨by decide +kernel, by decide +kernel, by decide +kernel⟩
abbrev b_Wd_reset : ByteArray := prog_7_method_2_code
def y_Wd_reset : MethodName := ⟨R_Wd, "reset", "()V"⟩
def w_Wd_reset : List Cond := .code y_Wd_reset b_Wd_reset 1 none :: TT
def rm_Wd_reset : Room := { frames := 0, cells := 0, slots := 0, locals := 0 }
theorem gd_Wd_reset {h : Cond} : GoodIn (h :: TT) w_Wd_reset := gd_of wd_631
theorem dd_Wd_reset : y_Wd_reset.cls ≠ "java/lang/invoke/MethodHandle" ∧ y_Wd_reset.cls ≠ "java/lang/invoke/VarHandle" ∧ (parseMethodDescriptor y_Wd_reset.desc).map (fun d => d.parameters.length) = some 0 := ⟨by decide +kernel, by decide +kernel, by decide +kernel⟩
abbrev b_Pt_dot : ByteArray := prog_4_method_16_code
def y_Pt_dot : MethodName := ⟨R_Pt, "dot", "(III)J"⟩
def w_Pt_dot : List Cond := .code y_Pt_dot b_Pt_dot 12 (some .long) :: TT
def rm_Pt_dot : Room := { frames := 1, cells := 0, slots := 0, locals := 23 }
theorem gd_Pt_dot {h : Cond} : GoodIn (h :: TT) w_Pt_dot := gd_of wd_636
theorem dd_Pt_dot : y_Pt_dot.cls ≠ "java/lang/invoke/MethodHandle" ∧ y_Pt_dot.cls ≠ "java/lang/invoke/VarHandle" ∧ (parseMethodDescriptor y_Pt_dot.desc).map (fun d => d.parameters.length) = some 3 := ⟨by decide +kernel, by decide +kernel, by decide +kernel⟩
abbrev b_Wd_addProduct : ByteArray := prog_7_method_3_code
def y_Wd_addProduct : MethodName := ⟨R_Wd, "addProduct", "(JJ)V"⟩
def w_Wd_addProduct : List Cond := .code y_Wd_addProduct b_Wd_addProduct 25 none :: TT
def rm_Wd_addProduct : Room := { frames := 0, cells := 0, slots := 0, locals := 0 }
theorem gd_Wd_addProduct {h : Cond} : GoodIn (h :: TT) w_Wd_addProduct := gd_of wd_640
theorem dd_Wd_addProduct : y_Wd_addProduct.cls ≠ "java/lang/invoke/MethodHandle" ∧ y_Wd_addProduct.cls ≠ "java/lang/invoke/VarHandle" ∧ (parseMethodDescriptor y_Wd_addProduct.desc).map (fun d => d.parameters.length) = some 2 := ⟨by decide +kernel, by decide +kernel, by decide +kernel⟩
abbrev b_Wd_sign : ByteArray := prog_7_method_4_code
def y_Wd_sign : MethodName := ⟨R_Wd, "sign", "()I"⟩
def w_Wd_sign : List Cond := .code y_Wd_sign b_Wd_sign 1 (some .int) :: TT
def rm_Wd_sign : Room := { frames := 0, cells := 0, slots := 0, locals := 0 }
theorem gd_Wd_sign {h : Cond} : GoodIn (h :: TT) w_Wd_sign := gd_of wd_646
theorem dd_Wd_sign : y_Wd_sign.cls ≠ "java/lang/invoke/MethodHandle" ∧ y_Wd_sign.cls ≠ "java/lang/invoke/VarHandle" ∧ (parseMethodDescriptor y_Wd_sign.desc).map (fun d => d.parameters.length) = some 0 := ⟨by decide +kernel, by decide +kernel, by decide +kernel⟩
abbrev b_Pt_takesAway : ByteArray := prog_4_method_17_code
def y_Pt_takesAway : MethodName := ⟨R_Pt, "takesAway", "(IIII)Z"⟩
def w_Pt_takesAway : List Cond := .code y_Pt_takesAway b_Pt_takesAway 6 (some .boolean) :: TT
def rm_Pt_takesAway : Room := { frames := 2, cells := 0, slots := 0, locals := 55 }
theorem gd_Pt_takesAway {h : Cond} : GoodIn (h :: TT) w_Pt_takesAway := gd_of wd_627
theorem dd_Pt_takesAway : y_Pt_takesAway.cls ≠ "java/lang/invoke/MethodHandle" ∧ y_Pt_takesAway.cls ≠ "java/lang/invoke/VarHandle" ∧ (parseMethodDescriptor y_Pt_takesAway.desc).map (fun d => d.parameters.length) = some 4 := ⟨by decide +kernel, by decide +kernel, by decide +kernel⟩
abbrev b_Nt_dig : ByteArray := prog_2_method_15_code
def y_Nt_dig : MethodName := ⟨R_Nt, "dig", "(II)V"⟩
def w_Nt_dig : List Cond := .code y_Nt_dig b_Nt_dig 8 none :: TT
def rm_Nt_dig : Room := { frames := 3, cells := 0, slots := 0, locals := 82 }
theorem gd_Nt_dig {h : Cond} : GoodIn (h :: TT) w_Nt_dig := gd_of wd_614
theorem dd_Nt_dig : y_Nt_dig.cls ≠ "java/lang/invoke/MethodHandle" ∧ y_Nt_dig.cls ≠ "java/lang/invoke/VarHandle" ∧ (parseMethodDescriptor y_Nt_dig.desc).map (fun d => d.parameters.length) = some 2 := ⟨by decide +kernel, by decide +kernel, by decide +kernel⟩
abbrev b_Nt_fill : ByteArray := prog_2_method_17_code
def y_Nt_fill : MethodName := ⟨R_Nt, "fill", "(I)V"⟩
def w_Nt_fill : List Cond := .code y_Nt_fill b_Nt_fill 5 none :: TT
def rm_Nt_fill : Room := { frames := 2, cells := 0, slots := 0, locals := 49 }
theorem gd_Nt_fill {h : Cond} : GoodIn (h :: TT) w_Nt_fill := gd_of wd_650
theorem dd_Nt_fill : y_Nt_fill.cls ≠ "java/lang/invoke/MethodHandle" ∧ y_Nt_fill.cls ≠ "java/lang/invoke/VarHandle" ∧ (parseMethodDescriptor y_Nt_fill.desc).map (fun d => d.parameters.length) = some 1 := ⟨by decide +kernel, by decide +kernel, by decide +kernel⟩
abbrev b_Nt_insert : ByteArray := prog_2_method_14_code
def y_Nt_insert : MethodName := ⟨R_Nt, "insert", "(II)V"⟩
def w_Nt_insert : List Cond := .code y_Nt_insert b_Nt_insert 3 none :: TT
def rm_Nt_insert : Room := { frames := 4, cells := 0, slots := 0, locals := 109 }
theorem gd_Nt_insert {h : Cond} : GoodIn (h :: TT) w_Nt_insert := gd_of wd_590
theorem dd_Nt_insert : y_Nt_insert.cls ≠ "java/lang/invoke/MethodHandle" ∧ y_Nt_insert.cls ≠ "java/lang/invoke/VarHandle" ∧ (parseMethodDescriptor y_Nt_insert.desc).map (fun d => d.parameters.length) = some 2 := ⟨by decide +kernel, by decide +kernel, by decide +kernel⟩
abbrev b_Pn_tryToBeginNet : ByteArray := prog_1_method_19_code
def y_Pn_tryToBeginNet : MethodName := ⟨R_Pn, "tryToBeginNet", "(I)V"⟩
def w_Pn_tryToBeginNet : List Cond := .code y_Pn_tryToBeginNet b_Pn_tryToBeginNet 5 none :: TT
def rm_Pn_tryToBeginNet : Room := { frames := 5, cells := 0, slots := 0, locals := 131 }
theorem gd_Pn_tryToBeginNet {h : Cond} : GoodIn (h :: TT) w_Pn_tryToBeginNet := gd_of wd_572
theorem dd_Pn_tryToBeginNet : y_Pn_tryToBeginNet.cls ≠ "java/lang/invoke/MethodHandle" ∧ y_Pn_tryToBeginNet.cls ≠ "java/lang/invoke/VarHandle" ∧ (parseMethodDescriptor y_Pn_tryToBeginNet.desc).map (fun d => d.parameters.length) = some 1 := ⟨by decide +kernel, by decide +kernel, by decide +kernel⟩
abbrev b_Ar_fill : ByteArray := prog_18_method_103_code
def y_Ar_fill : MethodName := ⟨R_Ar, "fill", "([II)V"⟩
def w_Ar_fill : List Cond := .code y_Ar_fill b_Ar_fill 4 none :: TT
def rm_Ar_fill : Room := { frames := 0, cells := 0, slots := 0, locals := 0 }
theorem gd_Ar_fill {h : Cond} : GoodIn (h :: TT) w_Ar_fill := gd_of wd_293
theorem dd_Ar_fill : y_Ar_fill.cls ≠ "java/lang/invoke/MethodHandle" ∧ y_Ar_fill.cls ≠ "java/lang/invoke/VarHandle" ∧ (parseMethodDescriptor y_Ar_fill.desc).map (fun d => d.parameters.length) = some 2 := ⟨by decide +kernel, by decide +kernel, by decide +kernel⟩
abbrev b_Pn_forgetFound : ByteArray := prog_1_method_21_code
def y_Pn_forgetFound : MethodName := ⟨R_Pn, "forgetFound", "()V"⟩
def w_Pn_forgetFound : List Cond := .code y_Pn_forgetFound b_Pn_forgetFound 1 none :: TT
def rm_Pn_forgetFound : Room := { frames := 1, cells := 0, slots := 0, locals := 23 }
theorem gd_Pn_forgetFound {h : Cond} : GoodIn (h :: TT) w_Pn_forgetFound := gd_of wd_290
theorem dd_Pn_forgetFound : y_Pn_forgetFound.cls ≠ "java/lang/invoke/MethodHandle" ∧ y_Pn_forgetFound.cls ≠ "java/lang/invoke/VarHandle" ∧ (parseMethodDescriptor y_Pn_forgetFound.desc).map (fun d => d.parameters.length) = some 0 := ⟨by decide +kernel, by decide +kernel, by decide +kernel⟩
abbrev b_Rl_forget : ByteArray := prog_5_method_3_code
def y_Rl_forget : MethodName := ⟨R_Rl, "forget", "()V"⟩
def w_Rl_forget : List Cond := .code y_Rl_forget b_Rl_forget 1 none :: TT
def rm_Rl_forget : Room := { frames := 0, cells := 0, slots := 0, locals := 0 }
theorem gd_Rl_forget {h : Cond} : GoodIn (h :: TT) w_Rl_forget := gd_of wd_297
theorem dd_Rl_forget : y_Rl_forget.cls ≠ "java/lang/invoke/MethodHandle" ∧ y_Rl_forget.cls ≠ "java/lang/invoke/VarHandle" ∧ (parseMethodDescriptor y_Rl_forget.desc).map (fun d => d.parameters.length) = some 0 := ⟨by decide +kernel, by decide +kernel, by decide +kernel⟩
abbrev b_Ol_forget : ByteArray := prog_3_method_3_code
def y_Ol_forget : MethodName := ⟨R_Ol, "forget", "()V"⟩
def w_Ol_forget : List Cond := .code y_Ol_forget b_Ol_forget 1 none :: TT
def rm_Ol_forget : Room := { frames := 0, cells := 0, slots := 0, locals := 0 }
theorem gd_Ol_forget {h : Cond} : GoodIn (h :: TT) w_Ol_forget := gd_of wd_301
theorem dd_Ol_forget : y_Ol_forget.cls ≠ "java/lang/invoke/MethodHandle" ∧ y_Ol_forget.cls ≠ "java/lang/invoke/VarHandle" ∧ (parseMethodDescriptor y_Ol_forget.desc).map (fun d => d.parameters.length) = some 0 := ⟨by decide +kernel, by decide +kernel, by decide +kernel⟩
abbrev b_Pn_forgetAnswers : ByteArray := prog_1_method_20_code
def y_Pn_forgetAnswers : MethodName := ⟨R_Pn, "forgetAnswers", "()V"⟩
def w_Pn_forgetAnswers : List Cond := .code y_Pn_forgetAnswers b_Pn_forgetAnswers 1 none :: TT
def rm_Pn_forgetAnswers : Room := { frames := 2, cells := 0, slots := 0, locals := 43 }
theorem gd_Pn_forgetAnswers {h : Cond} : GoodIn (h :: TT) w_Pn_forgetAnswers := gd_of wd_286
theorem dd_Pn_forgetAnswers : y_Pn_forgetAnswers.cls ≠ "java/lang/invoke/MethodHandle" ∧ y_Pn_forgetAnswers.cls ≠ "java/lang/invoke/VarHandle" ∧ (parseMethodDescriptor y_Pn_forgetAnswers.desc).map (fun d => d.parameters.length) = some 0 := ⟨by decide +kernel, by decide +kernel, by decide +kernel⟩
abbrev b_Pn_add : ByteArray := prog_1_method_2_code
def y_Pn_add : MethodName := ⟨R_Pn, "add", "(II)I"⟩
def w_Pn_add : List Cond := .code y_Pn_add b_Pn_add 5 (some .int) :: TT
def rm_Pn_add : Room := { frames := 6, cells := 12, slots := 384, locals := 155 }
theorem gd_Pn_add {h : Cond} : GoodIn (h :: TT) w_Pn_add := gd_of wd_423
theorem dd_Pn_add : y_Pn_add.cls ≠ "java/lang/invoke/MethodHandle" ∧ y_Pn_add.cls ≠ "java/lang/invoke/VarHandle" ∧ (parseMethodDescriptor y_Pn_add.desc).map (fun d => d.parameters.length) = some 2 := ⟨by decide +kernel, by decide +kernel, by decide +kernel⟩
abbrev b_Nt_removeAll : ByteArray := prog_2_method_8_code
def y_Nt_removeAll : MethodName := ⟨R_Nt, "removeAll", "()V"⟩
def w_Nt_removeAll : List Cond := .code y_Nt_removeAll b_Nt_removeAll 1 none :: TT
def rm_Nt_removeAll : Room := { frames := 0, cells := 0, slots := 0, locals := 0 }
theorem gd_Nt_removeAll {h : Cond} : GoodIn (h :: TT) w_Nt_removeAll := gd_of wd_282
theorem dd_Nt_removeAll : y_Nt_removeAll.cls ≠ "java/lang/invoke/MethodHandle" ∧ y_Nt_removeAll.cls ≠ "java/lang/invoke/VarHandle" ∧ (parseMethodDescriptor y_Nt_removeAll.desc).map (fun d => d.parameters.length) = some 0 := ⟨by decide +kernel, by decide +kernel, by decide +kernel⟩
abbrev b_Pn_clear : ByteArray := prog_1_method_3_code
def y_Pn_clear : MethodName := ⟨R_Pn, "clear", "()I"⟩
def w_Pn_clear : List Cond := .code y_Pn_clear b_Pn_clear 2 (some .int) :: TT
def rm_Pn_clear : Room := { frames := 3, cells := 0, slots := 0, locals := 63 }
theorem gd_Pn_clear {h : Cond} : GoodIn (h :: TT) w_Pn_clear := gd_of wd_278
theorem dd_Pn_clear : y_Pn_clear.cls ≠ "java/lang/invoke/MethodHandle" ∧ y_Pn_clear.cls ≠ "java/lang/invoke/VarHandle" ∧ (parseMethodDescriptor y_Pn_clear.desc).map (fun d => d.parameters.length) = some 0 := ⟨by decide +kernel, by decide +kernel, by decide +kernel⟩
abbrev b_Pn_find : ByteArray := prog_1_method_4_code
def y_Pn_find : MethodName := ⟨R_Pn, "find", "(II)I"⟩
def w_Pn_find : List Cond := .code y_Pn_find b_Pn_find 4 (some .int) :: TT
def rm_Pn_find : Room := { frames := 3, cells := 0, slots := 0, locals := 79 }
theorem gd_Pn_find {h : Cond} : GoodIn (h :: TT) w_Pn_find := gd_of wd_657
theorem dd_Pn_find : y_Pn_find.cls ≠ "java/lang/invoke/MethodHandle" ∧ y_Pn_find.cls ≠ "java/lang/invoke/VarHandle" ∧ (parseMethodDescriptor y_Pn_find.desc).map (fun d => d.parameters.length) = some 2 := ⟨by decide +kernel, by decide +kernel, by decide +kernel⟩
abbrev b_Nt_solidCount : ByteArray := prog_2_method_4_code
def y_Nt_solidCount : MethodName := ⟨R_Nt, "solidCount", "()I"⟩
def w_Nt_solidCount : List Cond := .code y_Nt_solidCount b_Nt_solidCount 1 (some .int) :: TT
def rm_Nt_solidCount : Room := { frames := 0, cells := 0, slots := 0, locals := 0 }
theorem gd_Nt_solidCount {h : Cond} : GoodIn (h :: TT) w_Nt_solidCount := gd_of wd_313
theorem dd_Nt_solidCount : y_Nt_solidCount.cls ≠ "java/lang/invoke/MethodHandle" ∧ y_Nt_solidCount.cls ≠ "java/lang/invoke/VarHandle" ∧ (parseMethodDescriptor y_Nt_solidCount.desc).map (fun d => d.parameters.length) = some 0 := ⟨by decide +kernel, by decide +kernel, by decide +kernel⟩
abbrev b_Nt_edgeCount : ByteArray := prog_2_method_5_code
def y_Nt_edgeCount : MethodName := ⟨R_Nt, "edgeCount", "()I"⟩
def w_Nt_edgeCount : List Cond := .code y_Nt_edgeCount b_Nt_edgeCount 1 (some .int) :: TT
def rm_Nt_edgeCount : Room := { frames := 0, cells := 0, slots := 0, locals := 0 }
theorem gd_Nt_edgeCount {h : Cond} : GoodIn (h :: TT) w_Nt_edgeCount := gd_of wd_697
theorem dd_Nt_edgeCount : y_Nt_edgeCount.cls ≠ "java/lang/invoke/MethodHandle" ∧ y_Nt_edgeCount.cls ≠ "java/lang/invoke/VarHandle" ∧ (parseMethodDescriptor y_Nt_edgeCount.desc).map (fun d => d.parameters.length) = some 0 := ⟨by decide +kernel, by decide +kernel, by decide +kernel⟩
abbrev b_Nt_lowestFirst : ByteArray := prog_2_method_23_code
def y_Nt_lowestFirst : MethodName := ⟨R_Nt, "lowestFirst", "(I)I"⟩
def w_Nt_lowestFirst : List Cond := .code y_Nt_lowestFirst b_Nt_lowestFirst 5 (some .int) :: TT
def rm_Nt_lowestFirst : Room := { frames := 2, cells := 0, slots := 0, locals := 44 }
theorem gd_Nt_lowestFirst {h : Cond} : GoodIn (h :: TT) w_Nt_lowestFirst := gd_of wd_702
theorem dd_Nt_lowestFirst : y_Nt_lowestFirst.cls ≠ "java/lang/invoke/MethodHandle" ∧ y_Nt_lowestFirst.cls ≠ "java/lang/invoke/VarHandle" ∧ (parseMethodDescriptor y_Nt_lowestFirst.desc).map (fun d => d.parameters.length) = some 1 := ⟨by decide +kernel, by decide +kernel, by decide +kernel⟩
abbrev b_Rl_gather : ByteArray := prog_5_method_6_code
def y_Rl_gather : MethodName := ⟨R_Rl, "gather", "()I"⟩
def w_Rl_gather : List Cond := .code y_Rl_gather b_Rl_gather 3 (some .int) :: TT
def rm_Rl_gather : Room := { frames := 3, cells := 0, slots := 0, locals := 68 }
theorem gd_Rl_gather {h : Cond} : GoodIn (h :: TT) w_Rl_gather := gd_of wd_693
theorem dd_Rl_gather : y_Rl_gather.cls ≠ "java/lang/invoke/MethodHandle" ∧ y_Rl_gather.cls ≠ "java/lang/invoke/VarHandle" ∧ (parseMethodDescriptor y_Rl_gather.desc).map (fun d => d.parameters.length) = some 0 := ⟨by decide +kernel, by decide +kernel, by decide +kernel⟩
abbrev b_Rl_sortInto : ByteArray := prog_5_method_7_code
def y_Rl_sortInto : MethodName := ⟨R_Rl, "sortInto", "(LPlaneNet$Row;LPlaneNet$Row;II)V"⟩
def w_Rl_sortInto : List Cond := .code y_Rl_sortInto b_Rl_sortInto 9 none :: TT
def rm_Rl_sortInto : Room := { frames := 2, cells := 0, slots := 0, locals := 44 }
theorem gd_Rl_sortInto {h : Cond} : GoodIn (h :: TT) w_Rl_sortInto := gd_of wd_707
theorem dd_Rl_sortInto : y_Rl_sortInto.cls ≠ "java/lang/invoke/MethodHandle" ∧ y_Rl_sortInto.cls ≠ "java/lang/invoke/VarHandle" ∧ (parseMethodDescriptor y_Rl_sortInto.desc).map (fun d => d.parameters.length) = some 4 := ⟨by decide +kernel, by decide +kernel, by decide +kernel⟩
abbrev b_Rl_sortAll : ByteArray := prog_5_method_5_code
def y_Rl_sortAll : MethodName := ⟨R_Rl, "sortAll", "()V"⟩
def w_Rl_sortAll : List Cond := .code y_Rl_sortAll b_Rl_sortAll 2 none :: TT
def rm_Rl_sortAll : Room := { frames := 4, cells := 0, slots := 0, locals := 90 }
theorem gd_Rl_sortAll {h : Cond} : GoodIn (h :: TT) w_Rl_sortAll := gd_of wd_689
theorem dd_Rl_sortAll : y_Rl_sortAll.cls ≠ "java/lang/invoke/MethodHandle" ∧ y_Rl_sortAll.cls ≠ "java/lang/invoke/VarHandle" ∧ (parseMethodDescriptor y_Rl_sortAll.desc).map (fun d => d.parameters.length) = some 0 := ⟨by decide +kernel, by decide +kernel, by decide +kernel⟩
abbrev b_Rl_edge : ByteArray := prog_5_method_4_code
def y_Rl_edge : MethodName := ⟨R_Rl, "edge", "(I)I"⟩
def w_Rl_edge : List Cond := .code y_Rl_edge b_Rl_edge 2 (some .int) :: TT
def rm_Rl_edge : Room := { frames := 5, cells := 0, slots := 0, locals := 111 }
theorem gd_Rl_edge {h : Cond} : GoodIn (h :: TT) w_Rl_edge := gd_of wd_685
theorem dd_Rl_edge : y_Rl_edge.cls ≠ "java/lang/invoke/MethodHandle" ∧ y_Rl_edge.cls ≠ "java/lang/invoke/VarHandle" ∧ (parseMethodDescriptor y_Rl_edge.desc).map (fun d => d.parameters.length) = some 1 := ⟨by decide +kernel, by decide +kernel, by decide +kernel⟩
abbrev b_Pn_triangle : ByteArray := prog_1_method_5_code
def y_Pn_triangle : MethodName := ⟨R_Pn, "triangle", "(II)I"⟩
def w_Pn_triangle : List Cond := .code y_Pn_triangle b_Pn_triangle 3 (some .int) :: TT
def rm_Pn_triangle : Room := { frames := 6, cells := 0, slots := 0, locals := 132 }
theorem gd_Pn_triangle {h : Cond} : GoodIn (h :: TT) w_Pn_triangle := gd_of wd_665
theorem dd_Pn_triangle : y_Pn_triangle.cls ≠ "java/lang/invoke/MethodHandle" ∧ y_Pn_triangle.cls ≠ "java/lang/invoke/VarHandle" ∧ (parseMethodDescriptor y_Pn_triangle.desc).map (fun d => d.parameters.length) = some 2 := ⟨by decide +kernel, by decide +kernel, by decide +kernel⟩
abbrev b_Pn_checkNumber : ByteArray := prog_1_method_16_code
def y_Pn_checkNumber : MethodName := ⟨R_Pn, "checkNumber", "(I)V"⟩
def w_Pn_checkNumber : List Cond := .code y_Pn_checkNumber b_Pn_checkNumber 2 none :: TT
def rm_Pn_checkNumber : Room := { frames := 0, cells := 0, slots := 0, locals := 0 }
theorem gd_Pn_checkNumber {h : Cond} : GoodIn (h :: TT) w_Pn_checkNumber := gd_of wd_723
theorem dd_Pn_checkNumber : y_Pn_checkNumber.cls ≠ "java/lang/invoke/MethodHandle" ∧ y_Pn_checkNumber.cls ≠ "java/lang/invoke/VarHandle" ∧ (parseMethodDescriptor y_Pn_checkNumber.desc).map (fun d => d.parameters.length) = some 1 := ⟨by decide +kernel, by decide +kernel, by decide +kernel⟩
abbrev b_Nt_leftOf : ByteArray := prog_2_method_24_code
def y_Nt_leftOf : MethodName := ⟨R_Nt, "leftOf", "(I)I"⟩
def w_Nt_leftOf : List Cond := .code y_Nt_leftOf b_Nt_leftOf 2 (some .int) :: TT
def rm_Nt_leftOf : Room := { frames := 1, cells := 0, slots := 0, locals := 23 }
theorem gd_Nt_leftOf {h : Cond} : GoodIn (h :: TT) w_Nt_leftOf := gd_of wd_387
theorem dd_Nt_leftOf : y_Nt_leftOf.cls ≠ "java/lang/invoke/MethodHandle" ∧ y_Nt_leftOf.cls ≠ "java/lang/invoke/VarHandle" ∧ (parseMethodDescriptor y_Nt_leftOf.desc).map (fun d => d.parameters.length) = some 1 := ⟨by decide +kernel, by decide +kernel, by decide +kernel⟩
abbrev b_Nt_degree : ByteArray := prog_2_method_25_code
def y_Nt_degree : MethodName := ⟨R_Nt, "degree", "(I)I"⟩
def w_Nt_degree : List Cond := .code y_Nt_degree b_Nt_degree 6 (some .int) :: TT
def rm_Nt_degree : Room := { frames := 2, cells := 0, slots := 0, locals := 44 }
theorem gd_Nt_degree {h : Cond} : GoodIn (h :: TT) w_Nt_degree := gd_of wd_732
theorem dd_Nt_degree : y_Nt_degree.cls ≠ "java/lang/invoke/MethodHandle" ∧ y_Nt_degree.cls ≠ "java/lang/invoke/VarHandle" ∧ (parseMethodDescriptor y_Nt_degree.desc).map (fun d => d.parameters.length) = some 1 := ⟨by decide +kernel, by decide +kernel, by decide +kernel⟩
abbrev b_Pt_isBelow : ByteArray := prog_4_method_9_code
def y_Pt_isBelow : MethodName := ⟨R_Pt, "isBelow", "(III)Z"⟩
def w_Pt_isBelow : List Cond := .code y_Pt_isBelow b_Pt_isBelow 4 (some .boolean) :: TT
def rm_Pt_isBelow : Room := { frames := 1, cells := 0, slots := 0, locals := 23 }
theorem gd_Pt_isBelow {h : Cond} : GoodIn (h :: TT) w_Pt_isBelow := gd_of wd_355
theorem dd_Pt_isBelow : y_Pt_isBelow.cls ≠ "java/lang/invoke/MethodHandle" ∧ y_Pt_isBelow.cls ≠ "java/lang/invoke/VarHandle" ∧ (parseMethodDescriptor y_Pt_isBelow.desc).map (fun d => d.parameters.length) = some 3 := ⟨by decide +kernel, by decide +kernel, by decide +kernel⟩
abbrev b_Pt_greatestBelow : ByteArray := prog_4_method_14_code
def y_Pt_greatestBelow : MethodName := ⟨R_Pt, "greatestBelow", "(II)I"⟩
def w_Pt_greatestBelow : List Cond := .code y_Pt_greatestBelow b_Pt_greatestBelow 5 (some .int) :: TT
def rm_Pt_greatestBelow : Room := { frames := 2, cells := 0, slots := 0, locals := 46 }
theorem gd_Pt_greatestBelow {h : Cond} : GoodIn (h :: TT) w_Pt_greatestBelow := gd_of wd_351
theorem dd_Pt_greatestBelow : y_Pt_greatestBelow.cls ≠ "java/lang/invoke/MethodHandle" ∧ y_Pt_greatestBelow.cls ≠ "java/lang/invoke/VarHandle" ∧ (parseMethodDescriptor y_Pt_greatestBelow.desc).map (fun d => d.parameters.length) = some 2 := ⟨by decide +kernel, by decide +kernel, by decide +kernel⟩
abbrev b_Pt_isAbove : ByteArray := prog_4_method_10_code
def y_Pt_isAbove : MethodName := ⟨R_Pt, "isAbove", "(III)Z"⟩
def w_Pt_isAbove : List Cond := .code y_Pt_isAbove b_Pt_isAbove 4 (some .boolean) :: TT
def rm_Pt_isAbove : Room := { frames := 1, cells := 0, slots := 0, locals := 23 }
theorem gd_Pt_isAbove {h : Cond} : GoodIn (h :: TT) w_Pt_isAbove := gd_of wd_338
theorem dd_Pt_isAbove : y_Pt_isAbove.cls ≠ "java/lang/invoke/MethodHandle" ∧ y_Pt_isAbove.cls ≠ "java/lang/invoke/VarHandle" ∧ (parseMethodDescriptor y_Pt_isAbove.desc).map (fun d => d.parameters.length) = some 3 := ⟨by decide +kernel, by decide +kernel, by decide +kernel⟩
abbrev b_Pt_leastAbove : ByteArray := prog_4_method_13_code
def y_Pt_leastAbove : MethodName := ⟨R_Pt, "leastAbove", "(II)I"⟩
def w_Pt_leastAbove : List Cond := .code y_Pt_leastAbove b_Pt_leastAbove 5 (some .int) :: TT
def rm_Pt_leastAbove : Room := { frames := 2, cells := 0, slots := 0, locals := 46 }
theorem gd_Pt_leastAbove {h : Cond} : GoodIn (h :: TT) w_Pt_leastAbove := gd_of wd_334
theorem dd_Pt_leastAbove : y_Pt_leastAbove.cls ≠ "java/lang/invoke/MethodHandle" ∧ y_Pt_leastAbove.cls ≠ "java/lang/invoke/VarHandle" ∧ (parseMethodDescriptor y_Pt_leastAbove.desc).map (fun d => d.parameters.length) = some 2 := ⟨by decide +kernel, by decide +kernel, by decide +kernel⟩
abbrev b_Pn_neighbourCount : ByteArray := prog_1_method_22_code
def y_Pn_neighbourCount : MethodName := ⟨R_Pn, "neighbourCount", "(I)I"⟩
def w_Pn_neighbourCount : List Cond := .code y_Pn_neighbourCount b_Pn_neighbourCount 3 (some .int) :: TT
def rm_Pn_neighbourCount : Room := { frames := 3, cells := 0, slots := 0, locals := 70 }
theorem gd_Pn_neighbourCount {h : Cond} : GoodIn (h :: TT) w_Pn_neighbourCount := gd_of wd_728
theorem dd_Pn_neighbourCount : y_Pn_neighbourCount.cls ≠ "java/lang/invoke/MethodHandle" ∧ y_Pn_neighbourCount.cls ≠ "java/lang/invoke/VarHandle" ∧ (parseMethodDescriptor y_Pn_neighbourCount.desc).map (fun d => d.parameters.length) = some 1 := ⟨by decide +kernel, by decide +kernel, by decide +kernel⟩
abbrev b_Pn_neighbours : ByteArray := prog_1_method_6_code
def y_Pn_neighbours : MethodName := ⟨R_Pn, "neighbours", "(I)I"⟩
def w_Pn_neighbours : List Cond := .code y_Pn_neighbours b_Pn_neighbours 2 (some .int) :: TT
def rm_Pn_neighbours : Room := { frames := 4, cells := 0, slots := 0, locals := 92 }
theorem gd_Pn_neighbours {h : Cond} : GoodIn (h :: TT) w_Pn_neighbours := gd_of wd_719
theorem dd_Pn_neighbours : y_Pn_neighbours.cls ≠ "java/lang/invoke/MethodHandle" ∧ y_Pn_neighbours.cls ≠ "java/lang/invoke/VarHandle" ∧ (parseMethodDescriptor y_Pn_neighbours.desc).map (fun d => d.parameters.length) = some 1 := ⟨by decide +kernel, by decide +kernel, by decide +kernel⟩
abbrev b_Pn_neighbourOnLine : ByteArray := prog_1_method_23_code
def y_Pn_neighbourOnLine : MethodName := ⟨R_Pn, "neighbourOnLine", "(II)I"⟩
def w_Pn_neighbourOnLine : List Cond := .code y_Pn_neighbourOnLine b_Pn_neighbourOnLine 5 (some .int) :: TT
def rm_Pn_neighbourOnLine : Room := { frames := 3, cells := 0, slots := 0, locals := 70 }
theorem gd_Pn_neighbourOnLine {h : Cond} : GoodIn (h :: TT) w_Pn_neighbourOnLine := gd_of wd_746
theorem dd_Pn_neighbourOnLine : y_Pn_neighbourOnLine.cls ≠ "java/lang/invoke/MethodHandle" ∧ y_Pn_neighbourOnLine.cls ≠ "java/lang/invoke/VarHandle" ∧ (parseMethodDescriptor y_Pn_neighbourOnLine.desc).map (fun d => d.parameters.length) = some 2 := ⟨by decide +kernel, by decide +kernel, by decide +kernel⟩
abbrev b_Nt_lowestFrom : ByteArray := prog_2_method_27_code
def y_Nt_lowestFrom : MethodName := ⟨R_Nt, "lowestFrom", "(I)I"⟩
def w_Nt_lowestFrom : List Cond := .code y_Nt_lowestFrom b_Nt_lowestFrom 6 (some .int) :: TT
def rm_Nt_lowestFrom : Room := { frames := 2, cells := 0, slots := 0, locals := 44 }
theorem gd_Nt_lowestFrom {h : Cond} : GoodIn (h :: TT) w_Nt_lowestFrom := gd_of wd_754
theorem dd_Nt_lowestFrom : y_Nt_lowestFrom.cls ≠ "java/lang/invoke/MethodHandle" ∧ y_Nt_lowestFrom.cls ≠ "java/lang/invoke/VarHandle" ∧ (parseMethodDescriptor y_Nt_lowestFrom.desc).map (fun d => d.parameters.length) = some 1 := ⟨by decide +kernel, by decide +kernel, by decide +kernel⟩
abbrev b_Nt_leftRound : ByteArray := prog_2_method_26_code
def y_Nt_leftRound : MethodName := ⟨R_Nt, "leftRound", "(II)I"⟩
def w_Nt_leftRound : List Cond := .code y_Nt_leftRound b_Nt_leftRound 6 (some .int) :: TT
def rm_Nt_leftRound : Room := { frames := 3, cells := 0, slots := 0, locals := 69 }
theorem gd_Nt_leftRound {h : Cond} : GoodIn (h :: TT) w_Nt_leftRound := gd_of wd_750
theorem dd_Nt_leftRound : y_Nt_leftRound.cls ≠ "java/lang/invoke/MethodHandle" ∧ y_Nt_leftRound.cls ≠ "java/lang/invoke/VarHandle" ∧ (parseMethodDescriptor y_Nt_leftRound.desc).map (fun d => d.parameters.length) = some 2 := ⟨by decide +kernel, by decide +kernel, by decide +kernel⟩
abbrev b_Pn_neighbour : ByteArray := prog_1_method_7_code
def y_Pn_neighbour : MethodName := ⟨R_Pn, "neighbour", "(II)I"⟩
def w_Pn_neighbour : List Cond := .code y_Pn_neighbour b_Pn_neighbour 3 (some .int) :: TT
def rm_Pn_neighbour : Room := { frames := 4, cells := 0, slots := 0, locals := 94 }
theorem gd_Pn_neighbour {h : Cond} : GoodIn (h :: TT) w_Pn_neighbour := gd_of wd_741
theorem dd_Pn_neighbour : y_Pn_neighbour.cls ≠ "java/lang/invoke/MethodHandle" ∧ y_Pn_neighbour.cls ≠ "java/lang/invoke/VarHandle" ∧ (parseMethodDescriptor y_Pn_neighbour.desc).map (fun d => d.parameters.length) = some 2 := ⟨by decide +kernel, by decide +kernel, by decide +kernel⟩
abbrev b_Ol_put : ByteArray := prog_3_method_10_code
def y_Ol_put : MethodName := ⟨R_Ol, "put", "(I)V"⟩
def w_Ol_put : List Cond := .code y_Ol_put b_Ol_put 2 none :: TT
def rm_Ol_put : Room := { frames := 1, cells := 0, slots := 0, locals := 24 }
theorem gd_Ol_put {h : Cond} : GoodIn (h :: TT) w_Ol_put := gd_of wd_359
theorem dd_Ol_put : y_Ol_put.cls ≠ "java/lang/invoke/MethodHandle" ∧ y_Ol_put.cls ≠ "java/lang/invoke/VarHandle" ∧ (parseMethodDescriptor y_Ol_put.desc).map (fun d => d.parameters.length) = some 1 := ⟨by decide +kernel, by decide +kernel, by decide +kernel⟩
abbrev b_Ol_drawLine : ByteArray := prog_3_method_7_code
def y_Ol_drawLine : MethodName := ⟨R_Ol, "drawLine", "()V"⟩
def w_Ol_drawLine : List Cond := .code y_Ol_drawLine b_Ol_drawLine 3 none :: TT
def rm_Ol_drawLine : Room := { frames := 3, cells := 0, slots := 0, locals := 70 }
theorem gd_Ol_drawLine {h : Cond} : GoodIn (h :: TT) w_Ol_drawLine := gd_of wd_329
theorem dd_Ol_drawLine : y_Ol_drawLine.cls ≠ "java/lang/invoke/MethodHandle" ∧ y_Ol_drawLine.cls ≠ "java/lang/invoke/VarHandle" ∧ (parseMethodDescriptor y_Ol_drawLine.desc).map (fun d => d.parameters.length) = some 0 := ⟨by decide +kernel, by decide +kernel, by decide +kernel⟩
abbrev b_Nt_wayToGhost : ByteArray := prog_2_method_28_code
def y_Nt_wayToGhost : MethodName := ⟨R_Nt, "wayToGhost", "(I)I"⟩
def w_Nt_wayToGhost : List Cond := .code y_Nt_wayToGhost b_Nt_wayToGhost 4 (some .int) :: TT
def rm_Nt_wayToGhost : Room := { frames := 2, cells := 0, slots := 0, locals := 44 }
theorem gd_Nt_wayToGhost {h : Cond} : GoodIn (h :: TT) w_Nt_wayToGhost := gd_of wd_371
theorem dd_Nt_wayToGhost : y_Nt_wayToGhost.cls ≠ "java/lang/invoke/MethodHandle" ∧ y_Nt_wayToGhost.cls ≠ "java/lang/invoke/VarHandle" ∧ (parseMethodDescriptor y_Nt_wayToGhost.desc).map (fun d => d.parameters.length) = some 1 := ⟨by decide +kernel, by decide +kernel, by decide +kernel⟩
abbrev b_Nt_nextWayToGhost : ByteArray := prog_2_method_29_code
def y_Nt_nextWayToGhost : MethodName := ⟨R_Nt, "nextWayToGhost", "(I)I"⟩
def w_Nt_nextWayToGhost : List Cond := .code y_Nt_nextWayToGhost b_Nt_nextWayToGhost 2 (some .int) :: TT
def rm_Nt_nextWayToGhost : Room := { frames := 1, cells := 0, slots := 0, locals := 23 }
theorem gd_Nt_nextWayToGhost {h : Cond} : GoodIn (h :: TT) w_Nt_nextWayToGhost := gd_of wd_391
theorem dd_Nt_nextWayToGhost : y_Nt_nextWayToGhost.cls ≠ "java/lang/invoke/MethodHandle" ∧ y_Nt_nextWayToGhost.cls ≠ "java/lang/invoke/VarHandle" ∧ (parseMethodDescriptor y_Nt_nextWayToGhost.desc).map (fun d => d.parameters.length) = some 1 := ⟨by decide +kernel, by decide +kernel, by decide +kernel⟩
abbrev b_Ol_isCorner : ByteArray := prog_3_method_9_code
def y_Ol_isCorner : MethodName := ⟨R_Ol, "isCorner", "(III)Z"⟩
def w_Ol_isCorner : List Cond := .code y_Ol_isCorner b_Ol_isCorner 4 (some .boolean) :: TT
def rm_Ol_isCorner : Room := { frames := 2, cells := 0, slots := 0, locals := 55 }
theorem gd_Ol_isCorner {h : Cond} : GoodIn (h :: TT) w_Ol_isCorner := gd_of wd_399
theorem dd_Ol_isCorner : y_Ol_isCorner.cls ≠ "java/lang/invoke/MethodHandle" ∧ y_Ol_isCorner.cls ≠ "java/lang/invoke/VarHandle" ∧ (parseMethodDescriptor y_Ol_isCorner.desc).map (fun d => d.parameters.length) = some 3 := ⟨by decide +kernel, by decide +kernel, by decide +kernel⟩
abbrev b_Ol_drawRound : ByteArray := prog_3_method_8_code
def y_Ol_drawRound : MethodName := ⟨R_Ol, "drawRound", "()V"⟩
def w_Ol_drawRound : List Cond := .code y_Ol_drawRound b_Ol_drawRound 7 none :: TT
def rm_Ol_drawRound : Room := { frames := 3, cells := 0, slots := 0, locals := 78 }
theorem gd_Ol_drawRound {h : Cond} : GoodIn (h :: TT) w_Ol_drawRound := gd_of wd_367
theorem dd_Ol_drawRound : y_Ol_drawRound.cls ≠ "java/lang/invoke/MethodHandle" ∧ y_Ol_drawRound.cls ≠ "java/lang/invoke/VarHandle" ∧ (parseMethodDescriptor y_Ol_drawRound.desc).map (fun d => d.parameters.length) = some 0 := ⟨by decide +kernel, by decide +kernel, by decide +kernel⟩
abbrev b_Ol_draw : ByteArray := prog_3_method_6_code
def y_Ol_draw : MethodName := ⟨R_Ol, "draw", "()V"⟩
def w_Ol_draw : List Cond := .code y_Ol_draw b_Ol_draw 1 none :: TT
def rm_Ol_draw : Room := { frames := 4, cells := 0, slots := 0, locals := 104 }
theorem gd_Ol_draw {h : Cond} : GoodIn (h :: TT) w_Ol_draw := gd_of wd_321
theorem dd_Ol_draw : y_Ol_draw.cls ≠ "java/lang/invoke/MethodHandle" ∧ y_Ol_draw.cls ≠ "java/lang/invoke/VarHandle" ∧ (parseMethodDescriptor y_Ol_draw.desc).map (fun d => d.parameters.length) = some 0 := ⟨by decide +kernel, by decide +kernel, by decide +kernel⟩
abbrev b_Ol_many : ByteArray := prog_3_method_4_code
def y_Ol_many : MethodName := ⟨R_Ol, "many", "()I"⟩
def w_Ol_many : List Cond := .code y_Ol_many b_Ol_many 1 (some .int) :: TT
def rm_Ol_many : Room := { frames := 5, cells := 0, slots := 0, locals := 124 }
theorem gd_Ol_many {h : Cond} : GoodIn (h :: TT) w_Ol_many := gd_of wd_317
theorem dd_Ol_many : y_Ol_many.cls ≠ "java/lang/invoke/MethodHandle" ∧ y_Ol_many.cls ≠ "java/lang/invoke/VarHandle" ∧ (parseMethodDescriptor y_Ol_many.desc).map (fun d => d.parameters.length) = some 0 := ⟨by decide +kernel, by decide +kernel, by decide +kernel⟩
abbrev b_Ol_at : ByteArray := prog_3_method_5_code
def y_Ol_at : MethodName := ⟨R_Ol, "at", "(I)I"⟩
def w_Ol_at : List Cond := .code y_Ol_at b_Ol_at 2 (some .int) :: TT
def rm_Ol_at : Room := { frames := 5, cells := 0, slots := 0, locals := 124 }
theorem gd_Ol_at {h : Cond} : GoodIn (h :: TT) w_Ol_at := gd_of wd_766
theorem dd_Ol_at : y_Ol_at.cls ≠ "java/lang/invoke/MethodHandle" ∧ y_Ol_at.cls ≠ "java/lang/invoke/VarHandle" ∧ (parseMethodDescriptor y_Ol_at.desc).map (fun d => d.parameters.length) = some 1 := ⟨by decide +kernel, by decide +kernel, by decide +kernel⟩
abbrev b_Pn_corner : ByteArray := prog_1_method_8_code
def y_Pn_corner : MethodName := ⟨R_Pn, "corner", "(I)I"⟩
def w_Pn_corner : List Cond := .code y_Pn_corner b_Pn_corner 2 (some .int) :: TT
def rm_Pn_corner : Room := { frames := 6, cells := 0, slots := 0, locals := 145 }
theorem gd_Pn_corner {h : Cond} : GoodIn (h :: TT) w_Pn_corner := gd_of wd_761
theorem dd_Pn_corner : y_Pn_corner.cls ≠ "java/lang/invoke/MethodHandle" ∧ y_Pn_corner.cls ≠ "java/lang/invoke/VarHandle" ∧ (parseMethodDescriptor y_Pn_corner.desc).map (fun d => d.parameters.length) = some 1 := ⟨by decide +kernel, by decide +kernel, by decide +kernel⟩
abbrev b_Pn_foundBetween : ByteArray := prog_1_method_26_code
def y_Pn_foundBetween : MethodName := ⟨R_Pn, "foundBetween", "(II)I"⟩
def w_Pn_foundBetween : List Cond := .code y_Pn_foundBetween b_Pn_foundBetween 3 (some .int) :: TT
def rm_Pn_foundBetween : Room := { frames := 1, cells := 0, slots := 0, locals := 30 }
theorem gd_Pn_foundBetween {h : Cond} : GoodIn (h :: TT) w_Pn_foundBetween := gd_of wd_782
theorem dd_Pn_foundBetween : y_Pn_foundBetween.cls ≠ "java/lang/invoke/MethodHandle" ∧ y_Pn_foundBetween.cls ≠ "java/lang/invoke/VarHandle" ∧ (parseMethodDescriptor y_Pn_foundBetween.desc).map (fun d => d.parameters.length) = some 2 := ⟨by decide +kernel, by decide +kernel, by decide +kernel⟩
abbrev b_Pn_locateOnLine : ByteArray := prog_1_method_24_code
def y_Pn_locateOnLine : MethodName := ⟨R_Pn, "locateOnLine", "(II)I"⟩
def w_Pn_locateOnLine : List Cond := .code y_Pn_locateOnLine b_Pn_locateOnLine 5 (some .int) :: TT
def rm_Pn_locateOnLine : Room := { frames := 3, cells := 0, slots := 0, locals := 70 }
theorem gd_Pn_locateOnLine {h : Cond} : GoodIn (h :: TT) w_Pn_locateOnLine := gd_of wd_778
theorem dd_Pn_locateOnLine : y_Pn_locateOnLine.cls ≠ "java/lang/invoke/MethodHandle" ∧ y_Pn_locateOnLine.cls ≠ "java/lang/invoke/VarHandle" ∧ (parseMethodDescriptor y_Pn_locateOnLine.desc).map (fun d => d.parameters.length) = some 2 := ⟨by decide +kernel, by decide +kernel, by decide +kernel⟩
abbrev b_Pn_locateInNet : ByteArray := prog_1_method_25_code
def y_Pn_locateInNet : MethodName := ⟨R_Pn, "locateInNet", "(III)I"⟩
def w_Pn_locateInNet : List Cond := .code y_Pn_locateInNet b_Pn_locateInNet 7 (some .int) :: TT
def rm_Pn_locateInNet : Room := { frames := 4, cells := 0, slots := 0, locals := 106 }
theorem gd_Pn_locateInNet {h : Cond} : GoodIn (h :: TT) w_Pn_locateInNet := gd_of wd_786
theorem dd_Pn_locateInNet : y_Pn_locateInNet.cls ≠ "java/lang/invoke/MethodHandle" ∧ y_Pn_locateInNet.cls ≠ "java/lang/invoke/VarHandle" ∧ (parseMethodDescriptor y_Pn_locateInNet.desc).map (fun d => d.parameters.length) = some 3 := ⟨by decide +kernel, by decide +kernel, by decide +kernel⟩
abbrev b_Pn_locate : ByteArray := prog_1_method_9_code
def y_Pn_locate : MethodName := ⟨R_Pn, "locate", "(II)I"⟩
def w_Pn_locate : List Cond := .code y_Pn_locate b_Pn_locate 4 (some .int) :: TT
def rm_Pn_locate : Room := { frames := 5, cells := 0, slots := 0, locals := 132 }
theorem gd_Pn_locate {h : Cond} : GoodIn (h :: TT) w_Pn_locate := gd_of wd_774
theorem dd_Pn_locate : y_Pn_locate.cls ≠ "java/lang/invoke/MethodHandle" ∧ y_Pn_locate.cls ≠ "java/lang/invoke/VarHandle" ∧ (parseMethodDescriptor y_Pn_locate.desc).map (fun d => d.parameters.length) = some 2 := ⟨by decide +kernel, by decide +kernel, by decide +kernel⟩
abbrev b_Pn_located : ByteArray := prog_1_method_10_code
def y_Pn_located : MethodName := ⟨R_Pn, "located", "(I)I"⟩
def w_Pn_located : List Cond := .code y_Pn_located b_Pn_located 2 (some .int) :: TT
def rm_Pn_located : Room := { frames := 0, cells := 0, slots := 0, locals := 0 }
theorem gd_Pn_located {h : Cond} : GoodIn (h :: TT) w_Pn_located := gd_of wd_305
theorem dd_Pn_located : y_Pn_located.cls ≠ "java/lang/invoke/MethodHandle" ∧ y_Pn_located.cls ≠ "java/lang/invoke/VarHandle" ∧ (parseMethodDescriptor y_Pn_located.desc).map (fun d => d.parameters.length) = some 1 := ⟨by decide +kernel, by decide +kernel, by decide +kernel⟩
abbrev b_Pn_nearest : ByteArray := prog_1_method_11_code
def y_Pn_nearest : MethodName := ⟨R_Pn, "nearest", "(II)I"⟩
def w_Pn_nearest : List Cond := .code y_Pn_nearest b_Pn_nearest 3 (some .int) :: TT
def rm_Pn_nearest : Room := { frames := 3, cells := 0, slots := 0, locals := 79 }
theorem gd_Pn_nearest {h : Cond} : GoodIn (h :: TT) w_Pn_nearest := gd_of wd_797
theorem dd_Pn_nearest : y_Pn_nearest.cls ≠ "java/lang/invoke/MethodHandle" ∧ y_Pn_nearest.cls ≠ "java/lang/invoke/VarHandle" ∧ (parseMethodDescriptor y_Pn_nearest.desc).map (fun d => d.parameters.length) = some 2 := ⟨by decide +kernel, by decide +kernel, by decide +kernel⟩
abbrev b_Pn_closest : ByteArray := prog_1_method_12_code
def y_Pn_closest : MethodName := ⟨R_Pn, "closest", "(I)J"⟩
def w_Pn_closest : List Cond := .code y_Pn_closest b_Pn_closest 2 (some .long) :: TT
def rm_Pn_closest : Room := { frames := 0, cells := 0, slots := 0, locals := 0 }
theorem gd_Pn_closest {h : Cond} : GoodIn (h :: TT) w_Pn_closest := gd_of wd_805
theorem dd_Pn_closest : y_Pn_closest.cls ≠ "java/lang/invoke/MethodHandle" ∧ y_Pn_closest.cls ≠ "java/lang/invoke/VarHandle" ∧ (parseMethodDescriptor y_Pn_closest.desc).map (fun d => d.parameters.length) = some 1 := ⟨by decide +kernel, by decide +kernel, by decide +kernel⟩
abbrev b_Pn_point : ByteArray := prog_1_method_13_code
def y_Pn_point : MethodName := ⟨R_Pn, "point", "(II)I"⟩
def w_Pn_point : List Cond := .code y_Pn_point b_Pn_point 3 (some .int) :: TT
def rm_Pn_point : Room := { frames := 2, cells := 0, slots := 0, locals := 44 }
theorem gd_Pn_point {h : Cond} : GoodIn (h :: TT) w_Pn_point := gd_of wd_814
theorem dd_Pn_point : y_Pn_point.cls ≠ "java/lang/invoke/MethodHandle" ∧ y_Pn_point.cls ≠ "java/lang/invoke/VarHandle" ∧ (parseMethodDescriptor y_Pn_point.desc).map (fun d => d.parameters.length) = some 2 := ⟨by decide +kernel, by decide +kernel, by decide +kernel⟩
abbrev b_Pn_count : ByteArray := prog_1_method_14_code
def y_Pn_count : MethodName := ⟨R_Pn, "count", "(I)I"⟩
def w_Pn_count : List Cond := .code y_Pn_count b_Pn_count 2 (some .int) :: TT
def rm_Pn_count : Room := { frames := 6, cells := 0, slots := 0, locals := 144 }
theorem gd_Pn_count {h : Cond} : GoodIn (h :: TT) w_Pn_count := gd_of wd_309
theorem dd_Pn_count : y_Pn_count.cls ≠ "java/lang/invoke/MethodHandle" ∧ y_Pn_count.cls ≠ "java/lang/invoke/VarHandle" ∧ (parseMethodDescriptor y_Pn_count.desc).map (fun d => d.parameters.length) = some 1 := ⟨by decide +kernel, by decide +kernel, by decide +kernel⟩
abbrev b_Md_thrown : ByteArray := prog_9_method_2_code
def y_Md_thrown : MethodName := ⟨R_Md, "thrown", "()I"⟩
def w_Md_thrown : List Cond := .code y_Md_thrown b_Md_thrown 1 (some .int) :: TT
def rm_Md_thrown : Room := { frames := 0, cells := 0, slots := 0, locals := 0 }
theorem gd_Md_thrown {h : Cond} : GoodIn (h :: TT) w_Md_thrown := gd_of wd_904
theorem dd_Md_thrown : y_Md_thrown.cls ≠ "java/lang/invoke/MethodHandle" ∧ y_Md_thrown.cls ≠ "java/lang/invoke/VarHandle" ∧ (parseMethodDescriptor y_Md_thrown.desc).map (fun d => d.parameters.length) = some 0 := ⟨by decide +kernel, by decide +kernel, by decide +kernel⟩
abbrev b_Md_fail : ByteArray := prog_9_method_3_code
def y_Md_fail : MethodName := ⟨R_Md, "fail", "(I)I"⟩
def w_Md_fail : List Cond := .code y_Md_fail b_Md_fail 2 (some .int) :: TT
def rm_Md_fail : Room := { frames := 0, cells := 0, slots := 0, locals := 0 }
theorem gd_Md_fail {h : Cond} : GoodIn (h :: TT) w_Md_fail := gd_of wd_920
theorem dd_Md_fail : y_Md_fail.cls ≠ "java/lang/invoke/MethodHandle" ∧ y_Md_fail.cls ≠ "java/lang/invoke/VarHandle" ∧ (parseMethodDescriptor y_Md_fail.desc).map (fun d => d.parameters.length) = some 1 := ⟨by decide +kernel, by decide +kernel, by decide +kernel⟩
abbrev b_Md_within : ByteArray := prog_9_method_4_code
def y_Md_within : MethodName := ⟨R_Md, "within", "(III)Z"⟩
def w_Md_within : List Cond := .code y_Md_within b_Md_within 3 (some .boolean) :: TT
def rm_Md_within : Room := { frames := 0, cells := 0, slots := 0, locals := 0 }
theorem gd_Md_within {h : Cond} : GoodIn (h :: TT) w_Md_within := gd_of wd_916
theorem dd_Md_within : y_Md_within.cls ≠ "java/lang/invoke/MethodHandle" ∧ y_Md_within.cls ≠ "java/lang/invoke/VarHandle" ∧ (parseMethodDescriptor y_Md_within.desc).map (fun d => d.parameters.length) = some 3 := ⟨by decide +kernel, by decide +kernel, by decide +kernel⟩
abbrev b_Md_isFar : ByteArray := prog_9_method_5_code
def y_Md_isFar : MethodName := ⟨R_Md, "isFar", "(II)Z"⟩
def w_Md_isFar : List Cond := .code y_Md_isFar b_Md_isFar 2 (some .boolean) :: TT
def rm_Md_isFar : Room := { frames := 1, cells := 0, slots := 0, locals := 22 }
theorem gd_Md_isFar {h : Cond} : GoodIn (h :: TT) w_Md_isFar := gd_of wd_911
theorem dd_Md_isFar : y_Md_isFar.cls ≠ "java/lang/invoke/MethodHandle" ∧ y_Md_isFar.cls ≠ "java/lang/invoke/VarHandle" ∧ (parseMethodDescriptor y_Md_isFar.desc).map (fun d => d.parameters.length) = some 2 := ⟨by decide +kernel, by decide +kernel, by decide +kernel⟩
abbrev b_Md_sign : ByteArray := prog_9_method_6_code
def y_Md_sign : MethodName := ⟨R_Md, "sign", "(J)I"⟩
def w_Md_sign : List Cond := .code y_Md_sign b_Md_sign 2 (some .int) :: TT
def rm_Md_sign : Room := { frames := 0, cells := 0, slots := 0, locals := 0 }
theorem gd_Md_sign {h : Cond} : GoodIn (h :: TT) w_Md_sign := gd_of wd_974
theorem dd_Md_sign : y_Md_sign.cls ≠ "java/lang/invoke/MethodHandle" ∧ y_Md_sign.cls ≠ "java/lang/invoke/VarHandle" ∧ (parseMethodDescriptor y_Md_sign.desc).map (fun d => d.parameters.length) = some 1 := ⟨by decide +kernel, by decide +kernel, by decide +kernel⟩
abbrev b_Md_cross : ByteArray := prog_9_method_7_code
def y_Md_cross : MethodName := ⟨R_Md, "cross", "(JJJJ)J"⟩
def w_Md_cross : List Cond := .code y_Md_cross b_Md_cross 8 (some .long) :: TT
def rm_Md_cross : Room := { frames := 0, cells := 0, slots := 0, locals := 0 }
theorem gd_Md_cross {h : Cond} : GoodIn (h :: TT) w_Md_cross := gd_of wd_971
theorem dd_Md_cross : y_Md_cross.cls ≠ "java/lang/invoke/MethodHandle" ∧ y_Md_cross.cls ≠ "java/lang/invoke/VarHandle" ∧ (parseMethodDescriptor y_Md_cross.desc).map (fun d => d.parameters.length) = some 4 := ⟨by decide +kernel, by decide +kernel, by decide +kernel⟩
abbrev b_Md_side : ByteArray := prog_9_method_8_code
def y_Md_side : MethodName := ⟨R_Md, "side", "(IIII)I"⟩
def w_Md_side : List Cond := .code y_Md_side b_Md_side 5 (some .int) :: TT
def rm_Md_side : Room := { frames := 1, cells := 0, slots := 0, locals := 27 }
theorem gd_Md_side {h : Cond} : GoodIn (h :: TT) w_Md_side := gd_of wd_968
theorem dd_Md_side : y_Md_side.cls ≠ "java/lang/invoke/MethodHandle" ∧ y_Md_side.cls ≠ "java/lang/invoke/VarHandle" ∧ (parseMethodDescriptor y_Md_side.desc).map (fun d => d.parameters.length) = some 4 := ⟨by decide +kernel, by decide +kernel, by decide +kernel⟩
abbrev b_Md_sideOf : ByteArray := prog_9_method_9_code
def y_Md_sideOf : MethodName := ⟨R_Md, "sideOf", "(III)I"⟩
def w_Md_sideOf : List Cond := .code y_Md_sideOf b_Md_sideOf 4 (some .int) :: TT
def rm_Md_sideOf : Room := { frames := 2, cells := 0, slots := 0, locals := 51 }
theorem gd_Md_sideOf {h : Cond} : GoodIn (h :: TT) w_Md_sideOf := gd_of wd_964
theorem dd_Md_sideOf : y_Md_sideOf.cls ≠ "java/lang/invoke/MethodHandle" ∧ y_Md_sideOf.cls ≠ "java/lang/invoke/VarHandle" ∧ (parseMethodDescriptor y_Md_sideOf.desc).map (fun d => d.parameters.length) = some 3 := ⟨by decide +kernel, by decide +kernel, by decide +kernel⟩
abbrev b_Md_product : ByteArray := prog_9_method_10_code
def y_Md_product : MethodName := ⟨R_Md, "product", "(JJ)V"⟩
def w_Md_product : List Cond := .code y_Md_product b_Md_product 17 none :: TT
def rm_Md_product : Room := { frames := 0, cells := 0, slots := 0, locals := 0 }
theorem gd_Md_product {h : Cond} : GoodIn (h :: TT) w_Md_product := gd_of wd_998
theorem dd_Md_product : y_Md_product.cls ≠ "java/lang/invoke/MethodHandle" ∧ y_Md_product.cls ≠ "java/lang/invoke/VarHandle" ∧ (parseMethodDescriptor y_Md_product.desc).map (fun d => d.parameters.length) = some 2 := ⟨by decide +kernel, by decide +kernel, by decide +kernel⟩
abbrev b_Md_signOfSum : ByteArray := prog_9_method_11_code
def y_Md_signOfSum : MethodName := ⟨R_Md, "signOfSum", "()I"⟩
def w_Md_signOfSum : List Cond := .code y_Md_signOfSum b_Md_signOfSum 1 (some .int) :: TT
def rm_Md_signOfSum : Room := { frames := 1, cells := 0, slots := 0, locals := 21 }
theorem gd_Md_signOfSum {h : Cond} : GoodIn (h :: TT) w_Md_signOfSum := gd_of wd_1003
theorem dd_Md_signOfSum : y_Md_signOfSum.cls ≠ "java/lang/invoke/MethodHandle" ∧ y_Md_signOfSum.cls ≠ "java/lang/invoke/VarHandle" ∧ (parseMethodDescriptor y_Md_signOfSum.desc).map (fun d => d.parameters.length) = some 0 := ⟨by decide +kernel, by decide +kernel, by decide +kernel⟩
abbrev b_Md_part : ByteArray := prog_9_method_12_code
def y_Md_part : MethodName := ⟨R_Md, "part", "(IIII)V"⟩
def w_Md_part : List Cond := .code y_Md_part b_Md_part 9 none :: TT
def rm_Md_part : Room := { frames := 1, cells := 0, slots := 0, locals := 36 }
theorem gd_Md_part {h : Cond} : GoodIn (h :: TT) w_Md_part := gd_of wd_994
theorem dd_Md_part : y_Md_part.cls ≠ "java/lang/invoke/MethodHandle" ∧ y_Md_part.cls ≠ "java/lang/invoke/VarHandle" ∧ (parseMethodDescriptor y_Md_part.desc).map (fun d => d.parameters.length) = some 4 := ⟨by decide +kernel, by decide +kernel, by decide +kernel⟩
abbrev b_Md_inCircle : ByteArray := prog_9_method_13_code
def y_Md_inCircle : MethodName := ⟨R_Md, "inCircle", "(IIII)I"⟩
def w_Md_inCircle : List Cond := .code y_Md_inCircle b_Md_inCircle 5 (some .int) :: TT
def rm_Md_inCircle : Room := { frames := 2, cells := 0, slots := 0, locals := 64 }
theorem gd_Md_inCircle {h : Cond} : GoodIn (h :: TT) w_Md_inCircle := gd_of wd_990
theorem dd_Md_inCircle : y_Md_inCircle.cls ≠ "java/lang/invoke/MethodHandle" ∧ y_Md_inCircle.cls ≠ "java/lang/invoke/VarHandle" ∧ (parseMethodDescriptor y_Md_inCircle.desc).map (fun d => d.parameters.length) = some 4 := ⟨by decide +kernel, by decide +kernel, by decide +kernel⟩
abbrev b_Md_isLess : ByteArray := prog_9_method_14_code
def y_Md_isLess : MethodName := ⟨R_Md, "isLess", "(II)Z"⟩
def w_Md_isLess : List Cond := .code y_Md_isLess b_Md_isLess 3 (some .boolean) :: TT
def rm_Md_isLess : Room := { frames := 0, cells := 0, slots := 0, locals := 0 }
theorem gd_Md_isLess {h : Cond} : GoodIn (h :: TT) w_Md_isLess := gd_of wd_956
theorem dd_Md_isLess : y_Md_isLess.cls ≠ "java/lang/invoke/MethodHandle" ∧ y_Md_isLess.cls ≠ "java/lang/invoke/VarHandle" ∧ (parseMethodDescriptor y_Md_isLess.desc).map (fun d => d.parameters.length) = some 2 := ⟨by decide +kernel, by decide +kernel, by decide +kernel⟩
abbrev b_Md_apart : ByteArray := prog_9_method_15_code
def y_Md_apart : MethodName := ⟨R_Md, "apart", "(III)J"⟩
def w_Md_apart : List Cond := .code y_Md_apart b_Md_apart 8 (some .long) :: TT
def rm_Md_apart : Room := { frames := 0, cells := 0, slots := 0, locals := 0 }
theorem gd_Md_apart {h : Cond} : GoodIn (h :: TT) w_Md_apart := gd_of wd_978
theorem dd_Md_apart : y_Md_apart.cls ≠ "java/lang/invoke/MethodHandle" ∧ y_Md_apart.cls ≠ "java/lang/invoke/VarHandle" ∧ (parseMethodDescriptor y_Md_apart.desc).map (fun d => d.parameters.length) = some 3 := ⟨by decide +kernel, by decide +kernel, by decide +kernel⟩
abbrev b_Md_findPoint : ByteArray := prog_9_method_16_code
def y_Md_findPoint : MethodName := ⟨R_Md, "findPoint", "(II)I"⟩
def w_Md_findPoint : List Cond := .code y_Md_findPoint b_Md_findPoint 5 (some .int) :: TT
def rm_Md_findPoint : Room := { frames := 0, cells := 0, slots := 0, locals := 0 }
theorem gd_Md_findPoint {h : Cond} : GoodIn (h :: TT) w_Md_findPoint := gd_of wd_924
theorem dd_Md_findPoint : y_Md_findPoint.cls ≠ "java/lang/invoke/MethodHandle" ∧ y_Md_findPoint.cls ≠ "java/lang/invoke/VarHandle" ∧ (parseMethodDescriptor y_Md_findPoint.desc).map (fun d => d.parameters.length) = some 2 := ⟨by decide +kernel, by decide +kernel, by decide +kernel⟩
abbrev b_Md_forget : ByteArray := prog_9_method_17_code
def y_Md_forget : MethodName := ⟨R_Md, "forget", "()V"⟩
def w_Md_forget : List Cond := .code y_Md_forget b_Md_forget 2 none :: TT
def rm_Md_forget : Room := { frames := 0, cells := 0, slots := 0, locals := 0 }
theorem gd_Md_forget {h : Cond} : GoodIn (h :: TT) w_Md_forget := gd_of wd_928
theorem dd_Md_forget : y_Md_forget.cls ≠ "java/lang/invoke/MethodHandle" ∧ y_Md_forget.cls ≠ "java/lang/invoke/VarHandle" ∧ (parseMethodDescriptor y_Md_forget.desc).map (fun d => d.parameters.length) = some 0 := ⟨by decide +kernel, by decide +kernel, by decide +kernel⟩
abbrev b_Md_add : ByteArray := prog_9_method_18_code
def y_Md_add : MethodName := ⟨R_Md, "add", "(II)I"⟩
def w_Md_add : List Cond := .code y_Md_add b_Md_add 3 (some .int) :: TT
def rm_Md_add : Room := { frames := 2, cells := 0, slots := 0, locals := 43 }
theorem gd_Md_add {h : Cond} : GoodIn (h :: TT) w_Md_add := gd_of wd_908
theorem dd_Md_add : y_Md_add.cls ≠ "java/lang/invoke/MethodHandle" ∧ y_Md_add.cls ≠ "java/lang/invoke/VarHandle" ∧ (parseMethodDescriptor y_Md_add.desc).map (fun d => d.parameters.length) = some 2 := ⟨by decide +kernel, by decide +kernel, by decide +kernel⟩
abbrev b_Md_clear : ByteArray := prog_9_method_19_code
def y_Md_clear : MethodName := ⟨R_Md, "clear", "()I"⟩
def w_Md_clear : List Cond := .code y_Md_clear b_Md_clear 2 (some .int) :: TT
def rm_Md_clear : Room := { frames := 1, cells := 0, slots := 0, locals := 21 }
theorem gd_Md_clear {h : Cond} : GoodIn (h :: TT) w_Md_clear := gd_of wd_932
theorem dd_Md_clear : y_Md_clear.cls ≠ "java/lang/invoke/MethodHandle" ∧ y_Md_clear.cls ≠ "java/lang/invoke/VarHandle" ∧ (parseMethodDescriptor y_Md_clear.desc).map (fun d => d.parameters.length) = some 0 := ⟨by decide +kernel, by decide +kernel, by decide +kernel⟩
abbrev b_Md_find : ByteArray := prog_9_method_20_code
def y_Md_find : MethodName := ⟨R_Md, "find", "(II)I"⟩
def w_Md_find : List Cond := .code y_Md_find b_Md_find 3 (some .int) :: TT
def rm_Md_find : Room := { frames := 2, cells := 0, slots := 0, locals := 43 }
theorem gd_Md_find {h : Cond} : GoodIn (h :: TT) w_Md_find := gd_of wd_936
theorem dd_Md_find : y_Md_find.cls ≠ "java/lang/invoke/MethodHandle" ∧ y_Md_find.cls ≠ "java/lang/invoke/VarHandle" ∧ (parseMethodDescriptor y_Md_find.desc).map (fun d => d.parameters.length) = some 2 := ⟨by decide +kernel, by decide +kernel, by decide +kernel⟩
abbrev b_Md_least : ByteArray := prog_9_method_21_code
def y_Md_least : MethodName := ⟨R_Md, "least", "()I"⟩
def w_Md_least : List Cond := .code y_Md_least b_Md_least 3 (some .int) :: TT
def rm_Md_least : Room := { frames := 1, cells := 0, slots := 0, locals := 22 }
theorem gd_Md_least {h : Cond} : GoodIn (h :: TT) w_Md_least := gd_of wd_952
theorem dd_Md_least : y_Md_least.cls ≠ "java/lang/invoke/MethodHandle" ∧ y_Md_least.cls ≠ "java/lang/invoke/VarHandle" ∧ (parseMethodDescriptor y_Md_least.desc).map (fun d => d.parameters.length) = some 0 := ⟨by decide +kernel, by decide +kernel, by decide +kernel⟩
abbrev b_Md_cornerBehind : ByteArray := prog_9_method_22_code
def y_Md_cornerBehind : MethodName := ⟨R_Md, "cornerBehind", "(I)I"⟩
def w_Md_cornerBehind : List Cond := .code y_Md_cornerBehind b_Md_cornerBehind 5 (some .int) :: TT
def rm_Md_cornerBehind : Room := { frames := 3, cells := 0, slots := 0, locals := 74 }
theorem gd_Md_cornerBehind {h : Cond} : GoodIn (h :: TT) w_Md_cornerBehind := gd_of wd_960
theorem dd_Md_cornerBehind : y_Md_cornerBehind.cls ≠ "java/lang/invoke/MethodHandle" ∧ y_Md_cornerBehind.cls ≠ "java/lang/invoke/VarHandle" ∧ (parseMethodDescriptor y_Md_cornerBehind.desc).map (fun d => d.parameters.length) = some 1 := ⟨by decide +kernel, by decide +kernel, by decide +kernel⟩
abbrev b_Md_findCorners : ByteArray := prog_9_method_23_code
def y_Md_findCorners : MethodName := ⟨R_Md, "findCorners", "()V"⟩
def w_Md_findCorners : List Cond := .code y_Md_findCorners b_Md_findCorners 4 none :: TT
def rm_Md_findCorners : Room := { frames := 4, cells := 0, slots := 0, locals := 98 }
theorem gd_Md_findCorners {h : Cond} : GoodIn (h :: TT) w_Md_findCorners := gd_of wd_948
theorem dd_Md_findCorners : y_Md_findCorners.cls ≠ "java/lang/invoke/MethodHandle" ∧ y_Md_findCorners.cls ≠ "java/lang/invoke/VarHandle" ∧ (parseMethodDescriptor y_Md_findCorners.desc).map (fun d => d.parameters.length) = some 0 := ⟨by decide +kernel, by decide +kernel, by decide +kernel⟩
abbrev b_Md_isCelled : ByteArray := prog_9_method_24_code
def y_Md_isCelled : MethodName := ⟨R_Md, "isCelled", "(I)Z"⟩
def w_Md_isCelled : List Cond := .code y_Md_isCelled b_Md_isCelled 4 (some .boolean) :: TT
def rm_Md_isCelled : Room := { frames := 0, cells := 0, slots := 0, locals := 0 }
theorem gd_Md_isCelled {h : Cond} : GoodIn (h :: TT) w_Md_isCelled := gd_of wd_1011
theorem dd_Md_isCelled : y_Md_isCelled.cls ≠ "java/lang/invoke/MethodHandle" ∧ y_Md_isCelled.cls ≠ "java/lang/invoke/VarHandle" ∧ (parseMethodDescriptor y_Md_isCelled.desc).map (fun d => d.parameters.length) = some 1 := ⟨by decide +kernel, by decide +kernel, by decide +kernel⟩
abbrev b_Md_findCell : ByteArray := prog_9_method_25_code
def y_Md_findCell : MethodName := ⟨R_Md, "findCell", "(III)V"⟩
def w_Md_findCell : List Cond := .code y_Md_findCell b_Md_findCell 8 none :: TT
def rm_Md_findCell : Room := { frames := 3, cells := 0, slots := 0, locals := 88 }
theorem gd_Md_findCell {h : Cond} : GoodIn (h :: TT) w_Md_findCell := gd_of wd_1007
theorem dd_Md_findCell : y_Md_findCell.cls ≠ "java/lang/invoke/MethodHandle" ∧ y_Md_findCell.cls ≠ "java/lang/invoke/VarHandle" ∧ (parseMethodDescriptor y_Md_findCell.desc).map (fun d => d.parameters.length) = some 3 := ⟨by decide +kernel, by decide +kernel, by decide +kernel⟩
abbrev b_Md_isSide : ByteArray := prog_9_method_26_code
def y_Md_isSide : MethodName := ⟨R_Md, "isSide", "(II)Z"⟩
def w_Md_isSide : List Cond := .code y_Md_isSide b_Md_isSide 5 (some .boolean) :: TT
def rm_Md_isSide : Room := { frames := 0, cells := 0, slots := 0, locals := 0 }
theorem gd_Md_isSide {h : Cond} : GoodIn (h :: TT) w_Md_isSide := gd_of wd_986
theorem dd_Md_isSide : y_Md_isSide.cls ≠ "java/lang/invoke/MethodHandle" ∧ y_Md_isSide.cls ≠ "java/lang/invoke/VarHandle" ∧ (parseMethodDescriptor y_Md_isSide.desc).map (fun d => d.parameters.length) = some 2 := ⟨by decide +kernel, by decide +kernel, by decide +kernel⟩
abbrev b_Md_tell : ByteArray := prog_9_method_27_code
def y_Md_tell : MethodName := ⟨R_Md, "tell", "(III)V"⟩
def w_Md_tell : List Cond := .code y_Md_tell b_Md_tell 6 none :: TT
def rm_Md_tell : Room := { frames := 0, cells := 0, slots := 0, locals := 0 }
theorem gd_Md_tell {h : Cond} : GoodIn (h :: TT) w_Md_tell := gd_of wd_1015
theorem dd_Md_tell : y_Md_tell.cls ≠ "java/lang/invoke/MethodHandle" ∧ y_Md_tell.cls ≠ "java/lang/invoke/VarHandle" ∧ (parseMethodDescriptor y_Md_tell.desc).map (fun d => d.parameters.length) = some 3 := ⟨by decide +kernel, by decide +kernel, by decide +kernel⟩
abbrev b_Md_look : ByteArray := prog_9_method_28_code
def y_Md_look : MethodName := ⟨R_Md, "look", "(II)V"⟩
def w_Md_look : List Cond := .code y_Md_look b_Md_look 5 none :: TT
def rm_Md_look : Room := { frames := 4, cells := 0, slots := 0, locals := 115 }
theorem gd_Md_look {h : Cond} : GoodIn (h :: TT) w_Md_look := gd_of wd_982
theorem dd_Md_look : y_Md_look.cls ≠ "java/lang/invoke/MethodHandle" ∧ y_Md_look.cls ≠ "java/lang/invoke/VarHandle" ∧ (parseMethodDescriptor y_Md_look.desc).map (fun d => d.parameters.length) = some 2 := ⟨by decide +kernel, by decide +kernel, by decide +kernel⟩
abbrev b_Md_isBefore : ByteArray := prog_9_method_29_code
def y_Md_isBefore : MethodName := ⟨R_Md, "isBefore", "(II)Z"⟩
def w_Md_isBefore : List Cond := .code y_Md_isBefore b_Md_isBefore 3 (some .boolean) :: TT
def rm_Md_isBefore : Room := { frames := 0, cells := 0, slots := 0, locals := 0 }
theorem gd_Md_isBefore {h : Cond} : GoodIn (h :: TT) w_Md_isBefore := gd_of wd_1023
theorem dd_Md_isBefore : y_Md_isBefore.cls ≠ "java/lang/invoke/MethodHandle" ∧ y_Md_isBefore.cls ≠ "java/lang/invoke/VarHandle" ∧ (parseMethodDescriptor y_Md_isBefore.desc).map (fun d => d.parameters.length) = some 2 := ⟨by decide +kernel, by decide +kernel, by decide +kernel⟩
abbrev b_Md_swap : ByteArray := prog_9_method_30_code
def y_Md_swap : MethodName := ⟨R_Md, "swap", "(I)V"⟩
def w_Md_swap : List Cond := .code y_Md_swap b_Md_swap 5 none :: TT
def rm_Md_swap : Room := { frames := 0, cells := 0, slots := 0, locals := 0 }
theorem gd_Md_swap {h : Cond} : GoodIn (h :: TT) w_Md_swap := gd_of wd_1027
theorem dd_Md_swap : y_Md_swap.cls ≠ "java/lang/invoke/MethodHandle" ∧ y_Md_swap.cls ≠ "java/lang/invoke/VarHandle" ∧ (parseMethodDescriptor y_Md_swap.desc).map (fun d => d.parameters.length) = some 1 := ⟨by decide +kernel, by decide +kernel, by decide +kernel⟩
abbrev b_Md_sort : ByteArray := prog_9_method_31_code
def y_Md_sort : MethodName := ⟨R_Md, "sort", "()V"⟩
def w_Md_sort : List Cond := .code y_Md_sort b_Md_sort 3 none :: TT
def rm_Md_sort : Room := { frames := 1, cells := 0, slots := 0, locals := 24 }
theorem gd_Md_sort {h : Cond} : GoodIn (h :: TT) w_Md_sort := gd_of wd_1019
theorem dd_Md_sort : y_Md_sort.cls ≠ "java/lang/invoke/MethodHandle" ∧ y_Md_sort.cls ≠ "java/lang/invoke/VarHandle" ∧ (parseMethodDescriptor y_Md_sort.desc).map (fun d => d.parameters.length) = some 0 := ⟨by decide +kernel, by decide +kernel, by decide +kernel⟩
abbrev b_Md_know : ByteArray := prog_9_method_32_code
def y_Md_know : MethodName := ⟨R_Md, "know", "()V"⟩
def w_Md_know : List Cond := .code y_Md_know b_Md_know 4 none :: TT
def rm_Md_know : Room := { frames := 5, cells := 0, slots := 0, locals := 139 }
theorem gd_Md_know {h : Cond} : GoodIn (h :: TT) w_Md_know := gd_of wd_944
theorem dd_Md_know : y_Md_know.cls ≠ "java/lang/invoke/MethodHandle" ∧ y_Md_know.cls ≠ "java/lang/invoke/VarHandle" ∧ (parseMethodDescriptor y_Md_know.desc).map (fun d => d.parameters.length) = some 0 := ⟨by decide +kernel, by decide +kernel, by decide +kernel⟩
abbrev b_Md_triangle : ByteArray := prog_9_method_33_code
def y_Md_triangle : MethodName := ⟨R_Md, "triangle", "(II)I"⟩
def w_Md_triangle : List Cond := .code y_Md_triangle b_Md_triangle 3 (some .int) :: TT
def rm_Md_triangle : Room := { frames := 6, cells := 0, slots := 0, locals := 162 }
theorem gd_Md_triangle {h : Cond} : GoodIn (h :: TT) w_Md_triangle := gd_of wd_940
theorem dd_Md_triangle : y_Md_triangle.cls ≠ "java/lang/invoke/MethodHandle" ∧ y_Md_triangle.cls ≠ "java/lang/invoke/VarHandle" ∧ (parseMethodDescriptor y_Md_triangle.desc).map (fun d => d.parameters.length) = some 2 := ⟨by decide +kernel, by decide +kernel, by decide +kernel⟩
abbrev b_Md_corner : ByteArray := prog_9_method_34_code
def y_Md_corner : MethodName := ⟨R_Md, "corner", "(I)I"⟩
def w_Md_corner : List Cond := .code y_Md_corner b_Md_corner 2 (some .int) :: TT
def rm_Md_corner : Room := { frames := 6, cells := 0, slots := 0, locals := 162 }
theorem gd_Md_corner {h : Cond} : GoodIn (h :: TT) w_Md_corner := gd_of wd_1031
theorem dd_Md_corner : y_Md_corner.cls ≠ "java/lang/invoke/MethodHandle" ∧ y_Md_corner.cls ≠ "java/lang/invoke/VarHandle" ∧ (parseMethodDescriptor y_Md_corner.desc).map (fun d => d.parameters.length) = some 1 := ⟨by decide +kernel, by decide +kernel, by decide +kernel⟩
abbrev b_Md_isIn : ByteArray := prog_9_method_35_code
def y_Md_isIn : MethodName := ⟨R_Md, "isIn", "(II)Z"⟩
def w_Md_isIn : List Cond := .code y_Md_isIn b_Md_isIn 3 (some .boolean) :: TT
def rm_Md_isIn : Room := { frames := 0, cells := 0, slots := 0, locals := 0 }
theorem gd_Md_isIn {h : Cond} : GoodIn (h :: TT) w_Md_isIn := gd_of wd_1051
theorem dd_Md_isIn : y_Md_isIn.cls ≠ "java/lang/invoke/MethodHandle" ∧ y_Md_isIn.cls ≠ "java/lang/invoke/VarHandle" ∧ (parseMethodDescriptor y_Md_isIn.desc).map (fun d => d.parameters.length) = some 2 := ⟨by decide +kernel, by decide +kernel, by decide +kernel⟩
abbrev b_Md_isOn : ByteArray := prog_9_method_36_code
def y_Md_isOn : MethodName := ⟨R_Md, "isOn", "(IIII)Z"⟩
def w_Md_isOn : List Cond := .code y_Md_isOn b_Md_isOn 7 (some .boolean) :: TT
def rm_Md_isOn : Room := { frames := 2, cells := 0, slots := 0, locals := 51 }
theorem gd_Md_isOn {h : Cond} : GoodIn (h :: TT) w_Md_isOn := gd_of wd_1047
theorem dd_Md_isOn : y_Md_isOn.cls ≠ "java/lang/invoke/MethodHandle" ∧ y_Md_isOn.cls ≠ "java/lang/invoke/VarHandle" ∧ (parseMethodDescriptor y_Md_isOn.desc).map (fun d => d.parameters.length) = some 4 := ⟨by decide +kernel, by decide +kernel, by decide +kernel⟩
abbrev b_Md_areNeighbours : ByteArray := prog_9_method_37_code
def y_Md_areNeighbours : MethodName := ⟨R_Md, "areNeighbours", "(II)Z"⟩
def w_Md_areNeighbours : List Cond := .code y_Md_areNeighbours b_Md_areNeighbours 5 (some .boolean) :: TT
def rm_Md_areNeighbours : Room := { frames := 3, cells := 0, slots := 0, locals := 77 }
theorem gd_Md_areNeighbours {h : Cond} : GoodIn (h :: TT) w_Md_areNeighbours := gd_of wd_1043
theorem dd_Md_areNeighbours : y_Md_areNeighbours.cls ≠ "java/lang/invoke/MethodHandle" ∧ y_Md_areNeighbours.cls ≠ "java/lang/invoke/VarHandle" ∧ (parseMethodDescriptor y_Md_areNeighbours.desc).map (fun d => d.parameters.length) = some 2 := ⟨by decide +kernel, by decide +kernel, by decide +kernel⟩
abbrev b_Md_isSooner : ByteArray := prog_9_method_38_code
def y_Md_isSooner : MethodName := ⟨R_Md, "isSooner", "(IIII)Z"⟩
def w_Md_isSooner : List Cond := .code y_Md_isSooner b_Md_isSooner 19 (some .boolean) :: TT
def rm_Md_isSooner : Room := { frames := 1, cells := 0, slots := 0, locals := 27 }
theorem gd_Md_isSooner {h : Cond} : GoodIn (h :: TT) w_Md_isSooner := gd_of wd_1055
theorem dd_Md_isSooner : y_Md_isSooner.cls ≠ "java/lang/invoke/MethodHandle" ∧ y_Md_isSooner.cls ≠ "java/lang/invoke/VarHandle" ∧ (parseMethodDescriptor y_Md_isSooner.desc).map (fun d => d.parameters.length) = some 4 := ⟨by decide +kernel, by decide +kernel, by decide +kernel⟩
abbrev b_Md_findNeighbours : ByteArray := prog_9_method_39_code
def y_Md_findNeighbours : MethodName := ⟨R_Md, "findNeighbours", "(I)V"⟩
def w_Md_findNeighbours : List Cond := .code y_Md_findNeighbours b_Md_findNeighbours 5 none :: TT
def rm_Md_findNeighbours : Room := { frames := 6, cells := 0, slots := 0, locals := 162 }
theorem gd_Md_findNeighbours {h : Cond} : GoodIn (h :: TT) w_Md_findNeighbours := gd_of wd_1039
theorem dd_Md_findNeighbours : y_Md_findNeighbours.cls ≠ "java/lang/invoke/MethodHandle" ∧ y_Md_findNeighbours.cls ≠ "java/lang/invoke/VarHandle" ∧ (parseMethodDescriptor y_Md_findNeighbours.desc).map (fun d => d.parameters.length) = some 1 := ⟨by decide +kernel, by decide +kernel, by decide +kernel⟩
abbrev b_Md_neighbours : ByteArray := prog_9_method_40_code
def y_Md_neighbours : MethodName := ⟨R_Md, "neighbours", "(I)I"⟩
def w_Md_neighbours : List Cond := .code y_Md_neighbours b_Md_neighbours 2 (some .int) :: TT
def rm_Md_neighbours : Room := { frames := 7, cells := 0, slots := 0, locals := 186 }
theorem gd_Md_neighbours {h : Cond} : GoodIn (h :: TT) w_Md_neighbours := gd_of wd_1035
theorem dd_Md_neighbours : y_Md_neighbours.cls ≠ "java/lang/invoke/MethodHandle" ∧ y_Md_neighbours.cls ≠ "java/lang/invoke/VarHandle" ∧ (parseMethodDescriptor y_Md_neighbours.desc).map (fun d => d.parameters.length) = some 1 := ⟨by decide +kernel, by decide +kernel, by decide +kernel⟩
abbrev b_Md_neighbour : ByteArray := prog_9_method_41_code
def y_Md_neighbour : MethodName := ⟨R_Md, "neighbour", "(II)I"⟩
def w_Md_neighbour : List Cond := .code y_Md_neighbour b_Md_neighbour 3 (some .int) :: TT
def rm_Md_neighbour : Room := { frames := 7, cells := 0, slots := 0, locals := 186 }
theorem gd_Md_neighbour {h : Cond} : GoodIn (h :: TT) w_Md_neighbour := gd_of wd_1059
theorem dd_Md_neighbour : y_Md_neighbour.cls ≠ "java/lang/invoke/MethodHandle" ∧ y_Md_neighbour.cls ≠ "java/lang/invoke/VarHandle" ∧ (parseMethodDescriptor y_Md_neighbour.desc).map (fun d => d.parameters.length) = some 2 := ⟨by decide +kernel, by decide +kernel, by decide +kernel⟩
abbrev b_Md_found : ByteArray := prog_9_method_42_code
def y_Md_found : MethodName := ⟨R_Md, "found", "(IIII)I"⟩
def w_Md_found : List Cond := .code y_Md_found b_Md_found 5 (some .int) :: TT
def rm_Md_found : Room := { frames := 0, cells := 0, slots := 0, locals := 0 }
theorem gd_Md_found {h : Cond} : GoodIn (h :: TT) w_Md_found := gd_of wd_1067
theorem dd_Md_found : y_Md_found.cls ≠ "java/lang/invoke/MethodHandle" ∧ y_Md_found.cls ≠ "java/lang/invoke/VarHandle" ∧ (parseMethodDescriptor y_Md_found.desc).map (fun d => d.parameters.length) = some 4 := ⟨by decide +kernel, by decide +kernel, by decide +kernel⟩
abbrev b_Md_locate : ByteArray := prog_9_method_43_code
def y_Md_locate : MethodName := ⟨R_Md, "locate", "(II)I"⟩
def w_Md_locate : List Cond := .code y_Md_locate b_Md_locate 6 (some .int) :: TT
def rm_Md_locate : Room := { frames := 6, cells := 0, slots := 0, locals := 162 }
theorem gd_Md_locate {h : Cond} : GoodIn (h :: TT) w_Md_locate := gd_of wd_1063
theorem dd_Md_locate : y_Md_locate.cls ≠ "java/lang/invoke/MethodHandle" ∧ y_Md_locate.cls ≠ "java/lang/invoke/VarHandle" ∧ (parseMethodDescriptor y_Md_locate.desc).map (fun d => d.parameters.length) = some 2 := ⟨by decide +kernel, by decide +kernel, by decide +kernel⟩
abbrev b_Md_located : ByteArray := prog_9_method_44_code
def y_Md_located : MethodName := ⟨R_Md, "located", "(I)I"⟩
def w_Md_located : List Cond := .code y_Md_located b_Md_located 2 (some .int) :: TT
def rm_Md_located : Room := { frames := 1, cells := 0, slots := 0, locals := 22 }
theorem gd_Md_located {h : Cond} : GoodIn (h :: TT) w_Md_located := gd_of wd_1071
theorem dd_Md_located : y_Md_located.cls ≠ "java/lang/invoke/MethodHandle" ∧ y_Md_located.cls ≠ "java/lang/invoke/VarHandle" ∧ (parseMethodDescriptor y_Md_located.desc).map (fun d => d.parameters.length) = some 1 := ⟨by decide +kernel, by decide +kernel, by decide +kernel⟩
abbrev b_Md_nearest : ByteArray := prog_9_method_45_code
def y_Md_nearest : MethodName := ⟨R_Md, "nearest", "(II)I"⟩
def w_Md_nearest : List Cond := .code y_Md_nearest b_Md_nearest 5 (some .int) :: TT
def rm_Md_nearest : Room := { frames := 2, cells := 0, slots := 0, locals := 43 }
theorem gd_Md_nearest {h : Cond} : GoodIn (h :: TT) w_Md_nearest := gd_of wd_1075
theorem dd_Md_nearest : y_Md_nearest.cls ≠ "java/lang/invoke/MethodHandle" ∧ y_Md_nearest.cls ≠ "java/lang/invoke/VarHandle" ∧ (parseMethodDescriptor y_Md_nearest.desc).map (fun d => d.parameters.length) = some 2 := ⟨by decide +kernel, by decide +kernel, by decide +kernel⟩
abbrev b_Md_closest : ByteArray := prog_9_method_46_code
def y_Md_closest : MethodName := ⟨R_Md, "closest", "(I)J"⟩
def w_Md_closest : List Cond := .code y_Md_closest b_Md_closest 6 (some .long) :: TT
def rm_Md_closest : Room := { frames := 1, cells := 0, slots := 0, locals := 27 }
theorem gd_Md_closest {h : Cond} : GoodIn (h :: TT) w_Md_closest := gd_of wd_1079
theorem dd_Md_closest : y_Md_closest.cls ≠ "java/lang/invoke/MethodHandle" ∧ y_Md_closest.cls ≠ "java/lang/invoke/VarHandle" ∧ (parseMethodDescriptor y_Md_closest.desc).map (fun d => d.parameters.length) = some 1 := ⟨by decide +kernel, by decide +kernel, by decide +kernel⟩
abbrev b_Md_point : ByteArray := prog_9_method_47_code
def y_Md_point : MethodName := ⟨R_Md, "point", "(II)I"⟩
def w_Md_point : List Cond := .code y_Md_point b_Md_point 3 (some .int) :: TT
def rm_Md_point : Room := { frames := 1, cells := 0, slots := 0, locals := 22 }
theorem gd_Md_point {h : Cond} : GoodIn (h :: TT) w_Md_point := gd_of wd_1083
theorem dd_Md_point : y_Md_point.cls ≠ "java/lang/invoke/MethodHandle" ∧ y_Md_point.cls ≠ "java/lang/invoke/VarHandle" ∧ (parseMethodDescriptor y_Md_point.desc).map (fun d => d.parameters.length) = some 2 := ⟨by decide +kernel, by decide +kernel, by decide +kernel⟩
abbrev b_Md_count : ByteArray := prog_9_method_48_code
def y_Md_count : MethodName := ⟨R_Md, "count", "(I)I"⟩
def w_Md_count : List Cond := .code y_Md_count b_Md_count 2 (some .int) :: TT
def rm_Md_count : Room := { frames := 6, cells := 0, slots := 0, locals := 162 }
theorem gd_Md_count {h : Cond} : GoodIn (h :: TT) w_Md_count := gd_of wd_1087
theorem dd_Md_count : y_Md_count.cls ≠ "java/lang/invoke/MethodHandle" ∧ y_Md_count.cls ≠ "java/lang/invoke/VarHandle" ∧ (parseMethodDescriptor y_Md_count.desc).map (fun d => d.parameters.length) = some 1 := ⟨by decide +kernel, by decide +kernel, by decide +kernel⟩
abbrev b_Pn_init : ByteArray := prog_1_method_1_code
def y_Pn_init : MethodName := ⟨R_Pn, "<init>", "(I)V"⟩
def w_Pn_init : List Cond := .code y_Pn_init b_Pn_init 2 none :: TT
def rm_Pn_init : Room := { frames := 3, cells := 30, slots := 2362, locals := 73 }
theorem gd_Pn_init {h : Cond} : GoodIn (h :: TT) w_Pn_init := gd_of wd_84
theorem dd_Pn_init : y_Pn_init.cls ≠ "java/lang/invoke/MethodHandle" ∧ y_Pn_init.cls ≠ "java/lang/invoke/VarHandle" ∧ (parseMethodDescriptor y_Pn_init.desc).map (fun d => d.parameters.length) = some 1 := ⟨by decide +kernel, by decide +kernel, by decide +kernel⟩
abbrev b_Md_init : ByteArray := prog_9_method_1_code
def y_Md_init : MethodName := ⟨R_Md, "<init>", "(I)V"⟩
def w_Md_init : List Cond := .code y_Md_init b_Md_init 2 none :: TT
def rm_Md_init : Room := { frames := 1, cells := 11, slots := 23667, locals := 30 }
theorem gd_Md_init {h : Cond} : GoodIn (h :: TT) w_Md_init := gd_of wd_820
theorem dd_Md_init : y_Md_init.cls ≠ "java/lang/invoke/MethodHandle" ∧ y_Md_init.cls ≠ "java/lang/invoke/VarHandle" ∧ (parseMethodDescriptor y_Md_init.desc).map (fun d => d.parameters.length) = some 1 := ⟨by decide +kernel, by decide +kernel, by decide +kernel⟩
abbrev b_Nt_init : ByteArray := prog_2_method_1_code
def y_Nt_init : MethodName := ⟨R_Nt, "<init>", "(LPlaneNet$Points;)V"⟩
def w_Nt_init : List Cond := .code y_Nt_init b_Nt_init 2 none :: TT
def rm_Nt_init : Room := { frames := 2, cells := 12, slots := 1164, locals := 51 }
theorem gd_Nt_init {h : Cond} : GoodIn (h :: TT) w_Nt_init := gd_of wd_154
theorem dd_Nt_init : y_Nt_init.cls ≠ "java/lang/invoke/MethodHandle" ∧ y_Nt_init.cls ≠ "java/lang/invoke/VarHandle" ∧ (parseMethodDescriptor y_Nt_init.desc).map (fun d => d.parameters.length) = some 1 := ⟨by decide +kernel, by decide +kernel, by decide +kernel⟩
abbrev b_Ol_init : ByteArray := prog_3_method_1_code
def y_Ol_init : MethodName := ⟨R_Ol, "<init>", "(LPlaneNet$Points;LPlaneNet$Net;)V"⟩
def w_Ol_init : List Cond := .code y_Ol_init b_Ol_init 3 none :: TT
def rm_Ol_init : Room := { frames := 2, cells := 2, slots := 194, locals := 51 }
theorem gd_Ol_init {h : Cond} : GoodIn (h :: TT) w_Ol_init := gd_of wd_229
theorem dd_Ol_init : y_Ol_init.cls ≠ "java/lang/invoke/MethodHandle" ∧ y_Ol_init.cls ≠ "java/lang/invoke/VarHandle" ∧ (parseMethodDescriptor y_Ol_init.desc).map (fun d => d.parameters.length) = some 2 := ⟨by decide +kernel, by decide +kernel, by decide +kernel⟩
abbrev b_Pt_init : ByteArray := prog_4_method_1_code
def y_Pt_init : MethodName := ⟨R_Pt, "<init>", "(I)V"⟩
def w_Pt_init : List Cond := .code y_Pt_init b_Pt_init 2 none :: TT
def rm_Pt_init : Room := { frames := 2, cells := 5, slots := 390, locals := 51 }
theorem gd_Pt_init {h : Cond} : GoodIn (h :: TT) w_Pt_init := gd_of wd_98
theorem dd_Pt_init : y_Pt_init.cls ≠ "java/lang/invoke/MethodHandle" ∧ y_Pt_init.cls ≠ "java/lang/invoke/VarHandle" ∧ (parseMethodDescriptor y_Pt_init.desc).map (fun d => d.parameters.length) = some 1 := ⟨by decide +kernel, by decide +kernel, by decide +kernel⟩
abbrev b_Rl_init : ByteArray := prog_5_method_1_code
def y_Rl_init : MethodName := ⟨R_Rl, "<init>", "(LPlaneNet$Points;LPlaneNet$Net;)V"⟩
def w_Rl_init : List Cond := .code y_Rl_init b_Rl_init 3 none :: TT
def rm_Rl_init : Room := { frames := 2, cells := 6, slots := 582, locals := 51 }
theorem gd_Rl_init {h : Cond} : GoodIn (h :: TT) w_Rl_init := gd_of wd_202
theorem dd_Rl_init : y_Rl_init.cls ≠ "java/lang/invoke/MethodHandle" ∧ y_Rl_init.cls ≠ "java/lang/invoke/VarHandle" ∧ (parseMethodDescriptor y_Rl_init.desc).map (fun d => d.parameters.length) = some 2 := ⟨by decide +kernel, by decide +kernel, by decide +kernel⟩
abbrev b_Rw_init : ByteArray := prog_6_method_1_code
def y_Rw_init : MethodName := ⟨R_Rw, "<init>", "(I)V"⟩
def w_Rw_init : List Cond := .code y_Rw_init b_Rw_init 2 none :: TT
def rm_Rw_init : Room := { frames := 1, cells := 1, slots := 192, locals := 30 }
theorem gd_Rw_init {h : Cond} : GoodIn (h :: TT) w_Rw_init := gd_of wd_104
theorem dd_Rw_init : y_Rw_init.cls ≠ "java/lang/invoke/MethodHandle" ∧ y_Rw_init.cls ≠ "java/lang/invoke/VarHandle" ∧ (parseMethodDescriptor y_Rw_init.desc).map (fun d => d.parameters.length) = some 1 := ⟨by decide +kernel, by decide +kernel, by decide +kernel⟩
abbrev b_Wd_init : ByteArray := prog_7_method_1_code
def y_Wd_init : MethodName := ⟨R_Wd, "<init>", "()V"⟩
def w_Wd_init : List Cond := .code y_Wd_init b_Wd_init 1 none :: TT
def rm_Wd_init : Room := { frames := 1, cells := 0, slots := 0, locals := 30 }
theorem gd_Wd_init {h : Cond} : GoodIn (h :: TT) w_Wd_init := gd_of wd_119
theorem dd_Wd_init : y_Wd_init.cls ≠ "java/lang/invoke/MethodHandle" ∧ y_Wd_init.cls ≠ "java/lang/invoke/VarHandle" ∧ (parseMethodDescriptor y_Wd_init.desc).map (fun d => d.parameters.length) = some 0 := ⟨by decide +kernel, by decide +kernel, by decide +kernel⟩
end
section
theorem d_Rw_reach_0 : decode b_Rw_reach 0 = .ok (.aload_n 0, 1) := by decide +kernel
theorem d_Rw_reach_1 : decode b_Rw_reach 1 = .ok (.getfield 15, 3) := by decide +kernel
theorem d_Rw_reach_4 : decode b_Rw_reach 4 = .ok (.aload_n 0, 1) := by decide +kernel
theorem d_Rw_reach_5 : decode b_Rw_reach 5 = .ok (.getfield 11, 3) := by decide +kernel
theorem d_Rw_reach_8 : decode b_Rw_reach 8 = .ok (.arraylength, 1) := by decide +kernel
theorem d_Rw_reach_9 : decode b_Rw_reach 9 = .ok (.if_icmp .ge 40, 3) := by decide +kernel
theorem d_Rw_reach_12 : decode b_Rw_reach 12 = .ok (.aload_n 0, 1) := by decide +kernel
theorem d_Rw_reach_13 : decode b_Rw_reach 13 = .ok (.getfield 15, 3) := by decide +kernel
theorem d_Rw_reach_16 : decode b_Rw_reach 16 = .ok (.bipush 32, 2) := by decide +kernel
theorem d_Rw_reach_18 : decode b_Rw_reach 18 = .ok (.imul, 1) := by decide +kernel
theorem d_Rw_reach_19 : decode b_Rw_reach 19 = .ok (.iload_n 1, 1) := by decide +kernel
theorem d_Rw_reach_20 : decode b_Rw_reach 20 = .ok (.if_icmp .ge 29, 3) := by decide +kernel
theorem d_Rw_reach_23 : decode b_Rw_reach 23 = .ok (.aload_n 0, 1) := by decide +kernel
theorem d_Rw_reach_24 : decode b_Rw_reach 24 = .ok (.getfield 11, 3) := by decide +kernel
theorem d_Rw_reach_27 : decode b_Rw_reach 27 = .ok (.aload_n 0, 1) := by decide +kernel
theorem d_Rw_reach_28 : decode b_Rw_reach 28 = .ok (.getfield 15, 3) := by decide +kernel
theorem d_Rw_reach_31 : decode b_Rw_reach 31 = .ok (.bipush 32, 2) := by decide +kernel
theorem d_Rw_reach_33 : decode b_Rw_reach 33 = .ok (.newarray .int, 2) := by decide +kernel
theorem d_Rw_reach_35 : decode b_Rw_reach 35 = .ok (.aastore, 1) := by decide +kernel
theorem d_Rw_reach_36 : decode b_Rw_reach 36 = .ok (.aload_n 0, 1) := by decide +kernel
theorem d_Rw_reach_37 : decode b_Rw_reach 37 = .ok (.dup, 1) := by decide +kernel
theorem d_Rw_reach_38 : decode b_Rw_reach 38 = .ok (.getfield 15, 3) := by decide +kernel
theorem d_Rw_reach_41 : decode b_Rw_reach 41 = .ok (.iconst 1, 1) := by decide +kernel
theorem d_Rw_reach_42 : decode b_Rw_reach 42 = .ok (.iadd, 1) := by decide +kernel
theorem d_Rw_reach_43 : decode b_Rw_reach 43 = .ok (.putfield 15, 3) := by decide +kernel
theorem d_Rw_reach_46 : decode b_Rw_reach 46 = .ok (.goto (-46), 3) := by decide +kernel
theorem d_Rw_reach_49 : decode b_Rw_reach 49 = .ok (.return_, 1) := by decide +kernel
theorem d_Rw_get_0 : decode b_Rw_get 0 = .ok (.iload_n 1, 1) := by decide +kernel
theorem d_Rw_get_1 : decode b_Rw_get 1 = .ok (.ifCond .lt 15, 3) := by decide +kernel
theorem d_Rw_get_4 : decode b_Rw_get 4 = .ok (.iload_n 1, 1) := by decide +kernel
theorem d_Rw_get_5 : decode b_Rw_get 5 = .ok (.bipush 32, 2) := by decide +kernel
theorem d_Rw_get_7 : decode b_Rw_get 7 = .ok (.idiv, 1) := by decide +kernel
theorem d_Rw_get_8 : decode b_Rw_get 8 = .ok (.aload_n 0, 1) := by decide +kernel
theorem d_Rw_get_9 : decode b_Rw_get 9 = .ok (.getfield 11, 3) := by decide +kernel
theorem d_Rw_get_12 : decode b_Rw_get 12 = .ok (.arraylength, 1) := by decide +kernel
theorem d_Rw_get_13 : decode b_Rw_get 13 = .ok (.if_icmp .lt 5, 3) := by decide +kernel
theorem d_Rw_get_16 : decode b_Rw_get 16 = .ok (.iconst 0, 1) := by decide +kernel
theorem d_Rw_get_17 : decode b_Rw_get 17 = .ok (.ireturn, 1) := by decide +kernel
theorem d_Rw_get_18 : decode b_Rw_get 18 = .ok (.aload_n 0, 1) := by decide +kernel
theorem d_Rw_get_19 : decode b_Rw_get 19 = .ok (.getfield 11, 3) := by decide +kernel
theorem d_Rw_get_22 : decode b_Rw_get 22 = .ok (.iload_n 1, 1) := by decide +kernel
theorem d_Rw_get_23 : decode b_Rw_get 23 = .ok (.bipush 32, 2) := by decide +kernel
theorem d_Rw_get_25 : decode b_Rw_get 25 = .ok (.idiv, 1) := by decide +kernel
theorem d_Rw_get_26 : decode b_Rw_get 26 = .ok (.aaload, 1) := by decide +kernel
theorem d_Rw_get_27 : decode b_Rw_get 27 = .ok (.astore_n 2, 1) := by decide +kernel
theorem d_Rw_get_28 : decode b_Rw_get 28 = .ok (.iload_n 1, 1) := by decide +kernel
theorem d_Rw_get_29 : decode b_Rw_get 29 = .ok (.bipush 32, 2) := by decide +kernel
theorem d_Rw_get_31 : decode b_Rw_get 31 = .ok (.irem, 1) := by decide +kernel
theorem d_Rw_get_32 : decode b_Rw_get 32 = .ok (.istore_n 3, 1) := by decide +kernel
theorem d_Rw_get_33 : decode b_Rw_get 33 = .ok (.aload_n 2, 1) := by decide +kernel
theorem d_Rw_get_34 : decode b_Rw_get 34 = .ok (.ifnull 15, 3) := by decide +kernel
theorem d_Rw_get_37 : decode b_Rw_get 37 = .ok (.iload_n 3, 1) := by decide +kernel
theorem d_Rw_get_38 : decode b_Rw_get 38 = .ok (.aload_n 2, 1) := by decide +kernel
theorem d_Rw_get_39 : decode b_Rw_get 39 = .ok (.arraylength, 1) := by decide +kernel
theorem d_Rw_get_40 : decode b_Rw_get 40 = .ok (.if_icmp .ge 9, 3) := by decide +kernel
theorem d_Rw_get_43 : decode b_Rw_get 43 = .ok (.aload_n 2, 1) := by decide +kernel
theorem d_Rw_get_44 : decode b_Rw_get 44 = .ok (.iload_n 3, 1) := by decide +kernel
theorem d_Rw_get_45 : decode b_Rw_get 45 = .ok (.iaload, 1) := by decide +kernel
theorem d_Rw_get_46 : decode b_Rw_get 46 = .ok (.goto 4, 3) := by decide +kernel
theorem d_Rw_get_49 : decode b_Rw_get 49 = .ok (.iconst 0, 1) := by decide +kernel
theorem d_Rw_get_50 : decode b_Rw_get 50 = .ok (.ireturn, 1) := by decide +kernel
theorem d_Rw_put_0 : decode b_Rw_put 0 = .ok (.iload_n 1, 1) := by decide +kernel
theorem d_Rw_put_1 : decode b_Rw_put 1 = .ok (.ifCond .lt 15, 3) := by decide +kernel
theorem d_Rw_put_4 : decode b_Rw_put 4 = .ok (.iload_n 1, 1) := by decide +kernel
theorem d_Rw_put_5 : decode b_Rw_put 5 = .ok (.bipush 32, 2) := by decide +kernel
theorem d_Rw_put_7 : decode b_Rw_put 7 = .ok (.idiv, 1) := by decide +kernel
theorem d_Rw_put_8 : decode b_Rw_put 8 = .ok (.aload_n 0, 1) := by decide +kernel
theorem d_Rw_put_9 : decode b_Rw_put 9 = .ok (.getfield 11, 3) := by decide +kernel
theorem d_Rw_put_12 : decode b_Rw_put 12 = .ok (.arraylength, 1) := by decide +kernel
theorem d_Rw_put_13 : decode b_Rw_put 13 = .ok (.if_icmp .lt 4, 3) := by decide +kernel
theorem d_Rw_put_16 : decode b_Rw_put 16 = .ok (.return_, 1) := by decide +kernel
theorem d_Rw_put_17 : decode b_Rw_put 17 = .ok (.aload_n 0, 1) := by decide +kernel
theorem d_Rw_put_18 : decode b_Rw_put 18 = .ok (.getfield 11, 3) := by decide +kernel
theorem d_Rw_put_21 : decode b_Rw_put 21 = .ok (.iload_n 1, 1) := by decide +kernel
theorem d_Rw_put_22 : decode b_Rw_put 22 = .ok (.bipush 32, 2) := by decide +kernel
theorem d_Rw_put_24 : decode b_Rw_put 24 = .ok (.idiv, 1) := by decide +kernel
theorem d_Rw_put_25 : decode b_Rw_put 25 = .ok (.aaload, 1) := by decide +kernel
theorem d_Rw_put_26 : decode b_Rw_put 26 = .ok (.astore_n 3, 1) := by decide +kernel
theorem d_Rw_put_27 : decode b_Rw_put 27 = .ok (.iload_n 1, 1) := by decide +kernel
theorem d_Rw_put_28 : decode b_Rw_put 28 = .ok (.bipush 32, 2) := by decide +kernel
theorem d_Rw_put_30 : decode b_Rw_put 30 = .ok (.irem, 1) := by decide +kernel
theorem d_Rw_put_31 : decode b_Rw_put 31 = .ok (.istore 4, 2) := by decide +kernel
theorem d_Rw_put_33 : decode b_Rw_put 33 = .ok (.aload_n 3, 1) := by decide +kernel
theorem d_Rw_put_34 : decode b_Rw_put 34 = .ok (.ifnull 15, 3) := by decide +kernel
theorem d_Rw_put_37 : decode b_Rw_put 37 = .ok (.iload 4, 2) := by decide +kernel
theorem d_Rw_put_39 : decode b_Rw_put 39 = .ok (.aload_n 3, 1) := by decide +kernel
theorem d_Rw_put_40 : decode b_Rw_put 40 = .ok (.arraylength, 1) := by decide +kernel
theorem d_Rw_put_41 : decode b_Rw_put 41 = .ok (.if_icmp .ge 8, 3) := by decide +kernel
theorem d_Rw_put_44 : decode b_Rw_put 44 = .ok (.aload_n 3, 1) := by decide +kernel
theorem d_Rw_put_45 : decode b_Rw_put 45 = .ok (.iload 4, 2) := by decide +kernel
theorem d_Rw_put_47 : decode b_Rw_put 47 = .ok (.iload_n 2, 1) := by decide +kernel
theorem d_Rw_put_48 : decode b_Rw_put 48 = .ok (.iastore, 1) := by decide +kernel
theorem d_Rw_put_49 : decode b_Rw_put 49 = .ok (.return_, 1) := by decide +kernel
theorem d_Pn_checkPlace_0 : decode b_Pn_checkPlace 0 = .ok (.iload_n 0, 1) := by decide +kernel
theorem d_Pn_checkPlace_1 : decode b_Pn_checkPlace 1 = .ok (.ldc 181, 2) := by decide +kernel
theorem d_Pn_checkPlace_3 : decode b_Pn_checkPlace 3 = .ok (.if_icmp .lt 21, 3) := by decide +kernel
theorem d_Pn_checkPlace_6 : decode b_Pn_checkPlace 6 = .ok (.iload_n 0, 1) := by decide +kernel
theorem d_Pn_checkPlace_7 : decode b_Pn_checkPlace 7 = .ok (.ldc 182, 2) := by decide +kernel
theorem d_Pn_checkPlace_9 : decode b_Pn_checkPlace 9 = .ok (.if_icmp .gt 15, 3) := by decide +kernel
theorem d_Pn_checkPlace_12 : decode b_Pn_checkPlace 12 = .ok (.iload_n 1, 1) := by decide +kernel
theorem d_Pn_checkPlace_13 : decode b_Pn_checkPlace 13 = .ok (.ldc 181, 2) := by decide +kernel
theorem d_Pn_checkPlace_15 : decode b_Pn_checkPlace 15 = .ok (.if_icmp .lt 9, 3) := by decide +kernel
theorem d_Pn_checkPlace_18 : decode b_Pn_checkPlace 18 = .ok (.iload_n 1, 1) := by decide +kernel
theorem d_Pn_checkPlace_19 : decode b_Pn_checkPlace 19 = .ok (.ldc 182, 2) := by decide +kernel
theorem d_Pn_checkPlace_21 : decode b_Pn_checkPlace 21 = .ok (.if_icmp .le 13, 3) := by decide +kernel
theorem d_Pn_checkPlace_24 : decode b_Pn_checkPlace 24 = .ok (.new 183, 3) := by decide +kernel
theorem d_Pn_checkPlace_27 : decode b_Pn_checkPlace 27 = .ok (.dup, 1) := by decide +kernel
theorem d_Pn_checkPlace_28 : decode b_Pn_checkPlace 28 = .ok (.ldc 185, 2) := by decide +kernel
theorem d_Pn_checkPlace_30 : decode b_Pn_checkPlace 30 = .ok (.invokespecial 187, 3) := by decide +kernel
theorem d_Pn_checkPlace_33 : decode b_Pn_checkPlace 33 = .ok (.athrow, 1) := by decide +kernel
theorem d_Pn_checkPlace_34 : decode b_Pn_checkPlace 34 = .ok (.return_, 1) := by decide +kernel
theorem d_Pt_gap_0 : decode b_Pt_gap 0 = .ok (.aload_n 0, 1) := by decide +kernel
theorem d_Pt_gap_1 : decode b_Pt_gap 1 = .ok (.getfield 23, 3) := by decide +kernel
theorem d_Pt_gap_4 : decode b_Pt_gap 4 = .ok (.iload_n 1, 1) := by decide +kernel
theorem d_Pt_gap_5 : decode b_Pt_gap 5 = .ok (.invokevirtual 44, 3) := by decide +kernel
theorem d_Pt_gap_8 : decode b_Pt_gap 8 = .ok (.i2l, 1) := by decide +kernel
theorem d_Pt_gap_9 : decode b_Pt_gap 9 = .ok (.iload_n 2, 1) := by decide +kernel
theorem d_Pt_gap_10 : decode b_Pt_gap 10 = .ok (.i2l, 1) := by decide +kernel
theorem d_Pt_gap_11 : decode b_Pt_gap 11 = .ok (.lsub, 1) := by decide +kernel
theorem d_Pt_gap_12 : decode b_Pt_gap 12 = .ok (.lstore 4, 2) := by decide +kernel
theorem d_Pt_gap_14 : decode b_Pt_gap 14 = .ok (.aload_n 0, 1) := by decide +kernel
theorem d_Pt_gap_15 : decode b_Pt_gap 15 = .ok (.getfield 27, 3) := by decide +kernel
theorem d_Pt_gap_18 : decode b_Pt_gap 18 = .ok (.iload_n 1, 1) := by decide +kernel
theorem d_Pt_gap_19 : decode b_Pt_gap 19 = .ok (.invokevirtual 44, 3) := by decide +kernel
theorem d_Pt_gap_22 : decode b_Pt_gap 22 = .ok (.i2l, 1) := by decide +kernel
theorem d_Pt_gap_23 : decode b_Pt_gap 23 = .ok (.iload_n 3, 1) := by decide +kernel
theorem d_Pt_gap_24 : decode b_Pt_gap 24 = .ok (.i2l, 1) := by decide +kernel
theorem d_Pt_gap_25 : decode b_Pt_gap 25 = .ok (.lsub, 1) := by decide +kernel
theorem d_Pt_gap_26 : decode b_Pt_gap 26 = .ok (.lstore 6, 2) := by decide +kernel
theorem d_Pt_gap_28 : decode b_Pt_gap 28 = .ok (.lload 4, 2) := by decide +kernel
theorem d_Pt_gap_30 : decode b_Pt_gap 30 = .ok (.lload 4, 2) := by decide +kernel
theorem d_Pt_gap_32 : decode b_Pt_gap 32 = .ok (.lmul, 1) := by decide +kernel
theorem d_Pt_gap_33 : decode b_Pt_gap 33 = .ok (.lload 6, 2) := by decide +kernel
theorem d_Pt_gap_35 : decode b_Pt_gap 35 = .ok (.lload 6, 2) := by decide +kernel
theorem d_Pt_gap_37 : decode b_Pt_gap 37 = .ok (.lmul, 1) := by decide +kernel
theorem d_Pt_gap_38 : decode b_Pt_gap 38 = .ok (.ladd, 1) := by decide +kernel
theorem d_Pt_gap_39 : decode b_Pt_gap 39 = .ok (.lreturn, 1) := by decide +kernel
theorem d_Pt_nearestOf_0 : decode b_Pt_nearestOf 0 = .ok (.iconst (-1), 1) := by decide +kernel
theorem d_Pt_nearestOf_1 : decode b_Pt_nearestOf 1 = .ok (.istore 4, 2) := by decide +kernel
theorem d_Pt_nearestOf_3 : decode b_Pt_nearestOf 3 = .ok (.lconst 0, 1) := by decide +kernel
theorem d_Pt_nearestOf_4 : decode b_Pt_nearestOf 4 = .ok (.lstore 5, 2) := by decide +kernel
theorem d_Pt_nearestOf_6 : decode b_Pt_nearestOf 6 = .ok (.iconst 0, 1) := by decide +kernel
theorem d_Pt_nearestOf_7 : decode b_Pt_nearestOf 7 = .ok (.istore 7, 2) := by decide +kernel
theorem d_Pt_nearestOf_9 : decode b_Pt_nearestOf 9 = .ok (.iload 7, 2) := by decide +kernel
theorem d_Pt_nearestOf_11 : decode b_Pt_nearestOf 11 = .ok (.iload_n 1, 1) := by decide +kernel
theorem d_Pt_nearestOf_12 : decode b_Pt_nearestOf 12 = .ok (.if_icmp .ge 41, 3) := by decide +kernel
theorem d_Pt_nearestOf_15 : decode b_Pt_nearestOf 15 = .ok (.aload_n 0, 1) := by decide +kernel
theorem d_Pt_nearestOf_16 : decode b_Pt_nearestOf 16 = .ok (.iload 7, 2) := by decide +kernel
theorem d_Pt_nearestOf_18 : decode b_Pt_nearestOf 18 = .ok (.iload_n 2, 1) := by decide +kernel
theorem d_Pt_nearestOf_19 : decode b_Pt_nearestOf 19 = .ok (.iload_n 3, 1) := by decide +kernel
theorem d_Pt_nearestOf_20 : decode b_Pt_nearestOf 20 = .ok (.invokevirtual 48, 3) := by decide +kernel
theorem d_Pt_nearestOf_23 : decode b_Pt_nearestOf 23 = .ok (.lstore 8, 2) := by decide +kernel
theorem d_Pt_nearestOf_25 : decode b_Pt_nearestOf 25 = .ok (.iload 4, 2) := by decide +kernel
theorem d_Pt_nearestOf_27 : decode b_Pt_nearestOf 27 = .ok (.iconst (-1), 1) := by decide +kernel
theorem d_Pt_nearestOf_28 : decode b_Pt_nearestOf 28 = .ok (.if_icmp .eq 11, 3) := by decide +kernel
theorem d_Pt_nearestOf_31 : decode b_Pt_nearestOf 31 = .ok (.lload 8, 2) := by decide +kernel
theorem d_Pt_nearestOf_33 : decode b_Pt_nearestOf 33 = .ok (.lload 5, 2) := by decide +kernel
theorem d_Pt_nearestOf_35 : decode b_Pt_nearestOf 35 = .ok (.lcmp, 1) := by decide +kernel
theorem d_Pt_nearestOf_36 : decode b_Pt_nearestOf 36 = .ok (.ifCond .ge 11, 3) := by decide +kernel
theorem d_Pt_nearestOf_39 : decode b_Pt_nearestOf 39 = .ok (.iload 7, 2) := by decide +kernel
theorem d_Pt_nearestOf_41 : decode b_Pt_nearestOf 41 = .ok (.istore 4, 2) := by decide +kernel
theorem d_Pt_nearestOf_43 : decode b_Pt_nearestOf 43 = .ok (.lload 8, 2) := by decide +kernel
theorem d_Pt_nearestOf_45 : decode b_Pt_nearestOf 45 = .ok (.lstore 5, 2) := by decide +kernel
theorem d_Pt_nearestOf_47 : decode b_Pt_nearestOf 47 = .ok (.iinc 7 1, 3) := by decide +kernel
theorem d_Pt_nearestOf_50 : decode b_Pt_nearestOf 50 = .ok (.goto (-41), 3) := by decide +kernel
theorem d_Pt_nearestOf_53 : decode b_Pt_nearestOf 53 = .ok (.iload 4, 2) := by decide +kernel
theorem d_Pt_nearestOf_55 : decode b_Pt_nearestOf 55 = .ok (.ireturn, 1) := by decide +kernel
theorem d_Pt_isAt_0 : decode b_Pt_isAt 0 = .ok (.iload_n 1, 1) := by decide +kernel
theorem d_Pt_isAt_1 : decode b_Pt_isAt 1 = .ok (.ifCond .lt 39, 3) := by decide +kernel
theorem d_Pt_isAt_4 : decode b_Pt_isAt 4 = .ok (.iload_n 1, 1) := by decide +kernel
theorem d_Pt_isAt_5 : decode b_Pt_isAt 5 = .ok (.aload_n 0, 1) := by decide +kernel
theorem d_Pt_isAt_6 : decode b_Pt_isAt 6 = .ok (.getfield 15, 3) := by decide +kernel
theorem d_Pt_isAt_9 : decode b_Pt_isAt 9 = .ok (.if_icmp .ge 31, 3) := by decide +kernel
theorem d_Pt_isAt_12 : decode b_Pt_isAt 12 = .ok (.aload_n 0, 1) := by decide +kernel
theorem d_Pt_isAt_13 : decode b_Pt_isAt 13 = .ok (.getfield 23, 3) := by decide +kernel
theorem d_Pt_isAt_16 : decode b_Pt_isAt 16 = .ok (.iload_n 1, 1) := by decide +kernel
theorem d_Pt_isAt_17 : decode b_Pt_isAt 17 = .ok (.invokevirtual 44, 3) := by decide +kernel
theorem d_Pt_isAt_20 : decode b_Pt_isAt 20 = .ok (.iload_n 2, 1) := by decide +kernel
theorem d_Pt_isAt_21 : decode b_Pt_isAt 21 = .ok (.if_icmp .ne 19, 3) := by decide +kernel
theorem d_Pt_isAt_24 : decode b_Pt_isAt 24 = .ok (.aload_n 0, 1) := by decide +kernel
theorem d_Pt_isAt_25 : decode b_Pt_isAt 25 = .ok (.getfield 27, 3) := by decide +kernel
theorem d_Pt_isAt_28 : decode b_Pt_isAt 28 = .ok (.iload_n 1, 1) := by decide +kernel
theorem d_Pt_isAt_29 : decode b_Pt_isAt 29 = .ok (.invokevirtual 44, 3) := by decide +kernel
theorem d_Pt_isAt_32 : decode b_Pt_isAt 32 = .ok (.iload_n 3, 1) := by decide +kernel
theorem d_Pt_isAt_33 : decode b_Pt_isAt 33 = .ok (.if_icmp .ne 7, 3) := by decide +kernel
theorem d_Pt_isAt_36 : decode b_Pt_isAt 36 = .ok (.iconst 1, 1) := by decide +kernel
theorem d_Pt_isAt_37 : decode b_Pt_isAt 37 = .ok (.goto 4, 3) := by decide +kernel
theorem d_Pt_isAt_40 : decode b_Pt_isAt 40 = .ok (.iconst 0, 1) := by decide +kernel
theorem d_Pt_isAt_41 : decode b_Pt_isAt 41 = .ok (.ireturn, 1) := by decide +kernel
theorem d_Pt_isFull_0 : decode b_Pt_isFull 0 = .ok (.aload_n 0, 1) := by decide +kernel
theorem d_Pt_isFull_1 : decode b_Pt_isFull 1 = .ok (.getfield 15, 3) := by decide +kernel
theorem d_Pt_isFull_4 : decode b_Pt_isFull 4 = .ok (.aload_n 0, 1) := by decide +kernel
theorem d_Pt_isFull_5 : decode b_Pt_isFull 5 = .ok (.getfield 9, 3) := by decide +kernel
theorem d_Pt_isFull_8 : decode b_Pt_isFull 8 = .ok (.if_icmp .lt 7, 3) := by decide +kernel
theorem d_Pt_isFull_11 : decode b_Pt_isFull 11 = .ok (.iconst 1, 1) := by decide +kernel
theorem d_Pt_isFull_12 : decode b_Pt_isFull 12 = .ok (.goto 4, 3) := by decide +kernel
theorem d_Pt_isFull_15 : decode b_Pt_isFull 15 = .ok (.iconst 0, 1) := by decide +kernel
theorem d_Pt_isFull_16 : decode b_Pt_isFull 16 = .ok (.ireturn, 1) := by decide +kernel
theorem d_Pt_makeRoom_0 : decode b_Pt_makeRoom 0 = .ok (.aload_n 0, 1) := by decide +kernel
theorem d_Pt_makeRoom_1 : decode b_Pt_makeRoom 1 = .ok (.getfield 23, 3) := by decide +kernel
theorem d_Pt_makeRoom_4 : decode b_Pt_makeRoom 4 = .ok (.iload_n 1, 1) := by decide +kernel
theorem d_Pt_makeRoom_5 : decode b_Pt_makeRoom 5 = .ok (.invokevirtual 37, 3) := by decide +kernel
theorem d_Pt_makeRoom_8 : decode b_Pt_makeRoom 8 = .ok (.aload_n 0, 1) := by decide +kernel
theorem d_Pt_makeRoom_9 : decode b_Pt_makeRoom 9 = .ok (.getfield 27, 3) := by decide +kernel
theorem d_Pt_makeRoom_12 : decode b_Pt_makeRoom 12 = .ok (.iload_n 1, 1) := by decide +kernel
theorem d_Pt_makeRoom_13 : decode b_Pt_makeRoom 13 = .ok (.invokevirtual 37, 3) := by decide +kernel
theorem d_Pt_makeRoom_16 : decode b_Pt_makeRoom 16 = .ok (.return_, 1) := by decide +kernel
theorem d_Nt_makeRoom_0 : decode b_Nt_makeRoom 0 = .ok (.aload_n 0, 1) := by decide +kernel
theorem d_Nt_makeRoom_1 : decode b_Nt_makeRoom 1 = .ok (.getfield 29, 3) := by decide +kernel
theorem d_Nt_makeRoom_4 : decode b_Nt_makeRoom 4 = .ok (.bipush 6, 2) := by decide +kernel
theorem d_Nt_makeRoom_6 : decode b_Nt_makeRoom 6 = .ok (.iload_n 1, 1) := by decide +kernel
theorem d_Nt_makeRoom_7 : decode b_Nt_makeRoom 7 = .ok (.imul, 1) := by decide +kernel
theorem d_Nt_makeRoom_8 : decode b_Nt_makeRoom 8 = .ok (.invokevirtual 71, 3) := by decide +kernel
theorem d_Nt_makeRoom_11 : decode b_Nt_makeRoom 11 = .ok (.aload_n 0, 1) := by decide +kernel
theorem d_Nt_makeRoom_12 : decode b_Nt_makeRoom 12 = .ok (.getfield 33, 3) := by decide +kernel
theorem d_Nt_makeRoom_15 : decode b_Nt_makeRoom 15 = .ok (.bipush 6, 2) := by decide +kernel
theorem d_Nt_makeRoom_17 : decode b_Nt_makeRoom 17 = .ok (.iload_n 1, 1) := by decide +kernel
theorem d_Nt_makeRoom_18 : decode b_Nt_makeRoom 18 = .ok (.imul, 1) := by decide +kernel
theorem d_Nt_makeRoom_19 : decode b_Nt_makeRoom 19 = .ok (.invokevirtual 71, 3) := by decide +kernel
theorem d_Nt_makeRoom_22 : decode b_Nt_makeRoom 22 = .ok (.aload_n 0, 1) := by decide +kernel
theorem d_Nt_makeRoom_23 : decode b_Nt_makeRoom 23 = .ok (.getfield 36, 3) := by decide +kernel
theorem d_Nt_makeRoom_26 : decode b_Nt_makeRoom 26 = .ok (.iload_n 1, 1) := by decide +kernel
theorem d_Nt_makeRoom_27 : decode b_Nt_makeRoom 27 = .ok (.iconst 1, 1) := by decide +kernel
theorem d_Nt_makeRoom_28 : decode b_Nt_makeRoom 28 = .ok (.iadd, 1) := by decide +kernel
theorem d_Nt_makeRoom_29 : decode b_Nt_makeRoom 29 = .ok (.invokevirtual 71, 3) := by decide +kernel
theorem d_Nt_makeRoom_32 : decode b_Nt_makeRoom 32 = .ok (.aload_n 0, 1) := by decide +kernel
theorem d_Nt_makeRoom_33 : decode b_Nt_makeRoom 33 = .ok (.getfield 39, 3) := by decide +kernel
theorem d_Nt_makeRoom_36 : decode b_Nt_makeRoom 36 = .ok (.iconst 2, 1) := by decide +kernel
theorem d_Nt_makeRoom_37 : decode b_Nt_makeRoom 37 = .ok (.iload_n 1, 1) := by decide +kernel
theorem d_Nt_makeRoom_38 : decode b_Nt_makeRoom 38 = .ok (.imul, 1) := by decide +kernel
theorem d_Nt_makeRoom_39 : decode b_Nt_makeRoom 39 = .ok (.invokevirtual 71, 3) := by decide +kernel
theorem d_Nt_makeRoom_42 : decode b_Nt_makeRoom 42 = .ok (.aload_n 0, 1) := by decide +kernel
theorem d_Nt_makeRoom_43 : decode b_Nt_makeRoom 43 = .ok (.getfield 42, 3) := by decide +kernel
theorem d_Nt_makeRoom_46 : decode b_Nt_makeRoom 46 = .ok (.iconst 2, 1) := by decide +kernel
theorem d_Nt_makeRoom_47 : decode b_Nt_makeRoom 47 = .ok (.iload_n 1, 1) := by decide +kernel
theorem d_Nt_makeRoom_48 : decode b_Nt_makeRoom 48 = .ok (.imul, 1) := by decide +kernel
theorem d_Nt_makeRoom_49 : decode b_Nt_makeRoom 49 = .ok (.invokevirtual 71, 3) := by decide +kernel
theorem d_Nt_makeRoom_52 : decode b_Nt_makeRoom 52 = .ok (.aload_n 0, 1) := by decide +kernel
theorem d_Nt_makeRoom_53 : decode b_Nt_makeRoom 53 = .ok (.getfield 45, 3) := by decide +kernel
theorem d_Nt_makeRoom_56 : decode b_Nt_makeRoom 56 = .ok (.iconst 2, 1) := by decide +kernel
theorem d_Nt_makeRoom_57 : decode b_Nt_makeRoom 57 = .ok (.iload_n 1, 1) := by decide +kernel
theorem d_Nt_makeRoom_58 : decode b_Nt_makeRoom 58 = .ok (.imul, 1) := by decide +kernel
theorem d_Nt_makeRoom_59 : decode b_Nt_makeRoom 59 = .ok (.invokevirtual 71, 3) := by decide +kernel
theorem d_Nt_makeRoom_62 : decode b_Nt_makeRoom 62 = .ok (.return_, 1) := by decide +kernel
theorem d_Rl_makeRoom_0 : decode b_Rl_makeRoom 0 = .ok (.aload_n 0, 1) := by decide +kernel
theorem d_Rl_makeRoom_1 : decode b_Rl_makeRoom 1 = .ok (.getfield 28, 3) := by decide +kernel
theorem d_Rl_makeRoom_4 : decode b_Rl_makeRoom 4 = .ok (.iconst 2, 1) := by decide +kernel
theorem d_Rl_makeRoom_5 : decode b_Rl_makeRoom 5 = .ok (.iload_n 1, 1) := by decide +kernel
theorem d_Rl_makeRoom_6 : decode b_Rl_makeRoom 6 = .ok (.imul, 1) := by decide +kernel
theorem d_Rl_makeRoom_7 : decode b_Rl_makeRoom 7 = .ok (.invokevirtual 42, 3) := by decide +kernel
theorem d_Rl_makeRoom_10 : decode b_Rl_makeRoom 10 = .ok (.aload_n 0, 1) := by decide +kernel
theorem d_Rl_makeRoom_11 : decode b_Rl_makeRoom 11 = .ok (.getfield 32, 3) := by decide +kernel
theorem d_Rl_makeRoom_14 : decode b_Rl_makeRoom 14 = .ok (.iconst 2, 1) := by decide +kernel
theorem d_Rl_makeRoom_15 : decode b_Rl_makeRoom 15 = .ok (.iload_n 1, 1) := by decide +kernel
theorem d_Rl_makeRoom_16 : decode b_Rl_makeRoom 16 = .ok (.imul, 1) := by decide +kernel
theorem d_Rl_makeRoom_17 : decode b_Rl_makeRoom 17 = .ok (.invokevirtual 42, 3) := by decide +kernel
theorem d_Rl_makeRoom_20 : decode b_Rl_makeRoom 20 = .ok (.aload_n 0, 1) := by decide +kernel
theorem d_Rl_makeRoom_21 : decode b_Rl_makeRoom 21 = .ok (.getfield 35, 3) := by decide +kernel
theorem d_Rl_makeRoom_24 : decode b_Rl_makeRoom 24 = .ok (.iload_n 1, 1) := by decide +kernel
theorem d_Rl_makeRoom_25 : decode b_Rl_makeRoom 25 = .ok (.iconst 1, 1) := by decide +kernel
theorem d_Rl_makeRoom_26 : decode b_Rl_makeRoom 26 = .ok (.iadd, 1) := by decide +kernel
theorem d_Rl_makeRoom_27 : decode b_Rl_makeRoom 27 = .ok (.invokevirtual 42, 3) := by decide +kernel
theorem d_Rl_makeRoom_30 : decode b_Rl_makeRoom 30 = .ok (.return_, 1) := by decide +kernel
theorem d_Ol_makeRoom_0 : decode b_Ol_makeRoom 0 = .ok (.aload_n 0, 1) := by decide +kernel
theorem d_Ol_makeRoom_1 : decode b_Ol_makeRoom 1 = .ok (.getfield 30, 3) := by decide +kernel
theorem d_Ol_makeRoom_4 : decode b_Ol_makeRoom 4 = .ok (.iload_n 1, 1) := by decide +kernel
theorem d_Ol_makeRoom_5 : decode b_Ol_makeRoom 5 = .ok (.invokevirtual 41, 3) := by decide +kernel
theorem d_Ol_makeRoom_8 : decode b_Ol_makeRoom 8 = .ok (.return_, 1) := by decide +kernel
theorem d_Pn_makeRoom_0 : decode b_Pn_makeRoom 0 = .ok (.aload_n 0, 1) := by decide +kernel
theorem d_Pn_makeRoom_1 : decode b_Pn_makeRoom 1 = .ok (.getfield 23, 3) := by decide +kernel
theorem d_Pn_makeRoom_4 : decode b_Pn_makeRoom 4 = .ok (.iload_n 1, 1) := by decide +kernel
theorem d_Pn_makeRoom_5 : decode b_Pn_makeRoom 5 = .ok (.invokevirtual 190, 3) := by decide +kernel
theorem d_Pn_makeRoom_8 : decode b_Pn_makeRoom 8 = .ok (.aload_n 0, 1) := by decide +kernel
theorem d_Pn_makeRoom_9 : decode b_Pn_makeRoom 9 = .ok (.getfield 32, 3) := by decide +kernel
theorem d_Pn_makeRoom_12 : decode b_Pn_makeRoom 12 = .ok (.iload_n 1, 1) := by decide +kernel
theorem d_Pn_makeRoom_13 : decode b_Pn_makeRoom 13 = .ok (.invokevirtual 191, 3) := by decide +kernel
theorem d_Pn_makeRoom_16 : decode b_Pn_makeRoom 16 = .ok (.aload_n 0, 1) := by decide +kernel
theorem d_Pn_makeRoom_17 : decode b_Pn_makeRoom 17 = .ok (.getfield 41, 3) := by decide +kernel
theorem d_Pn_makeRoom_20 : decode b_Pn_makeRoom 20 = .ok (.iload_n 1, 1) := by decide +kernel
theorem d_Pn_makeRoom_21 : decode b_Pn_makeRoom 21 = .ok (.invokevirtual 192, 3) := by decide +kernel
theorem d_Pn_makeRoom_24 : decode b_Pn_makeRoom 24 = .ok (.aload_n 0, 1) := by decide +kernel
theorem d_Pn_makeRoom_25 : decode b_Pn_makeRoom 25 = .ok (.getfield 48, 3) := by decide +kernel
theorem d_Pn_makeRoom_28 : decode b_Pn_makeRoom 28 = .ok (.iload_n 1, 1) := by decide +kernel
theorem d_Pn_makeRoom_29 : decode b_Pn_makeRoom 29 = .ok (.invokevirtual 193, 3) := by decide +kernel
theorem d_Pn_makeRoom_32 : decode b_Pn_makeRoom 32 = .ok (.return_, 1) := by decide +kernel
theorem d_Pt_append_0 : decode b_Pt_append 0 = .ok (.aload_n 0, 1) := by decide +kernel
theorem d_Pt_append_1 : decode b_Pt_append 1 = .ok (.getfield 15, 3) := by decide +kernel
theorem d_Pt_append_4 : decode b_Pt_append 4 = .ok (.istore_n 3, 1) := by decide +kernel
theorem d_Pt_append_5 : decode b_Pt_append 5 = .ok (.aload_n 0, 1) := by decide +kernel
theorem d_Pt_append_6 : decode b_Pt_append 6 = .ok (.getfield 23, 3) := by decide +kernel
theorem d_Pt_append_9 : decode b_Pt_append 9 = .ok (.iload_n 3, 1) := by decide +kernel
theorem d_Pt_append_10 : decode b_Pt_append 10 = .ok (.iload_n 1, 1) := by decide +kernel
theorem d_Pt_append_11 : decode b_Pt_append 11 = .ok (.invokevirtual 40, 3) := by decide +kernel
theorem d_Pt_append_14 : decode b_Pt_append 14 = .ok (.aload_n 0, 1) := by decide +kernel
theorem d_Pt_append_15 : decode b_Pt_append 15 = .ok (.getfield 27, 3) := by decide +kernel
theorem d_Pt_append_18 : decode b_Pt_append 18 = .ok (.iload_n 3, 1) := by decide +kernel
theorem d_Pt_append_19 : decode b_Pt_append 19 = .ok (.iload_n 2, 1) := by decide +kernel
theorem d_Pt_append_20 : decode b_Pt_append 20 = .ok (.invokevirtual 40, 3) := by decide +kernel
theorem d_Pt_append_23 : decode b_Pt_append 23 = .ok (.aload_n 0, 1) := by decide +kernel
theorem d_Pt_append_24 : decode b_Pt_append 24 = .ok (.iload_n 3, 1) := by decide +kernel
theorem d_Pt_append_25 : decode b_Pt_append 25 = .ok (.iconst 1, 1) := by decide +kernel
theorem d_Pt_append_26 : decode b_Pt_append 26 = .ok (.iadd, 1) := by decide +kernel
theorem d_Pt_append_27 : decode b_Pt_append 27 = .ok (.putfield 15, 3) := by decide +kernel
theorem d_Pt_append_30 : decode b_Pt_append 30 = .ok (.iload_n 3, 1) := by decide +kernel
theorem d_Pt_append_31 : decode b_Pt_append 31 = .ok (.ireturn, 1) := by decide +kernel
theorem d_Pt_x_0 : decode b_Pt_x 0 = .ok (.aload_n 0, 1) := by decide +kernel
theorem d_Pt_x_1 : decode b_Pt_x 1 = .ok (.getfield 23, 3) := by decide +kernel
theorem d_Pt_x_4 : decode b_Pt_x 4 = .ok (.iload_n 1, 1) := by decide +kernel
theorem d_Pt_x_5 : decode b_Pt_x 5 = .ok (.invokevirtual 44, 3) := by decide +kernel
theorem d_Pt_x_8 : decode b_Pt_x 8 = .ok (.ireturn, 1) := by decide +kernel
theorem d_Pt_y_0 : decode b_Pt_y 0 = .ok (.aload_n 0, 1) := by decide +kernel
theorem d_Pt_y_1 : decode b_Pt_y 1 = .ok (.getfield 27, 3) := by decide +kernel
theorem d_Pt_y_4 : decode b_Pt_y 4 = .ok (.iload_n 1, 1) := by decide +kernel
theorem d_Pt_y_5 : decode b_Pt_y 5 = .ok (.invokevirtual 44, 3) := by decide +kernel
theorem d_Pt_y_8 : decode b_Pt_y 8 = .ok (.ireturn, 1) := by decide +kernel
theorem d_Pn_noteClosest_0 : decode b_Pn_noteClosest 0 = .ok (.iload_n 1, 1) := by decide +kernel
theorem d_Pn_noteClosest_1 : decode b_Pn_noteClosest 1 = .ok (.iconst (-1), 1) := by decide +kernel
theorem d_Pn_noteClosest_2 : decode b_Pn_noteClosest 2 = .ok (.if_icmp .ne 4, 3) := by decide +kernel
theorem d_Pn_noteClosest_5 : decode b_Pn_noteClosest 5 = .ok (.return_, 1) := by decide +kernel
theorem d_Pn_noteClosest_6 : decode b_Pn_noteClosest 6 = .ok (.aload_n 0, 1) := by decide +kernel
theorem d_Pn_noteClosest_7 : decode b_Pn_noteClosest 7 = .ok (.getfield 23, 3) := by decide +kernel
theorem d_Pn_noteClosest_10 : decode b_Pn_noteClosest 10 = .ok (.iload_n 1, 1) := by decide +kernel
theorem d_Pn_noteClosest_11 : decode b_Pn_noteClosest 11 = .ok (.aload_n 0, 1) := by decide +kernel
theorem d_Pn_noteClosest_12 : decode b_Pn_noteClosest 12 = .ok (.getfield 23, 3) := by decide +kernel
theorem d_Pn_noteClosest_15 : decode b_Pn_noteClosest 15 = .ok (.iload_n 2, 1) := by decide +kernel
theorem d_Pn_noteClosest_16 : decode b_Pn_noteClosest 16 = .ok (.invokevirtual 175, 3) := by decide +kernel
theorem d_Pn_noteClosest_19 : decode b_Pn_noteClosest 19 = .ok (.aload_n 0, 1) := by decide +kernel
theorem d_Pn_noteClosest_20 : decode b_Pn_noteClosest 20 = .ok (.getfield 23, 3) := by decide +kernel
theorem d_Pn_noteClosest_23 : decode b_Pn_noteClosest 23 = .ok (.iload_n 2, 1) := by decide +kernel
theorem d_Pn_noteClosest_24 : decode b_Pn_noteClosest 24 = .ok (.invokevirtual 178, 3) := by decide +kernel
theorem d_Pn_noteClosest_27 : decode b_Pn_noteClosest 27 = .ok (.invokevirtual 194, 3) := by decide +kernel
theorem d_Pn_noteClosest_30 : decode b_Pn_noteClosest 30 = .ok (.lstore_n 3, 1) := by decide +kernel
theorem d_Pn_noteClosest_31 : decode b_Pn_noteClosest 31 = .ok (.aload_n 0, 1) := by decide +kernel
theorem d_Pn_noteClosest_32 : decode b_Pn_noteClosest 32 = .ok (.getfield 60, 3) := by decide +kernel
theorem d_Pn_noteClosest_35 : decode b_Pn_noteClosest 35 = .ok (.iconst (-1), 1) := by decide +kernel
theorem d_Pn_noteClosest_36 : decode b_Pn_noteClosest 36 = .ok (.if_icmp .eq 29, 3) := by decide +kernel
theorem d_Pn_noteClosest_39 : decode b_Pn_noteClosest 39 = .ok (.lload_n 3, 1) := by decide +kernel
theorem d_Pn_noteClosest_40 : decode b_Pn_noteClosest 40 = .ok (.aload_n 0, 1) := by decide +kernel
theorem d_Pn_noteClosest_41 : decode b_Pn_noteClosest 41 = .ok (.getfield 56, 3) := by decide +kernel
theorem d_Pn_noteClosest_44 : decode b_Pn_noteClosest 44 = .ok (.lcmp, 1) := by decide +kernel
theorem d_Pn_noteClosest_45 : decode b_Pn_noteClosest 45 = .ok (.ifCond .lt 20, 3) := by decide +kernel
theorem d_Pn_noteClosest_48 : decode b_Pn_noteClosest 48 = .ok (.lload_n 3, 1) := by decide +kernel
theorem d_Pn_noteClosest_49 : decode b_Pn_noteClosest 49 = .ok (.aload_n 0, 1) := by decide +kernel
theorem d_Pn_noteClosest_50 : decode b_Pn_noteClosest 50 = .ok (.getfield 56, 3) := by decide +kernel
theorem d_Pn_noteClosest_53 : decode b_Pn_noteClosest 53 = .ok (.lcmp, 1) := by decide +kernel
theorem d_Pn_noteClosest_54 : decode b_Pn_noteClosest 54 = .ok (.ifCond .ne 26, 3) := by decide +kernel
theorem d_Pn_noteClosest_57 : decode b_Pn_noteClosest 57 = .ok (.iload_n 1, 1) := by decide +kernel
theorem d_Pn_noteClosest_58 : decode b_Pn_noteClosest 58 = .ok (.aload_n 0, 1) := by decide +kernel
theorem d_Pn_noteClosest_59 : decode b_Pn_noteClosest 59 = .ok (.getfield 60, 3) := by decide +kernel
theorem d_Pn_noteClosest_62 : decode b_Pn_noteClosest 62 = .ok (.if_icmp .ge 18, 3) := by decide +kernel
theorem d_Pn_noteClosest_65 : decode b_Pn_noteClosest 65 = .ok (.aload_n 0, 1) := by decide +kernel
theorem d_Pn_noteClosest_66 : decode b_Pn_noteClosest 66 = .ok (.lload_n 3, 1) := by decide +kernel
theorem d_Pn_noteClosest_67 : decode b_Pn_noteClosest 67 = .ok (.putfield 56, 3) := by decide +kernel
theorem d_Pn_noteClosest_70 : decode b_Pn_noteClosest 70 = .ok (.aload_n 0, 1) := by decide +kernel
theorem d_Pn_noteClosest_71 : decode b_Pn_noteClosest 71 = .ok (.iload_n 1, 1) := by decide +kernel
theorem d_Pn_noteClosest_72 : decode b_Pn_noteClosest 72 = .ok (.putfield 60, 3) := by decide +kernel
theorem d_Pn_noteClosest_75 : decode b_Pn_noteClosest 75 = .ok (.aload_n 0, 1) := by decide +kernel
theorem d_Pn_noteClosest_76 : decode b_Pn_noteClosest 76 = .ok (.iload_n 2, 1) := by decide +kernel
theorem d_Pn_noteClosest_77 : decode b_Pn_noteClosest 77 = .ok (.putfield 64, 3) := by decide +kernel
theorem d_Pn_noteClosest_80 : decode b_Pn_noteClosest 80 = .ok (.return_, 1) := by decide +kernel
theorem d_Nt_isEmpty_0 : decode b_Nt_isEmpty 0 = .ok (.aload_n 0, 1) := by decide +kernel
theorem d_Nt_isEmpty_1 : decode b_Nt_isEmpty 1 = .ok (.getfield 51, 3) := by decide +kernel
theorem d_Nt_isEmpty_4 : decode b_Nt_isEmpty 4 = .ok (.ifCond .ne 7, 3) := by decide +kernel
theorem d_Nt_isEmpty_7 : decode b_Nt_isEmpty 7 = .ok (.iconst 1, 1) := by decide +kernel
theorem d_Nt_isEmpty_8 : decode b_Nt_isEmpty 8 = .ok (.goto 4, 3) := by decide +kernel
theorem d_Nt_isEmpty_11 : decode b_Nt_isEmpty 11 = .ok (.iconst 0, 1) := by decide +kernel
theorem d_Nt_isEmpty_12 : decode b_Nt_isEmpty 12 = .ok (.ireturn, 1) := by decide +kernel
theorem d_Pt_turn_0 : decode b_Pt_turn 0 = .ok (.aload_n 0, 1) := by decide +kernel
theorem d_Pt_turn_1 : decode b_Pt_turn 1 = .ok (.getfield 23, 3) := by decide +kernel
theorem d_Pt_turn_4 : decode b_Pt_turn 4 = .ok (.iload_n 2, 1) := by decide +kernel
theorem d_Pt_turn_5 : decode b_Pt_turn 5 = .ok (.invokevirtual 44, 3) := by decide +kernel
theorem d_Pt_turn_8 : decode b_Pt_turn 8 = .ok (.i2l, 1) := by decide +kernel
theorem d_Pt_turn_9 : decode b_Pt_turn 9 = .ok (.aload_n 0, 1) := by decide +kernel
theorem d_Pt_turn_10 : decode b_Pt_turn 10 = .ok (.getfield 23, 3) := by decide +kernel
theorem d_Pt_turn_13 : decode b_Pt_turn 13 = .ok (.iload_n 1, 1) := by decide +kernel
theorem d_Pt_turn_14 : decode b_Pt_turn 14 = .ok (.invokevirtual 44, 3) := by decide +kernel
theorem d_Pt_turn_17 : decode b_Pt_turn 17 = .ok (.i2l, 1) := by decide +kernel
theorem d_Pt_turn_18 : decode b_Pt_turn 18 = .ok (.lsub, 1) := by decide +kernel
theorem d_Pt_turn_19 : decode b_Pt_turn 19 = .ok (.lstore 5, 2) := by decide +kernel
theorem d_Pt_turn_21 : decode b_Pt_turn 21 = .ok (.aload_n 0, 1) := by decide +kernel
theorem d_Pt_turn_22 : decode b_Pt_turn 22 = .ok (.getfield 27, 3) := by decide +kernel
theorem d_Pt_turn_25 : decode b_Pt_turn 25 = .ok (.iload_n 2, 1) := by decide +kernel
theorem d_Pt_turn_26 : decode b_Pt_turn 26 = .ok (.invokevirtual 44, 3) := by decide +kernel
theorem d_Pt_turn_29 : decode b_Pt_turn 29 = .ok (.i2l, 1) := by decide +kernel
theorem d_Pt_turn_30 : decode b_Pt_turn 30 = .ok (.aload_n 0, 1) := by decide +kernel
theorem d_Pt_turn_31 : decode b_Pt_turn 31 = .ok (.getfield 27, 3) := by decide +kernel
theorem d_Pt_turn_34 : decode b_Pt_turn 34 = .ok (.iload_n 1, 1) := by decide +kernel
theorem d_Pt_turn_35 : decode b_Pt_turn 35 = .ok (.invokevirtual 44, 3) := by decide +kernel
theorem d_Pt_turn_38 : decode b_Pt_turn 38 = .ok (.i2l, 1) := by decide +kernel
theorem d_Pt_turn_39 : decode b_Pt_turn 39 = .ok (.lsub, 1) := by decide +kernel
theorem d_Pt_turn_40 : decode b_Pt_turn 40 = .ok (.lstore 7, 2) := by decide +kernel
theorem d_Pt_turn_42 : decode b_Pt_turn 42 = .ok (.iload_n 3, 1) := by decide +kernel
theorem d_Pt_turn_43 : decode b_Pt_turn 43 = .ok (.i2l, 1) := by decide +kernel
theorem d_Pt_turn_44 : decode b_Pt_turn 44 = .ok (.aload_n 0, 1) := by decide +kernel
theorem d_Pt_turn_45 : decode b_Pt_turn 45 = .ok (.getfield 23, 3) := by decide +kernel
theorem d_Pt_turn_48 : decode b_Pt_turn 48 = .ok (.iload_n 1, 1) := by decide +kernel
theorem d_Pt_turn_49 : decode b_Pt_turn 49 = .ok (.invokevirtual 44, 3) := by decide +kernel
theorem d_Pt_turn_52 : decode b_Pt_turn 52 = .ok (.i2l, 1) := by decide +kernel
theorem d_Pt_turn_53 : decode b_Pt_turn 53 = .ok (.lsub, 1) := by decide +kernel
theorem d_Pt_turn_54 : decode b_Pt_turn 54 = .ok (.lstore 9, 2) := by decide +kernel
theorem d_Pt_turn_56 : decode b_Pt_turn 56 = .ok (.iload 4, 2) := by decide +kernel
theorem d_Pt_turn_58 : decode b_Pt_turn 58 = .ok (.i2l, 1) := by decide +kernel
theorem d_Pt_turn_59 : decode b_Pt_turn 59 = .ok (.aload_n 0, 1) := by decide +kernel
theorem d_Pt_turn_60 : decode b_Pt_turn 60 = .ok (.getfield 27, 3) := by decide +kernel
theorem d_Pt_turn_63 : decode b_Pt_turn 63 = .ok (.iload_n 1, 1) := by decide +kernel
theorem d_Pt_turn_64 : decode b_Pt_turn 64 = .ok (.invokevirtual 44, 3) := by decide +kernel
theorem d_Pt_turn_67 : decode b_Pt_turn 67 = .ok (.i2l, 1) := by decide +kernel
theorem d_Pt_turn_68 : decode b_Pt_turn 68 = .ok (.lsub, 1) := by decide +kernel
theorem d_Pt_turn_69 : decode b_Pt_turn 69 = .ok (.lstore 11, 2) := by decide +kernel
theorem d_Pt_turn_71 : decode b_Pt_turn 71 = .ok (.lload 5, 2) := by decide +kernel
theorem d_Pt_turn_73 : decode b_Pt_turn 73 = .ok (.lload 11, 2) := by decide +kernel
theorem d_Pt_turn_75 : decode b_Pt_turn 75 = .ok (.lmul, 1) := by decide +kernel
theorem d_Pt_turn_76 : decode b_Pt_turn 76 = .ok (.lload 7, 2) := by decide +kernel
theorem d_Pt_turn_78 : decode b_Pt_turn 78 = .ok (.lload 9, 2) := by decide +kernel
theorem d_Pt_turn_80 : decode b_Pt_turn 80 = .ok (.lmul, 1) := by decide +kernel
theorem d_Pt_turn_81 : decode b_Pt_turn 81 = .ok (.lsub, 1) := by decide +kernel
theorem d_Pt_turn_82 : decode b_Pt_turn 82 = .ok (.lreturn, 1) := by decide +kernel
theorem d_Nt_placeOf_0 : decode b_Nt_placeOf 0 = .ok (.iload_n 1, 1) := by decide +kernel
theorem d_Nt_placeOf_1 : decode b_Nt_placeOf 1 = .ok (.aload_n 0, 1) := by decide +kernel
theorem d_Nt_placeOf_2 : decode b_Nt_placeOf 2 = .ok (.getfield 21, 3) := by decide +kernel
theorem d_Nt_placeOf_5 : decode b_Nt_placeOf 5 = .ok (.if_icmp .ne 7, 3) := by decide +kernel
theorem d_Nt_placeOf_8 : decode b_Nt_placeOf 8 = .ok (.iconst 0, 1) := by decide +kernel
theorem d_Nt_placeOf_9 : decode b_Nt_placeOf 9 = .ok (.goto 6, 3) := by decide +kernel
theorem d_Nt_placeOf_12 : decode b_Nt_placeOf 12 = .ok (.iload_n 1, 1) := by decide +kernel
theorem d_Nt_placeOf_13 : decode b_Nt_placeOf 13 = .ok (.iconst 1, 1) := by decide +kernel
theorem d_Nt_placeOf_14 : decode b_Nt_placeOf 14 = .ok (.iadd, 1) := by decide +kernel
theorem d_Nt_placeOf_15 : decode b_Nt_placeOf 15 = .ok (.ireturn, 1) := by decide +kernel
theorem d_Nt_setTriangle_0 : decode b_Nt_setTriangle 0 = .ok (.iconst 3, 1) := by decide +kernel
theorem d_Nt_setTriangle_1 : decode b_Nt_setTriangle 1 = .ok (.iload_n 1, 1) := by decide +kernel
theorem d_Nt_setTriangle_2 : decode b_Nt_setTriangle 2 = .ok (.imul, 1) := by decide +kernel
theorem d_Nt_setTriangle_3 : decode b_Nt_setTriangle 3 = .ok (.istore 5, 2) := by decide +kernel
theorem d_Nt_setTriangle_5 : decode b_Nt_setTriangle 5 = .ok (.aload_n 0, 1) := by decide +kernel
theorem d_Nt_setTriangle_6 : decode b_Nt_setTriangle 6 = .ok (.getfield 29, 3) := by decide +kernel
theorem d_Nt_setTriangle_9 : decode b_Nt_setTriangle 9 = .ok (.iload 5, 2) := by decide +kernel
theorem d_Nt_setTriangle_11 : decode b_Nt_setTriangle 11 = .ok (.iload_n 2, 1) := by decide +kernel
theorem d_Nt_setTriangle_12 : decode b_Nt_setTriangle 12 = .ok (.invokevirtual 82, 3) := by decide +kernel
theorem d_Nt_setTriangle_15 : decode b_Nt_setTriangle 15 = .ok (.aload_n 0, 1) := by decide +kernel
theorem d_Nt_setTriangle_16 : decode b_Nt_setTriangle 16 = .ok (.getfield 29, 3) := by decide +kernel
theorem d_Nt_setTriangle_19 : decode b_Nt_setTriangle 19 = .ok (.iload 5, 2) := by decide +kernel
theorem d_Nt_setTriangle_21 : decode b_Nt_setTriangle 21 = .ok (.iconst 1, 1) := by decide +kernel
theorem d_Nt_setTriangle_22 : decode b_Nt_setTriangle 22 = .ok (.iadd, 1) := by decide +kernel
theorem d_Nt_setTriangle_23 : decode b_Nt_setTriangle 23 = .ok (.iload_n 3, 1) := by decide +kernel
theorem d_Nt_setTriangle_24 : decode b_Nt_setTriangle 24 = .ok (.invokevirtual 82, 3) := by decide +kernel
theorem d_Nt_setTriangle_27 : decode b_Nt_setTriangle 27 = .ok (.aload_n 0, 1) := by decide +kernel
theorem d_Nt_setTriangle_28 : decode b_Nt_setTriangle 28 = .ok (.getfield 29, 3) := by decide +kernel
theorem d_Nt_setTriangle_31 : decode b_Nt_setTriangle 31 = .ok (.iload 5, 2) := by decide +kernel
theorem d_Nt_setTriangle_33 : decode b_Nt_setTriangle 33 = .ok (.iconst 2, 1) := by decide +kernel
theorem d_Nt_setTriangle_34 : decode b_Nt_setTriangle 34 = .ok (.iadd, 1) := by decide +kernel
theorem d_Nt_setTriangle_35 : decode b_Nt_setTriangle 35 = .ok (.iload 4, 2) := by decide +kernel
theorem d_Nt_setTriangle_37 : decode b_Nt_setTriangle 37 = .ok (.invokevirtual 82, 3) := by decide +kernel
theorem d_Nt_setTriangle_40 : decode b_Nt_setTriangle 40 = .ok (.aload_n 0, 1) := by decide +kernel
theorem d_Nt_setTriangle_41 : decode b_Nt_setTriangle 41 = .ok (.getfield 36, 3) := by decide +kernel
theorem d_Nt_setTriangle_44 : decode b_Nt_setTriangle 44 = .ok (.aload_n 0, 1) := by decide +kernel
theorem d_Nt_setTriangle_45 : decode b_Nt_setTriangle 45 = .ok (.iload_n 2, 1) := by decide +kernel
theorem d_Nt_setTriangle_46 : decode b_Nt_setTriangle 46 = .ok (.invokevirtual 85, 3) := by decide +kernel
theorem d_Nt_setTriangle_49 : decode b_Nt_setTriangle 49 = .ok (.iload 5, 2) := by decide +kernel
theorem d_Nt_setTriangle_51 : decode b_Nt_setTriangle 51 = .ok (.invokevirtual 82, 3) := by decide +kernel
theorem d_Nt_setTriangle_54 : decode b_Nt_setTriangle 54 = .ok (.aload_n 0, 1) := by decide +kernel
theorem d_Nt_setTriangle_55 : decode b_Nt_setTriangle 55 = .ok (.getfield 36, 3) := by decide +kernel
theorem d_Nt_setTriangle_58 : decode b_Nt_setTriangle 58 = .ok (.aload_n 0, 1) := by decide +kernel
theorem d_Nt_setTriangle_59 : decode b_Nt_setTriangle 59 = .ok (.iload 4, 2) := by decide +kernel
theorem d_Nt_setTriangle_61 : decode b_Nt_setTriangle 61 = .ok (.invokevirtual 85, 3) := by decide +kernel
theorem d_Nt_setTriangle_64 : decode b_Nt_setTriangle 64 = .ok (.iload 5, 2) := by decide +kernel
theorem d_Nt_setTriangle_66 : decode b_Nt_setTriangle 66 = .ok (.iconst 2, 1) := by decide +kernel
theorem d_Nt_setTriangle_67 : decode b_Nt_setTriangle 67 = .ok (.iadd, 1) := by decide +kernel
theorem d_Nt_setTriangle_68 : decode b_Nt_setTriangle 68 = .ok (.invokevirtual 82, 3) := by decide +kernel
theorem d_Nt_setTriangle_71 : decode b_Nt_setTriangle 71 = .ok (.return_, 1) := by decide +kernel
theorem d_Nt_join_0 : decode b_Nt_join 0 = .ok (.aload_n 0, 1) := by decide +kernel
theorem d_Nt_join_1 : decode b_Nt_join 1 = .ok (.getfield 33, 3) := by decide +kernel
theorem d_Nt_join_4 : decode b_Nt_join 4 = .ok (.iload_n 1, 1) := by decide +kernel
theorem d_Nt_join_5 : decode b_Nt_join 5 = .ok (.iload_n 2, 1) := by decide +kernel
theorem d_Nt_join_6 : decode b_Nt_join 6 = .ok (.invokevirtual 82, 3) := by decide +kernel
theorem d_Nt_join_9 : decode b_Nt_join 9 = .ok (.aload_n 0, 1) := by decide +kernel
theorem d_Nt_join_10 : decode b_Nt_join 10 = .ok (.getfield 33, 3) := by decide +kernel
theorem d_Nt_join_13 : decode b_Nt_join 13 = .ok (.iload_n 2, 1) := by decide +kernel
theorem d_Nt_join_14 : decode b_Nt_join 14 = .ok (.iload_n 1, 1) := by decide +kernel
theorem d_Nt_join_15 : decode b_Nt_join 15 = .ok (.invokevirtual 82, 3) := by decide +kernel
theorem d_Nt_join_18 : decode b_Nt_join 18 = .ok (.return_, 1) := by decide +kernel
theorem d_Nt_begin_0 : decode b_Nt_begin 0 = .ok (.aload_n 0, 1) := by decide +kernel
theorem d_Nt_begin_1 : decode b_Nt_begin 1 = .ok (.iconst 4, 1) := by decide +kernel
theorem d_Nt_begin_2 : decode b_Nt_begin 2 = .ok (.putfield 51, 3) := by decide +kernel
theorem d_Nt_begin_5 : decode b_Nt_begin 5 = .ok (.aload_n 0, 1) := by decide +kernel
theorem d_Nt_begin_6 : decode b_Nt_begin 6 = .ok (.iconst 3, 1) := by decide +kernel
theorem d_Nt_begin_7 : decode b_Nt_begin 7 = .ok (.putfield 54, 3) := by decide +kernel
theorem d_Nt_begin_10 : decode b_Nt_begin 10 = .ok (.aload_n 0, 1) := by decide +kernel
theorem d_Nt_begin_11 : decode b_Nt_begin 11 = .ok (.iconst 0, 1) := by decide +kernel
theorem d_Nt_begin_12 : decode b_Nt_begin 12 = .ok (.iload_n 1, 1) := by decide +kernel
theorem d_Nt_begin_13 : decode b_Nt_begin 13 = .ok (.iload_n 2, 1) := by decide +kernel
theorem d_Nt_begin_14 : decode b_Nt_begin 14 = .ok (.iload_n 3, 1) := by decide +kernel
theorem d_Nt_begin_15 : decode b_Nt_begin 15 = .ok (.invokevirtual 74, 3) := by decide +kernel
theorem d_Nt_begin_18 : decode b_Nt_begin 18 = .ok (.aload_n 0, 1) := by decide +kernel
theorem d_Nt_begin_19 : decode b_Nt_begin 19 = .ok (.iconst 1, 1) := by decide +kernel
theorem d_Nt_begin_20 : decode b_Nt_begin 20 = .ok (.iload_n 2, 1) := by decide +kernel
theorem d_Nt_begin_21 : decode b_Nt_begin 21 = .ok (.iload_n 1, 1) := by decide +kernel
theorem d_Nt_begin_22 : decode b_Nt_begin 22 = .ok (.aload_n 0, 1) := by decide +kernel
theorem d_Nt_begin_23 : decode b_Nt_begin 23 = .ok (.getfield 21, 3) := by decide +kernel
theorem d_Nt_begin_26 : decode b_Nt_begin 26 = .ok (.invokevirtual 74, 3) := by decide +kernel
theorem d_Nt_begin_29 : decode b_Nt_begin 29 = .ok (.aload_n 0, 1) := by decide +kernel
theorem d_Nt_begin_30 : decode b_Nt_begin 30 = .ok (.iconst 2, 1) := by decide +kernel
theorem d_Nt_begin_31 : decode b_Nt_begin 31 = .ok (.iload_n 3, 1) := by decide +kernel
theorem d_Nt_begin_32 : decode b_Nt_begin 32 = .ok (.iload_n 2, 1) := by decide +kernel
theorem d_Nt_begin_33 : decode b_Nt_begin 33 = .ok (.aload_n 0, 1) := by decide +kernel
theorem d_Nt_begin_34 : decode b_Nt_begin 34 = .ok (.getfield 21, 3) := by decide +kernel
theorem d_Nt_begin_37 : decode b_Nt_begin 37 = .ok (.invokevirtual 74, 3) := by decide +kernel
theorem d_Nt_begin_40 : decode b_Nt_begin 40 = .ok (.aload_n 0, 1) := by decide +kernel
theorem d_Nt_begin_41 : decode b_Nt_begin 41 = .ok (.iconst 3, 1) := by decide +kernel
theorem d_Nt_begin_42 : decode b_Nt_begin 42 = .ok (.iload_n 1, 1) := by decide +kernel
theorem d_Nt_begin_43 : decode b_Nt_begin 43 = .ok (.iload_n 3, 1) := by decide +kernel
theorem d_Nt_begin_44 : decode b_Nt_begin 44 = .ok (.aload_n 0, 1) := by decide +kernel
theorem d_Nt_begin_45 : decode b_Nt_begin 45 = .ok (.getfield 21, 3) := by decide +kernel
theorem d_Nt_begin_48 : decode b_Nt_begin 48 = .ok (.invokevirtual 74, 3) := by decide +kernel
theorem d_Nt_begin_51 : decode b_Nt_begin 51 = .ok (.aload_n 0, 1) := by decide +kernel
theorem d_Nt_begin_52 : decode b_Nt_begin 52 = .ok (.iconst 0, 1) := by decide +kernel
theorem d_Nt_begin_53 : decode b_Nt_begin 53 = .ok (.iconst 3, 1) := by decide +kernel
theorem d_Nt_begin_54 : decode b_Nt_begin 54 = .ok (.invokevirtual 78, 3) := by decide +kernel
theorem d_Nt_begin_57 : decode b_Nt_begin 57 = .ok (.aload_n 0, 1) := by decide +kernel
theorem d_Nt_begin_58 : decode b_Nt_begin 58 = .ok (.iconst 1, 1) := by decide +kernel
theorem d_Nt_begin_59 : decode b_Nt_begin 59 = .ok (.bipush 6, 2) := by decide +kernel
theorem d_Nt_begin_61 : decode b_Nt_begin 61 = .ok (.invokevirtual 78, 3) := by decide +kernel
theorem d_Nt_begin_64 : decode b_Nt_begin 64 = .ok (.aload_n 0, 1) := by decide +kernel
theorem d_Nt_begin_65 : decode b_Nt_begin 65 = .ok (.iconst 2, 1) := by decide +kernel
theorem d_Nt_begin_66 : decode b_Nt_begin 66 = .ok (.bipush 9, 2) := by decide +kernel
theorem d_Nt_begin_68 : decode b_Nt_begin 68 = .ok (.invokevirtual 78, 3) := by decide +kernel
theorem d_Nt_begin_71 : decode b_Nt_begin 71 = .ok (.aload_n 0, 1) := by decide +kernel
theorem d_Nt_begin_72 : decode b_Nt_begin 72 = .ok (.iconst 4, 1) := by decide +kernel
theorem d_Nt_begin_73 : decode b_Nt_begin 73 = .ok (.bipush 11, 2) := by decide +kernel
theorem d_Nt_begin_75 : decode b_Nt_begin 75 = .ok (.invokevirtual 78, 3) := by decide +kernel
theorem d_Nt_begin_78 : decode b_Nt_begin 78 = .ok (.aload_n 0, 1) := by decide +kernel
theorem d_Nt_begin_79 : decode b_Nt_begin 79 = .ok (.bipush 7, 2) := by decide +kernel
theorem d_Nt_begin_81 : decode b_Nt_begin 81 = .ok (.iconst 5, 1) := by decide +kernel
theorem d_Nt_begin_82 : decode b_Nt_begin 82 = .ok (.invokevirtual 78, 3) := by decide +kernel
theorem d_Nt_begin_85 : decode b_Nt_begin 85 = .ok (.aload_n 0, 1) := by decide +kernel
theorem d_Nt_begin_86 : decode b_Nt_begin 86 = .ok (.bipush 10, 2) := by decide +kernel
theorem d_Nt_begin_88 : decode b_Nt_begin 88 = .ok (.bipush 8, 2) := by decide +kernel
theorem d_Nt_begin_90 : decode b_Nt_begin 90 = .ok (.invokevirtual 78, 3) := by decide +kernel
theorem d_Nt_begin_93 : decode b_Nt_begin 93 = .ok (.return_, 1) := by decide +kernel
theorem d_Nt_isOuter_0 : decode b_Nt_isOuter 0 = .ok (.iload_n 1, 1) := by decide +kernel
theorem d_Nt_isOuter_1 : decode b_Nt_isOuter 1 = .ok (.iload_n 1, 1) := by decide +kernel
theorem d_Nt_isOuter_2 : decode b_Nt_isOuter 2 = .ok (.iconst 3, 1) := by decide +kernel
theorem d_Nt_isOuter_3 : decode b_Nt_isOuter 3 = .ok (.irem, 1) := by decide +kernel
theorem d_Nt_isOuter_4 : decode b_Nt_isOuter 4 = .ok (.isub, 1) := by decide +kernel
theorem d_Nt_isOuter_5 : decode b_Nt_isOuter 5 = .ok (.istore_n 2, 1) := by decide +kernel
theorem d_Nt_isOuter_6 : decode b_Nt_isOuter 6 = .ok (.aload_n 0, 1) := by decide +kernel
theorem d_Nt_isOuter_7 : decode b_Nt_isOuter 7 = .ok (.getfield 29, 3) := by decide +kernel
theorem d_Nt_isOuter_10 : decode b_Nt_isOuter 10 = .ok (.iload_n 2, 1) := by decide +kernel
theorem d_Nt_isOuter_11 : decode b_Nt_isOuter 11 = .ok (.invokevirtual 63, 3) := by decide +kernel
theorem d_Nt_isOuter_14 : decode b_Nt_isOuter 14 = .ok (.aload_n 0, 1) := by decide +kernel
theorem d_Nt_isOuter_15 : decode b_Nt_isOuter 15 = .ok (.getfield 21, 3) := by decide +kernel
theorem d_Nt_isOuter_18 : decode b_Nt_isOuter 18 = .ok (.if_icmp .eq 37, 3) := by decide +kernel
theorem d_Nt_isOuter_21 : decode b_Nt_isOuter 21 = .ok (.aload_n 0, 1) := by decide +kernel
theorem d_Nt_isOuter_22 : decode b_Nt_isOuter 22 = .ok (.getfield 29, 3) := by decide +kernel
theorem d_Nt_isOuter_25 : decode b_Nt_isOuter 25 = .ok (.iload_n 2, 1) := by decide +kernel
theorem d_Nt_isOuter_26 : decode b_Nt_isOuter 26 = .ok (.iconst 1, 1) := by decide +kernel
theorem d_Nt_isOuter_27 : decode b_Nt_isOuter 27 = .ok (.iadd, 1) := by decide +kernel
theorem d_Nt_isOuter_28 : decode b_Nt_isOuter 28 = .ok (.invokevirtual 63, 3) := by decide +kernel
theorem d_Nt_isOuter_31 : decode b_Nt_isOuter 31 = .ok (.aload_n 0, 1) := by decide +kernel
theorem d_Nt_isOuter_32 : decode b_Nt_isOuter 32 = .ok (.getfield 21, 3) := by decide +kernel
theorem d_Nt_isOuter_35 : decode b_Nt_isOuter 35 = .ok (.if_icmp .eq 20, 3) := by decide +kernel
theorem d_Nt_isOuter_38 : decode b_Nt_isOuter 38 = .ok (.aload_n 0, 1) := by decide +kernel
theorem d_Nt_isOuter_39 : decode b_Nt_isOuter 39 = .ok (.getfield 29, 3) := by decide +kernel
theorem d_Nt_isOuter_42 : decode b_Nt_isOuter 42 = .ok (.iload_n 2, 1) := by decide +kernel
theorem d_Nt_isOuter_43 : decode b_Nt_isOuter 43 = .ok (.iconst 2, 1) := by decide +kernel
theorem d_Nt_isOuter_44 : decode b_Nt_isOuter 44 = .ok (.iadd, 1) := by decide +kernel
theorem d_Nt_isOuter_45 : decode b_Nt_isOuter 45 = .ok (.invokevirtual 63, 3) := by decide +kernel
theorem d_Nt_isOuter_48 : decode b_Nt_isOuter 48 = .ok (.aload_n 0, 1) := by decide +kernel
theorem d_Nt_isOuter_49 : decode b_Nt_isOuter 49 = .ok (.getfield 21, 3) := by decide +kernel
theorem d_Nt_isOuter_52 : decode b_Nt_isOuter 52 = .ok (.if_icmp .ne 7, 3) := by decide +kernel
theorem d_Nt_isOuter_55 : decode b_Nt_isOuter 55 = .ok (.iconst 1, 1) := by decide +kernel
theorem d_Nt_isOuter_56 : decode b_Nt_isOuter 56 = .ok (.goto 4, 3) := by decide +kernel
theorem d_Nt_isOuter_59 : decode b_Nt_isOuter 59 = .ok (.iconst 0, 1) := by decide +kernel
theorem d_Nt_isOuter_60 : decode b_Nt_isOuter 60 = .ok (.ireturn, 1) := by decide +kernel
theorem d_Nt_ahead_0 : decode b_Nt_ahead 0 = .ok (.iload_n 0, 1) := by decide +kernel
theorem d_Nt_ahead_1 : decode b_Nt_ahead 1 = .ok (.iload_n 0, 1) := by decide +kernel
theorem d_Nt_ahead_2 : decode b_Nt_ahead 2 = .ok (.iconst 3, 1) := by decide +kernel
theorem d_Nt_ahead_3 : decode b_Nt_ahead 3 = .ok (.irem, 1) := by decide +kernel
theorem d_Nt_ahead_4 : decode b_Nt_ahead 4 = .ok (.isub, 1) := by decide +kernel
theorem d_Nt_ahead_5 : decode b_Nt_ahead 5 = .ok (.istore_n 2, 1) := by decide +kernel
theorem d_Nt_ahead_6 : decode b_Nt_ahead 6 = .ok (.iload_n 2, 1) := by decide +kernel
theorem d_Nt_ahead_7 : decode b_Nt_ahead 7 = .ok (.iload_n 0, 1) := by decide +kernel
theorem d_Nt_ahead_8 : decode b_Nt_ahead 8 = .ok (.iload_n 2, 1) := by decide +kernel
theorem d_Nt_ahead_9 : decode b_Nt_ahead 9 = .ok (.isub, 1) := by decide +kernel
theorem d_Nt_ahead_10 : decode b_Nt_ahead 10 = .ok (.iload_n 1, 1) := by decide +kernel
theorem d_Nt_ahead_11 : decode b_Nt_ahead 11 = .ok (.iadd, 1) := by decide +kernel
theorem d_Nt_ahead_12 : decode b_Nt_ahead 12 = .ok (.iconst 3, 1) := by decide +kernel
theorem d_Nt_ahead_13 : decode b_Nt_ahead 13 = .ok (.irem, 1) := by decide +kernel
theorem d_Nt_ahead_14 : decode b_Nt_ahead 14 = .ok (.iadd, 1) := by decide +kernel
theorem d_Nt_ahead_15 : decode b_Nt_ahead 15 = .ok (.ireturn, 1) := by decide +kernel
theorem d_Nt_baseOf_0 : decode b_Nt_baseOf 0 = .ok (.iload_n 1, 1) := by decide +kernel
theorem d_Nt_baseOf_1 : decode b_Nt_baseOf 1 = .ok (.istore_n 2, 1) := by decide +kernel
theorem d_Nt_baseOf_2 : decode b_Nt_baseOf 2 = .ok (.iconst 0, 1) := by decide +kernel
theorem d_Nt_baseOf_3 : decode b_Nt_baseOf 3 = .ok (.istore_n 3, 1) := by decide +kernel
theorem d_Nt_baseOf_4 : decode b_Nt_baseOf 4 = .ok (.iload_n 3, 1) := by decide +kernel
theorem d_Nt_baseOf_5 : decode b_Nt_baseOf 5 = .ok (.iconst 2, 1) := by decide +kernel
theorem d_Nt_baseOf_6 : decode b_Nt_baseOf 6 = .ok (.if_icmp .ge 30, 3) := by decide +kernel
theorem d_Nt_baseOf_9 : decode b_Nt_baseOf 9 = .ok (.aload_n 0, 1) := by decide +kernel
theorem d_Nt_baseOf_10 : decode b_Nt_baseOf 10 = .ok (.getfield 29, 3) := by decide +kernel
theorem d_Nt_baseOf_13 : decode b_Nt_baseOf 13 = .ok (.iload_n 2, 1) := by decide +kernel
theorem d_Nt_baseOf_14 : decode b_Nt_baseOf 14 = .ok (.invokevirtual 63, 3) := by decide +kernel
theorem d_Nt_baseOf_17 : decode b_Nt_baseOf 17 = .ok (.aload_n 0, 1) := by decide +kernel
theorem d_Nt_baseOf_18 : decode b_Nt_baseOf 18 = .ok (.getfield 21, 3) := by decide +kernel
theorem d_Nt_baseOf_21 : decode b_Nt_baseOf 21 = .ok (.if_icmp .eq 15, 3) := by decide +kernel
theorem d_Nt_baseOf_24 : decode b_Nt_baseOf 24 = .ok (.iload_n 2, 1) := by decide +kernel
theorem d_Nt_baseOf_25 : decode b_Nt_baseOf 25 = .ok (.iconst 1, 1) := by decide +kernel
theorem d_Nt_baseOf_26 : decode b_Nt_baseOf 26 = .ok (.invokestatic 67, 3) := by decide +kernel
theorem d_Nt_baseOf_29 : decode b_Nt_baseOf 29 = .ok (.istore_n 2, 1) := by decide +kernel
theorem d_Nt_baseOf_30 : decode b_Nt_baseOf 30 = .ok (.iinc 3 1, 3) := by decide +kernel
theorem d_Nt_baseOf_33 : decode b_Nt_baseOf 33 = .ok (.goto (-29), 3) := by decide +kernel
theorem d_Nt_baseOf_36 : decode b_Nt_baseOf 36 = .ok (.iload_n 2, 1) := by decide +kernel
theorem d_Nt_baseOf_37 : decode b_Nt_baseOf 37 = .ok (.iconst 1, 1) := by decide +kernel
theorem d_Nt_baseOf_38 : decode b_Nt_baseOf 38 = .ok (.invokestatic 67, 3) := by decide +kernel
theorem d_Nt_baseOf_41 : decode b_Nt_baseOf 41 = .ok (.ireturn, 1) := by decide +kernel
theorem d_Nt_startOf_0 : decode b_Nt_startOf 0 = .ok (.aload_n 0, 1) := by decide +kernel
theorem d_Nt_startOf_1 : decode b_Nt_startOf 1 = .ok (.getfield 29, 3) := by decide +kernel
theorem d_Nt_startOf_4 : decode b_Nt_startOf 4 = .ok (.iload_n 1, 1) := by decide +kernel
theorem d_Nt_startOf_5 : decode b_Nt_startOf 5 = .ok (.invokevirtual 63, 3) := by decide +kernel
theorem d_Nt_startOf_8 : decode b_Nt_startOf 8 = .ok (.ireturn, 1) := by decide +kernel
theorem d_Nt_endOf_0 : decode b_Nt_endOf 0 = .ok (.aload_n 0, 1) := by decide +kernel
theorem d_Nt_endOf_1 : decode b_Nt_endOf 1 = .ok (.getfield 29, 3) := by decide +kernel
theorem d_Nt_endOf_4 : decode b_Nt_endOf 4 = .ok (.iload_n 1, 1) := by decide +kernel
theorem d_Nt_endOf_5 : decode b_Nt_endOf 5 = .ok (.iconst 1, 1) := by decide +kernel
theorem d_Nt_endOf_6 : decode b_Nt_endOf 6 = .ok (.invokestatic 67, 3) := by decide +kernel
theorem d_Nt_endOf_9 : decode b_Nt_endOf 9 = .ok (.invokevirtual 63, 3) := by decide +kernel
theorem d_Nt_endOf_12 : decode b_Nt_endOf 12 = .ok (.ireturn, 1) := by decide +kernel
theorem d_Nt_wayOut_0 : decode b_Nt_wayOut 0 = .ok (.iconst 0, 1) := by decide +kernel
theorem d_Nt_wayOut_1 : decode b_Nt_wayOut 1 = .ok (.istore 4, 2) := by decide +kernel
theorem d_Nt_wayOut_3 : decode b_Nt_wayOut 3 = .ok (.iload 4, 2) := by decide +kernel
theorem d_Nt_wayOut_5 : decode b_Nt_wayOut 5 = .ok (.iconst 3, 1) := by decide +kernel
theorem d_Nt_wayOut_6 : decode b_Nt_wayOut 6 = .ok (.if_icmp .ge 46, 3) := by decide +kernel
theorem d_Nt_wayOut_9 : decode b_Nt_wayOut 9 = .ok (.iload_n 1, 1) := by decide +kernel
theorem d_Nt_wayOut_10 : decode b_Nt_wayOut 10 = .ok (.iload 4, 2) := by decide +kernel
theorem d_Nt_wayOut_12 : decode b_Nt_wayOut 12 = .ok (.invokestatic 67, 3) := by decide +kernel
theorem d_Nt_wayOut_15 : decode b_Nt_wayOut 15 = .ok (.istore 5, 2) := by decide +kernel
theorem d_Nt_wayOut_17 : decode b_Nt_wayOut 17 = .ok (.aload_n 0, 1) := by decide +kernel
theorem d_Nt_wayOut_18 : decode b_Nt_wayOut 18 = .ok (.getfield 9, 3) := by decide +kernel
theorem d_Nt_wayOut_21 : decode b_Nt_wayOut 21 = .ok (.aload_n 0, 1) := by decide +kernel
theorem d_Nt_wayOut_22 : decode b_Nt_wayOut 22 = .ok (.iload 5, 2) := by decide +kernel
theorem d_Nt_wayOut_24 : decode b_Nt_wayOut 24 = .ok (.invokevirtual 115, 3) := by decide +kernel
theorem d_Nt_wayOut_27 : decode b_Nt_wayOut 27 = .ok (.aload_n 0, 1) := by decide +kernel
theorem d_Nt_wayOut_28 : decode b_Nt_wayOut 28 = .ok (.iload 5, 2) := by decide +kernel
theorem d_Nt_wayOut_30 : decode b_Nt_wayOut 30 = .ok (.invokevirtual 118, 3) := by decide +kernel
theorem d_Nt_wayOut_33 : decode b_Nt_wayOut 33 = .ok (.iload_n 2, 1) := by decide +kernel
theorem d_Nt_wayOut_34 : decode b_Nt_wayOut 34 = .ok (.iload_n 3, 1) := by decide +kernel
theorem d_Nt_wayOut_35 : decode b_Nt_wayOut 35 = .ok (.invokevirtual 128, 3) := by decide +kernel
theorem d_Nt_wayOut_38 : decode b_Nt_wayOut 38 = .ok (.lconst 0, 1) := by decide +kernel
theorem d_Nt_wayOut_39 : decode b_Nt_wayOut 39 = .ok (.lcmp, 1) := by decide +kernel
theorem d_Nt_wayOut_40 : decode b_Nt_wayOut 40 = .ok (.ifCond .ge 6, 3) := by decide +kernel
theorem d_Nt_wayOut_43 : decode b_Nt_wayOut 43 = .ok (.iload 5, 2) := by decide +kernel
theorem d_Nt_wayOut_45 : decode b_Nt_wayOut 45 = .ok (.ireturn, 1) := by decide +kernel
theorem d_Nt_wayOut_46 : decode b_Nt_wayOut 46 = .ok (.iinc 4 1, 3) := by decide +kernel
theorem d_Nt_wayOut_49 : decode b_Nt_wayOut 49 = .ok (.goto (-46), 3) := by decide +kernel
theorem d_Nt_wayOut_52 : decode b_Nt_wayOut 52 = .ok (.iconst (-1), 1) := by decide +kernel
theorem d_Nt_wayOut_53 : decode b_Nt_wayOut 53 = .ok (.ireturn, 1) := by decide +kernel
theorem d_Nt_holder_0 : decode b_Nt_holder 0 = .ok (.aload_n 0, 1) := by decide +kernel
theorem d_Nt_holder_1 : decode b_Nt_holder 1 = .ok (.getfield 36, 3) := by decide +kernel
theorem d_Nt_holder_4 : decode b_Nt_holder 4 = .ok (.aload_n 0, 1) := by decide +kernel
theorem d_Nt_holder_5 : decode b_Nt_holder 5 = .ok (.iload_n 1, 1) := by decide +kernel
theorem d_Nt_holder_6 : decode b_Nt_holder 6 = .ok (.invokevirtual 85, 3) := by decide +kernel
theorem d_Nt_holder_9 : decode b_Nt_holder 9 = .ok (.invokevirtual 63, 3) := by decide +kernel
theorem d_Nt_holder_12 : decode b_Nt_holder 12 = .ok (.istore 4, 2) := by decide +kernel
theorem d_Nt_holder_14 : decode b_Nt_holder 14 = .ok (.aload_n 0, 1) := by decide +kernel
theorem d_Nt_holder_15 : decode b_Nt_holder 15 = .ok (.iload 4, 2) := by decide +kernel
theorem d_Nt_holder_17 : decode b_Nt_holder 17 = .ok (.invokevirtual 107, 3) := by decide +kernel
theorem d_Nt_holder_20 : decode b_Nt_holder 20 = .ok (.ifCond .eq 18, 3) := by decide +kernel
theorem d_Nt_holder_23 : decode b_Nt_holder 23 = .ok (.aload_n 0, 1) := by decide +kernel
theorem d_Nt_holder_24 : decode b_Nt_holder 24 = .ok (.getfield 33, 3) := by decide +kernel
theorem d_Nt_holder_27 : decode b_Nt_holder 27 = .ok (.aload_n 0, 1) := by decide +kernel
theorem d_Nt_holder_28 : decode b_Nt_holder 28 = .ok (.iload 4, 2) := by decide +kernel
theorem d_Nt_holder_30 : decode b_Nt_holder 30 = .ok (.invokevirtual 125, 3) := by decide +kernel
theorem d_Nt_holder_33 : decode b_Nt_holder 33 = .ok (.invokevirtual 63, 3) := by decide +kernel
theorem d_Nt_holder_36 : decode b_Nt_holder 36 = .ok (.istore 4, 2) := by decide +kernel
theorem d_Nt_holder_38 : decode b_Nt_holder 38 = .ok (.iconst 0, 1) := by decide +kernel
theorem d_Nt_holder_39 : decode b_Nt_holder 39 = .ok (.istore 5, 2) := by decide +kernel
theorem d_Nt_holder_41 : decode b_Nt_holder 41 = .ok (.iload 5, 2) := by decide +kernel
theorem d_Nt_holder_43 : decode b_Nt_holder 43 = .ok (.aload_n 0, 1) := by decide +kernel
theorem d_Nt_holder_44 : decode b_Nt_holder 44 = .ok (.getfield 51, 3) := by decide +kernel
theorem d_Nt_holder_47 : decode b_Nt_holder 47 = .ok (.if_icmp .ge 48, 3) := by decide +kernel
theorem d_Nt_holder_50 : decode b_Nt_holder 50 = .ok (.aload_n 0, 1) := by decide +kernel
theorem d_Nt_holder_51 : decode b_Nt_holder 51 = .ok (.iload 4, 2) := by decide +kernel
theorem d_Nt_holder_53 : decode b_Nt_holder 53 = .ok (.invokevirtual 107, 3) := by decide +kernel
theorem d_Nt_holder_56 : decode b_Nt_holder 56 = .ok (.ifCond .ne 39, 3) := by decide +kernel
theorem d_Nt_holder_59 : decode b_Nt_holder 59 = .ok (.aload_n 0, 1) := by decide +kernel
theorem d_Nt_holder_60 : decode b_Nt_holder 60 = .ok (.iload 4, 2) := by decide +kernel
theorem d_Nt_holder_62 : decode b_Nt_holder 62 = .ok (.iload_n 2, 1) := by decide +kernel
theorem d_Nt_holder_63 : decode b_Nt_holder 63 = .ok (.iload_n 3, 1) := by decide +kernel
theorem d_Nt_holder_64 : decode b_Nt_holder 64 = .ok (.invokevirtual 135, 3) := by decide +kernel
theorem d_Nt_holder_67 : decode b_Nt_holder 67 = .ok (.istore 6, 2) := by decide +kernel
theorem d_Nt_holder_69 : decode b_Nt_holder 69 = .ok (.iload 6, 2) := by decide +kernel
theorem d_Nt_holder_71 : decode b_Nt_holder 71 = .ok (.iconst (-1), 1) := by decide +kernel
theorem d_Nt_holder_72 : decode b_Nt_holder 72 = .ok (.if_icmp .ne 6, 3) := by decide +kernel
theorem d_Nt_holder_75 : decode b_Nt_holder 75 = .ok (.iload 4, 2) := by decide +kernel
theorem d_Nt_holder_77 : decode b_Nt_holder 77 = .ok (.ireturn, 1) := by decide +kernel
theorem d_Nt_holder_78 : decode b_Nt_holder 78 = .ok (.aload_n 0, 1) := by decide +kernel
theorem d_Nt_holder_79 : decode b_Nt_holder 79 = .ok (.getfield 33, 3) := by decide +kernel
theorem d_Nt_holder_82 : decode b_Nt_holder 82 = .ok (.iload 6, 2) := by decide +kernel
theorem d_Nt_holder_84 : decode b_Nt_holder 84 = .ok (.invokevirtual 63, 3) := by decide +kernel
theorem d_Nt_holder_87 : decode b_Nt_holder 87 = .ok (.istore 4, 2) := by decide +kernel
theorem d_Nt_holder_89 : decode b_Nt_holder 89 = .ok (.iinc 5 1, 3) := by decide +kernel
theorem d_Nt_holder_92 : decode b_Nt_holder 92 = .ok (.goto (-51), 3) := by decide +kernel
theorem d_Nt_holder_95 : decode b_Nt_holder 95 = .ok (.iload 4, 2) := by decide +kernel
theorem d_Nt_holder_97 : decode b_Nt_holder 97 = .ok (.ireturn, 1) := by decide +kernel
theorem d_Nt_takeAway_0 : decode b_Nt_takeAway 0 = .ok (.aload_n 0, 1) := by decide +kernel
theorem d_Nt_takeAway_1 : decode b_Nt_takeAway 1 = .ok (.getfield 39, 3) := by decide +kernel
theorem d_Nt_takeAway_4 : decode b_Nt_takeAway 4 = .ok (.iload_n 1, 1) := by decide +kernel
theorem d_Nt_takeAway_5 : decode b_Nt_takeAway 5 = .ok (.aload_n 0, 1) := by decide +kernel
theorem d_Nt_takeAway_6 : decode b_Nt_takeAway 6 = .ok (.getfield 48, 3) := by decide +kernel
theorem d_Nt_takeAway_9 : decode b_Nt_takeAway 9 = .ok (.invokevirtual 82, 3) := by decide +kernel
theorem d_Nt_takeAway_12 : decode b_Nt_takeAway 12 = .ok (.aload_n 0, 1) := by decide +kernel
theorem d_Nt_takeAway_13 : decode b_Nt_takeAway 13 = .ok (.getfield 42, 3) := by decide +kernel
theorem d_Nt_takeAway_16 : decode b_Nt_takeAway 16 = .ok (.aload_n 0, 1) := by decide +kernel
theorem d_Nt_takeAway_17 : decode b_Nt_takeAway 17 = .ok (.getfield 57, 3) := by decide +kernel
theorem d_Nt_takeAway_20 : decode b_Nt_takeAway 20 = .ok (.iload_n 1, 1) := by decide +kernel
theorem d_Nt_takeAway_21 : decode b_Nt_takeAway 21 = .ok (.invokevirtual 82, 3) := by decide +kernel
theorem d_Nt_takeAway_24 : decode b_Nt_takeAway 24 = .ok (.aload_n 0, 1) := by decide +kernel
theorem d_Nt_takeAway_25 : decode b_Nt_takeAway 25 = .ok (.dup, 1) := by decide +kernel
theorem d_Nt_takeAway_26 : decode b_Nt_takeAway 26 = .ok (.getfield 57, 3) := by decide +kernel
theorem d_Nt_takeAway_29 : decode b_Nt_takeAway 29 = .ok (.iconst 1, 1) := by decide +kernel
theorem d_Nt_takeAway_30 : decode b_Nt_takeAway 30 = .ok (.iadd, 1) := by decide +kernel
theorem d_Nt_takeAway_31 : decode b_Nt_takeAway 31 = .ok (.putfield 57, 3) := by decide +kernel
theorem d_Nt_takeAway_34 : decode b_Nt_takeAway 34 = .ok (.aload_n 0, 1) := by decide +kernel
theorem d_Nt_takeAway_35 : decode b_Nt_takeAway 35 = .ok (.iconst 3, 1) := by decide +kernel
theorem d_Nt_takeAway_36 : decode b_Nt_takeAway 36 = .ok (.iload_n 1, 1) := by decide +kernel
theorem d_Nt_takeAway_37 : decode b_Nt_takeAway 37 = .ok (.imul, 1) := by decide +kernel
theorem d_Nt_takeAway_38 : decode b_Nt_takeAway 38 = .ok (.invokevirtual 107, 3) := by decide +kernel
theorem d_Nt_takeAway_41 : decode b_Nt_takeAway 41 = .ok (.ifCond .eq 13, 3) := by decide +kernel
theorem d_Nt_takeAway_44 : decode b_Nt_takeAway 44 = .ok (.aload_n 0, 1) := by decide +kernel
theorem d_Nt_takeAway_45 : decode b_Nt_takeAway 45 = .ok (.dup, 1) := by decide +kernel
theorem d_Nt_takeAway_46 : decode b_Nt_takeAway 46 = .ok (.getfield 54, 3) := by decide +kernel
theorem d_Nt_takeAway_49 : decode b_Nt_takeAway 49 = .ok (.iconst 1, 1) := by decide +kernel
theorem d_Nt_takeAway_50 : decode b_Nt_takeAway 50 = .ok (.isub, 1) := by decide +kernel
theorem d_Nt_takeAway_51 : decode b_Nt_takeAway 51 = .ok (.putfield 54, 3) := by decide +kernel
theorem d_Nt_takeAway_54 : decode b_Nt_takeAway 54 = .ok (.return_, 1) := by decide +kernel
theorem d_Pt_isLess_0 : decode b_Pt_isLess 0 = .ok (.aload_n 0, 1) := by decide +kernel
theorem d_Pt_isLess_1 : decode b_Pt_isLess 1 = .ok (.getfield 23, 3) := by decide +kernel
theorem d_Pt_isLess_4 : decode b_Pt_isLess 4 = .ok (.iload_n 1, 1) := by decide +kernel
theorem d_Pt_isLess_5 : decode b_Pt_isLess 5 = .ok (.invokevirtual 44, 3) := by decide +kernel
theorem d_Pt_isLess_8 : decode b_Pt_isLess 8 = .ok (.aload_n 0, 1) := by decide +kernel
theorem d_Pt_isLess_9 : decode b_Pt_isLess 9 = .ok (.getfield 23, 3) := by decide +kernel
theorem d_Pt_isLess_12 : decode b_Pt_isLess 12 = .ok (.iload_n 2, 1) := by decide +kernel
theorem d_Pt_isLess_13 : decode b_Pt_isLess 13 = .ok (.invokevirtual 44, 3) := by decide +kernel
theorem d_Pt_isLess_16 : decode b_Pt_isLess 16 = .ok (.if_icmp .lt 41, 3) := by decide +kernel
theorem d_Pt_isLess_19 : decode b_Pt_isLess 19 = .ok (.aload_n 0, 1) := by decide +kernel
theorem d_Pt_isLess_20 : decode b_Pt_isLess 20 = .ok (.getfield 23, 3) := by decide +kernel
theorem d_Pt_isLess_23 : decode b_Pt_isLess 23 = .ok (.iload_n 1, 1) := by decide +kernel
theorem d_Pt_isLess_24 : decode b_Pt_isLess 24 = .ok (.invokevirtual 44, 3) := by decide +kernel
theorem d_Pt_isLess_27 : decode b_Pt_isLess 27 = .ok (.aload_n 0, 1) := by decide +kernel
theorem d_Pt_isLess_28 : decode b_Pt_isLess 28 = .ok (.getfield 23, 3) := by decide +kernel
theorem d_Pt_isLess_31 : decode b_Pt_isLess 31 = .ok (.iload_n 2, 1) := by decide +kernel
theorem d_Pt_isLess_32 : decode b_Pt_isLess 32 = .ok (.invokevirtual 44, 3) := by decide +kernel
theorem d_Pt_isLess_35 : decode b_Pt_isLess 35 = .ok (.if_icmp .ne 26, 3) := by decide +kernel
theorem d_Pt_isLess_38 : decode b_Pt_isLess 38 = .ok (.aload_n 0, 1) := by decide +kernel
theorem d_Pt_isLess_39 : decode b_Pt_isLess 39 = .ok (.getfield 27, 3) := by decide +kernel
theorem d_Pt_isLess_42 : decode b_Pt_isLess 42 = .ok (.iload_n 1, 1) := by decide +kernel
theorem d_Pt_isLess_43 : decode b_Pt_isLess 43 = .ok (.invokevirtual 44, 3) := by decide +kernel
theorem d_Pt_isLess_46 : decode b_Pt_isLess 46 = .ok (.aload_n 0, 1) := by decide +kernel
theorem d_Pt_isLess_47 : decode b_Pt_isLess 47 = .ok (.getfield 27, 3) := by decide +kernel
theorem d_Pt_isLess_50 : decode b_Pt_isLess 50 = .ok (.iload_n 2, 1) := by decide +kernel
theorem d_Pt_isLess_51 : decode b_Pt_isLess 51 = .ok (.invokevirtual 44, 3) := by decide +kernel
theorem d_Pt_isLess_54 : decode b_Pt_isLess 54 = .ok (.if_icmp .ge 7, 3) := by decide +kernel
theorem d_Pt_isLess_57 : decode b_Pt_isLess 57 = .ok (.iconst 1, 1) := by decide +kernel
theorem d_Pt_isLess_58 : decode b_Pt_isLess 58 = .ok (.goto 4, 3) := by decide +kernel
theorem d_Pt_isLess_61 : decode b_Pt_isLess 61 = .ok (.iconst 0, 1) := by decide +kernel
theorem d_Pt_isLess_62 : decode b_Pt_isLess 62 = .ok (.ireturn, 1) := by decide +kernel
theorem d_Nt_isSeen_0 : decode b_Nt_isSeen 0 = .ok (.aload_n 0, 1) := by decide +kernel
theorem d_Nt_isSeen_1 : decode b_Nt_isSeen 1 = .ok (.iload_n 1, 1) := by decide +kernel
theorem d_Nt_isSeen_2 : decode b_Nt_isSeen 2 = .ok (.invokevirtual 125, 3) := by decide +kernel
theorem d_Nt_isSeen_5 : decode b_Nt_isSeen 5 = .ok (.istore_n 3, 1) := by decide +kernel
theorem d_Nt_isSeen_6 : decode b_Nt_isSeen 6 = .ok (.aload_n 0, 1) := by decide +kernel
theorem d_Nt_isSeen_7 : decode b_Nt_isSeen 7 = .ok (.iload_n 3, 1) := by decide +kernel
theorem d_Nt_isSeen_8 : decode b_Nt_isSeen 8 = .ok (.invokevirtual 115, 3) := by decide +kernel
theorem d_Nt_isSeen_11 : decode b_Nt_isSeen 11 = .ok (.istore 4, 2) := by decide +kernel
theorem d_Nt_isSeen_13 : decode b_Nt_isSeen 13 = .ok (.aload_n 0, 1) := by decide +kernel
theorem d_Nt_isSeen_14 : decode b_Nt_isSeen 14 = .ok (.iload_n 3, 1) := by decide +kernel
theorem d_Nt_isSeen_15 : decode b_Nt_isSeen 15 = .ok (.invokevirtual 118, 3) := by decide +kernel
theorem d_Nt_isSeen_18 : decode b_Nt_isSeen 18 = .ok (.istore 5, 2) := by decide +kernel
theorem d_Nt_isSeen_20 : decode b_Nt_isSeen 20 = .ok (.aload_n 0, 1) := by decide +kernel
theorem d_Nt_isSeen_21 : decode b_Nt_isSeen 21 = .ok (.getfield 9, 3) := by decide +kernel
theorem d_Nt_isSeen_24 : decode b_Nt_isSeen 24 = .ok (.iload 4, 2) := by decide +kernel
theorem d_Nt_isSeen_26 : decode b_Nt_isSeen 26 = .ok (.iload 5, 2) := by decide +kernel
theorem d_Nt_isSeen_28 : decode b_Nt_isSeen 28 = .ok (.aload_n 0, 1) := by decide +kernel
theorem d_Nt_isSeen_29 : decode b_Nt_isSeen 29 = .ok (.getfield 9, 3) := by decide +kernel
theorem d_Nt_isSeen_32 : decode b_Nt_isSeen 32 = .ok (.iload_n 2, 1) := by decide +kernel
theorem d_Nt_isSeen_33 : decode b_Nt_isSeen 33 = .ok (.invokevirtual 88, 3) := by decide +kernel
theorem d_Nt_isSeen_36 : decode b_Nt_isSeen 36 = .ok (.aload_n 0, 1) := by decide +kernel
theorem d_Nt_isSeen_37 : decode b_Nt_isSeen 37 = .ok (.getfield 9, 3) := by decide +kernel
theorem d_Nt_isSeen_40 : decode b_Nt_isSeen 40 = .ok (.iload_n 2, 1) := by decide +kernel
theorem d_Nt_isSeen_41 : decode b_Nt_isSeen 41 = .ok (.invokevirtual 91, 3) := by decide +kernel
theorem d_Nt_isSeen_44 : decode b_Nt_isSeen 44 = .ok (.invokevirtual 128, 3) := by decide +kernel
theorem d_Nt_isSeen_47 : decode b_Nt_isSeen 47 = .ok (.lstore 6, 2) := by decide +kernel
theorem d_Nt_isSeen_49 : decode b_Nt_isSeen 49 = .ok (.lload 6, 2) := by decide +kernel
theorem d_Nt_isSeen_51 : decode b_Nt_isSeen 51 = .ok (.lconst 0, 1) := by decide +kernel
theorem d_Nt_isSeen_52 : decode b_Nt_isSeen 52 = .ok (.lcmp, 1) := by decide +kernel
theorem d_Nt_isSeen_53 : decode b_Nt_isSeen 53 = .ok (.ifCond .gt 33, 3) := by decide +kernel
theorem d_Nt_isSeen_56 : decode b_Nt_isSeen 56 = .ok (.lload 6, 2) := by decide +kernel
theorem d_Nt_isSeen_58 : decode b_Nt_isSeen 58 = .ok (.lconst 0, 1) := by decide +kernel
theorem d_Nt_isSeen_59 : decode b_Nt_isSeen 59 = .ok (.lcmp, 1) := by decide +kernel
theorem d_Nt_isSeen_60 : decode b_Nt_isSeen 60 = .ok (.ifCond .ne 30, 3) := by decide +kernel
theorem d_Nt_isSeen_63 : decode b_Nt_isSeen 63 = .ok (.aload_n 0, 1) := by decide +kernel
theorem d_Nt_isSeen_64 : decode b_Nt_isSeen 64 = .ok (.getfield 9, 3) := by decide +kernel
theorem d_Nt_isSeen_67 : decode b_Nt_isSeen 67 = .ok (.iload 4, 2) := by decide +kernel
theorem d_Nt_isSeen_69 : decode b_Nt_isSeen 69 = .ok (.iload_n 2, 1) := by decide +kernel
theorem d_Nt_isSeen_70 : decode b_Nt_isSeen 70 = .ok (.invokevirtual 132, 3) := by decide +kernel
theorem d_Nt_isSeen_73 : decode b_Nt_isSeen 73 = .ok (.aload_n 0, 1) := by decide +kernel
theorem d_Nt_isSeen_74 : decode b_Nt_isSeen 74 = .ok (.getfield 9, 3) := by decide +kernel
theorem d_Nt_isSeen_77 : decode b_Nt_isSeen 77 = .ok (.iload_n 2, 1) := by decide +kernel
theorem d_Nt_isSeen_78 : decode b_Nt_isSeen 78 = .ok (.iload 5, 2) := by decide +kernel
theorem d_Nt_isSeen_80 : decode b_Nt_isSeen 80 = .ok (.invokevirtual 132, 3) := by decide +kernel
theorem d_Nt_isSeen_83 : decode b_Nt_isSeen 83 = .ok (.if_icmp .ne 7, 3) := by decide +kernel
theorem d_Nt_isSeen_86 : decode b_Nt_isSeen 86 = .ok (.iconst 1, 1) := by decide +kernel
theorem d_Nt_isSeen_87 : decode b_Nt_isSeen 87 = .ok (.goto 4, 3) := by decide +kernel
theorem d_Nt_isSeen_90 : decode b_Nt_isSeen 90 = .ok (.iconst 0, 1) := by decide +kernel
theorem d_Nt_isSeen_91 : decode b_Nt_isSeen 91 = .ok (.ireturn, 1) := by decide +kernel
theorem d_Wd_reset_0 : decode b_Wd_reset 0 = .ok (.aload_n 0, 1) := by decide +kernel
theorem d_Wd_reset_1 : decode b_Wd_reset 1 = .ok (.lconst 0, 1) := by decide +kernel
theorem d_Wd_reset_2 : decode b_Wd_reset 2 = .ok (.putfield 7, 3) := by decide +kernel
theorem d_Wd_reset_5 : decode b_Wd_reset 5 = .ok (.aload_n 0, 1) := by decide +kernel
theorem d_Wd_reset_6 : decode b_Wd_reset 6 = .ok (.lconst 0, 1) := by decide +kernel
theorem d_Wd_reset_7 : decode b_Wd_reset 7 = .ok (.putfield 13, 3) := by decide +kernel
theorem d_Wd_reset_10 : decode b_Wd_reset 10 = .ok (.return_, 1) := by decide +kernel
theorem d_Pt_dot_0 : decode b_Pt_dot 0 = .ok (.aload_n 0, 1) := by decide +kernel
theorem d_Pt_dot_1 : decode b_Pt_dot 1 = .ok (.getfield 23, 3) := by decide +kernel
theorem d_Pt_dot_4 : decode b_Pt_dot 4 = .ok (.iload_n 2, 1) := by decide +kernel
theorem d_Pt_dot_5 : decode b_Pt_dot 5 = .ok (.invokevirtual 44, 3) := by decide +kernel
theorem d_Pt_dot_8 : decode b_Pt_dot 8 = .ok (.i2l, 1) := by decide +kernel
theorem d_Pt_dot_9 : decode b_Pt_dot 9 = .ok (.aload_n 0, 1) := by decide +kernel
theorem d_Pt_dot_10 : decode b_Pt_dot 10 = .ok (.getfield 23, 3) := by decide +kernel
theorem d_Pt_dot_13 : decode b_Pt_dot 13 = .ok (.iload_n 1, 1) := by decide +kernel
theorem d_Pt_dot_14 : decode b_Pt_dot 14 = .ok (.invokevirtual 44, 3) := by decide +kernel
theorem d_Pt_dot_17 : decode b_Pt_dot 17 = .ok (.i2l, 1) := by decide +kernel
theorem d_Pt_dot_18 : decode b_Pt_dot 18 = .ok (.lsub, 1) := by decide +kernel
theorem d_Pt_dot_19 : decode b_Pt_dot 19 = .ok (.lstore 4, 2) := by decide +kernel
theorem d_Pt_dot_21 : decode b_Pt_dot 21 = .ok (.aload_n 0, 1) := by decide +kernel
theorem d_Pt_dot_22 : decode b_Pt_dot 22 = .ok (.getfield 27, 3) := by decide +kernel
theorem d_Pt_dot_25 : decode b_Pt_dot 25 = .ok (.iload_n 2, 1) := by decide +kernel
theorem d_Pt_dot_26 : decode b_Pt_dot 26 = .ok (.invokevirtual 44, 3) := by decide +kernel
theorem d_Pt_dot_29 : decode b_Pt_dot 29 = .ok (.i2l, 1) := by decide +kernel
theorem d_Pt_dot_30 : decode b_Pt_dot 30 = .ok (.aload_n 0, 1) := by decide +kernel
theorem d_Pt_dot_31 : decode b_Pt_dot 31 = .ok (.getfield 27, 3) := by decide +kernel
theorem d_Pt_dot_34 : decode b_Pt_dot 34 = .ok (.iload_n 1, 1) := by decide +kernel
theorem d_Pt_dot_35 : decode b_Pt_dot 35 = .ok (.invokevirtual 44, 3) := by decide +kernel
theorem d_Pt_dot_38 : decode b_Pt_dot 38 = .ok (.i2l, 1) := by decide +kernel
theorem d_Pt_dot_39 : decode b_Pt_dot 39 = .ok (.lsub, 1) := by decide +kernel
theorem d_Pt_dot_40 : decode b_Pt_dot 40 = .ok (.lstore 6, 2) := by decide +kernel
theorem d_Pt_dot_42 : decode b_Pt_dot 42 = .ok (.aload_n 0, 1) := by decide +kernel
theorem d_Pt_dot_43 : decode b_Pt_dot 43 = .ok (.getfield 23, 3) := by decide +kernel
theorem d_Pt_dot_46 : decode b_Pt_dot 46 = .ok (.iload_n 3, 1) := by decide +kernel
theorem d_Pt_dot_47 : decode b_Pt_dot 47 = .ok (.invokevirtual 44, 3) := by decide +kernel
theorem d_Pt_dot_50 : decode b_Pt_dot 50 = .ok (.i2l, 1) := by decide +kernel
theorem d_Pt_dot_51 : decode b_Pt_dot 51 = .ok (.aload_n 0, 1) := by decide +kernel
theorem d_Pt_dot_52 : decode b_Pt_dot 52 = .ok (.getfield 23, 3) := by decide +kernel
theorem d_Pt_dot_55 : decode b_Pt_dot 55 = .ok (.iload_n 1, 1) := by decide +kernel
theorem d_Pt_dot_56 : decode b_Pt_dot 56 = .ok (.invokevirtual 44, 3) := by decide +kernel
theorem d_Pt_dot_59 : decode b_Pt_dot 59 = .ok (.i2l, 1) := by decide +kernel
theorem d_Pt_dot_60 : decode b_Pt_dot 60 = .ok (.lsub, 1) := by decide +kernel
theorem d_Pt_dot_61 : decode b_Pt_dot 61 = .ok (.lstore 8, 2) := by decide +kernel
theorem d_Pt_dot_63 : decode b_Pt_dot 63 = .ok (.aload_n 0, 1) := by decide +kernel
theorem d_Pt_dot_64 : decode b_Pt_dot 64 = .ok (.getfield 27, 3) := by decide +kernel
theorem d_Pt_dot_67 : decode b_Pt_dot 67 = .ok (.iload_n 3, 1) := by decide +kernel
theorem d_Pt_dot_68 : decode b_Pt_dot 68 = .ok (.invokevirtual 44, 3) := by decide +kernel
theorem d_Pt_dot_71 : decode b_Pt_dot 71 = .ok (.i2l, 1) := by decide +kernel
theorem d_Pt_dot_72 : decode b_Pt_dot 72 = .ok (.aload_n 0, 1) := by decide +kernel
theorem d_Pt_dot_73 : decode b_Pt_dot 73 = .ok (.getfield 27, 3) := by decide +kernel
theorem d_Pt_dot_76 : decode b_Pt_dot 76 = .ok (.iload_n 1, 1) := by decide +kernel
theorem d_Pt_dot_77 : decode b_Pt_dot 77 = .ok (.invokevirtual 44, 3) := by decide +kernel
theorem d_Pt_dot_80 : decode b_Pt_dot 80 = .ok (.i2l, 1) := by decide +kernel
theorem d_Pt_dot_81 : decode b_Pt_dot 81 = .ok (.lsub, 1) := by decide +kernel
theorem d_Pt_dot_82 : decode b_Pt_dot 82 = .ok (.lstore 10, 2) := by decide +kernel
theorem d_Pt_dot_84 : decode b_Pt_dot 84 = .ok (.lload 4, 2) := by decide +kernel
theorem d_Pt_dot_86 : decode b_Pt_dot 86 = .ok (.lload 8, 2) := by decide +kernel
theorem d_Pt_dot_88 : decode b_Pt_dot 88 = .ok (.lmul, 1) := by decide +kernel
theorem d_Pt_dot_89 : decode b_Pt_dot 89 = .ok (.lload 6, 2) := by decide +kernel
theorem d_Pt_dot_91 : decode b_Pt_dot 91 = .ok (.lload 10, 2) := by decide +kernel
theorem d_Pt_dot_93 : decode b_Pt_dot 93 = .ok (.lmul, 1) := by decide +kernel
theorem d_Pt_dot_94 : decode b_Pt_dot 94 = .ok (.ladd, 1) := by decide +kernel
theorem d_Pt_dot_95 : decode b_Pt_dot 95 = .ok (.lreturn, 1) := by decide +kernel
theorem d_Wd_addProduct_0 : decode b_Wd_addProduct 0 = .ok (.lload_n 1, 1) := by decide +kernel
theorem d_Wd_addProduct_1 : decode b_Wd_addProduct 1 = .ok (.bipush 32, 2) := by decide +kernel
theorem d_Wd_addProduct_3 : decode b_Wd_addProduct 3 = .ok (.lshr, 1) := by decide +kernel
theorem d_Wd_addProduct_4 : decode b_Wd_addProduct 4 = .ok (.lstore 5, 2) := by decide +kernel
theorem d_Wd_addProduct_6 : decode b_Wd_addProduct 6 = .ok (.lload_n 1, 1) := by decide +kernel
theorem d_Wd_addProduct_7 : decode b_Wd_addProduct 7 = .ok (.ldc2_w 16, 3) := by decide +kernel
theorem d_Wd_addProduct_10 : decode b_Wd_addProduct 10 = .ok (.land, 1) := by decide +kernel
theorem d_Wd_addProduct_11 : decode b_Wd_addProduct 11 = .ok (.lstore 7, 2) := by decide +kernel
theorem d_Wd_addProduct_13 : decode b_Wd_addProduct 13 = .ok (.lload_n 3, 1) := by decide +kernel
theorem d_Wd_addProduct_14 : decode b_Wd_addProduct 14 = .ok (.bipush 32, 2) := by decide +kernel
theorem d_Wd_addProduct_16 : decode b_Wd_addProduct 16 = .ok (.lshr, 1) := by decide +kernel
theorem d_Wd_addProduct_17 : decode b_Wd_addProduct 17 = .ok (.lstore 9, 2) := by decide +kernel
theorem d_Wd_addProduct_19 : decode b_Wd_addProduct 19 = .ok (.lload_n 3, 1) := by decide +kernel
theorem d_Wd_addProduct_20 : decode b_Wd_addProduct 20 = .ok (.ldc2_w 16, 3) := by decide +kernel
theorem d_Wd_addProduct_23 : decode b_Wd_addProduct 23 = .ok (.land, 1) := by decide +kernel
theorem d_Wd_addProduct_24 : decode b_Wd_addProduct 24 = .ok (.lstore 11, 2) := by decide +kernel
theorem d_Wd_addProduct_26 : decode b_Wd_addProduct 26 = .ok (.lload 5, 2) := by decide +kernel
theorem d_Wd_addProduct_28 : decode b_Wd_addProduct 28 = .ok (.lload 11, 2) := by decide +kernel
theorem d_Wd_addProduct_30 : decode b_Wd_addProduct 30 = .ok (.lmul, 1) := by decide +kernel
theorem d_Wd_addProduct_31 : decode b_Wd_addProduct 31 = .ok (.lload 7, 2) := by decide +kernel
theorem d_Wd_addProduct_33 : decode b_Wd_addProduct 33 = .ok (.lload 11, 2) := by decide +kernel
theorem d_Wd_addProduct_35 : decode b_Wd_addProduct 35 = .ok (.lmul, 1) := by decide +kernel
theorem d_Wd_addProduct_36 : decode b_Wd_addProduct 36 = .ok (.bipush 32, 2) := by decide +kernel
theorem d_Wd_addProduct_38 : decode b_Wd_addProduct 38 = .ok (.lushr, 1) := by decide +kernel
theorem d_Wd_addProduct_39 : decode b_Wd_addProduct 39 = .ok (.ladd, 1) := by decide +kernel
theorem d_Wd_addProduct_40 : decode b_Wd_addProduct 40 = .ok (.lstore 13, 2) := by decide +kernel
theorem d_Wd_addProduct_42 : decode b_Wd_addProduct 42 = .ok (.lload 7, 2) := by decide +kernel
theorem d_Wd_addProduct_44 : decode b_Wd_addProduct 44 = .ok (.lload 9, 2) := by decide +kernel
theorem d_Wd_addProduct_46 : decode b_Wd_addProduct 46 = .ok (.lmul, 1) := by decide +kernel
theorem d_Wd_addProduct_47 : decode b_Wd_addProduct 47 = .ok (.lload 13, 2) := by decide +kernel
theorem d_Wd_addProduct_49 : decode b_Wd_addProduct 49 = .ok (.ldc2_w 16, 3) := by decide +kernel
theorem d_Wd_addProduct_52 : decode b_Wd_addProduct 52 = .ok (.land, 1) := by decide +kernel
theorem d_Wd_addProduct_53 : decode b_Wd_addProduct 53 = .ok (.ladd, 1) := by decide +kernel
theorem d_Wd_addProduct_54 : decode b_Wd_addProduct 54 = .ok (.lstore 15, 2) := by decide +kernel
theorem d_Wd_addProduct_56 : decode b_Wd_addProduct 56 = .ok (.lload 5, 2) := by decide +kernel
theorem d_Wd_addProduct_58 : decode b_Wd_addProduct 58 = .ok (.lload 9, 2) := by decide +kernel
theorem d_Wd_addProduct_60 : decode b_Wd_addProduct 60 = .ok (.lmul, 1) := by decide +kernel
theorem d_Wd_addProduct_61 : decode b_Wd_addProduct 61 = .ok (.lload 13, 2) := by decide +kernel
theorem d_Wd_addProduct_63 : decode b_Wd_addProduct 63 = .ok (.bipush 32, 2) := by decide +kernel
theorem d_Wd_addProduct_65 : decode b_Wd_addProduct 65 = .ok (.lshr, 1) := by decide +kernel
theorem d_Wd_addProduct_66 : decode b_Wd_addProduct 66 = .ok (.ladd, 1) := by decide +kernel
theorem d_Wd_addProduct_67 : decode b_Wd_addProduct 67 = .ok (.lload 15, 2) := by decide +kernel
theorem d_Wd_addProduct_69 : decode b_Wd_addProduct 69 = .ok (.bipush 32, 2) := by decide +kernel
theorem d_Wd_addProduct_71 : decode b_Wd_addProduct 71 = .ok (.lshr, 1) := by decide +kernel
theorem d_Wd_addProduct_72 : decode b_Wd_addProduct 72 = .ok (.ladd, 1) := by decide +kernel
theorem d_Wd_addProduct_73 : decode b_Wd_addProduct 73 = .ok (.lstore 17, 2) := by decide +kernel
theorem d_Wd_addProduct_75 : decode b_Wd_addProduct 75 = .ok (.lload_n 1, 1) := by decide +kernel
theorem d_Wd_addProduct_76 : decode b_Wd_addProduct 76 = .ok (.lload_n 3, 1) := by decide +kernel
theorem d_Wd_addProduct_77 : decode b_Wd_addProduct 77 = .ok (.lmul, 1) := by decide +kernel
theorem d_Wd_addProduct_78 : decode b_Wd_addProduct 78 = .ok (.lstore 19, 2) := by decide +kernel
theorem d_Wd_addProduct_80 : decode b_Wd_addProduct 80 = .ok (.aload_n 0, 1) := by decide +kernel
theorem d_Wd_addProduct_81 : decode b_Wd_addProduct 81 = .ok (.getfield 13, 3) := by decide +kernel
theorem d_Wd_addProduct_84 : decode b_Wd_addProduct 84 = .ok (.lload 19, 2) := by decide +kernel
theorem d_Wd_addProduct_86 : decode b_Wd_addProduct 86 = .ok (.ladd, 1) := by decide +kernel
theorem d_Wd_addProduct_87 : decode b_Wd_addProduct 87 = .ok (.lstore 21, 2) := by decide +kernel
theorem d_Wd_addProduct_89 : decode b_Wd_addProduct 89 = .ok (.aload_n 0, 1) := by decide +kernel
theorem d_Wd_addProduct_90 : decode b_Wd_addProduct 90 = .ok (.getfield 13, 3) := by decide +kernel
theorem d_Wd_addProduct_93 : decode b_Wd_addProduct 93 = .ok (.lload 19, 2) := by decide +kernel
theorem d_Wd_addProduct_95 : decode b_Wd_addProduct 95 = .ok (.land, 1) := by decide +kernel
theorem d_Wd_addProduct_96 : decode b_Wd_addProduct 96 = .ok (.aload_n 0, 1) := by decide +kernel
theorem d_Wd_addProduct_97 : decode b_Wd_addProduct 97 = .ok (.getfield 13, 3) := by decide +kernel
theorem d_Wd_addProduct_100 : decode b_Wd_addProduct 100 = .ok (.lload 19, 2) := by decide +kernel
theorem d_Wd_addProduct_102 : decode b_Wd_addProduct 102 = .ok (.lor, 1) := by decide +kernel
theorem d_Wd_addProduct_103 : decode b_Wd_addProduct 103 = .ok (.lload 21, 2) := by decide +kernel
theorem d_Wd_addProduct_105 : decode b_Wd_addProduct 105 = .ok (.ldc2_w 18, 3) := by decide +kernel
theorem d_Wd_addProduct_108 : decode b_Wd_addProduct 108 = .ok (.lxor, 1) := by decide +kernel
theorem d_Wd_addProduct_109 : decode b_Wd_addProduct 109 = .ok (.land, 1) := by decide +kernel
theorem d_Wd_addProduct_110 : decode b_Wd_addProduct 110 = .ok (.lor, 1) := by decide +kernel
theorem d_Wd_addProduct_111 : decode b_Wd_addProduct 111 = .ok (.bipush 63, 2) := by decide +kernel
theorem d_Wd_addProduct_113 : decode b_Wd_addProduct 113 = .ok (.lushr, 1) := by decide +kernel
theorem d_Wd_addProduct_114 : decode b_Wd_addProduct 114 = .ok (.lstore 23, 2) := by decide +kernel
theorem d_Wd_addProduct_116 : decode b_Wd_addProduct 116 = .ok (.aload_n 0, 1) := by decide +kernel
theorem d_Wd_addProduct_117 : decode b_Wd_addProduct 117 = .ok (.lload 21, 2) := by decide +kernel
theorem d_Wd_addProduct_119 : decode b_Wd_addProduct 119 = .ok (.putfield 13, 3) := by decide +kernel
theorem d_Wd_addProduct_122 : decode b_Wd_addProduct 122 = .ok (.aload_n 0, 1) := by decide +kernel
theorem d_Wd_addProduct_123 : decode b_Wd_addProduct 123 = .ok (.aload_n 0, 1) := by decide +kernel
theorem d_Wd_addProduct_124 : decode b_Wd_addProduct 124 = .ok (.getfield 7, 3) := by decide +kernel
theorem d_Wd_addProduct_127 : decode b_Wd_addProduct 127 = .ok (.lload 17, 2) := by decide +kernel
theorem d_Wd_addProduct_129 : decode b_Wd_addProduct 129 = .ok (.ladd, 1) := by decide +kernel
theorem d_Wd_addProduct_130 : decode b_Wd_addProduct 130 = .ok (.lload 23, 2) := by decide +kernel
theorem d_Wd_addProduct_132 : decode b_Wd_addProduct 132 = .ok (.ladd, 1) := by decide +kernel
theorem d_Wd_addProduct_133 : decode b_Wd_addProduct 133 = .ok (.putfield 7, 3) := by decide +kernel
theorem d_Wd_addProduct_136 : decode b_Wd_addProduct 136 = .ok (.return_, 1) := by decide +kernel
theorem d_Wd_sign_0 : decode b_Wd_sign 0 = .ok (.aload_n 0, 1) := by decide +kernel
theorem d_Wd_sign_1 : decode b_Wd_sign 1 = .ok (.getfield 7, 3) := by decide +kernel
theorem d_Wd_sign_4 : decode b_Wd_sign 4 = .ok (.lconst 0, 1) := by decide +kernel
theorem d_Wd_sign_5 : decode b_Wd_sign 5 = .ok (.lcmp, 1) := by decide +kernel
theorem d_Wd_sign_6 : decode b_Wd_sign 6 = .ok (.ifCond .ge 5, 3) := by decide +kernel
theorem d_Wd_sign_9 : decode b_Wd_sign 9 = .ok (.iconst (-1), 1) := by decide +kernel
theorem d_Wd_sign_10 : decode b_Wd_sign 10 = .ok (.ireturn, 1) := by decide +kernel
theorem d_Wd_sign_11 : decode b_Wd_sign 11 = .ok (.aload_n 0, 1) := by decide +kernel
theorem d_Wd_sign_12 : decode b_Wd_sign 12 = .ok (.getfield 7, 3) := by decide +kernel
theorem d_Wd_sign_15 : decode b_Wd_sign 15 = .ok (.lconst 0, 1) := by decide +kernel
theorem d_Wd_sign_16 : decode b_Wd_sign 16 = .ok (.lcmp, 1) := by decide +kernel
theorem d_Wd_sign_17 : decode b_Wd_sign 17 = .ok (.ifCond .ne 16, 3) := by decide +kernel
theorem d_Wd_sign_20 : decode b_Wd_sign 20 = .ok (.aload_n 0, 1) := by decide +kernel
theorem d_Wd_sign_21 : decode b_Wd_sign 21 = .ok (.getfield 13, 3) := by decide +kernel
theorem d_Wd_sign_24 : decode b_Wd_sign 24 = .ok (.lconst 0, 1) := by decide +kernel
theorem d_Wd_sign_25 : decode b_Wd_sign 25 = .ok (.lcmp, 1) := by decide +kernel
theorem d_Wd_sign_26 : decode b_Wd_sign 26 = .ok (.ifCond .ne 7, 3) := by decide +kernel
theorem d_Wd_sign_29 : decode b_Wd_sign 29 = .ok (.iconst 0, 1) := by decide +kernel
theorem d_Wd_sign_30 : decode b_Wd_sign 30 = .ok (.goto 4, 3) := by decide +kernel
theorem d_Wd_sign_33 : decode b_Wd_sign 33 = .ok (.iconst 1, 1) := by decide +kernel
theorem d_Wd_sign_34 : decode b_Wd_sign 34 = .ok (.ireturn, 1) := by decide +kernel
theorem d_Pt_takesAway_0 : decode b_Pt_takesAway 0 = .ok (.aload_n 0, 1) := by decide +kernel
theorem d_Pt_takesAway_1 : decode b_Pt_takesAway 1 = .ok (.getfield 33, 3) := by decide +kernel
theorem d_Pt_takesAway_4 : decode b_Pt_takesAway 4 = .ok (.invokevirtual 63, 3) := by decide +kernel
theorem d_Pt_takesAway_7 : decode b_Pt_takesAway 7 = .ok (.aload_n 0, 1) := by decide +kernel
theorem d_Pt_takesAway_8 : decode b_Pt_takesAway 8 = .ok (.getfield 33, 3) := by decide +kernel
theorem d_Pt_takesAway_11 : decode b_Pt_takesAway 11 = .ok (.aload_n 0, 1) := by decide +kernel
theorem d_Pt_takesAway_12 : decode b_Pt_takesAway 12 = .ok (.iload 4, 2) := by decide +kernel
theorem d_Pt_takesAway_14 : decode b_Pt_takesAway 14 = .ok (.iload_n 2, 1) := by decide +kernel
theorem d_Pt_takesAway_15 : decode b_Pt_takesAway 15 = .ok (.aload_n 0, 1) := by decide +kernel
theorem d_Pt_takesAway_16 : decode b_Pt_takesAway 16 = .ok (.getfield 23, 3) := by decide +kernel
theorem d_Pt_takesAway_19 : decode b_Pt_takesAway 19 = .ok (.iload_n 3, 1) := by decide +kernel
theorem d_Pt_takesAway_20 : decode b_Pt_takesAway 20 = .ok (.invokevirtual 44, 3) := by decide +kernel
theorem d_Pt_takesAway_23 : decode b_Pt_takesAway 23 = .ok (.aload_n 0, 1) := by decide +kernel
theorem d_Pt_takesAway_24 : decode b_Pt_takesAway 24 = .ok (.getfield 27, 3) := by decide +kernel
theorem d_Pt_takesAway_27 : decode b_Pt_takesAway 27 = .ok (.iload_n 3, 1) := by decide +kernel
theorem d_Pt_takesAway_28 : decode b_Pt_takesAway 28 = .ok (.invokevirtual 44, 3) := by decide +kernel
theorem d_Pt_takesAway_31 : decode b_Pt_takesAway 31 = .ok (.invokevirtual 66, 3) := by decide +kernel
theorem d_Pt_takesAway_34 : decode b_Pt_takesAway 34 = .ok (.aload_n 0, 1) := by decide +kernel
theorem d_Pt_takesAway_35 : decode b_Pt_takesAway 35 = .ok (.iload_n 1, 1) := by decide +kernel
theorem d_Pt_takesAway_36 : decode b_Pt_takesAway 36 = .ok (.iload_n 2, 1) := by decide +kernel
theorem d_Pt_takesAway_37 : decode b_Pt_takesAway 37 = .ok (.iload_n 3, 1) := by decide +kernel
theorem d_Pt_takesAway_38 : decode b_Pt_takesAway 38 = .ok (.invokevirtual 70, 3) := by decide +kernel
theorem d_Pt_takesAway_41 : decode b_Pt_takesAway 41 = .ok (.invokevirtual 73, 3) := by decide +kernel
theorem d_Pt_takesAway_44 : decode b_Pt_takesAway 44 = .ok (.aload_n 0, 1) := by decide +kernel
theorem d_Pt_takesAway_45 : decode b_Pt_takesAway 45 = .ok (.getfield 33, 3) := by decide +kernel
theorem d_Pt_takesAway_48 : decode b_Pt_takesAway 48 = .ok (.aload_n 0, 1) := by decide +kernel
theorem d_Pt_takesAway_49 : decode b_Pt_takesAway 49 = .ok (.iload_n 1, 1) := by decide +kernel
theorem d_Pt_takesAway_50 : decode b_Pt_takesAway 50 = .ok (.iload_n 3, 1) := by decide +kernel
theorem d_Pt_takesAway_51 : decode b_Pt_takesAway 51 = .ok (.aload_n 0, 1) := by decide +kernel
theorem d_Pt_takesAway_52 : decode b_Pt_takesAway 52 = .ok (.getfield 23, 3) := by decide +kernel
theorem d_Pt_takesAway_55 : decode b_Pt_takesAway 55 = .ok (.iload_n 2, 1) := by decide +kernel
theorem d_Pt_takesAway_56 : decode b_Pt_takesAway 56 = .ok (.invokevirtual 44, 3) := by decide +kernel
theorem d_Pt_takesAway_59 : decode b_Pt_takesAway 59 = .ok (.aload_n 0, 1) := by decide +kernel
theorem d_Pt_takesAway_60 : decode b_Pt_takesAway 60 = .ok (.getfield 27, 3) := by decide +kernel
theorem d_Pt_takesAway_63 : decode b_Pt_takesAway 63 = .ok (.iload_n 2, 1) := by decide +kernel
theorem d_Pt_takesAway_64 : decode b_Pt_takesAway 64 = .ok (.invokevirtual 44, 3) := by decide +kernel
theorem d_Pt_takesAway_67 : decode b_Pt_takesAway 67 = .ok (.invokevirtual 66, 3) := by decide +kernel
theorem d_Pt_takesAway_70 : decode b_Pt_takesAway 70 = .ok (.aload_n 0, 1) := by decide +kernel
theorem d_Pt_takesAway_71 : decode b_Pt_takesAway 71 = .ok (.iload 4, 2) := by decide +kernel
theorem d_Pt_takesAway_73 : decode b_Pt_takesAway 73 = .ok (.iload_n 2, 1) := by decide +kernel
theorem d_Pt_takesAway_74 : decode b_Pt_takesAway 74 = .ok (.iload_n 3, 1) := by decide +kernel
theorem d_Pt_takesAway_75 : decode b_Pt_takesAway 75 = .ok (.invokevirtual 70, 3) := by decide +kernel
theorem d_Pt_takesAway_78 : decode b_Pt_takesAway 78 = .ok (.invokevirtual 73, 3) := by decide +kernel
theorem d_Pt_takesAway_81 : decode b_Pt_takesAway 81 = .ok (.aload_n 0, 1) := by decide +kernel
theorem d_Pt_takesAway_82 : decode b_Pt_takesAway 82 = .ok (.getfield 33, 3) := by decide +kernel
theorem d_Pt_takesAway_85 : decode b_Pt_takesAway 85 = .ok (.invokevirtual 77, 3) := by decide +kernel
theorem d_Pt_takesAway_88 : decode b_Pt_takesAway 88 = .ok (.istore 5, 2) := by decide +kernel
theorem d_Pt_takesAway_90 : decode b_Pt_takesAway 90 = .ok (.iload 5, 2) := by decide +kernel
theorem d_Pt_takesAway_92 : decode b_Pt_takesAway 92 = .ok (.ifCond .eq 14, 3) := by decide +kernel
theorem d_Pt_takesAway_95 : decode b_Pt_takesAway 95 = .ok (.iload 5, 2) := by decide +kernel
theorem d_Pt_takesAway_97 : decode b_Pt_takesAway 97 = .ok (.ifCond .ge 7, 3) := by decide +kernel
theorem d_Pt_takesAway_100 : decode b_Pt_takesAway 100 = .ok (.iconst 1, 1) := by decide +kernel
theorem d_Pt_takesAway_101 : decode b_Pt_takesAway 101 = .ok (.goto 4, 3) := by decide +kernel
theorem d_Pt_takesAway_104 : decode b_Pt_takesAway 104 = .ok (.iconst 0, 1) := by decide +kernel
theorem d_Pt_takesAway_105 : decode b_Pt_takesAway 105 = .ok (.ireturn, 1) := by decide +kernel
theorem d_Pt_takesAway_106 : decode b_Pt_takesAway 106 = .ok (.aload_n 0, 1) := by decide +kernel
theorem d_Pt_takesAway_107 : decode b_Pt_takesAway 107 = .ok (.iload_n 1, 1) := by decide +kernel
theorem d_Pt_takesAway_108 : decode b_Pt_takesAway 108 = .ok (.iload_n 2, 1) := by decide +kernel
theorem d_Pt_takesAway_109 : decode b_Pt_takesAway 109 = .ok (.invokevirtual 56, 3) := by decide +kernel
theorem d_Pt_takesAway_112 : decode b_Pt_takesAway 112 = .ok (.ifCond .eq 24, 3) := by decide +kernel
theorem d_Pt_takesAway_115 : decode b_Pt_takesAway 115 = .ok (.aload_n 0, 1) := by decide +kernel
theorem d_Pt_takesAway_116 : decode b_Pt_takesAway 116 = .ok (.iload_n 1, 1) := by decide +kernel
theorem d_Pt_takesAway_117 : decode b_Pt_takesAway 117 = .ok (.iload_n 3, 1) := by decide +kernel
theorem d_Pt_takesAway_118 : decode b_Pt_takesAway 118 = .ok (.invokevirtual 56, 3) := by decide +kernel
theorem d_Pt_takesAway_121 : decode b_Pt_takesAway 121 = .ok (.ifCond .eq 15, 3) := by decide +kernel
theorem d_Pt_takesAway_124 : decode b_Pt_takesAway 124 = .ok (.aload_n 0, 1) := by decide +kernel
theorem d_Pt_takesAway_125 : decode b_Pt_takesAway 125 = .ok (.iload_n 1, 1) := by decide +kernel
theorem d_Pt_takesAway_126 : decode b_Pt_takesAway 126 = .ok (.iload 4, 2) := by decide +kernel
theorem d_Pt_takesAway_128 : decode b_Pt_takesAway 128 = .ok (.invokevirtual 56, 3) := by decide +kernel
theorem d_Pt_takesAway_131 : decode b_Pt_takesAway 131 = .ok (.ifCond .eq 5, 3) := by decide +kernel
theorem d_Pt_takesAway_134 : decode b_Pt_takesAway 134 = .ok (.iconst 1, 1) := by decide +kernel
theorem d_Pt_takesAway_135 : decode b_Pt_takesAway 135 = .ok (.ireturn, 1) := by decide +kernel
theorem d_Pt_takesAway_136 : decode b_Pt_takesAway 136 = .ok (.aload_n 0, 1) := by decide +kernel
theorem d_Pt_takesAway_137 : decode b_Pt_takesAway 137 = .ok (.iload_n 2, 1) := by decide +kernel
theorem d_Pt_takesAway_138 : decode b_Pt_takesAway 138 = .ok (.iload_n 3, 1) := by decide +kernel
theorem d_Pt_takesAway_139 : decode b_Pt_takesAway 139 = .ok (.invokevirtual 56, 3) := by decide +kernel
theorem d_Pt_takesAway_142 : decode b_Pt_takesAway 142 = .ok (.ifCond .eq 47, 3) := by decide +kernel
theorem d_Pt_takesAway_145 : decode b_Pt_takesAway 145 = .ok (.aload_n 0, 1) := by decide +kernel
theorem d_Pt_takesAway_146 : decode b_Pt_takesAway 146 = .ok (.iload_n 2, 1) := by decide +kernel
theorem d_Pt_takesAway_147 : decode b_Pt_takesAway 147 = .ok (.iload 4, 2) := by decide +kernel
theorem d_Pt_takesAway_149 : decode b_Pt_takesAway 149 = .ok (.invokevirtual 56, 3) := by decide +kernel
theorem d_Pt_takesAway_152 : decode b_Pt_takesAway 152 = .ok (.ifCond .eq 37, 3) := by decide +kernel
theorem d_Pt_takesAway_155 : decode b_Pt_takesAway 155 = .ok (.aload_n 0, 1) := by decide +kernel
theorem d_Pt_takesAway_156 : decode b_Pt_takesAway 156 = .ok (.iload_n 3, 1) := by decide +kernel
theorem d_Pt_takesAway_157 : decode b_Pt_takesAway 157 = .ok (.iload 4, 2) := by decide +kernel
theorem d_Pt_takesAway_159 : decode b_Pt_takesAway 159 = .ok (.aload_n 0, 1) := by decide +kernel
theorem d_Pt_takesAway_160 : decode b_Pt_takesAway 160 = .ok (.getfield 23, 3) := by decide +kernel
theorem d_Pt_takesAway_163 : decode b_Pt_takesAway 163 = .ok (.iload_n 1, 1) := by decide +kernel
theorem d_Pt_takesAway_164 : decode b_Pt_takesAway 164 = .ok (.invokevirtual 44, 3) := by decide +kernel
theorem d_Pt_takesAway_167 : decode b_Pt_takesAway 167 = .ok (.aload_n 0, 1) := by decide +kernel
theorem d_Pt_takesAway_168 : decode b_Pt_takesAway 168 = .ok (.getfield 27, 3) := by decide +kernel
theorem d_Pt_takesAway_171 : decode b_Pt_takesAway 171 = .ok (.iload_n 1, 1) := by decide +kernel
theorem d_Pt_takesAway_172 : decode b_Pt_takesAway 172 = .ok (.invokevirtual 44, 3) := by decide +kernel
theorem d_Pt_takesAway_175 : decode b_Pt_takesAway 175 = .ok (.invokevirtual 66, 3) := by decide +kernel
theorem d_Pt_takesAway_178 : decode b_Pt_takesAway 178 = .ok (.lconst 0, 1) := by decide +kernel
theorem d_Pt_takesAway_179 : decode b_Pt_takesAway 179 = .ok (.lcmp, 1) := by decide +kernel
theorem d_Pt_takesAway_180 : decode b_Pt_takesAway 180 = .ok (.ifCond .ge 7, 3) := by decide +kernel
theorem d_Pt_takesAway_183 : decode b_Pt_takesAway 183 = .ok (.iconst 1, 1) := by decide +kernel
theorem d_Pt_takesAway_184 : decode b_Pt_takesAway 184 = .ok (.goto 4, 3) := by decide +kernel
theorem d_Pt_takesAway_187 : decode b_Pt_takesAway 187 = .ok (.iconst 0, 1) := by decide +kernel
theorem d_Pt_takesAway_188 : decode b_Pt_takesAway 188 = .ok (.ireturn, 1) := by decide +kernel
theorem d_Pt_takesAway_189 : decode b_Pt_takesAway 189 = .ok (.aload_n 0, 1) := by decide +kernel
theorem d_Pt_takesAway_190 : decode b_Pt_takesAway 190 = .ok (.iload_n 3, 1) := by decide +kernel
theorem d_Pt_takesAway_191 : decode b_Pt_takesAway 191 = .ok (.iload 4, 2) := by decide +kernel
theorem d_Pt_takesAway_193 : decode b_Pt_takesAway 193 = .ok (.invokevirtual 56, 3) := by decide +kernel
theorem d_Pt_takesAway_196 : decode b_Pt_takesAway 196 = .ok (.ifCond .eq 39, 3) := by decide +kernel
theorem d_Pt_takesAway_199 : decode b_Pt_takesAway 199 = .ok (.aload_n 0, 1) := by decide +kernel
theorem d_Pt_takesAway_200 : decode b_Pt_takesAway 200 = .ok (.iload 4, 2) := by decide +kernel
theorem d_Pt_takesAway_202 : decode b_Pt_takesAway 202 = .ok (.iload_n 2, 1) := by decide +kernel
theorem d_Pt_takesAway_203 : decode b_Pt_takesAway 203 = .ok (.aload_n 0, 1) := by decide +kernel
theorem d_Pt_takesAway_204 : decode b_Pt_takesAway 204 = .ok (.getfield 23, 3) := by decide +kernel
theorem d_Pt_takesAway_207 : decode b_Pt_takesAway 207 = .ok (.iload_n 1, 1) := by decide +kernel
theorem d_Pt_takesAway_208 : decode b_Pt_takesAway 208 = .ok (.invokevirtual 44, 3) := by decide +kernel
theorem d_Pt_takesAway_211 : decode b_Pt_takesAway 211 = .ok (.aload_n 0, 1) := by decide +kernel
theorem d_Pt_takesAway_212 : decode b_Pt_takesAway 212 = .ok (.getfield 27, 3) := by decide +kernel
theorem d_Pt_takesAway_215 : decode b_Pt_takesAway 215 = .ok (.iload_n 1, 1) := by decide +kernel
theorem d_Pt_takesAway_216 : decode b_Pt_takesAway 216 = .ok (.invokevirtual 44, 3) := by decide +kernel
theorem d_Pt_takesAway_219 : decode b_Pt_takesAway 219 = .ok (.invokevirtual 66, 3) := by decide +kernel
theorem d_Pt_takesAway_222 : decode b_Pt_takesAway 222 = .ok (.lconst 0, 1) := by decide +kernel
theorem d_Pt_takesAway_223 : decode b_Pt_takesAway 223 = .ok (.lcmp, 1) := by decide +kernel
theorem d_Pt_takesAway_224 : decode b_Pt_takesAway 224 = .ok (.ifCond .ge 7, 3) := by decide +kernel
theorem d_Pt_takesAway_227 : decode b_Pt_takesAway 227 = .ok (.iconst 1, 1) := by decide +kernel
theorem d_Pt_takesAway_228 : decode b_Pt_takesAway 228 = .ok (.goto 39, 3) := by decide +kernel
theorem d_Pt_takesAway_231 : decode b_Pt_takesAway 231 = .ok (.iconst 0, 1) := by decide +kernel
theorem d_Pt_takesAway_232 : decode b_Pt_takesAway 232 = .ok (.goto 35, 3) := by decide +kernel
theorem d_Pt_takesAway_235 : decode b_Pt_takesAway 235 = .ok (.aload_n 0, 1) := by decide +kernel
theorem d_Pt_takesAway_236 : decode b_Pt_takesAway 236 = .ok (.iload_n 2, 1) := by decide +kernel
theorem d_Pt_takesAway_237 : decode b_Pt_takesAway 237 = .ok (.iload_n 3, 1) := by decide +kernel
theorem d_Pt_takesAway_238 : decode b_Pt_takesAway 238 = .ok (.aload_n 0, 1) := by decide +kernel
theorem d_Pt_takesAway_239 : decode b_Pt_takesAway 239 = .ok (.getfield 23, 3) := by decide +kernel
theorem d_Pt_takesAway_242 : decode b_Pt_takesAway 242 = .ok (.iload_n 1, 1) := by decide +kernel
theorem d_Pt_takesAway_243 : decode b_Pt_takesAway 243 = .ok (.invokevirtual 44, 3) := by decide +kernel
theorem d_Pt_takesAway_246 : decode b_Pt_takesAway 246 = .ok (.aload_n 0, 1) := by decide +kernel
theorem d_Pt_takesAway_247 : decode b_Pt_takesAway 247 = .ok (.getfield 27, 3) := by decide +kernel
theorem d_Pt_takesAway_250 : decode b_Pt_takesAway 250 = .ok (.iload_n 1, 1) := by decide +kernel
theorem d_Pt_takesAway_251 : decode b_Pt_takesAway 251 = .ok (.invokevirtual 44, 3) := by decide +kernel
theorem d_Pt_takesAway_254 : decode b_Pt_takesAway 254 = .ok (.invokevirtual 66, 3) := by decide +kernel
theorem d_Pt_takesAway_257 : decode b_Pt_takesAway 257 = .ok (.lconst 0, 1) := by decide +kernel
theorem d_Pt_takesAway_258 : decode b_Pt_takesAway 258 = .ok (.lcmp, 1) := by decide +kernel
theorem d_Pt_takesAway_259 : decode b_Pt_takesAway 259 = .ok (.ifCond .ge 7, 3) := by decide +kernel
theorem d_Pt_takesAway_262 : decode b_Pt_takesAway 262 = .ok (.iconst 1, 1) := by decide +kernel
theorem d_Pt_takesAway_263 : decode b_Pt_takesAway 263 = .ok (.goto 4, 3) := by decide +kernel
theorem d_Pt_takesAway_266 : decode b_Pt_takesAway 266 = .ok (.iconst 0, 1) := by decide +kernel
theorem d_Pt_takesAway_267 : decode b_Pt_takesAway 267 = .ok (.ireturn, 1) := by decide +kernel
theorem d_Nt_dig_0 : decode b_Nt_dig 0 = .ok (.aload_n 0, 1) := by decide +kernel
theorem d_Nt_dig_1 : decode b_Nt_dig 1 = .ok (.dup, 1) := by decide +kernel
theorem d_Nt_dig_2 : decode b_Nt_dig 2 = .ok (.getfield 48, 3) := by decide +kernel
theorem d_Nt_dig_5 : decode b_Nt_dig 5 = .ok (.iconst 1, 1) := by decide +kernel
theorem d_Nt_dig_6 : decode b_Nt_dig 6 = .ok (.iadd, 1) := by decide +kernel
theorem d_Nt_dig_7 : decode b_Nt_dig 7 = .ok (.putfield 48, 3) := by decide +kernel
theorem d_Nt_dig_10 : decode b_Nt_dig 10 = .ok (.aload_n 0, 1) := by decide +kernel
theorem d_Nt_dig_11 : decode b_Nt_dig 11 = .ok (.iconst 0, 1) := by decide +kernel
theorem d_Nt_dig_12 : decode b_Nt_dig 12 = .ok (.putfield 57, 3) := by decide +kernel
theorem d_Nt_dig_15 : decode b_Nt_dig 15 = .ok (.aload_n 0, 1) := by decide +kernel
theorem d_Nt_dig_16 : decode b_Nt_dig 16 = .ok (.iconst 0, 1) := by decide +kernel
theorem d_Nt_dig_17 : decode b_Nt_dig 17 = .ok (.putfield 60, 3) := by decide +kernel
theorem d_Nt_dig_20 : decode b_Nt_dig 20 = .ok (.aload_n 0, 1) := by decide +kernel
theorem d_Nt_dig_21 : decode b_Nt_dig 21 = .ok (.iload_n 1, 1) := by decide +kernel
theorem d_Nt_dig_22 : decode b_Nt_dig 22 = .ok (.invokevirtual 104, 3) := by decide +kernel
theorem d_Nt_dig_25 : decode b_Nt_dig 25 = .ok (.iconst 0, 1) := by decide +kernel
theorem d_Nt_dig_26 : decode b_Nt_dig 26 = .ok (.istore_n 3, 1) := by decide +kernel
theorem d_Nt_dig_27 : decode b_Nt_dig 27 = .ok (.iload_n 3, 1) := by decide +kernel
theorem d_Nt_dig_28 : decode b_Nt_dig 28 = .ok (.aload_n 0, 1) := by decide +kernel
theorem d_Nt_dig_29 : decode b_Nt_dig 29 = .ok (.getfield 57, 3) := by decide +kernel
theorem d_Nt_dig_32 : decode b_Nt_dig 32 = .ok (.if_icmp .ge 161, 3) := by decide +kernel
theorem d_Nt_dig_35 : decode b_Nt_dig 35 = .ok (.iconst 0, 1) := by decide +kernel
theorem d_Nt_dig_36 : decode b_Nt_dig 36 = .ok (.istore 4, 2) := by decide +kernel
theorem d_Nt_dig_38 : decode b_Nt_dig 38 = .ok (.iload 4, 2) := by decide +kernel
theorem d_Nt_dig_40 : decode b_Nt_dig 40 = .ok (.iconst 3, 1) := by decide +kernel
theorem d_Nt_dig_41 : decode b_Nt_dig 41 = .ok (.if_icmp .ge 146, 3) := by decide +kernel
theorem d_Nt_dig_44 : decode b_Nt_dig 44 = .ok (.aload_n 0, 1) := by decide +kernel
theorem d_Nt_dig_45 : decode b_Nt_dig 45 = .ok (.getfield 33, 3) := by decide +kernel
theorem d_Nt_dig_48 : decode b_Nt_dig 48 = .ok (.iconst 3, 1) := by decide +kernel
theorem d_Nt_dig_49 : decode b_Nt_dig 49 = .ok (.aload_n 0, 1) := by decide +kernel
theorem d_Nt_dig_50 : decode b_Nt_dig 50 = .ok (.getfield 42, 3) := by decide +kernel
theorem d_Nt_dig_53 : decode b_Nt_dig 53 = .ok (.iload_n 3, 1) := by decide +kernel
theorem d_Nt_dig_54 : decode b_Nt_dig 54 = .ok (.invokevirtual 63, 3) := by decide +kernel
theorem d_Nt_dig_57 : decode b_Nt_dig 57 = .ok (.imul, 1) := by decide +kernel
theorem d_Nt_dig_58 : decode b_Nt_dig 58 = .ok (.iload 4, 2) := by decide +kernel
theorem d_Nt_dig_60 : decode b_Nt_dig 60 = .ok (.iadd, 1) := by decide +kernel
theorem d_Nt_dig_61 : decode b_Nt_dig 61 = .ok (.invokevirtual 63, 3) := by decide +kernel
theorem d_Nt_dig_64 : decode b_Nt_dig 64 = .ok (.istore 5, 2) := by decide +kernel
theorem d_Nt_dig_66 : decode b_Nt_dig 66 = .ok (.aload_n 0, 1) := by decide +kernel
theorem d_Nt_dig_67 : decode b_Nt_dig 67 = .ok (.getfield 39, 3) := by decide +kernel
theorem d_Nt_dig_70 : decode b_Nt_dig 70 = .ok (.iload 5, 2) := by decide +kernel
theorem d_Nt_dig_72 : decode b_Nt_dig 72 = .ok (.iconst 3, 1) := by decide +kernel
theorem d_Nt_dig_73 : decode b_Nt_dig 73 = .ok (.idiv, 1) := by decide +kernel
theorem d_Nt_dig_74 : decode b_Nt_dig 74 = .ok (.invokevirtual 63, 3) := by decide +kernel
theorem d_Nt_dig_77 : decode b_Nt_dig 77 = .ok (.aload_n 0, 1) := by decide +kernel
theorem d_Nt_dig_78 : decode b_Nt_dig 78 = .ok (.getfield 48, 3) := by decide +kernel
theorem d_Nt_dig_81 : decode b_Nt_dig 81 = .ok (.if_icmp .ne 6, 3) := by decide +kernel
theorem d_Nt_dig_84 : decode b_Nt_dig 84 = .ok (.goto 97, 3) := by decide +kernel
theorem d_Nt_dig_87 : decode b_Nt_dig 87 = .ok (.iload 5, 2) := by decide +kernel
theorem d_Nt_dig_89 : decode b_Nt_dig 89 = .ok (.iconst 1, 1) := by decide +kernel
theorem d_Nt_dig_90 : decode b_Nt_dig 90 = .ok (.invokestatic 67, 3) := by decide +kernel
theorem d_Nt_dig_93 : decode b_Nt_dig 93 = .ok (.istore 6, 2) := by decide +kernel
theorem d_Nt_dig_95 : decode b_Nt_dig 95 = .ok (.aload_n 0, 1) := by decide +kernel
theorem d_Nt_dig_96 : decode b_Nt_dig 96 = .ok (.iload 5, 2) := by decide +kernel
theorem d_Nt_dig_98 : decode b_Nt_dig 98 = .ok (.invokevirtual 107, 3) := by decide +kernel
theorem d_Nt_dig_101 : decode b_Nt_dig 101 = .ok (.ifCond .eq 13, 3) := by decide +kernel
theorem d_Nt_dig_104 : decode b_Nt_dig 104 = .ok (.aload_n 0, 1) := by decide +kernel
theorem d_Nt_dig_105 : decode b_Nt_dig 105 = .ok (.iload 5, 2) := by decide +kernel
theorem d_Nt_dig_107 : decode b_Nt_dig 107 = .ok (.iload_n 2, 1) := by decide +kernel
theorem d_Nt_dig_108 : decode b_Nt_dig 108 = .ok (.invokevirtual 111, 3) := by decide +kernel
theorem d_Nt_dig_111 : decode b_Nt_dig 111 = .ok (.goto 29, 3) := by decide +kernel
theorem d_Nt_dig_114 : decode b_Nt_dig 114 = .ok (.aload_n 0, 1) := by decide +kernel
theorem d_Nt_dig_115 : decode b_Nt_dig 115 = .ok (.getfield 9, 3) := by decide +kernel
theorem d_Nt_dig_118 : decode b_Nt_dig 118 = .ok (.iload_n 2, 1) := by decide +kernel
theorem d_Nt_dig_119 : decode b_Nt_dig 119 = .ok (.aload_n 0, 1) := by decide +kernel
theorem d_Nt_dig_120 : decode b_Nt_dig 120 = .ok (.iload 5, 2) := by decide +kernel
theorem d_Nt_dig_122 : decode b_Nt_dig 122 = .ok (.invokevirtual 115, 3) := by decide +kernel
theorem d_Nt_dig_125 : decode b_Nt_dig 125 = .ok (.aload_n 0, 1) := by decide +kernel
theorem d_Nt_dig_126 : decode b_Nt_dig 126 = .ok (.iload 6, 2) := by decide +kernel
theorem d_Nt_dig_128 : decode b_Nt_dig 128 = .ok (.invokevirtual 115, 3) := by decide +kernel
theorem d_Nt_dig_131 : decode b_Nt_dig 131 = .ok (.aload_n 0, 1) := by decide +kernel
theorem d_Nt_dig_132 : decode b_Nt_dig 132 = .ok (.iload 6, 2) := by decide +kernel
theorem d_Nt_dig_134 : decode b_Nt_dig 134 = .ok (.invokevirtual 118, 3) := by decide +kernel
theorem d_Nt_dig_137 : decode b_Nt_dig 137 = .ok (.invokevirtual 121, 3) := by decide +kernel
theorem d_Nt_dig_140 : decode b_Nt_dig 140 = .ok (.istore 7, 2) := by decide +kernel
theorem d_Nt_dig_142 : decode b_Nt_dig 142 = .ok (.iload 7, 2) := by decide +kernel
theorem d_Nt_dig_144 : decode b_Nt_dig 144 = .ok (.ifCond .eq 14, 3) := by decide +kernel
theorem d_Nt_dig_147 : decode b_Nt_dig 147 = .ok (.aload_n 0, 1) := by decide +kernel
theorem d_Nt_dig_148 : decode b_Nt_dig 148 = .ok (.iload 5, 2) := by decide +kernel
theorem d_Nt_dig_150 : decode b_Nt_dig 150 = .ok (.iconst 3, 1) := by decide +kernel
theorem d_Nt_dig_151 : decode b_Nt_dig 151 = .ok (.idiv, 1) := by decide +kernel
theorem d_Nt_dig_152 : decode b_Nt_dig 152 = .ok (.invokevirtual 104, 3) := by decide +kernel
theorem d_Nt_dig_155 : decode b_Nt_dig 155 = .ok (.goto 26, 3) := by decide +kernel
theorem d_Nt_dig_158 : decode b_Nt_dig 158 = .ok (.aload_n 0, 1) := by decide +kernel
theorem d_Nt_dig_159 : decode b_Nt_dig 159 = .ok (.getfield 45, 3) := by decide +kernel
theorem d_Nt_dig_162 : decode b_Nt_dig 162 = .ok (.aload_n 0, 1) := by decide +kernel
theorem d_Nt_dig_163 : decode b_Nt_dig 163 = .ok (.getfield 60, 3) := by decide +kernel
theorem d_Nt_dig_166 : decode b_Nt_dig 166 = .ok (.iload 5, 2) := by decide +kernel
theorem d_Nt_dig_168 : decode b_Nt_dig 168 = .ok (.invokevirtual 82, 3) := by decide +kernel
theorem d_Nt_dig_171 : decode b_Nt_dig 171 = .ok (.aload_n 0, 1) := by decide +kernel
theorem d_Nt_dig_172 : decode b_Nt_dig 172 = .ok (.dup, 1) := by decide +kernel
theorem d_Nt_dig_173 : decode b_Nt_dig 173 = .ok (.getfield 60, 3) := by decide +kernel
theorem d_Nt_dig_176 : decode b_Nt_dig 176 = .ok (.iconst 1, 1) := by decide +kernel
theorem d_Nt_dig_177 : decode b_Nt_dig 177 = .ok (.iadd, 1) := by decide +kernel
theorem d_Nt_dig_178 : decode b_Nt_dig 178 = .ok (.putfield 60, 3) := by decide +kernel
theorem d_Nt_dig_181 : decode b_Nt_dig 181 = .ok (.iinc 4 1, 3) := by decide +kernel
theorem d_Nt_dig_184 : decode b_Nt_dig 184 = .ok (.goto (-146), 3) := by decide +kernel
theorem d_Nt_dig_187 : decode b_Nt_dig 187 = .ok (.iinc 3 1, 3) := by decide +kernel
theorem d_Nt_dig_190 : decode b_Nt_dig 190 = .ok (.goto (-163), 3) := by decide +kernel
theorem d_Nt_dig_193 : decode b_Nt_dig 193 = .ok (.return_, 1) := by decide +kernel
theorem d_Nt_fill_0 : decode b_Nt_fill 0 = .ok (.iconst 0, 1) := by decide +kernel
theorem d_Nt_fill_1 : decode b_Nt_fill 1 = .ok (.istore_n 2, 1) := by decide +kernel
theorem d_Nt_fill_2 : decode b_Nt_fill 2 = .ok (.iload_n 2, 1) := by decide +kernel
theorem d_Nt_fill_3 : decode b_Nt_fill 3 = .ok (.aload_n 0, 1) := by decide +kernel
theorem d_Nt_fill_4 : decode b_Nt_fill 4 = .ok (.getfield 60, 3) := by decide +kernel
theorem d_Nt_fill_7 : decode b_Nt_fill 7 = .ok (.if_icmp .ge 107, 3) := by decide +kernel
theorem d_Nt_fill_10 : decode b_Nt_fill 10 = .ok (.aload_n 0, 1) := by decide +kernel
theorem d_Nt_fill_11 : decode b_Nt_fill 11 = .ok (.getfield 45, 3) := by decide +kernel
theorem d_Nt_fill_14 : decode b_Nt_fill 14 = .ok (.iload_n 2, 1) := by decide +kernel
theorem d_Nt_fill_15 : decode b_Nt_fill 15 = .ok (.invokevirtual 63, 3) := by decide +kernel
theorem d_Nt_fill_18 : decode b_Nt_fill 18 = .ok (.istore_n 3, 1) := by decide +kernel
theorem d_Nt_fill_19 : decode b_Nt_fill 19 = .ok (.iload_n 2, 1) := by decide +kernel
theorem d_Nt_fill_20 : decode b_Nt_fill 20 = .ok (.aload_n 0, 1) := by decide +kernel
theorem d_Nt_fill_21 : decode b_Nt_fill 21 = .ok (.getfield 57, 3) := by decide +kernel
theorem d_Nt_fill_24 : decode b_Nt_fill 24 = .ok (.if_icmp .ge 14, 3) := by decide +kernel
theorem d_Nt_fill_27 : decode b_Nt_fill 27 = .ok (.aload_n 0, 1) := by decide +kernel
theorem d_Nt_fill_28 : decode b_Nt_fill 28 = .ok (.getfield 42, 3) := by decide +kernel
theorem d_Nt_fill_31 : decode b_Nt_fill 31 = .ok (.iload_n 2, 1) := by decide +kernel
theorem d_Nt_fill_32 : decode b_Nt_fill 32 = .ok (.invokevirtual 63, 3) := by decide +kernel
theorem d_Nt_fill_35 : decode b_Nt_fill 35 = .ok (.goto 14, 3) := by decide +kernel
theorem d_Nt_fill_38 : decode b_Nt_fill 38 = .ok (.aload_n 0, 1) := by decide +kernel
theorem d_Nt_fill_39 : decode b_Nt_fill 39 = .ok (.dup, 1) := by decide +kernel
theorem d_Nt_fill_40 : decode b_Nt_fill 40 = .ok (.getfield 51, 3) := by decide +kernel
theorem d_Nt_fill_43 : decode b_Nt_fill 43 = .ok (.dup_x1, 1) := by decide +kernel
theorem d_Nt_fill_44 : decode b_Nt_fill 44 = .ok (.iconst 1, 1) := by decide +kernel
theorem d_Nt_fill_45 : decode b_Nt_fill 45 = .ok (.iadd, 1) := by decide +kernel
theorem d_Nt_fill_46 : decode b_Nt_fill 46 = .ok (.putfield 51, 3) := by decide +kernel
theorem d_Nt_fill_49 : decode b_Nt_fill 49 = .ok (.istore 4, 2) := by decide +kernel
theorem d_Nt_fill_51 : decode b_Nt_fill 51 = .ok (.aload_n 0, 1) := by decide +kernel
theorem d_Nt_fill_52 : decode b_Nt_fill 52 = .ok (.iload 4, 2) := by decide +kernel
theorem d_Nt_fill_54 : decode b_Nt_fill 54 = .ok (.aload_n 0, 1) := by decide +kernel
theorem d_Nt_fill_55 : decode b_Nt_fill 55 = .ok (.iload_n 3, 1) := by decide +kernel
theorem d_Nt_fill_56 : decode b_Nt_fill 56 = .ok (.invokevirtual 118, 3) := by decide +kernel
theorem d_Nt_fill_59 : decode b_Nt_fill 59 = .ok (.aload_n 0, 1) := by decide +kernel
theorem d_Nt_fill_60 : decode b_Nt_fill 60 = .ok (.iload_n 3, 1) := by decide +kernel
theorem d_Nt_fill_61 : decode b_Nt_fill 61 = .ok (.invokevirtual 115, 3) := by decide +kernel
theorem d_Nt_fill_64 : decode b_Nt_fill 64 = .ok (.iload_n 1, 1) := by decide +kernel
theorem d_Nt_fill_65 : decode b_Nt_fill 65 = .ok (.invokevirtual 74, 3) := by decide +kernel
theorem d_Nt_fill_68 : decode b_Nt_fill 68 = .ok (.aload_n 0, 1) := by decide +kernel
theorem d_Nt_fill_69 : decode b_Nt_fill 69 = .ok (.iconst 3, 1) := by decide +kernel
theorem d_Nt_fill_70 : decode b_Nt_fill 70 = .ok (.iload 4, 2) := by decide +kernel
theorem d_Nt_fill_72 : decode b_Nt_fill 72 = .ok (.imul, 1) := by decide +kernel
theorem d_Nt_fill_73 : decode b_Nt_fill 73 = .ok (.iload_n 3, 1) := by decide +kernel
theorem d_Nt_fill_74 : decode b_Nt_fill 74 = .ok (.invokevirtual 78, 3) := by decide +kernel
theorem d_Nt_fill_77 : decode b_Nt_fill 77 = .ok (.aload_n 0, 1) := by decide +kernel
theorem d_Nt_fill_78 : decode b_Nt_fill 78 = .ok (.getfield 42, 3) := by decide +kernel
theorem d_Nt_fill_81 : decode b_Nt_fill 81 = .ok (.iload_n 2, 1) := by decide +kernel
theorem d_Nt_fill_82 : decode b_Nt_fill 82 = .ok (.iload 4, 2) := by decide +kernel
theorem d_Nt_fill_84 : decode b_Nt_fill 84 = .ok (.invokevirtual 82, 3) := by decide +kernel
theorem d_Nt_fill_87 : decode b_Nt_fill 87 = .ok (.aload_n 0, 1) := by decide +kernel
theorem d_Nt_fill_88 : decode b_Nt_fill 88 = .ok (.iconst 3, 1) := by decide +kernel
theorem d_Nt_fill_89 : decode b_Nt_fill 89 = .ok (.iload 4, 2) := by decide +kernel
theorem d_Nt_fill_91 : decode b_Nt_fill 91 = .ok (.imul, 1) := by decide +kernel
theorem d_Nt_fill_92 : decode b_Nt_fill 92 = .ok (.invokevirtual 107, 3) := by decide +kernel
theorem d_Nt_fill_95 : decode b_Nt_fill 95 = .ok (.ifCond .eq 13, 3) := by decide +kernel
theorem d_Nt_fill_98 : decode b_Nt_fill 98 = .ok (.aload_n 0, 1) := by decide +kernel
theorem d_Nt_fill_99 : decode b_Nt_fill 99 = .ok (.dup, 1) := by decide +kernel
theorem d_Nt_fill_100 : decode b_Nt_fill 100 = .ok (.getfield 54, 3) := by decide +kernel
theorem d_Nt_fill_103 : decode b_Nt_fill 103 = .ok (.iconst 1, 1) := by decide +kernel
theorem d_Nt_fill_104 : decode b_Nt_fill 104 = .ok (.iadd, 1) := by decide +kernel
theorem d_Nt_fill_105 : decode b_Nt_fill 105 = .ok (.putfield 54, 3) := by decide +kernel
theorem d_Nt_fill_108 : decode b_Nt_fill 108 = .ok (.iinc 2 1, 3) := by decide +kernel
theorem d_Nt_fill_111 : decode b_Nt_fill 111 = .ok (.goto (-109), 3) := by decide +kernel
theorem d_Nt_fill_114 : decode b_Nt_fill 114 = .ok (.iconst 0, 1) := by decide +kernel
theorem d_Nt_fill_115 : decode b_Nt_fill 115 = .ok (.istore_n 2, 1) := by decide +kernel
theorem d_Nt_fill_116 : decode b_Nt_fill 116 = .ok (.iload_n 2, 1) := by decide +kernel
theorem d_Nt_fill_117 : decode b_Nt_fill 117 = .ok (.aload_n 0, 1) := by decide +kernel
theorem d_Nt_fill_118 : decode b_Nt_fill 118 = .ok (.getfield 60, 3) := by decide +kernel
theorem d_Nt_fill_121 : decode b_Nt_fill 121 = .ok (.if_icmp .ge 45, 3) := by decide +kernel
theorem d_Nt_fill_124 : decode b_Nt_fill 124 = .ok (.iconst 3, 1) := by decide +kernel
theorem d_Nt_fill_125 : decode b_Nt_fill 125 = .ok (.aload_n 0, 1) := by decide +kernel
theorem d_Nt_fill_126 : decode b_Nt_fill 126 = .ok (.getfield 42, 3) := by decide +kernel
theorem d_Nt_fill_129 : decode b_Nt_fill 129 = .ok (.iload_n 2, 1) := by decide +kernel
theorem d_Nt_fill_130 : decode b_Nt_fill 130 = .ok (.invokevirtual 63, 3) := by decide +kernel
theorem d_Nt_fill_133 : decode b_Nt_fill 133 = .ok (.imul, 1) := by decide +kernel
theorem d_Nt_fill_134 : decode b_Nt_fill 134 = .ok (.iconst 1, 1) := by decide +kernel
theorem d_Nt_fill_135 : decode b_Nt_fill 135 = .ok (.iadd, 1) := by decide +kernel
theorem d_Nt_fill_136 : decode b_Nt_fill 136 = .ok (.istore_n 3, 1) := by decide +kernel
theorem d_Nt_fill_137 : decode b_Nt_fill 137 = .ok (.aload_n 0, 1) := by decide +kernel
theorem d_Nt_fill_138 : decode b_Nt_fill 138 = .ok (.iload_n 3, 1) := by decide +kernel
theorem d_Nt_fill_139 : decode b_Nt_fill 139 = .ok (.aload_n 0, 1) := by decide +kernel
theorem d_Nt_fill_140 : decode b_Nt_fill 140 = .ok (.getfield 36, 3) := by decide +kernel
theorem d_Nt_fill_143 : decode b_Nt_fill 143 = .ok (.aload_n 0, 1) := by decide +kernel
theorem d_Nt_fill_144 : decode b_Nt_fill 144 = .ok (.aload_n 0, 1) := by decide +kernel
theorem d_Nt_fill_145 : decode b_Nt_fill 145 = .ok (.iload_n 3, 1) := by decide +kernel
theorem d_Nt_fill_146 : decode b_Nt_fill 146 = .ok (.invokevirtual 115, 3) := by decide +kernel
theorem d_Nt_fill_149 : decode b_Nt_fill 149 = .ok (.invokevirtual 85, 3) := by decide +kernel
theorem d_Nt_fill_152 : decode b_Nt_fill 152 = .ok (.invokevirtual 63, 3) := by decide +kernel
theorem d_Nt_fill_155 : decode b_Nt_fill 155 = .ok (.iconst 2, 1) := by decide +kernel
theorem d_Nt_fill_156 : decode b_Nt_fill 156 = .ok (.iadd, 1) := by decide +kernel
theorem d_Nt_fill_157 : decode b_Nt_fill 157 = .ok (.invokevirtual 78, 3) := by decide +kernel
theorem d_Nt_fill_160 : decode b_Nt_fill 160 = .ok (.iinc 2 1, 3) := by decide +kernel
theorem d_Nt_fill_163 : decode b_Nt_fill 163 = .ok (.goto (-47), 3) := by decide +kernel
theorem d_Nt_fill_166 : decode b_Nt_fill 166 = .ok (.return_, 1) := by decide +kernel
theorem d_Nt_insert_0 : decode b_Nt_insert 0 = .ok (.aload_n 0, 1) := by decide +kernel
theorem d_Nt_insert_1 : decode b_Nt_insert 1 = .ok (.aload_n 0, 1) := by decide +kernel
theorem d_Nt_insert_2 : decode b_Nt_insert 2 = .ok (.iload_n 2, 1) := by decide +kernel
theorem d_Nt_insert_3 : decode b_Nt_insert 3 = .ok (.aload_n 0, 1) := by decide +kernel
theorem d_Nt_insert_4 : decode b_Nt_insert 4 = .ok (.getfield 9, 3) := by decide +kernel
theorem d_Nt_insert_7 : decode b_Nt_insert 7 = .ok (.iload_n 1, 1) := by decide +kernel
theorem d_Nt_insert_8 : decode b_Nt_insert 8 = .ok (.invokevirtual 88, 3) := by decide +kernel
theorem d_Nt_insert_11 : decode b_Nt_insert 11 = .ok (.aload_n 0, 1) := by decide +kernel
theorem d_Nt_insert_12 : decode b_Nt_insert 12 = .ok (.getfield 9, 3) := by decide +kernel
theorem d_Nt_insert_15 : decode b_Nt_insert 15 = .ok (.iload_n 1, 1) := by decide +kernel
theorem d_Nt_insert_16 : decode b_Nt_insert 16 = .ok (.invokevirtual 91, 3) := by decide +kernel
theorem d_Nt_insert_19 : decode b_Nt_insert 19 = .ok (.invokevirtual 94, 3) := by decide +kernel
theorem d_Nt_insert_22 : decode b_Nt_insert 22 = .ok (.iconst 3, 1) := by decide +kernel
theorem d_Nt_insert_23 : decode b_Nt_insert 23 = .ok (.idiv, 1) := by decide +kernel
theorem d_Nt_insert_24 : decode b_Nt_insert 24 = .ok (.iload_n 1, 1) := by decide +kernel
theorem d_Nt_insert_25 : decode b_Nt_insert 25 = .ok (.invokevirtual 98, 3) := by decide +kernel
theorem d_Nt_insert_28 : decode b_Nt_insert 28 = .ok (.aload_n 0, 1) := by decide +kernel
theorem d_Nt_insert_29 : decode b_Nt_insert 29 = .ok (.iload_n 1, 1) := by decide +kernel
theorem d_Nt_insert_30 : decode b_Nt_insert 30 = .ok (.invokevirtual 101, 3) := by decide +kernel
theorem d_Nt_insert_33 : decode b_Nt_insert 33 = .ok (.return_, 1) := by decide +kernel
theorem d_Pn_tryToBeginNet_0 : decode b_Pn_tryToBeginNet 0 = .ok (.iload_n 1, 1) := by decide +kernel
theorem d_Pn_tryToBeginNet_1 : decode b_Pn_tryToBeginNet 1 = .ok (.iconst 2, 1) := by decide +kernel
theorem d_Pn_tryToBeginNet_2 : decode b_Pn_tryToBeginNet 2 = .ok (.if_icmp .ge 7, 3) := by decide +kernel
theorem d_Pn_tryToBeginNet_5 : decode b_Pn_tryToBeginNet 5 = .ok (.lconst 0, 1) := by decide +kernel
theorem d_Pn_tryToBeginNet_6 : decode b_Pn_tryToBeginNet 6 = .ok (.goto 28, 3) := by decide +kernel
theorem d_Pn_tryToBeginNet_9 : decode b_Pn_tryToBeginNet 9 = .ok (.aload_n 0, 1) := by decide +kernel
theorem d_Pn_tryToBeginNet_10 : decode b_Pn_tryToBeginNet 10 = .ok (.getfield 23, 3) := by decide +kernel
theorem d_Pn_tryToBeginNet_13 : decode b_Pn_tryToBeginNet 13 = .ok (.iconst 0, 1) := by decide +kernel
theorem d_Pn_tryToBeginNet_14 : decode b_Pn_tryToBeginNet 14 = .ok (.iconst 1, 1) := by decide +kernel
theorem d_Pn_tryToBeginNet_15 : decode b_Pn_tryToBeginNet 15 = .ok (.aload_n 0, 1) := by decide +kernel
theorem d_Pn_tryToBeginNet_16 : decode b_Pn_tryToBeginNet 16 = .ok (.getfield 23, 3) := by decide +kernel
theorem d_Pn_tryToBeginNet_19 : decode b_Pn_tryToBeginNet 19 = .ok (.iload_n 1, 1) := by decide +kernel
theorem d_Pn_tryToBeginNet_20 : decode b_Pn_tryToBeginNet 20 = .ok (.invokevirtual 175, 3) := by decide +kernel
theorem d_Pn_tryToBeginNet_23 : decode b_Pn_tryToBeginNet 23 = .ok (.aload_n 0, 1) := by decide +kernel
theorem d_Pn_tryToBeginNet_24 : decode b_Pn_tryToBeginNet 24 = .ok (.getfield 23, 3) := by decide +kernel
theorem d_Pn_tryToBeginNet_27 : decode b_Pn_tryToBeginNet 27 = .ok (.iload_n 1, 1) := by decide +kernel
theorem d_Pn_tryToBeginNet_28 : decode b_Pn_tryToBeginNet 28 = .ok (.invokevirtual 178, 3) := by decide +kernel
theorem d_Pn_tryToBeginNet_31 : decode b_Pn_tryToBeginNet 31 = .ok (.invokevirtual 198, 3) := by decide +kernel
theorem d_Pn_tryToBeginNet_34 : decode b_Pn_tryToBeginNet 34 = .ok (.lstore_n 2, 1) := by decide +kernel
theorem d_Pn_tryToBeginNet_35 : decode b_Pn_tryToBeginNet 35 = .ok (.lload_n 2, 1) := by decide +kernel
theorem d_Pn_tryToBeginNet_36 : decode b_Pn_tryToBeginNet 36 = .ok (.lconst 0, 1) := by decide +kernel
theorem d_Pn_tryToBeginNet_37 : decode b_Pn_tryToBeginNet 37 = .ok (.lcmp, 1) := by decide +kernel
theorem d_Pn_tryToBeginNet_38 : decode b_Pn_tryToBeginNet 38 = .ok (.ifCond .ne 4, 3) := by decide +kernel
theorem d_Pn_tryToBeginNet_41 : decode b_Pn_tryToBeginNet 41 = .ok (.return_, 1) := by decide +kernel
theorem d_Pn_tryToBeginNet_42 : decode b_Pn_tryToBeginNet 42 = .ok (.lload_n 2, 1) := by decide +kernel
theorem d_Pn_tryToBeginNet_43 : decode b_Pn_tryToBeginNet 43 = .ok (.lconst 0, 1) := by decide +kernel
theorem d_Pn_tryToBeginNet_44 : decode b_Pn_tryToBeginNet 44 = .ok (.lcmp, 1) := by decide +kernel
theorem d_Pn_tryToBeginNet_45 : decode b_Pn_tryToBeginNet 45 = .ok (.ifCond .le 16, 3) := by decide +kernel
theorem d_Pn_tryToBeginNet_48 : decode b_Pn_tryToBeginNet 48 = .ok (.aload_n 0, 1) := by decide +kernel
theorem d_Pn_tryToBeginNet_49 : decode b_Pn_tryToBeginNet 49 = .ok (.getfield 32, 3) := by decide +kernel
theorem d_Pn_tryToBeginNet_52 : decode b_Pn_tryToBeginNet 52 = .ok (.iconst 0, 1) := by decide +kernel
theorem d_Pn_tryToBeginNet_53 : decode b_Pn_tryToBeginNet 53 = .ok (.iconst 1, 1) := by decide +kernel
theorem d_Pn_tryToBeginNet_54 : decode b_Pn_tryToBeginNet 54 = .ok (.iload_n 1, 1) := by decide +kernel
theorem d_Pn_tryToBeginNet_55 : decode b_Pn_tryToBeginNet 55 = .ok (.invokevirtual 202, 3) := by decide +kernel
theorem d_Pn_tryToBeginNet_58 : decode b_Pn_tryToBeginNet 58 = .ok (.goto 13, 3) := by decide +kernel
theorem d_Pn_tryToBeginNet_61 : decode b_Pn_tryToBeginNet 61 = .ok (.aload_n 0, 1) := by decide +kernel
theorem d_Pn_tryToBeginNet_62 : decode b_Pn_tryToBeginNet 62 = .ok (.getfield 32, 3) := by decide +kernel
theorem d_Pn_tryToBeginNet_65 : decode b_Pn_tryToBeginNet 65 = .ok (.iconst 1, 1) := by decide +kernel
theorem d_Pn_tryToBeginNet_66 : decode b_Pn_tryToBeginNet 66 = .ok (.iconst 0, 1) := by decide +kernel
theorem d_Pn_tryToBeginNet_67 : decode b_Pn_tryToBeginNet 67 = .ok (.iload_n 1, 1) := by decide +kernel
theorem d_Pn_tryToBeginNet_68 : decode b_Pn_tryToBeginNet 68 = .ok (.invokevirtual 202, 3) := by decide +kernel
theorem d_Pn_tryToBeginNet_71 : decode b_Pn_tryToBeginNet 71 = .ok (.iconst 2, 1) := by decide +kernel
theorem d_Pn_tryToBeginNet_72 : decode b_Pn_tryToBeginNet 72 = .ok (.istore 4, 2) := by decide +kernel
theorem d_Pn_tryToBeginNet_74 : decode b_Pn_tryToBeginNet 74 = .ok (.iload 4, 2) := by decide +kernel
theorem d_Pn_tryToBeginNet_76 : decode b_Pn_tryToBeginNet 76 = .ok (.iload_n 1, 1) := by decide +kernel
theorem d_Pn_tryToBeginNet_77 : decode b_Pn_tryToBeginNet 77 = .ok (.if_icmp .ge 45, 3) := by decide +kernel
theorem d_Pn_tryToBeginNet_80 : decode b_Pn_tryToBeginNet 80 = .ok (.aload_n 0, 1) := by decide +kernel
theorem d_Pn_tryToBeginNet_81 : decode b_Pn_tryToBeginNet 81 = .ok (.getfield 32, 3) := by decide +kernel
theorem d_Pn_tryToBeginNet_84 : decode b_Pn_tryToBeginNet 84 = .ok (.iload 4, 2) := by decide +kernel
theorem d_Pn_tryToBeginNet_86 : decode b_Pn_tryToBeginNet 86 = .ok (.aload_n 0, 1) := by decide +kernel
theorem d_Pn_tryToBeginNet_87 : decode b_Pn_tryToBeginNet 87 = .ok (.getfield 23, 3) := by decide +kernel
theorem d_Pn_tryToBeginNet_90 : decode b_Pn_tryToBeginNet 90 = .ok (.iload 4, 2) := by decide +kernel
theorem d_Pn_tryToBeginNet_92 : decode b_Pn_tryToBeginNet 92 = .ok (.aload_n 0, 1) := by decide +kernel
theorem d_Pn_tryToBeginNet_93 : decode b_Pn_tryToBeginNet 93 = .ok (.getfield 23, 3) := by decide +kernel
theorem d_Pn_tryToBeginNet_96 : decode b_Pn_tryToBeginNet 96 = .ok (.iload 4, 2) := by decide +kernel
theorem d_Pn_tryToBeginNet_98 : decode b_Pn_tryToBeginNet 98 = .ok (.invokevirtual 175, 3) := by decide +kernel
theorem d_Pn_tryToBeginNet_101 : decode b_Pn_tryToBeginNet 101 = .ok (.aload_n 0, 1) := by decide +kernel
theorem d_Pn_tryToBeginNet_102 : decode b_Pn_tryToBeginNet 102 = .ok (.getfield 23, 3) := by decide +kernel
theorem d_Pn_tryToBeginNet_105 : decode b_Pn_tryToBeginNet 105 = .ok (.iload 4, 2) := by decide +kernel
theorem d_Pn_tryToBeginNet_107 : decode b_Pn_tryToBeginNet 107 = .ok (.invokevirtual 178, 3) := by decide +kernel
theorem d_Pn_tryToBeginNet_110 : decode b_Pn_tryToBeginNet 110 = .ok (.invokevirtual 74, 3) := by decide +kernel
theorem d_Pn_tryToBeginNet_113 : decode b_Pn_tryToBeginNet 113 = .ok (.invokevirtual 108, 3) := by decide +kernel
theorem d_Pn_tryToBeginNet_116 : decode b_Pn_tryToBeginNet 116 = .ok (.iinc 4 1, 3) := by decide +kernel
theorem d_Pn_tryToBeginNet_119 : decode b_Pn_tryToBeginNet 119 = .ok (.goto (-45), 3) := by decide +kernel
theorem d_Pn_tryToBeginNet_122 : decode b_Pn_tryToBeginNet 122 = .ok (.return_, 1) := by decide +kernel
theorem d_Ar_fill_0 : decode b_Ar_fill 0 = .ok (.iconst 0, 1) := by decide +kernel
theorem d_Ar_fill_1 : decode b_Ar_fill 1 = .ok (.istore_n 2, 1) := by decide +kernel
theorem d_Ar_fill_2 : decode b_Ar_fill 2 = .ok (.aload_n 0, 1) := by decide +kernel
theorem d_Ar_fill_3 : decode b_Ar_fill 3 = .ok (.arraylength, 1) := by decide +kernel
theorem d_Ar_fill_4 : decode b_Ar_fill 4 = .ok (.istore_n 3, 1) := by decide +kernel
theorem d_Ar_fill_5 : decode b_Ar_fill 5 = .ok (.iload_n 2, 1) := by decide +kernel
theorem d_Ar_fill_6 : decode b_Ar_fill 6 = .ok (.iload_n 3, 1) := by decide +kernel
theorem d_Ar_fill_7 : decode b_Ar_fill 7 = .ok (.if_icmp .ge 13, 3) := by decide +kernel
theorem d_Ar_fill_10 : decode b_Ar_fill 10 = .ok (.aload_n 0, 1) := by decide +kernel
theorem d_Ar_fill_11 : decode b_Ar_fill 11 = .ok (.iload_n 2, 1) := by decide +kernel
theorem d_Ar_fill_12 : decode b_Ar_fill 12 = .ok (.iload_n 1, 1) := by decide +kernel
theorem d_Ar_fill_13 : decode b_Ar_fill 13 = .ok (.iastore, 1) := by decide +kernel
theorem d_Ar_fill_14 : decode b_Ar_fill 14 = .ok (.iinc 2 1, 3) := by decide +kernel
theorem d_Ar_fill_17 : decode b_Ar_fill 17 = .ok (.goto (-12), 3) := by decide +kernel
theorem d_Ar_fill_20 : decode b_Ar_fill 20 = .ok (.return_, 1) := by decide +kernel
theorem d_Pn_forgetFound_0 : decode b_Pn_forgetFound 0 = .ok (.aload_n 0, 1) := by decide +kernel
theorem d_Pn_forgetFound_1 : decode b_Pn_forgetFound 1 = .ok (.getfield 52, 3) := by decide +kernel
theorem d_Pn_forgetFound_4 : decode b_Pn_forgetFound 4 = .ok (.iconst (-1), 1) := by decide +kernel
theorem d_Pn_forgetFound_5 : decode b_Pn_forgetFound 5 = .ok (.invokestatic 210, 3) := by decide +kernel
theorem d_Pn_forgetFound_8 : decode b_Pn_forgetFound 8 = .ok (.return_, 1) := by decide +kernel
theorem d_Rl_forget_0 : decode b_Rl_forget 0 = .ok (.aload_n 0, 1) := by decide +kernel
theorem d_Rl_forget_1 : decode b_Rl_forget 1 = .ok (.iconst 0, 1) := by decide +kernel
theorem d_Rl_forget_2 : decode b_Rl_forget 2 = .ok (.putfield 38, 3) := by decide +kernel
theorem d_Rl_forget_5 : decode b_Rl_forget 5 = .ok (.return_, 1) := by decide +kernel
theorem d_Ol_forget_0 : decode b_Ol_forget 0 = .ok (.aload_n 0, 1) := by decide +kernel
theorem d_Ol_forget_1 : decode b_Ol_forget 1 = .ok (.iconst 0, 1) := by decide +kernel
theorem d_Ol_forget_2 : decode b_Ol_forget 2 = .ok (.putfield 37, 3) := by decide +kernel
theorem d_Ol_forget_5 : decode b_Ol_forget 5 = .ok (.return_, 1) := by decide +kernel
theorem d_Pn_forgetAnswers_0 : decode b_Pn_forgetAnswers 0 = .ok (.aload_n 0, 1) := by decide +kernel
theorem d_Pn_forgetAnswers_1 : decode b_Pn_forgetAnswers 1 = .ok (.invokevirtual 158, 3) := by decide +kernel
theorem d_Pn_forgetAnswers_4 : decode b_Pn_forgetAnswers 4 = .ok (.aload_n 0, 1) := by decide +kernel
theorem d_Pn_forgetAnswers_5 : decode b_Pn_forgetAnswers 5 = .ok (.getfield 41, 3) := by decide +kernel
theorem d_Pn_forgetAnswers_8 : decode b_Pn_forgetAnswers 8 = .ok (.invokevirtual 206, 3) := by decide +kernel
theorem d_Pn_forgetAnswers_11 : decode b_Pn_forgetAnswers 11 = .ok (.aload_n 0, 1) := by decide +kernel
theorem d_Pn_forgetAnswers_12 : decode b_Pn_forgetAnswers 12 = .ok (.getfield 48, 3) := by decide +kernel
theorem d_Pn_forgetAnswers_15 : decode b_Pn_forgetAnswers 15 = .ok (.invokevirtual 209, 3) := by decide +kernel
theorem d_Pn_forgetAnswers_18 : decode b_Pn_forgetAnswers 18 = .ok (.return_, 1) := by decide +kernel
theorem d_Pn_add_0 : decode b_Pn_add 0 = .ok (.iload_n 1, 1) := by decide +kernel
theorem d_Pn_add_1 : decode b_Pn_add 1 = .ok (.iload_n 2, 1) := by decide +kernel
theorem d_Pn_add_2 : decode b_Pn_add 2 = .ok (.invokestatic 67, 3) := by decide +kernel
theorem d_Pn_add_5 : decode b_Pn_add 5 = .ok (.aload_n 0, 1) := by decide +kernel
theorem d_Pn_add_6 : decode b_Pn_add 6 = .ok (.getfield 23, 3) := by decide +kernel
theorem d_Pn_add_9 : decode b_Pn_add 9 = .ok (.aload_n 0, 1) := by decide +kernel
theorem d_Pn_add_10 : decode b_Pn_add 10 = .ok (.getfield 23, 3) := by decide +kernel
theorem d_Pn_add_13 : decode b_Pn_add 13 = .ok (.getfield 71, 3) := by decide +kernel
theorem d_Pn_add_16 : decode b_Pn_add 16 = .ok (.iload_n 1, 1) := by decide +kernel
theorem d_Pn_add_17 : decode b_Pn_add 17 = .ok (.iload_n 2, 1) := by decide +kernel
theorem d_Pn_add_18 : decode b_Pn_add 18 = .ok (.invokevirtual 74, 3) := by decide +kernel
theorem d_Pn_add_21 : decode b_Pn_add 21 = .ok (.istore_n 3, 1) := by decide +kernel
theorem d_Pn_add_22 : decode b_Pn_add 22 = .ok (.aload_n 0, 1) := by decide +kernel
theorem d_Pn_add_23 : decode b_Pn_add 23 = .ok (.getfield 23, 3) := by decide +kernel
theorem d_Pn_add_26 : decode b_Pn_add 26 = .ok (.iload_n 3, 1) := by decide +kernel
theorem d_Pn_add_27 : decode b_Pn_add 27 = .ok (.iload_n 1, 1) := by decide +kernel
theorem d_Pn_add_28 : decode b_Pn_add 28 = .ok (.iload_n 2, 1) := by decide +kernel
theorem d_Pn_add_29 : decode b_Pn_add 29 = .ok (.invokevirtual 78, 3) := by decide +kernel
theorem d_Pn_add_32 : decode b_Pn_add 32 = .ok (.ifCond .eq 5, 3) := by decide +kernel
theorem d_Pn_add_35 : decode b_Pn_add 35 = .ok (.iconst (-1), 1) := by decide +kernel
theorem d_Pn_add_36 : decode b_Pn_add 36 = .ok (.ireturn, 1) := by decide +kernel
theorem d_Pn_add_37 : decode b_Pn_add 37 = .ok (.aload_n 0, 1) := by decide +kernel
theorem d_Pn_add_38 : decode b_Pn_add 38 = .ok (.getfield 23, 3) := by decide +kernel
theorem d_Pn_add_41 : decode b_Pn_add 41 = .ok (.invokevirtual 82, 3) := by decide +kernel
theorem d_Pn_add_44 : decode b_Pn_add 44 = .ok (.ifCond .eq 13, 3) := by decide +kernel
theorem d_Pn_add_47 : decode b_Pn_add 47 = .ok (.new 86, 3) := by decide +kernel
theorem d_Pn_add_50 : decode b_Pn_add 50 = .ok (.dup, 1) := by decide +kernel
theorem d_Pn_add_51 : decode b_Pn_add 51 = .ok (.ldc 88, 2) := by decide +kernel
theorem d_Pn_add_53 : decode b_Pn_add 53 = .ok (.invokespecial 90, 3) := by decide +kernel
theorem d_Pn_add_56 : decode b_Pn_add 56 = .ok (.athrow, 1) := by decide +kernel
theorem d_Pn_add_57 : decode b_Pn_add 57 = .ok (.aload_n 0, 1) := by decide +kernel
theorem d_Pn_add_58 : decode b_Pn_add 58 = .ok (.aload_n 0, 1) := by decide +kernel
theorem d_Pn_add_59 : decode b_Pn_add 59 = .ok (.getfield 23, 3) := by decide +kernel
theorem d_Pn_add_62 : decode b_Pn_add 62 = .ok (.getfield 71, 3) := by decide +kernel
theorem d_Pn_add_65 : decode b_Pn_add 65 = .ok (.iconst 1, 1) := by decide +kernel
theorem d_Pn_add_66 : decode b_Pn_add 66 = .ok (.iadd, 1) := by decide +kernel
theorem d_Pn_add_67 : decode b_Pn_add 67 = .ok (.invokevirtual 93, 3) := by decide +kernel
theorem d_Pn_add_70 : decode b_Pn_add 70 = .ok (.aload_n 0, 1) := by decide +kernel
theorem d_Pn_add_71 : decode b_Pn_add 71 = .ok (.getfield 23, 3) := by decide +kernel
theorem d_Pn_add_74 : decode b_Pn_add 74 = .ok (.iload_n 1, 1) := by decide +kernel
theorem d_Pn_add_75 : decode b_Pn_add 75 = .ok (.iload_n 2, 1) := by decide +kernel
theorem d_Pn_add_76 : decode b_Pn_add 76 = .ok (.invokevirtual 96, 3) := by decide +kernel
theorem d_Pn_add_79 : decode b_Pn_add 79 = .ok (.istore 4, 2) := by decide +kernel
theorem d_Pn_add_81 : decode b_Pn_add 81 = .ok (.aload_n 0, 1) := by decide +kernel
theorem d_Pn_add_82 : decode b_Pn_add 82 = .ok (.iload_n 3, 1) := by decide +kernel
theorem d_Pn_add_83 : decode b_Pn_add 83 = .ok (.iload 4, 2) := by decide +kernel
theorem d_Pn_add_85 : decode b_Pn_add 85 = .ok (.invokevirtual 99, 3) := by decide +kernel
theorem d_Pn_add_88 : decode b_Pn_add 88 = .ok (.aload_n 0, 1) := by decide +kernel
theorem d_Pn_add_89 : decode b_Pn_add 89 = .ok (.getfield 32, 3) := by decide +kernel
theorem d_Pn_add_92 : decode b_Pn_add 92 = .ok (.invokevirtual 102, 3) := by decide +kernel
theorem d_Pn_add_95 : decode b_Pn_add 95 = .ok (.ifCond .eq 12, 3) := by decide +kernel
theorem d_Pn_add_98 : decode b_Pn_add 98 = .ok (.aload_n 0, 1) := by decide +kernel
theorem d_Pn_add_99 : decode b_Pn_add 99 = .ok (.iload 4, 2) := by decide +kernel
theorem d_Pn_add_101 : decode b_Pn_add 101 = .ok (.invokevirtual 105, 3) := by decide +kernel
theorem d_Pn_add_104 : decode b_Pn_add 104 = .ok (.goto 13, 3) := by decide +kernel
theorem d_Pn_add_107 : decode b_Pn_add 107 = .ok (.aload_n 0, 1) := by decide +kernel
theorem d_Pn_add_108 : decode b_Pn_add 108 = .ok (.getfield 32, 3) := by decide +kernel
theorem d_Pn_add_111 : decode b_Pn_add 111 = .ok (.iload 4, 2) := by decide +kernel
theorem d_Pn_add_113 : decode b_Pn_add 113 = .ok (.iload_n 3, 1) := by decide +kernel
theorem d_Pn_add_114 : decode b_Pn_add 114 = .ok (.invokevirtual 108, 3) := by decide +kernel
theorem d_Pn_add_117 : decode b_Pn_add 117 = .ok (.aload_n 0, 1) := by decide +kernel
theorem d_Pn_add_118 : decode b_Pn_add 118 = .ok (.invokevirtual 111, 3) := by decide +kernel
theorem d_Pn_add_121 : decode b_Pn_add 121 = .ok (.iload 4, 2) := by decide +kernel
theorem d_Pn_add_123 : decode b_Pn_add 123 = .ok (.ireturn, 1) := by decide +kernel
theorem d_Nt_removeAll_0 : decode b_Nt_removeAll 0 = .ok (.aload_n 0, 1) := by decide +kernel
theorem d_Nt_removeAll_1 : decode b_Nt_removeAll 1 = .ok (.iconst 0, 1) := by decide +kernel
theorem d_Nt_removeAll_2 : decode b_Nt_removeAll 2 = .ok (.putfield 51, 3) := by decide +kernel
theorem d_Nt_removeAll_5 : decode b_Nt_removeAll 5 = .ok (.aload_n 0, 1) := by decide +kernel
theorem d_Nt_removeAll_6 : decode b_Nt_removeAll 6 = .ok (.iconst 0, 1) := by decide +kernel
theorem d_Nt_removeAll_7 : decode b_Nt_removeAll 7 = .ok (.putfield 54, 3) := by decide +kernel
theorem d_Nt_removeAll_10 : decode b_Nt_removeAll 10 = .ok (.return_, 1) := by decide +kernel
theorem d_Pn_clear_0 : decode b_Pn_clear 0 = .ok (.aload_n 0, 1) := by decide +kernel
theorem d_Pn_clear_1 : decode b_Pn_clear 1 = .ok (.getfield 23, 3) := by decide +kernel
theorem d_Pn_clear_4 : decode b_Pn_clear 4 = .ok (.getfield 71, 3) := by decide +kernel
theorem d_Pn_clear_7 : decode b_Pn_clear 7 = .ok (.istore_n 1, 1) := by decide +kernel
theorem d_Pn_clear_8 : decode b_Pn_clear 8 = .ok (.aload_n 0, 1) := by decide +kernel
theorem d_Pn_clear_9 : decode b_Pn_clear 9 = .ok (.getfield 23, 3) := by decide +kernel
theorem d_Pn_clear_12 : decode b_Pn_clear 12 = .ok (.iconst 0, 1) := by decide +kernel
theorem d_Pn_clear_13 : decode b_Pn_clear 13 = .ok (.putfield 71, 3) := by decide +kernel
theorem d_Pn_clear_16 : decode b_Pn_clear 16 = .ok (.aload_n 0, 1) := by decide +kernel
theorem d_Pn_clear_17 : decode b_Pn_clear 17 = .ok (.getfield 32, 3) := by decide +kernel
theorem d_Pn_clear_20 : decode b_Pn_clear 20 = .ok (.invokevirtual 114, 3) := by decide +kernel
theorem d_Pn_clear_23 : decode b_Pn_clear 23 = .ok (.aload_n 0, 1) := by decide +kernel
theorem d_Pn_clear_24 : decode b_Pn_clear 24 = .ok (.iconst (-1), 1) := by decide +kernel
theorem d_Pn_clear_25 : decode b_Pn_clear 25 = .ok (.putfield 60, 3) := by decide +kernel
theorem d_Pn_clear_28 : decode b_Pn_clear 28 = .ok (.aload_n 0, 1) := by decide +kernel
theorem d_Pn_clear_29 : decode b_Pn_clear 29 = .ok (.iconst (-1), 1) := by decide +kernel
theorem d_Pn_clear_30 : decode b_Pn_clear 30 = .ok (.putfield 64, 3) := by decide +kernel
theorem d_Pn_clear_33 : decode b_Pn_clear 33 = .ok (.aload_n 0, 1) := by decide +kernel
theorem d_Pn_clear_34 : decode b_Pn_clear 34 = .ok (.invokevirtual 111, 3) := by decide +kernel
theorem d_Pn_clear_37 : decode b_Pn_clear 37 = .ok (.iload_n 1, 1) := by decide +kernel
theorem d_Pn_clear_38 : decode b_Pn_clear 38 = .ok (.ireturn, 1) := by decide +kernel
theorem d_Pn_find_0 : decode b_Pn_find 0 = .ok (.iload_n 1, 1) := by decide +kernel
theorem d_Pn_find_1 : decode b_Pn_find 1 = .ok (.iload_n 2, 1) := by decide +kernel
theorem d_Pn_find_2 : decode b_Pn_find 2 = .ok (.invokestatic 67, 3) := by decide +kernel
theorem d_Pn_find_5 : decode b_Pn_find 5 = .ok (.aload_n 0, 1) := by decide +kernel
theorem d_Pn_find_6 : decode b_Pn_find 6 = .ok (.getfield 23, 3) := by decide +kernel
theorem d_Pn_find_9 : decode b_Pn_find 9 = .ok (.aload_n 0, 1) := by decide +kernel
theorem d_Pn_find_10 : decode b_Pn_find 10 = .ok (.getfield 23, 3) := by decide +kernel
theorem d_Pn_find_13 : decode b_Pn_find 13 = .ok (.getfield 71, 3) := by decide +kernel
theorem d_Pn_find_16 : decode b_Pn_find 16 = .ok (.iload_n 1, 1) := by decide +kernel
theorem d_Pn_find_17 : decode b_Pn_find 17 = .ok (.iload_n 2, 1) := by decide +kernel
theorem d_Pn_find_18 : decode b_Pn_find 18 = .ok (.invokevirtual 74, 3) := by decide +kernel
theorem d_Pn_find_21 : decode b_Pn_find 21 = .ok (.istore_n 3, 1) := by decide +kernel
theorem d_Pn_find_22 : decode b_Pn_find 22 = .ok (.aload_n 0, 1) := by decide +kernel
theorem d_Pn_find_23 : decode b_Pn_find 23 = .ok (.getfield 23, 3) := by decide +kernel
theorem d_Pn_find_26 : decode b_Pn_find 26 = .ok (.iload_n 3, 1) := by decide +kernel
theorem d_Pn_find_27 : decode b_Pn_find 27 = .ok (.iload_n 1, 1) := by decide +kernel
theorem d_Pn_find_28 : decode b_Pn_find 28 = .ok (.iload_n 2, 1) := by decide +kernel
theorem d_Pn_find_29 : decode b_Pn_find 29 = .ok (.invokevirtual 78, 3) := by decide +kernel
theorem d_Pn_find_32 : decode b_Pn_find 32 = .ok (.ifCond .eq 7, 3) := by decide +kernel
theorem d_Pn_find_35 : decode b_Pn_find 35 = .ok (.iload_n 3, 1) := by decide +kernel
theorem d_Pn_find_36 : decode b_Pn_find 36 = .ok (.goto 4, 3) := by decide +kernel
theorem d_Pn_find_39 : decode b_Pn_find 39 = .ok (.iconst (-1), 1) := by decide +kernel
theorem d_Pn_find_40 : decode b_Pn_find 40 = .ok (.ireturn, 1) := by decide +kernel
theorem d_Nt_solidCount_0 : decode b_Nt_solidCount 0 = .ok (.aload_n 0, 1) := by decide +kernel
theorem d_Nt_solidCount_1 : decode b_Nt_solidCount 1 = .ok (.getfield 51, 3) := by decide +kernel
theorem d_Nt_solidCount_4 : decode b_Nt_solidCount 4 = .ok (.aload_n 0, 1) := by decide +kernel
theorem d_Nt_solidCount_5 : decode b_Nt_solidCount 5 = .ok (.getfield 54, 3) := by decide +kernel
theorem d_Nt_solidCount_8 : decode b_Nt_solidCount 8 = .ok (.isub, 1) := by decide +kernel
theorem d_Nt_solidCount_9 : decode b_Nt_solidCount 9 = .ok (.ireturn, 1) := by decide +kernel
theorem d_Nt_edgeCount_0 : decode b_Nt_edgeCount 0 = .ok (.iconst 3, 1) := by decide +kernel
theorem d_Nt_edgeCount_1 : decode b_Nt_edgeCount 1 = .ok (.aload_n 0, 1) := by decide +kernel
theorem d_Nt_edgeCount_2 : decode b_Nt_edgeCount 2 = .ok (.getfield 51, 3) := by decide +kernel
theorem d_Nt_edgeCount_5 : decode b_Nt_edgeCount 5 = .ok (.imul, 1) := by decide +kernel
theorem d_Nt_edgeCount_6 : decode b_Nt_edgeCount 6 = .ok (.ireturn, 1) := by decide +kernel
theorem d_Nt_lowestFirst_0 : decode b_Nt_lowestFirst 0 = .ok (.iload_n 1, 1) := by decide +kernel
theorem d_Nt_lowestFirst_1 : decode b_Nt_lowestFirst 1 = .ok (.istore_n 2, 1) := by decide +kernel
theorem d_Nt_lowestFirst_2 : decode b_Nt_lowestFirst 2 = .ok (.iconst 1, 1) := by decide +kernel
theorem d_Nt_lowestFirst_3 : decode b_Nt_lowestFirst 3 = .ok (.istore_n 3, 1) := by decide +kernel
theorem d_Nt_lowestFirst_4 : decode b_Nt_lowestFirst 4 = .ok (.iload_n 3, 1) := by decide +kernel
theorem d_Nt_lowestFirst_5 : decode b_Nt_lowestFirst 5 = .ok (.iconst 3, 1) := by decide +kernel
theorem d_Nt_lowestFirst_6 : decode b_Nt_lowestFirst 6 = .ok (.if_icmp .ge 33, 3) := by decide +kernel
theorem d_Nt_lowestFirst_9 : decode b_Nt_lowestFirst 9 = .ok (.iload_n 1, 1) := by decide +kernel
theorem d_Nt_lowestFirst_10 : decode b_Nt_lowestFirst 10 = .ok (.iload_n 3, 1) := by decide +kernel
theorem d_Nt_lowestFirst_11 : decode b_Nt_lowestFirst 11 = .ok (.invokestatic 67, 3) := by decide +kernel
theorem d_Nt_lowestFirst_14 : decode b_Nt_lowestFirst 14 = .ok (.istore 4, 2) := by decide +kernel
theorem d_Nt_lowestFirst_16 : decode b_Nt_lowestFirst 16 = .ok (.aload_n 0, 1) := by decide +kernel
theorem d_Nt_lowestFirst_17 : decode b_Nt_lowestFirst 17 = .ok (.iload 4, 2) := by decide +kernel
theorem d_Nt_lowestFirst_19 : decode b_Nt_lowestFirst 19 = .ok (.invokevirtual 115, 3) := by decide +kernel
theorem d_Nt_lowestFirst_22 : decode b_Nt_lowestFirst 22 = .ok (.aload_n 0, 1) := by decide +kernel
theorem d_Nt_lowestFirst_23 : decode b_Nt_lowestFirst 23 = .ok (.iload_n 2, 1) := by decide +kernel
theorem d_Nt_lowestFirst_24 : decode b_Nt_lowestFirst 24 = .ok (.invokevirtual 115, 3) := by decide +kernel
theorem d_Nt_lowestFirst_27 : decode b_Nt_lowestFirst 27 = .ok (.if_icmp .ge 6, 3) := by decide +kernel
theorem d_Nt_lowestFirst_30 : decode b_Nt_lowestFirst 30 = .ok (.iload 4, 2) := by decide +kernel
theorem d_Nt_lowestFirst_32 : decode b_Nt_lowestFirst 32 = .ok (.istore_n 2, 1) := by decide +kernel
theorem d_Nt_lowestFirst_33 : decode b_Nt_lowestFirst 33 = .ok (.iinc 3 1, 3) := by decide +kernel
theorem d_Nt_lowestFirst_36 : decode b_Nt_lowestFirst 36 = .ok (.goto (-32), 3) := by decide +kernel
theorem d_Nt_lowestFirst_39 : decode b_Nt_lowestFirst 39 = .ok (.iload_n 2, 1) := by decide +kernel
theorem d_Nt_lowestFirst_40 : decode b_Nt_lowestFirst 40 = .ok (.ireturn, 1) := by decide +kernel
theorem d_Rl_gather_0 : decode b_Rl_gather 0 = .ok (.iconst 0, 1) := by decide +kernel
theorem d_Rl_gather_1 : decode b_Rl_gather 1 = .ok (.istore_n 1, 1) := by decide +kernel
theorem d_Rl_gather_2 : decode b_Rl_gather 2 = .ok (.iconst 0, 1) := by decide +kernel
theorem d_Rl_gather_3 : decode b_Rl_gather 3 = .ok (.istore_n 2, 1) := by decide +kernel
theorem d_Rl_gather_4 : decode b_Rl_gather 4 = .ok (.iload_n 2, 1) := by decide +kernel
theorem d_Rl_gather_5 : decode b_Rl_gather 5 = .ok (.aload_n 0, 1) := by decide +kernel
theorem d_Rl_gather_6 : decode b_Rl_gather 6 = .ok (.getfield 13, 3) := by decide +kernel
theorem d_Rl_gather_9 : decode b_Rl_gather 9 = .ok (.invokevirtual 60, 3) := by decide +kernel
theorem d_Rl_gather_12 : decode b_Rl_gather 12 = .ok (.if_icmp .ge 39, 3) := by decide +kernel
theorem d_Rl_gather_15 : decode b_Rl_gather 15 = .ok (.aload_n 0, 1) := by decide +kernel
theorem d_Rl_gather_16 : decode b_Rl_gather 16 = .ok (.getfield 13, 3) := by decide +kernel
theorem d_Rl_gather_19 : decode b_Rl_gather 19 = .ok (.iload_n 2, 1) := by decide +kernel
theorem d_Rl_gather_20 : decode b_Rl_gather 20 = .ok (.invokevirtual 65, 3) := by decide +kernel
theorem d_Rl_gather_23 : decode b_Rl_gather 23 = .ok (.ifCond .ne 22, 3) := by decide +kernel
theorem d_Rl_gather_26 : decode b_Rl_gather 26 = .ok (.aload_n 0, 1) := by decide +kernel
theorem d_Rl_gather_27 : decode b_Rl_gather 27 = .ok (.getfield 28, 3) := by decide +kernel
theorem d_Rl_gather_30 : decode b_Rl_gather 30 = .ok (.iload_n 1, 1) := by decide +kernel
theorem d_Rl_gather_31 : decode b_Rl_gather 31 = .ok (.aload_n 0, 1) := by decide +kernel
theorem d_Rl_gather_32 : decode b_Rl_gather 32 = .ok (.getfield 13, 3) := by decide +kernel
theorem d_Rl_gather_35 : decode b_Rl_gather 35 = .ok (.iload_n 2, 1) := by decide +kernel
theorem d_Rl_gather_36 : decode b_Rl_gather 36 = .ok (.invokevirtual 69, 3) := by decide +kernel
theorem d_Rl_gather_39 : decode b_Rl_gather 39 = .ok (.invokevirtual 72, 3) := by decide +kernel
theorem d_Rl_gather_42 : decode b_Rl_gather 42 = .ok (.iinc 1 1, 3) := by decide +kernel
theorem d_Rl_gather_45 : decode b_Rl_gather 45 = .ok (.iinc 2 3, 3) := by decide +kernel
theorem d_Rl_gather_48 : decode b_Rl_gather 48 = .ok (.goto (-44), 3) := by decide +kernel
theorem d_Rl_gather_51 : decode b_Rl_gather 51 = .ok (.iload_n 1, 1) := by decide +kernel
theorem d_Rl_gather_52 : decode b_Rl_gather 52 = .ok (.ireturn, 1) := by decide +kernel
theorem d_Rl_sortInto_0 : decode b_Rl_sortInto 0 = .ok (.iconst 0, 1) := by decide +kernel
theorem d_Rl_sortInto_1 : decode b_Rl_sortInto 1 = .ok (.istore 5, 2) := by decide +kernel
theorem d_Rl_sortInto_3 : decode b_Rl_sortInto 3 = .ok (.iload 5, 2) := by decide +kernel
theorem d_Rl_sortInto_5 : decode b_Rl_sortInto 5 = .ok (.aload_n 0, 1) := by decide +kernel
theorem d_Rl_sortInto_6 : decode b_Rl_sortInto 6 = .ok (.getfield 7, 3) := by decide +kernel
theorem d_Rl_sortInto_9 : decode b_Rl_sortInto 9 = .ok (.getfield 76, 3) := by decide +kernel
theorem d_Rl_sortInto_12 : decode b_Rl_sortInto 12 = .ok (.if_icmp .gt 19, 3) := by decide +kernel
theorem d_Rl_sortInto_15 : decode b_Rl_sortInto 15 = .ok (.aload_n 0, 1) := by decide +kernel
theorem d_Rl_sortInto_16 : decode b_Rl_sortInto 16 = .ok (.getfield 35, 3) := by decide +kernel
theorem d_Rl_sortInto_19 : decode b_Rl_sortInto 19 = .ok (.iload 5, 2) := by decide +kernel
theorem d_Rl_sortInto_21 : decode b_Rl_sortInto 21 = .ok (.iconst 0, 1) := by decide +kernel
theorem d_Rl_sortInto_22 : decode b_Rl_sortInto 22 = .ok (.invokevirtual 72, 3) := by decide +kernel
theorem d_Rl_sortInto_25 : decode b_Rl_sortInto 25 = .ok (.iinc 5 1, 3) := by decide +kernel
theorem d_Rl_sortInto_28 : decode b_Rl_sortInto 28 = .ok (.goto (-25), 3) := by decide +kernel
theorem d_Rl_sortInto_31 : decode b_Rl_sortInto 31 = .ok (.iconst 0, 1) := by decide +kernel
theorem d_Rl_sortInto_32 : decode b_Rl_sortInto 32 = .ok (.istore 5, 2) := by decide +kernel
theorem d_Rl_sortInto_34 : decode b_Rl_sortInto 34 = .ok (.iload 5, 2) := by decide +kernel
theorem d_Rl_sortInto_36 : decode b_Rl_sortInto 36 = .ok (.iload_n 3, 1) := by decide +kernel
theorem d_Rl_sortInto_37 : decode b_Rl_sortInto 37 = .ok (.if_icmp .ge 53, 3) := by decide +kernel
theorem d_Rl_sortInto_40 : decode b_Rl_sortInto 40 = .ok (.aload_n 0, 1) := by decide +kernel
theorem d_Rl_sortInto_41 : decode b_Rl_sortInto 41 = .ok (.getfield 13, 3) := by decide +kernel
theorem d_Rl_sortInto_44 : decode b_Rl_sortInto 44 = .ok (.aload_n 1, 1) := by decide +kernel
theorem d_Rl_sortInto_45 : decode b_Rl_sortInto 45 = .ok (.iload 5, 2) := by decide +kernel
theorem d_Rl_sortInto_47 : decode b_Rl_sortInto 47 = .ok (.invokevirtual 48, 3) := by decide +kernel
theorem d_Rl_sortInto_50 : decode b_Rl_sortInto 50 = .ok (.iload 4, 2) := by decide +kernel
theorem d_Rl_sortInto_52 : decode b_Rl_sortInto 52 = .ok (.invokestatic 79, 3) := by decide +kernel
theorem d_Rl_sortInto_55 : decode b_Rl_sortInto 55 = .ok (.invokevirtual 83, 3) := by decide +kernel
theorem d_Rl_sortInto_58 : decode b_Rl_sortInto 58 = .ok (.istore 6, 2) := by decide +kernel
theorem d_Rl_sortInto_60 : decode b_Rl_sortInto 60 = .ok (.aload_n 0, 1) := by decide +kernel
theorem d_Rl_sortInto_61 : decode b_Rl_sortInto 61 = .ok (.getfield 35, 3) := by decide +kernel
theorem d_Rl_sortInto_64 : decode b_Rl_sortInto 64 = .ok (.iload 6, 2) := by decide +kernel
theorem d_Rl_sortInto_66 : decode b_Rl_sortInto 66 = .ok (.iconst 1, 1) := by decide +kernel
theorem d_Rl_sortInto_67 : decode b_Rl_sortInto 67 = .ok (.iadd, 1) := by decide +kernel
theorem d_Rl_sortInto_68 : decode b_Rl_sortInto 68 = .ok (.aload_n 0, 1) := by decide +kernel
theorem d_Rl_sortInto_69 : decode b_Rl_sortInto 69 = .ok (.getfield 35, 3) := by decide +kernel
theorem d_Rl_sortInto_72 : decode b_Rl_sortInto 72 = .ok (.iload 6, 2) := by decide +kernel
theorem d_Rl_sortInto_74 : decode b_Rl_sortInto 74 = .ok (.iconst 1, 1) := by decide +kernel
theorem d_Rl_sortInto_75 : decode b_Rl_sortInto 75 = .ok (.iadd, 1) := by decide +kernel
theorem d_Rl_sortInto_76 : decode b_Rl_sortInto 76 = .ok (.invokevirtual 48, 3) := by decide +kernel
theorem d_Rl_sortInto_79 : decode b_Rl_sortInto 79 = .ok (.iconst 1, 1) := by decide +kernel
theorem d_Rl_sortInto_80 : decode b_Rl_sortInto 80 = .ok (.iadd, 1) := by decide +kernel
theorem d_Rl_sortInto_81 : decode b_Rl_sortInto 81 = .ok (.invokevirtual 72, 3) := by decide +kernel
theorem d_Rl_sortInto_84 : decode b_Rl_sortInto 84 = .ok (.iinc 5 1, 3) := by decide +kernel
theorem d_Rl_sortInto_87 : decode b_Rl_sortInto 87 = .ok (.goto (-53), 3) := by decide +kernel
theorem d_Rl_sortInto_90 : decode b_Rl_sortInto 90 = .ok (.iconst 1, 1) := by decide +kernel
theorem d_Rl_sortInto_91 : decode b_Rl_sortInto 91 = .ok (.istore 5, 2) := by decide +kernel
theorem d_Rl_sortInto_93 : decode b_Rl_sortInto 93 = .ok (.iload 5, 2) := by decide +kernel
theorem d_Rl_sortInto_95 : decode b_Rl_sortInto 95 = .ok (.aload_n 0, 1) := by decide +kernel
theorem d_Rl_sortInto_96 : decode b_Rl_sortInto 96 = .ok (.getfield 7, 3) := by decide +kernel
theorem d_Rl_sortInto_99 : decode b_Rl_sortInto 99 = .ok (.getfield 76, 3) := by decide +kernel
theorem d_Rl_sortInto_102 : decode b_Rl_sortInto 102 = .ok (.if_icmp .ge 39, 3) := by decide +kernel
theorem d_Rl_sortInto_105 : decode b_Rl_sortInto 105 = .ok (.aload_n 0, 1) := by decide +kernel
theorem d_Rl_sortInto_106 : decode b_Rl_sortInto 106 = .ok (.getfield 35, 3) := by decide +kernel
theorem d_Rl_sortInto_109 : decode b_Rl_sortInto 109 = .ok (.iload 5, 2) := by decide +kernel
theorem d_Rl_sortInto_111 : decode b_Rl_sortInto 111 = .ok (.aload_n 0, 1) := by decide +kernel
theorem d_Rl_sortInto_112 : decode b_Rl_sortInto 112 = .ok (.getfield 35, 3) := by decide +kernel
theorem d_Rl_sortInto_115 : decode b_Rl_sortInto 115 = .ok (.iload 5, 2) := by decide +kernel
theorem d_Rl_sortInto_117 : decode b_Rl_sortInto 117 = .ok (.invokevirtual 48, 3) := by decide +kernel
theorem d_Rl_sortInto_120 : decode b_Rl_sortInto 120 = .ok (.aload_n 0, 1) := by decide +kernel
theorem d_Rl_sortInto_121 : decode b_Rl_sortInto 121 = .ok (.getfield 35, 3) := by decide +kernel
theorem d_Rl_sortInto_124 : decode b_Rl_sortInto 124 = .ok (.iload 5, 2) := by decide +kernel
theorem d_Rl_sortInto_126 : decode b_Rl_sortInto 126 = .ok (.iconst 1, 1) := by decide +kernel
theorem d_Rl_sortInto_127 : decode b_Rl_sortInto 127 = .ok (.isub, 1) := by decide +kernel
theorem d_Rl_sortInto_128 : decode b_Rl_sortInto 128 = .ok (.invokevirtual 48, 3) := by decide +kernel
theorem d_Rl_sortInto_131 : decode b_Rl_sortInto 131 = .ok (.iadd, 1) := by decide +kernel
theorem d_Rl_sortInto_132 : decode b_Rl_sortInto 132 = .ok (.invokevirtual 72, 3) := by decide +kernel
theorem d_Rl_sortInto_135 : decode b_Rl_sortInto 135 = .ok (.iinc 5 1, 3) := by decide +kernel
theorem d_Rl_sortInto_138 : decode b_Rl_sortInto 138 = .ok (.goto (-45), 3) := by decide +kernel
theorem d_Rl_sortInto_141 : decode b_Rl_sortInto 141 = .ok (.iconst 0, 1) := by decide +kernel
theorem d_Rl_sortInto_142 : decode b_Rl_sortInto 142 = .ok (.istore 5, 2) := by decide +kernel
theorem d_Rl_sortInto_144 : decode b_Rl_sortInto 144 = .ok (.iload 5, 2) := by decide +kernel
theorem d_Rl_sortInto_146 : decode b_Rl_sortInto 146 = .ok (.iload_n 3, 1) := by decide +kernel
theorem d_Rl_sortInto_147 : decode b_Rl_sortInto 147 = .ok (.if_icmp .ge 65, 3) := by decide +kernel
theorem d_Rl_sortInto_150 : decode b_Rl_sortInto 150 = .ok (.aload_n 1, 1) := by decide +kernel
theorem d_Rl_sortInto_151 : decode b_Rl_sortInto 151 = .ok (.iload 5, 2) := by decide +kernel
theorem d_Rl_sortInto_153 : decode b_Rl_sortInto 153 = .ok (.invokevirtual 48, 3) := by decide +kernel
theorem d_Rl_sortInto_156 : decode b_Rl_sortInto 156 = .ok (.istore 6, 2) := by decide +kernel
theorem d_Rl_sortInto_158 : decode b_Rl_sortInto 158 = .ok (.aload_n 0, 1) := by decide +kernel
theorem d_Rl_sortInto_159 : decode b_Rl_sortInto 159 = .ok (.getfield 13, 3) := by decide +kernel
theorem d_Rl_sortInto_162 : decode b_Rl_sortInto 162 = .ok (.iload 6, 2) := by decide +kernel
theorem d_Rl_sortInto_164 : decode b_Rl_sortInto 164 = .ok (.iload 4, 2) := by decide +kernel
theorem d_Rl_sortInto_166 : decode b_Rl_sortInto 166 = .ok (.invokestatic 79, 3) := by decide +kernel
theorem d_Rl_sortInto_169 : decode b_Rl_sortInto 169 = .ok (.invokevirtual 83, 3) := by decide +kernel
theorem d_Rl_sortInto_172 : decode b_Rl_sortInto 172 = .ok (.istore 7, 2) := by decide +kernel
theorem d_Rl_sortInto_174 : decode b_Rl_sortInto 174 = .ok (.aload_n 0, 1) := by decide +kernel
theorem d_Rl_sortInto_175 : decode b_Rl_sortInto 175 = .ok (.getfield 35, 3) := by decide +kernel
theorem d_Rl_sortInto_178 : decode b_Rl_sortInto 178 = .ok (.iload 7, 2) := by decide +kernel
theorem d_Rl_sortInto_180 : decode b_Rl_sortInto 180 = .ok (.invokevirtual 48, 3) := by decide +kernel
theorem d_Rl_sortInto_183 : decode b_Rl_sortInto 183 = .ok (.istore 8, 2) := by decide +kernel
theorem d_Rl_sortInto_185 : decode b_Rl_sortInto 185 = .ok (.aload_n 2, 1) := by decide +kernel
theorem d_Rl_sortInto_186 : decode b_Rl_sortInto 186 = .ok (.iload 8, 2) := by decide +kernel
theorem d_Rl_sortInto_188 : decode b_Rl_sortInto 188 = .ok (.iload 6, 2) := by decide +kernel
theorem d_Rl_sortInto_190 : decode b_Rl_sortInto 190 = .ok (.invokevirtual 72, 3) := by decide +kernel
theorem d_Rl_sortInto_193 : decode b_Rl_sortInto 193 = .ok (.aload_n 0, 1) := by decide +kernel
theorem d_Rl_sortInto_194 : decode b_Rl_sortInto 194 = .ok (.getfield 35, 3) := by decide +kernel
theorem d_Rl_sortInto_197 : decode b_Rl_sortInto 197 = .ok (.iload 7, 2) := by decide +kernel
theorem d_Rl_sortInto_199 : decode b_Rl_sortInto 199 = .ok (.iload 8, 2) := by decide +kernel
theorem d_Rl_sortInto_201 : decode b_Rl_sortInto 201 = .ok (.iconst 1, 1) := by decide +kernel
theorem d_Rl_sortInto_202 : decode b_Rl_sortInto 202 = .ok (.iadd, 1) := by decide +kernel
theorem d_Rl_sortInto_203 : decode b_Rl_sortInto 203 = .ok (.invokevirtual 72, 3) := by decide +kernel
theorem d_Rl_sortInto_206 : decode b_Rl_sortInto 206 = .ok (.iinc 5 1, 3) := by decide +kernel
theorem d_Rl_sortInto_209 : decode b_Rl_sortInto 209 = .ok (.goto (-65), 3) := by decide +kernel
theorem d_Rl_sortInto_212 : decode b_Rl_sortInto 212 = .ok (.return_, 1) := by decide +kernel
theorem d_Rl_sortAll_0 : decode b_Rl_sortAll 0 = .ok (.aload_n 0, 1) := by decide +kernel
theorem d_Rl_sortAll_1 : decode b_Rl_sortAll 1 = .ok (.invokevirtual 52, 3) := by decide +kernel
theorem d_Rl_sortAll_4 : decode b_Rl_sortAll 4 = .ok (.istore_n 1, 1) := by decide +kernel
theorem d_Rl_sortAll_5 : decode b_Rl_sortAll 5 = .ok (.aload_n 0, 1) := by decide +kernel
theorem d_Rl_sortAll_6 : decode b_Rl_sortAll 6 = .ok (.aload_n 0, 1) := by decide +kernel
theorem d_Rl_sortAll_7 : decode b_Rl_sortAll 7 = .ok (.getfield 28, 3) := by decide +kernel
theorem d_Rl_sortAll_10 : decode b_Rl_sortAll 10 = .ok (.aload_n 0, 1) := by decide +kernel
theorem d_Rl_sortAll_11 : decode b_Rl_sortAll 11 = .ok (.getfield 32, 3) := by decide +kernel
theorem d_Rl_sortAll_14 : decode b_Rl_sortAll 14 = .ok (.iload_n 1, 1) := by decide +kernel
theorem d_Rl_sortAll_15 : decode b_Rl_sortAll 15 = .ok (.iconst 1, 1) := by decide +kernel
theorem d_Rl_sortAll_16 : decode b_Rl_sortAll 16 = .ok (.invokevirtual 56, 3) := by decide +kernel
theorem d_Rl_sortAll_19 : decode b_Rl_sortAll 19 = .ok (.aload_n 0, 1) := by decide +kernel
theorem d_Rl_sortAll_20 : decode b_Rl_sortAll 20 = .ok (.aload_n 0, 1) := by decide +kernel
theorem d_Rl_sortAll_21 : decode b_Rl_sortAll 21 = .ok (.getfield 32, 3) := by decide +kernel
theorem d_Rl_sortAll_24 : decode b_Rl_sortAll 24 = .ok (.aload_n 0, 1) := by decide +kernel
theorem d_Rl_sortAll_25 : decode b_Rl_sortAll 25 = .ok (.getfield 28, 3) := by decide +kernel
theorem d_Rl_sortAll_28 : decode b_Rl_sortAll 28 = .ok (.iload_n 1, 1) := by decide +kernel
theorem d_Rl_sortAll_29 : decode b_Rl_sortAll 29 = .ok (.iconst 0, 1) := by decide +kernel
theorem d_Rl_sortAll_30 : decode b_Rl_sortAll 30 = .ok (.invokevirtual 56, 3) := by decide +kernel
theorem d_Rl_sortAll_33 : decode b_Rl_sortAll 33 = .ok (.aload_n 0, 1) := by decide +kernel
theorem d_Rl_sortAll_34 : decode b_Rl_sortAll 34 = .ok (.iconst 1, 1) := by decide +kernel
theorem d_Rl_sortAll_35 : decode b_Rl_sortAll 35 = .ok (.putfield 38, 3) := by decide +kernel
theorem d_Rl_sortAll_38 : decode b_Rl_sortAll 38 = .ok (.return_, 1) := by decide +kernel
theorem d_Rl_edge_0 : decode b_Rl_edge 0 = .ok (.aload_n 0, 1) := by decide +kernel
theorem d_Rl_edge_1 : decode b_Rl_edge 1 = .ok (.getfield 38, 3) := by decide +kernel
theorem d_Rl_edge_4 : decode b_Rl_edge 4 = .ok (.ifCond .ne 7, 3) := by decide +kernel
theorem d_Rl_edge_7 : decode b_Rl_edge 7 = .ok (.aload_n 0, 1) := by decide +kernel
theorem d_Rl_edge_8 : decode b_Rl_edge 8 = .ok (.invokevirtual 45, 3) := by decide +kernel
theorem d_Rl_edge_11 : decode b_Rl_edge 11 = .ok (.aload_n 0, 1) := by decide +kernel
theorem d_Rl_edge_12 : decode b_Rl_edge 12 = .ok (.getfield 28, 3) := by decide +kernel
theorem d_Rl_edge_15 : decode b_Rl_edge 15 = .ok (.iload_n 1, 1) := by decide +kernel
theorem d_Rl_edge_16 : decode b_Rl_edge 16 = .ok (.invokevirtual 48, 3) := by decide +kernel
theorem d_Rl_edge_19 : decode b_Rl_edge 19 = .ok (.ireturn, 1) := by decide +kernel
theorem d_Pn_triangle_0 : decode b_Pn_triangle 0 = .ok (.iload_n 1, 1) := by decide +kernel
theorem d_Pn_triangle_1 : decode b_Pn_triangle 1 = .ok (.ifCond .lt 23, 3) := by decide +kernel
theorem d_Pn_triangle_4 : decode b_Pn_triangle 4 = .ok (.iload_n 1, 1) := by decide +kernel
theorem d_Pn_triangle_5 : decode b_Pn_triangle 5 = .ok (.aload_n 0, 1) := by decide +kernel
theorem d_Pn_triangle_6 : decode b_Pn_triangle 6 = .ok (.getfield 32, 3) := by decide +kernel
theorem d_Pn_triangle_9 : decode b_Pn_triangle 9 = .ok (.invokevirtual 117, 3) := by decide +kernel
theorem d_Pn_triangle_12 : decode b_Pn_triangle 12 = .ok (.if_icmp .ge 12, 3) := by decide +kernel
theorem d_Pn_triangle_15 : decode b_Pn_triangle 15 = .ok (.iload_n 2, 1) := by decide +kernel
theorem d_Pn_triangle_16 : decode b_Pn_triangle 16 = .ok (.ifCond .lt 8, 3) := by decide +kernel
theorem d_Pn_triangle_19 : decode b_Pn_triangle 19 = .ok (.iload_n 2, 1) := by decide +kernel
theorem d_Pn_triangle_20 : decode b_Pn_triangle 20 = .ok (.iconst 2, 1) := by decide +kernel
theorem d_Pn_triangle_21 : decode b_Pn_triangle 21 = .ok (.if_icmp .le 13, 3) := by decide +kernel
theorem d_Pn_triangle_24 : decode b_Pn_triangle 24 = .ok (.new 121, 3) := by decide +kernel
theorem d_Pn_triangle_27 : decode b_Pn_triangle 27 = .ok (.dup, 1) := by decide +kernel
theorem d_Pn_triangle_28 : decode b_Pn_triangle 28 = .ok (.ldc 123, 2) := by decide +kernel
theorem d_Pn_triangle_30 : decode b_Pn_triangle 30 = .ok (.invokespecial 125, 3) := by decide +kernel
theorem d_Pn_triangle_33 : decode b_Pn_triangle 33 = .ok (.athrow, 1) := by decide +kernel
theorem d_Pn_triangle_34 : decode b_Pn_triangle 34 = .ok (.aload_n 0, 1) := by decide +kernel
theorem d_Pn_triangle_35 : decode b_Pn_triangle 35 = .ok (.getfield 32, 3) := by decide +kernel
theorem d_Pn_triangle_38 : decode b_Pn_triangle 38 = .ok (.aload_n 0, 1) := by decide +kernel
theorem d_Pn_triangle_39 : decode b_Pn_triangle 39 = .ok (.getfield 41, 3) := by decide +kernel
theorem d_Pn_triangle_42 : decode b_Pn_triangle 42 = .ok (.iload_n 1, 1) := by decide +kernel
theorem d_Pn_triangle_43 : decode b_Pn_triangle 43 = .ok (.invokevirtual 126, 3) := by decide +kernel
theorem d_Pn_triangle_46 : decode b_Pn_triangle 46 = .ok (.iload_n 2, 1) := by decide +kernel
theorem d_Pn_triangle_47 : decode b_Pn_triangle 47 = .ok (.invokestatic 130, 3) := by decide +kernel
theorem d_Pn_triangle_50 : decode b_Pn_triangle 50 = .ok (.invokevirtual 133, 3) := by decide +kernel
theorem d_Pn_triangle_53 : decode b_Pn_triangle 53 = .ok (.ireturn, 1) := by decide +kernel
theorem d_Pn_checkNumber_0 : decode b_Pn_checkNumber 0 = .ok (.iload_n 1, 1) := by decide +kernel
theorem d_Pn_checkNumber_1 : decode b_Pn_checkNumber 1 = .ok (.ifCond .lt 14, 3) := by decide +kernel
theorem d_Pn_checkNumber_4 : decode b_Pn_checkNumber 4 = .ok (.iload_n 1, 1) := by decide +kernel
theorem d_Pn_checkNumber_5 : decode b_Pn_checkNumber 5 = .ok (.aload_n 0, 1) := by decide +kernel
theorem d_Pn_checkNumber_6 : decode b_Pn_checkNumber 6 = .ok (.getfield 23, 3) := by decide +kernel
theorem d_Pn_checkNumber_9 : decode b_Pn_checkNumber 9 = .ok (.getfield 71, 3) := by decide +kernel
theorem d_Pn_checkNumber_12 : decode b_Pn_checkNumber 12 = .ok (.if_icmp .lt 13, 3) := by decide +kernel
theorem d_Pn_checkNumber_15 : decode b_Pn_checkNumber 15 = .ok (.new 121, 3) := by decide +kernel
theorem d_Pn_checkNumber_18 : decode b_Pn_checkNumber 18 = .ok (.dup, 1) := by decide +kernel
theorem d_Pn_checkNumber_19 : decode b_Pn_checkNumber 19 = .ok (.ldc 188, 2) := by decide +kernel
theorem d_Pn_checkNumber_21 : decode b_Pn_checkNumber 21 = .ok (.invokespecial 125, 3) := by decide +kernel
theorem d_Pn_checkNumber_24 : decode b_Pn_checkNumber 24 = .ok (.athrow, 1) := by decide +kernel
theorem d_Pn_checkNumber_25 : decode b_Pn_checkNumber 25 = .ok (.return_, 1) := by decide +kernel
theorem d_Nt_leftOf_0 : decode b_Nt_leftOf 0 = .ok (.aload_n 0, 1) := by decide +kernel
theorem d_Nt_leftOf_1 : decode b_Nt_leftOf 1 = .ok (.getfield 33, 3) := by decide +kernel
theorem d_Nt_leftOf_4 : decode b_Nt_leftOf 4 = .ok (.iload_n 1, 1) := by decide +kernel
theorem d_Nt_leftOf_5 : decode b_Nt_leftOf 5 = .ok (.iconst 2, 1) := by decide +kernel
theorem d_Nt_leftOf_6 : decode b_Nt_leftOf 6 = .ok (.invokestatic 67, 3) := by decide +kernel
theorem d_Nt_leftOf_9 : decode b_Nt_leftOf 9 = .ok (.invokevirtual 63, 3) := by decide +kernel
theorem d_Nt_leftOf_12 : decode b_Nt_leftOf 12 = .ok (.ireturn, 1) := by decide +kernel
theorem d_Nt_degree_0 : decode b_Nt_degree 0 = .ok (.aload_n 0, 1) := by decide +kernel
theorem d_Nt_degree_1 : decode b_Nt_degree 1 = .ok (.getfield 36, 3) := by decide +kernel
theorem d_Nt_degree_4 : decode b_Nt_degree 4 = .ok (.aload_n 0, 1) := by decide +kernel
theorem d_Nt_degree_5 : decode b_Nt_degree 5 = .ok (.iload_n 1, 1) := by decide +kernel
theorem d_Nt_degree_6 : decode b_Nt_degree 6 = .ok (.invokevirtual 85, 3) := by decide +kernel
theorem d_Nt_degree_9 : decode b_Nt_degree 9 = .ok (.invokevirtual 63, 3) := by decide +kernel
theorem d_Nt_degree_12 : decode b_Nt_degree 12 = .ok (.istore_n 2, 1) := by decide +kernel
theorem d_Nt_degree_13 : decode b_Nt_degree 13 = .ok (.iload_n 2, 1) := by decide +kernel
theorem d_Nt_degree_14 : decode b_Nt_degree 14 = .ok (.istore_n 3, 1) := by decide +kernel
theorem d_Nt_degree_15 : decode b_Nt_degree 15 = .ok (.iconst 0, 1) := by decide +kernel
theorem d_Nt_degree_16 : decode b_Nt_degree 16 = .ok (.istore 4, 2) := by decide +kernel
theorem d_Nt_degree_18 : decode b_Nt_degree 18 = .ok (.iconst 0, 1) := by decide +kernel
theorem d_Nt_degree_19 : decode b_Nt_degree 19 = .ok (.istore 5, 2) := by decide +kernel
theorem d_Nt_degree_21 : decode b_Nt_degree 21 = .ok (.iload 5, 2) := by decide +kernel
theorem d_Nt_degree_23 : decode b_Nt_degree 23 = .ok (.aload_n 0, 1) := by decide +kernel
theorem d_Nt_degree_24 : decode b_Nt_degree 24 = .ok (.getfield 21, 3) := by decide +kernel
theorem d_Nt_degree_27 : decode b_Nt_degree 27 = .ok (.if_icmp .gt 38, 3) := by decide +kernel
theorem d_Nt_degree_30 : decode b_Nt_degree 30 = .ok (.aload_n 0, 1) := by decide +kernel
theorem d_Nt_degree_31 : decode b_Nt_degree 31 = .ok (.iload_n 3, 1) := by decide +kernel
theorem d_Nt_degree_32 : decode b_Nt_degree 32 = .ok (.invokevirtual 118, 3) := by decide +kernel
theorem d_Nt_degree_35 : decode b_Nt_degree 35 = .ok (.aload_n 0, 1) := by decide +kernel
theorem d_Nt_degree_36 : decode b_Nt_degree 36 = .ok (.getfield 21, 3) := by decide +kernel
theorem d_Nt_degree_39 : decode b_Nt_degree 39 = .ok (.if_icmp .eq 6, 3) := by decide +kernel
theorem d_Nt_degree_42 : decode b_Nt_degree 42 = .ok (.iinc 4 1, 3) := by decide +kernel
theorem d_Nt_degree_45 : decode b_Nt_degree 45 = .ok (.aload_n 0, 1) := by decide +kernel
theorem d_Nt_degree_46 : decode b_Nt_degree 46 = .ok (.iload_n 3, 1) := by decide +kernel
theorem d_Nt_degree_47 : decode b_Nt_degree 47 = .ok (.invokevirtual 138, 3) := by decide +kernel
theorem d_Nt_degree_50 : decode b_Nt_degree 50 = .ok (.istore_n 3, 1) := by decide +kernel
theorem d_Nt_degree_51 : decode b_Nt_degree 51 = .ok (.iload_n 3, 1) := by decide +kernel
theorem d_Nt_degree_52 : decode b_Nt_degree 52 = .ok (.iload_n 2, 1) := by decide +kernel
theorem d_Nt_degree_53 : decode b_Nt_degree 53 = .ok (.if_icmp .ne 6, 3) := by decide +kernel
theorem d_Nt_degree_56 : decode b_Nt_degree 56 = .ok (.goto 9, 3) := by decide +kernel
theorem d_Nt_degree_59 : decode b_Nt_degree 59 = .ok (.iinc 5 1, 3) := by decide +kernel
theorem d_Nt_degree_62 : decode b_Nt_degree 62 = .ok (.goto (-41), 3) := by decide +kernel
theorem d_Nt_degree_65 : decode b_Nt_degree 65 = .ok (.iload 4, 2) := by decide +kernel
theorem d_Nt_degree_67 : decode b_Nt_degree 67 = .ok (.ireturn, 1) := by decide +kernel
theorem d_Pt_isBelow_0 : decode b_Pt_isBelow 0 = .ok (.aload_n 0, 1) := by decide +kernel
theorem d_Pt_isBelow_1 : decode b_Pt_isBelow 1 = .ok (.getfield 23, 3) := by decide +kernel
theorem d_Pt_isBelow_4 : decode b_Pt_isBelow 4 = .ok (.iload_n 1, 1) := by decide +kernel
theorem d_Pt_isBelow_5 : decode b_Pt_isBelow 5 = .ok (.invokevirtual 44, 3) := by decide +kernel
theorem d_Pt_isBelow_8 : decode b_Pt_isBelow 8 = .ok (.iload_n 2, 1) := by decide +kernel
theorem d_Pt_isBelow_9 : decode b_Pt_isBelow 9 = .ok (.if_icmp .lt 27, 3) := by decide +kernel
theorem d_Pt_isBelow_12 : decode b_Pt_isBelow 12 = .ok (.aload_n 0, 1) := by decide +kernel
theorem d_Pt_isBelow_13 : decode b_Pt_isBelow 13 = .ok (.getfield 23, 3) := by decide +kernel
theorem d_Pt_isBelow_16 : decode b_Pt_isBelow 16 = .ok (.iload_n 1, 1) := by decide +kernel
theorem d_Pt_isBelow_17 : decode b_Pt_isBelow 17 = .ok (.invokevirtual 44, 3) := by decide +kernel
theorem d_Pt_isBelow_20 : decode b_Pt_isBelow 20 = .ok (.iload_n 2, 1) := by decide +kernel
theorem d_Pt_isBelow_21 : decode b_Pt_isBelow 21 = .ok (.if_icmp .ne 19, 3) := by decide +kernel
theorem d_Pt_isBelow_24 : decode b_Pt_isBelow 24 = .ok (.aload_n 0, 1) := by decide +kernel
theorem d_Pt_isBelow_25 : decode b_Pt_isBelow 25 = .ok (.getfield 27, 3) := by decide +kernel
theorem d_Pt_isBelow_28 : decode b_Pt_isBelow 28 = .ok (.iload_n 1, 1) := by decide +kernel
theorem d_Pt_isBelow_29 : decode b_Pt_isBelow 29 = .ok (.invokevirtual 44, 3) := by decide +kernel
theorem d_Pt_isBelow_32 : decode b_Pt_isBelow 32 = .ok (.iload_n 3, 1) := by decide +kernel
theorem d_Pt_isBelow_33 : decode b_Pt_isBelow 33 = .ok (.if_icmp .ge 7, 3) := by decide +kernel
theorem d_Pt_isBelow_36 : decode b_Pt_isBelow 36 = .ok (.iconst 1, 1) := by decide +kernel
theorem d_Pt_isBelow_37 : decode b_Pt_isBelow 37 = .ok (.goto 4, 3) := by decide +kernel
theorem d_Pt_isBelow_40 : decode b_Pt_isBelow 40 = .ok (.iconst 0, 1) := by decide +kernel
theorem d_Pt_isBelow_41 : decode b_Pt_isBelow 41 = .ok (.ireturn, 1) := by decide +kernel
theorem d_Pt_greatestBelow_0 : decode b_Pt_greatestBelow 0 = .ok (.iconst (-1), 1) := by decide +kernel
theorem d_Pt_greatestBelow_1 : decode b_Pt_greatestBelow 1 = .ok (.istore_n 3, 1) := by decide +kernel
theorem d_Pt_greatestBelow_2 : decode b_Pt_greatestBelow 2 = .ok (.iconst 0, 1) := by decide +kernel
theorem d_Pt_greatestBelow_3 : decode b_Pt_greatestBelow 3 = .ok (.istore 4, 2) := by decide +kernel
theorem d_Pt_greatestBelow_5 : decode b_Pt_greatestBelow 5 = .ok (.iload 4, 2) := by decide +kernel
theorem d_Pt_greatestBelow_7 : decode b_Pt_greatestBelow 7 = .ok (.aload_n 0, 1) := by decide +kernel
theorem d_Pt_greatestBelow_8 : decode b_Pt_greatestBelow 8 = .ok (.getfield 15, 3) := by decide +kernel
theorem d_Pt_greatestBelow_11 : decode b_Pt_greatestBelow 11 = .ok (.if_icmp .ge 38, 3) := by decide +kernel
theorem d_Pt_greatestBelow_14 : decode b_Pt_greatestBelow 14 = .ok (.aload_n 0, 1) := by decide +kernel
theorem d_Pt_greatestBelow_15 : decode b_Pt_greatestBelow 15 = .ok (.iload 4, 2) := by decide +kernel
theorem d_Pt_greatestBelow_17 : decode b_Pt_greatestBelow 17 = .ok (.iload_n 1, 1) := by decide +kernel
theorem d_Pt_greatestBelow_18 : decode b_Pt_greatestBelow 18 = .ok (.iload_n 2, 1) := by decide +kernel
theorem d_Pt_greatestBelow_19 : decode b_Pt_greatestBelow 19 = .ok (.invokevirtual 60, 3) := by decide +kernel
theorem d_Pt_greatestBelow_22 : decode b_Pt_greatestBelow 22 = .ok (.ifCond .eq 21, 3) := by decide +kernel
theorem d_Pt_greatestBelow_25 : decode b_Pt_greatestBelow 25 = .ok (.iload_n 3, 1) := by decide +kernel
theorem d_Pt_greatestBelow_26 : decode b_Pt_greatestBelow 26 = .ok (.iconst (-1), 1) := by decide +kernel
theorem d_Pt_greatestBelow_27 : decode b_Pt_greatestBelow 27 = .ok (.if_icmp .eq 13, 3) := by decide +kernel
theorem d_Pt_greatestBelow_30 : decode b_Pt_greatestBelow 30 = .ok (.aload_n 0, 1) := by decide +kernel
theorem d_Pt_greatestBelow_31 : decode b_Pt_greatestBelow 31 = .ok (.iload_n 3, 1) := by decide +kernel
theorem d_Pt_greatestBelow_32 : decode b_Pt_greatestBelow 32 = .ok (.iload 4, 2) := by decide +kernel
theorem d_Pt_greatestBelow_34 : decode b_Pt_greatestBelow 34 = .ok (.invokevirtual 56, 3) := by decide +kernel
theorem d_Pt_greatestBelow_37 : decode b_Pt_greatestBelow 37 = .ok (.ifCond .eq 6, 3) := by decide +kernel
theorem d_Pt_greatestBelow_40 : decode b_Pt_greatestBelow 40 = .ok (.iload 4, 2) := by decide +kernel
theorem d_Pt_greatestBelow_42 : decode b_Pt_greatestBelow 42 = .ok (.istore_n 3, 1) := by decide +kernel
theorem d_Pt_greatestBelow_43 : decode b_Pt_greatestBelow 43 = .ok (.iinc 4 1, 3) := by decide +kernel
theorem d_Pt_greatestBelow_46 : decode b_Pt_greatestBelow 46 = .ok (.goto (-41), 3) := by decide +kernel
theorem d_Pt_greatestBelow_49 : decode b_Pt_greatestBelow 49 = .ok (.iload_n 3, 1) := by decide +kernel
theorem d_Pt_greatestBelow_50 : decode b_Pt_greatestBelow 50 = .ok (.ireturn, 1) := by decide +kernel
theorem d_Pt_isAbove_0 : decode b_Pt_isAbove 0 = .ok (.aload_n 0, 1) := by decide +kernel
theorem d_Pt_isAbove_1 : decode b_Pt_isAbove 1 = .ok (.getfield 23, 3) := by decide +kernel
theorem d_Pt_isAbove_4 : decode b_Pt_isAbove 4 = .ok (.iload_n 1, 1) := by decide +kernel
theorem d_Pt_isAbove_5 : decode b_Pt_isAbove 5 = .ok (.invokevirtual 44, 3) := by decide +kernel
theorem d_Pt_isAbove_8 : decode b_Pt_isAbove 8 = .ok (.iload_n 2, 1) := by decide +kernel
theorem d_Pt_isAbove_9 : decode b_Pt_isAbove 9 = .ok (.if_icmp .gt 27, 3) := by decide +kernel
theorem d_Pt_isAbove_12 : decode b_Pt_isAbove 12 = .ok (.aload_n 0, 1) := by decide +kernel
theorem d_Pt_isAbove_13 : decode b_Pt_isAbove 13 = .ok (.getfield 23, 3) := by decide +kernel
theorem d_Pt_isAbove_16 : decode b_Pt_isAbove 16 = .ok (.iload_n 1, 1) := by decide +kernel
theorem d_Pt_isAbove_17 : decode b_Pt_isAbove 17 = .ok (.invokevirtual 44, 3) := by decide +kernel
theorem d_Pt_isAbove_20 : decode b_Pt_isAbove 20 = .ok (.iload_n 2, 1) := by decide +kernel
theorem d_Pt_isAbove_21 : decode b_Pt_isAbove 21 = .ok (.if_icmp .ne 19, 3) := by decide +kernel
theorem d_Pt_isAbove_24 : decode b_Pt_isAbove 24 = .ok (.aload_n 0, 1) := by decide +kernel
theorem d_Pt_isAbove_25 : decode b_Pt_isAbove 25 = .ok (.getfield 27, 3) := by decide +kernel
theorem d_Pt_isAbove_28 : decode b_Pt_isAbove 28 = .ok (.iload_n 1, 1) := by decide +kernel
theorem d_Pt_isAbove_29 : decode b_Pt_isAbove 29 = .ok (.invokevirtual 44, 3) := by decide +kernel
theorem d_Pt_isAbove_32 : decode b_Pt_isAbove 32 = .ok (.iload_n 3, 1) := by decide +kernel
theorem d_Pt_isAbove_33 : decode b_Pt_isAbove 33 = .ok (.if_icmp .le 7, 3) := by decide +kernel
theorem d_Pt_isAbove_36 : decode b_Pt_isAbove 36 = .ok (.iconst 1, 1) := by decide +kernel
theorem d_Pt_isAbove_37 : decode b_Pt_isAbove 37 = .ok (.goto 4, 3) := by decide +kernel
theorem d_Pt_isAbove_40 : decode b_Pt_isAbove 40 = .ok (.iconst 0, 1) := by decide +kernel
theorem d_Pt_isAbove_41 : decode b_Pt_isAbove 41 = .ok (.ireturn, 1) := by decide +kernel
theorem d_Pt_leastAbove_0 : decode b_Pt_leastAbove 0 = .ok (.iconst (-1), 1) := by decide +kernel
theorem d_Pt_leastAbove_1 : decode b_Pt_leastAbove 1 = .ok (.istore_n 3, 1) := by decide +kernel
theorem d_Pt_leastAbove_2 : decode b_Pt_leastAbove 2 = .ok (.iconst 0, 1) := by decide +kernel
theorem d_Pt_leastAbove_3 : decode b_Pt_leastAbove 3 = .ok (.istore 4, 2) := by decide +kernel
theorem d_Pt_leastAbove_5 : decode b_Pt_leastAbove 5 = .ok (.iload 4, 2) := by decide +kernel
theorem d_Pt_leastAbove_7 : decode b_Pt_leastAbove 7 = .ok (.aload_n 0, 1) := by decide +kernel
theorem d_Pt_leastAbove_8 : decode b_Pt_leastAbove 8 = .ok (.getfield 15, 3) := by decide +kernel
theorem d_Pt_leastAbove_11 : decode b_Pt_leastAbove 11 = .ok (.if_icmp .ge 38, 3) := by decide +kernel
theorem d_Pt_leastAbove_14 : decode b_Pt_leastAbove 14 = .ok (.aload_n 0, 1) := by decide +kernel
theorem d_Pt_leastAbove_15 : decode b_Pt_leastAbove 15 = .ok (.iload 4, 2) := by decide +kernel
theorem d_Pt_leastAbove_17 : decode b_Pt_leastAbove 17 = .ok (.iload_n 1, 1) := by decide +kernel
theorem d_Pt_leastAbove_18 : decode b_Pt_leastAbove 18 = .ok (.iload_n 2, 1) := by decide +kernel
theorem d_Pt_leastAbove_19 : decode b_Pt_leastAbove 19 = .ok (.invokevirtual 52, 3) := by decide +kernel
theorem d_Pt_leastAbove_22 : decode b_Pt_leastAbove 22 = .ok (.ifCond .eq 21, 3) := by decide +kernel
theorem d_Pt_leastAbove_25 : decode b_Pt_leastAbove 25 = .ok (.iload_n 3, 1) := by decide +kernel
theorem d_Pt_leastAbove_26 : decode b_Pt_leastAbove 26 = .ok (.iconst (-1), 1) := by decide +kernel
theorem d_Pt_leastAbove_27 : decode b_Pt_leastAbove 27 = .ok (.if_icmp .eq 13, 3) := by decide +kernel
theorem d_Pt_leastAbove_30 : decode b_Pt_leastAbove 30 = .ok (.aload_n 0, 1) := by decide +kernel
theorem d_Pt_leastAbove_31 : decode b_Pt_leastAbove 31 = .ok (.iload 4, 2) := by decide +kernel
theorem d_Pt_leastAbove_33 : decode b_Pt_leastAbove 33 = .ok (.iload_n 3, 1) := by decide +kernel
theorem d_Pt_leastAbove_34 : decode b_Pt_leastAbove 34 = .ok (.invokevirtual 56, 3) := by decide +kernel
theorem d_Pt_leastAbove_37 : decode b_Pt_leastAbove 37 = .ok (.ifCond .eq 6, 3) := by decide +kernel
theorem d_Pt_leastAbove_40 : decode b_Pt_leastAbove 40 = .ok (.iload 4, 2) := by decide +kernel
theorem d_Pt_leastAbove_42 : decode b_Pt_leastAbove 42 = .ok (.istore_n 3, 1) := by decide +kernel
theorem d_Pt_leastAbove_43 : decode b_Pt_leastAbove 43 = .ok (.iinc 4 1, 3) := by decide +kernel
theorem d_Pt_leastAbove_46 : decode b_Pt_leastAbove 46 = .ok (.goto (-41), 3) := by decide +kernel
theorem d_Pt_leastAbove_49 : decode b_Pt_leastAbove 49 = .ok (.iload_n 3, 1) := by decide +kernel
theorem d_Pt_leastAbove_50 : decode b_Pt_leastAbove 50 = .ok (.ireturn, 1) := by decide +kernel
theorem d_Pn_neighbourCount_0 : decode b_Pn_neighbourCount 0 = .ok (.aload_n 0, 1) := by decide +kernel
theorem d_Pn_neighbourCount_1 : decode b_Pn_neighbourCount 1 = .ok (.getfield 32, 3) := by decide +kernel
theorem d_Pn_neighbourCount_4 : decode b_Pn_neighbourCount 4 = .ok (.invokevirtual 102, 3) := by decide +kernel
theorem d_Pn_neighbourCount_7 : decode b_Pn_neighbourCount 7 = .ok (.ifCond .ne 12, 3) := by decide +kernel
theorem d_Pn_neighbourCount_10 : decode b_Pn_neighbourCount 10 = .ok (.aload_n 0, 1) := by decide +kernel
theorem d_Pn_neighbourCount_11 : decode b_Pn_neighbourCount 11 = .ok (.getfield 32, 3) := by decide +kernel
theorem d_Pn_neighbourCount_14 : decode b_Pn_neighbourCount 14 = .ok (.iload_n 1, 1) := by decide +kernel
theorem d_Pn_neighbourCount_15 : decode b_Pn_neighbourCount 15 = .ok (.invokevirtual 216, 3) := by decide +kernel
theorem d_Pn_neighbourCount_18 : decode b_Pn_neighbourCount 18 = .ok (.ireturn, 1) := by decide +kernel
theorem d_Pn_neighbourCount_19 : decode b_Pn_neighbourCount 19 = .ok (.aload_n 0, 1) := by decide +kernel
theorem d_Pn_neighbourCount_20 : decode b_Pn_neighbourCount 20 = .ok (.getfield 23, 3) := by decide +kernel
theorem d_Pn_neighbourCount_23 : decode b_Pn_neighbourCount 23 = .ok (.aload_n 0, 1) := by decide +kernel
theorem d_Pn_neighbourCount_24 : decode b_Pn_neighbourCount 24 = .ok (.getfield 23, 3) := by decide +kernel
theorem d_Pn_neighbourCount_27 : decode b_Pn_neighbourCount 27 = .ok (.iload_n 1, 1) := by decide +kernel
theorem d_Pn_neighbourCount_28 : decode b_Pn_neighbourCount 28 = .ok (.invokevirtual 175, 3) := by decide +kernel
theorem d_Pn_neighbourCount_31 : decode b_Pn_neighbourCount 31 = .ok (.aload_n 0, 1) := by decide +kernel
theorem d_Pn_neighbourCount_32 : decode b_Pn_neighbourCount 32 = .ok (.getfield 23, 3) := by decide +kernel
theorem d_Pn_neighbourCount_35 : decode b_Pn_neighbourCount 35 = .ok (.iload_n 1, 1) := by decide +kernel
theorem d_Pn_neighbourCount_36 : decode b_Pn_neighbourCount 36 = .ok (.invokevirtual 178, 3) := by decide +kernel
theorem d_Pn_neighbourCount_39 : decode b_Pn_neighbourCount 39 = .ok (.invokevirtual 219, 3) := by decide +kernel
theorem d_Pn_neighbourCount_42 : decode b_Pn_neighbourCount 42 = .ok (.iconst (-1), 1) := by decide +kernel
theorem d_Pn_neighbourCount_43 : decode b_Pn_neighbourCount 43 = .ok (.if_icmp .ne 7, 3) := by decide +kernel
theorem d_Pn_neighbourCount_46 : decode b_Pn_neighbourCount 46 = .ok (.iconst 0, 1) := by decide +kernel
theorem d_Pn_neighbourCount_47 : decode b_Pn_neighbourCount 47 = .ok (.goto 4, 3) := by decide +kernel
theorem d_Pn_neighbourCount_50 : decode b_Pn_neighbourCount 50 = .ok (.iconst 1, 1) := by decide +kernel
theorem d_Pn_neighbourCount_51 : decode b_Pn_neighbourCount 51 = .ok (.istore_n 2, 1) := by decide +kernel
theorem d_Pn_neighbourCount_52 : decode b_Pn_neighbourCount 52 = .ok (.aload_n 0, 1) := by decide +kernel
theorem d_Pn_neighbourCount_53 : decode b_Pn_neighbourCount 53 = .ok (.getfield 23, 3) := by decide +kernel
theorem d_Pn_neighbourCount_56 : decode b_Pn_neighbourCount 56 = .ok (.aload_n 0, 1) := by decide +kernel
theorem d_Pn_neighbourCount_57 : decode b_Pn_neighbourCount 57 = .ok (.getfield 23, 3) := by decide +kernel
theorem d_Pn_neighbourCount_60 : decode b_Pn_neighbourCount 60 = .ok (.iload_n 1, 1) := by decide +kernel
theorem d_Pn_neighbourCount_61 : decode b_Pn_neighbourCount 61 = .ok (.invokevirtual 175, 3) := by decide +kernel
theorem d_Pn_neighbourCount_64 : decode b_Pn_neighbourCount 64 = .ok (.aload_n 0, 1) := by decide +kernel
theorem d_Pn_neighbourCount_65 : decode b_Pn_neighbourCount 65 = .ok (.getfield 23, 3) := by decide +kernel
theorem d_Pn_neighbourCount_68 : decode b_Pn_neighbourCount 68 = .ok (.iload_n 1, 1) := by decide +kernel
theorem d_Pn_neighbourCount_69 : decode b_Pn_neighbourCount 69 = .ok (.invokevirtual 178, 3) := by decide +kernel
theorem d_Pn_neighbourCount_72 : decode b_Pn_neighbourCount 72 = .ok (.invokevirtual 222, 3) := by decide +kernel
theorem d_Pn_neighbourCount_75 : decode b_Pn_neighbourCount 75 = .ok (.iconst (-1), 1) := by decide +kernel
theorem d_Pn_neighbourCount_76 : decode b_Pn_neighbourCount 76 = .ok (.if_icmp .ne 7, 3) := by decide +kernel
theorem d_Pn_neighbourCount_79 : decode b_Pn_neighbourCount 79 = .ok (.iload_n 2, 1) := by decide +kernel
theorem d_Pn_neighbourCount_80 : decode b_Pn_neighbourCount 80 = .ok (.goto 6, 3) := by decide +kernel
theorem d_Pn_neighbourCount_83 : decode b_Pn_neighbourCount 83 = .ok (.iload_n 2, 1) := by decide +kernel
theorem d_Pn_neighbourCount_84 : decode b_Pn_neighbourCount 84 = .ok (.iconst 1, 1) := by decide +kernel
theorem d_Pn_neighbourCount_85 : decode b_Pn_neighbourCount 85 = .ok (.iadd, 1) := by decide +kernel
theorem d_Pn_neighbourCount_86 : decode b_Pn_neighbourCount 86 = .ok (.ireturn, 1) := by decide +kernel
theorem d_Pn_neighbours_0 : decode b_Pn_neighbours 0 = .ok (.aload_n 0, 1) := by decide +kernel
theorem d_Pn_neighbours_1 : decode b_Pn_neighbours 1 = .ok (.iload_n 1, 1) := by decide +kernel
theorem d_Pn_neighbours_2 : decode b_Pn_neighbours 2 = .ok (.invokevirtual 136, 3) := by decide +kernel
theorem d_Pn_neighbours_5 : decode b_Pn_neighbours 5 = .ok (.aload_n 0, 1) := by decide +kernel
theorem d_Pn_neighbours_6 : decode b_Pn_neighbours 6 = .ok (.iload_n 1, 1) := by decide +kernel
theorem d_Pn_neighbours_7 : decode b_Pn_neighbours 7 = .ok (.invokevirtual 139, 3) := by decide +kernel
theorem d_Pn_neighbours_10 : decode b_Pn_neighbours 10 = .ok (.ireturn, 1) := by decide +kernel
theorem d_Pn_neighbourOnLine_0 : decode b_Pn_neighbourOnLine 0 = .ok (.aload_n 0, 1) := by decide +kernel
theorem d_Pn_neighbourOnLine_1 : decode b_Pn_neighbourOnLine 1 = .ok (.getfield 23, 3) := by decide +kernel
theorem d_Pn_neighbourOnLine_4 : decode b_Pn_neighbourOnLine 4 = .ok (.aload_n 0, 1) := by decide +kernel
theorem d_Pn_neighbourOnLine_5 : decode b_Pn_neighbourOnLine 5 = .ok (.getfield 23, 3) := by decide +kernel
theorem d_Pn_neighbourOnLine_8 : decode b_Pn_neighbourOnLine 8 = .ok (.iload_n 1, 1) := by decide +kernel
theorem d_Pn_neighbourOnLine_9 : decode b_Pn_neighbourOnLine 9 = .ok (.invokevirtual 175, 3) := by decide +kernel
theorem d_Pn_neighbourOnLine_12 : decode b_Pn_neighbourOnLine 12 = .ok (.aload_n 0, 1) := by decide +kernel
theorem d_Pn_neighbourOnLine_13 : decode b_Pn_neighbourOnLine 13 = .ok (.getfield 23, 3) := by decide +kernel
theorem d_Pn_neighbourOnLine_16 : decode b_Pn_neighbourOnLine 16 = .ok (.iload_n 1, 1) := by decide +kernel
theorem d_Pn_neighbourOnLine_17 : decode b_Pn_neighbourOnLine 17 = .ok (.invokevirtual 178, 3) := by decide +kernel
theorem d_Pn_neighbourOnLine_20 : decode b_Pn_neighbourOnLine 20 = .ok (.invokevirtual 219, 3) := by decide +kernel
theorem d_Pn_neighbourOnLine_23 : decode b_Pn_neighbourOnLine 23 = .ok (.istore_n 3, 1) := by decide +kernel
theorem d_Pn_neighbourOnLine_24 : decode b_Pn_neighbourOnLine 24 = .ok (.aload_n 0, 1) := by decide +kernel
theorem d_Pn_neighbourOnLine_25 : decode b_Pn_neighbourOnLine 25 = .ok (.getfield 23, 3) := by decide +kernel
theorem d_Pn_neighbourOnLine_28 : decode b_Pn_neighbourOnLine 28 = .ok (.aload_n 0, 1) := by decide +kernel
theorem d_Pn_neighbourOnLine_29 : decode b_Pn_neighbourOnLine 29 = .ok (.getfield 23, 3) := by decide +kernel
theorem d_Pn_neighbourOnLine_32 : decode b_Pn_neighbourOnLine 32 = .ok (.iload_n 1, 1) := by decide +kernel
theorem d_Pn_neighbourOnLine_33 : decode b_Pn_neighbourOnLine 33 = .ok (.invokevirtual 175, 3) := by decide +kernel
theorem d_Pn_neighbourOnLine_36 : decode b_Pn_neighbourOnLine 36 = .ok (.aload_n 0, 1) := by decide +kernel
theorem d_Pn_neighbourOnLine_37 : decode b_Pn_neighbourOnLine 37 = .ok (.getfield 23, 3) := by decide +kernel
theorem d_Pn_neighbourOnLine_40 : decode b_Pn_neighbourOnLine 40 = .ok (.iload_n 1, 1) := by decide +kernel
theorem d_Pn_neighbourOnLine_41 : decode b_Pn_neighbourOnLine 41 = .ok (.invokevirtual 178, 3) := by decide +kernel
theorem d_Pn_neighbourOnLine_44 : decode b_Pn_neighbourOnLine 44 = .ok (.invokevirtual 222, 3) := by decide +kernel
theorem d_Pn_neighbourOnLine_47 : decode b_Pn_neighbourOnLine 47 = .ok (.istore 4, 2) := by decide +kernel
theorem d_Pn_neighbourOnLine_49 : decode b_Pn_neighbourOnLine 49 = .ok (.iload_n 3, 1) := by decide +kernel
theorem d_Pn_neighbourOnLine_50 : decode b_Pn_neighbourOnLine 50 = .ok (.iconst (-1), 1) := by decide +kernel
theorem d_Pn_neighbourOnLine_51 : decode b_Pn_neighbourOnLine 51 = .ok (.if_icmp .eq 9, 3) := by decide +kernel
theorem d_Pn_neighbourOnLine_54 : decode b_Pn_neighbourOnLine 54 = .ok (.iload 4, 2) := by decide +kernel
theorem d_Pn_neighbourOnLine_56 : decode b_Pn_neighbourOnLine 56 = .ok (.iconst (-1), 1) := by decide +kernel
theorem d_Pn_neighbourOnLine_57 : decode b_Pn_neighbourOnLine 57 = .ok (.if_icmp .ne 10, 3) := by decide +kernel
theorem d_Pn_neighbourOnLine_60 : decode b_Pn_neighbourOnLine 60 = .ok (.iload_n 3, 1) := by decide +kernel
theorem d_Pn_neighbourOnLine_61 : decode b_Pn_neighbourOnLine 61 = .ok (.iload 4, 2) := by decide +kernel
theorem d_Pn_neighbourOnLine_63 : decode b_Pn_neighbourOnLine 63 = .ok (.invokestatic 17, 3) := by decide +kernel
theorem d_Pn_neighbourOnLine_66 : decode b_Pn_neighbourOnLine 66 = .ok (.ireturn, 1) := by decide +kernel
theorem d_Pn_neighbourOnLine_67 : decode b_Pn_neighbourOnLine 67 = .ok (.iload_n 2, 1) := by decide +kernel
theorem d_Pn_neighbourOnLine_68 : decode b_Pn_neighbourOnLine 68 = .ok (.ifCond .ne 12, 3) := by decide +kernel
theorem d_Pn_neighbourOnLine_71 : decode b_Pn_neighbourOnLine 71 = .ok (.iload_n 3, 1) := by decide +kernel
theorem d_Pn_neighbourOnLine_72 : decode b_Pn_neighbourOnLine 72 = .ok (.iload 4, 2) := by decide +kernel
theorem d_Pn_neighbourOnLine_74 : decode b_Pn_neighbourOnLine 74 = .ok (.invokestatic 11, 3) := by decide +kernel
theorem d_Pn_neighbourOnLine_77 : decode b_Pn_neighbourOnLine 77 = .ok (.goto 9, 3) := by decide +kernel
theorem d_Pn_neighbourOnLine_80 : decode b_Pn_neighbourOnLine 80 = .ok (.iload_n 3, 1) := by decide +kernel
theorem d_Pn_neighbourOnLine_81 : decode b_Pn_neighbourOnLine 81 = .ok (.iload 4, 2) := by decide +kernel
theorem d_Pn_neighbourOnLine_83 : decode b_Pn_neighbourOnLine 83 = .ok (.invokestatic 17, 3) := by decide +kernel
theorem d_Pn_neighbourOnLine_86 : decode b_Pn_neighbourOnLine 86 = .ok (.ireturn, 1) := by decide +kernel
theorem d_Nt_lowestFrom_0 : decode b_Nt_lowestFrom 0 = .ok (.aload_n 0, 1) := by decide +kernel
theorem d_Nt_lowestFrom_1 : decode b_Nt_lowestFrom 1 = .ok (.getfield 36, 3) := by decide +kernel
theorem d_Nt_lowestFrom_4 : decode b_Nt_lowestFrom 4 = .ok (.aload_n 0, 1) := by decide +kernel
theorem d_Nt_lowestFrom_5 : decode b_Nt_lowestFrom 5 = .ok (.iload_n 1, 1) := by decide +kernel
theorem d_Nt_lowestFrom_6 : decode b_Nt_lowestFrom 6 = .ok (.invokevirtual 85, 3) := by decide +kernel
theorem d_Nt_lowestFrom_9 : decode b_Nt_lowestFrom 9 = .ok (.invokevirtual 63, 3) := by decide +kernel
theorem d_Nt_lowestFrom_12 : decode b_Nt_lowestFrom 12 = .ok (.istore_n 2, 1) := by decide +kernel
theorem d_Nt_lowestFrom_13 : decode b_Nt_lowestFrom 13 = .ok (.iload_n 2, 1) := by decide +kernel
theorem d_Nt_lowestFrom_14 : decode b_Nt_lowestFrom 14 = .ok (.istore_n 3, 1) := by decide +kernel
theorem d_Nt_lowestFrom_15 : decode b_Nt_lowestFrom 15 = .ok (.iload_n 2, 1) := by decide +kernel
theorem d_Nt_lowestFrom_16 : decode b_Nt_lowestFrom 16 = .ok (.istore 4, 2) := by decide +kernel
theorem d_Nt_lowestFrom_18 : decode b_Nt_lowestFrom 18 = .ok (.iconst 0, 1) := by decide +kernel
theorem d_Nt_lowestFrom_19 : decode b_Nt_lowestFrom 19 = .ok (.istore 5, 2) := by decide +kernel
theorem d_Nt_lowestFrom_21 : decode b_Nt_lowestFrom 21 = .ok (.iload 5, 2) := by decide +kernel
theorem d_Nt_lowestFrom_23 : decode b_Nt_lowestFrom 23 = .ok (.aload_n 0, 1) := by decide +kernel
theorem d_Nt_lowestFrom_24 : decode b_Nt_lowestFrom 24 = .ok (.getfield 21, 3) := by decide +kernel
theorem d_Nt_lowestFrom_27 : decode b_Nt_lowestFrom 27 = .ok (.if_icmp .gt 43, 3) := by decide +kernel
theorem d_Nt_lowestFrom_30 : decode b_Nt_lowestFrom 30 = .ok (.aload_n 0, 1) := by decide +kernel
theorem d_Nt_lowestFrom_31 : decode b_Nt_lowestFrom 31 = .ok (.iload 4, 2) := by decide +kernel
theorem d_Nt_lowestFrom_33 : decode b_Nt_lowestFrom 33 = .ok (.invokevirtual 118, 3) := by decide +kernel
theorem d_Nt_lowestFrom_36 : decode b_Nt_lowestFrom 36 = .ok (.aload_n 0, 1) := by decide +kernel
theorem d_Nt_lowestFrom_37 : decode b_Nt_lowestFrom 37 = .ok (.iload_n 3, 1) := by decide +kernel
theorem d_Nt_lowestFrom_38 : decode b_Nt_lowestFrom 38 = .ok (.invokevirtual 118, 3) := by decide +kernel
theorem d_Nt_lowestFrom_41 : decode b_Nt_lowestFrom 41 = .ok (.if_icmp .ge 6, 3) := by decide +kernel
theorem d_Nt_lowestFrom_44 : decode b_Nt_lowestFrom 44 = .ok (.iload 4, 2) := by decide +kernel
theorem d_Nt_lowestFrom_46 : decode b_Nt_lowestFrom 46 = .ok (.istore_n 3, 1) := by decide +kernel
theorem d_Nt_lowestFrom_47 : decode b_Nt_lowestFrom 47 = .ok (.aload_n 0, 1) := by decide +kernel
theorem d_Nt_lowestFrom_48 : decode b_Nt_lowestFrom 48 = .ok (.iload 4, 2) := by decide +kernel
theorem d_Nt_lowestFrom_50 : decode b_Nt_lowestFrom 50 = .ok (.invokevirtual 138, 3) := by decide +kernel
theorem d_Nt_lowestFrom_53 : decode b_Nt_lowestFrom 53 = .ok (.istore 4, 2) := by decide +kernel
theorem d_Nt_lowestFrom_55 : decode b_Nt_lowestFrom 55 = .ok (.iload 4, 2) := by decide +kernel
theorem d_Nt_lowestFrom_57 : decode b_Nt_lowestFrom 57 = .ok (.iload_n 2, 1) := by decide +kernel
theorem d_Nt_lowestFrom_58 : decode b_Nt_lowestFrom 58 = .ok (.if_icmp .ne 6, 3) := by decide +kernel
theorem d_Nt_lowestFrom_61 : decode b_Nt_lowestFrom 61 = .ok (.goto 9, 3) := by decide +kernel
theorem d_Nt_lowestFrom_64 : decode b_Nt_lowestFrom 64 = .ok (.iinc 5 1, 3) := by decide +kernel
theorem d_Nt_lowestFrom_67 : decode b_Nt_lowestFrom 67 = .ok (.goto (-46), 3) := by decide +kernel
theorem d_Nt_lowestFrom_70 : decode b_Nt_lowestFrom 70 = .ok (.iload_n 3, 1) := by decide +kernel
theorem d_Nt_lowestFrom_71 : decode b_Nt_lowestFrom 71 = .ok (.ireturn, 1) := by decide +kernel
theorem d_Nt_leftRound_0 : decode b_Nt_leftRound 0 = .ok (.aload_n 0, 1) := by decide +kernel
theorem d_Nt_leftRound_1 : decode b_Nt_leftRound 1 = .ok (.iload_n 1, 1) := by decide +kernel
theorem d_Nt_leftRound_2 : decode b_Nt_leftRound 2 = .ok (.invokevirtual 141, 3) := by decide +kernel
theorem d_Nt_leftRound_5 : decode b_Nt_leftRound 5 = .ok (.istore_n 3, 1) := by decide +kernel
theorem d_Nt_leftRound_6 : decode b_Nt_leftRound 6 = .ok (.iload_n 2, 1) := by decide +kernel
theorem d_Nt_leftRound_7 : decode b_Nt_leftRound 7 = .ok (.istore 4, 2) := by decide +kernel
theorem d_Nt_leftRound_9 : decode b_Nt_leftRound 9 = .ok (.iconst 0, 1) := by decide +kernel
theorem d_Nt_leftRound_10 : decode b_Nt_leftRound 10 = .ok (.istore 5, 2) := by decide +kernel
theorem d_Nt_leftRound_12 : decode b_Nt_leftRound 12 = .ok (.iload 5, 2) := by decide +kernel
theorem d_Nt_leftRound_14 : decode b_Nt_leftRound 14 = .ok (.aload_n 0, 1) := by decide +kernel
theorem d_Nt_leftRound_15 : decode b_Nt_leftRound 15 = .ok (.getfield 21, 3) := by decide +kernel
theorem d_Nt_leftRound_18 : decode b_Nt_leftRound 18 = .ok (.if_icmp .gt 35, 3) := by decide +kernel
theorem d_Nt_leftRound_21 : decode b_Nt_leftRound 21 = .ok (.iload 4, 2) := by decide +kernel
theorem d_Nt_leftRound_23 : decode b_Nt_leftRound 23 = .ok (.ifCond .le 30, 3) := by decide +kernel
theorem d_Nt_leftRound_26 : decode b_Nt_leftRound 26 = .ok (.aload_n 0, 1) := by decide +kernel
theorem d_Nt_leftRound_27 : decode b_Nt_leftRound 27 = .ok (.iload_n 3, 1) := by decide +kernel
theorem d_Nt_leftRound_28 : decode b_Nt_leftRound 28 = .ok (.invokevirtual 138, 3) := by decide +kernel
theorem d_Nt_leftRound_31 : decode b_Nt_leftRound 31 = .ok (.istore_n 3, 1) := by decide +kernel
theorem d_Nt_leftRound_32 : decode b_Nt_leftRound 32 = .ok (.aload_n 0, 1) := by decide +kernel
theorem d_Nt_leftRound_33 : decode b_Nt_leftRound 33 = .ok (.iload_n 3, 1) := by decide +kernel
theorem d_Nt_leftRound_34 : decode b_Nt_leftRound 34 = .ok (.invokevirtual 118, 3) := by decide +kernel
theorem d_Nt_leftRound_37 : decode b_Nt_leftRound 37 = .ok (.aload_n 0, 1) := by decide +kernel
theorem d_Nt_leftRound_38 : decode b_Nt_leftRound 38 = .ok (.getfield 21, 3) := by decide +kernel
theorem d_Nt_leftRound_41 : decode b_Nt_leftRound 41 = .ok (.if_icmp .eq 6, 3) := by decide +kernel
theorem d_Nt_leftRound_44 : decode b_Nt_leftRound 44 = .ok (.iinc 4 (-1), 3) := by decide +kernel
theorem d_Nt_leftRound_47 : decode b_Nt_leftRound 47 = .ok (.iinc 5 1, 3) := by decide +kernel
theorem d_Nt_leftRound_50 : decode b_Nt_leftRound 50 = .ok (.goto (-38), 3) := by decide +kernel
theorem d_Nt_leftRound_53 : decode b_Nt_leftRound 53 = .ok (.aload_n 0, 1) := by decide +kernel
theorem d_Nt_leftRound_54 : decode b_Nt_leftRound 54 = .ok (.iload_n 3, 1) := by decide +kernel
theorem d_Nt_leftRound_55 : decode b_Nt_leftRound 55 = .ok (.invokevirtual 118, 3) := by decide +kernel
theorem d_Nt_leftRound_58 : decode b_Nt_leftRound 58 = .ok (.ireturn, 1) := by decide +kernel
theorem d_Pn_neighbour_0 : decode b_Pn_neighbour 0 = .ok (.aload_n 0, 1) := by decide +kernel
theorem d_Pn_neighbour_1 : decode b_Pn_neighbour 1 = .ok (.iload_n 1, 1) := by decide +kernel
theorem d_Pn_neighbour_2 : decode b_Pn_neighbour 2 = .ok (.invokevirtual 136, 3) := by decide +kernel
theorem d_Pn_neighbour_5 : decode b_Pn_neighbour 5 = .ok (.iload_n 2, 1) := by decide +kernel
theorem d_Pn_neighbour_6 : decode b_Pn_neighbour 6 = .ok (.ifCond .lt 12, 3) := by decide +kernel
theorem d_Pn_neighbour_9 : decode b_Pn_neighbour 9 = .ok (.iload_n 2, 1) := by decide +kernel
theorem d_Pn_neighbour_10 : decode b_Pn_neighbour 10 = .ok (.aload_n 0, 1) := by decide +kernel
theorem d_Pn_neighbour_11 : decode b_Pn_neighbour 11 = .ok (.iload_n 1, 1) := by decide +kernel
theorem d_Pn_neighbour_12 : decode b_Pn_neighbour 12 = .ok (.invokevirtual 139, 3) := by decide +kernel
theorem d_Pn_neighbour_15 : decode b_Pn_neighbour 15 = .ok (.if_icmp .lt 13, 3) := by decide +kernel
theorem d_Pn_neighbour_18 : decode b_Pn_neighbour 18 = .ok (.new 121, 3) := by decide +kernel
theorem d_Pn_neighbour_21 : decode b_Pn_neighbour 21 = .ok (.dup, 1) := by decide +kernel
theorem d_Pn_neighbour_22 : decode b_Pn_neighbour 22 = .ok (.ldc 142, 2) := by decide +kernel
theorem d_Pn_neighbour_24 : decode b_Pn_neighbour 24 = .ok (.invokespecial 125, 3) := by decide +kernel
theorem d_Pn_neighbour_27 : decode b_Pn_neighbour 27 = .ok (.athrow, 1) := by decide +kernel
theorem d_Pn_neighbour_28 : decode b_Pn_neighbour 28 = .ok (.aload_n 0, 1) := by decide +kernel
theorem d_Pn_neighbour_29 : decode b_Pn_neighbour 29 = .ok (.getfield 32, 3) := by decide +kernel
theorem d_Pn_neighbour_32 : decode b_Pn_neighbour 32 = .ok (.invokevirtual 102, 3) := by decide +kernel
theorem d_Pn_neighbour_35 : decode b_Pn_neighbour 35 = .ok (.ifCond .eq 12, 3) := by decide +kernel
theorem d_Pn_neighbour_38 : decode b_Pn_neighbour 38 = .ok (.aload_n 0, 1) := by decide +kernel
theorem d_Pn_neighbour_39 : decode b_Pn_neighbour 39 = .ok (.iload_n 1, 1) := by decide +kernel
theorem d_Pn_neighbour_40 : decode b_Pn_neighbour 40 = .ok (.iload_n 2, 1) := by decide +kernel
theorem d_Pn_neighbour_41 : decode b_Pn_neighbour 41 = .ok (.invokevirtual 144, 3) := by decide +kernel
theorem d_Pn_neighbour_44 : decode b_Pn_neighbour 44 = .ok (.goto 12, 3) := by decide +kernel
theorem d_Pn_neighbour_47 : decode b_Pn_neighbour 47 = .ok (.aload_n 0, 1) := by decide +kernel
theorem d_Pn_neighbour_48 : decode b_Pn_neighbour 48 = .ok (.getfield 32, 3) := by decide +kernel
theorem d_Pn_neighbour_51 : decode b_Pn_neighbour 51 = .ok (.iload_n 1, 1) := by decide +kernel
theorem d_Pn_neighbour_52 : decode b_Pn_neighbour 52 = .ok (.iload_n 2, 1) := by decide +kernel
theorem d_Pn_neighbour_53 : decode b_Pn_neighbour 53 = .ok (.invokevirtual 147, 3) := by decide +kernel
theorem d_Pn_neighbour_56 : decode b_Pn_neighbour 56 = .ok (.ireturn, 1) := by decide +kernel
theorem d_Ol_put_0 : decode b_Ol_put 0 = .ok (.aload_n 0, 1) := by decide +kernel
theorem d_Ol_put_1 : decode b_Ol_put 1 = .ok (.getfield 30, 3) := by decide +kernel
theorem d_Ol_put_4 : decode b_Ol_put 4 = .ok (.aload_n 0, 1) := by decide +kernel
theorem d_Ol_put_5 : decode b_Ol_put 5 = .ok (.getfield 34, 3) := by decide +kernel
theorem d_Ol_put_8 : decode b_Ol_put 8 = .ok (.iload_n 1, 1) := by decide +kernel
theorem d_Ol_put_9 : decode b_Ol_put 9 = .ok (.invokevirtual 99, 3) := by decide +kernel
theorem d_Ol_put_12 : decode b_Ol_put 12 = .ok (.aload_n 0, 1) := by decide +kernel
theorem d_Ol_put_13 : decode b_Ol_put 13 = .ok (.dup, 1) := by decide +kernel
theorem d_Ol_put_14 : decode b_Ol_put 14 = .ok (.getfield 34, 3) := by decide +kernel
theorem d_Ol_put_17 : decode b_Ol_put 17 = .ok (.iconst 1, 1) := by decide +kernel
theorem d_Ol_put_18 : decode b_Ol_put 18 = .ok (.iadd, 1) := by decide +kernel
theorem d_Ol_put_19 : decode b_Ol_put 19 = .ok (.putfield 34, 3) := by decide +kernel
theorem d_Ol_put_22 : decode b_Ol_put 22 = .ok (.return_, 1) := by decide +kernel
theorem d_Ol_drawLine_0 : decode b_Ol_drawLine 0 = .ok (.aload_n 0, 1) := by decide +kernel
theorem d_Ol_drawLine_1 : decode b_Ol_drawLine 1 = .ok (.getfield 9, 3) := by decide +kernel
theorem d_Ol_drawLine_4 : decode b_Ol_drawLine 4 = .ok (.ldc 63, 2) := by decide +kernel
theorem d_Ol_drawLine_6 : decode b_Ol_drawLine 6 = .ok (.iconst 0, 1) := by decide +kernel
theorem d_Ol_drawLine_7 : decode b_Ol_drawLine 7 = .ok (.invokevirtual 64, 3) := by decide +kernel
theorem d_Ol_drawLine_10 : decode b_Ol_drawLine 10 = .ok (.istore_n 1, 1) := by decide +kernel
theorem d_Ol_drawLine_11 : decode b_Ol_drawLine 11 = .ok (.aload_n 0, 1) := by decide +kernel
theorem d_Ol_drawLine_12 : decode b_Ol_drawLine 12 = .ok (.getfield 9, 3) := by decide +kernel
theorem d_Ol_drawLine_15 : decode b_Ol_drawLine 15 = .ok (.ldc 68, 2) := by decide +kernel
theorem d_Ol_drawLine_17 : decode b_Ol_drawLine 17 = .ok (.iconst 0, 1) := by decide +kernel
theorem d_Ol_drawLine_18 : decode b_Ol_drawLine 18 = .ok (.invokevirtual 69, 3) := by decide +kernel
theorem d_Ol_drawLine_21 : decode b_Ol_drawLine 21 = .ok (.istore_n 2, 1) := by decide +kernel
theorem d_Ol_drawLine_22 : decode b_Ol_drawLine 22 = .ok (.iload_n 1, 1) := by decide +kernel
theorem d_Ol_drawLine_23 : decode b_Ol_drawLine 23 = .ok (.iconst (-1), 1) := by decide +kernel
theorem d_Ol_drawLine_24 : decode b_Ol_drawLine 24 = .ok (.if_icmp .eq 8, 3) := by decide +kernel
theorem d_Ol_drawLine_27 : decode b_Ol_drawLine 27 = .ok (.aload_n 0, 1) := by decide +kernel
theorem d_Ol_drawLine_28 : decode b_Ol_drawLine 28 = .ok (.iload_n 1, 1) := by decide +kernel
theorem d_Ol_drawLine_29 : decode b_Ol_drawLine 29 = .ok (.invokevirtual 72, 3) := by decide +kernel
theorem d_Ol_drawLine_32 : decode b_Ol_drawLine 32 = .ok (.iload_n 2, 1) := by decide +kernel
theorem d_Ol_drawLine_33 : decode b_Ol_drawLine 33 = .ok (.iload_n 1, 1) := by decide +kernel
theorem d_Ol_drawLine_34 : decode b_Ol_drawLine 34 = .ok (.if_icmp .eq 8, 3) := by decide +kernel
theorem d_Ol_drawLine_37 : decode b_Ol_drawLine 37 = .ok (.aload_n 0, 1) := by decide +kernel
theorem d_Ol_drawLine_38 : decode b_Ol_drawLine 38 = .ok (.iload_n 2, 1) := by decide +kernel
theorem d_Ol_drawLine_39 : decode b_Ol_drawLine 39 = .ok (.invokevirtual 72, 3) := by decide +kernel
theorem d_Ol_drawLine_42 : decode b_Ol_drawLine 42 = .ok (.return_, 1) := by decide +kernel
theorem d_Nt_wayToGhost_0 : decode b_Nt_wayToGhost 0 = .ok (.aload_n 0, 1) := by decide +kernel
theorem d_Nt_wayToGhost_1 : decode b_Nt_wayToGhost 1 = .ok (.getfield 36, 3) := by decide +kernel
theorem d_Nt_wayToGhost_4 : decode b_Nt_wayToGhost 4 = .ok (.aload_n 0, 1) := by decide +kernel
theorem d_Nt_wayToGhost_5 : decode b_Nt_wayToGhost 5 = .ok (.iload_n 1, 1) := by decide +kernel
theorem d_Nt_wayToGhost_6 : decode b_Nt_wayToGhost 6 = .ok (.invokevirtual 85, 3) := by decide +kernel
theorem d_Nt_wayToGhost_9 : decode b_Nt_wayToGhost 9 = .ok (.invokevirtual 63, 3) := by decide +kernel
theorem d_Nt_wayToGhost_12 : decode b_Nt_wayToGhost 12 = .ok (.istore_n 2, 1) := by decide +kernel
theorem d_Nt_wayToGhost_13 : decode b_Nt_wayToGhost 13 = .ok (.iconst 0, 1) := by decide +kernel
theorem d_Nt_wayToGhost_14 : decode b_Nt_wayToGhost 14 = .ok (.istore_n 3, 1) := by decide +kernel
theorem d_Nt_wayToGhost_15 : decode b_Nt_wayToGhost 15 = .ok (.iload_n 3, 1) := by decide +kernel
theorem d_Nt_wayToGhost_16 : decode b_Nt_wayToGhost 16 = .ok (.aload_n 0, 1) := by decide +kernel
theorem d_Nt_wayToGhost_17 : decode b_Nt_wayToGhost 17 = .ok (.getfield 21, 3) := by decide +kernel
theorem d_Nt_wayToGhost_20 : decode b_Nt_wayToGhost 20 = .ok (.if_icmp .gt 27, 3) := by decide +kernel
theorem d_Nt_wayToGhost_23 : decode b_Nt_wayToGhost 23 = .ok (.aload_n 0, 1) := by decide +kernel
theorem d_Nt_wayToGhost_24 : decode b_Nt_wayToGhost 24 = .ok (.iload_n 2, 1) := by decide +kernel
theorem d_Nt_wayToGhost_25 : decode b_Nt_wayToGhost 25 = .ok (.invokevirtual 118, 3) := by decide +kernel
theorem d_Nt_wayToGhost_28 : decode b_Nt_wayToGhost 28 = .ok (.aload_n 0, 1) := by decide +kernel
theorem d_Nt_wayToGhost_29 : decode b_Nt_wayToGhost 29 = .ok (.getfield 21, 3) := by decide +kernel
theorem d_Nt_wayToGhost_32 : decode b_Nt_wayToGhost 32 = .ok (.if_icmp .eq 15, 3) := by decide +kernel
theorem d_Nt_wayToGhost_35 : decode b_Nt_wayToGhost 35 = .ok (.aload_n 0, 1) := by decide +kernel
theorem d_Nt_wayToGhost_36 : decode b_Nt_wayToGhost 36 = .ok (.iload_n 2, 1) := by decide +kernel
theorem d_Nt_wayToGhost_37 : decode b_Nt_wayToGhost 37 = .ok (.invokevirtual 138, 3) := by decide +kernel
theorem d_Nt_wayToGhost_40 : decode b_Nt_wayToGhost 40 = .ok (.istore_n 2, 1) := by decide +kernel
theorem d_Nt_wayToGhost_41 : decode b_Nt_wayToGhost 41 = .ok (.iinc 3 1, 3) := by decide +kernel
theorem d_Nt_wayToGhost_44 : decode b_Nt_wayToGhost 44 = .ok (.goto (-29), 3) := by decide +kernel
theorem d_Nt_wayToGhost_47 : decode b_Nt_wayToGhost 47 = .ok (.iload_n 2, 1) := by decide +kernel
theorem d_Nt_wayToGhost_48 : decode b_Nt_wayToGhost 48 = .ok (.ireturn, 1) := by decide +kernel
theorem d_Nt_nextWayToGhost_0 : decode b_Nt_nextWayToGhost 0 = .ok (.aload_n 0, 1) := by decide +kernel
theorem d_Nt_nextWayToGhost_1 : decode b_Nt_nextWayToGhost 1 = .ok (.getfield 33, 3) := by decide +kernel
theorem d_Nt_nextWayToGhost_4 : decode b_Nt_nextWayToGhost 4 = .ok (.iload_n 1, 1) := by decide +kernel
theorem d_Nt_nextWayToGhost_5 : decode b_Nt_nextWayToGhost 5 = .ok (.iconst 1, 1) := by decide +kernel
theorem d_Nt_nextWayToGhost_6 : decode b_Nt_nextWayToGhost 6 = .ok (.invokestatic 67, 3) := by decide +kernel
theorem d_Nt_nextWayToGhost_9 : decode b_Nt_nextWayToGhost 9 = .ok (.invokevirtual 63, 3) := by decide +kernel
theorem d_Nt_nextWayToGhost_12 : decode b_Nt_nextWayToGhost 12 = .ok (.ireturn, 1) := by decide +kernel
theorem d_Ol_isCorner_0 : decode b_Ol_isCorner 0 = .ok (.aload_n 0, 1) := by decide +kernel
theorem d_Ol_isCorner_1 : decode b_Ol_isCorner 1 = .ok (.getfield 9, 3) := by decide +kernel
theorem d_Ol_isCorner_4 : decode b_Ol_isCorner 4 = .ok (.iload_n 1, 1) := by decide +kernel
theorem d_Ol_isCorner_5 : decode b_Ol_isCorner 5 = .ok (.iload_n 2, 1) := by decide +kernel
theorem d_Ol_isCorner_6 : decode b_Ol_isCorner 6 = .ok (.aload_n 0, 1) := by decide +kernel
theorem d_Ol_isCorner_7 : decode b_Ol_isCorner 7 = .ok (.getfield 9, 3) := by decide +kernel
theorem d_Ol_isCorner_10 : decode b_Ol_isCorner 10 = .ok (.iload_n 3, 1) := by decide +kernel
theorem d_Ol_isCorner_11 : decode b_Ol_isCorner 11 = .ok (.invokevirtual 89, 3) := by decide +kernel
theorem d_Ol_isCorner_14 : decode b_Ol_isCorner 14 = .ok (.aload_n 0, 1) := by decide +kernel
theorem d_Ol_isCorner_15 : decode b_Ol_isCorner 15 = .ok (.getfield 9, 3) := by decide +kernel
theorem d_Ol_isCorner_18 : decode b_Ol_isCorner 18 = .ok (.iload_n 3, 1) := by decide +kernel
theorem d_Ol_isCorner_19 : decode b_Ol_isCorner 19 = .ok (.invokevirtual 92, 3) := by decide +kernel
theorem d_Ol_isCorner_22 : decode b_Ol_isCorner 22 = .ok (.invokevirtual 95, 3) := by decide +kernel
theorem d_Ol_isCorner_25 : decode b_Ol_isCorner 25 = .ok (.lconst 0, 1) := by decide +kernel
theorem d_Ol_isCorner_26 : decode b_Ol_isCorner 26 = .ok (.lcmp, 1) := by decide +kernel
theorem d_Ol_isCorner_27 : decode b_Ol_isCorner 27 = .ok (.ifCond .eq 7, 3) := by decide +kernel
theorem d_Ol_isCorner_30 : decode b_Ol_isCorner 30 = .ok (.iconst 1, 1) := by decide +kernel
theorem d_Ol_isCorner_31 : decode b_Ol_isCorner 31 = .ok (.goto 4, 3) := by decide +kernel
theorem d_Ol_isCorner_34 : decode b_Ol_isCorner 34 = .ok (.iconst 0, 1) := by decide +kernel
theorem d_Ol_isCorner_35 : decode b_Ol_isCorner 35 = .ok (.ireturn, 1) := by decide +kernel
theorem d_Ol_drawRound_0 : decode b_Ol_drawRound 0 = .ok (.aload_n 0, 1) := by decide +kernel
theorem d_Ol_drawRound_1 : decode b_Ol_drawRound 1 = .ok (.getfield 15, 3) := by decide +kernel
theorem d_Ol_drawRound_4 : decode b_Ol_drawRound 4 = .ok (.aload_n 0, 1) := by decide +kernel
theorem d_Ol_drawRound_5 : decode b_Ol_drawRound 5 = .ok (.getfield 9, 3) := by decide +kernel
theorem d_Ol_drawRound_8 : decode b_Ol_drawRound 8 = .ok (.ldc 63, 2) := by decide +kernel
theorem d_Ol_drawRound_10 : decode b_Ol_drawRound 10 = .ok (.iconst 0, 1) := by decide +kernel
theorem d_Ol_drawRound_11 : decode b_Ol_drawRound 11 = .ok (.invokevirtual 64, 3) := by decide +kernel
theorem d_Ol_drawRound_14 : decode b_Ol_drawRound 14 = .ok (.invokevirtual 75, 3) := by decide +kernel
theorem d_Ol_drawRound_17 : decode b_Ol_drawRound 17 = .ok (.istore_n 1, 1) := by decide +kernel
theorem d_Ol_drawRound_18 : decode b_Ol_drawRound 18 = .ok (.iload_n 1, 1) := by decide +kernel
theorem d_Ol_drawRound_19 : decode b_Ol_drawRound 19 = .ok (.istore_n 2, 1) := by decide +kernel
theorem d_Ol_drawRound_20 : decode b_Ol_drawRound 20 = .ok (.iconst (-1), 1) := by decide +kernel
theorem d_Ol_drawRound_21 : decode b_Ol_drawRound 21 = .ok (.istore_n 3, 1) := by decide +kernel
theorem d_Ol_drawRound_22 : decode b_Ol_drawRound 22 = .ok (.iconst 0, 1) := by decide +kernel
theorem d_Ol_drawRound_23 : decode b_Ol_drawRound 23 = .ok (.istore 4, 2) := by decide +kernel
theorem d_Ol_drawRound_25 : decode b_Ol_drawRound 25 = .ok (.iload 4, 2) := by decide +kernel
theorem d_Ol_drawRound_27 : decode b_Ol_drawRound 27 = .ok (.aload_n 0, 1) := by decide +kernel
theorem d_Ol_drawRound_28 : decode b_Ol_drawRound 28 = .ok (.getfield 9, 3) := by decide +kernel
theorem d_Ol_drawRound_31 : decode b_Ol_drawRound 31 = .ok (.getfield 78, 3) := by decide +kernel
theorem d_Ol_drawRound_34 : decode b_Ol_drawRound 34 = .ok (.if_icmp .ge 73, 3) := by decide +kernel
theorem d_Ol_drawRound_37 : decode b_Ol_drawRound 37 = .ok (.aload_n 0, 1) := by decide +kernel
theorem d_Ol_drawRound_38 : decode b_Ol_drawRound 38 = .ok (.getfield 15, 3) := by decide +kernel
theorem d_Ol_drawRound_41 : decode b_Ol_drawRound 41 = .ok (.iload_n 2, 1) := by decide +kernel
theorem d_Ol_drawRound_42 : decode b_Ol_drawRound 42 = .ok (.invokevirtual 79, 3) := by decide +kernel
theorem d_Ol_drawRound_45 : decode b_Ol_drawRound 45 = .ok (.istore 5, 2) := by decide +kernel
theorem d_Ol_drawRound_47 : decode b_Ol_drawRound 47 = .ok (.aload_n 0, 1) := by decide +kernel
theorem d_Ol_drawRound_48 : decode b_Ol_drawRound 48 = .ok (.getfield 15, 3) := by decide +kernel
theorem d_Ol_drawRound_51 : decode b_Ol_drawRound 51 = .ok (.iload_n 2, 1) := by decide +kernel
theorem d_Ol_drawRound_52 : decode b_Ol_drawRound 52 = .ok (.invokevirtual 82, 3) := by decide +kernel
theorem d_Ol_drawRound_55 : decode b_Ol_drawRound 55 = .ok (.istore 6, 2) := by decide +kernel
theorem d_Ol_drawRound_57 : decode b_Ol_drawRound 57 = .ok (.iload_n 3, 1) := by decide +kernel
theorem d_Ol_drawRound_58 : decode b_Ol_drawRound 58 = .ok (.iconst (-1), 1) := by decide +kernel
theorem d_Ol_drawRound_59 : decode b_Ol_drawRound 59 = .ok (.if_icmp .eq 22, 3) := by decide +kernel
theorem d_Ol_drawRound_62 : decode b_Ol_drawRound 62 = .ok (.aload_n 0, 1) := by decide +kernel
theorem d_Ol_drawRound_63 : decode b_Ol_drawRound 63 = .ok (.iload_n 3, 1) := by decide +kernel
theorem d_Ol_drawRound_64 : decode b_Ol_drawRound 64 = .ok (.iload 6, 2) := by decide +kernel
theorem d_Ol_drawRound_66 : decode b_Ol_drawRound 66 = .ok (.aload_n 0, 1) := by decide +kernel
theorem d_Ol_drawRound_67 : decode b_Ol_drawRound 67 = .ok (.getfield 15, 3) := by decide +kernel
theorem d_Ol_drawRound_70 : decode b_Ol_drawRound 70 = .ok (.iload 5, 2) := by decide +kernel
theorem d_Ol_drawRound_72 : decode b_Ol_drawRound 72 = .ok (.invokevirtual 82, 3) := by decide +kernel
theorem d_Ol_drawRound_75 : decode b_Ol_drawRound 75 = .ok (.invokevirtual 85, 3) := by decide +kernel
theorem d_Ol_drawRound_78 : decode b_Ol_drawRound 78 = .ok (.ifCond .eq 9, 3) := by decide +kernel
theorem d_Ol_drawRound_81 : decode b_Ol_drawRound 81 = .ok (.aload_n 0, 1) := by decide +kernel
theorem d_Ol_drawRound_82 : decode b_Ol_drawRound 82 = .ok (.iload 6, 2) := by decide +kernel
theorem d_Ol_drawRound_84 : decode b_Ol_drawRound 84 = .ok (.invokevirtual 72, 3) := by decide +kernel
theorem d_Ol_drawRound_87 : decode b_Ol_drawRound 87 = .ok (.iload 6, 2) := by decide +kernel
theorem d_Ol_drawRound_89 : decode b_Ol_drawRound 89 = .ok (.istore_n 3, 1) := by decide +kernel
theorem d_Ol_drawRound_90 : decode b_Ol_drawRound 90 = .ok (.iload 5, 2) := by decide +kernel
theorem d_Ol_drawRound_92 : decode b_Ol_drawRound 92 = .ok (.istore_n 2, 1) := by decide +kernel
theorem d_Ol_drawRound_93 : decode b_Ol_drawRound 93 = .ok (.iload_n 2, 1) := by decide +kernel
theorem d_Ol_drawRound_94 : decode b_Ol_drawRound 94 = .ok (.iload_n 1, 1) := by decide +kernel
theorem d_Ol_drawRound_95 : decode b_Ol_drawRound 95 = .ok (.if_icmp .ne 6, 3) := by decide +kernel
theorem d_Ol_drawRound_98 : decode b_Ol_drawRound 98 = .ok (.goto 9, 3) := by decide +kernel
theorem d_Ol_drawRound_101 : decode b_Ol_drawRound 101 = .ok (.iinc 4 1, 3) := by decide +kernel
theorem d_Ol_drawRound_104 : decode b_Ol_drawRound 104 = .ok (.goto (-79), 3) := by decide +kernel
theorem d_Ol_drawRound_107 : decode b_Ol_drawRound 107 = .ok (.return_, 1) := by decide +kernel
theorem d_Ol_draw_0 : decode b_Ol_draw 0 = .ok (.aload_n 0, 1) := by decide +kernel
theorem d_Ol_draw_1 : decode b_Ol_draw 1 = .ok (.getfield 37, 3) := by decide +kernel
theorem d_Ol_draw_4 : decode b_Ol_draw 4 = .ok (.ifCond .eq 4, 3) := by decide +kernel
theorem d_Ol_draw_7 : decode b_Ol_draw 7 = .ok (.return_, 1) := by decide +kernel
theorem d_Ol_draw_8 : decode b_Ol_draw 8 = .ok (.aload_n 0, 1) := by decide +kernel
theorem d_Ol_draw_9 : decode b_Ol_draw 9 = .ok (.iconst 0, 1) := by decide +kernel
theorem d_Ol_draw_10 : decode b_Ol_draw 10 = .ok (.putfield 34, 3) := by decide +kernel
theorem d_Ol_draw_13 : decode b_Ol_draw 13 = .ok (.aload_n 0, 1) := by decide +kernel
theorem d_Ol_draw_14 : decode b_Ol_draw 14 = .ok (.getfield 15, 3) := by decide +kernel
theorem d_Ol_draw_17 : decode b_Ol_draw 17 = .ok (.invokevirtual 51, 3) := by decide +kernel
theorem d_Ol_draw_20 : decode b_Ol_draw 20 = .ok (.ifCond .eq 10, 3) := by decide +kernel
theorem d_Ol_draw_23 : decode b_Ol_draw 23 = .ok (.aload_n 0, 1) := by decide +kernel
theorem d_Ol_draw_24 : decode b_Ol_draw 24 = .ok (.invokevirtual 57, 3) := by decide +kernel
theorem d_Ol_draw_27 : decode b_Ol_draw 27 = .ok (.goto 7, 3) := by decide +kernel
theorem d_Ol_draw_30 : decode b_Ol_draw 30 = .ok (.aload_n 0, 1) := by decide +kernel
theorem d_Ol_draw_31 : decode b_Ol_draw 31 = .ok (.invokevirtual 60, 3) := by decide +kernel
theorem d_Ol_draw_34 : decode b_Ol_draw 34 = .ok (.aload_n 0, 1) := by decide +kernel
theorem d_Ol_draw_35 : decode b_Ol_draw 35 = .ok (.iconst 1, 1) := by decide +kernel
theorem d_Ol_draw_36 : decode b_Ol_draw 36 = .ok (.putfield 37, 3) := by decide +kernel
theorem d_Ol_draw_39 : decode b_Ol_draw 39 = .ok (.return_, 1) := by decide +kernel
theorem d_Ol_many_0 : decode b_Ol_many 0 = .ok (.aload_n 0, 1) := by decide +kernel
theorem d_Ol_many_1 : decode b_Ol_many 1 = .ok (.invokevirtual 44, 3) := by decide +kernel
theorem d_Ol_many_4 : decode b_Ol_many 4 = .ok (.aload_n 0, 1) := by decide +kernel
theorem d_Ol_many_5 : decode b_Ol_many 5 = .ok (.getfield 34, 3) := by decide +kernel
theorem d_Ol_many_8 : decode b_Ol_many 8 = .ok (.ireturn, 1) := by decide +kernel
theorem d_Ol_at_0 : decode b_Ol_at 0 = .ok (.aload_n 0, 1) := by decide +kernel
theorem d_Ol_at_1 : decode b_Ol_at 1 = .ok (.invokevirtual 44, 3) := by decide +kernel
theorem d_Ol_at_4 : decode b_Ol_at 4 = .ok (.aload_n 0, 1) := by decide +kernel
theorem d_Ol_at_5 : decode b_Ol_at 5 = .ok (.getfield 30, 3) := by decide +kernel
theorem d_Ol_at_8 : decode b_Ol_at 8 = .ok (.iload_n 1, 1) := by decide +kernel
theorem d_Ol_at_9 : decode b_Ol_at 9 = .ok (.invokevirtual 47, 3) := by decide +kernel
theorem d_Ol_at_12 : decode b_Ol_at 12 = .ok (.ireturn, 1) := by decide +kernel
theorem d_Pn_corner_0 : decode b_Pn_corner 0 = .ok (.iload_n 1, 1) := by decide +kernel
theorem d_Pn_corner_1 : decode b_Pn_corner 1 = .ok (.ifCond .lt 14, 3) := by decide +kernel
theorem d_Pn_corner_4 : decode b_Pn_corner 4 = .ok (.iload_n 1, 1) := by decide +kernel
theorem d_Pn_corner_5 : decode b_Pn_corner 5 = .ok (.aload_n 0, 1) := by decide +kernel
theorem d_Pn_corner_6 : decode b_Pn_corner 6 = .ok (.getfield 48, 3) := by decide +kernel
theorem d_Pn_corner_9 : decode b_Pn_corner 9 = .ok (.invokevirtual 150, 3) := by decide +kernel
theorem d_Pn_corner_12 : decode b_Pn_corner 12 = .ok (.if_icmp .lt 13, 3) := by decide +kernel
theorem d_Pn_corner_15 : decode b_Pn_corner 15 = .ok (.new 121, 3) := by decide +kernel
theorem d_Pn_corner_18 : decode b_Pn_corner 18 = .ok (.dup, 1) := by decide +kernel
theorem d_Pn_corner_19 : decode b_Pn_corner 19 = .ok (.ldc 153, 2) := by decide +kernel
theorem d_Pn_corner_21 : decode b_Pn_corner 21 = .ok (.invokespecial 125, 3) := by decide +kernel
theorem d_Pn_corner_24 : decode b_Pn_corner 24 = .ok (.athrow, 1) := by decide +kernel
theorem d_Pn_corner_25 : decode b_Pn_corner 25 = .ok (.aload_n 0, 1) := by decide +kernel
theorem d_Pn_corner_26 : decode b_Pn_corner 26 = .ok (.getfield 48, 3) := by decide +kernel
theorem d_Pn_corner_29 : decode b_Pn_corner 29 = .ok (.iload_n 1, 1) := by decide +kernel
theorem d_Pn_corner_30 : decode b_Pn_corner 30 = .ok (.invokevirtual 155, 3) := by decide +kernel
theorem d_Pn_corner_33 : decode b_Pn_corner 33 = .ok (.ireturn, 1) := by decide +kernel
theorem d_Pn_foundBetween_0 : decode b_Pn_foundBetween 0 = .ok (.aload_n 0, 1) := by decide +kernel
theorem d_Pn_foundBetween_1 : decode b_Pn_foundBetween 1 = .ok (.getfield 52, 3) := by decide +kernel
theorem d_Pn_foundBetween_4 : decode b_Pn_foundBetween 4 = .ok (.iconst 0, 1) := by decide +kernel
theorem d_Pn_foundBetween_5 : decode b_Pn_foundBetween 5 = .ok (.iload_n 1, 1) := by decide +kernel
theorem d_Pn_foundBetween_6 : decode b_Pn_foundBetween 6 = .ok (.iload_n 2, 1) := by decide +kernel
theorem d_Pn_foundBetween_7 : decode b_Pn_foundBetween 7 = .ok (.invokestatic 11, 3) := by decide +kernel
theorem d_Pn_foundBetween_10 : decode b_Pn_foundBetween 10 = .ok (.iastore, 1) := by decide +kernel
theorem d_Pn_foundBetween_11 : decode b_Pn_foundBetween 11 = .ok (.aload_n 0, 1) := by decide +kernel
theorem d_Pn_foundBetween_12 : decode b_Pn_foundBetween 12 = .ok (.getfield 52, 3) := by decide +kernel
theorem d_Pn_foundBetween_15 : decode b_Pn_foundBetween 15 = .ok (.iconst 1, 1) := by decide +kernel
theorem d_Pn_foundBetween_16 : decode b_Pn_foundBetween 16 = .ok (.iload_n 1, 1) := by decide +kernel
theorem d_Pn_foundBetween_17 : decode b_Pn_foundBetween 17 = .ok (.iload_n 2, 1) := by decide +kernel
theorem d_Pn_foundBetween_18 : decode b_Pn_foundBetween 18 = .ok (.invokestatic 17, 3) := by decide +kernel
theorem d_Pn_foundBetween_21 : decode b_Pn_foundBetween 21 = .ok (.iastore, 1) := by decide +kernel
theorem d_Pn_foundBetween_22 : decode b_Pn_foundBetween 22 = .ok (.iconst 2, 1) := by decide +kernel
theorem d_Pn_foundBetween_23 : decode b_Pn_foundBetween 23 = .ok (.ireturn, 1) := by decide +kernel
theorem d_Pn_locateOnLine_0 : decode b_Pn_locateOnLine 0 = .ok (.aload_n 0, 1) := by decide +kernel
theorem d_Pn_locateOnLine_1 : decode b_Pn_locateOnLine 1 = .ok (.getfield 23, 3) := by decide +kernel
theorem d_Pn_locateOnLine_4 : decode b_Pn_locateOnLine 4 = .ok (.getfield 71, 3) := by decide +kernel
theorem d_Pn_locateOnLine_7 : decode b_Pn_locateOnLine 7 = .ok (.iconst 2, 1) := by decide +kernel
theorem d_Pn_locateOnLine_8 : decode b_Pn_locateOnLine 8 = .ok (.if_icmp .lt 19, 3) := by decide +kernel
theorem d_Pn_locateOnLine_11 : decode b_Pn_locateOnLine 11 = .ok (.aload_n 0, 1) := by decide +kernel
theorem d_Pn_locateOnLine_12 : decode b_Pn_locateOnLine 12 = .ok (.getfield 23, 3) := by decide +kernel
theorem d_Pn_locateOnLine_15 : decode b_Pn_locateOnLine 15 = .ok (.iconst 0, 1) := by decide +kernel
theorem d_Pn_locateOnLine_16 : decode b_Pn_locateOnLine 16 = .ok (.iconst 1, 1) := by decide +kernel
theorem d_Pn_locateOnLine_17 : decode b_Pn_locateOnLine 17 = .ok (.iload_n 1, 1) := by decide +kernel
theorem d_Pn_locateOnLine_18 : decode b_Pn_locateOnLine 18 = .ok (.iload_n 2, 1) := by decide +kernel
theorem d_Pn_locateOnLine_19 : decode b_Pn_locateOnLine 19 = .ok (.invokevirtual 198, 3) := by decide +kernel
theorem d_Pn_locateOnLine_22 : decode b_Pn_locateOnLine 22 = .ok (.lconst 0, 1) := by decide +kernel
theorem d_Pn_locateOnLine_23 : decode b_Pn_locateOnLine 23 = .ok (.lcmp, 1) := by decide +kernel
theorem d_Pn_locateOnLine_24 : decode b_Pn_locateOnLine 24 = .ok (.ifCond .eq 5, 3) := by decide +kernel
theorem d_Pn_locateOnLine_27 : decode b_Pn_locateOnLine 27 = .ok (.iconst 0, 1) := by decide +kernel
theorem d_Pn_locateOnLine_28 : decode b_Pn_locateOnLine 28 = .ok (.ireturn, 1) := by decide +kernel
theorem d_Pn_locateOnLine_29 : decode b_Pn_locateOnLine 29 = .ok (.aload_n 0, 1) := by decide +kernel
theorem d_Pn_locateOnLine_30 : decode b_Pn_locateOnLine 30 = .ok (.getfield 23, 3) := by decide +kernel
theorem d_Pn_locateOnLine_33 : decode b_Pn_locateOnLine 33 = .ok (.iload_n 1, 1) := by decide +kernel
theorem d_Pn_locateOnLine_34 : decode b_Pn_locateOnLine 34 = .ok (.iload_n 2, 1) := by decide +kernel
theorem d_Pn_locateOnLine_35 : decode b_Pn_locateOnLine 35 = .ok (.invokevirtual 219, 3) := by decide +kernel
theorem d_Pn_locateOnLine_38 : decode b_Pn_locateOnLine 38 = .ok (.istore_n 3, 1) := by decide +kernel
theorem d_Pn_locateOnLine_39 : decode b_Pn_locateOnLine 39 = .ok (.aload_n 0, 1) := by decide +kernel
theorem d_Pn_locateOnLine_40 : decode b_Pn_locateOnLine 40 = .ok (.getfield 23, 3) := by decide +kernel
theorem d_Pn_locateOnLine_43 : decode b_Pn_locateOnLine 43 = .ok (.iload_n 1, 1) := by decide +kernel
theorem d_Pn_locateOnLine_44 : decode b_Pn_locateOnLine 44 = .ok (.iload_n 2, 1) := by decide +kernel
theorem d_Pn_locateOnLine_45 : decode b_Pn_locateOnLine 45 = .ok (.invokevirtual 222, 3) := by decide +kernel
theorem d_Pn_locateOnLine_48 : decode b_Pn_locateOnLine 48 = .ok (.istore 4, 2) := by decide +kernel
theorem d_Pn_locateOnLine_50 : decode b_Pn_locateOnLine 50 = .ok (.iload_n 3, 1) := by decide +kernel
theorem d_Pn_locateOnLine_51 : decode b_Pn_locateOnLine 51 = .ok (.iconst (-1), 1) := by decide +kernel
theorem d_Pn_locateOnLine_52 : decode b_Pn_locateOnLine 52 = .ok (.if_icmp .eq 9, 3) := by decide +kernel
theorem d_Pn_locateOnLine_55 : decode b_Pn_locateOnLine 55 = .ok (.iload 4, 2) := by decide +kernel
theorem d_Pn_locateOnLine_57 : decode b_Pn_locateOnLine 57 = .ok (.iconst (-1), 1) := by decide +kernel
theorem d_Pn_locateOnLine_58 : decode b_Pn_locateOnLine 58 = .ok (.if_icmp .ne 7, 3) := by decide +kernel
theorem d_Pn_locateOnLine_61 : decode b_Pn_locateOnLine 61 = .ok (.iconst 0, 1) := by decide +kernel
theorem d_Pn_locateOnLine_62 : decode b_Pn_locateOnLine 62 = .ok (.goto 10, 3) := by decide +kernel
theorem d_Pn_locateOnLine_65 : decode b_Pn_locateOnLine 65 = .ok (.aload_n 0, 1) := by decide +kernel
theorem d_Pn_locateOnLine_66 : decode b_Pn_locateOnLine 66 = .ok (.iload_n 3, 1) := by decide +kernel
theorem d_Pn_locateOnLine_67 : decode b_Pn_locateOnLine 67 = .ok (.iload 4, 2) := by decide +kernel
theorem d_Pn_locateOnLine_69 : decode b_Pn_locateOnLine 69 = .ok (.invokevirtual 225, 3) := by decide +kernel
theorem d_Pn_locateOnLine_72 : decode b_Pn_locateOnLine 72 = .ok (.ireturn, 1) := by decide +kernel
theorem d_Pn_locateInNet_0 : decode b_Pn_locateInNet 0 = .ok (.aload_n 0, 1) := by decide +kernel
theorem d_Pn_locateInNet_1 : decode b_Pn_locateInNet 1 = .ok (.getfield 32, 3) := by decide +kernel
theorem d_Pn_locateInNet_4 : decode b_Pn_locateInNet 4 = .ok (.iload_n 1, 1) := by decide +kernel
theorem d_Pn_locateInNet_5 : decode b_Pn_locateInNet 5 = .ok (.iload_n 2, 1) := by decide +kernel
theorem d_Pn_locateInNet_6 : decode b_Pn_locateInNet 6 = .ok (.iload_n 3, 1) := by decide +kernel
theorem d_Pn_locateInNet_7 : decode b_Pn_locateInNet 7 = .ok (.invokevirtual 228, 3) := by decide +kernel
theorem d_Pn_locateInNet_10 : decode b_Pn_locateInNet 10 = .ok (.istore 4, 2) := by decide +kernel
theorem d_Pn_locateInNet_12 : decode b_Pn_locateInNet 12 = .ok (.aload_n 0, 1) := by decide +kernel
theorem d_Pn_locateInNet_13 : decode b_Pn_locateInNet 13 = .ok (.getfield 32, 3) := by decide +kernel
theorem d_Pn_locateInNet_16 : decode b_Pn_locateInNet 16 = .ok (.iload 4, 2) := by decide +kernel
theorem d_Pn_locateInNet_18 : decode b_Pn_locateInNet 18 = .ok (.invokevirtual 231, 3) := by decide +kernel
theorem d_Pn_locateInNet_21 : decode b_Pn_locateInNet 21 = .ok (.ifCond .eq 5, 3) := by decide +kernel
theorem d_Pn_locateInNet_24 : decode b_Pn_locateInNet 24 = .ok (.iconst 0, 1) := by decide +kernel
theorem d_Pn_locateInNet_25 : decode b_Pn_locateInNet 25 = .ok (.ireturn, 1) := by decide +kernel
theorem d_Pn_locateInNet_26 : decode b_Pn_locateInNet 26 = .ok (.iconst 0, 1) := by decide +kernel
theorem d_Pn_locateInNet_27 : decode b_Pn_locateInNet 27 = .ok (.istore 5, 2) := by decide +kernel
theorem d_Pn_locateInNet_29 : decode b_Pn_locateInNet 29 = .ok (.iload 5, 2) := by decide +kernel
theorem d_Pn_locateInNet_31 : decode b_Pn_locateInNet 31 = .ok (.iconst 3, 1) := by decide +kernel
theorem d_Pn_locateInNet_32 : decode b_Pn_locateInNet 32 = .ok (.if_icmp .ge 73, 3) := by decide +kernel
theorem d_Pn_locateInNet_35 : decode b_Pn_locateInNet 35 = .ok (.iload 4, 2) := by decide +kernel
theorem d_Pn_locateInNet_37 : decode b_Pn_locateInNet 37 = .ok (.iload 5, 2) := by decide +kernel
theorem d_Pn_locateInNet_39 : decode b_Pn_locateInNet 39 = .ok (.invokestatic 130, 3) := by decide +kernel
theorem d_Pn_locateInNet_42 : decode b_Pn_locateInNet 42 = .ok (.istore 6, 2) := by decide +kernel
theorem d_Pn_locateInNet_44 : decode b_Pn_locateInNet 44 = .ok (.aload_n 0, 1) := by decide +kernel
theorem d_Pn_locateInNet_45 : decode b_Pn_locateInNet 45 = .ok (.getfield 23, 3) := by decide +kernel
theorem d_Pn_locateInNet_48 : decode b_Pn_locateInNet 48 = .ok (.aload_n 0, 1) := by decide +kernel
theorem d_Pn_locateInNet_49 : decode b_Pn_locateInNet 49 = .ok (.getfield 32, 3) := by decide +kernel
theorem d_Pn_locateInNet_52 : decode b_Pn_locateInNet 52 = .ok (.iload 6, 2) := by decide +kernel
theorem d_Pn_locateInNet_54 : decode b_Pn_locateInNet 54 = .ok (.invokevirtual 133, 3) := by decide +kernel
theorem d_Pn_locateInNet_57 : decode b_Pn_locateInNet 57 = .ok (.aload_n 0, 1) := by decide +kernel
theorem d_Pn_locateInNet_58 : decode b_Pn_locateInNet 58 = .ok (.getfield 32, 3) := by decide +kernel
theorem d_Pn_locateInNet_61 : decode b_Pn_locateInNet 61 = .ok (.iload 6, 2) := by decide +kernel
theorem d_Pn_locateInNet_63 : decode b_Pn_locateInNet 63 = .ok (.invokevirtual 235, 3) := by decide +kernel
theorem d_Pn_locateInNet_66 : decode b_Pn_locateInNet 66 = .ok (.iload_n 2, 1) := by decide +kernel
theorem d_Pn_locateInNet_67 : decode b_Pn_locateInNet 67 = .ok (.iload_n 3, 1) := by decide +kernel
theorem d_Pn_locateInNet_68 : decode b_Pn_locateInNet 68 = .ok (.invokevirtual 198, 3) := by decide +kernel
theorem d_Pn_locateInNet_71 : decode b_Pn_locateInNet 71 = .ok (.lconst 0, 1) := by decide +kernel
theorem d_Pn_locateInNet_72 : decode b_Pn_locateInNet 72 = .ok (.lcmp, 1) := by decide +kernel
theorem d_Pn_locateInNet_73 : decode b_Pn_locateInNet 73 = .ok (.ifCond .ne 26, 3) := by decide +kernel
theorem d_Pn_locateInNet_76 : decode b_Pn_locateInNet 76 = .ok (.aload_n 0, 1) := by decide +kernel
theorem d_Pn_locateInNet_77 : decode b_Pn_locateInNet 77 = .ok (.aload_n 0, 1) := by decide +kernel
theorem d_Pn_locateInNet_78 : decode b_Pn_locateInNet 78 = .ok (.getfield 32, 3) := by decide +kernel
theorem d_Pn_locateInNet_81 : decode b_Pn_locateInNet 81 = .ok (.iload 6, 2) := by decide +kernel
theorem d_Pn_locateInNet_83 : decode b_Pn_locateInNet 83 = .ok (.invokevirtual 133, 3) := by decide +kernel
theorem d_Pn_locateInNet_86 : decode b_Pn_locateInNet 86 = .ok (.aload_n 0, 1) := by decide +kernel
theorem d_Pn_locateInNet_87 : decode b_Pn_locateInNet 87 = .ok (.getfield 32, 3) := by decide +kernel
theorem d_Pn_locateInNet_90 : decode b_Pn_locateInNet 90 = .ok (.iload 6, 2) := by decide +kernel
theorem d_Pn_locateInNet_92 : decode b_Pn_locateInNet 92 = .ok (.invokevirtual 235, 3) := by decide +kernel
theorem d_Pn_locateInNet_95 : decode b_Pn_locateInNet 95 = .ok (.invokevirtual 225, 3) := by decide +kernel
theorem d_Pn_locateInNet_98 : decode b_Pn_locateInNet 98 = .ok (.ireturn, 1) := by decide +kernel
theorem d_Pn_locateInNet_99 : decode b_Pn_locateInNet 99 = .ok (.iinc 5 1, 3) := by decide +kernel
theorem d_Pn_locateInNet_102 : decode b_Pn_locateInNet 102 = .ok (.goto (-73), 3) := by decide +kernel
theorem d_Pn_locateInNet_105 : decode b_Pn_locateInNet 105 = .ok (.aload_n 0, 1) := by decide +kernel
theorem d_Pn_locateInNet_106 : decode b_Pn_locateInNet 106 = .ok (.getfield 32, 3) := by decide +kernel
theorem d_Pn_locateInNet_109 : decode b_Pn_locateInNet 109 = .ok (.iload 4, 2) := by decide +kernel
theorem d_Pn_locateInNet_111 : decode b_Pn_locateInNet 111 = .ok (.invokevirtual 238, 3) := by decide +kernel
theorem d_Pn_locateInNet_114 : decode b_Pn_locateInNet 114 = .ok (.istore 5, 2) := by decide +kernel
theorem d_Pn_locateInNet_116 : decode b_Pn_locateInNet 116 = .ok (.iconst 0, 1) := by decide +kernel
theorem d_Pn_locateInNet_117 : decode b_Pn_locateInNet 117 = .ok (.istore 6, 2) := by decide +kernel
theorem d_Pn_locateInNet_119 : decode b_Pn_locateInNet 119 = .ok (.iload 6, 2) := by decide +kernel
theorem d_Pn_locateInNet_121 : decode b_Pn_locateInNet 121 = .ok (.aload_n 0, 1) := by decide +kernel
theorem d_Pn_locateInNet_122 : decode b_Pn_locateInNet 122 = .ok (.getfield 52, 3) := by decide +kernel
theorem d_Pn_locateInNet_125 : decode b_Pn_locateInNet 125 = .ok (.arraylength, 1) := by decide +kernel
theorem d_Pn_locateInNet_126 : decode b_Pn_locateInNet 126 = .ok (.if_icmp .ge 30, 3) := by decide +kernel
theorem d_Pn_locateInNet_129 : decode b_Pn_locateInNet 129 = .ok (.aload_n 0, 1) := by decide +kernel
theorem d_Pn_locateInNet_130 : decode b_Pn_locateInNet 130 = .ok (.getfield 52, 3) := by decide +kernel
theorem d_Pn_locateInNet_133 : decode b_Pn_locateInNet 133 = .ok (.iload 6, 2) := by decide +kernel
theorem d_Pn_locateInNet_135 : decode b_Pn_locateInNet 135 = .ok (.aload_n 0, 1) := by decide +kernel
theorem d_Pn_locateInNet_136 : decode b_Pn_locateInNet 136 = .ok (.getfield 32, 3) := by decide +kernel
theorem d_Pn_locateInNet_139 : decode b_Pn_locateInNet 139 = .ok (.iload 5, 2) := by decide +kernel
theorem d_Pn_locateInNet_141 : decode b_Pn_locateInNet 141 = .ok (.iload 6, 2) := by decide +kernel
theorem d_Pn_locateInNet_143 : decode b_Pn_locateInNet 143 = .ok (.invokestatic 130, 3) := by decide +kernel
theorem d_Pn_locateInNet_146 : decode b_Pn_locateInNet 146 = .ok (.invokevirtual 133, 3) := by decide +kernel
theorem d_Pn_locateInNet_149 : decode b_Pn_locateInNet 149 = .ok (.iastore, 1) := by decide +kernel
theorem d_Pn_locateInNet_150 : decode b_Pn_locateInNet 150 = .ok (.iinc 6 1, 3) := by decide +kernel
theorem d_Pn_locateInNet_153 : decode b_Pn_locateInNet 153 = .ok (.goto (-34), 3) := by decide +kernel
theorem d_Pn_locateInNet_156 : decode b_Pn_locateInNet 156 = .ok (.iconst 1, 1) := by decide +kernel
theorem d_Pn_locateInNet_157 : decode b_Pn_locateInNet 157 = .ok (.ireturn, 1) := by decide +kernel
theorem d_Pn_locate_0 : decode b_Pn_locate 0 = .ok (.iload_n 1, 1) := by decide +kernel
theorem d_Pn_locate_1 : decode b_Pn_locate 1 = .ok (.iload_n 2, 1) := by decide +kernel
theorem d_Pn_locate_2 : decode b_Pn_locate 2 = .ok (.invokestatic 67, 3) := by decide +kernel
theorem d_Pn_locate_5 : decode b_Pn_locate 5 = .ok (.aload_n 0, 1) := by decide +kernel
theorem d_Pn_locate_6 : decode b_Pn_locate 6 = .ok (.invokevirtual 158, 3) := by decide +kernel
theorem d_Pn_locate_9 : decode b_Pn_locate 9 = .ok (.aload_n 0, 1) := by decide +kernel
theorem d_Pn_locate_10 : decode b_Pn_locate 10 = .ok (.getfield 23, 3) := by decide +kernel
theorem d_Pn_locate_13 : decode b_Pn_locate 13 = .ok (.aload_n 0, 1) := by decide +kernel
theorem d_Pn_locate_14 : decode b_Pn_locate 14 = .ok (.getfield 23, 3) := by decide +kernel
theorem d_Pn_locate_17 : decode b_Pn_locate 17 = .ok (.getfield 71, 3) := by decide +kernel
theorem d_Pn_locate_20 : decode b_Pn_locate 20 = .ok (.iload_n 1, 1) := by decide +kernel
theorem d_Pn_locate_21 : decode b_Pn_locate 21 = .ok (.iload_n 2, 1) := by decide +kernel
theorem d_Pn_locate_22 : decode b_Pn_locate 22 = .ok (.invokevirtual 74, 3) := by decide +kernel
theorem d_Pn_locate_25 : decode b_Pn_locate 25 = .ok (.istore_n 3, 1) := by decide +kernel
theorem d_Pn_locate_26 : decode b_Pn_locate 26 = .ok (.iload_n 3, 1) := by decide +kernel
theorem d_Pn_locate_27 : decode b_Pn_locate 27 = .ok (.iconst (-1), 1) := by decide +kernel
theorem d_Pn_locate_28 : decode b_Pn_locate 28 = .ok (.if_icmp .ne 5, 3) := by decide +kernel
theorem d_Pn_locate_31 : decode b_Pn_locate 31 = .ok (.iconst 0, 1) := by decide +kernel
theorem d_Pn_locate_32 : decode b_Pn_locate 32 = .ok (.ireturn, 1) := by decide +kernel
theorem d_Pn_locate_33 : decode b_Pn_locate 33 = .ok (.aload_n 0, 1) := by decide +kernel
theorem d_Pn_locate_34 : decode b_Pn_locate 34 = .ok (.getfield 23, 3) := by decide +kernel
theorem d_Pn_locate_37 : decode b_Pn_locate 37 = .ok (.iload_n 3, 1) := by decide +kernel
theorem d_Pn_locate_38 : decode b_Pn_locate 38 = .ok (.iload_n 1, 1) := by decide +kernel
theorem d_Pn_locate_39 : decode b_Pn_locate 39 = .ok (.iload_n 2, 1) := by decide +kernel
theorem d_Pn_locate_40 : decode b_Pn_locate 40 = .ok (.invokevirtual 78, 3) := by decide +kernel
theorem d_Pn_locate_43 : decode b_Pn_locate 43 = .ok (.ifCond .eq 12, 3) := by decide +kernel
theorem d_Pn_locate_46 : decode b_Pn_locate 46 = .ok (.aload_n 0, 1) := by decide +kernel
theorem d_Pn_locate_47 : decode b_Pn_locate 47 = .ok (.getfield 52, 3) := by decide +kernel
theorem d_Pn_locate_50 : decode b_Pn_locate 50 = .ok (.iconst 0, 1) := by decide +kernel
theorem d_Pn_locate_51 : decode b_Pn_locate 51 = .ok (.iload_n 3, 1) := by decide +kernel
theorem d_Pn_locate_52 : decode b_Pn_locate 52 = .ok (.iastore, 1) := by decide +kernel
theorem d_Pn_locate_53 : decode b_Pn_locate 53 = .ok (.iconst 3, 1) := by decide +kernel
theorem d_Pn_locate_54 : decode b_Pn_locate 54 = .ok (.ireturn, 1) := by decide +kernel
theorem d_Pn_locate_55 : decode b_Pn_locate 55 = .ok (.aload_n 0, 1) := by decide +kernel
theorem d_Pn_locate_56 : decode b_Pn_locate 56 = .ok (.getfield 32, 3) := by decide +kernel
theorem d_Pn_locate_59 : decode b_Pn_locate 59 = .ok (.invokevirtual 102, 3) := by decide +kernel
theorem d_Pn_locate_62 : decode b_Pn_locate 62 = .ok (.ifCond .eq 12, 3) := by decide +kernel
theorem d_Pn_locate_65 : decode b_Pn_locate 65 = .ok (.aload_n 0, 1) := by decide +kernel
theorem d_Pn_locate_66 : decode b_Pn_locate 66 = .ok (.iload_n 1, 1) := by decide +kernel
theorem d_Pn_locate_67 : decode b_Pn_locate 67 = .ok (.iload_n 2, 1) := by decide +kernel
theorem d_Pn_locate_68 : decode b_Pn_locate 68 = .ok (.invokevirtual 161, 3) := by decide +kernel
theorem d_Pn_locate_71 : decode b_Pn_locate 71 = .ok (.goto 10, 3) := by decide +kernel
theorem d_Pn_locate_74 : decode b_Pn_locate 74 = .ok (.aload_n 0, 1) := by decide +kernel
theorem d_Pn_locate_75 : decode b_Pn_locate 75 = .ok (.iload_n 3, 1) := by decide +kernel
theorem d_Pn_locate_76 : decode b_Pn_locate 76 = .ok (.iload_n 1, 1) := by decide +kernel
theorem d_Pn_locate_77 : decode b_Pn_locate 77 = .ok (.iload_n 2, 1) := by decide +kernel
theorem d_Pn_locate_78 : decode b_Pn_locate 78 = .ok (.invokevirtual 164, 3) := by decide +kernel
theorem d_Pn_locate_81 : decode b_Pn_locate 81 = .ok (.ireturn, 1) := by decide +kernel
theorem d_Pn_located_0 : decode b_Pn_located 0 = .ok (.iload_n 1, 1) := by decide +kernel
theorem d_Pn_located_1 : decode b_Pn_located 1 = .ok (.ifCond .lt 21, 3) := by decide +kernel
theorem d_Pn_located_4 : decode b_Pn_located 4 = .ok (.iload_n 1, 1) := by decide +kernel
theorem d_Pn_located_5 : decode b_Pn_located 5 = .ok (.aload_n 0, 1) := by decide +kernel
theorem d_Pn_located_6 : decode b_Pn_located 6 = .ok (.getfield 52, 3) := by decide +kernel
theorem d_Pn_located_9 : decode b_Pn_located 9 = .ok (.arraylength, 1) := by decide +kernel
theorem d_Pn_located_10 : decode b_Pn_located 10 = .ok (.if_icmp .ge 12, 3) := by decide +kernel
theorem d_Pn_located_13 : decode b_Pn_located 13 = .ok (.aload_n 0, 1) := by decide +kernel
theorem d_Pn_located_14 : decode b_Pn_located 14 = .ok (.getfield 52, 3) := by decide +kernel
theorem d_Pn_located_17 : decode b_Pn_located 17 = .ok (.iload_n 1, 1) := by decide +kernel
theorem d_Pn_located_18 : decode b_Pn_located 18 = .ok (.iaload, 1) := by decide +kernel
theorem d_Pn_located_19 : decode b_Pn_located 19 = .ok (.goto 4, 3) := by decide +kernel
theorem d_Pn_located_22 : decode b_Pn_located 22 = .ok (.iconst (-1), 1) := by decide +kernel
theorem d_Pn_located_23 : decode b_Pn_located 23 = .ok (.ireturn, 1) := by decide +kernel
theorem d_Pn_nearest_0 : decode b_Pn_nearest 0 = .ok (.iload_n 1, 1) := by decide +kernel
theorem d_Pn_nearest_1 : decode b_Pn_nearest 1 = .ok (.iload_n 2, 1) := by decide +kernel
theorem d_Pn_nearest_2 : decode b_Pn_nearest 2 = .ok (.invokestatic 67, 3) := by decide +kernel
theorem d_Pn_nearest_5 : decode b_Pn_nearest 5 = .ok (.aload_n 0, 1) := by decide +kernel
theorem d_Pn_nearest_6 : decode b_Pn_nearest 6 = .ok (.getfield 23, 3) := by decide +kernel
theorem d_Pn_nearest_9 : decode b_Pn_nearest 9 = .ok (.getfield 71, 3) := by decide +kernel
theorem d_Pn_nearest_12 : decode b_Pn_nearest 12 = .ok (.ifCond .ne 13, 3) := by decide +kernel
theorem d_Pn_nearest_15 : decode b_Pn_nearest 15 = .ok (.new 86, 3) := by decide +kernel
theorem d_Pn_nearest_18 : decode b_Pn_nearest 18 = .ok (.dup, 1) := by decide +kernel
theorem d_Pn_nearest_19 : decode b_Pn_nearest 19 = .ok (.ldc 167, 2) := by decide +kernel
theorem d_Pn_nearest_21 : decode b_Pn_nearest 21 = .ok (.invokespecial 90, 3) := by decide +kernel
theorem d_Pn_nearest_24 : decode b_Pn_nearest 24 = .ok (.athrow, 1) := by decide +kernel
theorem d_Pn_nearest_25 : decode b_Pn_nearest 25 = .ok (.aload_n 0, 1) := by decide +kernel
theorem d_Pn_nearest_26 : decode b_Pn_nearest 26 = .ok (.getfield 23, 3) := by decide +kernel
theorem d_Pn_nearest_29 : decode b_Pn_nearest 29 = .ok (.aload_n 0, 1) := by decide +kernel
theorem d_Pn_nearest_30 : decode b_Pn_nearest 30 = .ok (.getfield 23, 3) := by decide +kernel
theorem d_Pn_nearest_33 : decode b_Pn_nearest 33 = .ok (.getfield 71, 3) := by decide +kernel
theorem d_Pn_nearest_36 : decode b_Pn_nearest 36 = .ok (.iload_n 1, 1) := by decide +kernel
theorem d_Pn_nearest_37 : decode b_Pn_nearest 37 = .ok (.iload_n 2, 1) := by decide +kernel
theorem d_Pn_nearest_38 : decode b_Pn_nearest 38 = .ok (.invokevirtual 74, 3) := by decide +kernel
theorem d_Pn_nearest_41 : decode b_Pn_nearest 41 = .ok (.ireturn, 1) := by decide +kernel
theorem d_Pn_closest_0 : decode b_Pn_closest 0 = .ok (.iload_n 1, 1) := by decide +kernel
theorem d_Pn_closest_1 : decode b_Pn_closest 1 = .ok (.ifCond .lt 8, 3) := by decide +kernel
theorem d_Pn_closest_4 : decode b_Pn_closest 4 = .ok (.iload_n 1, 1) := by decide +kernel
theorem d_Pn_closest_5 : decode b_Pn_closest 5 = .ok (.iconst 2, 1) := by decide +kernel
theorem d_Pn_closest_6 : decode b_Pn_closest 6 = .ok (.if_icmp .le 13, 3) := by decide +kernel
theorem d_Pn_closest_9 : decode b_Pn_closest 9 = .ok (.new 121, 3) := by decide +kernel
theorem d_Pn_closest_12 : decode b_Pn_closest 12 = .ok (.dup, 1) := by decide +kernel
theorem d_Pn_closest_13 : decode b_Pn_closest 13 = .ok (.ldc 169, 2) := by decide +kernel
theorem d_Pn_closest_15 : decode b_Pn_closest 15 = .ok (.invokespecial 125, 3) := by decide +kernel
theorem d_Pn_closest_18 : decode b_Pn_closest 18 = .ok (.athrow, 1) := by decide +kernel
theorem d_Pn_closest_19 : decode b_Pn_closest 19 = .ok (.aload_n 0, 1) := by decide +kernel
theorem d_Pn_closest_20 : decode b_Pn_closest 20 = .ok (.getfield 23, 3) := by decide +kernel
theorem d_Pn_closest_23 : decode b_Pn_closest 23 = .ok (.getfield 71, 3) := by decide +kernel
theorem d_Pn_closest_26 : decode b_Pn_closest 26 = .ok (.iconst 2, 1) := by decide +kernel
theorem d_Pn_closest_27 : decode b_Pn_closest 27 = .ok (.if_icmp .ge 13, 3) := by decide +kernel
theorem d_Pn_closest_30 : decode b_Pn_closest 30 = .ok (.new 86, 3) := by decide +kernel
theorem d_Pn_closest_33 : decode b_Pn_closest 33 = .ok (.dup, 1) := by decide +kernel
theorem d_Pn_closest_34 : decode b_Pn_closest 34 = .ok (.ldc 171, 2) := by decide +kernel
theorem d_Pn_closest_36 : decode b_Pn_closest 36 = .ok (.invokespecial 90, 3) := by decide +kernel
theorem d_Pn_closest_39 : decode b_Pn_closest 39 = .ok (.athrow, 1) := by decide +kernel
theorem d_Pn_closest_40 : decode b_Pn_closest 40 = .ok (.iload_n 1, 1) := by decide +kernel
theorem d_Pn_closest_41 : decode b_Pn_closest 41 = .ok (.ifCond .ne 8, 3) := by decide +kernel
theorem d_Pn_closest_44 : decode b_Pn_closest 44 = .ok (.aload_n 0, 1) := by decide +kernel
theorem d_Pn_closest_45 : decode b_Pn_closest 45 = .ok (.getfield 56, 3) := by decide +kernel
theorem d_Pn_closest_48 : decode b_Pn_closest 48 = .ok (.lreturn, 1) := by decide +kernel
theorem d_Pn_closest_49 : decode b_Pn_closest 49 = .ok (.iload_n 1, 1) := by decide +kernel
theorem d_Pn_closest_50 : decode b_Pn_closest 50 = .ok (.iconst 1, 1) := by decide +kernel
theorem d_Pn_closest_51 : decode b_Pn_closest 51 = .ok (.if_icmp .ne 11, 3) := by decide +kernel
theorem d_Pn_closest_54 : decode b_Pn_closest 54 = .ok (.aload_n 0, 1) := by decide +kernel
theorem d_Pn_closest_55 : decode b_Pn_closest 55 = .ok (.getfield 60, 3) := by decide +kernel
theorem d_Pn_closest_58 : decode b_Pn_closest 58 = .ok (.i2l, 1) := by decide +kernel
theorem d_Pn_closest_59 : decode b_Pn_closest 59 = .ok (.goto 8, 3) := by decide +kernel
theorem d_Pn_closest_62 : decode b_Pn_closest 62 = .ok (.aload_n 0, 1) := by decide +kernel
theorem d_Pn_closest_63 : decode b_Pn_closest 63 = .ok (.getfield 64, 3) := by decide +kernel
theorem d_Pn_closest_66 : decode b_Pn_closest 66 = .ok (.i2l, 1) := by decide +kernel
theorem d_Pn_closest_67 : decode b_Pn_closest 67 = .ok (.lreturn, 1) := by decide +kernel
theorem d_Pn_point_0 : decode b_Pn_point 0 = .ok (.aload_n 0, 1) := by decide +kernel
theorem d_Pn_point_1 : decode b_Pn_point 1 = .ok (.iload_n 1, 1) := by decide +kernel
theorem d_Pn_point_2 : decode b_Pn_point 2 = .ok (.invokevirtual 136, 3) := by decide +kernel
theorem d_Pn_point_5 : decode b_Pn_point 5 = .ok (.iload_n 2, 1) := by decide +kernel
theorem d_Pn_point_6 : decode b_Pn_point 6 = .ok (.ifCond .lt 8, 3) := by decide +kernel
theorem d_Pn_point_9 : decode b_Pn_point 9 = .ok (.iload_n 2, 1) := by decide +kernel
theorem d_Pn_point_10 : decode b_Pn_point 10 = .ok (.iconst 1, 1) := by decide +kernel
theorem d_Pn_point_11 : decode b_Pn_point 11 = .ok (.if_icmp .le 13, 3) := by decide +kernel
theorem d_Pn_point_14 : decode b_Pn_point 14 = .ok (.new 121, 3) := by decide +kernel
theorem d_Pn_point_17 : decode b_Pn_point 17 = .ok (.dup, 1) := by decide +kernel
theorem d_Pn_point_18 : decode b_Pn_point 18 = .ok (.ldc 173, 2) := by decide +kernel
theorem d_Pn_point_20 : decode b_Pn_point 20 = .ok (.invokespecial 125, 3) := by decide +kernel
theorem d_Pn_point_23 : decode b_Pn_point 23 = .ok (.athrow, 1) := by decide +kernel
theorem d_Pn_point_24 : decode b_Pn_point 24 = .ok (.iload_n 2, 1) := by decide +kernel
theorem d_Pn_point_25 : decode b_Pn_point 25 = .ok (.ifCond .ne 14, 3) := by decide +kernel
theorem d_Pn_point_28 : decode b_Pn_point 28 = .ok (.aload_n 0, 1) := by decide +kernel
theorem d_Pn_point_29 : decode b_Pn_point 29 = .ok (.getfield 23, 3) := by decide +kernel
theorem d_Pn_point_32 : decode b_Pn_point 32 = .ok (.iload_n 1, 1) := by decide +kernel
theorem d_Pn_point_33 : decode b_Pn_point 33 = .ok (.invokevirtual 175, 3) := by decide +kernel
theorem d_Pn_point_36 : decode b_Pn_point 36 = .ok (.goto 11, 3) := by decide +kernel
theorem d_Pn_point_39 : decode b_Pn_point 39 = .ok (.aload_n 0, 1) := by decide +kernel
theorem d_Pn_point_40 : decode b_Pn_point 40 = .ok (.getfield 23, 3) := by decide +kernel
theorem d_Pn_point_43 : decode b_Pn_point 43 = .ok (.iload_n 1, 1) := by decide +kernel
theorem d_Pn_point_44 : decode b_Pn_point 44 = .ok (.invokevirtual 178, 3) := by decide +kernel
theorem d_Pn_point_47 : decode b_Pn_point 47 = .ok (.ireturn, 1) := by decide +kernel
theorem d_Pn_count_0 : decode b_Pn_count 0 = .ok (.iload_n 1, 1) := by decide +kernel
theorem d_Pn_count_1 : decode b_Pn_count 1 = .ok (.tableswitch 51 0 2 #[27, 35, 43], 27) := by decide +kernel
theorem d_Pn_count_28 : decode b_Pn_count 28 = .ok (.aload_n 0, 1) := by decide +kernel
theorem d_Pn_count_29 : decode b_Pn_count 29 = .ok (.getfield 23, 3) := by decide +kernel
theorem d_Pn_count_32 : decode b_Pn_count 32 = .ok (.getfield 71, 3) := by decide +kernel
theorem d_Pn_count_35 : decode b_Pn_count 35 = .ok (.ireturn, 1) := by decide +kernel
theorem d_Pn_count_36 : decode b_Pn_count 36 = .ok (.aload_n 0, 1) := by decide +kernel
theorem d_Pn_count_37 : decode b_Pn_count 37 = .ok (.getfield 32, 3) := by decide +kernel
theorem d_Pn_count_40 : decode b_Pn_count 40 = .ok (.invokevirtual 117, 3) := by decide +kernel
theorem d_Pn_count_43 : decode b_Pn_count 43 = .ok (.ireturn, 1) := by decide +kernel
theorem d_Pn_count_44 : decode b_Pn_count 44 = .ok (.aload_n 0, 1) := by decide +kernel
theorem d_Pn_count_45 : decode b_Pn_count 45 = .ok (.getfield 48, 3) := by decide +kernel
theorem d_Pn_count_48 : decode b_Pn_count 48 = .ok (.invokevirtual 150, 3) := by decide +kernel
theorem d_Pn_count_51 : decode b_Pn_count 51 = .ok (.ireturn, 1) := by decide +kernel
theorem d_Pn_count_52 : decode b_Pn_count 52 = .ok (.iconst (-1), 1) := by decide +kernel
theorem d_Pn_count_53 : decode b_Pn_count 53 = .ok (.ireturn, 1) := by decide +kernel
theorem d_Md_thrown_0 : decode b_Md_thrown 0 = .ok (.aload_n 0, 1) := by decide +kernel
theorem d_Md_thrown_1 : decode b_Md_thrown 1 = .ok (.getfield 47, 3) := by decide +kernel
theorem d_Md_thrown_4 : decode b_Md_thrown 4 = .ok (.ireturn, 1) := by decide +kernel
theorem d_Md_fail_0 : decode b_Md_fail 0 = .ok (.aload_n 0, 1) := by decide +kernel
theorem d_Md_fail_1 : decode b_Md_fail 1 = .ok (.iload_n 1, 1) := by decide +kernel
theorem d_Md_fail_2 : decode b_Md_fail 2 = .ok (.putfield 47, 3) := by decide +kernel
theorem d_Md_fail_5 : decode b_Md_fail 5 = .ok (.iconst 0, 1) := by decide +kernel
theorem d_Md_fail_6 : decode b_Md_fail 6 = .ok (.ireturn, 1) := by decide +kernel
theorem d_Md_within_0 : decode b_Md_within 0 = .ok (.iload_n 0, 1) := by decide +kernel
theorem d_Md_within_1 : decode b_Md_within 1 = .ok (.iload_n 1, 1) := by decide +kernel
theorem d_Md_within_2 : decode b_Md_within 2 = .ok (.if_icmp .lt 12, 3) := by decide +kernel
theorem d_Md_within_5 : decode b_Md_within 5 = .ok (.iload_n 0, 1) := by decide +kernel
theorem d_Md_within_6 : decode b_Md_within 6 = .ok (.iload_n 2, 1) := by decide +kernel
theorem d_Md_within_7 : decode b_Md_within 7 = .ok (.if_icmp .gt 7, 3) := by decide +kernel
theorem d_Md_within_10 : decode b_Md_within 10 = .ok (.iconst 1, 1) := by decide +kernel
theorem d_Md_within_11 : decode b_Md_within 11 = .ok (.goto 4, 3) := by decide +kernel
theorem d_Md_within_14 : decode b_Md_within 14 = .ok (.iconst 0, 1) := by decide +kernel
theorem d_Md_within_15 : decode b_Md_within 15 = .ok (.ireturn, 1) := by decide +kernel
theorem d_Md_isFar_0 : decode b_Md_isFar 0 = .ok (.iload_n 0, 1) := by decide +kernel
theorem d_Md_isFar_1 : decode b_Md_isFar 1 = .ok (.ldc 50, 2) := by decide +kernel
theorem d_Md_isFar_3 : decode b_Md_isFar 3 = .ok (.ldc 51, 2) := by decide +kernel
theorem d_Md_isFar_5 : decode b_Md_isFar 5 = .ok (.invokestatic 52, 3) := by decide +kernel
theorem d_Md_isFar_8 : decode b_Md_isFar 8 = .ok (.ifCond .eq 14, 3) := by decide +kernel
theorem d_Md_isFar_11 : decode b_Md_isFar 11 = .ok (.iload_n 1, 1) := by decide +kernel
theorem d_Md_isFar_12 : decode b_Md_isFar 12 = .ok (.ldc 50, 2) := by decide +kernel
theorem d_Md_isFar_14 : decode b_Md_isFar 14 = .ok (.ldc 51, 2) := by decide +kernel
theorem d_Md_isFar_16 : decode b_Md_isFar 16 = .ok (.invokestatic 52, 3) := by decide +kernel
theorem d_Md_isFar_19 : decode b_Md_isFar 19 = .ok (.ifCond .ne 7, 3) := by decide +kernel
theorem d_Md_isFar_22 : decode b_Md_isFar 22 = .ok (.iconst 1, 1) := by decide +kernel
theorem d_Md_isFar_23 : decode b_Md_isFar 23 = .ok (.goto 4, 3) := by decide +kernel
theorem d_Md_isFar_26 : decode b_Md_isFar 26 = .ok (.iconst 0, 1) := by decide +kernel
theorem d_Md_isFar_27 : decode b_Md_isFar 27 = .ok (.ireturn, 1) := by decide +kernel
theorem d_Md_sign_0 : decode b_Md_sign 0 = .ok (.lload_n 0, 1) := by decide +kernel
theorem d_Md_sign_1 : decode b_Md_sign 1 = .ok (.lconst 0, 1) := by decide +kernel
theorem d_Md_sign_2 : decode b_Md_sign 2 = .ok (.lcmp, 1) := by decide +kernel
theorem d_Md_sign_3 : decode b_Md_sign 3 = .ok (.ifCond .le 7, 3) := by decide +kernel
theorem d_Md_sign_6 : decode b_Md_sign 6 = .ok (.iconst 1, 1) := by decide +kernel
theorem d_Md_sign_7 : decode b_Md_sign 7 = .ok (.goto 14, 3) := by decide +kernel
theorem d_Md_sign_10 : decode b_Md_sign 10 = .ok (.lload_n 0, 1) := by decide +kernel
theorem d_Md_sign_11 : decode b_Md_sign 11 = .ok (.lconst 0, 1) := by decide +kernel
theorem d_Md_sign_12 : decode b_Md_sign 12 = .ok (.lcmp, 1) := by decide +kernel
theorem d_Md_sign_13 : decode b_Md_sign 13 = .ok (.ifCond .ge 7, 3) := by decide +kernel
theorem d_Md_sign_16 : decode b_Md_sign 16 = .ok (.iconst (-1), 1) := by decide +kernel
theorem d_Md_sign_17 : decode b_Md_sign 17 = .ok (.goto 4, 3) := by decide +kernel
theorem d_Md_sign_20 : decode b_Md_sign 20 = .ok (.iconst 0, 1) := by decide +kernel
theorem d_Md_sign_21 : decode b_Md_sign 21 = .ok (.ireturn, 1) := by decide +kernel
theorem d_Md_cross_0 : decode b_Md_cross 0 = .ok (.lload_n 0, 1) := by decide +kernel
theorem d_Md_cross_1 : decode b_Md_cross 1 = .ok (.lload 6, 2) := by decide +kernel
theorem d_Md_cross_3 : decode b_Md_cross 3 = .ok (.lmul, 1) := by decide +kernel
theorem d_Md_cross_4 : decode b_Md_cross 4 = .ok (.lload_n 2, 1) := by decide +kernel
theorem d_Md_cross_5 : decode b_Md_cross 5 = .ok (.lload 4, 2) := by decide +kernel
theorem d_Md_cross_7 : decode b_Md_cross 7 = .ok (.lmul, 1) := by decide +kernel
theorem d_Md_cross_8 : decode b_Md_cross 8 = .ok (.lsub, 1) := by decide +kernel
theorem d_Md_cross_9 : decode b_Md_cross 9 = .ok (.lreturn, 1) := by decide +kernel
theorem d_Md_side_0 : decode b_Md_side 0 = .ok (.aload_n 0, 1) := by decide +kernel
theorem d_Md_side_1 : decode b_Md_side 1 = .ok (.getfield 7, 3) := by decide +kernel
theorem d_Md_side_4 : decode b_Md_side 4 = .ok (.iload_n 2, 1) := by decide +kernel
theorem d_Md_side_5 : decode b_Md_side 5 = .ok (.iaload, 1) := by decide +kernel
theorem d_Md_side_6 : decode b_Md_side 6 = .ok (.i2l, 1) := by decide +kernel
theorem d_Md_side_7 : decode b_Md_side 7 = .ok (.aload_n 0, 1) := by decide +kernel
theorem d_Md_side_8 : decode b_Md_side 8 = .ok (.getfield 7, 3) := by decide +kernel
theorem d_Md_side_11 : decode b_Md_side 11 = .ok (.iload_n 1, 1) := by decide +kernel
theorem d_Md_side_12 : decode b_Md_side 12 = .ok (.iaload, 1) := by decide +kernel
theorem d_Md_side_13 : decode b_Md_side 13 = .ok (.i2l, 1) := by decide +kernel
theorem d_Md_side_14 : decode b_Md_side 14 = .ok (.lsub, 1) := by decide +kernel
theorem d_Md_side_15 : decode b_Md_side 15 = .ok (.aload_n 0, 1) := by decide +kernel
theorem d_Md_side_16 : decode b_Md_side 16 = .ok (.getfield 13, 3) := by decide +kernel
theorem d_Md_side_19 : decode b_Md_side 19 = .ok (.iload_n 2, 1) := by decide +kernel
theorem d_Md_side_20 : decode b_Md_side 20 = .ok (.iaload, 1) := by decide +kernel
theorem d_Md_side_21 : decode b_Md_side 21 = .ok (.i2l, 1) := by decide +kernel
theorem d_Md_side_22 : decode b_Md_side 22 = .ok (.aload_n 0, 1) := by decide +kernel
theorem d_Md_side_23 : decode b_Md_side 23 = .ok (.getfield 13, 3) := by decide +kernel
theorem d_Md_side_26 : decode b_Md_side 26 = .ok (.iload_n 1, 1) := by decide +kernel
theorem d_Md_side_27 : decode b_Md_side 27 = .ok (.iaload, 1) := by decide +kernel
theorem d_Md_side_28 : decode b_Md_side 28 = .ok (.i2l, 1) := by decide +kernel
theorem d_Md_side_29 : decode b_Md_side 29 = .ok (.lsub, 1) := by decide +kernel
theorem d_Md_side_30 : decode b_Md_side 30 = .ok (.iload_n 3, 1) := by decide +kernel
theorem d_Md_side_31 : decode b_Md_side 31 = .ok (.i2l, 1) := by decide +kernel
theorem d_Md_side_32 : decode b_Md_side 32 = .ok (.aload_n 0, 1) := by decide +kernel
theorem d_Md_side_33 : decode b_Md_side 33 = .ok (.getfield 7, 3) := by decide +kernel
theorem d_Md_side_36 : decode b_Md_side 36 = .ok (.iload_n 1, 1) := by decide +kernel
theorem d_Md_side_37 : decode b_Md_side 37 = .ok (.iaload, 1) := by decide +kernel
theorem d_Md_side_38 : decode b_Md_side 38 = .ok (.i2l, 1) := by decide +kernel
theorem d_Md_side_39 : decode b_Md_side 39 = .ok (.lsub, 1) := by decide +kernel
theorem d_Md_side_40 : decode b_Md_side 40 = .ok (.iload 4, 2) := by decide +kernel
theorem d_Md_side_42 : decode b_Md_side 42 = .ok (.i2l, 1) := by decide +kernel
theorem d_Md_side_43 : decode b_Md_side 43 = .ok (.aload_n 0, 1) := by decide +kernel
theorem d_Md_side_44 : decode b_Md_side 44 = .ok (.getfield 13, 3) := by decide +kernel
theorem d_Md_side_47 : decode b_Md_side 47 = .ok (.iload_n 1, 1) := by decide +kernel
theorem d_Md_side_48 : decode b_Md_side 48 = .ok (.iaload, 1) := by decide +kernel
theorem d_Md_side_49 : decode b_Md_side 49 = .ok (.i2l, 1) := by decide +kernel
theorem d_Md_side_50 : decode b_Md_side 50 = .ok (.lsub, 1) := by decide +kernel
theorem d_Md_side_51 : decode b_Md_side 51 = .ok (.invokestatic 56, 3) := by decide +kernel
theorem d_Md_side_54 : decode b_Md_side 54 = .ok (.invokestatic 60, 3) := by decide +kernel
theorem d_Md_side_57 : decode b_Md_side 57 = .ok (.ireturn, 1) := by decide +kernel
theorem d_Md_sideOf_0 : decode b_Md_sideOf 0 = .ok (.aload_n 0, 1) := by decide +kernel
theorem d_Md_sideOf_1 : decode b_Md_sideOf 1 = .ok (.iload_n 1, 1) := by decide +kernel
theorem d_Md_sideOf_2 : decode b_Md_sideOf 2 = .ok (.iload_n 2, 1) := by decide +kernel
theorem d_Md_sideOf_3 : decode b_Md_sideOf 3 = .ok (.aload_n 0, 1) := by decide +kernel
theorem d_Md_sideOf_4 : decode b_Md_sideOf 4 = .ok (.getfield 7, 3) := by decide +kernel
theorem d_Md_sideOf_7 : decode b_Md_sideOf 7 = .ok (.iload_n 3, 1) := by decide +kernel
theorem d_Md_sideOf_8 : decode b_Md_sideOf 8 = .ok (.iaload, 1) := by decide +kernel
theorem d_Md_sideOf_9 : decode b_Md_sideOf 9 = .ok (.aload_n 0, 1) := by decide +kernel
theorem d_Md_sideOf_10 : decode b_Md_sideOf 10 = .ok (.getfield 13, 3) := by decide +kernel
theorem d_Md_sideOf_13 : decode b_Md_sideOf 13 = .ok (.iload_n 3, 1) := by decide +kernel
theorem d_Md_sideOf_14 : decode b_Md_sideOf 14 = .ok (.iaload, 1) := by decide +kernel
theorem d_Md_sideOf_15 : decode b_Md_sideOf 15 = .ok (.invokevirtual 64, 3) := by decide +kernel
theorem d_Md_sideOf_18 : decode b_Md_sideOf 18 = .ok (.ireturn, 1) := by decide +kernel
theorem d_Md_product_0 : decode b_Md_product 0 = .ok (.lload_n 1, 1) := by decide +kernel
theorem d_Md_product_1 : decode b_Md_product 1 = .ok (.bipush 42, 2) := by decide +kernel
theorem d_Md_product_3 : decode b_Md_product 3 = .ok (.lshr, 1) := by decide +kernel
theorem d_Md_product_4 : decode b_Md_product 4 = .ok (.lstore 5, 2) := by decide +kernel
theorem d_Md_product_6 : decode b_Md_product 6 = .ok (.lload_n 1, 1) := by decide +kernel
theorem d_Md_product_7 : decode b_Md_product 7 = .ok (.bipush 21, 2) := by decide +kernel
theorem d_Md_product_9 : decode b_Md_product 9 = .ok (.lshr, 1) := by decide +kernel
theorem d_Md_product_10 : decode b_Md_product 10 = .ok (.ldc2_w 68, 3) := by decide +kernel
theorem d_Md_product_13 : decode b_Md_product 13 = .ok (.land, 1) := by decide +kernel
theorem d_Md_product_14 : decode b_Md_product 14 = .ok (.lstore 7, 2) := by decide +kernel
theorem d_Md_product_16 : decode b_Md_product 16 = .ok (.lload_n 1, 1) := by decide +kernel
theorem d_Md_product_17 : decode b_Md_product 17 = .ok (.ldc2_w 68, 3) := by decide +kernel
theorem d_Md_product_20 : decode b_Md_product 20 = .ok (.land, 1) := by decide +kernel
theorem d_Md_product_21 : decode b_Md_product 21 = .ok (.lstore 9, 2) := by decide +kernel
theorem d_Md_product_23 : decode b_Md_product 23 = .ok (.lload_n 3, 1) := by decide +kernel
theorem d_Md_product_24 : decode b_Md_product 24 = .ok (.bipush 42, 2) := by decide +kernel
theorem d_Md_product_26 : decode b_Md_product 26 = .ok (.lshr, 1) := by decide +kernel
theorem d_Md_product_27 : decode b_Md_product 27 = .ok (.lstore 11, 2) := by decide +kernel
theorem d_Md_product_29 : decode b_Md_product 29 = .ok (.lload_n 3, 1) := by decide +kernel
theorem d_Md_product_30 : decode b_Md_product 30 = .ok (.bipush 21, 2) := by decide +kernel
theorem d_Md_product_32 : decode b_Md_product 32 = .ok (.lshr, 1) := by decide +kernel
theorem d_Md_product_33 : decode b_Md_product 33 = .ok (.ldc2_w 68, 3) := by decide +kernel
theorem d_Md_product_36 : decode b_Md_product 36 = .ok (.land, 1) := by decide +kernel
theorem d_Md_product_37 : decode b_Md_product 37 = .ok (.lstore 13, 2) := by decide +kernel
theorem d_Md_product_39 : decode b_Md_product 39 = .ok (.lload_n 3, 1) := by decide +kernel
theorem d_Md_product_40 : decode b_Md_product 40 = .ok (.ldc2_w 68, 3) := by decide +kernel
theorem d_Md_product_43 : decode b_Md_product 43 = .ok (.land, 1) := by decide +kernel
theorem d_Md_product_44 : decode b_Md_product 44 = .ok (.lstore 15, 2) := by decide +kernel
theorem d_Md_product_46 : decode b_Md_product 46 = .ok (.aload_n 0, 1) := by decide +kernel
theorem d_Md_product_47 : decode b_Md_product 47 = .ok (.dup, 1) := by decide +kernel
theorem d_Md_product_48 : decode b_Md_product 48 = .ok (.getfield 70, 3) := by decide +kernel
theorem d_Md_product_51 : decode b_Md_product 51 = .ok (.lload 9, 2) := by decide +kernel
theorem d_Md_product_53 : decode b_Md_product 53 = .ok (.lload 15, 2) := by decide +kernel
theorem d_Md_product_55 : decode b_Md_product 55 = .ok (.lmul, 1) := by decide +kernel
theorem d_Md_product_56 : decode b_Md_product 56 = .ok (.ladd, 1) := by decide +kernel
theorem d_Md_product_57 : decode b_Md_product 57 = .ok (.putfield 70, 3) := by decide +kernel
theorem d_Md_product_60 : decode b_Md_product 60 = .ok (.aload_n 0, 1) := by decide +kernel
theorem d_Md_product_61 : decode b_Md_product 61 = .ok (.dup, 1) := by decide +kernel
theorem d_Md_product_62 : decode b_Md_product 62 = .ok (.getfield 74, 3) := by decide +kernel
theorem d_Md_product_65 : decode b_Md_product 65 = .ok (.lload 7, 2) := by decide +kernel
theorem d_Md_product_67 : decode b_Md_product 67 = .ok (.lload 15, 2) := by decide +kernel
theorem d_Md_product_69 : decode b_Md_product 69 = .ok (.lmul, 1) := by decide +kernel
theorem d_Md_product_70 : decode b_Md_product 70 = .ok (.lload 9, 2) := by decide +kernel
theorem d_Md_product_72 : decode b_Md_product 72 = .ok (.lload 13, 2) := by decide +kernel
theorem d_Md_product_74 : decode b_Md_product 74 = .ok (.lmul, 1) := by decide +kernel
theorem d_Md_product_75 : decode b_Md_product 75 = .ok (.ladd, 1) := by decide +kernel
theorem d_Md_product_76 : decode b_Md_product 76 = .ok (.ladd, 1) := by decide +kernel
theorem d_Md_product_77 : decode b_Md_product 77 = .ok (.putfield 74, 3) := by decide +kernel
theorem d_Md_product_80 : decode b_Md_product 80 = .ok (.aload_n 0, 1) := by decide +kernel
theorem d_Md_product_81 : decode b_Md_product 81 = .ok (.dup, 1) := by decide +kernel
theorem d_Md_product_82 : decode b_Md_product 82 = .ok (.getfield 77, 3) := by decide +kernel
theorem d_Md_product_85 : decode b_Md_product 85 = .ok (.lload 5, 2) := by decide +kernel
theorem d_Md_product_87 : decode b_Md_product 87 = .ok (.lload 15, 2) := by decide +kernel
theorem d_Md_product_89 : decode b_Md_product 89 = .ok (.lmul, 1) := by decide +kernel
theorem d_Md_product_90 : decode b_Md_product 90 = .ok (.lload 7, 2) := by decide +kernel
theorem d_Md_product_92 : decode b_Md_product 92 = .ok (.lload 13, 2) := by decide +kernel
theorem d_Md_product_94 : decode b_Md_product 94 = .ok (.lmul, 1) := by decide +kernel
theorem d_Md_product_95 : decode b_Md_product 95 = .ok (.ladd, 1) := by decide +kernel
theorem d_Md_product_96 : decode b_Md_product 96 = .ok (.lload 9, 2) := by decide +kernel
theorem d_Md_product_98 : decode b_Md_product 98 = .ok (.lload 11, 2) := by decide +kernel
theorem d_Md_product_100 : decode b_Md_product 100 = .ok (.lmul, 1) := by decide +kernel
theorem d_Md_product_101 : decode b_Md_product 101 = .ok (.ladd, 1) := by decide +kernel
theorem d_Md_product_102 : decode b_Md_product 102 = .ok (.ladd, 1) := by decide +kernel
theorem d_Md_product_103 : decode b_Md_product 103 = .ok (.putfield 77, 3) := by decide +kernel
theorem d_Md_product_106 : decode b_Md_product 106 = .ok (.aload_n 0, 1) := by decide +kernel
theorem d_Md_product_107 : decode b_Md_product 107 = .ok (.dup, 1) := by decide +kernel
theorem d_Md_product_108 : decode b_Md_product 108 = .ok (.getfield 80, 3) := by decide +kernel
theorem d_Md_product_111 : decode b_Md_product 111 = .ok (.lload 5, 2) := by decide +kernel
theorem d_Md_product_113 : decode b_Md_product 113 = .ok (.lload 13, 2) := by decide +kernel
theorem d_Md_product_115 : decode b_Md_product 115 = .ok (.lmul, 1) := by decide +kernel
theorem d_Md_product_116 : decode b_Md_product 116 = .ok (.lload 7, 2) := by decide +kernel
theorem d_Md_product_118 : decode b_Md_product 118 = .ok (.lload 11, 2) := by decide +kernel
theorem d_Md_product_120 : decode b_Md_product 120 = .ok (.lmul, 1) := by decide +kernel
theorem d_Md_product_121 : decode b_Md_product 121 = .ok (.ladd, 1) := by decide +kernel
theorem d_Md_product_122 : decode b_Md_product 122 = .ok (.ladd, 1) := by decide +kernel
theorem d_Md_product_123 : decode b_Md_product 123 = .ok (.putfield 80, 3) := by decide +kernel
theorem d_Md_product_126 : decode b_Md_product 126 = .ok (.aload_n 0, 1) := by decide +kernel
theorem d_Md_product_127 : decode b_Md_product 127 = .ok (.dup, 1) := by decide +kernel
theorem d_Md_product_128 : decode b_Md_product 128 = .ok (.getfield 83, 3) := by decide +kernel
theorem d_Md_product_131 : decode b_Md_product 131 = .ok (.lload 5, 2) := by decide +kernel
theorem d_Md_product_133 : decode b_Md_product 133 = .ok (.lload 11, 2) := by decide +kernel
theorem d_Md_product_135 : decode b_Md_product 135 = .ok (.lmul, 1) := by decide +kernel
theorem d_Md_product_136 : decode b_Md_product 136 = .ok (.ladd, 1) := by decide +kernel
theorem d_Md_product_137 : decode b_Md_product 137 = .ok (.putfield 83, 3) := by decide +kernel
theorem d_Md_product_140 : decode b_Md_product 140 = .ok (.return_, 1) := by decide +kernel
theorem d_Md_signOfSum_0 : decode b_Md_signOfSum 0 = .ok (.aload_n 0, 1) := by decide +kernel
theorem d_Md_signOfSum_1 : decode b_Md_signOfSum 1 = .ok (.dup, 1) := by decide +kernel
theorem d_Md_signOfSum_2 : decode b_Md_signOfSum 2 = .ok (.getfield 74, 3) := by decide +kernel
theorem d_Md_signOfSum_5 : decode b_Md_signOfSum 5 = .ok (.aload_n 0, 1) := by decide +kernel
theorem d_Md_signOfSum_6 : decode b_Md_signOfSum 6 = .ok (.getfield 70, 3) := by decide +kernel
theorem d_Md_signOfSum_9 : decode b_Md_signOfSum 9 = .ok (.bipush 21, 2) := by decide +kernel
theorem d_Md_signOfSum_11 : decode b_Md_signOfSum 11 = .ok (.lshr, 1) := by decide +kernel
theorem d_Md_signOfSum_12 : decode b_Md_signOfSum 12 = .ok (.ladd, 1) := by decide +kernel
theorem d_Md_signOfSum_13 : decode b_Md_signOfSum 13 = .ok (.putfield 74, 3) := by decide +kernel
theorem d_Md_signOfSum_16 : decode b_Md_signOfSum 16 = .ok (.aload_n 0, 1) := by decide +kernel
theorem d_Md_signOfSum_17 : decode b_Md_signOfSum 17 = .ok (.aload_n 0, 1) := by decide +kernel
theorem d_Md_signOfSum_18 : decode b_Md_signOfSum 18 = .ok (.getfield 70, 3) := by decide +kernel
theorem d_Md_signOfSum_21 : decode b_Md_signOfSum 21 = .ok (.ldc2_w 68, 3) := by decide +kernel
theorem d_Md_signOfSum_24 : decode b_Md_signOfSum 24 = .ok (.land, 1) := by decide +kernel
theorem d_Md_signOfSum_25 : decode b_Md_signOfSum 25 = .ok (.putfield 70, 3) := by decide +kernel
theorem d_Md_signOfSum_28 : decode b_Md_signOfSum 28 = .ok (.aload_n 0, 1) := by decide +kernel
theorem d_Md_signOfSum_29 : decode b_Md_signOfSum 29 = .ok (.dup, 1) := by decide +kernel
theorem d_Md_signOfSum_30 : decode b_Md_signOfSum 30 = .ok (.getfield 77, 3) := by decide +kernel
theorem d_Md_signOfSum_33 : decode b_Md_signOfSum 33 = .ok (.aload_n 0, 1) := by decide +kernel
theorem d_Md_signOfSum_34 : decode b_Md_signOfSum 34 = .ok (.getfield 74, 3) := by decide +kernel
theorem d_Md_signOfSum_37 : decode b_Md_signOfSum 37 = .ok (.bipush 21, 2) := by decide +kernel
theorem d_Md_signOfSum_39 : decode b_Md_signOfSum 39 = .ok (.lshr, 1) := by decide +kernel
theorem d_Md_signOfSum_40 : decode b_Md_signOfSum 40 = .ok (.ladd, 1) := by decide +kernel
theorem d_Md_signOfSum_41 : decode b_Md_signOfSum 41 = .ok (.putfield 77, 3) := by decide +kernel
theorem d_Md_signOfSum_44 : decode b_Md_signOfSum 44 = .ok (.aload_n 0, 1) := by decide +kernel
theorem d_Md_signOfSum_45 : decode b_Md_signOfSum 45 = .ok (.aload_n 0, 1) := by decide +kernel
theorem d_Md_signOfSum_46 : decode b_Md_signOfSum 46 = .ok (.getfield 74, 3) := by decide +kernel
theorem d_Md_signOfSum_49 : decode b_Md_signOfSum 49 = .ok (.ldc2_w 68, 3) := by decide +kernel
theorem d_Md_signOfSum_52 : decode b_Md_signOfSum 52 = .ok (.land, 1) := by decide +kernel
theorem d_Md_signOfSum_53 : decode b_Md_signOfSum 53 = .ok (.putfield 74, 3) := by decide +kernel
theorem d_Md_signOfSum_56 : decode b_Md_signOfSum 56 = .ok (.aload_n 0, 1) := by decide +kernel
theorem d_Md_signOfSum_57 : decode b_Md_signOfSum 57 = .ok (.dup, 1) := by decide +kernel
theorem d_Md_signOfSum_58 : decode b_Md_signOfSum 58 = .ok (.getfield 80, 3) := by decide +kernel
theorem d_Md_signOfSum_61 : decode b_Md_signOfSum 61 = .ok (.aload_n 0, 1) := by decide +kernel
theorem d_Md_signOfSum_62 : decode b_Md_signOfSum 62 = .ok (.getfield 77, 3) := by decide +kernel
theorem d_Md_signOfSum_65 : decode b_Md_signOfSum 65 = .ok (.bipush 21, 2) := by decide +kernel
theorem d_Md_signOfSum_67 : decode b_Md_signOfSum 67 = .ok (.lshr, 1) := by decide +kernel
theorem d_Md_signOfSum_68 : decode b_Md_signOfSum 68 = .ok (.ladd, 1) := by decide +kernel
theorem d_Md_signOfSum_69 : decode b_Md_signOfSum 69 = .ok (.putfield 80, 3) := by decide +kernel
theorem d_Md_signOfSum_72 : decode b_Md_signOfSum 72 = .ok (.aload_n 0, 1) := by decide +kernel
theorem d_Md_signOfSum_73 : decode b_Md_signOfSum 73 = .ok (.aload_n 0, 1) := by decide +kernel
theorem d_Md_signOfSum_74 : decode b_Md_signOfSum 74 = .ok (.getfield 77, 3) := by decide +kernel
theorem d_Md_signOfSum_77 : decode b_Md_signOfSum 77 = .ok (.ldc2_w 68, 3) := by decide +kernel
theorem d_Md_signOfSum_80 : decode b_Md_signOfSum 80 = .ok (.land, 1) := by decide +kernel
theorem d_Md_signOfSum_81 : decode b_Md_signOfSum 81 = .ok (.putfield 77, 3) := by decide +kernel
theorem d_Md_signOfSum_84 : decode b_Md_signOfSum 84 = .ok (.aload_n 0, 1) := by decide +kernel
theorem d_Md_signOfSum_85 : decode b_Md_signOfSum 85 = .ok (.dup, 1) := by decide +kernel
theorem d_Md_signOfSum_86 : decode b_Md_signOfSum 86 = .ok (.getfield 83, 3) := by decide +kernel
theorem d_Md_signOfSum_89 : decode b_Md_signOfSum 89 = .ok (.aload_n 0, 1) := by decide +kernel
theorem d_Md_signOfSum_90 : decode b_Md_signOfSum 90 = .ok (.getfield 80, 3) := by decide +kernel
theorem d_Md_signOfSum_93 : decode b_Md_signOfSum 93 = .ok (.bipush 21, 2) := by decide +kernel
theorem d_Md_signOfSum_95 : decode b_Md_signOfSum 95 = .ok (.lshr, 1) := by decide +kernel
theorem d_Md_signOfSum_96 : decode b_Md_signOfSum 96 = .ok (.ladd, 1) := by decide +kernel
theorem d_Md_signOfSum_97 : decode b_Md_signOfSum 97 = .ok (.putfield 83, 3) := by decide +kernel
theorem d_Md_signOfSum_100 : decode b_Md_signOfSum 100 = .ok (.aload_n 0, 1) := by decide +kernel
theorem d_Md_signOfSum_101 : decode b_Md_signOfSum 101 = .ok (.aload_n 0, 1) := by decide +kernel
theorem d_Md_signOfSum_102 : decode b_Md_signOfSum 102 = .ok (.getfield 80, 3) := by decide +kernel
theorem d_Md_signOfSum_105 : decode b_Md_signOfSum 105 = .ok (.ldc2_w 68, 3) := by decide +kernel
theorem d_Md_signOfSum_108 : decode b_Md_signOfSum 108 = .ok (.land, 1) := by decide +kernel
theorem d_Md_signOfSum_109 : decode b_Md_signOfSum 109 = .ok (.putfield 80, 3) := by decide +kernel
theorem d_Md_signOfSum_112 : decode b_Md_signOfSum 112 = .ok (.aload_n 0, 1) := by decide +kernel
theorem d_Md_signOfSum_113 : decode b_Md_signOfSum 113 = .ok (.getfield 83, 3) := by decide +kernel
theorem d_Md_signOfSum_116 : decode b_Md_signOfSum 116 = .ok (.lconst 0, 1) := by decide +kernel
theorem d_Md_signOfSum_117 : decode b_Md_signOfSum 117 = .ok (.lcmp, 1) := by decide +kernel
theorem d_Md_signOfSum_118 : decode b_Md_signOfSum 118 = .ok (.ifCond .eq 11, 3) := by decide +kernel
theorem d_Md_signOfSum_121 : decode b_Md_signOfSum 121 = .ok (.aload_n 0, 1) := by decide +kernel
theorem d_Md_signOfSum_122 : decode b_Md_signOfSum 122 = .ok (.getfield 83, 3) := by decide +kernel
theorem d_Md_signOfSum_125 : decode b_Md_signOfSum 125 = .ok (.invokestatic 60, 3) := by decide +kernel
theorem d_Md_signOfSum_128 : decode b_Md_signOfSum 128 = .ok (.ireturn, 1) := by decide +kernel
theorem d_Md_signOfSum_129 : decode b_Md_signOfSum 129 = .ok (.aload_n 0, 1) := by decide +kernel
theorem d_Md_signOfSum_130 : decode b_Md_signOfSum 130 = .ok (.getfield 70, 3) := by decide +kernel
theorem d_Md_signOfSum_133 : decode b_Md_signOfSum 133 = .ok (.aload_n 0, 1) := by decide +kernel
theorem d_Md_signOfSum_134 : decode b_Md_signOfSum 134 = .ok (.getfield 74, 3) := by decide +kernel
theorem d_Md_signOfSum_137 : decode b_Md_signOfSum 137 = .ok (.ladd, 1) := by decide +kernel
theorem d_Md_signOfSum_138 : decode b_Md_signOfSum 138 = .ok (.aload_n 0, 1) := by decide +kernel
theorem d_Md_signOfSum_139 : decode b_Md_signOfSum 139 = .ok (.getfield 77, 3) := by decide +kernel
theorem d_Md_signOfSum_142 : decode b_Md_signOfSum 142 = .ok (.ladd, 1) := by decide +kernel
theorem d_Md_signOfSum_143 : decode b_Md_signOfSum 143 = .ok (.aload_n 0, 1) := by decide +kernel
theorem d_Md_signOfSum_144 : decode b_Md_signOfSum 144 = .ok (.getfield 80, 3) := by decide +kernel
theorem d_Md_signOfSum_147 : decode b_Md_signOfSum 147 = .ok (.ladd, 1) := by decide +kernel
theorem d_Md_signOfSum_148 : decode b_Md_signOfSum 148 = .ok (.lconst 0, 1) := by decide +kernel
theorem d_Md_signOfSum_149 : decode b_Md_signOfSum 149 = .ok (.lcmp, 1) := by decide +kernel
theorem d_Md_signOfSum_150 : decode b_Md_signOfSum 150 = .ok (.ifCond .le 7, 3) := by decide +kernel
theorem d_Md_signOfSum_153 : decode b_Md_signOfSum 153 = .ok (.iconst 1, 1) := by decide +kernel
theorem d_Md_signOfSum_154 : decode b_Md_signOfSum 154 = .ok (.goto 4, 3) := by decide +kernel
theorem d_Md_signOfSum_157 : decode b_Md_signOfSum 157 = .ok (.iconst 0, 1) := by decide +kernel
theorem d_Md_signOfSum_158 : decode b_Md_signOfSum 158 = .ok (.ireturn, 1) := by decide +kernel
theorem d_Md_part_0 : decode b_Md_part 0 = .ok (.aload_n 0, 1) := by decide +kernel
theorem d_Md_part_1 : decode b_Md_part 1 = .ok (.getfield 7, 3) := by decide +kernel
theorem d_Md_part_4 : decode b_Md_part 4 = .ok (.iload_n 3, 1) := by decide +kernel
theorem d_Md_part_5 : decode b_Md_part 5 = .ok (.iaload, 1) := by decide +kernel
theorem d_Md_part_6 : decode b_Md_part 6 = .ok (.i2l, 1) := by decide +kernel
theorem d_Md_part_7 : decode b_Md_part 7 = .ok (.aload_n 0, 1) := by decide +kernel
theorem d_Md_part_8 : decode b_Md_part 8 = .ok (.getfield 7, 3) := by decide +kernel
theorem d_Md_part_11 : decode b_Md_part 11 = .ok (.iload 4, 2) := by decide +kernel
theorem d_Md_part_13 : decode b_Md_part 13 = .ok (.iaload, 1) := by decide +kernel
theorem d_Md_part_14 : decode b_Md_part 14 = .ok (.i2l, 1) := by decide +kernel
theorem d_Md_part_15 : decode b_Md_part 15 = .ok (.lsub, 1) := by decide +kernel
theorem d_Md_part_16 : decode b_Md_part 16 = .ok (.lstore 5, 2) := by decide +kernel
theorem d_Md_part_18 : decode b_Md_part 18 = .ok (.aload_n 0, 1) := by decide +kernel
theorem d_Md_part_19 : decode b_Md_part 19 = .ok (.getfield 13, 3) := by decide +kernel
theorem d_Md_part_22 : decode b_Md_part 22 = .ok (.iload_n 3, 1) := by decide +kernel
theorem d_Md_part_23 : decode b_Md_part 23 = .ok (.iaload, 1) := by decide +kernel
theorem d_Md_part_24 : decode b_Md_part 24 = .ok (.i2l, 1) := by decide +kernel
theorem d_Md_part_25 : decode b_Md_part 25 = .ok (.aload_n 0, 1) := by decide +kernel
theorem d_Md_part_26 : decode b_Md_part 26 = .ok (.getfield 13, 3) := by decide +kernel
theorem d_Md_part_29 : decode b_Md_part 29 = .ok (.iload 4, 2) := by decide +kernel
theorem d_Md_part_31 : decode b_Md_part 31 = .ok (.iaload, 1) := by decide +kernel
theorem d_Md_part_32 : decode b_Md_part 32 = .ok (.i2l, 1) := by decide +kernel
theorem d_Md_part_33 : decode b_Md_part 33 = .ok (.lsub, 1) := by decide +kernel
theorem d_Md_part_34 : decode b_Md_part 34 = .ok (.lstore 7, 2) := by decide +kernel
theorem d_Md_part_36 : decode b_Md_part 36 = .ok (.aload_n 0, 1) := by decide +kernel
theorem d_Md_part_37 : decode b_Md_part 37 = .ok (.lload 5, 2) := by decide +kernel
theorem d_Md_part_39 : decode b_Md_part 39 = .ok (.lload 5, 2) := by decide +kernel
theorem d_Md_part_41 : decode b_Md_part 41 = .ok (.lmul, 1) := by decide +kernel
theorem d_Md_part_42 : decode b_Md_part 42 = .ok (.lload 7, 2) := by decide +kernel
theorem d_Md_part_44 : decode b_Md_part 44 = .ok (.lload 7, 2) := by decide +kernel
theorem d_Md_part_46 : decode b_Md_part 46 = .ok (.lmul, 1) := by decide +kernel
theorem d_Md_part_47 : decode b_Md_part 47 = .ok (.ladd, 1) := by decide +kernel
theorem d_Md_part_48 : decode b_Md_part 48 = .ok (.aload_n 0, 1) := by decide +kernel
theorem d_Md_part_49 : decode b_Md_part 49 = .ok (.getfield 7, 3) := by decide +kernel
theorem d_Md_part_52 : decode b_Md_part 52 = .ok (.iload_n 1, 1) := by decide +kernel
theorem d_Md_part_53 : decode b_Md_part 53 = .ok (.iaload, 1) := by decide +kernel
theorem d_Md_part_54 : decode b_Md_part 54 = .ok (.i2l, 1) := by decide +kernel
theorem d_Md_part_55 : decode b_Md_part 55 = .ok (.aload_n 0, 1) := by decide +kernel
theorem d_Md_part_56 : decode b_Md_part 56 = .ok (.getfield 7, 3) := by decide +kernel
theorem d_Md_part_59 : decode b_Md_part 59 = .ok (.iload 4, 2) := by decide +kernel
theorem d_Md_part_61 : decode b_Md_part 61 = .ok (.iaload, 1) := by decide +kernel
theorem d_Md_part_62 : decode b_Md_part 62 = .ok (.i2l, 1) := by decide +kernel
theorem d_Md_part_63 : decode b_Md_part 63 = .ok (.lsub, 1) := by decide +kernel
theorem d_Md_part_64 : decode b_Md_part 64 = .ok (.aload_n 0, 1) := by decide +kernel
theorem d_Md_part_65 : decode b_Md_part 65 = .ok (.getfield 13, 3) := by decide +kernel
theorem d_Md_part_68 : decode b_Md_part 68 = .ok (.iload_n 1, 1) := by decide +kernel
theorem d_Md_part_69 : decode b_Md_part 69 = .ok (.iaload, 1) := by decide +kernel
theorem d_Md_part_70 : decode b_Md_part 70 = .ok (.i2l, 1) := by decide +kernel
theorem d_Md_part_71 : decode b_Md_part 71 = .ok (.aload_n 0, 1) := by decide +kernel
theorem d_Md_part_72 : decode b_Md_part 72 = .ok (.getfield 13, 3) := by decide +kernel
theorem d_Md_part_75 : decode b_Md_part 75 = .ok (.iload 4, 2) := by decide +kernel
theorem d_Md_part_77 : decode b_Md_part 77 = .ok (.iaload, 1) := by decide +kernel
theorem d_Md_part_78 : decode b_Md_part 78 = .ok (.i2l, 1) := by decide +kernel
theorem d_Md_part_79 : decode b_Md_part 79 = .ok (.lsub, 1) := by decide +kernel
theorem d_Md_part_80 : decode b_Md_part 80 = .ok (.aload_n 0, 1) := by decide +kernel
theorem d_Md_part_81 : decode b_Md_part 81 = .ok (.getfield 7, 3) := by decide +kernel
theorem d_Md_part_84 : decode b_Md_part 84 = .ok (.iload_n 2, 1) := by decide +kernel
theorem d_Md_part_85 : decode b_Md_part 85 = .ok (.iaload, 1) := by decide +kernel
theorem d_Md_part_86 : decode b_Md_part 86 = .ok (.i2l, 1) := by decide +kernel
theorem d_Md_part_87 : decode b_Md_part 87 = .ok (.aload_n 0, 1) := by decide +kernel
theorem d_Md_part_88 : decode b_Md_part 88 = .ok (.getfield 7, 3) := by decide +kernel
theorem d_Md_part_91 : decode b_Md_part 91 = .ok (.iload 4, 2) := by decide +kernel
theorem d_Md_part_93 : decode b_Md_part 93 = .ok (.iaload, 1) := by decide +kernel
theorem d_Md_part_94 : decode b_Md_part 94 = .ok (.i2l, 1) := by decide +kernel
theorem d_Md_part_95 : decode b_Md_part 95 = .ok (.lsub, 1) := by decide +kernel
theorem d_Md_part_96 : decode b_Md_part 96 = .ok (.aload_n 0, 1) := by decide +kernel
theorem d_Md_part_97 : decode b_Md_part 97 = .ok (.getfield 13, 3) := by decide +kernel
theorem d_Md_part_100 : decode b_Md_part 100 = .ok (.iload_n 2, 1) := by decide +kernel
theorem d_Md_part_101 : decode b_Md_part 101 = .ok (.iaload, 1) := by decide +kernel
theorem d_Md_part_102 : decode b_Md_part 102 = .ok (.i2l, 1) := by decide +kernel
theorem d_Md_part_103 : decode b_Md_part 103 = .ok (.aload_n 0, 1) := by decide +kernel
theorem d_Md_part_104 : decode b_Md_part 104 = .ok (.getfield 13, 3) := by decide +kernel
theorem d_Md_part_107 : decode b_Md_part 107 = .ok (.iload 4, 2) := by decide +kernel
theorem d_Md_part_109 : decode b_Md_part 109 = .ok (.iaload, 1) := by decide +kernel
theorem d_Md_part_110 : decode b_Md_part 110 = .ok (.i2l, 1) := by decide +kernel
theorem d_Md_part_111 : decode b_Md_part 111 = .ok (.lsub, 1) := by decide +kernel
theorem d_Md_part_112 : decode b_Md_part 112 = .ok (.invokestatic 56, 3) := by decide +kernel
theorem d_Md_part_115 : decode b_Md_part 115 = .ok (.invokevirtual 86, 3) := by decide +kernel
theorem d_Md_part_118 : decode b_Md_part 118 = .ok (.return_, 1) := by decide +kernel
theorem d_Md_inCircle_0 : decode b_Md_inCircle 0 = .ok (.aload_n 0, 1) := by decide +kernel
theorem d_Md_inCircle_1 : decode b_Md_inCircle 1 = .ok (.lconst 0, 1) := by decide +kernel
theorem d_Md_inCircle_2 : decode b_Md_inCircle 2 = .ok (.putfield 70, 3) := by decide +kernel
theorem d_Md_inCircle_5 : decode b_Md_inCircle 5 = .ok (.aload_n 0, 1) := by decide +kernel
theorem d_Md_inCircle_6 : decode b_Md_inCircle 6 = .ok (.lconst 0, 1) := by decide +kernel
theorem d_Md_inCircle_7 : decode b_Md_inCircle 7 = .ok (.putfield 74, 3) := by decide +kernel
theorem d_Md_inCircle_10 : decode b_Md_inCircle 10 = .ok (.aload_n 0, 1) := by decide +kernel
theorem d_Md_inCircle_11 : decode b_Md_inCircle 11 = .ok (.lconst 0, 1) := by decide +kernel
theorem d_Md_inCircle_12 : decode b_Md_inCircle 12 = .ok (.putfield 77, 3) := by decide +kernel
theorem d_Md_inCircle_15 : decode b_Md_inCircle 15 = .ok (.aload_n 0, 1) := by decide +kernel
theorem d_Md_inCircle_16 : decode b_Md_inCircle 16 = .ok (.lconst 0, 1) := by decide +kernel
theorem d_Md_inCircle_17 : decode b_Md_inCircle 17 = .ok (.putfield 80, 3) := by decide +kernel
theorem d_Md_inCircle_20 : decode b_Md_inCircle 20 = .ok (.aload_n 0, 1) := by decide +kernel
theorem d_Md_inCircle_21 : decode b_Md_inCircle 21 = .ok (.lconst 0, 1) := by decide +kernel
theorem d_Md_inCircle_22 : decode b_Md_inCircle 22 = .ok (.putfield 83, 3) := by decide +kernel
theorem d_Md_inCircle_25 : decode b_Md_inCircle 25 = .ok (.aload_n 0, 1) := by decide +kernel
theorem d_Md_inCircle_26 : decode b_Md_inCircle 26 = .ok (.iload_n 1, 1) := by decide +kernel
theorem d_Md_inCircle_27 : decode b_Md_inCircle 27 = .ok (.iload_n 2, 1) := by decide +kernel
theorem d_Md_inCircle_28 : decode b_Md_inCircle 28 = .ok (.iload_n 3, 1) := by decide +kernel
theorem d_Md_inCircle_29 : decode b_Md_inCircle 29 = .ok (.iload 4, 2) := by decide +kernel
theorem d_Md_inCircle_31 : decode b_Md_inCircle 31 = .ok (.invokevirtual 90, 3) := by decide +kernel
theorem d_Md_inCircle_34 : decode b_Md_inCircle 34 = .ok (.aload_n 0, 1) := by decide +kernel
theorem d_Md_inCircle_35 : decode b_Md_inCircle 35 = .ok (.iload_n 2, 1) := by decide +kernel
theorem d_Md_inCircle_36 : decode b_Md_inCircle 36 = .ok (.iload_n 3, 1) := by decide +kernel
theorem d_Md_inCircle_37 : decode b_Md_inCircle 37 = .ok (.iload_n 1, 1) := by decide +kernel
theorem d_Md_inCircle_38 : decode b_Md_inCircle 38 = .ok (.iload 4, 2) := by decide +kernel
theorem d_Md_inCircle_40 : decode b_Md_inCircle 40 = .ok (.invokevirtual 90, 3) := by decide +kernel
theorem d_Md_inCircle_43 : decode b_Md_inCircle 43 = .ok (.aload_n 0, 1) := by decide +kernel
theorem d_Md_inCircle_44 : decode b_Md_inCircle 44 = .ok (.iload_n 3, 1) := by decide +kernel
theorem d_Md_inCircle_45 : decode b_Md_inCircle 45 = .ok (.iload_n 1, 1) := by decide +kernel
theorem d_Md_inCircle_46 : decode b_Md_inCircle 46 = .ok (.iload_n 2, 1) := by decide +kernel
theorem d_Md_inCircle_47 : decode b_Md_inCircle 47 = .ok (.iload 4, 2) := by decide +kernel
theorem d_Md_inCircle_49 : decode b_Md_inCircle 49 = .ok (.invokevirtual 90, 3) := by decide +kernel
theorem d_Md_inCircle_52 : decode b_Md_inCircle 52 = .ok (.aload_n 0, 1) := by decide +kernel
theorem d_Md_inCircle_53 : decode b_Md_inCircle 53 = .ok (.invokevirtual 94, 3) := by decide +kernel
theorem d_Md_inCircle_56 : decode b_Md_inCircle 56 = .ok (.ireturn, 1) := by decide +kernel
theorem d_Md_isLess_0 : decode b_Md_isLess 0 = .ok (.aload_n 0, 1) := by decide +kernel
theorem d_Md_isLess_1 : decode b_Md_isLess 1 = .ok (.getfield 7, 3) := by decide +kernel
theorem d_Md_isLess_4 : decode b_Md_isLess 4 = .ok (.iload_n 1, 1) := by decide +kernel
theorem d_Md_isLess_5 : decode b_Md_isLess 5 = .ok (.iaload, 1) := by decide +kernel
theorem d_Md_isLess_6 : decode b_Md_isLess 6 = .ok (.aload_n 0, 1) := by decide +kernel
theorem d_Md_isLess_7 : decode b_Md_isLess 7 = .ok (.getfield 7, 3) := by decide +kernel
theorem d_Md_isLess_10 : decode b_Md_isLess 10 = .ok (.iload_n 2, 1) := by decide +kernel
theorem d_Md_isLess_11 : decode b_Md_isLess 11 = .ok (.iaload, 1) := by decide +kernel
theorem d_Md_isLess_12 : decode b_Md_isLess 12 = .ok (.if_icmp .lt 33, 3) := by decide +kernel
theorem d_Md_isLess_15 : decode b_Md_isLess 15 = .ok (.aload_n 0, 1) := by decide +kernel
theorem d_Md_isLess_16 : decode b_Md_isLess 16 = .ok (.getfield 7, 3) := by decide +kernel
theorem d_Md_isLess_19 : decode b_Md_isLess 19 = .ok (.iload_n 1, 1) := by decide +kernel
theorem d_Md_isLess_20 : decode b_Md_isLess 20 = .ok (.iaload, 1) := by decide +kernel
theorem d_Md_isLess_21 : decode b_Md_isLess 21 = .ok (.aload_n 0, 1) := by decide +kernel
theorem d_Md_isLess_22 : decode b_Md_isLess 22 = .ok (.getfield 7, 3) := by decide +kernel
theorem d_Md_isLess_25 : decode b_Md_isLess 25 = .ok (.iload_n 2, 1) := by decide +kernel
theorem d_Md_isLess_26 : decode b_Md_isLess 26 = .ok (.iaload, 1) := by decide +kernel
theorem d_Md_isLess_27 : decode b_Md_isLess 27 = .ok (.if_icmp .ne 22, 3) := by decide +kernel
theorem d_Md_isLess_30 : decode b_Md_isLess 30 = .ok (.aload_n 0, 1) := by decide +kernel
theorem d_Md_isLess_31 : decode b_Md_isLess 31 = .ok (.getfield 13, 3) := by decide +kernel
theorem d_Md_isLess_34 : decode b_Md_isLess 34 = .ok (.iload_n 1, 1) := by decide +kernel
theorem d_Md_isLess_35 : decode b_Md_isLess 35 = .ok (.iaload, 1) := by decide +kernel
theorem d_Md_isLess_36 : decode b_Md_isLess 36 = .ok (.aload_n 0, 1) := by decide +kernel
theorem d_Md_isLess_37 : decode b_Md_isLess 37 = .ok (.getfield 13, 3) := by decide +kernel
theorem d_Md_isLess_40 : decode b_Md_isLess 40 = .ok (.iload_n 2, 1) := by decide +kernel
theorem d_Md_isLess_41 : decode b_Md_isLess 41 = .ok (.iaload, 1) := by decide +kernel
theorem d_Md_isLess_42 : decode b_Md_isLess 42 = .ok (.if_icmp .ge 7, 3) := by decide +kernel
theorem d_Md_isLess_45 : decode b_Md_isLess 45 = .ok (.iconst 1, 1) := by decide +kernel
theorem d_Md_isLess_46 : decode b_Md_isLess 46 = .ok (.goto 4, 3) := by decide +kernel
theorem d_Md_isLess_49 : decode b_Md_isLess 49 = .ok (.iconst 0, 1) := by decide +kernel
theorem d_Md_isLess_50 : decode b_Md_isLess 50 = .ok (.ireturn, 1) := by decide +kernel
theorem d_Md_apart_0 : decode b_Md_apart 0 = .ok (.aload_n 0, 1) := by decide +kernel
theorem d_Md_apart_1 : decode b_Md_apart 1 = .ok (.getfield 7, 3) := by decide +kernel
theorem d_Md_apart_4 : decode b_Md_apart 4 = .ok (.iload_n 1, 1) := by decide +kernel
theorem d_Md_apart_5 : decode b_Md_apart 5 = .ok (.iaload, 1) := by decide +kernel
theorem d_Md_apart_6 : decode b_Md_apart 6 = .ok (.i2l, 1) := by decide +kernel
theorem d_Md_apart_7 : decode b_Md_apart 7 = .ok (.iload_n 2, 1) := by decide +kernel
theorem d_Md_apart_8 : decode b_Md_apart 8 = .ok (.i2l, 1) := by decide +kernel
theorem d_Md_apart_9 : decode b_Md_apart 9 = .ok (.lsub, 1) := by decide +kernel
theorem d_Md_apart_10 : decode b_Md_apart 10 = .ok (.lstore 4, 2) := by decide +kernel
theorem d_Md_apart_12 : decode b_Md_apart 12 = .ok (.aload_n 0, 1) := by decide +kernel
theorem d_Md_apart_13 : decode b_Md_apart 13 = .ok (.getfield 13, 3) := by decide +kernel
theorem d_Md_apart_16 : decode b_Md_apart 16 = .ok (.iload_n 1, 1) := by decide +kernel
theorem d_Md_apart_17 : decode b_Md_apart 17 = .ok (.iaload, 1) := by decide +kernel
theorem d_Md_apart_18 : decode b_Md_apart 18 = .ok (.i2l, 1) := by decide +kernel
theorem d_Md_apart_19 : decode b_Md_apart 19 = .ok (.iload_n 3, 1) := by decide +kernel
theorem d_Md_apart_20 : decode b_Md_apart 20 = .ok (.i2l, 1) := by decide +kernel
theorem d_Md_apart_21 : decode b_Md_apart 21 = .ok (.lsub, 1) := by decide +kernel
theorem d_Md_apart_22 : decode b_Md_apart 22 = .ok (.lstore 6, 2) := by decide +kernel
theorem d_Md_apart_24 : decode b_Md_apart 24 = .ok (.lload 4, 2) := by decide +kernel
theorem d_Md_apart_26 : decode b_Md_apart 26 = .ok (.lload 4, 2) := by decide +kernel
theorem d_Md_apart_28 : decode b_Md_apart 28 = .ok (.lmul, 1) := by decide +kernel
theorem d_Md_apart_29 : decode b_Md_apart 29 = .ok (.lload 6, 2) := by decide +kernel
theorem d_Md_apart_31 : decode b_Md_apart 31 = .ok (.lload 6, 2) := by decide +kernel
theorem d_Md_apart_33 : decode b_Md_apart 33 = .ok (.lmul, 1) := by decide +kernel
theorem d_Md_apart_34 : decode b_Md_apart 34 = .ok (.ladd, 1) := by decide +kernel
theorem d_Md_apart_35 : decode b_Md_apart 35 = .ok (.lreturn, 1) := by decide +kernel
theorem d_Md_findPoint_0 : decode b_Md_findPoint 0 = .ok (.iconst (-1), 1) := by decide +kernel
theorem d_Md_findPoint_1 : decode b_Md_findPoint 1 = .ok (.istore_n 3, 1) := by decide +kernel
theorem d_Md_findPoint_2 : decode b_Md_findPoint 2 = .ok (.iconst 0, 1) := by decide +kernel
theorem d_Md_findPoint_3 : decode b_Md_findPoint 3 = .ok (.istore 4, 2) := by decide +kernel
theorem d_Md_findPoint_5 : decode b_Md_findPoint 5 = .ok (.iload 4, 2) := by decide +kernel
theorem d_Md_findPoint_7 : decode b_Md_findPoint 7 = .ok (.aload_n 0, 1) := by decide +kernel
theorem d_Md_findPoint_8 : decode b_Md_findPoint 8 = .ok (.getfield 98, 3) := by decide +kernel
theorem d_Md_findPoint_11 : decode b_Md_findPoint 11 = .ok (.if_icmp .ge 38, 3) := by decide +kernel
theorem d_Md_findPoint_14 : decode b_Md_findPoint 14 = .ok (.aload_n 0, 1) := by decide +kernel
theorem d_Md_findPoint_15 : decode b_Md_findPoint 15 = .ok (.getfield 7, 3) := by decide +kernel
theorem d_Md_findPoint_18 : decode b_Md_findPoint 18 = .ok (.iload 4, 2) := by decide +kernel
theorem d_Md_findPoint_20 : decode b_Md_findPoint 20 = .ok (.iaload, 1) := by decide +kernel
theorem d_Md_findPoint_21 : decode b_Md_findPoint 21 = .ok (.iload_n 1, 1) := by decide +kernel
theorem d_Md_findPoint_22 : decode b_Md_findPoint 22 = .ok (.if_icmp .ne 19, 3) := by decide +kernel
theorem d_Md_findPoint_25 : decode b_Md_findPoint 25 = .ok (.aload_n 0, 1) := by decide +kernel
theorem d_Md_findPoint_26 : decode b_Md_findPoint 26 = .ok (.getfield 13, 3) := by decide +kernel
theorem d_Md_findPoint_29 : decode b_Md_findPoint 29 = .ok (.iload 4, 2) := by decide +kernel
theorem d_Md_findPoint_31 : decode b_Md_findPoint 31 = .ok (.iaload, 1) := by decide +kernel
theorem d_Md_findPoint_32 : decode b_Md_findPoint 32 = .ok (.iload_n 2, 1) := by decide +kernel
theorem d_Md_findPoint_33 : decode b_Md_findPoint 33 = .ok (.if_icmp .ne 8, 3) := by decide +kernel
theorem d_Md_findPoint_36 : decode b_Md_findPoint 36 = .ok (.iload 4, 2) := by decide +kernel
theorem d_Md_findPoint_38 : decode b_Md_findPoint 38 = .ok (.goto 4, 3) := by decide +kernel
theorem d_Md_findPoint_41 : decode b_Md_findPoint 41 = .ok (.iload_n 3, 1) := by decide +kernel
theorem d_Md_findPoint_42 : decode b_Md_findPoint 42 = .ok (.istore_n 3, 1) := by decide +kernel
theorem d_Md_findPoint_43 : decode b_Md_findPoint 43 = .ok (.iinc 4 1, 3) := by decide +kernel
theorem d_Md_findPoint_46 : decode b_Md_findPoint 46 = .ok (.goto (-41), 3) := by decide +kernel
theorem d_Md_findPoint_49 : decode b_Md_findPoint 49 = .ok (.iload_n 3, 1) := by decide +kernel
theorem d_Md_findPoint_50 : decode b_Md_findPoint 50 = .ok (.ireturn, 1) := by decide +kernel
theorem d_Md_forget_0 : decode b_Md_forget 0 = .ok (.aload_n 0, 1) := by decide +kernel
theorem d_Md_forget_1 : decode b_Md_forget 1 = .ok (.iconst 0, 1) := by decide +kernel
theorem d_Md_forget_2 : decode b_Md_forget 2 = .ok (.putfield 101, 3) := by decide +kernel
theorem d_Md_forget_5 : decode b_Md_forget 5 = .ok (.iconst 0, 1) := by decide +kernel
theorem d_Md_forget_6 : decode b_Md_forget 6 = .ok (.istore_n 1, 1) := by decide +kernel
theorem d_Md_forget_7 : decode b_Md_forget 7 = .ok (.iload_n 1, 1) := by decide +kernel
theorem d_Md_forget_8 : decode b_Md_forget 8 = .ok (.iconst 3, 1) := by decide +kernel
theorem d_Md_forget_9 : decode b_Md_forget 9 = .ok (.if_icmp .ge 16, 3) := by decide +kernel
theorem d_Md_forget_12 : decode b_Md_forget 12 = .ok (.aload_n 0, 1) := by decide +kernel
theorem d_Md_forget_13 : decode b_Md_forget 13 = .ok (.getfield 40, 3) := by decide +kernel
theorem d_Md_forget_16 : decode b_Md_forget 16 = .ok (.iload_n 1, 1) := by decide +kernel
theorem d_Md_forget_17 : decode b_Md_forget 17 = .ok (.iconst (-1), 1) := by decide +kernel
theorem d_Md_forget_18 : decode b_Md_forget 18 = .ok (.iastore, 1) := by decide +kernel
theorem d_Md_forget_19 : decode b_Md_forget 19 = .ok (.iinc 1 1, 3) := by decide +kernel
theorem d_Md_forget_22 : decode b_Md_forget 22 = .ok (.goto (-15), 3) := by decide +kernel
theorem d_Md_forget_25 : decode b_Md_forget 25 = .ok (.return_, 1) := by decide +kernel
theorem d_Md_add_0 : decode b_Md_add 0 = .ok (.aload_n 0, 1) := by decide +kernel
theorem d_Md_add_1 : decode b_Md_add 1 = .ok (.iconst 0, 1) := by decide +kernel
theorem d_Md_add_2 : decode b_Md_add 2 = .ok (.putfield 47, 3) := by decide +kernel
theorem d_Md_add_5 : decode b_Md_add 5 = .ok (.iload_n 1, 1) := by decide +kernel
theorem d_Md_add_6 : decode b_Md_add 6 = .ok (.iload_n 2, 1) := by decide +kernel
theorem d_Md_add_7 : decode b_Md_add 7 = .ok (.invokestatic 105, 3) := by decide +kernel
theorem d_Md_add_10 : decode b_Md_add 10 = .ok (.ifCond .eq 9, 3) := by decide +kernel
theorem d_Md_add_13 : decode b_Md_add 13 = .ok (.aload_n 0, 1) := by decide +kernel
theorem d_Md_add_14 : decode b_Md_add 14 = .ok (.iconst 1, 1) := by decide +kernel
theorem d_Md_add_15 : decode b_Md_add 15 = .ok (.invokevirtual 109, 3) := by decide +kernel
theorem d_Md_add_18 : decode b_Md_add 18 = .ok (.ireturn, 1) := by decide +kernel
theorem d_Md_add_19 : decode b_Md_add 19 = .ok (.aload_n 0, 1) := by decide +kernel
theorem d_Md_add_20 : decode b_Md_add 20 = .ok (.iload_n 1, 1) := by decide +kernel
theorem d_Md_add_21 : decode b_Md_add 21 = .ok (.iload_n 2, 1) := by decide +kernel
theorem d_Md_add_22 : decode b_Md_add 22 = .ok (.invokevirtual 113, 3) := by decide +kernel
theorem d_Md_add_25 : decode b_Md_add 25 = .ok (.ifCond .lt 5, 3) := by decide +kernel
theorem d_Md_add_28 : decode b_Md_add 28 = .ok (.iconst (-1), 1) := by decide +kernel
theorem d_Md_add_29 : decode b_Md_add 29 = .ok (.ireturn, 1) := by decide +kernel
theorem d_Md_add_30 : decode b_Md_add 30 = .ok (.aload_n 0, 1) := by decide +kernel
theorem d_Md_add_31 : decode b_Md_add 31 = .ok (.getfield 98, 3) := by decide +kernel
theorem d_Md_add_34 : decode b_Md_add 34 = .ok (.aload_n 0, 1) := by decide +kernel
theorem d_Md_add_35 : decode b_Md_add 35 = .ok (.getfield 43, 3) := by decide +kernel
theorem d_Md_add_38 : decode b_Md_add 38 = .ok (.if_icmp .ne 9, 3) := by decide +kernel
theorem d_Md_add_41 : decode b_Md_add 41 = .ok (.aload_n 0, 1) := by decide +kernel
theorem d_Md_add_42 : decode b_Md_add 42 = .ok (.iconst 2, 1) := by decide +kernel
theorem d_Md_add_43 : decode b_Md_add 43 = .ok (.invokevirtual 109, 3) := by decide +kernel
theorem d_Md_add_46 : decode b_Md_add 46 = .ok (.ireturn, 1) := by decide +kernel
theorem d_Md_add_47 : decode b_Md_add 47 = .ok (.aload_n 0, 1) := by decide +kernel
theorem d_Md_add_48 : decode b_Md_add 48 = .ok (.getfield 7, 3) := by decide +kernel
theorem d_Md_add_51 : decode b_Md_add 51 = .ok (.aload_n 0, 1) := by decide +kernel
theorem d_Md_add_52 : decode b_Md_add 52 = .ok (.getfield 98, 3) := by decide +kernel
theorem d_Md_add_55 : decode b_Md_add 55 = .ok (.iload_n 1, 1) := by decide +kernel
theorem d_Md_add_56 : decode b_Md_add 56 = .ok (.iastore, 1) := by decide +kernel
theorem d_Md_add_57 : decode b_Md_add 57 = .ok (.aload_n 0, 1) := by decide +kernel
theorem d_Md_add_58 : decode b_Md_add 58 = .ok (.getfield 13, 3) := by decide +kernel
theorem d_Md_add_61 : decode b_Md_add 61 = .ok (.aload_n 0, 1) := by decide +kernel
theorem d_Md_add_62 : decode b_Md_add 62 = .ok (.getfield 98, 3) := by decide +kernel
theorem d_Md_add_65 : decode b_Md_add 65 = .ok (.iload_n 2, 1) := by decide +kernel
theorem d_Md_add_66 : decode b_Md_add 66 = .ok (.iastore, 1) := by decide +kernel
theorem d_Md_add_67 : decode b_Md_add 67 = .ok (.aload_n 0, 1) := by decide +kernel
theorem d_Md_add_68 : decode b_Md_add 68 = .ok (.dup, 1) := by decide +kernel
theorem d_Md_add_69 : decode b_Md_add 69 = .ok (.getfield 98, 3) := by decide +kernel
theorem d_Md_add_72 : decode b_Md_add 72 = .ok (.iconst 1, 1) := by decide +kernel
theorem d_Md_add_73 : decode b_Md_add 73 = .ok (.iadd, 1) := by decide +kernel
theorem d_Md_add_74 : decode b_Md_add 74 = .ok (.putfield 98, 3) := by decide +kernel
theorem d_Md_add_77 : decode b_Md_add 77 = .ok (.aload_n 0, 1) := by decide +kernel
theorem d_Md_add_78 : decode b_Md_add 78 = .ok (.invokevirtual 117, 3) := by decide +kernel
theorem d_Md_add_81 : decode b_Md_add 81 = .ok (.aload_n 0, 1) := by decide +kernel
theorem d_Md_add_82 : decode b_Md_add 82 = .ok (.getfield 98, 3) := by decide +kernel
theorem d_Md_add_85 : decode b_Md_add 85 = .ok (.iconst 1, 1) := by decide +kernel
theorem d_Md_add_86 : decode b_Md_add 86 = .ok (.isub, 1) := by decide +kernel
theorem d_Md_add_87 : decode b_Md_add 87 = .ok (.ireturn, 1) := by decide +kernel
theorem d_Md_clear_0 : decode b_Md_clear 0 = .ok (.aload_n 0, 1) := by decide +kernel
theorem d_Md_clear_1 : decode b_Md_clear 1 = .ok (.iconst 0, 1) := by decide +kernel
theorem d_Md_clear_2 : decode b_Md_clear 2 = .ok (.putfield 47, 3) := by decide +kernel
theorem d_Md_clear_5 : decode b_Md_clear 5 = .ok (.aload_n 0, 1) := by decide +kernel
theorem d_Md_clear_6 : decode b_Md_clear 6 = .ok (.getfield 98, 3) := by decide +kernel
theorem d_Md_clear_9 : decode b_Md_clear 9 = .ok (.istore_n 1, 1) := by decide +kernel
theorem d_Md_clear_10 : decode b_Md_clear 10 = .ok (.aload_n 0, 1) := by decide +kernel
theorem d_Md_clear_11 : decode b_Md_clear 11 = .ok (.iconst 0, 1) := by decide +kernel
theorem d_Md_clear_12 : decode b_Md_clear 12 = .ok (.putfield 98, 3) := by decide +kernel
theorem d_Md_clear_15 : decode b_Md_clear 15 = .ok (.aload_n 0, 1) := by decide +kernel
theorem d_Md_clear_16 : decode b_Md_clear 16 = .ok (.invokevirtual 117, 3) := by decide +kernel
theorem d_Md_clear_19 : decode b_Md_clear 19 = .ok (.iload_n 1, 1) := by decide +kernel
theorem d_Md_clear_20 : decode b_Md_clear 20 = .ok (.ireturn, 1) := by decide +kernel
theorem d_Md_find_0 : decode b_Md_find 0 = .ok (.aload_n 0, 1) := by decide +kernel
theorem d_Md_find_1 : decode b_Md_find 1 = .ok (.iconst 0, 1) := by decide +kernel
theorem d_Md_find_2 : decode b_Md_find 2 = .ok (.putfield 47, 3) := by decide +kernel
theorem d_Md_find_5 : decode b_Md_find 5 = .ok (.iload_n 1, 1) := by decide +kernel
theorem d_Md_find_6 : decode b_Md_find 6 = .ok (.iload_n 2, 1) := by decide +kernel
theorem d_Md_find_7 : decode b_Md_find 7 = .ok (.invokestatic 105, 3) := by decide +kernel
theorem d_Md_find_10 : decode b_Md_find 10 = .ok (.ifCond .eq 11, 3) := by decide +kernel
theorem d_Md_find_13 : decode b_Md_find 13 = .ok (.aload_n 0, 1) := by decide +kernel
theorem d_Md_find_14 : decode b_Md_find 14 = .ok (.iconst 1, 1) := by decide +kernel
theorem d_Md_find_15 : decode b_Md_find 15 = .ok (.invokevirtual 109, 3) := by decide +kernel
theorem d_Md_find_18 : decode b_Md_find 18 = .ok (.goto 9, 3) := by decide +kernel
theorem d_Md_find_21 : decode b_Md_find 21 = .ok (.aload_n 0, 1) := by decide +kernel
theorem d_Md_find_22 : decode b_Md_find 22 = .ok (.iload_n 1, 1) := by decide +kernel
theorem d_Md_find_23 : decode b_Md_find 23 = .ok (.iload_n 2, 1) := by decide +kernel
theorem d_Md_find_24 : decode b_Md_find 24 = .ok (.invokevirtual 113, 3) := by decide +kernel
theorem d_Md_find_27 : decode b_Md_find 27 = .ok (.ireturn, 1) := by decide +kernel
theorem d_Md_least_0 : decode b_Md_least 0 = .ok (.iconst 0, 1) := by decide +kernel
theorem d_Md_least_1 : decode b_Md_least 1 = .ok (.istore_n 1, 1) := by decide +kernel
theorem d_Md_least_2 : decode b_Md_least 2 = .ok (.iconst 1, 1) := by decide +kernel
theorem d_Md_least_3 : decode b_Md_least 3 = .ok (.istore_n 2, 1) := by decide +kernel
theorem d_Md_least_4 : decode b_Md_least 4 = .ok (.iload_n 2, 1) := by decide +kernel
theorem d_Md_least_5 : decode b_Md_least 5 = .ok (.aload_n 0, 1) := by decide +kernel
theorem d_Md_least_6 : decode b_Md_least 6 = .ok (.getfield 98, 3) := by decide +kernel
theorem d_Md_least_9 : decode b_Md_least 9 = .ok (.if_icmp .ge 24, 3) := by decide +kernel
theorem d_Md_least_12 : decode b_Md_least 12 = .ok (.aload_n 0, 1) := by decide +kernel
theorem d_Md_least_13 : decode b_Md_least 13 = .ok (.iload_n 2, 1) := by decide +kernel
theorem d_Md_least_14 : decode b_Md_least 14 = .ok (.iload_n 1, 1) := by decide +kernel
theorem d_Md_least_15 : decode b_Md_least 15 = .ok (.invokevirtual 120, 3) := by decide +kernel
theorem d_Md_least_18 : decode b_Md_least 18 = .ok (.ifCond .eq 7, 3) := by decide +kernel
theorem d_Md_least_21 : decode b_Md_least 21 = .ok (.iload_n 2, 1) := by decide +kernel
theorem d_Md_least_22 : decode b_Md_least 22 = .ok (.goto 4, 3) := by decide +kernel
theorem d_Md_least_25 : decode b_Md_least 25 = .ok (.iload_n 1, 1) := by decide +kernel
theorem d_Md_least_26 : decode b_Md_least 26 = .ok (.istore_n 1, 1) := by decide +kernel
theorem d_Md_least_27 : decode b_Md_least 27 = .ok (.iinc 2 1, 3) := by decide +kernel
theorem d_Md_least_30 : decode b_Md_least 30 = .ok (.goto (-26), 3) := by decide +kernel
theorem d_Md_least_33 : decode b_Md_least 33 = .ok (.iload_n 1, 1) := by decide +kernel
theorem d_Md_least_34 : decode b_Md_least 34 = .ok (.ireturn, 1) := by decide +kernel
theorem d_Md_cornerBehind_0 : decode b_Md_cornerBehind 0 = .ok (.iload_n 1, 1) := by decide +kernel
theorem d_Md_cornerBehind_1 : decode b_Md_cornerBehind 1 = .ok (.ifCond .ne 15, 3) := by decide +kernel
theorem d_Md_cornerBehind_4 : decode b_Md_cornerBehind 4 = .ok (.aload_n 0, 1) := by decide +kernel
theorem d_Md_cornerBehind_5 : decode b_Md_cornerBehind 5 = .ok (.getfield 98, 3) := by decide +kernel
theorem d_Md_cornerBehind_8 : decode b_Md_cornerBehind 8 = .ok (.iconst 1, 1) := by decide +kernel
theorem d_Md_cornerBehind_9 : decode b_Md_cornerBehind 9 = .ok (.if_icmp .le 7, 3) := by decide +kernel
theorem d_Md_cornerBehind_12 : decode b_Md_cornerBehind 12 = .ok (.iconst 1, 1) := by decide +kernel
theorem d_Md_cornerBehind_13 : decode b_Md_cornerBehind 13 = .ok (.goto 4, 3) := by decide +kernel
theorem d_Md_cornerBehind_16 : decode b_Md_cornerBehind 16 = .ok (.iconst 0, 1) := by decide +kernel
theorem d_Md_cornerBehind_17 : decode b_Md_cornerBehind 17 = .ok (.istore_n 2, 1) := by decide +kernel
theorem d_Md_cornerBehind_18 : decode b_Md_cornerBehind 18 = .ok (.iconst 0, 1) := by decide +kernel
theorem d_Md_cornerBehind_19 : decode b_Md_cornerBehind 19 = .ok (.istore_n 3, 1) := by decide +kernel
theorem d_Md_cornerBehind_20 : decode b_Md_cornerBehind 20 = .ok (.iload_n 3, 1) := by decide +kernel
theorem d_Md_cornerBehind_21 : decode b_Md_cornerBehind 21 = .ok (.aload_n 0, 1) := by decide +kernel
theorem d_Md_cornerBehind_22 : decode b_Md_cornerBehind 22 = .ok (.getfield 98, 3) := by decide +kernel
theorem d_Md_cornerBehind_25 : decode b_Md_cornerBehind 25 = .ok (.if_icmp .ge 78, 3) := by decide +kernel
theorem d_Md_cornerBehind_28 : decode b_Md_cornerBehind 28 = .ok (.iload_n 3, 1) := by decide +kernel
theorem d_Md_cornerBehind_29 : decode b_Md_cornerBehind 29 = .ok (.iload_n 1, 1) := by decide +kernel
theorem d_Md_cornerBehind_30 : decode b_Md_cornerBehind 30 = .ok (.if_icmp .eq 67, 3) := by decide +kernel
theorem d_Md_cornerBehind_33 : decode b_Md_cornerBehind 33 = .ok (.iload_n 3, 1) := by decide +kernel
theorem d_Md_cornerBehind_34 : decode b_Md_cornerBehind 34 = .ok (.iload_n 2, 1) := by decide +kernel
theorem d_Md_cornerBehind_35 : decode b_Md_cornerBehind 35 = .ok (.if_icmp .eq 62, 3) := by decide +kernel
theorem d_Md_cornerBehind_38 : decode b_Md_cornerBehind 38 = .ok (.aload_n 0, 1) := by decide +kernel
theorem d_Md_cornerBehind_39 : decode b_Md_cornerBehind 39 = .ok (.iload_n 1, 1) := by decide +kernel
theorem d_Md_cornerBehind_40 : decode b_Md_cornerBehind 40 = .ok (.iload_n 2, 1) := by decide +kernel
theorem d_Md_cornerBehind_41 : decode b_Md_cornerBehind 41 = .ok (.iload_n 3, 1) := by decide +kernel
theorem d_Md_cornerBehind_42 : decode b_Md_cornerBehind 42 = .ok (.invokevirtual 123, 3) := by decide +kernel
theorem d_Md_cornerBehind_45 : decode b_Md_cornerBehind 45 = .ok (.istore 4, 2) := by decide +kernel
theorem d_Md_cornerBehind_47 : decode b_Md_cornerBehind 47 = .ok (.iload 4, 2) := by decide +kernel
theorem d_Md_cornerBehind_49 : decode b_Md_cornerBehind 49 = .ok (.ifCond .lt 46, 3) := by decide +kernel
theorem d_Md_cornerBehind_52 : decode b_Md_cornerBehind 52 = .ok (.iload 4, 2) := by decide +kernel
theorem d_Md_cornerBehind_54 : decode b_Md_cornerBehind 54 = .ok (.ifCond .ne 43, 3) := by decide +kernel
theorem d_Md_cornerBehind_57 : decode b_Md_cornerBehind 57 = .ok (.aload_n 0, 1) := by decide +kernel
theorem d_Md_cornerBehind_58 : decode b_Md_cornerBehind 58 = .ok (.iload_n 1, 1) := by decide +kernel
theorem d_Md_cornerBehind_59 : decode b_Md_cornerBehind 59 = .ok (.aload_n 0, 1) := by decide +kernel
theorem d_Md_cornerBehind_60 : decode b_Md_cornerBehind 60 = .ok (.getfield 7, 3) := by decide +kernel
theorem d_Md_cornerBehind_63 : decode b_Md_cornerBehind 63 = .ok (.iload_n 3, 1) := by decide +kernel
theorem d_Md_cornerBehind_64 : decode b_Md_cornerBehind 64 = .ok (.iaload, 1) := by decide +kernel
theorem d_Md_cornerBehind_65 : decode b_Md_cornerBehind 65 = .ok (.aload_n 0, 1) := by decide +kernel
theorem d_Md_cornerBehind_66 : decode b_Md_cornerBehind 66 = .ok (.getfield 13, 3) := by decide +kernel
theorem d_Md_cornerBehind_69 : decode b_Md_cornerBehind 69 = .ok (.iload_n 3, 1) := by decide +kernel
theorem d_Md_cornerBehind_70 : decode b_Md_cornerBehind 70 = .ok (.iaload, 1) := by decide +kernel
theorem d_Md_cornerBehind_71 : decode b_Md_cornerBehind 71 = .ok (.invokevirtual 127, 3) := by decide +kernel
theorem d_Md_cornerBehind_74 : decode b_Md_cornerBehind 74 = .ok (.aload_n 0, 1) := by decide +kernel
theorem d_Md_cornerBehind_75 : decode b_Md_cornerBehind 75 = .ok (.iload_n 1, 1) := by decide +kernel
theorem d_Md_cornerBehind_76 : decode b_Md_cornerBehind 76 = .ok (.aload_n 0, 1) := by decide +kernel
theorem d_Md_cornerBehind_77 : decode b_Md_cornerBehind 77 = .ok (.getfield 7, 3) := by decide +kernel
theorem d_Md_cornerBehind_80 : decode b_Md_cornerBehind 80 = .ok (.iload_n 2, 1) := by decide +kernel
theorem d_Md_cornerBehind_81 : decode b_Md_cornerBehind 81 = .ok (.iaload, 1) := by decide +kernel
theorem d_Md_cornerBehind_82 : decode b_Md_cornerBehind 82 = .ok (.aload_n 0, 1) := by decide +kernel
theorem d_Md_cornerBehind_83 : decode b_Md_cornerBehind 83 = .ok (.getfield 13, 3) := by decide +kernel
theorem d_Md_cornerBehind_86 : decode b_Md_cornerBehind 86 = .ok (.iload_n 2, 1) := by decide +kernel
theorem d_Md_cornerBehind_87 : decode b_Md_cornerBehind 87 = .ok (.iaload, 1) := by decide +kernel
theorem d_Md_cornerBehind_88 : decode b_Md_cornerBehind 88 = .ok (.invokevirtual 127, 3) := by decide +kernel
theorem d_Md_cornerBehind_91 : decode b_Md_cornerBehind 91 = .ok (.lcmp, 1) := by decide +kernel
theorem d_Md_cornerBehind_92 : decode b_Md_cornerBehind 92 = .ok (.ifCond .le 5, 3) := by decide +kernel
theorem d_Md_cornerBehind_95 : decode b_Md_cornerBehind 95 = .ok (.iload_n 3, 1) := by decide +kernel
theorem d_Md_cornerBehind_96 : decode b_Md_cornerBehind 96 = .ok (.istore_n 2, 1) := by decide +kernel
theorem d_Md_cornerBehind_97 : decode b_Md_cornerBehind 97 = .ok (.iinc 3 1, 3) := by decide +kernel
theorem d_Md_cornerBehind_100 : decode b_Md_cornerBehind 100 = .ok (.goto (-80), 3) := by decide +kernel
theorem d_Md_cornerBehind_103 : decode b_Md_cornerBehind 103 = .ok (.iload_n 2, 1) := by decide +kernel
theorem d_Md_cornerBehind_104 : decode b_Md_cornerBehind 104 = .ok (.ireturn, 1) := by decide +kernel
theorem d_Md_findCorners_0 : decode b_Md_findCorners 0 = .ok (.aload_n 0, 1) := by decide +kernel
theorem d_Md_findCorners_1 : decode b_Md_findCorners 1 = .ok (.iconst 0, 1) := by decide +kernel
theorem d_Md_findCorners_2 : decode b_Md_findCorners 2 = .ok (.putfield 131, 3) := by decide +kernel
theorem d_Md_findCorners_5 : decode b_Md_findCorners 5 = .ok (.aload_n 0, 1) := by decide +kernel
theorem d_Md_findCorners_6 : decode b_Md_findCorners 6 = .ok (.getfield 98, 3) := by decide +kernel
theorem d_Md_findCorners_9 : decode b_Md_findCorners 9 = .ok (.ifCond .ne 4, 3) := by decide +kernel
theorem d_Md_findCorners_12 : decode b_Md_findCorners 12 = .ok (.return_, 1) := by decide +kernel
theorem d_Md_findCorners_13 : decode b_Md_findCorners 13 = .ok (.aload_n 0, 1) := by decide +kernel
theorem d_Md_findCorners_14 : decode b_Md_findCorners 14 = .ok (.invokevirtual 134, 3) := by decide +kernel
theorem d_Md_findCorners_17 : decode b_Md_findCorners 17 = .ok (.istore_n 1, 1) := by decide +kernel
theorem d_Md_findCorners_18 : decode b_Md_findCorners 18 = .ok (.iload_n 1, 1) := by decide +kernel
theorem d_Md_findCorners_19 : decode b_Md_findCorners 19 = .ok (.istore_n 2, 1) := by decide +kernel
theorem d_Md_findCorners_20 : decode b_Md_findCorners 20 = .ok (.iconst 1, 1) := by decide +kernel
theorem d_Md_findCorners_21 : decode b_Md_findCorners 21 = .ok (.istore_n 3, 1) := by decide +kernel
theorem d_Md_findCorners_22 : decode b_Md_findCorners 22 = .ok (.iload_n 3, 1) := by decide +kernel
theorem d_Md_findCorners_23 : decode b_Md_findCorners 23 = .ok (.ifCond .eq 43, 3) := by decide +kernel
theorem d_Md_findCorners_26 : decode b_Md_findCorners 26 = .ok (.aload_n 0, 1) := by decide +kernel
theorem d_Md_findCorners_27 : decode b_Md_findCorners 27 = .ok (.getfield 25, 3) := by decide +kernel
theorem d_Md_findCorners_30 : decode b_Md_findCorners 30 = .ok (.aload_n 0, 1) := by decide +kernel
theorem d_Md_findCorners_31 : decode b_Md_findCorners 31 = .ok (.getfield 131, 3) := by decide +kernel
theorem d_Md_findCorners_34 : decode b_Md_findCorners 34 = .ok (.iload_n 2, 1) := by decide +kernel
theorem d_Md_findCorners_35 : decode b_Md_findCorners 35 = .ok (.iastore, 1) := by decide +kernel
theorem d_Md_findCorners_36 : decode b_Md_findCorners 36 = .ok (.aload_n 0, 1) := by decide +kernel
theorem d_Md_findCorners_37 : decode b_Md_findCorners 37 = .ok (.dup, 1) := by decide +kernel
theorem d_Md_findCorners_38 : decode b_Md_findCorners 38 = .ok (.getfield 131, 3) := by decide +kernel
theorem d_Md_findCorners_41 : decode b_Md_findCorners 41 = .ok (.iconst 1, 1) := by decide +kernel
theorem d_Md_findCorners_42 : decode b_Md_findCorners 42 = .ok (.iadd, 1) := by decide +kernel
theorem d_Md_findCorners_43 : decode b_Md_findCorners 43 = .ok (.putfield 131, 3) := by decide +kernel
theorem d_Md_findCorners_46 : decode b_Md_findCorners 46 = .ok (.aload_n 0, 1) := by decide +kernel
theorem d_Md_findCorners_47 : decode b_Md_findCorners 47 = .ok (.iload_n 2, 1) := by decide +kernel
theorem d_Md_findCorners_48 : decode b_Md_findCorners 48 = .ok (.invokevirtual 137, 3) := by decide +kernel
theorem d_Md_findCorners_51 : decode b_Md_findCorners 51 = .ok (.istore_n 2, 1) := by decide +kernel
theorem d_Md_findCorners_52 : decode b_Md_findCorners 52 = .ok (.iload_n 2, 1) := by decide +kernel
theorem d_Md_findCorners_53 : decode b_Md_findCorners 53 = .ok (.iload_n 1, 1) := by decide +kernel
theorem d_Md_findCorners_54 : decode b_Md_findCorners 54 = .ok (.if_icmp .eq 7, 3) := by decide +kernel
theorem d_Md_findCorners_57 : decode b_Md_findCorners 57 = .ok (.iconst 1, 1) := by decide +kernel
theorem d_Md_findCorners_58 : decode b_Md_findCorners 58 = .ok (.goto 4, 3) := by decide +kernel
theorem d_Md_findCorners_61 : decode b_Md_findCorners 61 = .ok (.iconst 0, 1) := by decide +kernel
theorem d_Md_findCorners_62 : decode b_Md_findCorners 62 = .ok (.istore_n 3, 1) := by decide +kernel
theorem d_Md_findCorners_63 : decode b_Md_findCorners 63 = .ok (.goto (-41), 3) := by decide +kernel
theorem d_Md_findCorners_66 : decode b_Md_findCorners 66 = .ok (.return_, 1) := by decide +kernel
theorem d_Md_isCelled_0 : decode b_Md_isCelled 0 = .ok (.iconst 0, 1) := by decide +kernel
theorem d_Md_isCelled_1 : decode b_Md_isCelled 1 = .ok (.istore_n 2, 1) := by decide +kernel
theorem d_Md_isCelled_2 : decode b_Md_isCelled 2 = .ok (.iconst 0, 1) := by decide +kernel
theorem d_Md_isCelled_3 : decode b_Md_isCelled 3 = .ok (.istore_n 3, 1) := by decide +kernel
theorem d_Md_isCelled_4 : decode b_Md_isCelled 4 = .ok (.iload_n 3, 1) := by decide +kernel
theorem d_Md_isCelled_5 : decode b_Md_isCelled 5 = .ok (.aload_n 0, 1) := by decide +kernel
theorem d_Md_isCelled_6 : decode b_Md_isCelled 6 = .ok (.getfield 140, 3) := by decide +kernel
theorem d_Md_isCelled_9 : decode b_Md_isCelled 9 = .ok (.if_icmp .ge 29, 3) := by decide +kernel
theorem d_Md_isCelled_12 : decode b_Md_isCelled 12 = .ok (.iload_n 2, 1) := by decide +kernel
theorem d_Md_isCelled_13 : decode b_Md_isCelled 13 = .ok (.ifCond .ne 13, 3) := by decide +kernel
theorem d_Md_isCelled_16 : decode b_Md_isCelled 16 = .ok (.aload_n 0, 1) := by decide +kernel
theorem d_Md_isCelled_17 : decode b_Md_isCelled 17 = .ok (.getfield 34, 3) := by decide +kernel
theorem d_Md_isCelled_20 : decode b_Md_isCelled 20 = .ok (.iload_n 3, 1) := by decide +kernel
theorem d_Md_isCelled_21 : decode b_Md_isCelled 21 = .ok (.iaload, 1) := by decide +kernel
theorem d_Md_isCelled_22 : decode b_Md_isCelled 22 = .ok (.iload_n 1, 1) := by decide +kernel
theorem d_Md_isCelled_23 : decode b_Md_isCelled 23 = .ok (.if_icmp .ne 7, 3) := by decide +kernel
theorem d_Md_isCelled_26 : decode b_Md_isCelled 26 = .ok (.iconst 1, 1) := by decide +kernel
theorem d_Md_isCelled_27 : decode b_Md_isCelled 27 = .ok (.goto 4, 3) := by decide +kernel
theorem d_Md_isCelled_30 : decode b_Md_isCelled 30 = .ok (.iconst 0, 1) := by decide +kernel
theorem d_Md_isCelled_31 : decode b_Md_isCelled 31 = .ok (.istore_n 2, 1) := by decide +kernel
theorem d_Md_isCelled_32 : decode b_Md_isCelled 32 = .ok (.iinc 3 1, 3) := by decide +kernel
theorem d_Md_isCelled_35 : decode b_Md_isCelled 35 = .ok (.goto (-31), 3) := by decide +kernel
theorem d_Md_isCelled_38 : decode b_Md_isCelled 38 = .ok (.iload_n 2, 1) := by decide +kernel
theorem d_Md_isCelled_39 : decode b_Md_isCelled 39 = .ok (.ireturn, 1) := by decide +kernel
theorem d_Md_findCell_0 : decode b_Md_findCell 0 = .ok (.aload_n 0, 1) := by decide +kernel
theorem d_Md_findCell_1 : decode b_Md_findCell 1 = .ok (.iconst 0, 1) := by decide +kernel
theorem d_Md_findCell_2 : decode b_Md_findCell 2 = .ok (.putfield 140, 3) := by decide +kernel
theorem d_Md_findCell_5 : decode b_Md_findCell 5 = .ok (.iconst (-1), 1) := by decide +kernel
theorem d_Md_findCell_6 : decode b_Md_findCell 6 = .ok (.istore 4, 2) := by decide +kernel
theorem d_Md_findCell_8 : decode b_Md_findCell 8 = .ok (.iconst 0, 1) := by decide +kernel
theorem d_Md_findCell_9 : decode b_Md_findCell 9 = .ok (.istore 5, 2) := by decide +kernel
theorem d_Md_findCell_11 : decode b_Md_findCell 11 = .ok (.iconst 0, 1) := by decide +kernel
theorem d_Md_findCell_12 : decode b_Md_findCell 12 = .ok (.istore 6, 2) := by decide +kernel
theorem d_Md_findCell_14 : decode b_Md_findCell 14 = .ok (.iload 6, 2) := by decide +kernel
theorem d_Md_findCell_16 : decode b_Md_findCell 16 = .ok (.aload_n 0, 1) := by decide +kernel
theorem d_Md_findCell_17 : decode b_Md_findCell 17 = .ok (.getfield 98, 3) := by decide +kernel
theorem d_Md_findCell_20 : decode b_Md_findCell 20 = .ok (.if_icmp .ge 71, 3) := by decide +kernel
theorem d_Md_findCell_23 : decode b_Md_findCell 23 = .ok (.iload 6, 2) := by decide +kernel
theorem d_Md_findCell_25 : decode b_Md_findCell 25 = .ok (.iload_n 1, 1) := by decide +kernel
theorem d_Md_findCell_26 : decode b_Md_findCell 26 = .ok (.if_icmp .eq 27, 3) := by decide +kernel
theorem d_Md_findCell_29 : decode b_Md_findCell 29 = .ok (.iload 6, 2) := by decide +kernel
theorem d_Md_findCell_31 : decode b_Md_findCell 31 = .ok (.iload_n 2, 1) := by decide +kernel
theorem d_Md_findCell_32 : decode b_Md_findCell 32 = .ok (.if_icmp .eq 21, 3) := by decide +kernel
theorem d_Md_findCell_35 : decode b_Md_findCell 35 = .ok (.iload 6, 2) := by decide +kernel
theorem d_Md_findCell_37 : decode b_Md_findCell 37 = .ok (.iload_n 3, 1) := by decide +kernel
theorem d_Md_findCell_38 : decode b_Md_findCell 38 = .ok (.if_icmp .eq 15, 3) := by decide +kernel
theorem d_Md_findCell_41 : decode b_Md_findCell 41 = .ok (.aload_n 0, 1) := by decide +kernel
theorem d_Md_findCell_42 : decode b_Md_findCell 42 = .ok (.iload_n 1, 1) := by decide +kernel
theorem d_Md_findCell_43 : decode b_Md_findCell 43 = .ok (.iload_n 2, 1) := by decide +kernel
theorem d_Md_findCell_44 : decode b_Md_findCell 44 = .ok (.iload_n 3, 1) := by decide +kernel
theorem d_Md_findCell_45 : decode b_Md_findCell 45 = .ok (.iload 6, 2) := by decide +kernel
theorem d_Md_findCell_47 : decode b_Md_findCell 47 = .ok (.invokevirtual 143, 3) := by decide +kernel
theorem d_Md_findCell_50 : decode b_Md_findCell 50 = .ok (.ifCond .ne 35, 3) := by decide +kernel
theorem d_Md_findCell_53 : decode b_Md_findCell 53 = .ok (.aload_n 0, 1) := by decide +kernel
theorem d_Md_findCell_54 : decode b_Md_findCell 54 = .ok (.getfield 37, 3) := by decide +kernel
theorem d_Md_findCell_57 : decode b_Md_findCell 57 = .ok (.iload 5, 2) := by decide +kernel
theorem d_Md_findCell_59 : decode b_Md_findCell 59 = .ok (.iload 6, 2) := by decide +kernel
theorem d_Md_findCell_61 : decode b_Md_findCell 61 = .ok (.iastore, 1) := by decide +kernel
theorem d_Md_findCell_62 : decode b_Md_findCell 62 = .ok (.iinc 5 1, 3) := by decide +kernel
theorem d_Md_findCell_65 : decode b_Md_findCell 65 = .ok (.iload 4, 2) := by decide +kernel
theorem d_Md_findCell_67 : decode b_Md_findCell 67 = .ok (.ifCond .lt 14, 3) := by decide +kernel
theorem d_Md_findCell_70 : decode b_Md_findCell 70 = .ok (.aload_n 0, 1) := by decide +kernel
theorem d_Md_findCell_71 : decode b_Md_findCell 71 = .ok (.iload 6, 2) := by decide +kernel
theorem d_Md_findCell_73 : decode b_Md_findCell 73 = .ok (.iload 4, 2) := by decide +kernel
theorem d_Md_findCell_75 : decode b_Md_findCell 75 = .ok (.invokevirtual 120, 3) := by decide +kernel
theorem d_Md_findCell_78 : decode b_Md_findCell 78 = .ok (.ifCond .eq 7, 3) := by decide +kernel
theorem d_Md_findCell_81 : decode b_Md_findCell 81 = .ok (.iload 6, 2) := by decide +kernel
theorem d_Md_findCell_83 : decode b_Md_findCell 83 = .ok (.istore 4, 2) := by decide +kernel
theorem d_Md_findCell_85 : decode b_Md_findCell 85 = .ok (.iinc 6 1, 3) := by decide +kernel
theorem d_Md_findCell_88 : decode b_Md_findCell 88 = .ok (.goto (-74), 3) := by decide +kernel
theorem d_Md_findCell_91 : decode b_Md_findCell 91 = .ok (.aload_n 0, 1) := by decide +kernel
theorem d_Md_findCell_92 : decode b_Md_findCell 92 = .ok (.getfield 34, 3) := by decide +kernel
theorem d_Md_findCell_95 : decode b_Md_findCell 95 = .ok (.iconst 0, 1) := by decide +kernel
theorem d_Md_findCell_96 : decode b_Md_findCell 96 = .ok (.iload 4, 2) := by decide +kernel
theorem d_Md_findCell_98 : decode b_Md_findCell 98 = .ok (.iastore, 1) := by decide +kernel
theorem d_Md_findCell_99 : decode b_Md_findCell 99 = .ok (.aload_n 0, 1) := by decide +kernel
theorem d_Md_findCell_100 : decode b_Md_findCell 100 = .ok (.iconst 1, 1) := by decide +kernel
theorem d_Md_findCell_101 : decode b_Md_findCell 101 = .ok (.putfield 140, 3) := by decide +kernel
theorem d_Md_findCell_104 : decode b_Md_findCell 104 = .ok (.aload_n 0, 1) := by decide +kernel
theorem d_Md_findCell_105 : decode b_Md_findCell 105 = .ok (.getfield 140, 3) := by decide +kernel
theorem d_Md_findCell_108 : decode b_Md_findCell 108 = .ok (.iload 5, 2) := by decide +kernel
theorem d_Md_findCell_110 : decode b_Md_findCell 110 = .ok (.if_icmp .ge 101, 3) := by decide +kernel
theorem d_Md_findCell_113 : decode b_Md_findCell 113 = .ok (.iconst (-1), 1) := by decide +kernel
theorem d_Md_findCell_114 : decode b_Md_findCell 114 = .ok (.istore 6, 2) := by decide +kernel
theorem d_Md_findCell_116 : decode b_Md_findCell 116 = .ok (.iconst 0, 1) := by decide +kernel
theorem d_Md_findCell_117 : decode b_Md_findCell 117 = .ok (.istore 7, 2) := by decide +kernel
theorem d_Md_findCell_119 : decode b_Md_findCell 119 = .ok (.iload 7, 2) := by decide +kernel
theorem d_Md_findCell_121 : decode b_Md_findCell 121 = .ok (.iload 5, 2) := by decide +kernel
theorem d_Md_findCell_123 : decode b_Md_findCell 123 = .ok (.if_icmp .ge 64, 3) := by decide +kernel
theorem d_Md_findCell_126 : decode b_Md_findCell 126 = .ok (.aload_n 0, 1) := by decide +kernel
theorem d_Md_findCell_127 : decode b_Md_findCell 127 = .ok (.aload_n 0, 1) := by decide +kernel
theorem d_Md_findCell_128 : decode b_Md_findCell 128 = .ok (.getfield 37, 3) := by decide +kernel
theorem d_Md_findCell_131 : decode b_Md_findCell 131 = .ok (.iload 7, 2) := by decide +kernel
theorem d_Md_findCell_133 : decode b_Md_findCell 133 = .ok (.iaload, 1) := by decide +kernel
theorem d_Md_findCell_134 : decode b_Md_findCell 134 = .ok (.invokevirtual 146, 3) := by decide +kernel
theorem d_Md_findCell_137 : decode b_Md_findCell 137 = .ok (.ifCond .ne 44, 3) := by decide +kernel
theorem d_Md_findCell_140 : decode b_Md_findCell 140 = .ok (.iload 6, 2) := by decide +kernel
theorem d_Md_findCell_142 : decode b_Md_findCell 142 = .ok (.ifCond .lt 30, 3) := by decide +kernel
theorem d_Md_findCell_145 : decode b_Md_findCell 145 = .ok (.aload_n 0, 1) := by decide +kernel
theorem d_Md_findCell_146 : decode b_Md_findCell 146 = .ok (.aload_n 0, 1) := by decide +kernel
theorem d_Md_findCell_147 : decode b_Md_findCell 147 = .ok (.getfield 34, 3) := by decide +kernel
theorem d_Md_findCell_150 : decode b_Md_findCell 150 = .ok (.aload_n 0, 1) := by decide +kernel
theorem d_Md_findCell_151 : decode b_Md_findCell 151 = .ok (.getfield 140, 3) := by decide +kernel
theorem d_Md_findCell_154 : decode b_Md_findCell 154 = .ok (.iconst 1, 1) := by decide +kernel
theorem d_Md_findCell_155 : decode b_Md_findCell 155 = .ok (.isub, 1) := by decide +kernel
theorem d_Md_findCell_156 : decode b_Md_findCell 156 = .ok (.iaload, 1) := by decide +kernel
theorem d_Md_findCell_157 : decode b_Md_findCell 157 = .ok (.iload 6, 2) := by decide +kernel
theorem d_Md_findCell_159 : decode b_Md_findCell 159 = .ok (.aload_n 0, 1) := by decide +kernel
theorem d_Md_findCell_160 : decode b_Md_findCell 160 = .ok (.getfield 37, 3) := by decide +kernel
theorem d_Md_findCell_163 : decode b_Md_findCell 163 = .ok (.iload 7, 2) := by decide +kernel
theorem d_Md_findCell_165 : decode b_Md_findCell 165 = .ok (.iaload, 1) := by decide +kernel
theorem d_Md_findCell_166 : decode b_Md_findCell 166 = .ok (.invokevirtual 123, 3) := by decide +kernel
theorem d_Md_findCell_169 : decode b_Md_findCell 169 = .ok (.ifCond .ge 12, 3) := by decide +kernel
theorem d_Md_findCell_172 : decode b_Md_findCell 172 = .ok (.aload_n 0, 1) := by decide +kernel
theorem d_Md_findCell_173 : decode b_Md_findCell 173 = .ok (.getfield 37, 3) := by decide +kernel
theorem d_Md_findCell_176 : decode b_Md_findCell 176 = .ok (.iload 7, 2) := by decide +kernel
theorem d_Md_findCell_178 : decode b_Md_findCell 178 = .ok (.iaload, 1) := by decide +kernel
theorem d_Md_findCell_179 : decode b_Md_findCell 179 = .ok (.istore 6, 2) := by decide +kernel
theorem d_Md_findCell_181 : decode b_Md_findCell 181 = .ok (.iinc 7 1, 3) := by decide +kernel
theorem d_Md_findCell_184 : decode b_Md_findCell 184 = .ok (.goto (-65), 3) := by decide +kernel
theorem d_Md_findCell_187 : decode b_Md_findCell 187 = .ok (.aload_n 0, 1) := by decide +kernel
theorem d_Md_findCell_188 : decode b_Md_findCell 188 = .ok (.getfield 34, 3) := by decide +kernel
theorem d_Md_findCell_191 : decode b_Md_findCell 191 = .ok (.aload_n 0, 1) := by decide +kernel
theorem d_Md_findCell_192 : decode b_Md_findCell 192 = .ok (.getfield 140, 3) := by decide +kernel
theorem d_Md_findCell_195 : decode b_Md_findCell 195 = .ok (.iload 6, 2) := by decide +kernel
theorem d_Md_findCell_197 : decode b_Md_findCell 197 = .ok (.iastore, 1) := by decide +kernel
theorem d_Md_findCell_198 : decode b_Md_findCell 198 = .ok (.aload_n 0, 1) := by decide +kernel
theorem d_Md_findCell_199 : decode b_Md_findCell 199 = .ok (.dup, 1) := by decide +kernel
theorem d_Md_findCell_200 : decode b_Md_findCell 200 = .ok (.getfield 140, 3) := by decide +kernel
theorem d_Md_findCell_203 : decode b_Md_findCell 203 = .ok (.iconst 1, 1) := by decide +kernel
theorem d_Md_findCell_204 : decode b_Md_findCell 204 = .ok (.iadd, 1) := by decide +kernel
theorem d_Md_findCell_205 : decode b_Md_findCell 205 = .ok (.putfield 140, 3) := by decide +kernel
theorem d_Md_findCell_208 : decode b_Md_findCell 208 = .ok (.goto (-104), 3) := by decide +kernel
theorem d_Md_findCell_211 : decode b_Md_findCell 211 = .ok (.return_, 1) := by decide +kernel
theorem d_Md_isSide_0 : decode b_Md_isSide 0 = .ok (.iconst 0, 1) := by decide +kernel
theorem d_Md_isSide_1 : decode b_Md_isSide 1 = .ok (.istore_n 3, 1) := by decide +kernel
theorem d_Md_isSide_2 : decode b_Md_isSide 2 = .ok (.iconst 0, 1) := by decide +kernel
theorem d_Md_isSide_3 : decode b_Md_isSide 3 = .ok (.istore 4, 2) := by decide +kernel
theorem d_Md_isSide_5 : decode b_Md_isSide 5 = .ok (.iload 4, 2) := by decide +kernel
theorem d_Md_isSide_7 : decode b_Md_isSide 7 = .ok (.aload_n 0, 1) := by decide +kernel
theorem d_Md_isSide_8 : decode b_Md_isSide 8 = .ok (.getfield 150, 3) := by decide +kernel
theorem d_Md_isSide_11 : decode b_Md_isSide 11 = .ok (.if_icmp .ge 41, 3) := by decide +kernel
theorem d_Md_isSide_14 : decode b_Md_isSide 14 = .ok (.iload_n 3, 1) := by decide +kernel
theorem d_Md_isSide_15 : decode b_Md_isSide 15 = .ok (.ifCond .ne 37, 3) := by decide +kernel
theorem d_Md_isSide_18 : decode b_Md_isSide 18 = .ok (.aload_n 0, 1) := by decide +kernel
theorem d_Md_isSide_19 : decode b_Md_isSide 19 = .ok (.getfield 28, 3) := by decide +kernel
theorem d_Md_isSide_22 : decode b_Md_isSide 22 = .ok (.iload 4, 2) := by decide +kernel
theorem d_Md_isSide_24 : decode b_Md_isSide 24 = .ok (.iaload, 1) := by decide +kernel
theorem d_Md_isSide_25 : decode b_Md_isSide 25 = .ok (.iload_n 1, 1) := by decide +kernel
theorem d_Md_isSide_26 : decode b_Md_isSide 26 = .ok (.if_icmp .ne 18, 3) := by decide +kernel
theorem d_Md_isSide_29 : decode b_Md_isSide 29 = .ok (.aload_n 0, 1) := by decide +kernel
theorem d_Md_isSide_30 : decode b_Md_isSide 30 = .ok (.getfield 31, 3) := by decide +kernel
theorem d_Md_isSide_33 : decode b_Md_isSide 33 = .ok (.iload 4, 2) := by decide +kernel
theorem d_Md_isSide_35 : decode b_Md_isSide 35 = .ok (.iaload, 1) := by decide +kernel
theorem d_Md_isSide_36 : decode b_Md_isSide 36 = .ok (.iload_n 2, 1) := by decide +kernel
theorem d_Md_isSide_37 : decode b_Md_isSide 37 = .ok (.if_icmp .ne 7, 3) := by decide +kernel
theorem d_Md_isSide_40 : decode b_Md_isSide 40 = .ok (.iconst 1, 1) := by decide +kernel
theorem d_Md_isSide_41 : decode b_Md_isSide 41 = .ok (.goto 4, 3) := by decide +kernel
theorem d_Md_isSide_44 : decode b_Md_isSide 44 = .ok (.iconst 0, 1) := by decide +kernel
theorem d_Md_isSide_45 : decode b_Md_isSide 45 = .ok (.istore_n 3, 1) := by decide +kernel
theorem d_Md_isSide_46 : decode b_Md_isSide 46 = .ok (.iinc 4 1, 3) := by decide +kernel
theorem d_Md_isSide_49 : decode b_Md_isSide 49 = .ok (.goto (-44), 3) := by decide +kernel
theorem d_Md_isSide_52 : decode b_Md_isSide 52 = .ok (.iload_n 3, 1) := by decide +kernel
theorem d_Md_isSide_53 : decode b_Md_isSide 53 = .ok (.ireturn, 1) := by decide +kernel
theorem d_Md_tell_0 : decode b_Md_tell 0 = .ok (.iload_n 2, 1) := by decide +kernel
theorem d_Md_tell_1 : decode b_Md_tell 1 = .ok (.iload_n 1, 1) := by decide +kernel
theorem d_Md_tell_2 : decode b_Md_tell 2 = .ok (.if_icmp .ge 12, 3) := by decide +kernel
theorem d_Md_tell_5 : decode b_Md_tell 5 = .ok (.iload_n 2, 1) := by decide +kernel
theorem d_Md_tell_6 : decode b_Md_tell 6 = .ok (.iload_n 3, 1) := by decide +kernel
theorem d_Md_tell_7 : decode b_Md_tell 7 = .ok (.if_icmp .ge 7, 3) := by decide +kernel
theorem d_Md_tell_10 : decode b_Md_tell 10 = .ok (.iconst 1, 1) := by decide +kernel
theorem d_Md_tell_11 : decode b_Md_tell 11 = .ok (.goto 4, 3) := by decide +kernel
theorem d_Md_tell_14 : decode b_Md_tell 14 = .ok (.iconst 0, 1) := by decide +kernel
theorem d_Md_tell_15 : decode b_Md_tell 15 = .ok (.istore 4, 2) := by decide +kernel
theorem d_Md_tell_17 : decode b_Md_tell 17 = .ok (.iload_n 3, 1) := by decide +kernel
theorem d_Md_tell_18 : decode b_Md_tell 18 = .ok (.iload_n 1, 1) := by decide +kernel
theorem d_Md_tell_19 : decode b_Md_tell 19 = .ok (.if_icmp .ge 12, 3) := by decide +kernel
theorem d_Md_tell_22 : decode b_Md_tell 22 = .ok (.iload_n 3, 1) := by decide +kernel
theorem d_Md_tell_23 : decode b_Md_tell 23 = .ok (.iload_n 2, 1) := by decide +kernel
theorem d_Md_tell_24 : decode b_Md_tell 24 = .ok (.if_icmp .ge 7, 3) := by decide +kernel
theorem d_Md_tell_27 : decode b_Md_tell 27 = .ok (.iconst 1, 1) := by decide +kernel
theorem d_Md_tell_28 : decode b_Md_tell 28 = .ok (.goto 4, 3) := by decide +kernel
theorem d_Md_tell_31 : decode b_Md_tell 31 = .ok (.iconst 0, 1) := by decide +kernel
theorem d_Md_tell_32 : decode b_Md_tell 32 = .ok (.istore 5, 2) := by decide +kernel
theorem d_Md_tell_34 : decode b_Md_tell 34 = .ok (.aload_n 0, 1) := by decide +kernel
theorem d_Md_tell_35 : decode b_Md_tell 35 = .ok (.getfield 16, 3) := by decide +kernel
theorem d_Md_tell_38 : decode b_Md_tell 38 = .ok (.aload_n 0, 1) := by decide +kernel
theorem d_Md_tell_39 : decode b_Md_tell 39 = .ok (.getfield 153, 3) := by decide +kernel
theorem d_Md_tell_42 : decode b_Md_tell 42 = .ok (.iload 4, 2) := by decide +kernel
theorem d_Md_tell_44 : decode b_Md_tell 44 = .ok (.ifCond .eq 7, 3) := by decide +kernel
theorem d_Md_tell_47 : decode b_Md_tell 47 = .ok (.iload_n 2, 1) := by decide +kernel
theorem d_Md_tell_48 : decode b_Md_tell 48 = .ok (.goto 13, 3) := by decide +kernel
theorem d_Md_tell_51 : decode b_Md_tell 51 = .ok (.iload 5, 2) := by decide +kernel
theorem d_Md_tell_53 : decode b_Md_tell 53 = .ok (.ifCond .eq 7, 3) := by decide +kernel
theorem d_Md_tell_56 : decode b_Md_tell 56 = .ok (.iload_n 3, 1) := by decide +kernel
theorem d_Md_tell_57 : decode b_Md_tell 57 = .ok (.goto 4, 3) := by decide +kernel
theorem d_Md_tell_60 : decode b_Md_tell 60 = .ok (.iload_n 1, 1) := by decide +kernel
theorem d_Md_tell_61 : decode b_Md_tell 61 = .ok (.iastore, 1) := by decide +kernel
theorem d_Md_tell_62 : decode b_Md_tell 62 = .ok (.aload_n 0, 1) := by decide +kernel
theorem d_Md_tell_63 : decode b_Md_tell 63 = .ok (.getfield 19, 3) := by decide +kernel
theorem d_Md_tell_66 : decode b_Md_tell 66 = .ok (.aload_n 0, 1) := by decide +kernel
theorem d_Md_tell_67 : decode b_Md_tell 67 = .ok (.getfield 153, 3) := by decide +kernel
theorem d_Md_tell_70 : decode b_Md_tell 70 = .ok (.iload 4, 2) := by decide +kernel
theorem d_Md_tell_72 : decode b_Md_tell 72 = .ok (.ifCond .eq 7, 3) := by decide +kernel
theorem d_Md_tell_75 : decode b_Md_tell 75 = .ok (.iload_n 3, 1) := by decide +kernel
theorem d_Md_tell_76 : decode b_Md_tell 76 = .ok (.goto 13, 3) := by decide +kernel
theorem d_Md_tell_79 : decode b_Md_tell 79 = .ok (.iload 5, 2) := by decide +kernel
theorem d_Md_tell_81 : decode b_Md_tell 81 = .ok (.ifCond .eq 7, 3) := by decide +kernel
theorem d_Md_tell_84 : decode b_Md_tell 84 = .ok (.iload_n 1, 1) := by decide +kernel
theorem d_Md_tell_85 : decode b_Md_tell 85 = .ok (.goto 4, 3) := by decide +kernel
theorem d_Md_tell_88 : decode b_Md_tell 88 = .ok (.iload_n 2, 1) := by decide +kernel
theorem d_Md_tell_89 : decode b_Md_tell 89 = .ok (.iastore, 1) := by decide +kernel
theorem d_Md_tell_90 : decode b_Md_tell 90 = .ok (.aload_n 0, 1) := by decide +kernel
theorem d_Md_tell_91 : decode b_Md_tell 91 = .ok (.getfield 22, 3) := by decide +kernel
theorem d_Md_tell_94 : decode b_Md_tell 94 = .ok (.aload_n 0, 1) := by decide +kernel
theorem d_Md_tell_95 : decode b_Md_tell 95 = .ok (.getfield 153, 3) := by decide +kernel
theorem d_Md_tell_98 : decode b_Md_tell 98 = .ok (.iload 4, 2) := by decide +kernel
theorem d_Md_tell_100 : decode b_Md_tell 100 = .ok (.ifCond .eq 7, 3) := by decide +kernel
theorem d_Md_tell_103 : decode b_Md_tell 103 = .ok (.iload_n 1, 1) := by decide +kernel
theorem d_Md_tell_104 : decode b_Md_tell 104 = .ok (.goto 13, 3) := by decide +kernel
theorem d_Md_tell_107 : decode b_Md_tell 107 = .ok (.iload 5, 2) := by decide +kernel
theorem d_Md_tell_109 : decode b_Md_tell 109 = .ok (.ifCond .eq 7, 3) := by decide +kernel
theorem d_Md_tell_112 : decode b_Md_tell 112 = .ok (.iload_n 2, 1) := by decide +kernel
theorem d_Md_tell_113 : decode b_Md_tell 113 = .ok (.goto 4, 3) := by decide +kernel
theorem d_Md_tell_116 : decode b_Md_tell 116 = .ok (.iload_n 3, 1) := by decide +kernel
theorem d_Md_tell_117 : decode b_Md_tell 117 = .ok (.iastore, 1) := by decide +kernel
theorem d_Md_tell_118 : decode b_Md_tell 118 = .ok (.aload_n 0, 1) := by decide +kernel
theorem d_Md_tell_119 : decode b_Md_tell 119 = .ok (.dup, 1) := by decide +kernel
theorem d_Md_tell_120 : decode b_Md_tell 120 = .ok (.getfield 153, 3) := by decide +kernel
theorem d_Md_tell_123 : decode b_Md_tell 123 = .ok (.iconst 1, 1) := by decide +kernel
theorem d_Md_tell_124 : decode b_Md_tell 124 = .ok (.iadd, 1) := by decide +kernel
theorem d_Md_tell_125 : decode b_Md_tell 125 = .ok (.putfield 153, 3) := by decide +kernel
theorem d_Md_tell_128 : decode b_Md_tell 128 = .ok (.return_, 1) := by decide +kernel
theorem d_Md_look_0 : decode b_Md_look 0 = .ok (.aload_n 0, 1) := by decide +kernel
theorem d_Md_look_1 : decode b_Md_look 1 = .ok (.iload_n 1, 1) := by decide +kernel
theorem d_Md_look_2 : decode b_Md_look 2 = .ok (.iload_n 2, 1) := by decide +kernel
theorem d_Md_look_3 : decode b_Md_look 3 = .ok (.invokevirtual 156, 3) := by decide +kernel
theorem d_Md_look_6 : decode b_Md_look 6 = .ok (.ifCond .eq 4, 3) := by decide +kernel
theorem d_Md_look_9 : decode b_Md_look 9 = .ok (.return_, 1) := by decide +kernel
theorem d_Md_look_10 : decode b_Md_look 10 = .ok (.iconst (-1), 1) := by decide +kernel
theorem d_Md_look_11 : decode b_Md_look 11 = .ok (.istore_n 3, 1) := by decide +kernel
theorem d_Md_look_12 : decode b_Md_look 12 = .ok (.iconst 0, 1) := by decide +kernel
theorem d_Md_look_13 : decode b_Md_look 13 = .ok (.istore 4, 2) := by decide +kernel
theorem d_Md_look_15 : decode b_Md_look 15 = .ok (.iload 4, 2) := by decide +kernel
theorem d_Md_look_17 : decode b_Md_look 17 = .ok (.aload_n 0, 1) := by decide +kernel
theorem d_Md_look_18 : decode b_Md_look 18 = .ok (.getfield 98, 3) := by decide +kernel
theorem d_Md_look_21 : decode b_Md_look 21 = .ok (.if_icmp .ge 39, 3) := by decide +kernel
theorem d_Md_look_24 : decode b_Md_look 24 = .ok (.aload_n 0, 1) := by decide +kernel
theorem d_Md_look_25 : decode b_Md_look 25 = .ok (.iload_n 1, 1) := by decide +kernel
theorem d_Md_look_26 : decode b_Md_look 26 = .ok (.iload_n 2, 1) := by decide +kernel
theorem d_Md_look_27 : decode b_Md_look 27 = .ok (.iload 4, 2) := by decide +kernel
theorem d_Md_look_29 : decode b_Md_look 29 = .ok (.invokevirtual 123, 3) := by decide +kernel
theorem d_Md_look_32 : decode b_Md_look 32 = .ok (.ifCond .le 22, 3) := by decide +kernel
theorem d_Md_look_35 : decode b_Md_look 35 = .ok (.iload_n 3, 1) := by decide +kernel
theorem d_Md_look_36 : decode b_Md_look 36 = .ok (.ifCond .lt 15, 3) := by decide +kernel
theorem d_Md_look_39 : decode b_Md_look 39 = .ok (.aload_n 0, 1) := by decide +kernel
theorem d_Md_look_40 : decode b_Md_look 40 = .ok (.iload_n 1, 1) := by decide +kernel
theorem d_Md_look_41 : decode b_Md_look 41 = .ok (.iload_n 2, 1) := by decide +kernel
theorem d_Md_look_42 : decode b_Md_look 42 = .ok (.iload_n 3, 1) := by decide +kernel
theorem d_Md_look_43 : decode b_Md_look 43 = .ok (.iload 4, 2) := by decide +kernel
theorem d_Md_look_45 : decode b_Md_look 45 = .ok (.invokevirtual 143, 3) := by decide +kernel
theorem d_Md_look_48 : decode b_Md_look 48 = .ok (.ifCond .le 6, 3) := by decide +kernel
theorem d_Md_look_51 : decode b_Md_look 51 = .ok (.iload 4, 2) := by decide +kernel
theorem d_Md_look_53 : decode b_Md_look 53 = .ok (.istore_n 3, 1) := by decide +kernel
theorem d_Md_look_54 : decode b_Md_look 54 = .ok (.iinc 4 1, 3) := by decide +kernel
theorem d_Md_look_57 : decode b_Md_look 57 = .ok (.goto (-42), 3) := by decide +kernel
theorem d_Md_look_60 : decode b_Md_look 60 = .ok (.iload_n 3, 1) := by decide +kernel
theorem d_Md_look_61 : decode b_Md_look 61 = .ok (.ifCond .ge 4, 3) := by decide +kernel
theorem d_Md_look_64 : decode b_Md_look 64 = .ok (.return_, 1) := by decide +kernel
theorem d_Md_look_65 : decode b_Md_look 65 = .ok (.aload_n 0, 1) := by decide +kernel
theorem d_Md_look_66 : decode b_Md_look 66 = .ok (.iload_n 1, 1) := by decide +kernel
theorem d_Md_look_67 : decode b_Md_look 67 = .ok (.iload_n 2, 1) := by decide +kernel
theorem d_Md_look_68 : decode b_Md_look 68 = .ok (.iload_n 3, 1) := by decide +kernel
theorem d_Md_look_69 : decode b_Md_look 69 = .ok (.invokevirtual 159, 3) := by decide +kernel
theorem d_Md_look_72 : decode b_Md_look 72 = .ok (.iconst 0, 1) := by decide +kernel
theorem d_Md_look_73 : decode b_Md_look 73 = .ok (.istore 4, 2) := by decide +kernel
theorem d_Md_look_75 : decode b_Md_look 75 = .ok (.iload 4, 2) := by decide +kernel
theorem d_Md_look_77 : decode b_Md_look 77 = .ok (.aload_n 0, 1) := by decide +kernel
theorem d_Md_look_78 : decode b_Md_look 78 = .ok (.getfield 140, 3) := by decide +kernel
theorem d_Md_look_81 : decode b_Md_look 81 = .ok (.if_icmp .ge 58, 3) := by decide +kernel
theorem d_Md_look_84 : decode b_Md_look 84 = .ok (.aload_n 0, 1) := by decide +kernel
theorem d_Md_look_85 : decode b_Md_look 85 = .ok (.getfield 28, 3) := by decide +kernel
theorem d_Md_look_88 : decode b_Md_look 88 = .ok (.aload_n 0, 1) := by decide +kernel
theorem d_Md_look_89 : decode b_Md_look 89 = .ok (.getfield 150, 3) := by decide +kernel
theorem d_Md_look_92 : decode b_Md_look 92 = .ok (.aload_n 0, 1) := by decide +kernel
theorem d_Md_look_93 : decode b_Md_look 93 = .ok (.getfield 34, 3) := by decide +kernel
theorem d_Md_look_96 : decode b_Md_look 96 = .ok (.iload 4, 2) := by decide +kernel
theorem d_Md_look_98 : decode b_Md_look 98 = .ok (.iaload, 1) := by decide +kernel
theorem d_Md_look_99 : decode b_Md_look 99 = .ok (.iastore, 1) := by decide +kernel
theorem d_Md_look_100 : decode b_Md_look 100 = .ok (.aload_n 0, 1) := by decide +kernel
theorem d_Md_look_101 : decode b_Md_look 101 = .ok (.getfield 31, 3) := by decide +kernel
theorem d_Md_look_104 : decode b_Md_look 104 = .ok (.aload_n 0, 1) := by decide +kernel
theorem d_Md_look_105 : decode b_Md_look 105 = .ok (.getfield 150, 3) := by decide +kernel
theorem d_Md_look_108 : decode b_Md_look 108 = .ok (.aload_n 0, 1) := by decide +kernel
theorem d_Md_look_109 : decode b_Md_look 109 = .ok (.getfield 34, 3) := by decide +kernel
theorem d_Md_look_112 : decode b_Md_look 112 = .ok (.iload 4, 2) := by decide +kernel
theorem d_Md_look_114 : decode b_Md_look 114 = .ok (.iconst 1, 1) := by decide +kernel
theorem d_Md_look_115 : decode b_Md_look 115 = .ok (.iadd, 1) := by decide +kernel
theorem d_Md_look_116 : decode b_Md_look 116 = .ok (.aload_n 0, 1) := by decide +kernel
theorem d_Md_look_117 : decode b_Md_look 117 = .ok (.getfield 140, 3) := by decide +kernel
theorem d_Md_look_120 : decode b_Md_look 120 = .ok (.irem, 1) := by decide +kernel
theorem d_Md_look_121 : decode b_Md_look 121 = .ok (.iaload, 1) := by decide +kernel
theorem d_Md_look_122 : decode b_Md_look 122 = .ok (.iastore, 1) := by decide +kernel
theorem d_Md_look_123 : decode b_Md_look 123 = .ok (.aload_n 0, 1) := by decide +kernel
theorem d_Md_look_124 : decode b_Md_look 124 = .ok (.dup, 1) := by decide +kernel
theorem d_Md_look_125 : decode b_Md_look 125 = .ok (.getfield 150, 3) := by decide +kernel
theorem d_Md_look_128 : decode b_Md_look 128 = .ok (.iconst 1, 1) := by decide +kernel
theorem d_Md_look_129 : decode b_Md_look 129 = .ok (.iadd, 1) := by decide +kernel
theorem d_Md_look_130 : decode b_Md_look 130 = .ok (.putfield 150, 3) := by decide +kernel
theorem d_Md_look_133 : decode b_Md_look 133 = .ok (.iinc 4 1, 3) := by decide +kernel
theorem d_Md_look_136 : decode b_Md_look 136 = .ok (.goto (-61), 3) := by decide +kernel
theorem d_Md_look_139 : decode b_Md_look 139 = .ok (.iconst 2, 1) := by decide +kernel
theorem d_Md_look_140 : decode b_Md_look 140 = .ok (.istore 4, 2) := by decide +kernel
theorem d_Md_look_142 : decode b_Md_look 142 = .ok (.iload 4, 2) := by decide +kernel
theorem d_Md_look_144 : decode b_Md_look 144 = .ok (.aload_n 0, 1) := by decide +kernel
theorem d_Md_look_145 : decode b_Md_look 145 = .ok (.getfield 140, 3) := by decide +kernel
theorem d_Md_look_148 : decode b_Md_look 148 = .ok (.if_icmp .ge 35, 3) := by decide +kernel
theorem d_Md_look_151 : decode b_Md_look 151 = .ok (.aload_n 0, 1) := by decide +kernel
theorem d_Md_look_152 : decode b_Md_look 152 = .ok (.aload_n 0, 1) := by decide +kernel
theorem d_Md_look_153 : decode b_Md_look 153 = .ok (.getfield 34, 3) := by decide +kernel
theorem d_Md_look_156 : decode b_Md_look 156 = .ok (.iconst 0, 1) := by decide +kernel
theorem d_Md_look_157 : decode b_Md_look 157 = .ok (.iaload, 1) := by decide +kernel
theorem d_Md_look_158 : decode b_Md_look 158 = .ok (.aload_n 0, 1) := by decide +kernel
theorem d_Md_look_159 : decode b_Md_look 159 = .ok (.getfield 34, 3) := by decide +kernel
theorem d_Md_look_162 : decode b_Md_look 162 = .ok (.iload 4, 2) := by decide +kernel
theorem d_Md_look_164 : decode b_Md_look 164 = .ok (.iconst 1, 1) := by decide +kernel
theorem d_Md_look_165 : decode b_Md_look 165 = .ok (.isub, 1) := by decide +kernel
theorem d_Md_look_166 : decode b_Md_look 166 = .ok (.iaload, 1) := by decide +kernel
theorem d_Md_look_167 : decode b_Md_look 167 = .ok (.aload_n 0, 1) := by decide +kernel
theorem d_Md_look_168 : decode b_Md_look 168 = .ok (.getfield 34, 3) := by decide +kernel
theorem d_Md_look_171 : decode b_Md_look 171 = .ok (.iload 4, 2) := by decide +kernel
theorem d_Md_look_173 : decode b_Md_look 173 = .ok (.iaload, 1) := by decide +kernel
theorem d_Md_look_174 : decode b_Md_look 174 = .ok (.invokevirtual 163, 3) := by decide +kernel
theorem d_Md_look_177 : decode b_Md_look 177 = .ok (.iinc 4 1, 3) := by decide +kernel
theorem d_Md_look_180 : decode b_Md_look 180 = .ok (.goto (-38), 3) := by decide +kernel
theorem d_Md_look_183 : decode b_Md_look 183 = .ok (.return_, 1) := by decide +kernel
theorem d_Md_isBefore_0 : decode b_Md_isBefore 0 = .ok (.aload_n 0, 1) := by decide +kernel
theorem d_Md_isBefore_1 : decode b_Md_isBefore 1 = .ok (.getfield 16, 3) := by decide +kernel
theorem d_Md_isBefore_4 : decode b_Md_isBefore 4 = .ok (.iload_n 1, 1) := by decide +kernel
theorem d_Md_isBefore_5 : decode b_Md_isBefore 5 = .ok (.iaload, 1) := by decide +kernel
theorem d_Md_isBefore_6 : decode b_Md_isBefore 6 = .ok (.aload_n 0, 1) := by decide +kernel
theorem d_Md_isBefore_7 : decode b_Md_isBefore 7 = .ok (.getfield 16, 3) := by decide +kernel
theorem d_Md_isBefore_10 : decode b_Md_isBefore 10 = .ok (.iload_n 2, 1) := by decide +kernel
theorem d_Md_isBefore_11 : decode b_Md_isBefore 11 = .ok (.iaload, 1) := by decide +kernel
theorem d_Md_isBefore_12 : decode b_Md_isBefore 12 = .ok (.if_icmp .eq 26, 3) := by decide +kernel
theorem d_Md_isBefore_15 : decode b_Md_isBefore 15 = .ok (.aload_n 0, 1) := by decide +kernel
theorem d_Md_isBefore_16 : decode b_Md_isBefore 16 = .ok (.getfield 16, 3) := by decide +kernel
theorem d_Md_isBefore_19 : decode b_Md_isBefore 19 = .ok (.iload_n 1, 1) := by decide +kernel
theorem d_Md_isBefore_20 : decode b_Md_isBefore 20 = .ok (.iaload, 1) := by decide +kernel
theorem d_Md_isBefore_21 : decode b_Md_isBefore 21 = .ok (.aload_n 0, 1) := by decide +kernel
theorem d_Md_isBefore_22 : decode b_Md_isBefore 22 = .ok (.getfield 16, 3) := by decide +kernel
theorem d_Md_isBefore_25 : decode b_Md_isBefore 25 = .ok (.iload_n 2, 1) := by decide +kernel
theorem d_Md_isBefore_26 : decode b_Md_isBefore 26 = .ok (.iaload, 1) := by decide +kernel
theorem d_Md_isBefore_27 : decode b_Md_isBefore 27 = .ok (.if_icmp .ge 7, 3) := by decide +kernel
theorem d_Md_isBefore_30 : decode b_Md_isBefore 30 = .ok (.iconst 1, 1) := by decide +kernel
theorem d_Md_isBefore_31 : decode b_Md_isBefore 31 = .ok (.goto 65, 3) := by decide +kernel
theorem d_Md_isBefore_34 : decode b_Md_isBefore 34 = .ok (.iconst 0, 1) := by decide +kernel
theorem d_Md_isBefore_35 : decode b_Md_isBefore 35 = .ok (.goto 61, 3) := by decide +kernel
theorem d_Md_isBefore_38 : decode b_Md_isBefore 38 = .ok (.aload_n 0, 1) := by decide +kernel
theorem d_Md_isBefore_39 : decode b_Md_isBefore 39 = .ok (.getfield 19, 3) := by decide +kernel
theorem d_Md_isBefore_42 : decode b_Md_isBefore 42 = .ok (.iload_n 1, 1) := by decide +kernel
theorem d_Md_isBefore_43 : decode b_Md_isBefore 43 = .ok (.iaload, 1) := by decide +kernel
theorem d_Md_isBefore_44 : decode b_Md_isBefore 44 = .ok (.aload_n 0, 1) := by decide +kernel
theorem d_Md_isBefore_45 : decode b_Md_isBefore 45 = .ok (.getfield 19, 3) := by decide +kernel
theorem d_Md_isBefore_48 : decode b_Md_isBefore 48 = .ok (.iload_n 2, 1) := by decide +kernel
theorem d_Md_isBefore_49 : decode b_Md_isBefore 49 = .ok (.iaload, 1) := by decide +kernel
theorem d_Md_isBefore_50 : decode b_Md_isBefore 50 = .ok (.if_icmp .eq 26, 3) := by decide +kernel
theorem d_Md_isBefore_53 : decode b_Md_isBefore 53 = .ok (.aload_n 0, 1) := by decide +kernel
theorem d_Md_isBefore_54 : decode b_Md_isBefore 54 = .ok (.getfield 19, 3) := by decide +kernel
theorem d_Md_isBefore_57 : decode b_Md_isBefore 57 = .ok (.iload_n 1, 1) := by decide +kernel
theorem d_Md_isBefore_58 : decode b_Md_isBefore 58 = .ok (.iaload, 1) := by decide +kernel
theorem d_Md_isBefore_59 : decode b_Md_isBefore 59 = .ok (.aload_n 0, 1) := by decide +kernel
theorem d_Md_isBefore_60 : decode b_Md_isBefore 60 = .ok (.getfield 19, 3) := by decide +kernel
theorem d_Md_isBefore_63 : decode b_Md_isBefore 63 = .ok (.iload_n 2, 1) := by decide +kernel
theorem d_Md_isBefore_64 : decode b_Md_isBefore 64 = .ok (.iaload, 1) := by decide +kernel
theorem d_Md_isBefore_65 : decode b_Md_isBefore 65 = .ok (.if_icmp .ge 7, 3) := by decide +kernel
theorem d_Md_isBefore_68 : decode b_Md_isBefore 68 = .ok (.iconst 1, 1) := by decide +kernel
theorem d_Md_isBefore_69 : decode b_Md_isBefore 69 = .ok (.goto 27, 3) := by decide +kernel
theorem d_Md_isBefore_72 : decode b_Md_isBefore 72 = .ok (.iconst 0, 1) := by decide +kernel
theorem d_Md_isBefore_73 : decode b_Md_isBefore 73 = .ok (.goto 23, 3) := by decide +kernel
theorem d_Md_isBefore_76 : decode b_Md_isBefore 76 = .ok (.aload_n 0, 1) := by decide +kernel
theorem d_Md_isBefore_77 : decode b_Md_isBefore 77 = .ok (.getfield 22, 3) := by decide +kernel
theorem d_Md_isBefore_80 : decode b_Md_isBefore 80 = .ok (.iload_n 1, 1) := by decide +kernel
theorem d_Md_isBefore_81 : decode b_Md_isBefore 81 = .ok (.iaload, 1) := by decide +kernel
theorem d_Md_isBefore_82 : decode b_Md_isBefore 82 = .ok (.aload_n 0, 1) := by decide +kernel
theorem d_Md_isBefore_83 : decode b_Md_isBefore 83 = .ok (.getfield 22, 3) := by decide +kernel
theorem d_Md_isBefore_86 : decode b_Md_isBefore 86 = .ok (.iload_n 2, 1) := by decide +kernel
theorem d_Md_isBefore_87 : decode b_Md_isBefore 87 = .ok (.iaload, 1) := by decide +kernel
theorem d_Md_isBefore_88 : decode b_Md_isBefore 88 = .ok (.if_icmp .ge 7, 3) := by decide +kernel
theorem d_Md_isBefore_91 : decode b_Md_isBefore 91 = .ok (.iconst 1, 1) := by decide +kernel
theorem d_Md_isBefore_92 : decode b_Md_isBefore 92 = .ok (.goto 4, 3) := by decide +kernel
theorem d_Md_isBefore_95 : decode b_Md_isBefore 95 = .ok (.iconst 0, 1) := by decide +kernel
theorem d_Md_isBefore_96 : decode b_Md_isBefore 96 = .ok (.ireturn, 1) := by decide +kernel
theorem d_Md_swap_0 : decode b_Md_swap 0 = .ok (.aload_n 0, 1) := by decide +kernel
theorem d_Md_swap_1 : decode b_Md_swap 1 = .ok (.getfield 16, 3) := by decide +kernel
theorem d_Md_swap_4 : decode b_Md_swap 4 = .ok (.iload_n 1, 1) := by decide +kernel
theorem d_Md_swap_5 : decode b_Md_swap 5 = .ok (.iaload, 1) := by decide +kernel
theorem d_Md_swap_6 : decode b_Md_swap 6 = .ok (.istore_n 2, 1) := by decide +kernel
theorem d_Md_swap_7 : decode b_Md_swap 7 = .ok (.aload_n 0, 1) := by decide +kernel
theorem d_Md_swap_8 : decode b_Md_swap 8 = .ok (.getfield 19, 3) := by decide +kernel
theorem d_Md_swap_11 : decode b_Md_swap 11 = .ok (.iload_n 1, 1) := by decide +kernel
theorem d_Md_swap_12 : decode b_Md_swap 12 = .ok (.iaload, 1) := by decide +kernel
theorem d_Md_swap_13 : decode b_Md_swap 13 = .ok (.istore_n 3, 1) := by decide +kernel
theorem d_Md_swap_14 : decode b_Md_swap 14 = .ok (.aload_n 0, 1) := by decide +kernel
theorem d_Md_swap_15 : decode b_Md_swap 15 = .ok (.getfield 22, 3) := by decide +kernel
theorem d_Md_swap_18 : decode b_Md_swap 18 = .ok (.iload_n 1, 1) := by decide +kernel
theorem d_Md_swap_19 : decode b_Md_swap 19 = .ok (.iaload, 1) := by decide +kernel
theorem d_Md_swap_20 : decode b_Md_swap 20 = .ok (.istore 4, 2) := by decide +kernel
theorem d_Md_swap_22 : decode b_Md_swap 22 = .ok (.aload_n 0, 1) := by decide +kernel
theorem d_Md_swap_23 : decode b_Md_swap 23 = .ok (.getfield 16, 3) := by decide +kernel
theorem d_Md_swap_26 : decode b_Md_swap 26 = .ok (.iload_n 1, 1) := by decide +kernel
theorem d_Md_swap_27 : decode b_Md_swap 27 = .ok (.aload_n 0, 1) := by decide +kernel
theorem d_Md_swap_28 : decode b_Md_swap 28 = .ok (.getfield 16, 3) := by decide +kernel
theorem d_Md_swap_31 : decode b_Md_swap 31 = .ok (.iload_n 1, 1) := by decide +kernel
theorem d_Md_swap_32 : decode b_Md_swap 32 = .ok (.iconst 1, 1) := by decide +kernel
theorem d_Md_swap_33 : decode b_Md_swap 33 = .ok (.isub, 1) := by decide +kernel
theorem d_Md_swap_34 : decode b_Md_swap 34 = .ok (.iaload, 1) := by decide +kernel
theorem d_Md_swap_35 : decode b_Md_swap 35 = .ok (.iastore, 1) := by decide +kernel
theorem d_Md_swap_36 : decode b_Md_swap 36 = .ok (.aload_n 0, 1) := by decide +kernel
theorem d_Md_swap_37 : decode b_Md_swap 37 = .ok (.getfield 19, 3) := by decide +kernel
theorem d_Md_swap_40 : decode b_Md_swap 40 = .ok (.iload_n 1, 1) := by decide +kernel
theorem d_Md_swap_41 : decode b_Md_swap 41 = .ok (.aload_n 0, 1) := by decide +kernel
theorem d_Md_swap_42 : decode b_Md_swap 42 = .ok (.getfield 19, 3) := by decide +kernel
theorem d_Md_swap_45 : decode b_Md_swap 45 = .ok (.iload_n 1, 1) := by decide +kernel
theorem d_Md_swap_46 : decode b_Md_swap 46 = .ok (.iconst 1, 1) := by decide +kernel
theorem d_Md_swap_47 : decode b_Md_swap 47 = .ok (.isub, 1) := by decide +kernel
theorem d_Md_swap_48 : decode b_Md_swap 48 = .ok (.iaload, 1) := by decide +kernel
theorem d_Md_swap_49 : decode b_Md_swap 49 = .ok (.iastore, 1) := by decide +kernel
theorem d_Md_swap_50 : decode b_Md_swap 50 = .ok (.aload_n 0, 1) := by decide +kernel
theorem d_Md_swap_51 : decode b_Md_swap 51 = .ok (.getfield 22, 3) := by decide +kernel
theorem d_Md_swap_54 : decode b_Md_swap 54 = .ok (.iload_n 1, 1) := by decide +kernel
theorem d_Md_swap_55 : decode b_Md_swap 55 = .ok (.aload_n 0, 1) := by decide +kernel
theorem d_Md_swap_56 : decode b_Md_swap 56 = .ok (.getfield 22, 3) := by decide +kernel
theorem d_Md_swap_59 : decode b_Md_swap 59 = .ok (.iload_n 1, 1) := by decide +kernel
theorem d_Md_swap_60 : decode b_Md_swap 60 = .ok (.iconst 1, 1) := by decide +kernel
theorem d_Md_swap_61 : decode b_Md_swap 61 = .ok (.isub, 1) := by decide +kernel
theorem d_Md_swap_62 : decode b_Md_swap 62 = .ok (.iaload, 1) := by decide +kernel
theorem d_Md_swap_63 : decode b_Md_swap 63 = .ok (.iastore, 1) := by decide +kernel
theorem d_Md_swap_64 : decode b_Md_swap 64 = .ok (.aload_n 0, 1) := by decide +kernel
theorem d_Md_swap_65 : decode b_Md_swap 65 = .ok (.getfield 16, 3) := by decide +kernel
theorem d_Md_swap_68 : decode b_Md_swap 68 = .ok (.iload_n 1, 1) := by decide +kernel
theorem d_Md_swap_69 : decode b_Md_swap 69 = .ok (.iconst 1, 1) := by decide +kernel
theorem d_Md_swap_70 : decode b_Md_swap 70 = .ok (.isub, 1) := by decide +kernel
theorem d_Md_swap_71 : decode b_Md_swap 71 = .ok (.iload_n 2, 1) := by decide +kernel
theorem d_Md_swap_72 : decode b_Md_swap 72 = .ok (.iastore, 1) := by decide +kernel
theorem d_Md_swap_73 : decode b_Md_swap 73 = .ok (.aload_n 0, 1) := by decide +kernel
theorem d_Md_swap_74 : decode b_Md_swap 74 = .ok (.getfield 19, 3) := by decide +kernel
theorem d_Md_swap_77 : decode b_Md_swap 77 = .ok (.iload_n 1, 1) := by decide +kernel
theorem d_Md_swap_78 : decode b_Md_swap 78 = .ok (.iconst 1, 1) := by decide +kernel
theorem d_Md_swap_79 : decode b_Md_swap 79 = .ok (.isub, 1) := by decide +kernel
theorem d_Md_swap_80 : decode b_Md_swap 80 = .ok (.iload_n 3, 1) := by decide +kernel
theorem d_Md_swap_81 : decode b_Md_swap 81 = .ok (.iastore, 1) := by decide +kernel
theorem d_Md_swap_82 : decode b_Md_swap 82 = .ok (.aload_n 0, 1) := by decide +kernel
theorem d_Md_swap_83 : decode b_Md_swap 83 = .ok (.getfield 22, 3) := by decide +kernel
theorem d_Md_swap_86 : decode b_Md_swap 86 = .ok (.iload_n 1, 1) := by decide +kernel
theorem d_Md_swap_87 : decode b_Md_swap 87 = .ok (.iconst 1, 1) := by decide +kernel
theorem d_Md_swap_88 : decode b_Md_swap 88 = .ok (.isub, 1) := by decide +kernel
theorem d_Md_swap_89 : decode b_Md_swap 89 = .ok (.iload 4, 2) := by decide +kernel
theorem d_Md_swap_91 : decode b_Md_swap 91 = .ok (.iastore, 1) := by decide +kernel
theorem d_Md_swap_92 : decode b_Md_swap 92 = .ok (.return_, 1) := by decide +kernel
theorem d_Md_sort_0 : decode b_Md_sort 0 = .ok (.iconst 1, 1) := by decide +kernel
theorem d_Md_sort_1 : decode b_Md_sort 1 = .ok (.istore_n 1, 1) := by decide +kernel
theorem d_Md_sort_2 : decode b_Md_sort 2 = .ok (.iload_n 1, 1) := by decide +kernel
theorem d_Md_sort_3 : decode b_Md_sort 3 = .ok (.aload_n 0, 1) := by decide +kernel
theorem d_Md_sort_4 : decode b_Md_sort 4 = .ok (.getfield 153, 3) := by decide +kernel
theorem d_Md_sort_7 : decode b_Md_sort 7 = .ok (.if_icmp .ge 37, 3) := by decide +kernel
theorem d_Md_sort_10 : decode b_Md_sort 10 = .ok (.iload_n 1, 1) := by decide +kernel
theorem d_Md_sort_11 : decode b_Md_sort 11 = .ok (.istore_n 2, 1) := by decide +kernel
theorem d_Md_sort_12 : decode b_Md_sort 12 = .ok (.iload_n 2, 1) := by decide +kernel
theorem d_Md_sort_13 : decode b_Md_sort 13 = .ok (.ifCond .le 25, 3) := by decide +kernel
theorem d_Md_sort_16 : decode b_Md_sort 16 = .ok (.aload_n 0, 1) := by decide +kernel
theorem d_Md_sort_17 : decode b_Md_sort 17 = .ok (.iload_n 2, 1) := by decide +kernel
theorem d_Md_sort_18 : decode b_Md_sort 18 = .ok (.iload_n 2, 1) := by decide +kernel
theorem d_Md_sort_19 : decode b_Md_sort 19 = .ok (.iconst 1, 1) := by decide +kernel
theorem d_Md_sort_20 : decode b_Md_sort 20 = .ok (.isub, 1) := by decide +kernel
theorem d_Md_sort_21 : decode b_Md_sort 21 = .ok (.invokevirtual 166, 3) := by decide +kernel
theorem d_Md_sort_24 : decode b_Md_sort 24 = .ok (.ifCond .eq 14, 3) := by decide +kernel
theorem d_Md_sort_27 : decode b_Md_sort 27 = .ok (.aload_n 0, 1) := by decide +kernel
theorem d_Md_sort_28 : decode b_Md_sort 28 = .ok (.iload_n 2, 1) := by decide +kernel
theorem d_Md_sort_29 : decode b_Md_sort 29 = .ok (.invokevirtual 169, 3) := by decide +kernel
theorem d_Md_sort_32 : decode b_Md_sort 32 = .ok (.iinc 2 (-1), 3) := by decide +kernel
theorem d_Md_sort_35 : decode b_Md_sort 35 = .ok (.goto (-23), 3) := by decide +kernel
theorem d_Md_sort_38 : decode b_Md_sort 38 = .ok (.iinc 1 1, 3) := by decide +kernel
theorem d_Md_sort_41 : decode b_Md_sort 41 = .ok (.goto (-39), 3) := by decide +kernel
theorem d_Md_sort_44 : decode b_Md_sort 44 = .ok (.return_, 1) := by decide +kernel
theorem d_Md_know_0 : decode b_Md_know 0 = .ok (.aload_n 0, 1) := by decide +kernel
theorem d_Md_know_1 : decode b_Md_know 1 = .ok (.getfield 101, 3) := by decide +kernel
theorem d_Md_know_4 : decode b_Md_know 4 = .ok (.ifCond .eq 4, 3) := by decide +kernel
theorem d_Md_know_7 : decode b_Md_know 7 = .ok (.return_, 1) := by decide +kernel
theorem d_Md_know_8 : decode b_Md_know 8 = .ok (.aload_n 0, 1) := by decide +kernel
theorem d_Md_know_9 : decode b_Md_know 9 = .ok (.iconst 1, 1) := by decide +kernel
theorem d_Md_know_10 : decode b_Md_know 10 = .ok (.putfield 101, 3) := by decide +kernel
theorem d_Md_know_13 : decode b_Md_know 13 = .ok (.aload_n 0, 1) := by decide +kernel
theorem d_Md_know_14 : decode b_Md_know 14 = .ok (.iconst 0, 1) := by decide +kernel
theorem d_Md_know_15 : decode b_Md_know 15 = .ok (.putfield 153, 3) := by decide +kernel
theorem d_Md_know_18 : decode b_Md_know 18 = .ok (.aload_n 0, 1) := by decide +kernel
theorem d_Md_know_19 : decode b_Md_know 19 = .ok (.iconst 0, 1) := by decide +kernel
theorem d_Md_know_20 : decode b_Md_know 20 = .ok (.putfield 150, 3) := by decide +kernel
theorem d_Md_know_23 : decode b_Md_know 23 = .ok (.aload_n 0, 1) := by decide +kernel
theorem d_Md_know_24 : decode b_Md_know 24 = .ok (.iconst 0, 1) := by decide +kernel
theorem d_Md_know_25 : decode b_Md_know 25 = .ok (.putfield 173, 3) := by decide +kernel
theorem d_Md_know_28 : decode b_Md_know 28 = .ok (.aload_n 0, 1) := by decide +kernel
theorem d_Md_know_29 : decode b_Md_know 29 = .ok (.invokevirtual 176, 3) := by decide +kernel
theorem d_Md_know_32 : decode b_Md_know 32 = .ok (.aload_n 0, 1) := by decide +kernel
theorem d_Md_know_33 : decode b_Md_know 33 = .ok (.getfield 131, 3) := by decide +kernel
theorem d_Md_know_36 : decode b_Md_know 36 = .ok (.iconst 3, 1) := by decide +kernel
theorem d_Md_know_37 : decode b_Md_know 37 = .ok (.if_icmp .ge 4, 3) := by decide +kernel
theorem d_Md_know_40 : decode b_Md_know 40 = .ok (.return_, 1) := by decide +kernel
theorem d_Md_know_41 : decode b_Md_know 41 = .ok (.aload_n 0, 1) := by decide +kernel
theorem d_Md_know_42 : decode b_Md_know 42 = .ok (.getfield 25, 3) := by decide +kernel
theorem d_Md_know_45 : decode b_Md_know 45 = .ok (.iconst 0, 1) := by decide +kernel
theorem d_Md_know_46 : decode b_Md_know 46 = .ok (.iaload, 1) := by decide +kernel
theorem d_Md_know_47 : decode b_Md_know 47 = .ok (.istore_n 1, 1) := by decide +kernel
theorem d_Md_know_48 : decode b_Md_know 48 = .ok (.aload_n 0, 1) := by decide +kernel
theorem d_Md_know_49 : decode b_Md_know 49 = .ok (.getfield 25, 3) := by decide +kernel
theorem d_Md_know_52 : decode b_Md_know 52 = .ok (.iconst 1, 1) := by decide +kernel
theorem d_Md_know_53 : decode b_Md_know 53 = .ok (.iaload, 1) := by decide +kernel
theorem d_Md_know_54 : decode b_Md_know 54 = .ok (.istore_n 2, 1) := by decide +kernel
theorem d_Md_know_55 : decode b_Md_know 55 = .ok (.iconst 0, 1) := by decide +kernel
theorem d_Md_know_56 : decode b_Md_know 56 = .ok (.istore_n 3, 1) := by decide +kernel
theorem d_Md_know_57 : decode b_Md_know 57 = .ok (.iload_n 3, 1) := by decide +kernel
theorem d_Md_know_58 : decode b_Md_know 58 = .ok (.aload_n 0, 1) := by decide +kernel
theorem d_Md_know_59 : decode b_Md_know 59 = .ok (.getfield 98, 3) := by decide +kernel
theorem d_Md_know_62 : decode b_Md_know 62 = .ok (.if_icmp .ge 69, 3) := by decide +kernel
theorem d_Md_know_65 : decode b_Md_know 65 = .ok (.iload_n 3, 1) := by decide +kernel
theorem d_Md_know_66 : decode b_Md_know 66 = .ok (.iload_n 1, 1) := by decide +kernel
theorem d_Md_know_67 : decode b_Md_know 67 = .ok (.if_icmp .eq 58, 3) := by decide +kernel
theorem d_Md_know_70 : decode b_Md_know 70 = .ok (.aload_n 0, 1) := by decide +kernel
theorem d_Md_know_71 : decode b_Md_know 71 = .ok (.iload_n 1, 1) := by decide +kernel
theorem d_Md_know_72 : decode b_Md_know 72 = .ok (.aload_n 0, 1) := by decide +kernel
theorem d_Md_know_73 : decode b_Md_know 73 = .ok (.getfield 25, 3) := by decide +kernel
theorem d_Md_know_76 : decode b_Md_know 76 = .ok (.iconst 1, 1) := by decide +kernel
theorem d_Md_know_77 : decode b_Md_know 77 = .ok (.iaload, 1) := by decide +kernel
theorem d_Md_know_78 : decode b_Md_know 78 = .ok (.iload_n 3, 1) := by decide +kernel
theorem d_Md_know_79 : decode b_Md_know 79 = .ok (.invokevirtual 123, 3) := by decide +kernel
theorem d_Md_know_82 : decode b_Md_know 82 = .ok (.ifCond .ne 43, 3) := by decide +kernel
theorem d_Md_know_85 : decode b_Md_know 85 = .ok (.aload_n 0, 1) := by decide +kernel
theorem d_Md_know_86 : decode b_Md_know 86 = .ok (.iload_n 1, 1) := by decide +kernel
theorem d_Md_know_87 : decode b_Md_know 87 = .ok (.aload_n 0, 1) := by decide +kernel
theorem d_Md_know_88 : decode b_Md_know 88 = .ok (.getfield 7, 3) := by decide +kernel
theorem d_Md_know_91 : decode b_Md_know 91 = .ok (.iload_n 3, 1) := by decide +kernel
theorem d_Md_know_92 : decode b_Md_know 92 = .ok (.iaload, 1) := by decide +kernel
theorem d_Md_know_93 : decode b_Md_know 93 = .ok (.aload_n 0, 1) := by decide +kernel
theorem d_Md_know_94 : decode b_Md_know 94 = .ok (.getfield 13, 3) := by decide +kernel
theorem d_Md_know_97 : decode b_Md_know 97 = .ok (.iload_n 3, 1) := by decide +kernel
theorem d_Md_know_98 : decode b_Md_know 98 = .ok (.iaload, 1) := by decide +kernel
theorem d_Md_know_99 : decode b_Md_know 99 = .ok (.invokevirtual 127, 3) := by decide +kernel
theorem d_Md_know_102 : decode b_Md_know 102 = .ok (.aload_n 0, 1) := by decide +kernel
theorem d_Md_know_103 : decode b_Md_know 103 = .ok (.iload_n 1, 1) := by decide +kernel
theorem d_Md_know_104 : decode b_Md_know 104 = .ok (.aload_n 0, 1) := by decide +kernel
theorem d_Md_know_105 : decode b_Md_know 105 = .ok (.getfield 7, 3) := by decide +kernel
theorem d_Md_know_108 : decode b_Md_know 108 = .ok (.iload_n 2, 1) := by decide +kernel
theorem d_Md_know_109 : decode b_Md_know 109 = .ok (.iaload, 1) := by decide +kernel
theorem d_Md_know_110 : decode b_Md_know 110 = .ok (.aload_n 0, 1) := by decide +kernel
theorem d_Md_know_111 : decode b_Md_know 111 = .ok (.getfield 13, 3) := by decide +kernel
theorem d_Md_know_114 : decode b_Md_know 114 = .ok (.iload_n 2, 1) := by decide +kernel
theorem d_Md_know_115 : decode b_Md_know 115 = .ok (.iaload, 1) := by decide +kernel
theorem d_Md_know_116 : decode b_Md_know 116 = .ok (.invokevirtual 127, 3) := by decide +kernel
theorem d_Md_know_119 : decode b_Md_know 119 = .ok (.lcmp, 1) := by decide +kernel
theorem d_Md_know_120 : decode b_Md_know 120 = .ok (.ifCond .ge 5, 3) := by decide +kernel
theorem d_Md_know_123 : decode b_Md_know 123 = .ok (.iload_n 3, 1) := by decide +kernel
theorem d_Md_know_124 : decode b_Md_know 124 = .ok (.istore_n 2, 1) := by decide +kernel
theorem d_Md_know_125 : decode b_Md_know 125 = .ok (.iinc 3 1, 3) := by decide +kernel
theorem d_Md_know_128 : decode b_Md_know 128 = .ok (.goto (-71), 3) := by decide +kernel
theorem d_Md_know_131 : decode b_Md_know 131 = .ok (.aload_n 0, 1) := by decide +kernel
theorem d_Md_know_132 : decode b_Md_know 132 = .ok (.iload_n 1, 1) := by decide +kernel
theorem d_Md_know_133 : decode b_Md_know 133 = .ok (.iload_n 2, 1) := by decide +kernel
theorem d_Md_know_134 : decode b_Md_know 134 = .ok (.invokevirtual 179, 3) := by decide +kernel
theorem d_Md_know_137 : decode b_Md_know 137 = .ok (.aload_n 0, 1) := by decide +kernel
theorem d_Md_know_138 : decode b_Md_know 138 = .ok (.getfield 173, 3) := by decide +kernel
theorem d_Md_know_141 : decode b_Md_know 141 = .ok (.aload_n 0, 1) := by decide +kernel
theorem d_Md_know_142 : decode b_Md_know 142 = .ok (.getfield 150, 3) := by decide +kernel
theorem d_Md_know_145 : decode b_Md_know 145 = .ok (.if_icmp .ge 38, 3) := by decide +kernel
theorem d_Md_know_148 : decode b_Md_know 148 = .ok (.aload_n 0, 1) := by decide +kernel
theorem d_Md_know_149 : decode b_Md_know 149 = .ok (.aload_n 0, 1) := by decide +kernel
theorem d_Md_know_150 : decode b_Md_know 150 = .ok (.getfield 31, 3) := by decide +kernel
theorem d_Md_know_153 : decode b_Md_know 153 = .ok (.aload_n 0, 1) := by decide +kernel
theorem d_Md_know_154 : decode b_Md_know 154 = .ok (.getfield 173, 3) := by decide +kernel
theorem d_Md_know_157 : decode b_Md_know 157 = .ok (.iaload, 1) := by decide +kernel
theorem d_Md_know_158 : decode b_Md_know 158 = .ok (.aload_n 0, 1) := by decide +kernel
theorem d_Md_know_159 : decode b_Md_know 159 = .ok (.getfield 28, 3) := by decide +kernel
theorem d_Md_know_162 : decode b_Md_know 162 = .ok (.aload_n 0, 1) := by decide +kernel
theorem d_Md_know_163 : decode b_Md_know 163 = .ok (.getfield 173, 3) := by decide +kernel
theorem d_Md_know_166 : decode b_Md_know 166 = .ok (.iaload, 1) := by decide +kernel
theorem d_Md_know_167 : decode b_Md_know 167 = .ok (.invokevirtual 179, 3) := by decide +kernel
theorem d_Md_know_170 : decode b_Md_know 170 = .ok (.aload_n 0, 1) := by decide +kernel
theorem d_Md_know_171 : decode b_Md_know 171 = .ok (.dup, 1) := by decide +kernel
theorem d_Md_know_172 : decode b_Md_know 172 = .ok (.getfield 173, 3) := by decide +kernel
theorem d_Md_know_175 : decode b_Md_know 175 = .ok (.iconst 1, 1) := by decide +kernel
theorem d_Md_know_176 : decode b_Md_know 176 = .ok (.iadd, 1) := by decide +kernel
theorem d_Md_know_177 : decode b_Md_know 177 = .ok (.putfield 173, 3) := by decide +kernel
theorem d_Md_know_180 : decode b_Md_know 180 = .ok (.goto (-43), 3) := by decide +kernel
theorem d_Md_know_183 : decode b_Md_know 183 = .ok (.aload_n 0, 1) := by decide +kernel
theorem d_Md_know_184 : decode b_Md_know 184 = .ok (.invokevirtual 183, 3) := by decide +kernel
theorem d_Md_know_187 : decode b_Md_know 187 = .ok (.return_, 1) := by decide +kernel
theorem d_Md_triangle_0 : decode b_Md_triangle 0 = .ok (.aload_n 0, 1) := by decide +kernel
theorem d_Md_triangle_1 : decode b_Md_triangle 1 = .ok (.iconst 0, 1) := by decide +kernel
theorem d_Md_triangle_2 : decode b_Md_triangle 2 = .ok (.putfield 47, 3) := by decide +kernel
theorem d_Md_triangle_5 : decode b_Md_triangle 5 = .ok (.aload_n 0, 1) := by decide +kernel
theorem d_Md_triangle_6 : decode b_Md_triangle 6 = .ok (.invokevirtual 186, 3) := by decide +kernel
theorem d_Md_triangle_9 : decode b_Md_triangle 9 = .ok (.iload_n 1, 1) := by decide +kernel
theorem d_Md_triangle_10 : decode b_Md_triangle 10 = .ok (.iconst 0, 1) := by decide +kernel
theorem d_Md_triangle_11 : decode b_Md_triangle 11 = .ok (.aload_n 0, 1) := by decide +kernel
theorem d_Md_triangle_12 : decode b_Md_triangle 12 = .ok (.getfield 153, 3) := by decide +kernel
theorem d_Md_triangle_15 : decode b_Md_triangle 15 = .ok (.iconst 1, 1) := by decide +kernel
theorem d_Md_triangle_16 : decode b_Md_triangle 16 = .ok (.isub, 1) := by decide +kernel
theorem d_Md_triangle_17 : decode b_Md_triangle 17 = .ok (.invokestatic 52, 3) := by decide +kernel
theorem d_Md_triangle_20 : decode b_Md_triangle 20 = .ok (.ifCond .eq 12, 3) := by decide +kernel
theorem d_Md_triangle_23 : decode b_Md_triangle 23 = .ok (.iload_n 2, 1) := by decide +kernel
theorem d_Md_triangle_24 : decode b_Md_triangle 24 = .ok (.iconst 0, 1) := by decide +kernel
theorem d_Md_triangle_25 : decode b_Md_triangle 25 = .ok (.iconst 2, 1) := by decide +kernel
theorem d_Md_triangle_26 : decode b_Md_triangle 26 = .ok (.invokestatic 52, 3) := by decide +kernel
theorem d_Md_triangle_29 : decode b_Md_triangle 29 = .ok (.ifCond .ne 9, 3) := by decide +kernel
theorem d_Md_triangle_32 : decode b_Md_triangle 32 = .ok (.aload_n 0, 1) := by decide +kernel
theorem d_Md_triangle_33 : decode b_Md_triangle 33 = .ok (.iconst 1, 1) := by decide +kernel
theorem d_Md_triangle_34 : decode b_Md_triangle 34 = .ok (.invokevirtual 109, 3) := by decide +kernel
theorem d_Md_triangle_37 : decode b_Md_triangle 37 = .ok (.ireturn, 1) := by decide +kernel
theorem d_Md_triangle_38 : decode b_Md_triangle 38 = .ok (.iload_n 2, 1) := by decide +kernel
theorem d_Md_triangle_39 : decode b_Md_triangle 39 = .ok (.ifCond .ne 12, 3) := by decide +kernel
theorem d_Md_triangle_42 : decode b_Md_triangle 42 = .ok (.aload_n 0, 1) := by decide +kernel
theorem d_Md_triangle_43 : decode b_Md_triangle 43 = .ok (.getfield 16, 3) := by decide +kernel
theorem d_Md_triangle_46 : decode b_Md_triangle 46 = .ok (.iload_n 1, 1) := by decide +kernel
theorem d_Md_triangle_47 : decode b_Md_triangle 47 = .ok (.iaload, 1) := by decide +kernel
theorem d_Md_triangle_48 : decode b_Md_triangle 48 = .ok (.goto 23, 3) := by decide +kernel
theorem d_Md_triangle_51 : decode b_Md_triangle 51 = .ok (.iload_n 2, 1) := by decide +kernel
theorem d_Md_triangle_52 : decode b_Md_triangle 52 = .ok (.iconst 1, 1) := by decide +kernel
theorem d_Md_triangle_53 : decode b_Md_triangle 53 = .ok (.if_icmp .ne 12, 3) := by decide +kernel
theorem d_Md_triangle_56 : decode b_Md_triangle 56 = .ok (.aload_n 0, 1) := by decide +kernel
theorem d_Md_triangle_57 : decode b_Md_triangle 57 = .ok (.getfield 19, 3) := by decide +kernel
theorem d_Md_triangle_60 : decode b_Md_triangle 60 = .ok (.iload_n 1, 1) := by decide +kernel
theorem d_Md_triangle_61 : decode b_Md_triangle 61 = .ok (.iaload, 1) := by decide +kernel
theorem d_Md_triangle_62 : decode b_Md_triangle 62 = .ok (.goto 9, 3) := by decide +kernel
theorem d_Md_triangle_65 : decode b_Md_triangle 65 = .ok (.aload_n 0, 1) := by decide +kernel
theorem d_Md_triangle_66 : decode b_Md_triangle 66 = .ok (.getfield 22, 3) := by decide +kernel
theorem d_Md_triangle_69 : decode b_Md_triangle 69 = .ok (.iload_n 1, 1) := by decide +kernel
theorem d_Md_triangle_70 : decode b_Md_triangle 70 = .ok (.iaload, 1) := by decide +kernel
theorem d_Md_triangle_71 : decode b_Md_triangle 71 = .ok (.ireturn, 1) := by decide +kernel
theorem d_Md_corner_0 : decode b_Md_corner 0 = .ok (.aload_n 0, 1) := by decide +kernel
theorem d_Md_corner_1 : decode b_Md_corner 1 = .ok (.iconst 0, 1) := by decide +kernel
theorem d_Md_corner_2 : decode b_Md_corner 2 = .ok (.putfield 47, 3) := by decide +kernel
theorem d_Md_corner_5 : decode b_Md_corner 5 = .ok (.aload_n 0, 1) := by decide +kernel
theorem d_Md_corner_6 : decode b_Md_corner 6 = .ok (.invokevirtual 186, 3) := by decide +kernel
theorem d_Md_corner_9 : decode b_Md_corner 9 = .ok (.iload_n 1, 1) := by decide +kernel
theorem d_Md_corner_10 : decode b_Md_corner 10 = .ok (.iconst 0, 1) := by decide +kernel
theorem d_Md_corner_11 : decode b_Md_corner 11 = .ok (.aload_n 0, 1) := by decide +kernel
theorem d_Md_corner_12 : decode b_Md_corner 12 = .ok (.getfield 131, 3) := by decide +kernel
theorem d_Md_corner_15 : decode b_Md_corner 15 = .ok (.iconst 1, 1) := by decide +kernel
theorem d_Md_corner_16 : decode b_Md_corner 16 = .ok (.isub, 1) := by decide +kernel
theorem d_Md_corner_17 : decode b_Md_corner 17 = .ok (.invokestatic 52, 3) := by decide +kernel
theorem d_Md_corner_20 : decode b_Md_corner 20 = .ok (.ifCond .eq 12, 3) := by decide +kernel
theorem d_Md_corner_23 : decode b_Md_corner 23 = .ok (.aload_n 0, 1) := by decide +kernel
theorem d_Md_corner_24 : decode b_Md_corner 24 = .ok (.getfield 25, 3) := by decide +kernel
theorem d_Md_corner_27 : decode b_Md_corner 27 = .ok (.iload_n 1, 1) := by decide +kernel
theorem d_Md_corner_28 : decode b_Md_corner 28 = .ok (.iaload, 1) := by decide +kernel
theorem d_Md_corner_29 : decode b_Md_corner 29 = .ok (.goto 8, 3) := by decide +kernel
theorem d_Md_corner_32 : decode b_Md_corner 32 = .ok (.aload_n 0, 1) := by decide +kernel
theorem d_Md_corner_33 : decode b_Md_corner 33 = .ok (.iconst 1, 1) := by decide +kernel
theorem d_Md_corner_34 : decode b_Md_corner 34 = .ok (.invokevirtual 109, 3) := by decide +kernel
theorem d_Md_corner_37 : decode b_Md_corner 37 = .ok (.ireturn, 1) := by decide +kernel
theorem d_Md_isIn_0 : decode b_Md_isIn 0 = .ok (.aload_n 0, 1) := by decide +kernel
theorem d_Md_isIn_1 : decode b_Md_isIn 1 = .ok (.getfield 16, 3) := by decide +kernel
theorem d_Md_isIn_4 : decode b_Md_isIn 4 = .ok (.iload_n 1, 1) := by decide +kernel
theorem d_Md_isIn_5 : decode b_Md_isIn 5 = .ok (.iaload, 1) := by decide +kernel
theorem d_Md_isIn_6 : decode b_Md_isIn 6 = .ok (.iload_n 2, 1) := by decide +kernel
theorem d_Md_isIn_7 : decode b_Md_isIn 7 = .ok (.if_icmp .eq 23, 3) := by decide +kernel
theorem d_Md_isIn_10 : decode b_Md_isIn 10 = .ok (.aload_n 0, 1) := by decide +kernel
theorem d_Md_isIn_11 : decode b_Md_isIn 11 = .ok (.getfield 19, 3) := by decide +kernel
theorem d_Md_isIn_14 : decode b_Md_isIn 14 = .ok (.iload_n 1, 1) := by decide +kernel
theorem d_Md_isIn_15 : decode b_Md_isIn 15 = .ok (.iaload, 1) := by decide +kernel
theorem d_Md_isIn_16 : decode b_Md_isIn 16 = .ok (.iload_n 2, 1) := by decide +kernel
theorem d_Md_isIn_17 : decode b_Md_isIn 17 = .ok (.if_icmp .eq 13, 3) := by decide +kernel
theorem d_Md_isIn_20 : decode b_Md_isIn 20 = .ok (.aload_n 0, 1) := by decide +kernel
theorem d_Md_isIn_21 : decode b_Md_isIn 21 = .ok (.getfield 22, 3) := by decide +kernel
theorem d_Md_isIn_24 : decode b_Md_isIn 24 = .ok (.iload_n 1, 1) := by decide +kernel
theorem d_Md_isIn_25 : decode b_Md_isIn 25 = .ok (.iaload, 1) := by decide +kernel
theorem d_Md_isIn_26 : decode b_Md_isIn 26 = .ok (.iload_n 2, 1) := by decide +kernel
theorem d_Md_isIn_27 : decode b_Md_isIn 27 = .ok (.if_icmp .ne 7, 3) := by decide +kernel
theorem d_Md_isIn_30 : decode b_Md_isIn 30 = .ok (.iconst 1, 1) := by decide +kernel
theorem d_Md_isIn_31 : decode b_Md_isIn 31 = .ok (.goto 4, 3) := by decide +kernel
theorem d_Md_isIn_34 : decode b_Md_isIn 34 = .ok (.iconst 0, 1) := by decide +kernel
theorem d_Md_isIn_35 : decode b_Md_isIn 35 = .ok (.ireturn, 1) := by decide +kernel
theorem d_Md_isOn_0 : decode b_Md_isOn 0 = .ok (.iload_n 1, 1) := by decide +kernel
theorem d_Md_isOn_1 : decode b_Md_isOn 1 = .ok (.aload_n 0, 1) := by decide +kernel
theorem d_Md_isOn_2 : decode b_Md_isOn 2 = .ok (.getfield 7, 3) := by decide +kernel
theorem d_Md_isOn_5 : decode b_Md_isOn 5 = .ok (.iload_n 3, 1) := by decide +kernel
theorem d_Md_isOn_6 : decode b_Md_isOn 6 = .ok (.iaload, 1) := by decide +kernel
theorem d_Md_isOn_7 : decode b_Md_isOn 7 = .ok (.aload_n 0, 1) := by decide +kernel
theorem d_Md_isOn_8 : decode b_Md_isOn 8 = .ok (.getfield 7, 3) := by decide +kernel
theorem d_Md_isOn_11 : decode b_Md_isOn 11 = .ok (.iload 4, 2) := by decide +kernel
theorem d_Md_isOn_13 : decode b_Md_isOn 13 = .ok (.iaload, 1) := by decide +kernel
theorem d_Md_isOn_14 : decode b_Md_isOn 14 = .ok (.if_icmp .ge 12, 3) := by decide +kernel
theorem d_Md_isOn_17 : decode b_Md_isOn 17 = .ok (.aload_n 0, 1) := by decide +kernel
theorem d_Md_isOn_18 : decode b_Md_isOn 18 = .ok (.getfield 7, 3) := by decide +kernel
theorem d_Md_isOn_21 : decode b_Md_isOn 21 = .ok (.iload_n 3, 1) := by decide +kernel
theorem d_Md_isOn_22 : decode b_Md_isOn 22 = .ok (.iaload, 1) := by decide +kernel
theorem d_Md_isOn_23 : decode b_Md_isOn 23 = .ok (.goto 10, 3) := by decide +kernel
theorem d_Md_isOn_26 : decode b_Md_isOn 26 = .ok (.aload_n 0, 1) := by decide +kernel
theorem d_Md_isOn_27 : decode b_Md_isOn 27 = .ok (.getfield 7, 3) := by decide +kernel
theorem d_Md_isOn_30 : decode b_Md_isOn 30 = .ok (.iload 4, 2) := by decide +kernel
theorem d_Md_isOn_32 : decode b_Md_isOn 32 = .ok (.iaload, 1) := by decide +kernel
theorem d_Md_isOn_33 : decode b_Md_isOn 33 = .ok (.aload_n 0, 1) := by decide +kernel
theorem d_Md_isOn_34 : decode b_Md_isOn 34 = .ok (.getfield 7, 3) := by decide +kernel
theorem d_Md_isOn_37 : decode b_Md_isOn 37 = .ok (.iload_n 3, 1) := by decide +kernel
theorem d_Md_isOn_38 : decode b_Md_isOn 38 = .ok (.iaload, 1) := by decide +kernel
theorem d_Md_isOn_39 : decode b_Md_isOn 39 = .ok (.aload_n 0, 1) := by decide +kernel
theorem d_Md_isOn_40 : decode b_Md_isOn 40 = .ok (.getfield 7, 3) := by decide +kernel
theorem d_Md_isOn_43 : decode b_Md_isOn 43 = .ok (.iload 4, 2) := by decide +kernel
theorem d_Md_isOn_45 : decode b_Md_isOn 45 = .ok (.iaload, 1) := by decide +kernel
theorem d_Md_isOn_46 : decode b_Md_isOn 46 = .ok (.if_icmp .ge 13, 3) := by decide +kernel
theorem d_Md_isOn_49 : decode b_Md_isOn 49 = .ok (.aload_n 0, 1) := by decide +kernel
theorem d_Md_isOn_50 : decode b_Md_isOn 50 = .ok (.getfield 7, 3) := by decide +kernel
theorem d_Md_isOn_53 : decode b_Md_isOn 53 = .ok (.iload 4, 2) := by decide +kernel
theorem d_Md_isOn_55 : decode b_Md_isOn 55 = .ok (.iaload, 1) := by decide +kernel
theorem d_Md_isOn_56 : decode b_Md_isOn 56 = .ok (.goto 9, 3) := by decide +kernel
theorem d_Md_isOn_59 : decode b_Md_isOn 59 = .ok (.aload_n 0, 1) := by decide +kernel
theorem d_Md_isOn_60 : decode b_Md_isOn 60 = .ok (.getfield 7, 3) := by decide +kernel
theorem d_Md_isOn_63 : decode b_Md_isOn 63 = .ok (.iload_n 3, 1) := by decide +kernel
theorem d_Md_isOn_64 : decode b_Md_isOn 64 = .ok (.iaload, 1) := by decide +kernel
theorem d_Md_isOn_65 : decode b_Md_isOn 65 = .ok (.invokestatic 52, 3) := by decide +kernel
theorem d_Md_isOn_68 : decode b_Md_isOn 68 = .ok (.istore 5, 2) := by decide +kernel
theorem d_Md_isOn_70 : decode b_Md_isOn 70 = .ok (.iload_n 2, 1) := by decide +kernel
theorem d_Md_isOn_71 : decode b_Md_isOn 71 = .ok (.aload_n 0, 1) := by decide +kernel
theorem d_Md_isOn_72 : decode b_Md_isOn 72 = .ok (.getfield 13, 3) := by decide +kernel
theorem d_Md_isOn_75 : decode b_Md_isOn 75 = .ok (.iload_n 3, 1) := by decide +kernel
theorem d_Md_isOn_76 : decode b_Md_isOn 76 = .ok (.iaload, 1) := by decide +kernel
theorem d_Md_isOn_77 : decode b_Md_isOn 77 = .ok (.aload_n 0, 1) := by decide +kernel
theorem d_Md_isOn_78 : decode b_Md_isOn 78 = .ok (.getfield 13, 3) := by decide +kernel
theorem d_Md_isOn_81 : decode b_Md_isOn 81 = .ok (.iload 4, 2) := by decide +kernel
theorem d_Md_isOn_83 : decode b_Md_isOn 83 = .ok (.iaload, 1) := by decide +kernel
theorem d_Md_isOn_84 : decode b_Md_isOn 84 = .ok (.if_icmp .ge 12, 3) := by decide +kernel
theorem d_Md_isOn_87 : decode b_Md_isOn 87 = .ok (.aload_n 0, 1) := by decide +kernel
theorem d_Md_isOn_88 : decode b_Md_isOn 88 = .ok (.getfield 13, 3) := by decide +kernel
theorem d_Md_isOn_91 : decode b_Md_isOn 91 = .ok (.iload_n 3, 1) := by decide +kernel
theorem d_Md_isOn_92 : decode b_Md_isOn 92 = .ok (.iaload, 1) := by decide +kernel
theorem d_Md_isOn_93 : decode b_Md_isOn 93 = .ok (.goto 10, 3) := by decide +kernel
theorem d_Md_isOn_96 : decode b_Md_isOn 96 = .ok (.aload_n 0, 1) := by decide +kernel
theorem d_Md_isOn_97 : decode b_Md_isOn 97 = .ok (.getfield 13, 3) := by decide +kernel
theorem d_Md_isOn_100 : decode b_Md_isOn 100 = .ok (.iload 4, 2) := by decide +kernel
theorem d_Md_isOn_102 : decode b_Md_isOn 102 = .ok (.iaload, 1) := by decide +kernel
theorem d_Md_isOn_103 : decode b_Md_isOn 103 = .ok (.aload_n 0, 1) := by decide +kernel
theorem d_Md_isOn_104 : decode b_Md_isOn 104 = .ok (.getfield 13, 3) := by decide +kernel
theorem d_Md_isOn_107 : decode b_Md_isOn 107 = .ok (.iload_n 3, 1) := by decide +kernel
theorem d_Md_isOn_108 : decode b_Md_isOn 108 = .ok (.iaload, 1) := by decide +kernel
theorem d_Md_isOn_109 : decode b_Md_isOn 109 = .ok (.aload_n 0, 1) := by decide +kernel
theorem d_Md_isOn_110 : decode b_Md_isOn 110 = .ok (.getfield 13, 3) := by decide +kernel
theorem d_Md_isOn_113 : decode b_Md_isOn 113 = .ok (.iload 4, 2) := by decide +kernel
theorem d_Md_isOn_115 : decode b_Md_isOn 115 = .ok (.iaload, 1) := by decide +kernel
theorem d_Md_isOn_116 : decode b_Md_isOn 116 = .ok (.if_icmp .ge 13, 3) := by decide +kernel
theorem d_Md_isOn_119 : decode b_Md_isOn 119 = .ok (.aload_n 0, 1) := by decide +kernel
theorem d_Md_isOn_120 : decode b_Md_isOn 120 = .ok (.getfield 13, 3) := by decide +kernel
theorem d_Md_isOn_123 : decode b_Md_isOn 123 = .ok (.iload 4, 2) := by decide +kernel
theorem d_Md_isOn_125 : decode b_Md_isOn 125 = .ok (.iaload, 1) := by decide +kernel
theorem d_Md_isOn_126 : decode b_Md_isOn 126 = .ok (.goto 9, 3) := by decide +kernel
theorem d_Md_isOn_129 : decode b_Md_isOn 129 = .ok (.aload_n 0, 1) := by decide +kernel
theorem d_Md_isOn_130 : decode b_Md_isOn 130 = .ok (.getfield 13, 3) := by decide +kernel
theorem d_Md_isOn_133 : decode b_Md_isOn 133 = .ok (.iload_n 3, 1) := by decide +kernel
theorem d_Md_isOn_134 : decode b_Md_isOn 134 = .ok (.iaload, 1) := by decide +kernel
theorem d_Md_isOn_135 : decode b_Md_isOn 135 = .ok (.invokestatic 52, 3) := by decide +kernel
theorem d_Md_isOn_138 : decode b_Md_isOn 138 = .ok (.istore 6, 2) := by decide +kernel
theorem d_Md_isOn_140 : decode b_Md_isOn 140 = .ok (.iload 5, 2) := by decide +kernel
theorem d_Md_isOn_142 : decode b_Md_isOn 142 = .ok (.ifCond .eq 24, 3) := by decide +kernel
theorem d_Md_isOn_145 : decode b_Md_isOn 145 = .ok (.iload 6, 2) := by decide +kernel
theorem d_Md_isOn_147 : decode b_Md_isOn 147 = .ok (.ifCond .eq 19, 3) := by decide +kernel
theorem d_Md_isOn_150 : decode b_Md_isOn 150 = .ok (.aload_n 0, 1) := by decide +kernel
theorem d_Md_isOn_151 : decode b_Md_isOn 151 = .ok (.iload_n 3, 1) := by decide +kernel
theorem d_Md_isOn_152 : decode b_Md_isOn 152 = .ok (.iload 4, 2) := by decide +kernel
theorem d_Md_isOn_154 : decode b_Md_isOn 154 = .ok (.iload_n 1, 1) := by decide +kernel
theorem d_Md_isOn_155 : decode b_Md_isOn 155 = .ok (.iload_n 2, 1) := by decide +kernel
theorem d_Md_isOn_156 : decode b_Md_isOn 156 = .ok (.invokevirtual 64, 3) := by decide +kernel
theorem d_Md_isOn_159 : decode b_Md_isOn 159 = .ok (.ifCond .ne 7, 3) := by decide +kernel
theorem d_Md_isOn_162 : decode b_Md_isOn 162 = .ok (.iconst 1, 1) := by decide +kernel
theorem d_Md_isOn_163 : decode b_Md_isOn 163 = .ok (.goto 4, 3) := by decide +kernel
theorem d_Md_isOn_166 : decode b_Md_isOn 166 = .ok (.iconst 0, 1) := by decide +kernel
theorem d_Md_isOn_167 : decode b_Md_isOn 167 = .ok (.ireturn, 1) := by decide +kernel
theorem d_Md_areNeighbours_0 : decode b_Md_areNeighbours 0 = .ok (.iload_n 1, 1) := by decide +kernel
theorem d_Md_areNeighbours_1 : decode b_Md_areNeighbours 1 = .ok (.iload_n 2, 1) := by decide +kernel
theorem d_Md_areNeighbours_2 : decode b_Md_areNeighbours 2 = .ok (.if_icmp .ne 5, 3) := by decide +kernel
theorem d_Md_areNeighbours_5 : decode b_Md_areNeighbours 5 = .ok (.iconst 0, 1) := by decide +kernel
theorem d_Md_areNeighbours_6 : decode b_Md_areNeighbours 6 = .ok (.ireturn, 1) := by decide +kernel
theorem d_Md_areNeighbours_7 : decode b_Md_areNeighbours 7 = .ok (.aload_n 0, 1) := by decide +kernel
theorem d_Md_areNeighbours_8 : decode b_Md_areNeighbours 8 = .ok (.getfield 153, 3) := by decide +kernel
theorem d_Md_areNeighbours_11 : decode b_Md_areNeighbours 11 = .ok (.ifCond .ne 7, 3) := by decide +kernel
theorem d_Md_areNeighbours_14 : decode b_Md_areNeighbours 14 = .ok (.iconst 1, 1) := by decide +kernel
theorem d_Md_areNeighbours_15 : decode b_Md_areNeighbours 15 = .ok (.goto 4, 3) := by decide +kernel
theorem d_Md_areNeighbours_18 : decode b_Md_areNeighbours 18 = .ok (.iconst 0, 1) := by decide +kernel
theorem d_Md_areNeighbours_19 : decode b_Md_areNeighbours 19 = .ok (.istore_n 3, 1) := by decide +kernel
theorem d_Md_areNeighbours_20 : decode b_Md_areNeighbours 20 = .ok (.iconst 0, 1) := by decide +kernel
theorem d_Md_areNeighbours_21 : decode b_Md_areNeighbours 21 = .ok (.istore 4, 2) := by decide +kernel
theorem d_Md_areNeighbours_23 : decode b_Md_areNeighbours 23 = .ok (.iload 4, 2) := by decide +kernel
theorem d_Md_areNeighbours_25 : decode b_Md_areNeighbours 25 = .ok (.aload_n 0, 1) := by decide +kernel
theorem d_Md_areNeighbours_26 : decode b_Md_areNeighbours 26 = .ok (.getfield 98, 3) := by decide +kernel
theorem d_Md_areNeighbours_29 : decode b_Md_areNeighbours 29 = .ok (.if_icmp .ge 61, 3) := by decide +kernel
theorem d_Md_areNeighbours_32 : decode b_Md_areNeighbours 32 = .ok (.aload_n 0, 1) := by decide +kernel
theorem d_Md_areNeighbours_33 : decode b_Md_areNeighbours 33 = .ok (.getfield 153, 3) := by decide +kernel
theorem d_Md_areNeighbours_36 : decode b_Md_areNeighbours 36 = .ok (.ifCond .ne 54, 3) := by decide +kernel
theorem d_Md_areNeighbours_39 : decode b_Md_areNeighbours 39 = .ok (.iload_n 3, 1) := by decide +kernel
theorem d_Md_areNeighbours_40 : decode b_Md_areNeighbours 40 = .ok (.ifCond .eq 42, 3) := by decide +kernel
theorem d_Md_areNeighbours_43 : decode b_Md_areNeighbours 43 = .ok (.iload 4, 2) := by decide +kernel
theorem d_Md_areNeighbours_45 : decode b_Md_areNeighbours 45 = .ok (.iload_n 1, 1) := by decide +kernel
theorem d_Md_areNeighbours_46 : decode b_Md_areNeighbours 46 = .ok (.if_icmp .eq 32, 3) := by decide +kernel
theorem d_Md_areNeighbours_49 : decode b_Md_areNeighbours 49 = .ok (.iload 4, 2) := by decide +kernel
theorem d_Md_areNeighbours_51 : decode b_Md_areNeighbours 51 = .ok (.iload_n 2, 1) := by decide +kernel
theorem d_Md_areNeighbours_52 : decode b_Md_areNeighbours 52 = .ok (.if_icmp .eq 26, 3) := by decide +kernel
theorem d_Md_areNeighbours_55 : decode b_Md_areNeighbours 55 = .ok (.aload_n 0, 1) := by decide +kernel
theorem d_Md_areNeighbours_56 : decode b_Md_areNeighbours 56 = .ok (.aload_n 0, 1) := by decide +kernel
theorem d_Md_areNeighbours_57 : decode b_Md_areNeighbours 57 = .ok (.getfield 7, 3) := by decide +kernel
theorem d_Md_areNeighbours_60 : decode b_Md_areNeighbours 60 = .ok (.iload 4, 2) := by decide +kernel
theorem d_Md_areNeighbours_62 : decode b_Md_areNeighbours 62 = .ok (.iaload, 1) := by decide +kernel
theorem d_Md_areNeighbours_63 : decode b_Md_areNeighbours 63 = .ok (.aload_n 0, 1) := by decide +kernel
theorem d_Md_areNeighbours_64 : decode b_Md_areNeighbours 64 = .ok (.getfield 13, 3) := by decide +kernel
theorem d_Md_areNeighbours_67 : decode b_Md_areNeighbours 67 = .ok (.iload 4, 2) := by decide +kernel
theorem d_Md_areNeighbours_69 : decode b_Md_areNeighbours 69 = .ok (.iaload, 1) := by decide +kernel
theorem d_Md_areNeighbours_70 : decode b_Md_areNeighbours 70 = .ok (.iload_n 1, 1) := by decide +kernel
theorem d_Md_areNeighbours_71 : decode b_Md_areNeighbours 71 = .ok (.iload_n 2, 1) := by decide +kernel
theorem d_Md_areNeighbours_72 : decode b_Md_areNeighbours 72 = .ok (.invokevirtual 189, 3) := by decide +kernel
theorem d_Md_areNeighbours_75 : decode b_Md_areNeighbours 75 = .ok (.ifCond .ne 7, 3) := by decide +kernel
theorem d_Md_areNeighbours_78 : decode b_Md_areNeighbours 78 = .ok (.iconst 1, 1) := by decide +kernel
theorem d_Md_areNeighbours_79 : decode b_Md_areNeighbours 79 = .ok (.goto 4, 3) := by decide +kernel
theorem d_Md_areNeighbours_82 : decode b_Md_areNeighbours 82 = .ok (.iconst 0, 1) := by decide +kernel
theorem d_Md_areNeighbours_83 : decode b_Md_areNeighbours 83 = .ok (.istore_n 3, 1) := by decide +kernel
theorem d_Md_areNeighbours_84 : decode b_Md_areNeighbours 84 = .ok (.iinc 4 1, 3) := by decide +kernel
theorem d_Md_areNeighbours_87 : decode b_Md_areNeighbours 87 = .ok (.goto (-64), 3) := by decide +kernel
theorem d_Md_areNeighbours_90 : decode b_Md_areNeighbours 90 = .ok (.iconst 0, 1) := by decide +kernel
theorem d_Md_areNeighbours_91 : decode b_Md_areNeighbours 91 = .ok (.istore 4, 2) := by decide +kernel
theorem d_Md_areNeighbours_93 : decode b_Md_areNeighbours 93 = .ok (.iload 4, 2) := by decide +kernel
theorem d_Md_areNeighbours_95 : decode b_Md_areNeighbours 95 = .ok (.aload_n 0, 1) := by decide +kernel
theorem d_Md_areNeighbours_96 : decode b_Md_areNeighbours 96 = .ok (.getfield 153, 3) := by decide +kernel
theorem d_Md_areNeighbours_99 : decode b_Md_areNeighbours 99 = .ok (.if_icmp .ge 39, 3) := by decide +kernel
theorem d_Md_areNeighbours_102 : decode b_Md_areNeighbours 102 = .ok (.iload_n 3, 1) := by decide +kernel
theorem d_Md_areNeighbours_103 : decode b_Md_areNeighbours 103 = .ok (.ifCond .ne 35, 3) := by decide +kernel
theorem d_Md_areNeighbours_106 : decode b_Md_areNeighbours 106 = .ok (.aload_n 0, 1) := by decide +kernel
theorem d_Md_areNeighbours_107 : decode b_Md_areNeighbours 107 = .ok (.iload 4, 2) := by decide +kernel
theorem d_Md_areNeighbours_109 : decode b_Md_areNeighbours 109 = .ok (.iload_n 1, 1) := by decide +kernel
theorem d_Md_areNeighbours_110 : decode b_Md_areNeighbours 110 = .ok (.invokevirtual 193, 3) := by decide +kernel
theorem d_Md_areNeighbours_113 : decode b_Md_areNeighbours 113 = .ok (.ifCond .eq 17, 3) := by decide +kernel
theorem d_Md_areNeighbours_116 : decode b_Md_areNeighbours 116 = .ok (.aload_n 0, 1) := by decide +kernel
theorem d_Md_areNeighbours_117 : decode b_Md_areNeighbours 117 = .ok (.iload 4, 2) := by decide +kernel
theorem d_Md_areNeighbours_119 : decode b_Md_areNeighbours 119 = .ok (.iload_n 2, 1) := by decide +kernel
theorem d_Md_areNeighbours_120 : decode b_Md_areNeighbours 120 = .ok (.invokevirtual 193, 3) := by decide +kernel
theorem d_Md_areNeighbours_123 : decode b_Md_areNeighbours 123 = .ok (.ifCond .eq 7, 3) := by decide +kernel
theorem d_Md_areNeighbours_126 : decode b_Md_areNeighbours 126 = .ok (.iconst 1, 1) := by decide +kernel
theorem d_Md_areNeighbours_127 : decode b_Md_areNeighbours 127 = .ok (.goto 4, 3) := by decide +kernel
theorem d_Md_areNeighbours_130 : decode b_Md_areNeighbours 130 = .ok (.iconst 0, 1) := by decide +kernel
theorem d_Md_areNeighbours_131 : decode b_Md_areNeighbours 131 = .ok (.istore_n 3, 1) := by decide +kernel
theorem d_Md_areNeighbours_132 : decode b_Md_areNeighbours 132 = .ok (.iinc 4 1, 3) := by decide +kernel
theorem d_Md_areNeighbours_135 : decode b_Md_areNeighbours 135 = .ok (.goto (-42), 3) := by decide +kernel
theorem d_Md_areNeighbours_138 : decode b_Md_areNeighbours 138 = .ok (.iload_n 3, 1) := by decide +kernel
theorem d_Md_areNeighbours_139 : decode b_Md_areNeighbours 139 = .ok (.ireturn, 1) := by decide +kernel
theorem d_Md_isSooner_0 : decode b_Md_isSooner 0 = .ok (.aload_n 0, 1) := by decide +kernel
theorem d_Md_isSooner_1 : decode b_Md_isSooner 1 = .ok (.getfield 7, 3) := by decide +kernel
theorem d_Md_isSooner_4 : decode b_Md_isSooner 4 = .ok (.iload_n 2, 1) := by decide +kernel
theorem d_Md_isSooner_5 : decode b_Md_isSooner 5 = .ok (.iaload, 1) := by decide +kernel
theorem d_Md_isSooner_6 : decode b_Md_isSooner 6 = .ok (.i2l, 1) := by decide +kernel
theorem d_Md_isSooner_7 : decode b_Md_isSooner 7 = .ok (.aload_n 0, 1) := by decide +kernel
theorem d_Md_isSooner_8 : decode b_Md_isSooner 8 = .ok (.getfield 7, 3) := by decide +kernel
theorem d_Md_isSooner_11 : decode b_Md_isSooner 11 = .ok (.iload_n 1, 1) := by decide +kernel
theorem d_Md_isSooner_12 : decode b_Md_isSooner 12 = .ok (.iaload, 1) := by decide +kernel
theorem d_Md_isSooner_13 : decode b_Md_isSooner 13 = .ok (.i2l, 1) := by decide +kernel
theorem d_Md_isSooner_14 : decode b_Md_isSooner 14 = .ok (.lsub, 1) := by decide +kernel
theorem d_Md_isSooner_15 : decode b_Md_isSooner 15 = .ok (.lstore 5, 2) := by decide +kernel
theorem d_Md_isSooner_17 : decode b_Md_isSooner 17 = .ok (.aload_n 0, 1) := by decide +kernel
theorem d_Md_isSooner_18 : decode b_Md_isSooner 18 = .ok (.getfield 13, 3) := by decide +kernel
theorem d_Md_isSooner_21 : decode b_Md_isSooner 21 = .ok (.iload_n 2, 1) := by decide +kernel
theorem d_Md_isSooner_22 : decode b_Md_isSooner 22 = .ok (.iaload, 1) := by decide +kernel
theorem d_Md_isSooner_23 : decode b_Md_isSooner 23 = .ok (.i2l, 1) := by decide +kernel
theorem d_Md_isSooner_24 : decode b_Md_isSooner 24 = .ok (.aload_n 0, 1) := by decide +kernel
theorem d_Md_isSooner_25 : decode b_Md_isSooner 25 = .ok (.getfield 13, 3) := by decide +kernel
theorem d_Md_isSooner_28 : decode b_Md_isSooner 28 = .ok (.iload_n 1, 1) := by decide +kernel
theorem d_Md_isSooner_29 : decode b_Md_isSooner 29 = .ok (.iaload, 1) := by decide +kernel
theorem d_Md_isSooner_30 : decode b_Md_isSooner 30 = .ok (.i2l, 1) := by decide +kernel
theorem d_Md_isSooner_31 : decode b_Md_isSooner 31 = .ok (.lsub, 1) := by decide +kernel
theorem d_Md_isSooner_32 : decode b_Md_isSooner 32 = .ok (.lstore 7, 2) := by decide +kernel
theorem d_Md_isSooner_34 : decode b_Md_isSooner 34 = .ok (.aload_n 0, 1) := by decide +kernel
theorem d_Md_isSooner_35 : decode b_Md_isSooner 35 = .ok (.getfield 7, 3) := by decide +kernel
theorem d_Md_isSooner_38 : decode b_Md_isSooner 38 = .ok (.iload_n 3, 1) := by decide +kernel
theorem d_Md_isSooner_39 : decode b_Md_isSooner 39 = .ok (.iaload, 1) := by decide +kernel
theorem d_Md_isSooner_40 : decode b_Md_isSooner 40 = .ok (.i2l, 1) := by decide +kernel
theorem d_Md_isSooner_41 : decode b_Md_isSooner 41 = .ok (.aload_n 0, 1) := by decide +kernel
theorem d_Md_isSooner_42 : decode b_Md_isSooner 42 = .ok (.getfield 7, 3) := by decide +kernel
theorem d_Md_isSooner_45 : decode b_Md_isSooner 45 = .ok (.iload_n 1, 1) := by decide +kernel
theorem d_Md_isSooner_46 : decode b_Md_isSooner 46 = .ok (.iaload, 1) := by decide +kernel
theorem d_Md_isSooner_47 : decode b_Md_isSooner 47 = .ok (.i2l, 1) := by decide +kernel
theorem d_Md_isSooner_48 : decode b_Md_isSooner 48 = .ok (.lsub, 1) := by decide +kernel
theorem d_Md_isSooner_49 : decode b_Md_isSooner 49 = .ok (.lstore 9, 2) := by decide +kernel
theorem d_Md_isSooner_51 : decode b_Md_isSooner 51 = .ok (.aload_n 0, 1) := by decide +kernel
theorem d_Md_isSooner_52 : decode b_Md_isSooner 52 = .ok (.getfield 13, 3) := by decide +kernel
theorem d_Md_isSooner_55 : decode b_Md_isSooner 55 = .ok (.iload_n 3, 1) := by decide +kernel
theorem d_Md_isSooner_56 : decode b_Md_isSooner 56 = .ok (.iaload, 1) := by decide +kernel
theorem d_Md_isSooner_57 : decode b_Md_isSooner 57 = .ok (.i2l, 1) := by decide +kernel
theorem d_Md_isSooner_58 : decode b_Md_isSooner 58 = .ok (.aload_n 0, 1) := by decide +kernel
theorem d_Md_isSooner_59 : decode b_Md_isSooner 59 = .ok (.getfield 13, 3) := by decide +kernel
theorem d_Md_isSooner_62 : decode b_Md_isSooner 62 = .ok (.iload_n 1, 1) := by decide +kernel
theorem d_Md_isSooner_63 : decode b_Md_isSooner 63 = .ok (.iaload, 1) := by decide +kernel
theorem d_Md_isSooner_64 : decode b_Md_isSooner 64 = .ok (.i2l, 1) := by decide +kernel
theorem d_Md_isSooner_65 : decode b_Md_isSooner 65 = .ok (.lsub, 1) := by decide +kernel
theorem d_Md_isSooner_66 : decode b_Md_isSooner 66 = .ok (.lstore 11, 2) := by decide +kernel
theorem d_Md_isSooner_68 : decode b_Md_isSooner 68 = .ok (.aload_n 0, 1) := by decide +kernel
theorem d_Md_isSooner_69 : decode b_Md_isSooner 69 = .ok (.getfield 7, 3) := by decide +kernel
theorem d_Md_isSooner_72 : decode b_Md_isSooner 72 = .ok (.iload 4, 2) := by decide +kernel
theorem d_Md_isSooner_74 : decode b_Md_isSooner 74 = .ok (.iaload, 1) := by decide +kernel
theorem d_Md_isSooner_75 : decode b_Md_isSooner 75 = .ok (.i2l, 1) := by decide +kernel
theorem d_Md_isSooner_76 : decode b_Md_isSooner 76 = .ok (.aload_n 0, 1) := by decide +kernel
theorem d_Md_isSooner_77 : decode b_Md_isSooner 77 = .ok (.getfield 7, 3) := by decide +kernel
theorem d_Md_isSooner_80 : decode b_Md_isSooner 80 = .ok (.iload_n 1, 1) := by decide +kernel
theorem d_Md_isSooner_81 : decode b_Md_isSooner 81 = .ok (.iaload, 1) := by decide +kernel
theorem d_Md_isSooner_82 : decode b_Md_isSooner 82 = .ok (.i2l, 1) := by decide +kernel
theorem d_Md_isSooner_83 : decode b_Md_isSooner 83 = .ok (.lsub, 1) := by decide +kernel
theorem d_Md_isSooner_84 : decode b_Md_isSooner 84 = .ok (.lstore 13, 2) := by decide +kernel
theorem d_Md_isSooner_86 : decode b_Md_isSooner 86 = .ok (.aload_n 0, 1) := by decide +kernel
theorem d_Md_isSooner_87 : decode b_Md_isSooner 87 = .ok (.getfield 13, 3) := by decide +kernel
theorem d_Md_isSooner_90 : decode b_Md_isSooner 90 = .ok (.iload 4, 2) := by decide +kernel
theorem d_Md_isSooner_92 : decode b_Md_isSooner 92 = .ok (.iaload, 1) := by decide +kernel
theorem d_Md_isSooner_93 : decode b_Md_isSooner 93 = .ok (.i2l, 1) := by decide +kernel
theorem d_Md_isSooner_94 : decode b_Md_isSooner 94 = .ok (.aload_n 0, 1) := by decide +kernel
theorem d_Md_isSooner_95 : decode b_Md_isSooner 95 = .ok (.getfield 13, 3) := by decide +kernel
theorem d_Md_isSooner_98 : decode b_Md_isSooner 98 = .ok (.iload_n 1, 1) := by decide +kernel
theorem d_Md_isSooner_99 : decode b_Md_isSooner 99 = .ok (.iaload, 1) := by decide +kernel
theorem d_Md_isSooner_100 : decode b_Md_isSooner 100 = .ok (.i2l, 1) := by decide +kernel
theorem d_Md_isSooner_101 : decode b_Md_isSooner 101 = .ok (.lsub, 1) := by decide +kernel
theorem d_Md_isSooner_102 : decode b_Md_isSooner 102 = .ok (.lstore 15, 2) := by decide +kernel
theorem d_Md_isSooner_104 : decode b_Md_isSooner 104 = .ok (.lload 5, 2) := by decide +kernel
theorem d_Md_isSooner_106 : decode b_Md_isSooner 106 = .ok (.lload 7, 2) := by decide +kernel
theorem d_Md_isSooner_108 : decode b_Md_isSooner 108 = .ok (.lload 9, 2) := by decide +kernel
theorem d_Md_isSooner_110 : decode b_Md_isSooner 110 = .ok (.lload 11, 2) := by decide +kernel
theorem d_Md_isSooner_112 : decode b_Md_isSooner 112 = .ok (.invokestatic 56, 3) := by decide +kernel
theorem d_Md_isSooner_115 : decode b_Md_isSooner 115 = .ok (.invokestatic 60, 3) := by decide +kernel
theorem d_Md_isSooner_118 : decode b_Md_isSooner 118 = .ok (.istore 17, 2) := by decide +kernel
theorem d_Md_isSooner_120 : decode b_Md_isSooner 120 = .ok (.lload 5, 2) := by decide +kernel
theorem d_Md_isSooner_122 : decode b_Md_isSooner 122 = .ok (.lload 7, 2) := by decide +kernel
theorem d_Md_isSooner_124 : decode b_Md_isSooner 124 = .ok (.lload 13, 2) := by decide +kernel
theorem d_Md_isSooner_126 : decode b_Md_isSooner 126 = .ok (.lload 15, 2) := by decide +kernel
theorem d_Md_isSooner_128 : decode b_Md_isSooner 128 = .ok (.invokestatic 56, 3) := by decide +kernel
theorem d_Md_isSooner_131 : decode b_Md_isSooner 131 = .ok (.invokestatic 60, 3) := by decide +kernel
theorem d_Md_isSooner_134 : decode b_Md_isSooner 134 = .ok (.istore 18, 2) := by decide +kernel
theorem d_Md_isSooner_136 : decode b_Md_isSooner 136 = .ok (.iload 17, 2) := by decide +kernel
theorem d_Md_isSooner_138 : decode b_Md_isSooner 138 = .ok (.iload 18, 2) := by decide +kernel
theorem d_Md_isSooner_140 : decode b_Md_isSooner 140 = .ok (.if_icmp .eq 18, 3) := by decide +kernel
theorem d_Md_isSooner_143 : decode b_Md_isSooner 143 = .ok (.iload 17, 2) := by decide +kernel
theorem d_Md_isSooner_145 : decode b_Md_isSooner 145 = .ok (.iload 18, 2) := by decide +kernel
theorem d_Md_isSooner_147 : decode b_Md_isSooner 147 = .ok (.if_icmp .le 7, 3) := by decide +kernel
theorem d_Md_isSooner_150 : decode b_Md_isSooner 150 = .ok (.iconst 1, 1) := by decide +kernel
theorem d_Md_isSooner_151 : decode b_Md_isSooner 151 = .ok (.goto 28, 3) := by decide +kernel
theorem d_Md_isSooner_154 : decode b_Md_isSooner 154 = .ok (.iconst 0, 1) := by decide +kernel
theorem d_Md_isSooner_155 : decode b_Md_isSooner 155 = .ok (.goto 24, 3) := by decide +kernel
theorem d_Md_isSooner_158 : decode b_Md_isSooner 158 = .ok (.lload 9, 2) := by decide +kernel
theorem d_Md_isSooner_160 : decode b_Md_isSooner 160 = .ok (.lload 11, 2) := by decide +kernel
theorem d_Md_isSooner_162 : decode b_Md_isSooner 162 = .ok (.lload 13, 2) := by decide +kernel
theorem d_Md_isSooner_164 : decode b_Md_isSooner 164 = .ok (.lload 15, 2) := by decide +kernel
theorem d_Md_isSooner_166 : decode b_Md_isSooner 166 = .ok (.invokestatic 56, 3) := by decide +kernel
theorem d_Md_isSooner_169 : decode b_Md_isSooner 169 = .ok (.lconst 0, 1) := by decide +kernel
theorem d_Md_isSooner_170 : decode b_Md_isSooner 170 = .ok (.lcmp, 1) := by decide +kernel
theorem d_Md_isSooner_171 : decode b_Md_isSooner 171 = .ok (.ifCond .le 7, 3) := by decide +kernel
theorem d_Md_isSooner_174 : decode b_Md_isSooner 174 = .ok (.iconst 1, 1) := by decide +kernel
theorem d_Md_isSooner_175 : decode b_Md_isSooner 175 = .ok (.goto 4, 3) := by decide +kernel
theorem d_Md_isSooner_178 : decode b_Md_isSooner 178 = .ok (.iconst 0, 1) := by decide +kernel
theorem d_Md_isSooner_179 : decode b_Md_isSooner 179 = .ok (.ireturn, 1) := by decide +kernel
theorem d_Md_findNeighbours_0 : decode b_Md_findNeighbours 0 = .ok (.aload_n 0, 1) := by decide +kernel
theorem d_Md_findNeighbours_1 : decode b_Md_findNeighbours 1 = .ok (.invokevirtual 186, 3) := by decide +kernel
theorem d_Md_findNeighbours_4 : decode b_Md_findNeighbours 4 = .ok (.aload_n 0, 1) := by decide +kernel
theorem d_Md_findNeighbours_5 : decode b_Md_findNeighbours 5 = .ok (.iconst 0, 1) := by decide +kernel
theorem d_Md_findNeighbours_6 : decode b_Md_findNeighbours 6 = .ok (.putfield 196, 3) := by decide +kernel
theorem d_Md_findNeighbours_9 : decode b_Md_findNeighbours 9 = .ok (.iconst 0, 1) := by decide +kernel
theorem d_Md_findNeighbours_10 : decode b_Md_findNeighbours 10 = .ok (.istore_n 2, 1) := by decide +kernel
theorem d_Md_findNeighbours_11 : decode b_Md_findNeighbours 11 = .ok (.iload_n 2, 1) := by decide +kernel
theorem d_Md_findNeighbours_12 : decode b_Md_findNeighbours 12 = .ok (.aload_n 0, 1) := by decide +kernel
theorem d_Md_findNeighbours_13 : decode b_Md_findNeighbours 13 = .ok (.getfield 98, 3) := by decide +kernel
theorem d_Md_findNeighbours_16 : decode b_Md_findNeighbours 16 = .ok (.if_icmp .ge 38, 3) := by decide +kernel
theorem d_Md_findNeighbours_19 : decode b_Md_findNeighbours 19 = .ok (.aload_n 0, 1) := by decide +kernel
theorem d_Md_findNeighbours_20 : decode b_Md_findNeighbours 20 = .ok (.iload_n 1, 1) := by decide +kernel
theorem d_Md_findNeighbours_21 : decode b_Md_findNeighbours 21 = .ok (.iload_n 2, 1) := by decide +kernel
theorem d_Md_findNeighbours_22 : decode b_Md_findNeighbours 22 = .ok (.invokevirtual 199, 3) := by decide +kernel
theorem d_Md_findNeighbours_25 : decode b_Md_findNeighbours 25 = .ok (.ifCond .eq 23, 3) := by decide +kernel
theorem d_Md_findNeighbours_28 : decode b_Md_findNeighbours 28 = .ok (.aload_n 0, 1) := by decide +kernel
theorem d_Md_findNeighbours_29 : decode b_Md_findNeighbours 29 = .ok (.getfield 37, 3) := by decide +kernel
theorem d_Md_findNeighbours_32 : decode b_Md_findNeighbours 32 = .ok (.aload_n 0, 1) := by decide +kernel
theorem d_Md_findNeighbours_33 : decode b_Md_findNeighbours 33 = .ok (.getfield 196, 3) := by decide +kernel
theorem d_Md_findNeighbours_36 : decode b_Md_findNeighbours 36 = .ok (.iload_n 2, 1) := by decide +kernel
theorem d_Md_findNeighbours_37 : decode b_Md_findNeighbours 37 = .ok (.iastore, 1) := by decide +kernel
theorem d_Md_findNeighbours_38 : decode b_Md_findNeighbours 38 = .ok (.aload_n 0, 1) := by decide +kernel
theorem d_Md_findNeighbours_39 : decode b_Md_findNeighbours 39 = .ok (.dup, 1) := by decide +kernel
theorem d_Md_findNeighbours_40 : decode b_Md_findNeighbours 40 = .ok (.getfield 196, 3) := by decide +kernel
theorem d_Md_findNeighbours_43 : decode b_Md_findNeighbours 43 = .ok (.iconst 1, 1) := by decide +kernel
theorem d_Md_findNeighbours_44 : decode b_Md_findNeighbours 44 = .ok (.iadd, 1) := by decide +kernel
theorem d_Md_findNeighbours_45 : decode b_Md_findNeighbours 45 = .ok (.putfield 196, 3) := by decide +kernel
theorem d_Md_findNeighbours_48 : decode b_Md_findNeighbours 48 = .ok (.iinc 2 1, 3) := by decide +kernel
theorem d_Md_findNeighbours_51 : decode b_Md_findNeighbours 51 = .ok (.goto (-40), 3) := by decide +kernel
theorem d_Md_findNeighbours_54 : decode b_Md_findNeighbours 54 = .ok (.iconst 2, 1) := by decide +kernel
theorem d_Md_findNeighbours_55 : decode b_Md_findNeighbours 55 = .ok (.istore_n 2, 1) := by decide +kernel
theorem d_Md_findNeighbours_56 : decode b_Md_findNeighbours 56 = .ok (.iload_n 2, 1) := by decide +kernel
theorem d_Md_findNeighbours_57 : decode b_Md_findNeighbours 57 = .ok (.aload_n 0, 1) := by decide +kernel
theorem d_Md_findNeighbours_58 : decode b_Md_findNeighbours 58 = .ok (.getfield 196, 3) := by decide +kernel
theorem d_Md_findNeighbours_61 : decode b_Md_findNeighbours 61 = .ok (.if_icmp .ge 82, 3) := by decide +kernel
theorem d_Md_findNeighbours_64 : decode b_Md_findNeighbours 64 = .ok (.iload_n 2, 1) := by decide +kernel
theorem d_Md_findNeighbours_65 : decode b_Md_findNeighbours 65 = .ok (.istore_n 3, 1) := by decide +kernel
theorem d_Md_findNeighbours_66 : decode b_Md_findNeighbours 66 = .ok (.iload_n 3, 1) := by decide +kernel
theorem d_Md_findNeighbours_67 : decode b_Md_findNeighbours 67 = .ok (.iconst 1, 1) := by decide +kernel
theorem d_Md_findNeighbours_68 : decode b_Md_findNeighbours 68 = .ok (.if_icmp .le 69, 3) := by decide +kernel
theorem d_Md_findNeighbours_71 : decode b_Md_findNeighbours 71 = .ok (.aload_n 0, 1) := by decide +kernel
theorem d_Md_findNeighbours_72 : decode b_Md_findNeighbours 72 = .ok (.iload_n 1, 1) := by decide +kernel
theorem d_Md_findNeighbours_73 : decode b_Md_findNeighbours 73 = .ok (.aload_n 0, 1) := by decide +kernel
theorem d_Md_findNeighbours_74 : decode b_Md_findNeighbours 74 = .ok (.getfield 37, 3) := by decide +kernel
theorem d_Md_findNeighbours_77 : decode b_Md_findNeighbours 77 = .ok (.iconst 0, 1) := by decide +kernel
theorem d_Md_findNeighbours_78 : decode b_Md_findNeighbours 78 = .ok (.iaload, 1) := by decide +kernel
theorem d_Md_findNeighbours_79 : decode b_Md_findNeighbours 79 = .ok (.aload_n 0, 1) := by decide +kernel
theorem d_Md_findNeighbours_80 : decode b_Md_findNeighbours 80 = .ok (.getfield 37, 3) := by decide +kernel
theorem d_Md_findNeighbours_83 : decode b_Md_findNeighbours 83 = .ok (.iload_n 3, 1) := by decide +kernel
theorem d_Md_findNeighbours_84 : decode b_Md_findNeighbours 84 = .ok (.iaload, 1) := by decide +kernel
theorem d_Md_findNeighbours_85 : decode b_Md_findNeighbours 85 = .ok (.aload_n 0, 1) := by decide +kernel
theorem d_Md_findNeighbours_86 : decode b_Md_findNeighbours 86 = .ok (.getfield 37, 3) := by decide +kernel
theorem d_Md_findNeighbours_89 : decode b_Md_findNeighbours 89 = .ok (.iload_n 3, 1) := by decide +kernel
theorem d_Md_findNeighbours_90 : decode b_Md_findNeighbours 90 = .ok (.iconst 1, 1) := by decide +kernel
theorem d_Md_findNeighbours_91 : decode b_Md_findNeighbours 91 = .ok (.isub, 1) := by decide +kernel
theorem d_Md_findNeighbours_92 : decode b_Md_findNeighbours 92 = .ok (.iaload, 1) := by decide +kernel
theorem d_Md_findNeighbours_93 : decode b_Md_findNeighbours 93 = .ok (.invokevirtual 202, 3) := by decide +kernel
theorem d_Md_findNeighbours_96 : decode b_Md_findNeighbours 96 = .ok (.ifCond .eq 41, 3) := by decide +kernel
theorem d_Md_findNeighbours_99 : decode b_Md_findNeighbours 99 = .ok (.aload_n 0, 1) := by decide +kernel
theorem d_Md_findNeighbours_100 : decode b_Md_findNeighbours 100 = .ok (.getfield 37, 3) := by decide +kernel
theorem d_Md_findNeighbours_103 : decode b_Md_findNeighbours 103 = .ok (.iload_n 3, 1) := by decide +kernel
theorem d_Md_findNeighbours_104 : decode b_Md_findNeighbours 104 = .ok (.iaload, 1) := by decide +kernel
theorem d_Md_findNeighbours_105 : decode b_Md_findNeighbours 105 = .ok (.istore 4, 2) := by decide +kernel
theorem d_Md_findNeighbours_107 : decode b_Md_findNeighbours 107 = .ok (.aload_n 0, 1) := by decide +kernel
theorem d_Md_findNeighbours_108 : decode b_Md_findNeighbours 108 = .ok (.getfield 37, 3) := by decide +kernel
theorem d_Md_findNeighbours_111 : decode b_Md_findNeighbours 111 = .ok (.iload_n 3, 1) := by decide +kernel
theorem d_Md_findNeighbours_112 : decode b_Md_findNeighbours 112 = .ok (.aload_n 0, 1) := by decide +kernel
theorem d_Md_findNeighbours_113 : decode b_Md_findNeighbours 113 = .ok (.getfield 37, 3) := by decide +kernel
theorem d_Md_findNeighbours_116 : decode b_Md_findNeighbours 116 = .ok (.iload_n 3, 1) := by decide +kernel
theorem d_Md_findNeighbours_117 : decode b_Md_findNeighbours 117 = .ok (.iconst 1, 1) := by decide +kernel
theorem d_Md_findNeighbours_118 : decode b_Md_findNeighbours 118 = .ok (.isub, 1) := by decide +kernel
theorem d_Md_findNeighbours_119 : decode b_Md_findNeighbours 119 = .ok (.iaload, 1) := by decide +kernel
theorem d_Md_findNeighbours_120 : decode b_Md_findNeighbours 120 = .ok (.iastore, 1) := by decide +kernel
theorem d_Md_findNeighbours_121 : decode b_Md_findNeighbours 121 = .ok (.aload_n 0, 1) := by decide +kernel
theorem d_Md_findNeighbours_122 : decode b_Md_findNeighbours 122 = .ok (.getfield 37, 3) := by decide +kernel
theorem d_Md_findNeighbours_125 : decode b_Md_findNeighbours 125 = .ok (.iload_n 3, 1) := by decide +kernel
theorem d_Md_findNeighbours_126 : decode b_Md_findNeighbours 126 = .ok (.iconst 1, 1) := by decide +kernel
theorem d_Md_findNeighbours_127 : decode b_Md_findNeighbours 127 = .ok (.isub, 1) := by decide +kernel
theorem d_Md_findNeighbours_128 : decode b_Md_findNeighbours 128 = .ok (.iload 4, 2) := by decide +kernel
theorem d_Md_findNeighbours_130 : decode b_Md_findNeighbours 130 = .ok (.iastore, 1) := by decide +kernel
theorem d_Md_findNeighbours_131 : decode b_Md_findNeighbours 131 = .ok (.iinc 3 (-1), 3) := by decide +kernel
theorem d_Md_findNeighbours_134 : decode b_Md_findNeighbours 134 = .ok (.goto (-68), 3) := by decide +kernel
theorem d_Md_findNeighbours_137 : decode b_Md_findNeighbours 137 = .ok (.iinc 2 1, 3) := by decide +kernel
theorem d_Md_findNeighbours_140 : decode b_Md_findNeighbours 140 = .ok (.goto (-84), 3) := by decide +kernel
theorem d_Md_findNeighbours_143 : decode b_Md_findNeighbours 143 = .ok (.return_, 1) := by decide +kernel
theorem d_Md_neighbours_0 : decode b_Md_neighbours 0 = .ok (.aload_n 0, 1) := by decide +kernel
theorem d_Md_neighbours_1 : decode b_Md_neighbours 1 = .ok (.iconst 0, 1) := by decide +kernel
theorem d_Md_neighbours_2 : decode b_Md_neighbours 2 = .ok (.putfield 47, 3) := by decide +kernel
theorem d_Md_neighbours_5 : decode b_Md_neighbours 5 = .ok (.iload_n 1, 1) := by decide +kernel
theorem d_Md_neighbours_6 : decode b_Md_neighbours 6 = .ok (.iconst 0, 1) := by decide +kernel
theorem d_Md_neighbours_7 : decode b_Md_neighbours 7 = .ok (.aload_n 0, 1) := by decide +kernel
theorem d_Md_neighbours_8 : decode b_Md_neighbours 8 = .ok (.getfield 98, 3) := by decide +kernel
theorem d_Md_neighbours_11 : decode b_Md_neighbours 11 = .ok (.iconst 1, 1) := by decide +kernel
theorem d_Md_neighbours_12 : decode b_Md_neighbours 12 = .ok (.isub, 1) := by decide +kernel
theorem d_Md_neighbours_13 : decode b_Md_neighbours 13 = .ok (.invokestatic 52, 3) := by decide +kernel
theorem d_Md_neighbours_16 : decode b_Md_neighbours 16 = .ok (.ifCond .ne 9, 3) := by decide +kernel
theorem d_Md_neighbours_19 : decode b_Md_neighbours 19 = .ok (.aload_n 0, 1) := by decide +kernel
theorem d_Md_neighbours_20 : decode b_Md_neighbours 20 = .ok (.iconst 1, 1) := by decide +kernel
theorem d_Md_neighbours_21 : decode b_Md_neighbours 21 = .ok (.invokevirtual 109, 3) := by decide +kernel
theorem d_Md_neighbours_24 : decode b_Md_neighbours 24 = .ok (.ireturn, 1) := by decide +kernel
theorem d_Md_neighbours_25 : decode b_Md_neighbours 25 = .ok (.aload_n 0, 1) := by decide +kernel
theorem d_Md_neighbours_26 : decode b_Md_neighbours 26 = .ok (.iload_n 1, 1) := by decide +kernel
theorem d_Md_neighbours_27 : decode b_Md_neighbours 27 = .ok (.invokevirtual 205, 3) := by decide +kernel
theorem d_Md_neighbours_30 : decode b_Md_neighbours 30 = .ok (.aload_n 0, 1) := by decide +kernel
theorem d_Md_neighbours_31 : decode b_Md_neighbours 31 = .ok (.getfield 196, 3) := by decide +kernel
theorem d_Md_neighbours_34 : decode b_Md_neighbours 34 = .ok (.ireturn, 1) := by decide +kernel
theorem d_Md_neighbour_0 : decode b_Md_neighbour 0 = .ok (.aload_n 0, 1) := by decide +kernel
theorem d_Md_neighbour_1 : decode b_Md_neighbour 1 = .ok (.iconst 0, 1) := by decide +kernel
theorem d_Md_neighbour_2 : decode b_Md_neighbour 2 = .ok (.putfield 47, 3) := by decide +kernel
theorem d_Md_neighbour_5 : decode b_Md_neighbour 5 = .ok (.iload_n 1, 1) := by decide +kernel
theorem d_Md_neighbour_6 : decode b_Md_neighbour 6 = .ok (.iconst 0, 1) := by decide +kernel
theorem d_Md_neighbour_7 : decode b_Md_neighbour 7 = .ok (.aload_n 0, 1) := by decide +kernel
theorem d_Md_neighbour_8 : decode b_Md_neighbour 8 = .ok (.getfield 98, 3) := by decide +kernel
theorem d_Md_neighbour_11 : decode b_Md_neighbour 11 = .ok (.iconst 1, 1) := by decide +kernel
theorem d_Md_neighbour_12 : decode b_Md_neighbour 12 = .ok (.isub, 1) := by decide +kernel
theorem d_Md_neighbour_13 : decode b_Md_neighbour 13 = .ok (.invokestatic 52, 3) := by decide +kernel
theorem d_Md_neighbour_16 : decode b_Md_neighbour 16 = .ok (.ifCond .ne 9, 3) := by decide +kernel
theorem d_Md_neighbour_19 : decode b_Md_neighbour 19 = .ok (.aload_n 0, 1) := by decide +kernel
theorem d_Md_neighbour_20 : decode b_Md_neighbour 20 = .ok (.iconst 1, 1) := by decide +kernel
theorem d_Md_neighbour_21 : decode b_Md_neighbour 21 = .ok (.invokevirtual 109, 3) := by decide +kernel
theorem d_Md_neighbour_24 : decode b_Md_neighbour 24 = .ok (.ireturn, 1) := by decide +kernel
theorem d_Md_neighbour_25 : decode b_Md_neighbour 25 = .ok (.aload_n 0, 1) := by decide +kernel
theorem d_Md_neighbour_26 : decode b_Md_neighbour 26 = .ok (.iload_n 1, 1) := by decide +kernel
theorem d_Md_neighbour_27 : decode b_Md_neighbour 27 = .ok (.invokevirtual 205, 3) := by decide +kernel
theorem d_Md_neighbour_30 : decode b_Md_neighbour 30 = .ok (.iload_n 2, 1) := by decide +kernel
theorem d_Md_neighbour_31 : decode b_Md_neighbour 31 = .ok (.iconst 0, 1) := by decide +kernel
theorem d_Md_neighbour_32 : decode b_Md_neighbour 32 = .ok (.aload_n 0, 1) := by decide +kernel
theorem d_Md_neighbour_33 : decode b_Md_neighbour 33 = .ok (.getfield 196, 3) := by decide +kernel
theorem d_Md_neighbour_36 : decode b_Md_neighbour 36 = .ok (.iconst 1, 1) := by decide +kernel
theorem d_Md_neighbour_37 : decode b_Md_neighbour 37 = .ok (.isub, 1) := by decide +kernel
theorem d_Md_neighbour_38 : decode b_Md_neighbour 38 = .ok (.invokestatic 52, 3) := by decide +kernel
theorem d_Md_neighbour_41 : decode b_Md_neighbour 41 = .ok (.ifCond .eq 12, 3) := by decide +kernel
theorem d_Md_neighbour_44 : decode b_Md_neighbour 44 = .ok (.aload_n 0, 1) := by decide +kernel
theorem d_Md_neighbour_45 : decode b_Md_neighbour 45 = .ok (.getfield 37, 3) := by decide +kernel
theorem d_Md_neighbour_48 : decode b_Md_neighbour 48 = .ok (.iload_n 2, 1) := by decide +kernel
theorem d_Md_neighbour_49 : decode b_Md_neighbour 49 = .ok (.iaload, 1) := by decide +kernel
theorem d_Md_neighbour_50 : decode b_Md_neighbour 50 = .ok (.goto 8, 3) := by decide +kernel
theorem d_Md_neighbour_53 : decode b_Md_neighbour 53 = .ok (.aload_n 0, 1) := by decide +kernel
theorem d_Md_neighbour_54 : decode b_Md_neighbour 54 = .ok (.iconst 1, 1) := by decide +kernel
theorem d_Md_neighbour_55 : decode b_Md_neighbour 55 = .ok (.invokevirtual 109, 3) := by decide +kernel
theorem d_Md_neighbour_58 : decode b_Md_neighbour 58 = .ok (.ireturn, 1) := by decide +kernel
theorem d_Md_found_0 : decode b_Md_found 0 = .ok (.aload_n 0, 1) := by decide +kernel
theorem d_Md_found_1 : decode b_Md_found 1 = .ok (.getfield 40, 3) := by decide +kernel
theorem d_Md_found_4 : decode b_Md_found 4 = .ok (.iconst 0, 1) := by decide +kernel
theorem d_Md_found_5 : decode b_Md_found 5 = .ok (.iload_n 2, 1) := by decide +kernel
theorem d_Md_found_6 : decode b_Md_found 6 = .ok (.iastore, 1) := by decide +kernel
theorem d_Md_found_7 : decode b_Md_found 7 = .ok (.aload_n 0, 1) := by decide +kernel
theorem d_Md_found_8 : decode b_Md_found 8 = .ok (.getfield 40, 3) := by decide +kernel
theorem d_Md_found_11 : decode b_Md_found 11 = .ok (.iconst 1, 1) := by decide +kernel
theorem d_Md_found_12 : decode b_Md_found 12 = .ok (.iload_n 3, 1) := by decide +kernel
theorem d_Md_found_13 : decode b_Md_found 13 = .ok (.iastore, 1) := by decide +kernel
theorem d_Md_found_14 : decode b_Md_found 14 = .ok (.aload_n 0, 1) := by decide +kernel
theorem d_Md_found_15 : decode b_Md_found 15 = .ok (.getfield 40, 3) := by decide +kernel
theorem d_Md_found_18 : decode b_Md_found 18 = .ok (.iconst 2, 1) := by decide +kernel
theorem d_Md_found_19 : decode b_Md_found 19 = .ok (.iload 4, 2) := by decide +kernel
theorem d_Md_found_21 : decode b_Md_found 21 = .ok (.iastore, 1) := by decide +kernel
theorem d_Md_found_22 : decode b_Md_found 22 = .ok (.iload_n 1, 1) := by decide +kernel
theorem d_Md_found_23 : decode b_Md_found 23 = .ok (.ireturn, 1) := by decide +kernel
theorem d_Md_locate_0 : decode b_Md_locate 0 = .ok (.aload_n 0, 1) := by decide +kernel
theorem d_Md_locate_1 : decode b_Md_locate 1 = .ok (.iconst 0, 1) := by decide +kernel
theorem d_Md_locate_2 : decode b_Md_locate 2 = .ok (.putfield 47, 3) := by decide +kernel
theorem d_Md_locate_5 : decode b_Md_locate 5 = .ok (.iload_n 1, 1) := by decide +kernel
theorem d_Md_locate_6 : decode b_Md_locate 6 = .ok (.iload_n 2, 1) := by decide +kernel
theorem d_Md_locate_7 : decode b_Md_locate 7 = .ok (.invokestatic 105, 3) := by decide +kernel
theorem d_Md_locate_10 : decode b_Md_locate 10 = .ok (.ifCond .eq 9, 3) := by decide +kernel
theorem d_Md_locate_13 : decode b_Md_locate 13 = .ok (.aload_n 0, 1) := by decide +kernel
theorem d_Md_locate_14 : decode b_Md_locate 14 = .ok (.iconst 1, 1) := by decide +kernel
theorem d_Md_locate_15 : decode b_Md_locate 15 = .ok (.invokevirtual 109, 3) := by decide +kernel
theorem d_Md_locate_18 : decode b_Md_locate 18 = .ok (.ireturn, 1) := by decide +kernel
theorem d_Md_locate_19 : decode b_Md_locate 19 = .ok (.aload_n 0, 1) := by decide +kernel
theorem d_Md_locate_20 : decode b_Md_locate 20 = .ok (.invokevirtual 186, 3) := by decide +kernel
theorem d_Md_locate_23 : decode b_Md_locate 23 = .ok (.aload_n 0, 1) := by decide +kernel
theorem d_Md_locate_24 : decode b_Md_locate 24 = .ok (.iload_n 1, 1) := by decide +kernel
theorem d_Md_locate_25 : decode b_Md_locate 25 = .ok (.iload_n 2, 1) := by decide +kernel
theorem d_Md_locate_26 : decode b_Md_locate 26 = .ok (.invokevirtual 113, 3) := by decide +kernel
theorem d_Md_locate_29 : decode b_Md_locate 29 = .ok (.istore_n 3, 1) := by decide +kernel
theorem d_Md_locate_30 : decode b_Md_locate 30 = .ok (.iload_n 3, 1) := by decide +kernel
theorem d_Md_locate_31 : decode b_Md_locate 31 = .ok (.ifCond .lt 12, 3) := by decide +kernel
theorem d_Md_locate_34 : decode b_Md_locate 34 = .ok (.aload_n 0, 1) := by decide +kernel
theorem d_Md_locate_35 : decode b_Md_locate 35 = .ok (.iconst 3, 1) := by decide +kernel
theorem d_Md_locate_36 : decode b_Md_locate 36 = .ok (.iload_n 3, 1) := by decide +kernel
theorem d_Md_locate_37 : decode b_Md_locate 37 = .ok (.iconst (-1), 1) := by decide +kernel
theorem d_Md_locate_38 : decode b_Md_locate 38 = .ok (.iconst (-1), 1) := by decide +kernel
theorem d_Md_locate_39 : decode b_Md_locate 39 = .ok (.invokevirtual 208, 3) := by decide +kernel
theorem d_Md_locate_42 : decode b_Md_locate 42 = .ok (.ireturn, 1) := by decide +kernel
theorem d_Md_locate_43 : decode b_Md_locate 43 = .ok (.iconst 0, 1) := by decide +kernel
theorem d_Md_locate_44 : decode b_Md_locate 44 = .ok (.istore 4, 2) := by decide +kernel
theorem d_Md_locate_46 : decode b_Md_locate 46 = .ok (.iload 4, 2) := by decide +kernel
theorem d_Md_locate_48 : decode b_Md_locate 48 = .ok (.aload_n 0, 1) := by decide +kernel
theorem d_Md_locate_49 : decode b_Md_locate 49 = .ok (.getfield 98, 3) := by decide +kernel
theorem d_Md_locate_52 : decode b_Md_locate 52 = .ok (.if_icmp .ge 65, 3) := by decide +kernel
theorem d_Md_locate_55 : decode b_Md_locate 55 = .ok (.iload 4, 2) := by decide +kernel
theorem d_Md_locate_57 : decode b_Md_locate 57 = .ok (.iconst 1, 1) := by decide +kernel
theorem d_Md_locate_58 : decode b_Md_locate 58 = .ok (.iadd, 1) := by decide +kernel
theorem d_Md_locate_59 : decode b_Md_locate 59 = .ok (.istore 5, 2) := by decide +kernel
theorem d_Md_locate_61 : decode b_Md_locate 61 = .ok (.iload 5, 2) := by decide +kernel
theorem d_Md_locate_63 : decode b_Md_locate 63 = .ok (.aload_n 0, 1) := by decide +kernel
theorem d_Md_locate_64 : decode b_Md_locate 64 = .ok (.getfield 98, 3) := by decide +kernel
theorem d_Md_locate_67 : decode b_Md_locate 67 = .ok (.if_icmp .ge 44, 3) := by decide +kernel
theorem d_Md_locate_70 : decode b_Md_locate 70 = .ok (.aload_n 0, 1) := by decide +kernel
theorem d_Md_locate_71 : decode b_Md_locate 71 = .ok (.iload_n 1, 1) := by decide +kernel
theorem d_Md_locate_72 : decode b_Md_locate 72 = .ok (.iload_n 2, 1) := by decide +kernel
theorem d_Md_locate_73 : decode b_Md_locate 73 = .ok (.iload 4, 2) := by decide +kernel
theorem d_Md_locate_75 : decode b_Md_locate 75 = .ok (.iload 5, 2) := by decide +kernel
theorem d_Md_locate_77 : decode b_Md_locate 77 = .ok (.invokevirtual 189, 3) := by decide +kernel
theorem d_Md_locate_80 : decode b_Md_locate 80 = .ok (.ifCond .eq 25, 3) := by decide +kernel
theorem d_Md_locate_83 : decode b_Md_locate 83 = .ok (.aload_n 0, 1) := by decide +kernel
theorem d_Md_locate_84 : decode b_Md_locate 84 = .ok (.iload 4, 2) := by decide +kernel
theorem d_Md_locate_86 : decode b_Md_locate 86 = .ok (.iload 5, 2) := by decide +kernel
theorem d_Md_locate_88 : decode b_Md_locate 88 = .ok (.invokevirtual 199, 3) := by decide +kernel
theorem d_Md_locate_91 : decode b_Md_locate 91 = .ok (.ifCond .eq 14, 3) := by decide +kernel
theorem d_Md_locate_94 : decode b_Md_locate 94 = .ok (.aload_n 0, 1) := by decide +kernel
theorem d_Md_locate_95 : decode b_Md_locate 95 = .ok (.iconst 2, 1) := by decide +kernel
theorem d_Md_locate_96 : decode b_Md_locate 96 = .ok (.iload 4, 2) := by decide +kernel
theorem d_Md_locate_98 : decode b_Md_locate 98 = .ok (.iload 5, 2) := by decide +kernel
theorem d_Md_locate_100 : decode b_Md_locate 100 = .ok (.iconst (-1), 1) := by decide +kernel
theorem d_Md_locate_101 : decode b_Md_locate 101 = .ok (.invokevirtual 208, 3) := by decide +kernel
theorem d_Md_locate_104 : decode b_Md_locate 104 = .ok (.ireturn, 1) := by decide +kernel
theorem d_Md_locate_105 : decode b_Md_locate 105 = .ok (.iinc 5 1, 3) := by decide +kernel
theorem d_Md_locate_108 : decode b_Md_locate 108 = .ok (.goto (-47), 3) := by decide +kernel
theorem d_Md_locate_111 : decode b_Md_locate 111 = .ok (.iinc 4 1, 3) := by decide +kernel
theorem d_Md_locate_114 : decode b_Md_locate 114 = .ok (.goto (-68), 3) := by decide +kernel
theorem d_Md_locate_117 : decode b_Md_locate 117 = .ok (.iconst 0, 1) := by decide +kernel
theorem d_Md_locate_118 : decode b_Md_locate 118 = .ok (.istore 4, 2) := by decide +kernel
theorem d_Md_locate_120 : decode b_Md_locate 120 = .ok (.iload 4, 2) := by decide +kernel
theorem d_Md_locate_122 : decode b_Md_locate 122 = .ok (.aload_n 0, 1) := by decide +kernel
theorem d_Md_locate_123 : decode b_Md_locate 123 = .ok (.getfield 153, 3) := by decide +kernel
theorem d_Md_locate_126 : decode b_Md_locate 126 = .ok (.if_icmp .ge 117, 3) := by decide +kernel
theorem d_Md_locate_129 : decode b_Md_locate 129 = .ok (.aload_n 0, 1) := by decide +kernel
theorem d_Md_locate_130 : decode b_Md_locate 130 = .ok (.aload_n 0, 1) := by decide +kernel
theorem d_Md_locate_131 : decode b_Md_locate 131 = .ok (.getfield 16, 3) := by decide +kernel
theorem d_Md_locate_134 : decode b_Md_locate 134 = .ok (.iload 4, 2) := by decide +kernel
theorem d_Md_locate_136 : decode b_Md_locate 136 = .ok (.iaload, 1) := by decide +kernel
theorem d_Md_locate_137 : decode b_Md_locate 137 = .ok (.aload_n 0, 1) := by decide +kernel
theorem d_Md_locate_138 : decode b_Md_locate 138 = .ok (.getfield 19, 3) := by decide +kernel
theorem d_Md_locate_141 : decode b_Md_locate 141 = .ok (.iload 4, 2) := by decide +kernel
theorem d_Md_locate_143 : decode b_Md_locate 143 = .ok (.iaload, 1) := by decide +kernel
theorem d_Md_locate_144 : decode b_Md_locate 144 = .ok (.iload_n 1, 1) := by decide +kernel
theorem d_Md_locate_145 : decode b_Md_locate 145 = .ok (.iload_n 2, 1) := by decide +kernel
theorem d_Md_locate_146 : decode b_Md_locate 146 = .ok (.invokevirtual 64, 3) := by decide +kernel
theorem d_Md_locate_149 : decode b_Md_locate 149 = .ok (.ifCond .le 53, 3) := by decide +kernel
theorem d_Md_locate_152 : decode b_Md_locate 152 = .ok (.aload_n 0, 1) := by decide +kernel
theorem d_Md_locate_153 : decode b_Md_locate 153 = .ok (.aload_n 0, 1) := by decide +kernel
theorem d_Md_locate_154 : decode b_Md_locate 154 = .ok (.getfield 19, 3) := by decide +kernel
theorem d_Md_locate_157 : decode b_Md_locate 157 = .ok (.iload 4, 2) := by decide +kernel
theorem d_Md_locate_159 : decode b_Md_locate 159 = .ok (.iaload, 1) := by decide +kernel
theorem d_Md_locate_160 : decode b_Md_locate 160 = .ok (.aload_n 0, 1) := by decide +kernel
theorem d_Md_locate_161 : decode b_Md_locate 161 = .ok (.getfield 22, 3) := by decide +kernel
theorem d_Md_locate_164 : decode b_Md_locate 164 = .ok (.iload 4, 2) := by decide +kernel
theorem d_Md_locate_166 : decode b_Md_locate 166 = .ok (.iaload, 1) := by decide +kernel
theorem d_Md_locate_167 : decode b_Md_locate 167 = .ok (.iload_n 1, 1) := by decide +kernel
theorem d_Md_locate_168 : decode b_Md_locate 168 = .ok (.iload_n 2, 1) := by decide +kernel
theorem d_Md_locate_169 : decode b_Md_locate 169 = .ok (.invokevirtual 64, 3) := by decide +kernel
theorem d_Md_locate_172 : decode b_Md_locate 172 = .ok (.ifCond .le 30, 3) := by decide +kernel
theorem d_Md_locate_175 : decode b_Md_locate 175 = .ok (.aload_n 0, 1) := by decide +kernel
theorem d_Md_locate_176 : decode b_Md_locate 176 = .ok (.aload_n 0, 1) := by decide +kernel
theorem d_Md_locate_177 : decode b_Md_locate 177 = .ok (.getfield 22, 3) := by decide +kernel
theorem d_Md_locate_180 : decode b_Md_locate 180 = .ok (.iload 4, 2) := by decide +kernel
theorem d_Md_locate_182 : decode b_Md_locate 182 = .ok (.iaload, 1) := by decide +kernel
theorem d_Md_locate_183 : decode b_Md_locate 183 = .ok (.aload_n 0, 1) := by decide +kernel
theorem d_Md_locate_184 : decode b_Md_locate 184 = .ok (.getfield 16, 3) := by decide +kernel
theorem d_Md_locate_187 : decode b_Md_locate 187 = .ok (.iload 4, 2) := by decide +kernel
theorem d_Md_locate_189 : decode b_Md_locate 189 = .ok (.iaload, 1) := by decide +kernel
theorem d_Md_locate_190 : decode b_Md_locate 190 = .ok (.iload_n 1, 1) := by decide +kernel
theorem d_Md_locate_191 : decode b_Md_locate 191 = .ok (.iload_n 2, 1) := by decide +kernel
theorem d_Md_locate_192 : decode b_Md_locate 192 = .ok (.invokevirtual 64, 3) := by decide +kernel
theorem d_Md_locate_195 : decode b_Md_locate 195 = .ok (.ifCond .le 7, 3) := by decide +kernel
theorem d_Md_locate_198 : decode b_Md_locate 198 = .ok (.iconst 1, 1) := by decide +kernel
theorem d_Md_locate_199 : decode b_Md_locate 199 = .ok (.goto 4, 3) := by decide +kernel
theorem d_Md_locate_202 : decode b_Md_locate 202 = .ok (.iconst 0, 1) := by decide +kernel
theorem d_Md_locate_203 : decode b_Md_locate 203 = .ok (.istore 5, 2) := by decide +kernel
theorem d_Md_locate_205 : decode b_Md_locate 205 = .ok (.iload 5, 2) := by decide +kernel
theorem d_Md_locate_207 : decode b_Md_locate 207 = .ok (.ifCond .eq 30, 3) := by decide +kernel
theorem d_Md_locate_210 : decode b_Md_locate 210 = .ok (.aload_n 0, 1) := by decide +kernel
theorem d_Md_locate_211 : decode b_Md_locate 211 = .ok (.iconst 1, 1) := by decide +kernel
theorem d_Md_locate_212 : decode b_Md_locate 212 = .ok (.aload_n 0, 1) := by decide +kernel
theorem d_Md_locate_213 : decode b_Md_locate 213 = .ok (.getfield 16, 3) := by decide +kernel
theorem d_Md_locate_216 : decode b_Md_locate 216 = .ok (.iload 4, 2) := by decide +kernel
theorem d_Md_locate_218 : decode b_Md_locate 218 = .ok (.iaload, 1) := by decide +kernel
theorem d_Md_locate_219 : decode b_Md_locate 219 = .ok (.aload_n 0, 1) := by decide +kernel
theorem d_Md_locate_220 : decode b_Md_locate 220 = .ok (.getfield 19, 3) := by decide +kernel
theorem d_Md_locate_223 : decode b_Md_locate 223 = .ok (.iload 4, 2) := by decide +kernel
theorem d_Md_locate_225 : decode b_Md_locate 225 = .ok (.iaload, 1) := by decide +kernel
theorem d_Md_locate_226 : decode b_Md_locate 226 = .ok (.aload_n 0, 1) := by decide +kernel
theorem d_Md_locate_227 : decode b_Md_locate 227 = .ok (.getfield 22, 3) := by decide +kernel
theorem d_Md_locate_230 : decode b_Md_locate 230 = .ok (.iload 4, 2) := by decide +kernel
theorem d_Md_locate_232 : decode b_Md_locate 232 = .ok (.iaload, 1) := by decide +kernel
theorem d_Md_locate_233 : decode b_Md_locate 233 = .ok (.invokevirtual 208, 3) := by decide +kernel
theorem d_Md_locate_236 : decode b_Md_locate 236 = .ok (.ireturn, 1) := by decide +kernel
theorem d_Md_locate_237 : decode b_Md_locate 237 = .ok (.iinc 4 1, 3) := by decide +kernel
theorem d_Md_locate_240 : decode b_Md_locate 240 = .ok (.goto (-120), 3) := by decide +kernel
theorem d_Md_locate_243 : decode b_Md_locate 243 = .ok (.aload_n 0, 1) := by decide +kernel
theorem d_Md_locate_244 : decode b_Md_locate 244 = .ok (.iconst 0, 1) := by decide +kernel
theorem d_Md_locate_245 : decode b_Md_locate 245 = .ok (.iconst (-1), 1) := by decide +kernel
theorem d_Md_locate_246 : decode b_Md_locate 246 = .ok (.iconst (-1), 1) := by decide +kernel
theorem d_Md_locate_247 : decode b_Md_locate 247 = .ok (.iconst (-1), 1) := by decide +kernel
theorem d_Md_locate_248 : decode b_Md_locate 248 = .ok (.invokevirtual 208, 3) := by decide +kernel
theorem d_Md_locate_251 : decode b_Md_locate 251 = .ok (.ireturn, 1) := by decide +kernel
theorem d_Md_located_0 : decode b_Md_located 0 = .ok (.aload_n 0, 1) := by decide +kernel
theorem d_Md_located_1 : decode b_Md_located 1 = .ok (.iconst 0, 1) := by decide +kernel
theorem d_Md_located_2 : decode b_Md_located 2 = .ok (.putfield 47, 3) := by decide +kernel
theorem d_Md_located_5 : decode b_Md_located 5 = .ok (.iload_n 1, 1) := by decide +kernel
theorem d_Md_located_6 : decode b_Md_located 6 = .ok (.iconst 0, 1) := by decide +kernel
theorem d_Md_located_7 : decode b_Md_located 7 = .ok (.iconst 2, 1) := by decide +kernel
theorem d_Md_located_8 : decode b_Md_located 8 = .ok (.invokestatic 52, 3) := by decide +kernel
theorem d_Md_located_11 : decode b_Md_located 11 = .ok (.ifCond .eq 12, 3) := by decide +kernel
theorem d_Md_located_14 : decode b_Md_located 14 = .ok (.aload_n 0, 1) := by decide +kernel
theorem d_Md_located_15 : decode b_Md_located 15 = .ok (.getfield 40, 3) := by decide +kernel
theorem d_Md_located_18 : decode b_Md_located 18 = .ok (.iload_n 1, 1) := by decide +kernel
theorem d_Md_located_19 : decode b_Md_located 19 = .ok (.iaload, 1) := by decide +kernel
theorem d_Md_located_20 : decode b_Md_located 20 = .ok (.goto 4, 3) := by decide +kernel
theorem d_Md_located_23 : decode b_Md_located 23 = .ok (.iconst (-1), 1) := by decide +kernel
theorem d_Md_located_24 : decode b_Md_located 24 = .ok (.ireturn, 1) := by decide +kernel
theorem d_Md_nearest_0 : decode b_Md_nearest 0 = .ok (.aload_n 0, 1) := by decide +kernel
theorem d_Md_nearest_1 : decode b_Md_nearest 1 = .ok (.iconst 0, 1) := by decide +kernel
theorem d_Md_nearest_2 : decode b_Md_nearest 2 = .ok (.putfield 47, 3) := by decide +kernel
theorem d_Md_nearest_5 : decode b_Md_nearest 5 = .ok (.iload_n 1, 1) := by decide +kernel
theorem d_Md_nearest_6 : decode b_Md_nearest 6 = .ok (.iload_n 2, 1) := by decide +kernel
theorem d_Md_nearest_7 : decode b_Md_nearest 7 = .ok (.invokestatic 105, 3) := by decide +kernel
theorem d_Md_nearest_10 : decode b_Md_nearest 10 = .ok (.ifCond .eq 9, 3) := by decide +kernel
theorem d_Md_nearest_13 : decode b_Md_nearest 13 = .ok (.aload_n 0, 1) := by decide +kernel
theorem d_Md_nearest_14 : decode b_Md_nearest 14 = .ok (.iconst 1, 1) := by decide +kernel
theorem d_Md_nearest_15 : decode b_Md_nearest 15 = .ok (.invokevirtual 109, 3) := by decide +kernel
theorem d_Md_nearest_18 : decode b_Md_nearest 18 = .ok (.ireturn, 1) := by decide +kernel
theorem d_Md_nearest_19 : decode b_Md_nearest 19 = .ok (.aload_n 0, 1) := by decide +kernel
theorem d_Md_nearest_20 : decode b_Md_nearest 20 = .ok (.getfield 98, 3) := by decide +kernel
theorem d_Md_nearest_23 : decode b_Md_nearest 23 = .ok (.ifCond .ne 9, 3) := by decide +kernel
theorem d_Md_nearest_26 : decode b_Md_nearest 26 = .ok (.aload_n 0, 1) := by decide +kernel
theorem d_Md_nearest_27 : decode b_Md_nearest 27 = .ok (.iconst 2, 1) := by decide +kernel
theorem d_Md_nearest_28 : decode b_Md_nearest 28 = .ok (.invokevirtual 109, 3) := by decide +kernel
theorem d_Md_nearest_31 : decode b_Md_nearest 31 = .ok (.ireturn, 1) := by decide +kernel
theorem d_Md_nearest_32 : decode b_Md_nearest 32 = .ok (.iconst 0, 1) := by decide +kernel
theorem d_Md_nearest_33 : decode b_Md_nearest 33 = .ok (.istore_n 3, 1) := by decide +kernel
theorem d_Md_nearest_34 : decode b_Md_nearest 34 = .ok (.iconst 1, 1) := by decide +kernel
theorem d_Md_nearest_35 : decode b_Md_nearest 35 = .ok (.istore 4, 2) := by decide +kernel
theorem d_Md_nearest_37 : decode b_Md_nearest 37 = .ok (.iload 4, 2) := by decide +kernel
theorem d_Md_nearest_39 : decode b_Md_nearest 39 = .ok (.aload_n 0, 1) := by decide +kernel
theorem d_Md_nearest_40 : decode b_Md_nearest 40 = .ok (.getfield 98, 3) := by decide +kernel
theorem d_Md_nearest_43 : decode b_Md_nearest 43 = .ok (.if_icmp .ge 35, 3) := by decide +kernel
theorem d_Md_nearest_46 : decode b_Md_nearest 46 = .ok (.aload_n 0, 1) := by decide +kernel
theorem d_Md_nearest_47 : decode b_Md_nearest 47 = .ok (.iload 4, 2) := by decide +kernel
theorem d_Md_nearest_49 : decode b_Md_nearest 49 = .ok (.iload_n 1, 1) := by decide +kernel
theorem d_Md_nearest_50 : decode b_Md_nearest 50 = .ok (.iload_n 2, 1) := by decide +kernel
theorem d_Md_nearest_51 : decode b_Md_nearest 51 = .ok (.invokevirtual 127, 3) := by decide +kernel
theorem d_Md_nearest_54 : decode b_Md_nearest 54 = .ok (.aload_n 0, 1) := by decide +kernel
theorem d_Md_nearest_55 : decode b_Md_nearest 55 = .ok (.iload_n 3, 1) := by decide +kernel
theorem d_Md_nearest_56 : decode b_Md_nearest 56 = .ok (.iload_n 1, 1) := by decide +kernel
theorem d_Md_nearest_57 : decode b_Md_nearest 57 = .ok (.iload_n 2, 1) := by decide +kernel
theorem d_Md_nearest_58 : decode b_Md_nearest 58 = .ok (.invokevirtual 127, 3) := by decide +kernel
theorem d_Md_nearest_61 : decode b_Md_nearest 61 = .ok (.lcmp, 1) := by decide +kernel
theorem d_Md_nearest_62 : decode b_Md_nearest 62 = .ok (.ifCond .ge 8, 3) := by decide +kernel
theorem d_Md_nearest_65 : decode b_Md_nearest 65 = .ok (.iload 4, 2) := by decide +kernel
theorem d_Md_nearest_67 : decode b_Md_nearest 67 = .ok (.goto 4, 3) := by decide +kernel
theorem d_Md_nearest_70 : decode b_Md_nearest 70 = .ok (.iload_n 3, 1) := by decide +kernel
theorem d_Md_nearest_71 : decode b_Md_nearest 71 = .ok (.istore_n 3, 1) := by decide +kernel
theorem d_Md_nearest_72 : decode b_Md_nearest 72 = .ok (.iinc 4 1, 3) := by decide +kernel
theorem d_Md_nearest_75 : decode b_Md_nearest 75 = .ok (.goto (-38), 3) := by decide +kernel
theorem d_Md_nearest_78 : decode b_Md_nearest 78 = .ok (.iload_n 3, 1) := by decide +kernel
theorem d_Md_nearest_79 : decode b_Md_nearest 79 = .ok (.ireturn, 1) := by decide +kernel
theorem d_Md_closest_0 : decode b_Md_closest 0 = .ok (.aload_n 0, 1) := by decide +kernel
theorem d_Md_closest_1 : decode b_Md_closest 1 = .ok (.iconst 0, 1) := by decide +kernel
theorem d_Md_closest_2 : decode b_Md_closest 2 = .ok (.putfield 47, 3) := by decide +kernel
theorem d_Md_closest_5 : decode b_Md_closest 5 = .ok (.iload_n 1, 1) := by decide +kernel
theorem d_Md_closest_6 : decode b_Md_closest 6 = .ok (.iconst 0, 1) := by decide +kernel
theorem d_Md_closest_7 : decode b_Md_closest 7 = .ok (.iconst 2, 1) := by decide +kernel
theorem d_Md_closest_8 : decode b_Md_closest 8 = .ok (.invokestatic 52, 3) := by decide +kernel
theorem d_Md_closest_11 : decode b_Md_closest 11 = .ok (.ifCond .ne 10, 3) := by decide +kernel
theorem d_Md_closest_14 : decode b_Md_closest 14 = .ok (.aload_n 0, 1) := by decide +kernel
theorem d_Md_closest_15 : decode b_Md_closest 15 = .ok (.iconst 1, 1) := by decide +kernel
theorem d_Md_closest_16 : decode b_Md_closest 16 = .ok (.invokevirtual 109, 3) := by decide +kernel
theorem d_Md_closest_19 : decode b_Md_closest 19 = .ok (.i2l, 1) := by decide +kernel
theorem d_Md_closest_20 : decode b_Md_closest 20 = .ok (.lreturn, 1) := by decide +kernel
theorem d_Md_closest_21 : decode b_Md_closest 21 = .ok (.aload_n 0, 1) := by decide +kernel
theorem d_Md_closest_22 : decode b_Md_closest 22 = .ok (.getfield 98, 3) := by decide +kernel
theorem d_Md_closest_25 : decode b_Md_closest 25 = .ok (.iconst 2, 1) := by decide +kernel
theorem d_Md_closest_26 : decode b_Md_closest 26 = .ok (.if_icmp .ge 10, 3) := by decide +kernel
theorem d_Md_closest_29 : decode b_Md_closest 29 = .ok (.aload_n 0, 1) := by decide +kernel
theorem d_Md_closest_30 : decode b_Md_closest 30 = .ok (.iconst 2, 1) := by decide +kernel
theorem d_Md_closest_31 : decode b_Md_closest 31 = .ok (.invokevirtual 109, 3) := by decide +kernel
theorem d_Md_closest_34 : decode b_Md_closest 34 = .ok (.i2l, 1) := by decide +kernel
theorem d_Md_closest_35 : decode b_Md_closest 35 = .ok (.lreturn, 1) := by decide +kernel
theorem d_Md_closest_36 : decode b_Md_closest 36 = .ok (.iconst 0, 1) := by decide +kernel
theorem d_Md_closest_37 : decode b_Md_closest 37 = .ok (.istore_n 2, 1) := by decide +kernel
theorem d_Md_closest_38 : decode b_Md_closest 38 = .ok (.iconst 1, 1) := by decide +kernel
theorem d_Md_closest_39 : decode b_Md_closest 39 = .ok (.istore_n 3, 1) := by decide +kernel
theorem d_Md_closest_40 : decode b_Md_closest 40 = .ok (.iconst 0, 1) := by decide +kernel
theorem d_Md_closest_41 : decode b_Md_closest 41 = .ok (.istore 4, 2) := by decide +kernel
theorem d_Md_closest_43 : decode b_Md_closest 43 = .ok (.iload 4, 2) := by decide +kernel
theorem d_Md_closest_45 : decode b_Md_closest 45 = .ok (.aload_n 0, 1) := by decide +kernel
theorem d_Md_closest_46 : decode b_Md_closest 46 = .ok (.getfield 98, 3) := by decide +kernel
theorem d_Md_closest_49 : decode b_Md_closest 49 = .ok (.if_icmp .ge 77, 3) := by decide +kernel
theorem d_Md_closest_52 : decode b_Md_closest 52 = .ok (.iload 4, 2) := by decide +kernel
theorem d_Md_closest_54 : decode b_Md_closest 54 = .ok (.iconst 1, 1) := by decide +kernel
theorem d_Md_closest_55 : decode b_Md_closest 55 = .ok (.iadd, 1) := by decide +kernel
theorem d_Md_closest_56 : decode b_Md_closest 56 = .ok (.istore 5, 2) := by decide +kernel
theorem d_Md_closest_58 : decode b_Md_closest 58 = .ok (.iload 5, 2) := by decide +kernel
theorem d_Md_closest_60 : decode b_Md_closest 60 = .ok (.aload_n 0, 1) := by decide +kernel
theorem d_Md_closest_61 : decode b_Md_closest 61 = .ok (.getfield 98, 3) := by decide +kernel
theorem d_Md_closest_64 : decode b_Md_closest 64 = .ok (.if_icmp .ge 56, 3) := by decide +kernel
theorem d_Md_closest_67 : decode b_Md_closest 67 = .ok (.aload_n 0, 1) := by decide +kernel
theorem d_Md_closest_68 : decode b_Md_closest 68 = .ok (.iload 4, 2) := by decide +kernel
theorem d_Md_closest_70 : decode b_Md_closest 70 = .ok (.aload_n 0, 1) := by decide +kernel
theorem d_Md_closest_71 : decode b_Md_closest 71 = .ok (.getfield 7, 3) := by decide +kernel
theorem d_Md_closest_74 : decode b_Md_closest 74 = .ok (.iload 5, 2) := by decide +kernel
theorem d_Md_closest_76 : decode b_Md_closest 76 = .ok (.iaload, 1) := by decide +kernel
theorem d_Md_closest_77 : decode b_Md_closest 77 = .ok (.aload_n 0, 1) := by decide +kernel
theorem d_Md_closest_78 : decode b_Md_closest 78 = .ok (.getfield 13, 3) := by decide +kernel
theorem d_Md_closest_81 : decode b_Md_closest 81 = .ok (.iload 5, 2) := by decide +kernel
theorem d_Md_closest_83 : decode b_Md_closest 83 = .ok (.iaload, 1) := by decide +kernel
theorem d_Md_closest_84 : decode b_Md_closest 84 = .ok (.invokevirtual 127, 3) := by decide +kernel
theorem d_Md_closest_87 : decode b_Md_closest 87 = .ok (.aload_n 0, 1) := by decide +kernel
theorem d_Md_closest_88 : decode b_Md_closest 88 = .ok (.iload_n 2, 1) := by decide +kernel
theorem d_Md_closest_89 : decode b_Md_closest 89 = .ok (.aload_n 0, 1) := by decide +kernel
theorem d_Md_closest_90 : decode b_Md_closest 90 = .ok (.getfield 7, 3) := by decide +kernel
theorem d_Md_closest_93 : decode b_Md_closest 93 = .ok (.iload_n 3, 1) := by decide +kernel
theorem d_Md_closest_94 : decode b_Md_closest 94 = .ok (.iaload, 1) := by decide +kernel
theorem d_Md_closest_95 : decode b_Md_closest 95 = .ok (.aload_n 0, 1) := by decide +kernel
theorem d_Md_closest_96 : decode b_Md_closest 96 = .ok (.getfield 13, 3) := by decide +kernel
theorem d_Md_closest_99 : decode b_Md_closest 99 = .ok (.iload_n 3, 1) := by decide +kernel
theorem d_Md_closest_100 : decode b_Md_closest 100 = .ok (.iaload, 1) := by decide +kernel
theorem d_Md_closest_101 : decode b_Md_closest 101 = .ok (.invokevirtual 127, 3) := by decide +kernel
theorem d_Md_closest_104 : decode b_Md_closest 104 = .ok (.lcmp, 1) := by decide +kernel
theorem d_Md_closest_105 : decode b_Md_closest 105 = .ok (.ifCond .ge 9, 3) := by decide +kernel
theorem d_Md_closest_108 : decode b_Md_closest 108 = .ok (.iload 4, 2) := by decide +kernel
theorem d_Md_closest_110 : decode b_Md_closest 110 = .ok (.istore_n 2, 1) := by decide +kernel
theorem d_Md_closest_111 : decode b_Md_closest 111 = .ok (.iload 5, 2) := by decide +kernel
theorem d_Md_closest_113 : decode b_Md_closest 113 = .ok (.istore_n 3, 1) := by decide +kernel
theorem d_Md_closest_114 : decode b_Md_closest 114 = .ok (.iinc 5 1, 3) := by decide +kernel
theorem d_Md_closest_117 : decode b_Md_closest 117 = .ok (.goto (-59), 3) := by decide +kernel
theorem d_Md_closest_120 : decode b_Md_closest 120 = .ok (.iinc 4 1, 3) := by decide +kernel
theorem d_Md_closest_123 : decode b_Md_closest 123 = .ok (.goto (-80), 3) := by decide +kernel
theorem d_Md_closest_126 : decode b_Md_closest 126 = .ok (.iload_n 1, 1) := by decide +kernel
theorem d_Md_closest_127 : decode b_Md_closest 127 = .ok (.ifCond .ne 23, 3) := by decide +kernel
theorem d_Md_closest_130 : decode b_Md_closest 130 = .ok (.aload_n 0, 1) := by decide +kernel
theorem d_Md_closest_131 : decode b_Md_closest 131 = .ok (.iload_n 2, 1) := by decide +kernel
theorem d_Md_closest_132 : decode b_Md_closest 132 = .ok (.aload_n 0, 1) := by decide +kernel
theorem d_Md_closest_133 : decode b_Md_closest 133 = .ok (.getfield 7, 3) := by decide +kernel
theorem d_Md_closest_136 : decode b_Md_closest 136 = .ok (.iload_n 3, 1) := by decide +kernel
theorem d_Md_closest_137 : decode b_Md_closest 137 = .ok (.iaload, 1) := by decide +kernel
theorem d_Md_closest_138 : decode b_Md_closest 138 = .ok (.aload_n 0, 1) := by decide +kernel
theorem d_Md_closest_139 : decode b_Md_closest 139 = .ok (.getfield 13, 3) := by decide +kernel
theorem d_Md_closest_142 : decode b_Md_closest 142 = .ok (.iload_n 3, 1) := by decide +kernel
theorem d_Md_closest_143 : decode b_Md_closest 143 = .ok (.iaload, 1) := by decide +kernel
theorem d_Md_closest_144 : decode b_Md_closest 144 = .ok (.invokevirtual 127, 3) := by decide +kernel
theorem d_Md_closest_147 : decode b_Md_closest 147 = .ok (.goto 15, 3) := by decide +kernel
theorem d_Md_closest_150 : decode b_Md_closest 150 = .ok (.iload_n 1, 1) := by decide +kernel
theorem d_Md_closest_151 : decode b_Md_closest 151 = .ok (.iconst 1, 1) := by decide +kernel
theorem d_Md_closest_152 : decode b_Md_closest 152 = .ok (.if_icmp .ne 8, 3) := by decide +kernel
theorem d_Md_closest_155 : decode b_Md_closest 155 = .ok (.iload_n 2, 1) := by decide +kernel
theorem d_Md_closest_156 : decode b_Md_closest 156 = .ok (.i2l, 1) := by decide +kernel
theorem d_Md_closest_157 : decode b_Md_closest 157 = .ok (.goto 5, 3) := by decide +kernel
theorem d_Md_closest_160 : decode b_Md_closest 160 = .ok (.iload_n 3, 1) := by decide +kernel
theorem d_Md_closest_161 : decode b_Md_closest 161 = .ok (.i2l, 1) := by decide +kernel
theorem d_Md_closest_162 : decode b_Md_closest 162 = .ok (.lreturn, 1) := by decide +kernel
theorem d_Md_point_0 : decode b_Md_point 0 = .ok (.aload_n 0, 1) := by decide +kernel
theorem d_Md_point_1 : decode b_Md_point 1 = .ok (.iconst 0, 1) := by decide +kernel
theorem d_Md_point_2 : decode b_Md_point 2 = .ok (.putfield 47, 3) := by decide +kernel
theorem d_Md_point_5 : decode b_Md_point 5 = .ok (.iload_n 1, 1) := by decide +kernel
theorem d_Md_point_6 : decode b_Md_point 6 = .ok (.iconst 0, 1) := by decide +kernel
theorem d_Md_point_7 : decode b_Md_point 7 = .ok (.aload_n 0, 1) := by decide +kernel
theorem d_Md_point_8 : decode b_Md_point 8 = .ok (.getfield 98, 3) := by decide +kernel
theorem d_Md_point_11 : decode b_Md_point 11 = .ok (.iconst 1, 1) := by decide +kernel
theorem d_Md_point_12 : decode b_Md_point 12 = .ok (.isub, 1) := by decide +kernel
theorem d_Md_point_13 : decode b_Md_point 13 = .ok (.invokestatic 52, 3) := by decide +kernel
theorem d_Md_point_16 : decode b_Md_point 16 = .ok (.ifCond .eq 34, 3) := by decide +kernel
theorem d_Md_point_19 : decode b_Md_point 19 = .ok (.iload_n 2, 1) := by decide +kernel
theorem d_Md_point_20 : decode b_Md_point 20 = .ok (.iconst 0, 1) := by decide +kernel
theorem d_Md_point_21 : decode b_Md_point 21 = .ok (.iconst 1, 1) := by decide +kernel
theorem d_Md_point_22 : decode b_Md_point 22 = .ok (.invokestatic 52, 3) := by decide +kernel
theorem d_Md_point_25 : decode b_Md_point 25 = .ok (.ifCond .eq 25, 3) := by decide +kernel
theorem d_Md_point_28 : decode b_Md_point 28 = .ok (.iload_n 2, 1) := by decide +kernel
theorem d_Md_point_29 : decode b_Md_point 29 = .ok (.ifCond .ne 12, 3) := by decide +kernel
theorem d_Md_point_32 : decode b_Md_point 32 = .ok (.aload_n 0, 1) := by decide +kernel
theorem d_Md_point_33 : decode b_Md_point 33 = .ok (.getfield 7, 3) := by decide +kernel
theorem d_Md_point_36 : decode b_Md_point 36 = .ok (.iload_n 1, 1) := by decide +kernel
theorem d_Md_point_37 : decode b_Md_point 37 = .ok (.iaload, 1) := by decide +kernel
theorem d_Md_point_38 : decode b_Md_point 38 = .ok (.goto 17, 3) := by decide +kernel
theorem d_Md_point_41 : decode b_Md_point 41 = .ok (.aload_n 0, 1) := by decide +kernel
theorem d_Md_point_42 : decode b_Md_point 42 = .ok (.getfield 13, 3) := by decide +kernel
theorem d_Md_point_45 : decode b_Md_point 45 = .ok (.iload_n 1, 1) := by decide +kernel
theorem d_Md_point_46 : decode b_Md_point 46 = .ok (.iaload, 1) := by decide +kernel
theorem d_Md_point_47 : decode b_Md_point 47 = .ok (.goto 8, 3) := by decide +kernel
theorem d_Md_point_50 : decode b_Md_point 50 = .ok (.aload_n 0, 1) := by decide +kernel
theorem d_Md_point_51 : decode b_Md_point 51 = .ok (.iconst 1, 1) := by decide +kernel
theorem d_Md_point_52 : decode b_Md_point 52 = .ok (.invokevirtual 109, 3) := by decide +kernel
theorem d_Md_point_55 : decode b_Md_point 55 = .ok (.ireturn, 1) := by decide +kernel
theorem d_Md_count_0 : decode b_Md_count 0 = .ok (.aload_n 0, 1) := by decide +kernel
theorem d_Md_count_1 : decode b_Md_count 1 = .ok (.iconst 0, 1) := by decide +kernel
theorem d_Md_count_2 : decode b_Md_count 2 = .ok (.putfield 47, 3) := by decide +kernel
theorem d_Md_count_5 : decode b_Md_count 5 = .ok (.iload_n 1, 1) := by decide +kernel
theorem d_Md_count_6 : decode b_Md_count 6 = .ok (.iconst 0, 1) := by decide +kernel
theorem d_Md_count_7 : decode b_Md_count 7 = .ok (.iconst 2, 1) := by decide +kernel
theorem d_Md_count_8 : decode b_Md_count 8 = .ok (.invokestatic 52, 3) := by decide +kernel
theorem d_Md_count_11 : decode b_Md_count 11 = .ok (.ifCond .ne 5, 3) := by decide +kernel
theorem d_Md_count_14 : decode b_Md_count 14 = .ok (.iconst (-1), 1) := by decide +kernel
theorem d_Md_count_15 : decode b_Md_count 15 = .ok (.ireturn, 1) := by decide +kernel
theorem d_Md_count_16 : decode b_Md_count 16 = .ok (.aload_n 0, 1) := by decide +kernel
theorem d_Md_count_17 : decode b_Md_count 17 = .ok (.invokevirtual 186, 3) := by decide +kernel
theorem d_Md_count_20 : decode b_Md_count 20 = .ok (.iload_n 1, 1) := by decide +kernel
theorem d_Md_count_21 : decode b_Md_count 21 = .ok (.ifCond .ne 10, 3) := by decide +kernel
theorem d_Md_count_24 : decode b_Md_count 24 = .ok (.aload_n 0, 1) := by decide +kernel
theorem d_Md_count_25 : decode b_Md_count 25 = .ok (.getfield 98, 3) := by decide +kernel
theorem d_Md_count_28 : decode b_Md_count 28 = .ok (.goto 19, 3) := by decide +kernel
theorem d_Md_count_31 : decode b_Md_count 31 = .ok (.iload_n 1, 1) := by decide +kernel
theorem d_Md_count_32 : decode b_Md_count 32 = .ok (.iconst 1, 1) := by decide +kernel
theorem d_Md_count_33 : decode b_Md_count 33 = .ok (.if_icmp .ne 10, 3) := by decide +kernel
theorem d_Md_count_36 : decode b_Md_count 36 = .ok (.aload_n 0, 1) := by decide +kernel
theorem d_Md_count_37 : decode b_Md_count 37 = .ok (.getfield 153, 3) := by decide +kernel
theorem d_Md_count_40 : decode b_Md_count 40 = .ok (.goto 7, 3) := by decide +kernel
theorem d_Md_count_43 : decode b_Md_count 43 = .ok (.aload_n 0, 1) := by decide +kernel
theorem d_Md_count_44 : decode b_Md_count 44 = .ok (.getfield 131, 3) := by decide +kernel
theorem d_Md_count_47 : decode b_Md_count 47 = .ok (.ireturn, 1) := by decide +kernel
theorem d_Pn_init_0 : decode b_Pn_init 0 = .ok (.aload_n 0, 1) := by decide +kernel
theorem d_Pn_init_1 : decode b_Pn_init 1 = .ok (.invokespecial 3, 3) := by decide +kernel
theorem d_Pn_init_4 : decode b_Pn_init 4 = .ok (.aload_n 0, 1) := by decide +kernel
theorem d_Pn_init_5 : decode b_Pn_init 5 = .ok (.new 9, 3) := by decide +kernel
theorem d_Pn_init_8 : decode b_Pn_init 8 = .ok (.dup, 1) := by decide +kernel
theorem d_Pn_init_9 : decode b_Pn_init 9 = .ok (.iconst 1, 1) := by decide +kernel
theorem d_Pn_init_10 : decode b_Pn_init 10 = .ok (.iload_n 1, 1) := by decide +kernel
theorem d_Pn_init_11 : decode b_Pn_init 11 = .ok (.sipush 1024, 3) := by decide +kernel
theorem d_Pn_init_14 : decode b_Pn_init 14 = .ok (.invokestatic 11, 3) := by decide +kernel
theorem d_Pn_init_17 : decode b_Pn_init 17 = .ok (.invokestatic 17, 3) := by decide +kernel
theorem d_Pn_init_20 : decode b_Pn_init 20 = .ok (.invokespecial 20, 3) := by decide +kernel
theorem d_Pn_init_23 : decode b_Pn_init 23 = .ok (.putfield 23, 3) := by decide +kernel
theorem d_Pn_init_26 : decode b_Pn_init 26 = .ok (.aload_n 0, 1) := by decide +kernel
theorem d_Pn_init_27 : decode b_Pn_init 27 = .ok (.new 27, 3) := by decide +kernel
theorem d_Pn_init_30 : decode b_Pn_init 30 = .ok (.dup, 1) := by decide +kernel
theorem d_Pn_init_31 : decode b_Pn_init 31 = .ok (.aload_n 0, 1) := by decide +kernel
theorem d_Pn_init_32 : decode b_Pn_init 32 = .ok (.getfield 23, 3) := by decide +kernel
theorem d_Pn_init_35 : decode b_Pn_init 35 = .ok (.invokespecial 29, 3) := by decide +kernel
theorem d_Pn_init_38 : decode b_Pn_init 38 = .ok (.putfield 32, 3) := by decide +kernel
theorem d_Pn_init_41 : decode b_Pn_init 41 = .ok (.aload_n 0, 1) := by decide +kernel
theorem d_Pn_init_42 : decode b_Pn_init 42 = .ok (.new 36, 3) := by decide +kernel
theorem d_Pn_init_45 : decode b_Pn_init 45 = .ok (.dup, 1) := by decide +kernel
theorem d_Pn_init_46 : decode b_Pn_init 46 = .ok (.aload_n 0, 1) := by decide +kernel
theorem d_Pn_init_47 : decode b_Pn_init 47 = .ok (.getfield 23, 3) := by decide +kernel
theorem d_Pn_init_50 : decode b_Pn_init 50 = .ok (.aload_n 0, 1) := by decide +kernel
theorem d_Pn_init_51 : decode b_Pn_init 51 = .ok (.getfield 32, 3) := by decide +kernel
theorem d_Pn_init_54 : decode b_Pn_init 54 = .ok (.invokespecial 38, 3) := by decide +kernel
theorem d_Pn_init_57 : decode b_Pn_init 57 = .ok (.putfield 41, 3) := by decide +kernel
theorem d_Pn_init_60 : decode b_Pn_init 60 = .ok (.aload_n 0, 1) := by decide +kernel
theorem d_Pn_init_61 : decode b_Pn_init 61 = .ok (.new 45, 3) := by decide +kernel
theorem d_Pn_init_64 : decode b_Pn_init 64 = .ok (.dup, 1) := by decide +kernel
theorem d_Pn_init_65 : decode b_Pn_init 65 = .ok (.aload_n 0, 1) := by decide +kernel
theorem d_Pn_init_66 : decode b_Pn_init 66 = .ok (.getfield 23, 3) := by decide +kernel
theorem d_Pn_init_69 : decode b_Pn_init 69 = .ok (.aload_n 0, 1) := by decide +kernel
theorem d_Pn_init_70 : decode b_Pn_init 70 = .ok (.getfield 32, 3) := by decide +kernel
theorem d_Pn_init_73 : decode b_Pn_init 73 = .ok (.invokespecial 47, 3) := by decide +kernel
theorem d_Pn_init_76 : decode b_Pn_init 76 = .ok (.putfield 48, 3) := by decide +kernel
theorem d_Pn_init_79 : decode b_Pn_init 79 = .ok (.aload_n 0, 1) := by decide +kernel
theorem d_Pn_init_80 : decode b_Pn_init 80 = .ok (.iconst 3, 1) := by decide +kernel
theorem d_Pn_init_81 : decode b_Pn_init 81 = .ok (.newarray .int, 2) := by decide +kernel
theorem d_Pn_init_83 : decode b_Pn_init 83 = .ok (.dup, 1) := by decide +kernel
theorem d_Pn_init_84 : decode b_Pn_init 84 = .ok (.iconst 0, 1) := by decide +kernel
theorem d_Pn_init_85 : decode b_Pn_init 85 = .ok (.iconst (-1), 1) := by decide +kernel
theorem d_Pn_init_86 : decode b_Pn_init 86 = .ok (.iastore, 1) := by decide +kernel
theorem d_Pn_init_87 : decode b_Pn_init 87 = .ok (.dup, 1) := by decide +kernel
theorem d_Pn_init_88 : decode b_Pn_init 88 = .ok (.iconst 1, 1) := by decide +kernel
theorem d_Pn_init_89 : decode b_Pn_init 89 = .ok (.iconst (-1), 1) := by decide +kernel
theorem d_Pn_init_90 : decode b_Pn_init 90 = .ok (.iastore, 1) := by decide +kernel
theorem d_Pn_init_91 : decode b_Pn_init 91 = .ok (.dup, 1) := by decide +kernel
theorem d_Pn_init_92 : decode b_Pn_init 92 = .ok (.iconst 2, 1) := by decide +kernel
theorem d_Pn_init_93 : decode b_Pn_init 93 = .ok (.iconst (-1), 1) := by decide +kernel
theorem d_Pn_init_94 : decode b_Pn_init 94 = .ok (.iastore, 1) := by decide +kernel
theorem d_Pn_init_95 : decode b_Pn_init 95 = .ok (.putfield 52, 3) := by decide +kernel
theorem d_Pn_init_98 : decode b_Pn_init 98 = .ok (.aload_n 0, 1) := by decide +kernel
theorem d_Pn_init_99 : decode b_Pn_init 99 = .ok (.lconst 0, 1) := by decide +kernel
theorem d_Pn_init_100 : decode b_Pn_init 100 = .ok (.putfield 56, 3) := by decide +kernel
theorem d_Pn_init_103 : decode b_Pn_init 103 = .ok (.aload_n 0, 1) := by decide +kernel
theorem d_Pn_init_104 : decode b_Pn_init 104 = .ok (.iconst (-1), 1) := by decide +kernel
theorem d_Pn_init_105 : decode b_Pn_init 105 = .ok (.putfield 60, 3) := by decide +kernel
theorem d_Pn_init_108 : decode b_Pn_init 108 = .ok (.aload_n 0, 1) := by decide +kernel
theorem d_Pn_init_109 : decode b_Pn_init 109 = .ok (.iconst (-1), 1) := by decide +kernel
theorem d_Pn_init_110 : decode b_Pn_init 110 = .ok (.putfield 64, 3) := by decide +kernel
theorem d_Pn_init_113 : decode b_Pn_init 113 = .ok (.return_, 1) := by decide +kernel
theorem d_Md_init_0 : decode b_Md_init 0 = .ok (.aload_n 0, 1) := by decide +kernel
theorem d_Md_init_1 : decode b_Md_init 1 = .ok (.invokespecial 1, 3) := by decide +kernel
theorem d_Md_init_4 : decode b_Md_init 4 = .ok (.aload_n 0, 1) := by decide +kernel
theorem d_Md_init_5 : decode b_Md_init 5 = .ok (.sipush 1024, 3) := by decide +kernel
theorem d_Md_init_8 : decode b_Md_init 8 = .ok (.newarray .int, 2) := by decide +kernel
theorem d_Md_init_10 : decode b_Md_init 10 = .ok (.putfield 7, 3) := by decide +kernel
theorem d_Md_init_13 : decode b_Md_init 13 = .ok (.aload_n 0, 1) := by decide +kernel
theorem d_Md_init_14 : decode b_Md_init 14 = .ok (.sipush 1024, 3) := by decide +kernel
theorem d_Md_init_17 : decode b_Md_init 17 = .ok (.newarray .int, 2) := by decide +kernel
theorem d_Md_init_19 : decode b_Md_init 19 = .ok (.putfield 13, 3) := by decide +kernel
theorem d_Md_init_22 : decode b_Md_init 22 = .ok (.aload_n 0, 1) := by decide +kernel
theorem d_Md_init_23 : decode b_Md_init 23 = .ok (.sipush 2048, 3) := by decide +kernel
theorem d_Md_init_26 : decode b_Md_init 26 = .ok (.newarray .int, 2) := by decide +kernel
theorem d_Md_init_28 : decode b_Md_init 28 = .ok (.putfield 16, 3) := by decide +kernel
theorem d_Md_init_31 : decode b_Md_init 31 = .ok (.aload_n 0, 1) := by decide +kernel
theorem d_Md_init_32 : decode b_Md_init 32 = .ok (.sipush 2048, 3) := by decide +kernel
theorem d_Md_init_35 : decode b_Md_init 35 = .ok (.newarray .int, 2) := by decide +kernel
theorem d_Md_init_37 : decode b_Md_init 37 = .ok (.putfield 19, 3) := by decide +kernel
theorem d_Md_init_40 : decode b_Md_init 40 = .ok (.aload_n 0, 1) := by decide +kernel
theorem d_Md_init_41 : decode b_Md_init 41 = .ok (.sipush 2048, 3) := by decide +kernel
theorem d_Md_init_44 : decode b_Md_init 44 = .ok (.newarray .int, 2) := by decide +kernel
theorem d_Md_init_46 : decode b_Md_init 46 = .ok (.putfield 22, 3) := by decide +kernel
theorem d_Md_init_49 : decode b_Md_init 49 = .ok (.aload_n 0, 1) := by decide +kernel
theorem d_Md_init_50 : decode b_Md_init 50 = .ok (.sipush 1024, 3) := by decide +kernel
theorem d_Md_init_53 : decode b_Md_init 53 = .ok (.newarray .int, 2) := by decide +kernel
theorem d_Md_init_55 : decode b_Md_init 55 = .ok (.putfield 25, 3) := by decide +kernel
theorem d_Md_init_58 : decode b_Md_init 58 = .ok (.aload_n 0, 1) := by decide +kernel
theorem d_Md_init_59 : decode b_Md_init 59 = .ok (.sipush 6200, 3) := by decide +kernel
theorem d_Md_init_62 : decode b_Md_init 62 = .ok (.newarray .int, 2) := by decide +kernel
theorem d_Md_init_64 : decode b_Md_init 64 = .ok (.putfield 28, 3) := by decide +kernel
theorem d_Md_init_67 : decode b_Md_init 67 = .ok (.aload_n 0, 1) := by decide +kernel
theorem d_Md_init_68 : decode b_Md_init 68 = .ok (.sipush 6200, 3) := by decide +kernel
theorem d_Md_init_71 : decode b_Md_init 71 = .ok (.newarray .int, 2) := by decide +kernel
theorem d_Md_init_73 : decode b_Md_init 73 = .ok (.putfield 31, 3) := by decide +kernel
theorem d_Md_init_76 : decode b_Md_init 76 = .ok (.aload_n 0, 1) := by decide +kernel
theorem d_Md_init_77 : decode b_Md_init 77 = .ok (.sipush 1024, 3) := by decide +kernel
theorem d_Md_init_80 : decode b_Md_init 80 = .ok (.newarray .int, 2) := by decide +kernel
theorem d_Md_init_82 : decode b_Md_init 82 = .ok (.putfield 34, 3) := by decide +kernel
theorem d_Md_init_85 : decode b_Md_init 85 = .ok (.aload_n 0, 1) := by decide +kernel
theorem d_Md_init_86 : decode b_Md_init 86 = .ok (.sipush 1024, 3) := by decide +kernel
theorem d_Md_init_89 : decode b_Md_init 89 = .ok (.newarray .int, 2) := by decide +kernel
theorem d_Md_init_91 : decode b_Md_init 91 = .ok (.putfield 37, 3) := by decide +kernel
theorem d_Md_init_94 : decode b_Md_init 94 = .ok (.aload_n 0, 1) := by decide +kernel
theorem d_Md_init_95 : decode b_Md_init 95 = .ok (.iconst 3, 1) := by decide +kernel
theorem d_Md_init_96 : decode b_Md_init 96 = .ok (.newarray .int, 2) := by decide +kernel
theorem d_Md_init_98 : decode b_Md_init 98 = .ok (.dup, 1) := by decide +kernel
theorem d_Md_init_99 : decode b_Md_init 99 = .ok (.iconst 0, 1) := by decide +kernel
theorem d_Md_init_100 : decode b_Md_init 100 = .ok (.iconst (-1), 1) := by decide +kernel
theorem d_Md_init_101 : decode b_Md_init 101 = .ok (.iastore, 1) := by decide +kernel
theorem d_Md_init_102 : decode b_Md_init 102 = .ok (.dup, 1) := by decide +kernel
theorem d_Md_init_103 : decode b_Md_init 103 = .ok (.iconst 1, 1) := by decide +kernel
theorem d_Md_init_104 : decode b_Md_init 104 = .ok (.iconst (-1), 1) := by decide +kernel
theorem d_Md_init_105 : decode b_Md_init 105 = .ok (.iastore, 1) := by decide +kernel
theorem d_Md_init_106 : decode b_Md_init 106 = .ok (.dup, 1) := by decide +kernel
theorem d_Md_init_107 : decode b_Md_init 107 = .ok (.iconst 2, 1) := by decide +kernel
theorem d_Md_init_108 : decode b_Md_init 108 = .ok (.iconst (-1), 1) := by decide +kernel
theorem d_Md_init_109 : decode b_Md_init 109 = .ok (.iastore, 1) := by decide +kernel
theorem d_Md_init_110 : decode b_Md_init 110 = .ok (.putfield 40, 3) := by decide +kernel
theorem d_Md_init_113 : decode b_Md_init 113 = .ok (.aload_n 0, 1) := by decide +kernel
theorem d_Md_init_114 : decode b_Md_init 114 = .ok (.iload_n 1, 1) := by decide +kernel
theorem d_Md_init_115 : decode b_Md_init 115 = .ok (.iconst 1, 1) := by decide +kernel
theorem d_Md_init_116 : decode b_Md_init 116 = .ok (.if_icmp .ge 7, 3) := by decide +kernel
theorem d_Md_init_119 : decode b_Md_init 119 = .ok (.iconst 1, 1) := by decide +kernel
theorem d_Md_init_120 : decode b_Md_init 120 = .ok (.goto 17, 3) := by decide +kernel
theorem d_Md_init_123 : decode b_Md_init 123 = .ok (.iload_n 1, 1) := by decide +kernel
theorem d_Md_init_124 : decode b_Md_init 124 = .ok (.sipush 1024, 3) := by decide +kernel
theorem d_Md_init_127 : decode b_Md_init 127 = .ok (.if_icmp .le 9, 3) := by decide +kernel
theorem d_Md_init_130 : decode b_Md_init 130 = .ok (.sipush 1024, 3) := by decide +kernel
theorem d_Md_init_133 : decode b_Md_init 133 = .ok (.goto 4, 3) := by decide +kernel
theorem d_Md_init_136 : decode b_Md_init 136 = .ok (.iload_n 1, 1) := by decide +kernel
theorem d_Md_init_137 : decode b_Md_init 137 = .ok (.putfield 43, 3) := by decide +kernel
theorem d_Md_init_140 : decode b_Md_init 140 = .ok (.return_, 1) := by decide +kernel
theorem d_Nt_init_0 : decode b_Nt_init 0 = .ok (.aload_n 0, 1) := by decide +kernel
theorem d_Nt_init_1 : decode b_Nt_init 1 = .ok (.invokespecial 3, 3) := by decide +kernel
theorem d_Nt_init_4 : decode b_Nt_init 4 = .ok (.aload_n 0, 1) := by decide +kernel
theorem d_Nt_init_5 : decode b_Nt_init 5 = .ok (.aload_n 1, 1) := by decide +kernel
theorem d_Nt_init_6 : decode b_Nt_init 6 = .ok (.putfield 9, 3) := by decide +kernel
theorem d_Nt_init_9 : decode b_Nt_init 9 = .ok (.aload_n 0, 1) := by decide +kernel
theorem d_Nt_init_10 : decode b_Nt_init 10 = .ok (.aload_n 1, 1) := by decide +kernel
theorem d_Nt_init_11 : decode b_Nt_init 11 = .ok (.getfield 15, 3) := by decide +kernel
theorem d_Nt_init_14 : decode b_Nt_init 14 = .ok (.putfield 21, 3) := by decide +kernel
theorem d_Nt_init_17 : decode b_Nt_init 17 = .ok (.aload_n 0, 1) := by decide +kernel
theorem d_Nt_init_18 : decode b_Nt_init 18 = .ok (.new 24, 3) := by decide +kernel
theorem d_Nt_init_21 : decode b_Nt_init 21 = .ok (.dup, 1) := by decide +kernel
theorem d_Nt_init_22 : decode b_Nt_init 22 = .ok (.bipush 6, 2) := by decide +kernel
theorem d_Nt_init_24 : decode b_Nt_init 24 = .ok (.aload_n 1, 1) := by decide +kernel
theorem d_Nt_init_25 : decode b_Nt_init 25 = .ok (.getfield 15, 3) := by decide +kernel
theorem d_Nt_init_28 : decode b_Nt_init 28 = .ok (.imul, 1) := by decide +kernel
theorem d_Nt_init_29 : decode b_Nt_init 29 = .ok (.invokespecial 26, 3) := by decide +kernel
theorem d_Nt_init_32 : decode b_Nt_init 32 = .ok (.putfield 29, 3) := by decide +kernel
theorem d_Nt_init_35 : decode b_Nt_init 35 = .ok (.aload_n 0, 1) := by decide +kernel
theorem d_Nt_init_36 : decode b_Nt_init 36 = .ok (.new 24, 3) := by decide +kernel
theorem d_Nt_init_39 : decode b_Nt_init 39 = .ok (.dup, 1) := by decide +kernel
theorem d_Nt_init_40 : decode b_Nt_init 40 = .ok (.bipush 6, 2) := by decide +kernel
theorem d_Nt_init_42 : decode b_Nt_init 42 = .ok (.aload_n 1, 1) := by decide +kernel
theorem d_Nt_init_43 : decode b_Nt_init 43 = .ok (.getfield 15, 3) := by decide +kernel
theorem d_Nt_init_46 : decode b_Nt_init 46 = .ok (.imul, 1) := by decide +kernel
theorem d_Nt_init_47 : decode b_Nt_init 47 = .ok (.invokespecial 26, 3) := by decide +kernel
theorem d_Nt_init_50 : decode b_Nt_init 50 = .ok (.putfield 33, 3) := by decide +kernel
theorem d_Nt_init_53 : decode b_Nt_init 53 = .ok (.aload_n 0, 1) := by decide +kernel
theorem d_Nt_init_54 : decode b_Nt_init 54 = .ok (.new 24, 3) := by decide +kernel
theorem d_Nt_init_57 : decode b_Nt_init 57 = .ok (.dup, 1) := by decide +kernel
theorem d_Nt_init_58 : decode b_Nt_init 58 = .ok (.aload_n 1, 1) := by decide +kernel
theorem d_Nt_init_59 : decode b_Nt_init 59 = .ok (.getfield 15, 3) := by decide +kernel
theorem d_Nt_init_62 : decode b_Nt_init 62 = .ok (.iconst 1, 1) := by decide +kernel
theorem d_Nt_init_63 : decode b_Nt_init 63 = .ok (.iadd, 1) := by decide +kernel
theorem d_Nt_init_64 : decode b_Nt_init 64 = .ok (.invokespecial 26, 3) := by decide +kernel
theorem d_Nt_init_67 : decode b_Nt_init 67 = .ok (.putfield 36, 3) := by decide +kernel
theorem d_Nt_init_70 : decode b_Nt_init 70 = .ok (.aload_n 0, 1) := by decide +kernel
theorem d_Nt_init_71 : decode b_Nt_init 71 = .ok (.new 24, 3) := by decide +kernel
theorem d_Nt_init_74 : decode b_Nt_init 74 = .ok (.dup, 1) := by decide +kernel
theorem d_Nt_init_75 : decode b_Nt_init 75 = .ok (.iconst 2, 1) := by decide +kernel
theorem d_Nt_init_76 : decode b_Nt_init 76 = .ok (.aload_n 1, 1) := by decide +kernel
theorem d_Nt_init_77 : decode b_Nt_init 77 = .ok (.getfield 15, 3) := by decide +kernel
theorem d_Nt_init_80 : decode b_Nt_init 80 = .ok (.imul, 1) := by decide +kernel
theorem d_Nt_init_81 : decode b_Nt_init 81 = .ok (.invokespecial 26, 3) := by decide +kernel
theorem d_Nt_init_84 : decode b_Nt_init 84 = .ok (.putfield 39, 3) := by decide +kernel
theorem d_Nt_init_87 : decode b_Nt_init 87 = .ok (.aload_n 0, 1) := by decide +kernel
theorem d_Nt_init_88 : decode b_Nt_init 88 = .ok (.new 24, 3) := by decide +kernel
theorem d_Nt_init_91 : decode b_Nt_init 91 = .ok (.dup, 1) := by decide +kernel
theorem d_Nt_init_92 : decode b_Nt_init 92 = .ok (.iconst 2, 1) := by decide +kernel
theorem d_Nt_init_93 : decode b_Nt_init 93 = .ok (.aload_n 1, 1) := by decide +kernel
theorem d_Nt_init_94 : decode b_Nt_init 94 = .ok (.getfield 15, 3) := by decide +kernel
theorem d_Nt_init_97 : decode b_Nt_init 97 = .ok (.imul, 1) := by decide +kernel
theorem d_Nt_init_98 : decode b_Nt_init 98 = .ok (.invokespecial 26, 3) := by decide +kernel
theorem d_Nt_init_101 : decode b_Nt_init 101 = .ok (.putfield 42, 3) := by decide +kernel
theorem d_Nt_init_104 : decode b_Nt_init 104 = .ok (.aload_n 0, 1) := by decide +kernel
theorem d_Nt_init_105 : decode b_Nt_init 105 = .ok (.new 24, 3) := by decide +kernel
theorem d_Nt_init_108 : decode b_Nt_init 108 = .ok (.dup, 1) := by decide +kernel
theorem d_Nt_init_109 : decode b_Nt_init 109 = .ok (.iconst 2, 1) := by decide +kernel
theorem d_Nt_init_110 : decode b_Nt_init 110 = .ok (.aload_n 1, 1) := by decide +kernel
theorem d_Nt_init_111 : decode b_Nt_init 111 = .ok (.getfield 15, 3) := by decide +kernel
theorem d_Nt_init_114 : decode b_Nt_init 114 = .ok (.imul, 1) := by decide +kernel
theorem d_Nt_init_115 : decode b_Nt_init 115 = .ok (.invokespecial 26, 3) := by decide +kernel
theorem d_Nt_init_118 : decode b_Nt_init 118 = .ok (.putfield 45, 3) := by decide +kernel
theorem d_Nt_init_121 : decode b_Nt_init 121 = .ok (.aload_n 0, 1) := by decide +kernel
theorem d_Nt_init_122 : decode b_Nt_init 122 = .ok (.iconst 0, 1) := by decide +kernel
theorem d_Nt_init_123 : decode b_Nt_init 123 = .ok (.putfield 48, 3) := by decide +kernel
theorem d_Nt_init_126 : decode b_Nt_init 126 = .ok (.aload_n 0, 1) := by decide +kernel
theorem d_Nt_init_127 : decode b_Nt_init 127 = .ok (.iconst 0, 1) := by decide +kernel
theorem d_Nt_init_128 : decode b_Nt_init 128 = .ok (.putfield 51, 3) := by decide +kernel
theorem d_Nt_init_131 : decode b_Nt_init 131 = .ok (.aload_n 0, 1) := by decide +kernel
theorem d_Nt_init_132 : decode b_Nt_init 132 = .ok (.iconst 0, 1) := by decide +kernel
theorem d_Nt_init_133 : decode b_Nt_init 133 = .ok (.putfield 54, 3) := by decide +kernel
theorem d_Nt_init_136 : decode b_Nt_init 136 = .ok (.aload_n 0, 1) := by decide +kernel
theorem d_Nt_init_137 : decode b_Nt_init 137 = .ok (.iconst 0, 1) := by decide +kernel
theorem d_Nt_init_138 : decode b_Nt_init 138 = .ok (.putfield 57, 3) := by decide +kernel
theorem d_Nt_init_141 : decode b_Nt_init 141 = .ok (.aload_n 0, 1) := by decide +kernel
theorem d_Nt_init_142 : decode b_Nt_init 142 = .ok (.iconst 0, 1) := by decide +kernel
theorem d_Nt_init_143 : decode b_Nt_init 143 = .ok (.putfield 60, 3) := by decide +kernel
theorem d_Nt_init_146 : decode b_Nt_init 146 = .ok (.return_, 1) := by decide +kernel
theorem d_Ol_init_0 : decode b_Ol_init 0 = .ok (.aload_n 0, 1) := by decide +kernel
theorem d_Ol_init_1 : decode b_Ol_init 1 = .ok (.invokespecial 3, 3) := by decide +kernel
theorem d_Ol_init_4 : decode b_Ol_init 4 = .ok (.aload_n 0, 1) := by decide +kernel
theorem d_Ol_init_5 : decode b_Ol_init 5 = .ok (.aload_n 1, 1) := by decide +kernel
theorem d_Ol_init_6 : decode b_Ol_init 6 = .ok (.putfield 9, 3) := by decide +kernel
theorem d_Ol_init_9 : decode b_Ol_init 9 = .ok (.aload_n 0, 1) := by decide +kernel
theorem d_Ol_init_10 : decode b_Ol_init 10 = .ok (.aload_n 2, 1) := by decide +kernel
theorem d_Ol_init_11 : decode b_Ol_init 11 = .ok (.putfield 15, 3) := by decide +kernel
theorem d_Ol_init_14 : decode b_Ol_init 14 = .ok (.aload_n 0, 1) := by decide +kernel
theorem d_Ol_init_15 : decode b_Ol_init 15 = .ok (.new 19, 3) := by decide +kernel
theorem d_Ol_init_18 : decode b_Ol_init 18 = .ok (.dup, 1) := by decide +kernel
theorem d_Ol_init_19 : decode b_Ol_init 19 = .ok (.aload_n 1, 1) := by decide +kernel
theorem d_Ol_init_20 : decode b_Ol_init 20 = .ok (.getfield 21, 3) := by decide +kernel
theorem d_Ol_init_23 : decode b_Ol_init 23 = .ok (.invokespecial 27, 3) := by decide +kernel
theorem d_Ol_init_26 : decode b_Ol_init 26 = .ok (.putfield 30, 3) := by decide +kernel
theorem d_Ol_init_29 : decode b_Ol_init 29 = .ok (.aload_n 0, 1) := by decide +kernel
theorem d_Ol_init_30 : decode b_Ol_init 30 = .ok (.iconst 0, 1) := by decide +kernel
theorem d_Ol_init_31 : decode b_Ol_init 31 = .ok (.putfield 34, 3) := by decide +kernel
theorem d_Ol_init_34 : decode b_Ol_init 34 = .ok (.aload_n 0, 1) := by decide +kernel
theorem d_Ol_init_35 : decode b_Ol_init 35 = .ok (.iconst 0, 1) := by decide +kernel
theorem d_Ol_init_36 : decode b_Ol_init 36 = .ok (.putfield 37, 3) := by decide +kernel
theorem d_Ol_init_39 : decode b_Ol_init 39 = .ok (.return_, 1) := by decide +kernel
theorem d_Pt_init_0 : decode b_Pt_init 0 = .ok (.aload_n 0, 1) := by decide +kernel
theorem d_Pt_init_1 : decode b_Pt_init 1 = .ok (.invokespecial 3, 3) := by decide +kernel
theorem d_Pt_init_4 : decode b_Pt_init 4 = .ok (.aload_n 0, 1) := by decide +kernel
theorem d_Pt_init_5 : decode b_Pt_init 5 = .ok (.iload_n 1, 1) := by decide +kernel
theorem d_Pt_init_6 : decode b_Pt_init 6 = .ok (.putfield 9, 3) := by decide +kernel
theorem d_Pt_init_9 : decode b_Pt_init 9 = .ok (.aload_n 0, 1) := by decide +kernel
theorem d_Pt_init_10 : decode b_Pt_init 10 = .ok (.iconst 0, 1) := by decide +kernel
theorem d_Pt_init_11 : decode b_Pt_init 11 = .ok (.putfield 15, 3) := by decide +kernel
theorem d_Pt_init_14 : decode b_Pt_init 14 = .ok (.aload_n 0, 1) := by decide +kernel
theorem d_Pt_init_15 : decode b_Pt_init 15 = .ok (.new 18, 3) := by decide +kernel
theorem d_Pt_init_18 : decode b_Pt_init 18 = .ok (.dup, 1) := by decide +kernel
theorem d_Pt_init_19 : decode b_Pt_init 19 = .ok (.iload_n 1, 1) := by decide +kernel
theorem d_Pt_init_20 : decode b_Pt_init 20 = .ok (.invokespecial 20, 3) := by decide +kernel
theorem d_Pt_init_23 : decode b_Pt_init 23 = .ok (.putfield 23, 3) := by decide +kernel
theorem d_Pt_init_26 : decode b_Pt_init 26 = .ok (.aload_n 0, 1) := by decide +kernel
theorem d_Pt_init_27 : decode b_Pt_init 27 = .ok (.new 18, 3) := by decide +kernel
theorem d_Pt_init_30 : decode b_Pt_init 30 = .ok (.dup, 1) := by decide +kernel
theorem d_Pt_init_31 : decode b_Pt_init 31 = .ok (.iload_n 1, 1) := by decide +kernel
theorem d_Pt_init_32 : decode b_Pt_init 32 = .ok (.invokespecial 20, 3) := by decide +kernel
theorem d_Pt_init_35 : decode b_Pt_init 35 = .ok (.putfield 27, 3) := by decide +kernel
theorem d_Pt_init_38 : decode b_Pt_init 38 = .ok (.aload_n 0, 1) := by decide +kernel
theorem d_Pt_init_39 : decode b_Pt_init 39 = .ok (.new 30, 3) := by decide +kernel
theorem d_Pt_init_42 : decode b_Pt_init 42 = .ok (.dup, 1) := by decide +kernel
theorem d_Pt_init_43 : decode b_Pt_init 43 = .ok (.invokespecial 32, 3) := by decide +kernel
theorem d_Pt_init_46 : decode b_Pt_init 46 = .ok (.putfield 33, 3) := by decide +kernel
theorem d_Pt_init_49 : decode b_Pt_init 49 = .ok (.return_, 1) := by decide +kernel
theorem d_Rl_init_0 : decode b_Rl_init 0 = .ok (.aload_n 0, 1) := by decide +kernel
theorem d_Rl_init_1 : decode b_Rl_init 1 = .ok (.invokespecial 1, 3) := by decide +kernel
theorem d_Rl_init_4 : decode b_Rl_init 4 = .ok (.aload_n 0, 1) := by decide +kernel
theorem d_Rl_init_5 : decode b_Rl_init 5 = .ok (.aload_n 1, 1) := by decide +kernel
theorem d_Rl_init_6 : decode b_Rl_init 6 = .ok (.putfield 7, 3) := by decide +kernel
theorem d_Rl_init_9 : decode b_Rl_init 9 = .ok (.aload_n 0, 1) := by decide +kernel
theorem d_Rl_init_10 : decode b_Rl_init 10 = .ok (.aload_n 2, 1) := by decide +kernel
theorem d_Rl_init_11 : decode b_Rl_init 11 = .ok (.putfield 13, 3) := by decide +kernel
theorem d_Rl_init_14 : decode b_Rl_init 14 = .ok (.aload_n 0, 1) := by decide +kernel
theorem d_Rl_init_15 : decode b_Rl_init 15 = .ok (.new 17, 3) := by decide +kernel
theorem d_Rl_init_18 : decode b_Rl_init 18 = .ok (.dup, 1) := by decide +kernel
theorem d_Rl_init_19 : decode b_Rl_init 19 = .ok (.iconst 2, 1) := by decide +kernel
theorem d_Rl_init_20 : decode b_Rl_init 20 = .ok (.aload_n 1, 1) := by decide +kernel
theorem d_Rl_init_21 : decode b_Rl_init 21 = .ok (.getfield 19, 3) := by decide +kernel
theorem d_Rl_init_24 : decode b_Rl_init 24 = .ok (.imul, 1) := by decide +kernel
theorem d_Rl_init_25 : decode b_Rl_init 25 = .ok (.invokespecial 25, 3) := by decide +kernel
theorem d_Rl_init_28 : decode b_Rl_init 28 = .ok (.putfield 28, 3) := by decide +kernel
theorem d_Rl_init_31 : decode b_Rl_init 31 = .ok (.aload_n 0, 1) := by decide +kernel
theorem d_Rl_init_32 : decode b_Rl_init 32 = .ok (.new 17, 3) := by decide +kernel
theorem d_Rl_init_35 : decode b_Rl_init 35 = .ok (.dup, 1) := by decide +kernel
theorem d_Rl_init_36 : decode b_Rl_init 36 = .ok (.iconst 2, 1) := by decide +kernel
theorem d_Rl_init_37 : decode b_Rl_init 37 = .ok (.aload_n 1, 1) := by decide +kernel
theorem d_Rl_init_38 : decode b_Rl_init 38 = .ok (.getfield 19, 3) := by decide +kernel
theorem d_Rl_init_41 : decode b_Rl_init 41 = .ok (.imul, 1) := by decide +kernel
theorem d_Rl_init_42 : decode b_Rl_init 42 = .ok (.invokespecial 25, 3) := by decide +kernel
theorem d_Rl_init_45 : decode b_Rl_init 45 = .ok (.putfield 32, 3) := by decide +kernel
theorem d_Rl_init_48 : decode b_Rl_init 48 = .ok (.aload_n 0, 1) := by decide +kernel
theorem d_Rl_init_49 : decode b_Rl_init 49 = .ok (.new 17, 3) := by decide +kernel
theorem d_Rl_init_52 : decode b_Rl_init 52 = .ok (.dup, 1) := by decide +kernel
theorem d_Rl_init_53 : decode b_Rl_init 53 = .ok (.aload_n 1, 1) := by decide +kernel
theorem d_Rl_init_54 : decode b_Rl_init 54 = .ok (.getfield 19, 3) := by decide +kernel
theorem d_Rl_init_57 : decode b_Rl_init 57 = .ok (.iconst 1, 1) := by decide +kernel
theorem d_Rl_init_58 : decode b_Rl_init 58 = .ok (.iadd, 1) := by decide +kernel
theorem d_Rl_init_59 : decode b_Rl_init 59 = .ok (.invokespecial 25, 3) := by decide +kernel
theorem d_Rl_init_62 : decode b_Rl_init 62 = .ok (.putfield 35, 3) := by decide +kernel
theorem d_Rl_init_65 : decode b_Rl_init 65 = .ok (.aload_n 0, 1) := by decide +kernel
theorem d_Rl_init_66 : decode b_Rl_init 66 = .ok (.iconst 0, 1) := by decide +kernel
theorem d_Rl_init_67 : decode b_Rl_init 67 = .ok (.putfield 38, 3) := by decide +kernel
theorem d_Rl_init_70 : decode b_Rl_init 70 = .ok (.return_, 1) := by decide +kernel
theorem d_Rw_init_0 : decode b_Rw_init 0 = .ok (.aload_n 0, 1) := by decide +kernel
theorem d_Rw_init_1 : decode b_Rw_init 1 = .ok (.invokespecial 1, 3) := by decide +kernel
theorem d_Rw_init_4 : decode b_Rw_init 4 = .ok (.aload_n 0, 1) := by decide +kernel
theorem d_Rw_init_5 : decode b_Rw_init 5 = .ok (.iload_n 1, 1) := by decide +kernel
theorem d_Rw_init_6 : decode b_Rw_init 6 = .ok (.ifCond .le 14, 3) := by decide +kernel
theorem d_Rw_init_9 : decode b_Rw_init 9 = .ok (.iload_n 1, 1) := by decide +kernel
theorem d_Rw_init_10 : decode b_Rw_init 10 = .ok (.iconst 1, 1) := by decide +kernel
theorem d_Rw_init_11 : decode b_Rw_init 11 = .ok (.isub, 1) := by decide +kernel
theorem d_Rw_init_12 : decode b_Rw_init 12 = .ok (.bipush 32, 2) := by decide +kernel
theorem d_Rw_init_14 : decode b_Rw_init 14 = .ok (.idiv, 1) := by decide +kernel
theorem d_Rw_init_15 : decode b_Rw_init 15 = .ok (.iconst 1, 1) := by decide +kernel
theorem d_Rw_init_16 : decode b_Rw_init 16 = .ok (.iadd, 1) := by decide +kernel
theorem d_Rw_init_17 : decode b_Rw_init 17 = .ok (.goto 4, 3) := by decide +kernel
theorem d_Rw_init_20 : decode b_Rw_init 20 = .ok (.iconst 0, 1) := by decide +kernel
theorem d_Rw_init_21 : decode b_Rw_init 21 = .ok (.anewarray 9, 3) := by decide +kernel
theorem d_Rw_init_24 : decode b_Rw_init 24 = .ok (.putfield 11, 3) := by decide +kernel
theorem d_Rw_init_27 : decode b_Rw_init 27 = .ok (.aload_n 0, 1) := by decide +kernel
theorem d_Rw_init_28 : decode b_Rw_init 28 = .ok (.iconst 0, 1) := by decide +kernel
theorem d_Rw_init_29 : decode b_Rw_init 29 = .ok (.putfield 15, 3) := by decide +kernel
theorem d_Rw_init_32 : decode b_Rw_init 32 = .ok (.return_, 1) := by decide +kernel
theorem d_Wd_init_0 : decode b_Wd_init 0 = .ok (.aload_n 0, 1) := by decide +kernel
theorem d_Wd_init_1 : decode b_Wd_init 1 = .ok (.invokespecial 1, 3) := by decide +kernel
theorem d_Wd_init_4 : decode b_Wd_init 4 = .ok (.aload_n 0, 1) := by decide +kernel
theorem d_Wd_init_5 : decode b_Wd_init 5 = .ok (.lconst 0, 1) := by decide +kernel
theorem d_Wd_init_6 : decode b_Wd_init 6 = .ok (.putfield 7, 3) := by decide +kernel
theorem d_Wd_init_9 : decode b_Wd_init 9 = .ok (.aload_n 0, 1) := by decide +kernel
theorem d_Wd_init_10 : decode b_Wd_init 10 = .ok (.lconst 0, 1) := by decide +kernel
theorem d_Wd_init_11 : decode b_Wd_init 11 = .ok (.putfield 13, 3) := by decide +kernel
theorem d_Wd_init_14 : decode b_Wd_init 14 = .ok (.return_, 1) := by decide +kernel
end
section
/-! THE BASE: states of a side as numbers and rows, the small words of the functions, contracts over a whole world, and their calls. -/
/-- a side's state: ints, longs, lengths of rows, rows -/
abbrev St : Type := (Nat → Int32) × (Nat → Int64) × (Nat → Nat) × (Nat → Nat → Int32)
abbrev gi (S : St) (k : Nat) : Int32 := S.1 k
abbrev gl (S : St) (k : Nat) : Int64 := S.2.1 k
abbrev gn (S : St) (k : Nat) : Nat := S.2.2.1 k
abbrev ga (S : St) (k : Nat) : Nat → Int32 := S.2.2.2 k
def up1 {α : Type} (f : Nat → α) (k : Nat) (v : α) : Nat → α := fun j => cond (Nat.beq j k) v (f j)
def seti (S : St) (k : Nat) (v : Int32) : St := (up1 S.1 k v, S.2.1, S.2.2.1, S.2.2.2)
def setl (S : St) (k : Nat) (v : Int64) : St := (S.1, up1 S.2.1 k v, S.2.2.1, S.2.2.2)
def seta (S : St) (k : Nat) (f : Nat → Int32) : St := (S.1, S.2.1, S.2.2.1, up1 S.2.2.2 k f)
/-- a new row of n zeros -/
def newa (S : St) (k : Nat) (n : Nat) : St := (S.1, S.2.1, up1 S.2.2.1 k n, up1 S.2.2.2 k (fun _ => 0))
def bn {α β : Type} (x : α) (f : α → β) : β := f x
theorem bn_some {α β : Type} {x : α} {f : α → β} {y : β} (h : bn x f = y) : ∃ z, z = x ∧ f z = y := ⟨x, rfl, h⟩
def bd {α β : Type} (x : Option α) (f : α → Option β) : Option β := match x with
  | none => none
  | some a => f a
theorem bd_some {α β : Type} {x : Option α} {f : α → Option β} {y : β} (h : bd x f = some y) : ∃ z, x = some z ∧ f z = some y := by
  cases x with
  | none => cases h
  | some a => exact ⟨a, rfl, h⟩
def as_ {β : Type} (b : Bool) (r : Option β) : Option β := if b = true then r else none
theorem as_some {β : Type} {b : Bool} {r : Option β} {y : β} (h : as_ b r = some y) : b = true ∧ r = some y := by
  cases b with
  | false => cases h
  | true => exact ⟨rfl, h⟩
def inb (i : Int32) (n : Nat) : Bool := decide (0 ≤ i.toInt ∧ i.toInt < n)
theorem inb_in {i : Int32} {n : Nat} (h : inb i n = true) : vp_in i n := vp_in_iff.mpr (of_decide_eq_true h)
theorem nz_of {y : Int32} (h : (!decide (y = 0)) = true) : ¬ y = 0 := by simpa using h
def isb (v : Int32) : Bool := decide (v = 0) || decide (v = 1)
theorem nb_of {v : Int32} (h : isb v = true) : narrow .boolean (.int v) = .int v := by
  simp only [isb, Bool.or_eq_true, decide_eq_true_eq] at h
  rcases h with rfl | rfl <;> rfl
def FU : Nat := 8589934592
def alen (e : Int32) (B : Nat) : Bool := decide (0 ≤ e.toInt ∧ e.toInt ≤ B)
theorem alen_nn {e : Int32} {B : Nat} (h : alen e B = true) : ¬ e < 0 := by
  have := of_decide_eq_true h
  rw [Int32.lt_iff_toInt_lt]
  show ¬ e.toInt < 0
  omega
theorem alen_le {e : Int32} {B : Nat} (h : alen e B = true) : e.toNatClampNeg ≤ B := by
  have := of_decide_eq_true h
  show e.toInt.toNat ≤ B
  omega
theorem alen_by {e : Int32} {B : Nat} (h : alen e B = true) (hB : B ≤ 100000) : e.toNatClampNeg * componentBytes .int ≤ 536870912 := by
  have := alen_le h
  show e.toNatClampNeg * 4 ≤ 536870912
  omega
abbrev TY (cA cP : ClassId) : List (ClassId × FieldType) := [(cA, .int), (cP, .array .int)]
theorem kA_eq {D : va_G} {cl : List vw_C} {cA cP cB : ClassId} {s : State} (h : va_K D cl (TY cA cP ++ [(cB, .int)]) s) : cB = cA := by
  have h0 := (h.2 0 (cA, .int) rfl).2
  have h1 := (h.2 2 (cB, .int) rfl).2
  exact Option.some.inj (h1.symm.trans h0)
/-! STATICS: what a static holds stays, for its cell is no cell of the worlds -/
theorem zs_off {s : State} {H : Heap} {D : va_G} {cl : List vw_C} {tys : List (ClassId × FieldType)} {w0 : va_W} {a : Nat} {cell : Cell} (hK : va_K D cl tys s) (hP : va_P D cl w0 H) (hc : H[a]? = some cell) (hs : cell.vm.isStatics = true) : ∀ (k : Nat) (e : va_E), w0[k]? ≠ some (a, e) := by
  intro k e he
  cases e with
  | inl x =>
    have h : H[a]? = some (vp_cell x.1 x.2) := hP k (a, .inl x) he
    rw [hc] at h
    cases Option.some.inj h
    obtain ⟨cA, n, y⟩ := x
    rcases y with f | f | f | f | f <;> cases hs
  | inr o =>
    obtain ⟨r, h1, h2⟩ := hP k (a, .inr o) he
    obtain ⟨cell2, q1, q2, q3⟩ := va_recv hK hP h1 (show w0[k]? = some (a, .inr (o.1, o.2)) from he)
    rw [hc] at q1
    cases Option.some.inj q1
    rw [hs] at q2
    cases q2
/-- a static field of a reference: where it lies, outside A -/
def ZL (C n d : String) (A : Nat → Prop) (U : State) (H : Heap) : Prop := ∃ (cf : ClassId) (k : Class) (i : Nat) (f : Field) (a : Nat) (cell : Cell) (v : Value), U.vm.findClass C = some cf ∧ U.fieldFound? C n d = some (cf, k, i, f) ∧ f.isStatic = true ∧ k.statics = some a ∧ cell.vm.isStatics = true ∧ cell.cls = cf ∧ f.slot < cell.slots.size ∧ k.staticTypes[f.slot]? = some f.type ∧ cell.slots[f.slot]? = some v ∧ (v = .null ∨ ∃ t : Nat, v = .ref t) ∧ H[a]? = some cell ∧ ¬ A a
theorem ZL.moved {C n d : String} {A : Nat → Prop} {u U : State} {H : Heap} (hvm : u.vm.Alike U.vm) (h : ZL C n d A u H) : ZL C n d A U H := by
  obtain ⟨cf, k, i, f, a, cell, v, h0, h1, h2, h3, h4, h5, h6, h7, h8⟩ := h
  obtain ⟨k', hi', he⟩ := State.fieldFound?_setVm hvm h1
  exact ⟨cf, k', i, f, a, cell, v, by rw [hvm.findClass]; exact h0, hi', h2, by rw [he]; exact h3, h4, h5, h6, by rw [he]; exact h7, h8⟩
theorem ZL.kept {C n d : String} {A : Nat → Prop} {U : State} {H H1 : Heap} (h : ZL C n d A U H) (hq : ∀ a : Nat, a < H.size → ¬ A a → H1[a]? = H[a]?) : ZL C n d A U H1 := by
  obtain ⟨cf, k, i, f, a, cell, v, h0, h1, h2, h3, h4, h5, h6, h7, h8, h9, h10, h11⟩ := h
  exact ⟨cf, k, i, f, a, cell, v, h0, h1, h2, h3, h4, h5, h6, h7, h8, h9, by rw [hq a (Array.getElem?_eq_some_iff.mp h10).1 h11]; exact h10, h11⟩
theorem ZL.narrow {C n d : String} {A B : Nat → Prop} {U : State} {H : Heap} (h : ZL C n d A U H) (hAB : ∀ q, B q → A q) : ZL C n d B U H := by
  obtain ⟨cf, k, i, f, a, cell, v, h0, h1, h2, h3, h4, h5, h6, h7, h8, h9, h10, h11⟩ := h
  exact ⟨cf, k, i, f, a, cell, v, h0, h1, h2, h3, h4, h5, h6, h7, h8, h9, h10, fun z => h11 (hAB a z)⟩
theorem zl_in {s : State} {D : va_G} {cl : List vw_C} {tys : List (ClassId × FieldType)} {w0 : va_W} {C n d : String} (hK : va_K D cl tys s) (hP : va_P D cl w0 s.heap) (h : ZL C n d (fun _ => False) s s.heap) : ZL C n d (va_A w0 s.heap.size) s s.heap := by
  obtain ⟨cf, k, i, f, a, cell, v, h0, h1, h2, h3, h4, h5, h6, h7, h8, h9, h10, -⟩ := h
  refine ⟨cf, k, i, f, a, cell, v, h0, h1, h2, h3, h4, h5, h6, h7, h8, h9, h10, fun hA => ?_⟩
  rcases hA with ⟨j, e, he⟩ | hsz
  · exact zs_off hK hP h10 h4 j e he
  · exact absurd (Array.getElem?_eq_some_iff.mp h10).1 (Nat.not_lt.mpr hsz)
theorem ZL.isRef {U : State} {C n d : String} {A : Nat → Prop} {B : Array Value} (h : ZL C n d A U U.heap) : (Cond.isRef (.static C n d)).before B U = true := by
  obtain ⟨cf, k, i, f, a, cell, v, h0, h1, h2, h3, h4, h5, h6, h7, h8, h9, h10, -⟩ := h
  have he : (Term.static C n d).eval B U none [] U = some v := by simp [Term.eval, State.fieldNamed?, h1, h2, h3, h4, h8, h10]
  rcases h9 with rfl | ⟨t, rfl⟩
  · simp [Cond.before, Cond.holds, Cond.value, he]
  · simp [Cond.before, Cond.holds, Cond.value, he]
theorem ZL.lays {U : State} {C n d : String} {A : Nat → Prop} {B : Array Value} (h : ZL C n d A U U.heap) : (Cond.laysStatic C n d).before B U = true := by
  obtain ⟨cf, k, i, f, a, cell, v, h0, h1, h2, h3, h4, h5, h6, h7, h8, h9, h10, -⟩ := h
  exact Cond.laysStatic_of h0 h1 h2 h3 h10 h4 h5 h6 h7
/-- out of the two words -/
theorem ZL.of {U : State} {C n d : String} {B : Array Value} (hl : (Cond.laysStatic C n d).before B U = true) (hr : (Cond.isRef (.static C n d)).before B U = true) : ZL C n d (fun _ => False) U U.heap := by
  obtain ⟨cf, k, i, f, a, cell, h0, h1, h2, h3, h10, h4, h5, h6, h7⟩ := Cond.laysStatic_spec hl
  have he : ∃ v, cell.slots[f.slot]? = some v := ⟨_, Array.getElem?_eq_getElem h6⟩
  obtain ⟨v, h8⟩ := he
  have he : (Term.static C n d).eval B U none [] U = some v := by simp [Term.eval, State.fieldNamed?, h1, h2, h3, h4, h8, h10]
  refine ⟨cf, k, i, f, a, cell, v, h0, h1, h2, h3, h4, h5, h6, h7, h8, ?_, h10, fun z => z⟩
  simp only [Cond.before, Cond.holds, Cond.value, he] at hr
  cases v with
  | null => exact Or.inl rfl
  | ref t => exact Or.inr ⟨t, rfl⟩
  | _ => simp at hr
/-- two statics of Throwable hold references -/
def ZQ (A : Nat → Prop) (U : State) (H : Heap) : Prop := ZL "java/lang/Throwable" "UNASSIGNED_STACK" "[Ljava/lang/StackTraceElement;" A U H ∧ ZL "java/lang/Throwable" "SUPPRESSED_SENTINEL" "Ljava/util/List;" A U H
/-- what holds all through a method's walk -/
def CX (p : Program) (s : State) (m : MethodId) (args : Array Value) (c : Code) (cc : ByteArray) (nL : Nat) (own : String) (Ts : List Cond) (D : va_G) (cl : List vw_C) (cA cP : ClassId) (A : Nat → Prop) : Prop :=
  p.tables.exec = Jvm.exec ∧ c.code = cc ∧ c.maxLocals = nL ∧ s.vm.findClass own = some m.cls ∧ (∀ w ∈ Ts, w.before args s = true) ∧ va_K D cl (TY cA cP) s ∧ (∀ q : Nat, s.heap.size ≤ q → A q) ∧ NW s ∧ ZQ A s s.heap
section
variable {p : Program} {l : Launch} {e : Env} {R : Room} {s : State} {m : MethodId} {args : Array Value} {below : List Frame} {meth : Method} {c : Code} {H : Heap} {locs : List Loc} {cells slots : Nat} {Q : State → Prop} {pc : Nat} {ls : Array Slot} {rest : List Value}
theorem tpi {x y : Int32} (h : y = x) (k : W p l e R s m args below meth c H locs cells slots Q (F0 m pc ls (.int y :: rest))) : W p l e R s m args below meth c H locs cells slots Q (F0 m pc ls (.int x :: rest)) := h ▸ k
theorem tpl {x y : Int64} (h : y = x) (k : W p l e R s m args below meth c H locs cells slots Q (F0 m pc ls (.long y :: rest))) : W p l e R s m args below meth c H locs cells slots Q (F0 m pc ls (.long x :: rest)) := h ▸ k
end
def RTv (p : Program) (l : Launch) (e : Env) (R : Room) (s : State) (m : MethodId) (args : Array Value) (below : List Frame) (meth : Method) (c : Code) (Q : State → Prop) (D : va_G) (cl : List vw_C) (A : Nat → Prop) (cc : ByteArray) (mc ms : Nat) (Post : va_W → Prop) : Prop :=
  ∀ (H : Heap) (locs : List Loc) (pc : Nat) (ls : Array Slot) (w : va_W), Post w → va_P D cl w H → va_D A w → va_S A s.heap H locs → decode cc pc = .ok (.return_, 1) → W p l e R s m args below meth c H locs mc ms Q (F0 m pc ls [])
def RTi (p : Program) (l : Launch) (e : Env) (R : Room) (s : State) (m : MethodId) (args : Array Value) (below : List Frame) (meth : Method) (c : Code) (Q : State → Prop) (D : va_G) (cl : List vw_C) (A : Nat → Prop) (cc : ByteArray) (mc ms : Nat) (Post : Int32 → va_W → Prop) : Prop :=
  ∀ (H : Heap) (locs : List Loc) (pc : Nat) (ls : Array Slot) (r : Int32) (w : va_W), Post r w → va_P D cl w H → va_D A w → va_S A s.heap H locs → decode cc pc = .ok (.ireturn, 1) → W p l e R s m args below meth c H locs mc ms Q (F0 m pc ls [.int r])
def RTz (p : Program) (l : Launch) (e : Env) (R : Room) (s : State) (m : MethodId) (args : Array Value) (below : List Frame) (meth : Method) (c : Code) (Q : State → Prop) (D : va_G) (cl : List vw_C) (A : Nat → Prop) (cc : ByteArray) (mc ms : Nat) (Post : Int32 → va_W → Prop) : Prop :=
  ∀ (H : Heap) (locs : List Loc) (pc : Nat) (ls : Array Slot) (r : Int32) (w : va_W), Post r w → narrow .boolean (.int r) = .int r → va_P D cl w H → va_D A w → va_S A s.heap H locs → decode cc pc = .ok (.ireturn, 1) → W p l e R s m args below meth c H locs mc ms Q (F0 m pc ls [.int r])
def RTl (p : Program) (l : Launch) (e : Env) (R : Room) (s : State) (m : MethodId) (args : Array Value) (below : List Frame) (meth : Method) (c : Code) (Q : State → Prop) (D : va_G) (cl : List vw_C) (A : Nat → Prop) (cc : ByteArray) (mc ms : Nat) (Post : Int64 → va_W → Prop) : Prop :=
  ∀ (H : Heap) (locs : List Loc) (pc : Nat) (ls : Array Slot) (r : Int64) (w : va_W), Post r w → va_P D cl w H → va_D A w → va_S A s.heap H locs → decode cc pc = .ok (.lreturn, 1) → W p l e R s m args below meth c H locs mc ms Q (F0 m pc ls [.long r])
/-- the world before a method, and behind it -/
def WP (D : va_G) (cl : List vw_C) (tys : List (ClassId × FieldType)) (w0 : va_W) (sz : Nat) (U : State) : Prop := U.heap.size = sz ∧ va_P D cl w0 U.heap ∧ va_K D cl tys U ∧ va_D (fun _ => True) w0 ∧ NW U ∧ ZQ (fun _ => False) U U.heap
def WQ (D : va_G) (cl : List vw_C) (tys : List (ClassId × FieldType)) (w0 : va_W) (sz : Nat) (w : va_W) (t : State) : Prop := va_P D cl w t.heap ∧ va_K D cl tys t ∧ va_D (va_A w0 sz) w
def CTv (l : Launch) (y : MethodName) (ws : List Cond) (rm : Room) (mc ms : Nat) (D : va_G) (cl : List vw_C) (tys : List (ClassId × FieldType)) (as : List Value) (w0 : va_W) (Post : va_W → Prop) : Prop :=
  ∀ sz : Nat, Met l y ws rm (va_Pc as (WP D cl tys w0 sz)) (va_Qv Post (WQ D cl tys w0 sz) (va_A w0 sz)) mc ms (va_A w0 sz)
def CTi (l : Launch) (y : MethodName) (ws : List Cond) (rm : Room) (mc ms : Nat) (D : va_G) (cl : List vw_C) (tys : List (ClassId × FieldType)) (as : List Value) (w0 : va_W) (Post : Int32 → va_W → Prop) : Prop :=
  ∀ sz : Nat, Met l y ws rm (va_Pc as (WP D cl tys w0 sz)) (va_Qi Post (WQ D cl tys w0 sz) (va_A w0 sz)) mc ms (va_A w0 sz)
def CTl (l : Launch) (y : MethodName) (ws : List Cond) (rm : Room) (mc ms : Nat) (D : va_G) (cl : List vw_C) (tys : List (ClassId × FieldType)) (as : List Value) (w0 : va_W) (Post : Int64 → va_W → Prop) : Prop :=
  ∀ sz : Nat, Met l y ws rm (va_Pc as (WP D cl tys w0 sz)) (va_Ql Post (WQ D cl tys w0 sz) (va_A w0 sz)) mc ms (va_A w0 sz)
theorem WP.blind {D : va_G} {cl : List vw_C} {tys : List (ClassId × FieldType)} {w0 : va_W} {sz : Nat} {as : List Value} : FrameBlind (va_Pc as (WP D cl tys w0 sz)) := fun a U g mk q => by
  obtain ⟨q0, q1, qP, qK, qD, qN, qZ⟩ := q
  exact ⟨q0, q1, qP, va_K.moved (u := U) (U := U.calling g mk a) (Vm.Alike.refl U.vm) qK, qD, qN.same rfl, ZL.moved (u := U) (U := U.calling g mk a) (Vm.Alike.refl U.vm) qZ.1, ZL.moved (u := U) (U := U.calling g mk a) (Vm.Alike.refl U.vm) qZ.2⟩
theorem ZQ.at {A : Nat → Prop} {s U : State} {H : Heap} {locs : List Loc} (hZ : ZQ A s s.heap) (hS : va_S A s.heap H locs) (hU : U.heap = H) (hW : s.WarmedH U.vm) : ZQ (fun _ => False) U U.heap := by
  rw [hU]
  exact ⟨((hZ.1.kept hS.2.1).narrow (fun _ h => h.elim)).moved hW.alike, ((hZ.2.kept hS.2.1).narrow (fun _ h => h.elim)).moved hW.alike⟩
theorem range_all {α : Type} (w : List α) : (List.range w.length).map (fun i => w[i]?) = w.map some := by
  apply List.ext_getElem?
  intro i
  simp only [List.getElem?_map]
  by_cases h : i < w.length
  · simp [h]
  · simp [h]
section
variable {p : Program} {l : Launch} {e : Env} {R : Room} {s : State} {m : MethodId} {args : Array Value} {below : List Frame} {meth : Method} {c : Code} {H : Heap} {locs : List Loc} {cells slots : Nat} {Q : State → Prop} {pc : Nat} {ls : Array Slot} {rest st0 : List Value} {D : va_G} {cl : List vw_C} {tys : List (ClassId × FieldType)} {A : Nat → Prop} {w0 : va_W} {a : Array Value} {mc ms : Nat}
theorem kpS {as : List Value} (hK : va_K D cl tys s) (hP : va_P D cl w0 H) (hD : va_D A w0) (hN : NW s) (hZ : ZQ A s s.heap) (hS : va_S A s.heap H locs) : PreS s H (va_Pc as (WP D cl tys w0 H.size)) as :=
  ⟨WP.blind, fun _ hU hW => ⟨rfl, by rw [hU], by rw [hU]; exact hP, va_K.moved hW.alike hK, hD.weaken (fun _ _ _ _ => trivial), hN.warm hW, hZ.at hS hU hW⟩⟩
theorem kpV {b : Addr} {As : List Value} {q : vw_C} (hK : va_K D cl tys s) (hP : va_P D cl w0 H) (hD : va_D A w0) (hN : NW s) (hZ : ZQ A s s.heap) (hS : va_S A s.heap H locs) (ci q0 : Nat) {fs : List Value} (hc : cl[ci]? = some q) (he : w0[q0]? = some (b, .inr (ci, fs))) : PreV s H q.1 b (va_Pc (.ref b :: As) (WP D cl tys w0 H.size)) As :=
  ⟨WP.blind, va_recv hK hP hc he, fun _ hU hW => ⟨rfl, by rw [hU], by rw [hU]; exact hP, va_K.moved hW.alike hK, hD.weaken (fun _ _ _ _ => trivial), hN.warm hW, hZ.at hS hU hW⟩⟩
theorem kc_i {Post : Int32 → va_W → Prop} (hr : va_Run p l e R s m args below meth c H locs cells slots mc ms (F0 m pc ls st0) rest (va_Qi Post (WQ D cl tys w0 H.size) (va_A w0 H.size) a) (va_A w0 H.size)) (hP : va_P D cl w0 H) (hD : va_D A w0) (hS : va_S A s.heap H locs) (hA : ∀ q : Nat, s.heap.size ≤ q → A q)
    (kk : ∀ (r : Int32) (w : va_W) (H1 : Heap) (locs1 : List Loc), Post r w → va_P D cl w H1 → va_D A w → va_S A s.heap H1 locs1 → W p l e R s m args below meth c H1 locs1 (cells + mc) (slots + ms) Q (F0 m (pc + 3) ls (.int r :: rest))) : W p l e R s m args below meth c H locs cells slots Q (F0 m pc ls st0) := by
  have hFc := va_free (wc := w0) hD hS hA (List.range w0.length) (range_all w0)
  refine va_calli hr hS (fun q _ h => hFc q h) hFc (fun r u t H1 locs1 ht hvm hw hB hz hk hS1 => ?_)
  obtain ⟨hP1, hK1, hD1⟩ := hB
  rw [ht] at hP1
  obtain ⟨hP2, hD2⟩ := va_join (wr := []) hP hD (List.range w0.length) [] (range_all w0) rfl rfl (fun _ h => absurd h List.not_mem_nil) hk hFc hP1 hD1
  exact kk r u H1 locs1 hw hP2 hD2 hS1
theorem kc_l {Post : Int64 → va_W → Prop} (hr : va_Run p l e R s m args below meth c H locs cells slots mc ms (F0 m pc ls st0) rest (va_Ql Post (WQ D cl tys w0 H.size) (va_A w0 H.size) a) (va_A w0 H.size)) (hP : va_P D cl w0 H) (hD : va_D A w0) (hS : va_S A s.heap H locs) (hA : ∀ q : Nat, s.heap.size ≤ q → A q)
    (kk : ∀ (r : Int64) (w : va_W) (H1 : Heap) (locs1 : List Loc), Post r w → va_P D cl w H1 → va_D A w → va_S A s.heap H1 locs1 → W p l e R s m args below meth c H1 locs1 (cells + mc) (slots + ms) Q (F0 m (pc + 3) ls (.long r :: rest))) : W p l e R s m args below meth c H locs cells slots Q (F0 m pc ls st0) := by
  have hFc := va_free (wc := w0) hD hS hA (List.range w0.length) (range_all w0)
  refine va_calll hr hS (fun q _ h => hFc q h) hFc (fun r u t H1 locs1 ht hvm hw hB hz hk hS1 => ?_)
  obtain ⟨hP1, hK1, hD1⟩ := hB
  rw [ht] at hP1
  obtain ⟨hP2, hD2⟩ := va_join (wr := []) hP hD (List.range w0.length) [] (range_all w0) rfl rfl (fun _ h => absurd h List.not_mem_nil) hk hFc hP1 hD1
  exact kk r u H1 locs1 hw hP2 hD2 hS1
theorem kc_v {Post : va_W → Prop} (hr : va_Run p l e R s m args below meth c H locs cells slots mc ms (F0 m pc ls st0) rest (va_Qv Post (WQ D cl tys w0 H.size) (va_A w0 H.size) a) (va_A w0 H.size)) (hP : va_P D cl w0 H) (hD : va_D A w0) (hS : va_S A s.heap H locs) (hA : ∀ q : Nat, s.heap.size ≤ q → A q)
    (kk : ∀ (w : va_W) (H1 : Heap) (locs1 : List Loc), Post w → va_P D cl w H1 → va_D A w → va_S A s.heap H1 locs1 → W p l e R s m args below meth c H1 locs1 (cells + mc) (slots + ms) Q (F0 m (pc + 3) ls rest)) : W p l e R s m args below meth c H locs cells slots Q (F0 m pc ls st0) := by
  have hFc := va_free (wc := w0) hD hS hA (List.range w0.length) (range_all w0)
  refine va_callv hr hS (fun q _ h => hFc q h) hFc (fun u t H1 locs1 ht hvm hw hB hz hk hS1 => ?_)
  obtain ⟨hP1, hK1, hD1⟩ := hB
  rw [ht] at hP1
  obtain ⟨hP2, hD2⟩ := va_join (wr := []) hP hD (List.range w0.length) [] (range_all w0) rfl rfl (fun _ h => absurd h List.not_mem_nil) hk hFc hP1 hD1
  exact kk u H1 locs1 hw hP2 hD2 hS1
end
section
variable {l : Launch} {y : MethodName} {ws ws' : List Cond} {rm : Room} {D : va_G} {cl : List vw_C} {cA cP : ClassId} {as : List Value} {w0 : va_W} {cc : ByteArray} {maxL mc ms : Nat} {own : String}
theorem mk_v {Post : va_W → Prop} (hy : plainName y.cls = true) (hw : ws = Cond.code y cc maxL none :: ws') (hown : y.cls = own) (hlen : (lg_sl as).length ≤ maxL)
    (body : ∀ (p : Program) (e : Env) (s : State) (m : MethodId) (below : List Frame) (meth : Method) (c : Code) (A : Nat → Prop) (Q : State → Prop), CX p s m as.toArray c cc maxL own ws D cl cA cP A → RTv p l e rm s m as.toArray below meth c Q D cl A cc mc ms Post → ∀ ls : Array Slot, lv_has ls maxL (lv_args 0 as) → va_P D cl w0 s.heap → va_D A w0 → va_S A s.heap s.heap [] → W p l e rm s m as.toArray below meth c s.heap [] 0 0 Q (F0 m 0 ls [])) :
    CTv l y ws rm mc ms D cl (TY cA cP) as w0 Post := by
  intro sz
  refine Met.ofW (cc := cc) (maxL := maxL) (ret := none) hy hw ?_
  intro p e s m args below meth c s₁ B hml hv
  obtain ⟨rfl, hsz, hP, hK, hD0, hN, hZ0⟩ := hv
  subst hsz
  have hZ : ZQ (va_A w0 s.heap.size) s s.heap := ⟨zl_in hK hP hZ0.1, zl_in hK hP hZ0.2⟩
  have hlocks := B.notSynchronized
  have hD := hD0.self (sz := s.heap.size)
  have hown2 : s.vm.findClass own = some m.cls := by rw [← hown]; exact findClass_of_methodNamed B.named
  have hA : ∀ q : Nat, s.heap.size ≤ q → va_A w0 s.heap.size q := fun q h => Or.inr h
  rw [lg_entry_eq]
  refine body p e s m below meth c _ _ ⟨B.exec, B.bytes, hml, hown2, atoms_spec (ws := ws) B.pre, hK, hA, hN, hZ⟩ (fun H locs pc ls w hw hP hD hS hd => ?_) _ (lv_entry as hlen) hP hD va_S.rf
  exact W.vret B.exec B.bytes B.returns (fun t ht hW => ⟨⟨w, rfl, hw, by rw [ht]; exact hP, va_K.moved hW.alike hK, hD⟩, hS.F ht⟩) hS.2.2 hd
theorem mk_i {Post : Int32 → va_W → Prop} (hy : plainName y.cls = true) (hw : ws = Cond.code y cc maxL (some .int) :: ws') (hown : y.cls = own) (hlen : (lg_sl as).length ≤ maxL)
    (body : ∀ (p : Program) (e : Env) (s : State) (m : MethodId) (below : List Frame) (meth : Method) (c : Code) (A : Nat → Prop) (Q : State → Prop), CX p s m as.toArray c cc maxL own ws D cl cA cP A → RTi p l e rm s m as.toArray below meth c Q D cl A cc mc ms Post → ∀ ls : Array Slot, lv_has ls maxL (lv_args 0 as) → va_P D cl w0 s.heap → va_D A w0 → va_S A s.heap s.heap [] → W p l e rm s m as.toArray below meth c s.heap [] 0 0 Q (F0 m 0 ls [])) :
    CTi l y ws rm mc ms D cl (TY cA cP) as w0 Post := by
  intro sz
  refine Met.ofW (cc := cc) (maxL := maxL) (ret := some .int) hy hw ?_
  intro p e s m args below meth c s₁ B hml hv
  obtain ⟨rfl, hsz, hP, hK, hD0, hN, hZ0⟩ := hv
  subst hsz
  have hZ : ZQ (va_A w0 s.heap.size) s s.heap := ⟨zl_in hK hP hZ0.1, zl_in hK hP hZ0.2⟩
  have hlocks := B.notSynchronized
  have hD := hD0.self (sz := s.heap.size)
  have hown2 : s.vm.findClass own = some m.cls := by rw [← hown]; exact findClass_of_methodNamed B.named
  have hA : ∀ q : Nat, s.heap.size ≤ q → va_A w0 s.heap.size q := fun q h => Or.inr h
  rw [lg_entry_eq]
  refine body p e s m below meth c _ _ ⟨B.exec, B.bytes, hml, hown2, atoms_spec (ws := ws) B.pre, hK, hA, hN, hZ⟩ (fun H locs pc ls r w hw hP hD hS hd => ?_) _ (lv_entry as hlen) hP hD va_S.rf
  exact W.iret B.exec B.bytes B.returns (fun t ht hW => ⟨⟨r, w, rfl, hw, by rw [ht]; exact hP, va_K.moved hW.alike hK, hD⟩, hS.F ht⟩) hS.2.2 hd
theorem mk_z {Post : Int32 → va_W → Prop} (hy : plainName y.cls = true) (hw : ws = Cond.code y cc maxL (some .boolean) :: ws') (hown : y.cls = own) (hlen : (lg_sl as).length ≤ maxL)
    (body : ∀ (p : Program) (e : Env) (s : State) (m : MethodId) (below : List Frame) (meth : Method) (c : Code) (A : Nat → Prop) (Q : State → Prop), CX p s m as.toArray c cc maxL own ws D cl cA cP A → RTz p l e rm s m as.toArray below meth c Q D cl A cc mc ms Post → ∀ ls : Array Slot, lv_has ls maxL (lv_args 0 as) → va_P D cl w0 s.heap → va_D A w0 → va_S A s.heap s.heap [] → W p l e rm s m as.toArray below meth c s.heap [] 0 0 Q (F0 m 0 ls [])) :
    CTi l y ws rm mc ms D cl (TY cA cP) as w0 Post := by
  intro sz
  refine Met.ofW (cc := cc) (maxL := maxL) (ret := some .boolean) hy hw ?_
  intro p e s m args below meth c s₁ B hml hv
  obtain ⟨rfl, hsz, hP, hK, hD0, hN, hZ0⟩ := hv
  subst hsz
  have hZ : ZQ (va_A w0 s.heap.size) s s.heap := ⟨zl_in hK hP hZ0.1, zl_in hK hP hZ0.2⟩
  have hlocks := B.notSynchronized
  have hD := hD0.self (sz := s.heap.size)
  have hown2 : s.vm.findClass own = some m.cls := by rw [← hown]; exact findClass_of_methodNamed B.named
  have hA : ∀ q : Nat, s.heap.size ≤ q → va_A w0 s.heap.size q := fun q h => Or.inr h
  rw [lg_entry_eq]
  refine body p e s m below meth c _ _ ⟨B.exec, B.bytes, hml, hown2, atoms_spec (ws := ws) B.pre, hK, hA, hN, hZ⟩ (fun H locs pc ls r w hw hn hP hD hS hd => ?_) _ (lv_entry as hlen) hP hD va_S.rf
  exact W.zret B.exec B.bytes B.returns hn (fun t ht hW => ⟨⟨r, w, rfl, hw, by rw [ht]; exact hP, va_K.moved hW.alike hK, hD⟩, hS.F ht⟩) hS.2.2 hd
theorem mk_l {Post : Int64 → va_W → Prop} (hy : plainName y.cls = true) (hw : ws = Cond.code y cc maxL (some .long) :: ws') (hown : y.cls = own) (hlen : (lg_sl as).length ≤ maxL)
    (body : ∀ (p : Program) (e : Env) (s : State) (m : MethodId) (below : List Frame) (meth : Method) (c : Code) (A : Nat → Prop) (Q : State → Prop), CX p s m as.toArray c cc maxL own ws D cl cA cP A → RTl p l e rm s m as.toArray below meth c Q D cl A cc mc ms Post → ∀ ls : Array Slot, lv_has ls maxL (lv_args 0 as) → va_P D cl w0 s.heap → va_D A w0 → va_S A s.heap s.heap [] → W p l e rm s m as.toArray below meth c s.heap [] 0 0 Q (F0 m 0 ls [])) :
    CTl l y ws rm mc ms D cl (TY cA cP) as w0 Post := by
  intro sz
  refine Met.ofW (cc := cc) (maxL := maxL) (ret := some .long) hy hw ?_
  intro p e s m args below meth c s₁ B hml hv
  obtain ⟨rfl, hsz, hP, hK, hD0, hN, hZ0⟩ := hv
  subst hsz
  have hZ : ZQ (va_A w0 s.heap.size) s s.heap := ⟨zl_in hK hP hZ0.1, zl_in hK hP hZ0.2⟩
  have hlocks := B.notSynchronized
  have hD := hD0.self (sz := s.heap.size)
  have hown2 : s.vm.findClass own = some m.cls := by rw [← hown]; exact findClass_of_methodNamed B.named
  have hA : ∀ q : Nat, s.heap.size ≤ q → va_A w0 s.heap.size q := fun q h => Or.inr h
  rw [lg_entry_eq]
  refine body p e s m below meth c _ _ ⟨B.exec, B.bytes, hml, hown2, atoms_spec (ws := ws) B.pre, hK, hA, hN, hZ⟩ (fun H locs pc ls r w hw hP hD hS hd => ?_) _ (lv_entry as hlen) hP hD va_S.rf
  exact W.lret B.exec B.bytes B.returns (fun t ht hW => ⟨⟨r, w, rfl, hw, by rw [ht]; exact hP, va_K.moved hW.alike hK, hD⟩, hS.F ht⟩) hS.2.2 hd
end
section
variable {l : Launch} {y : MethodName} {ws ws' : List Cond} {rm : Room} {D : va_G} {cl : List vw_C} {cA cP : ClassId} {as : List Value} {w0 : va_W} {cc : ByteArray} {maxL mc ms : Nat} {own : String}
/-- a constructor -/
theorem mk_c {Post : va_W → Prop} (hy : plainName y.cls = true) (hw : ws = Cond.code y cc maxL none :: ws') (hown : y.cls = own) (hyn : y.name = "<init>") (hlen : (lg_sl as).length ≤ maxL)
    (body : ∀ (p : Program) (e : Env) (s : State) (m : MethodId) (below : List Frame) (meth : Method) (c : Code) (A : Nat → Prop) (Q : State → Prop), CX p s m as.toArray c cc maxL own ws D cl cA cP A → meth.name = "<init>" → RTv p l e rm s m as.toArray below meth c Q D cl A cc mc ms Post → ∀ ls : Array Slot, lv_has ls maxL (lv_args 0 as) → va_P D cl w0 s.heap → va_D A w0 → va_S A s.heap s.heap [] → W p l e rm s m as.toArray below meth c s.heap [] 0 0 Q (F0 m 0 ls [])) :
    CTv l y ws rm mc ms D cl (TY cA cP) as w0 Post := by
  intro sz
  refine Met.ofW (cc := cc) (maxL := maxL) (ret := none) hy hw ?_
  intro p e s m args below meth c s₁ B hml hv
  obtain ⟨rfl, hsz, hP, hK, hD0, hN, hZ0⟩ := hv
  subst hsz
  have hZ : ZQ (va_A w0 s.heap.size) s s.heap := ⟨zl_in hK hP hZ0.1, zl_in hK hP hZ0.2⟩
  have hlocks := B.notSynchronized
  have hin : meth.name = "<init>" := (name_of_methodNamed B.named B.method).1.trans hyn
  have hD := hD0.self (sz := s.heap.size)
  have hown2 : s.vm.findClass own = some m.cls := by rw [← hown]; exact findClass_of_methodNamed B.named
  have hA : ∀ q : Nat, s.heap.size ≤ q → va_A w0 s.heap.size q := fun q h => Or.inr h
  rw [lg_entry_eq]
  refine body p e s m below meth c _ _ ⟨B.exec, B.bytes, hml, hown2, atoms_spec (ws := ws) B.pre, hK, hA, hN, hZ⟩ hin (fun H locs pc ls w hw hP hD hS hd => ?_) _ (lv_entry as hlen) hP hD va_S.rf
  exact W.vret B.exec B.bytes B.returns (fun t ht hW => ⟨⟨w, rfl, hw, by rw [ht]; exact hP, va_K.moved hW.alike hK, hD⟩, hS.F ht⟩) hS.2.2 hd
end
section
variable {p : Program} {l : Launch} {e : Env} {R : Room} {s : State} {m : MethodId} {args : Array Value} {below : List Frame} {meth : Method} {c : Code} {H : Heap} {locs : List Loc} {cells slots : Nat} {Q : State → Prop} {pc : Nat} {ls : Array Slot} {rest st0 : List Value} {D : va_G} {cl : List vw_C} {tys : List (ClassId × FieldType)} {A : Nat → Prop} {ws w0 wr : va_W} {a : Array Value} {mc ms : Nat}
/-- a call over some of the cells (places isC), the others (places isR) stay -/
theorem kf_v {Post : va_W → Prop} (isC isR : List Nat) (hC : isC.map (fun i => ws[i]?) = w0.map some) (hR : isR.map (fun i => ws[i]?) = wr.map some) (hn : va_nd isR = true) (hdis : ∀ i ∈ isR, i ∉ isC)
    (hr : va_Run p l e R s m args below meth c H locs cells slots mc ms (F0 m pc ls st0) rest (va_Qv Post (WQ D cl tys w0 H.size) (va_A w0 H.size) a) (va_A w0 H.size)) (hP : va_P D cl ws H) (hD : va_D A ws) (hS : va_S A s.heap H locs) (hA : ∀ q : Nat, s.heap.size ≤ q → A q)
    (kk : ∀ (w : va_W) (H1 : Heap) (locs1 : List Loc), Post w → va_P D cl (wr ++ w) H1 → va_D A (wr ++ w) → va_S A s.heap H1 locs1 → W p l e R s m args below meth c H1 locs1 (cells + mc) (slots + ms) Q (F0 m (pc + 3) ls rest)) : W p l e R s m args below meth c H locs cells slots Q (F0 m pc ls st0) := by
  have hFc := va_free (wc := w0) hD hS hA isC hC
  refine va_callv hr hS (fun q _ h => hFc q h) hFc (fun u t H1 locs1 ht hvm hw hB hz hk hS1 => ?_)
  obtain ⟨hP1, hK1, hD1⟩ := hB
  rw [ht] at hP1
  obtain ⟨hP2, hD2⟩ := va_join (wr := wr) hP hD isC isR hC hR hn hdis hk hFc hP1 hD1
  exact kk u H1 locs1 hw hP2 hD2 hS1
end

abbrev rowsL : List Nat := [6, 7, 8, 9, 10, 11, 12, 13, 14, 15, 16, 17]
abbrev isRow (k : Nat) : Prop := 6 ≤ k ∧ k < 18
/-- the place of a row's pages -/
abbrev nRow : Nat := 12
/-- a Row object -/
abbrev rwc (ci : Nat) (ob : Nat → Nat) (S : St) (k : Nat) : Nat × va_E := (ob k, .inr (ci, [.ref (ob (k + nRow)), .int (nI (gn S k))]))
/-- its row of pages -/
abbrev pgc (cP : ClassId) (ob : Nat → Nat) (ad : Nat → Nat → Nat) (S : St) (k : Nat) : Nat × va_E := (ob (k + nRow), .inl (cP, gn S (k + nRow), .inr (.inr (.inr (.inr (fun j => cond (Nat.blt j (gn S k)) (some (ad k j)) none))))))
/-- the pages of one row -/
def pgs (cA : ClassId) (a : Nat → Nat) (n : Nat) (f : Nat → Int32) : va_W := (List.range n).map (fun j => (a j, .inl (cA, 32, .inl (fun x => cond (Nat.blt x 32) (f (32 * j + x)) 0))))
def dy (cA : ClassId) (ad : Nat → Nat → Nat) (n : Nat → Nat) (f : Nat → Nat → Int32) : va_W := pgs cA (ad 6) (n 6) (f 6) ++ (pgs cA (ad 7) (n 7) (f 7) ++ (pgs cA (ad 8) (n 8) (f 8) ++ (pgs cA (ad 9) (n 9) (f 9) ++ (pgs cA (ad 10) (n 10) (f 10) ++ (pgs cA (ad 11) (n 11) (f 11) ++ (pgs cA (ad 12) (n 12) (f 12) ++ (pgs cA (ad 13) (n 13) (f 13) ++ (pgs cA (ad 14) (n 14) (f 14) ++ (pgs cA (ad 15) (n 15) (f 15) ++ (pgs cA (ad 16) (n 16) (f 16) ++ (pgs cA (ad 17) (n 17) (f 17))))))))))))
/-- the cells of this side; rows: 6 xs, 7 ys, 8 starts, 9 twins, 10 leaving, 11 marks, 12 pit, 13 rim, 14 edges, 15 spare, 16 ends, 17 corners; arrays: 30 found; ints: 0 PlaneNet.closestLower, 1 PlaneNet.closestOther, 2 PlaneNet$Points.room, 3 PlaneNet$Points.size, 4 PlaneNet$Net.ghost, 5 PlaneNet$Net.mark, 6 PlaneNet$Net.all, 7 PlaneNet$Net.outer, 8 PlaneNet$Net.pitSize, 9 PlaneNet$Net.rimSize, 10 PlaneNet$Roll.fresh, 11 PlaneNet$Outline.size, 12 PlaneNet$Outline.fresh; longs: 0 PlaneNet.closestGap, 1 PlaneNet$Wide.high, 2 PlaneNet$Wide.low -/
def cwF (cA cP : ClassId) (ob : Nat → Nat) (ad : Nat → Nat → Nat) (S : St) : va_W := [(ob 0, .inr (0, [.ref (ob 1), .ref (ob 3), .ref (ob 4), .ref (ob 5), .ref (ob 30), .long (gl S 0), .int (gi S 0), .int (gi S 1)])), (ob 1, .inr (1, [.int (gi S 2), .int (gi S 3), .ref (ob 6), .ref (ob 7), .ref (ob 2)])), (ob 2, .inr (2, [.long (gl S 1), .long (gl S 2)])), (ob 3, .inr (3, [.ref (ob 1), .int (gi S 4), .ref (ob 8), .ref (ob 9), .ref (ob 10), .ref (ob 11), .ref (ob 12), .ref (ob 13), .int (gi S 5), .int (gi S 6), .int (gi S 7), .int (gi S 8), .int (gi S 9)])), (ob 4, .inr (4, [.ref (ob 1), .ref (ob 3), .ref (ob 14), .ref (ob 15), .ref (ob 16), .int (gi S 10)])), (ob 5, .inr (5, [.ref (ob 1), .ref (ob 3), .ref (ob 17), .int (gi S 11), .int (gi S 12)])), rwc 6 ob S 6, rwc 6 ob S 7, rwc 6 ob S 8, rwc 6 ob S 9, rwc 6 ob S 10, rwc 6 ob S 11, rwc 6 ob S 12, rwc 6 ob S 13, rwc 6 ob S 14, rwc 6 ob S 15, rwc 6 ob S 16, rwc 6 ob S 17, pgc cP ob ad S 6, pgc cP ob ad S 7, pgc cP ob ad S 8, pgc cP ob ad S 9, pgc cP ob ad S 10, pgc cP ob ad S 11, pgc cP ob ad S 12, pgc cP ob ad S 13, pgc cP ob ad S 14, pgc cP ob ad S 15, pgc cP ob ad S 16, pgc cP ob ad S 17, (ob 30, .inl (cA, gn S 30, .inl (ga S 30)))]
def cw (cA cP : ClassId) (ob : Nat → Nat) (ad : Nat → Nat → Nat) (S : St) : va_W := cwF cA cP ob ad S ++ dy cA ad S.2.2.1 S.2.2.2
abbrev isArrc (k : Nat) : Prop := 30 ≤ k ∧ k < 31
theorem cw_arr {cA cP : ClassId} {ob : Nat → Nat} {ad : Nat → Nat → Nat} (S : St) {k : Nat} (h : isArrc k) : (cw cA cP ob ad S)[k]? = some (ob k, .inl (cA, gn S k, .inl (ga S k))) := by
  obtain rfl : k = 30 := by have := h.1; have := h.2; omega
  rfl
theorem cw_set {cA cP : ClassId} {ob : Nat → Nat} {ad : Nat → Nat → Nat} (S : St) (f : Nat → Int32) {k : Nat} (h : isArrc k) : (cw cA cP ob ad S).set k (ob k, .inl (cA, gn S k, .inl f)) = cw cA cP ob ad (seta S k f) := by
  obtain rfl : k = 30 := by have := h.1; have := h.2; omega
  rfl
theorem cw_row {cA cP : ClassId} {ob : Nat → Nat} {ad : Nat → Nat → Nat} (S : St) {k : Nat} (h : isRow k) : (cw cA cP ob ad S)[k]? = some (rwc 6 ob S k) := by
  rcases (show k = 6 ∨ k = 7 ∨ k = 8 ∨ k = 9 ∨ k = 10 ∨ k = 11 ∨ k = 12 ∨ k = 13 ∨ k = 14 ∨ k = 15 ∨ k = 16 ∨ k = 17 by have := h.1; have := h.2; omega) with rfl | rfl | rfl | rfl | rfl | rfl | rfl | rfl | rfl | rfl | rfl | rfl <;> rfl
theorem cw_pgc {cA cP : ClassId} {ob : Nat → Nat} {ad : Nat → Nat → Nat} (S : St) {k : Nat} (h : isRow k) : (cw cA cP ob ad S)[k + nRow]? = some (pgc cP ob ad S k) := by
  rcases (show k = 6 ∨ k = 7 ∨ k = 8 ∨ k = 9 ∨ k = 10 ∨ k = 11 ∨ k = 12 ∨ k = 13 ∨ k = 14 ∨ k = 15 ∨ k = 16 ∨ k = 17 by have := h.1; have := h.2; omega) with rfl | rfl | rfl | rfl | rfl | rfl | rfl | rfl | rfl | rfl | rfl | rfl <;> rfl
/-- the cells of this side; rows: ; arrays: 1 xs, 2 ys, 3 t0, 4 t1, 5 t2, 6 corner, 7 from, 8 to, 9 cell, 10 row, 11 located; ints: 0 PlaneNetModel.thrown, 1 PlaneNetModel.most, 2 PlaneNetModel.n, 3 PlaneNetModel.known, 4 PlaneNetModel.triangles, 5 PlaneNetModel.corners, 6 PlaneNetModel.sides, 7 PlaneNetModel.looked, 8 PlaneNetModel.celled, 9 PlaneNetModel.near; longs: 0 PlaneNetModel.d0, 1 PlaneNetModel.d1, 2 PlaneNetModel.d2, 3 PlaneNetModel.d3, 4 PlaneNetModel.d4 -/
def mw (cA cP : ClassId) (ob : Nat → Nat) (ad : Nat → Nat → Nat) (S : St) : va_W := [(ob 0, .inr (7, [.int (gi S 0), .int (gi S 1), .int (gi S 2), .ref (ob 1), .ref (ob 2), .int (gi S 3), .int (gi S 4), .ref (ob 3), .ref (ob 4), .ref (ob 5), .int (gi S 5), .ref (ob 6), .int (gi S 6), .int (gi S 7), .ref (ob 7), .ref (ob 8), .int (gi S 8), .ref (ob 9), .long (gl S 0), .long (gl S 1), .long (gl S 2), .long (gl S 3), .long (gl S 4), .int (gi S 9), .ref (ob 10), .ref (ob 11)])), (ob 1, .inl (cA, gn S 1, .inl (ga S 1))), (ob 2, .inl (cA, gn S 2, .inl (ga S 2))), (ob 3, .inl (cA, gn S 3, .inl (ga S 3))), (ob 4, .inl (cA, gn S 4, .inl (ga S 4))), (ob 5, .inl (cA, gn S 5, .inl (ga S 5))), (ob 6, .inl (cA, gn S 6, .inl (ga S 6))), (ob 7, .inl (cA, gn S 7, .inl (ga S 7))), (ob 8, .inl (cA, gn S 8, .inl (ga S 8))), (ob 9, .inl (cA, gn S 9, .inl (ga S 9))), (ob 10, .inl (cA, gn S 10, .inl (ga S 10))), (ob 11, .inl (cA, gn S 11, .inl (ga S 11)))]
abbrev isArrm (k : Nat) : Prop := 1 ≤ k ∧ k < 12
theorem mw_arr {cA cP : ClassId} {ob : Nat → Nat} {ad : Nat → Nat → Nat} (S : St) {k : Nat} (h : isArrm k) : (mw cA cP ob ad S)[k]? = some (ob k, .inl (cA, gn S k, .inl (ga S k))) := by
  rcases (show k = 1 ∨ k = 2 ∨ k = 3 ∨ k = 4 ∨ k = 5 ∨ k = 6 ∨ k = 7 ∨ k = 8 ∨ k = 9 ∨ k = 10 ∨ k = 11 by have := h.1; have := h.2; omega) with rfl | rfl | rfl | rfl | rfl | rfl | rfl | rfl | rfl | rfl | rfl <;> rfl
theorem mw_set {cA cP : ClassId} {ob : Nat → Nat} {ad : Nat → Nat → Nat} (S : St) (f : Nat → Int32) {k : Nat} (h : isArrm k) : (mw cA cP ob ad S).set k (ob k, .inl (cA, gn S k, .inl f)) = mw cA cP ob ad (seta S k f) := by
  rcases (show k = 1 ∨ k = 2 ∨ k = 3 ∨ k = 4 ∨ k = 5 ∨ k = 6 ∨ k = 7 ∨ k = 8 ∨ k = 9 ∨ k = 10 ∨ k = 11 by have := h.1; have := h.2; omega) with rfl | rfl | rfl | rfl | rfl | rfl | rfl | rfl | rfl | rfl | rfl <;> rfl
end
section
/-! ROWS: a Row is a row of pages; what its four methods do, over the whole world. -/
section
variable {p : Program} {l : Launch} {e : Env} {R : Room} {s : State} {m : MethodId} {args : Array Value} {below : List Frame} {meth : Method} {c : Code} {H : Heap} {locs : List Loc} {cells slots : Nat} {Q : State → Prop}
variable {cc : ByteArray} {pc : Nat} {ls : Array Slot} {rest : List Value} {D : va_G} {cl : List vw_C} {A : Nat → Prop} {a : Nat} {cA cP : ClassId} {ws : va_W} {H0 : Heap}
theorem rw_cls (hN : NW s) (hK : va_K D cl (TY cA cP) s) : ∃ kP kA : Class, s.vm.classes[cP]? = some kP ∧ kP.kind = .array cA (.array .int) ∧ s.vm.classes[cA]? = some kA := by
  have hw : va_Nw (.arrayOver (.array .int)) s := hN.2.2
  obtain ⟨comp, c, k, h1, h2, h3, h4, h5⟩ := arrayOverA_spec hw
  have r0 := (hK.2 0 (cA, .int) rfl).2
  have r1 := (hK.2 1 (cP, .array .int) rfl).2
  have e0 : comp = cA := Option.some.inj (h1.symm.trans r0)
  have e1 : c = cP := Option.some.inj (h5.symm.trans r1)
  subst e0 e1
  obtain ⟨-, kA, hkA, -⟩ := (hK.2 0 (comp, .int) rfl).1 0 (fun _ => .int 0)
  exact ⟨k, kA, h3, h4, hkA⟩
theorem va_ald2 (hexec : p.tables.exec = Jvm.exec) (hb : c.code = cc) (hK : va_K D cl (TY cA cP) s) (hP : va_P D cl ws H) (q0 : Nat) {n : Nat} {f : Nat → Option Nat} (ha : ws[q0]? = some (a, .inl (cP, n, .inr (.inr (.inr (.inr f)))))) {i : Int32} (hin : vp_in i n) (hdg : decode cc pc = .ok (.aaload, 1))
    (kk : W p l e R s m args below meth c H locs cells slots Q (F0 m (pc + 1) ls (va_rf (f i.toNatClampNeg) :: rest))) : W p l e R s m args below meth c H locs cells slots Q (F0 m pc ls (.int i :: .ref a :: rest)) := by
  have hlt : i.toNatClampNeg < n := Nat.not_le.mp fun q => hin (Or.inr q)
  exact W.aald (v := va_rf (f i.toNatClampNeg)) (ty := .array .int) hexec hb (hP q0 _ ha) ((hK.2 1 _ rfl).1 n (fun j => va_rf (f j))) rfl (fun q => by cases q) (by show ¬ (i < 0 ∨ (arrV _ _ _).slots.size ≤ _); rw [arrV_size]; exact hin) (by show (arrV _ _ _).slots[_]? = _; rw [arrV_read _ _ hlt]) rfl rfl hdg kk
theorem va_ast2 (hexec : p.tables.exec = Jvm.exec) (hb : c.code = cc) (hN : NW s) (hK : va_K D cl (TY cA cP) s) (hP : va_P D cl ws H) (hD : va_D A ws) (hS : va_S A H0 H locs) (q0 qk : Nat) {n v : Nat} {x : vp_A} {f : Nat → Option Nat} (ha : ws[q0]? = some (a, .inl (cP, n, .inr (.inr (.inr (.inr f)))))) (hv : ws[qk]? = some (v, .inl (cA, x))) {i : Int32} (hin : vp_in i n) (hdg : decode cc pc = .ok (.aastore, 1))
    (kk : ∀ (H1 : Heap) (locs1 : List Loc), va_P D cl (ws.set q0 (a, .inl (cP, n, .inr (.inr (.inr (.inr (va_up f i.toNatClampNeg (some v)))))))) H1 → va_D A (ws.set q0 (a, .inl (cP, n, .inr (.inr (.inr (.inr (va_up f i.toNatClampNeg (some v)))))))) → va_S A H0 H1 locs1 → W p l e R s m args below meth c H1 locs1 cells slots Q (F0 m (pc + 1) ls rest)) : W p l e R s m args below meth c H locs cells slots Q (F0 m pc ls (.ref v :: .int i :: .ref a :: rest)) := by
  have hlt : i.toNatClampNeg < n := Nat.not_le.mp fun q => hin (Or.inr q)
  have h0 : ¬ i < 0 := fun q => hin (Or.inl q)
  obtain ⟨kP, kA, k1, k2, k3⟩ := rw_cls hN hK
  have hcv : H[v]? = some (vp_cell cA x) := hP qk _ hv
  have hcls : (vp_cell cA x).cls = cA := by obtain ⟨n', f | f | f | f | f⟩ := x <;> rfl
  have hvm : (vp_cell cA x).vm = .none := by obtain ⟨n', f | f | f | f | f⟩ := x <;> rfl
  refine W.aast hexec hb (hP q0 _ ha) (fun q h => by cases h) (fun h => by cases h) k1 k2 rfl k3 ⟨h0, by show _ < (arrV _ _ _).slots.size; rw [arrV_size]; exact hlt⟩ hcv (fun q h => by rw [hvm] at h; cases h) (by rw [hcls]; exact k3) (by rw [hcls]; simp [Vm.assignable, Vm.assignableAux]) rfl rfl hdg fun H1 e z oq => ?_
  refine kk H1 _ (hP.set hD ha ?_ oq) (hD.set ha) (hS.put z oq (hD.2 q0 _ ha))
  show H1[a]? = some (vp_cell _ _)
  rw [e]
  rw [vp_cell_q, vp_cell_q, arrV_store]
  congr 2
  funext q
  by_cases hq : q = i.toNatClampNeg
  · subst hq
    simp [updV, va_up, va_rf]
  · simp [updV, va_up, hq]
theorem va_new2 (hexec : p.tables.exec = Jvm.exec) (hb : c.code = cc) {own : String} {index : Nat} (hown : s.vm.findClass own = some m.cls) (hclink : (Cond.classLink own index (FieldType.array .int).toString).before args s = true) (hN : NW s) (hK : va_K D cl (TY cA cP) s) (hP : va_P D cl ws H) (hD : va_D A ws) (hS : va_S A H0 H locs) (hA : ∀ q, H0.size ≤ q → A q)
    {n : Int32} {N' : Nat} (hn : ¬ n < 0) (hN' : n.toNatClampNeg = N') (hbytes : N' * 4 ≤ 536870912) (hcells : cells + 1 ≤ R.cells) (hslots : slots + N' ≤ R.slots) (hdg : decode cc pc = .ok (.anewarray index, 3))
    (kk : ∀ (q : Nat) (H1 : Heap), va_P D cl (ws ++ [(q, .inl (cP, N', .inr (.inr (.inr (.inr (fun _ => none))))))]) H1 → va_D A (ws ++ [(q, .inl (cP, N', .inr (.inr (.inr (.inr (fun _ => none))))))]) → va_S A H0 H1 locs →
      W p l e R s m args below meth c H1 locs (cells + 1) (slots + N') Q (F0 m (pc + 3) ls (.ref q :: rest))) : W p l e R s m args below meth c H locs cells slots Q (F0 m pc ls (.int n :: rest)) := by
  subst hN'
  have hw : va_Nw (.arrayOver (.array .int)) s := hN.2.2
  refine W.anewA (t := .int) hexec hb hown hclink hw rfl hdg rfl hn hbytes hcells hslots fun cB kA comp f1 f2 f3 f4 => ?_
  have r1 := (hK.2 1 (cP, .array .int) rfl).2
  obtain rfl : cB = cP := Option.some.inj (f1.symm.trans r1)
  generalize hH1 : H.push ({ cls := cB, slots := Array.replicate n.toNatClampNeg .null, vm := .none } : Cell) = H1
  have z1 : H1.size = H.size + 1 := by rw [← hH1, Array.size_push]
  have e1 : H1[H.size]? = some (arrV cB n.toNatClampNeg (fun _ => .null)) := by rw [← hH1, Array.getElem?_push_size, ← arrV_new]
  have o1 : ∀ q : Nat, q < H.size → H1[q]? = H[q]? := fun q hq => by rw [← hH1, Array.getElem?_push_lt hq]; simp [hq]
  refine kk H.size H1 ((hP.kept (fun k x hx => o1 x.1 ((hP k x hx).lt))).app (fun k x hx => ?_)) (hD.push hP rfl (hA _ hS.1)) ⟨Nat.le_trans hS.1 (by omega), fun x h1 h2 => (o1 x (Nat.lt_of_lt_of_le h1 hS.1)).trans (hS.2.1 x h1 h2), hS.2.2⟩
  have hz : k < 1 := (List.getElem?_eq_some_iff.mp hx).1
  rw [show k = 0 by omega] at hx
  cases hx
  show H1[H.size]? = some (vp_cell _ _)
  rw [vp_cell_q]
  exact e1
end
/-! worlds as sets of cells -/
theorem P_mem {D : va_G} {cl : List vw_C} {ws : va_W} {H : Heap} : va_P D cl ws H ↔ ∀ q ∈ ws, va_at D cl q H := by
  constructor
  · intro h q hq
    obtain ⟨k, hk⟩ := List.getElem?_of_mem hq
    exact h k q hk
  · intro h k q hk
    exact h q (List.mem_of_getElem? hk)
abbrev WD (ws : va_W) : Prop := ws.Pairwise (fun x y => x.1 ≠ y.1)
theorem D_mem {A : Nat → Prop} {ws : va_W} : va_D A ws ↔ WD ws ∧ ∀ q ∈ ws, A q.1 := by
  constructor
  · intro h
    refine ⟨List.pairwise_iff_getElem.mpr (fun i j hi hj hij e => ?_), fun q hq => ?_⟩
    · have := h.1 i j _ _ (List.getElem?_eq_getElem hi) (List.getElem?_eq_getElem hj) e
      omega
    · obtain ⟨k, hk⟩ := List.getElem?_of_mem hq
      exact h.2 k q hk
  · intro h
    refine ⟨fun i j x y hx hy e => ?_, fun k q hk => h.2 q (List.mem_of_getElem? hk)⟩
    obtain ⟨hi, rfl⟩ := List.getElem?_eq_some_iff.mp hx
    obtain ⟨hj, rfl⟩ := List.getElem?_eq_some_iff.mp hy
    have hp := List.pairwise_iff_getElem.mp h.1
    rcases Nat.lt_trichotomy i j with q | q | q
    · exact absurd e (hp i j hi hj q)
    · exact q
    · exact absurd e.symm (hp j i hj hi q)
theorem P_perm {D : va_G} {cl : List vw_C} {ws ws' : va_W} {H : Heap} (h : ws.Perm ws') (hP : va_P D cl ws H) : va_P D cl ws' H := P_mem.mpr fun q hq => P_mem.mp hP q (h.mem_iff.mpr hq)
theorem D_perm {A : Nat → Prop} {ws ws' : va_W} (h : ws.Perm ws') (hD : va_D A ws) : va_D A ws' := by
  rw [D_mem] at hD ⊢
  exact ⟨(h.pairwise_iff (fun h => Ne.symm h)).mp hD.1, fun q hq => hD.2 q (h.mem_iff.mpr hq)⟩
theorem D_map {A : Nat → Prop} {ws ws' : va_W} (h : ws.map Prod.fst = ws'.map Prod.fst) (hD : va_D A ws) : va_D A ws' := by
  rw [D_mem] at hD ⊢
  have e : ∀ w : va_W, WD w ↔ (w.map Prod.fst).Pairwise (· ≠ ·) := fun w => List.pairwise_map.symm
  refine ⟨(e ws').mpr (h ▸ (e ws).mp hD.1), fun q hq => ?_⟩
  have hq' : q.1 ∈ ws.map Prod.fst := by rw [h]; exact List.mem_map_of_mem hq
  obtain ⟨q2, h2, h3⟩ := List.mem_map.mp hq'
  rw [← h3]
  exact hD.2 q2 h2
theorem P_set {D : va_G} {cl : List vw_C} {A : Nat → Prop} {ws ws' : va_W} {H : Heap} {i a : Nat} {e0 e : va_E} (hD : va_D A ws) (hp : ws[i]? = some (a, e0)) (hP : va_P D cl (ws.set i (a, e)) H) (h : ∀ q ∈ ws', q = (a, e) ∨ (q ∈ ws ∧ q.1 ≠ a)) : va_P D cl ws' H := by
  refine P_mem.mpr fun q hq => ?_
  have hlt := (List.getElem?_eq_some_iff.mp hp).1
  rcases h q hq with rfl | ⟨h1, h2⟩
  · exact hP i _ (by rw [List.getElem?_set_self hlt])
  · obtain ⟨j, hj⟩ := List.getElem?_of_mem h1
    have hne : i ≠ j := fun e => by
      subst e
      rw [hp] at hj
      exact h2 (congrArg Prod.fst (Option.some.inj hj)).symm
    exact hP j q (by rw [List.getElem?_set_ne hne]; exact hj)
/-! the pages -/
def pg (f : Nat → Int32) (j : Nat) : Nat → Int32 := fun x => cond (Nat.blt x 32) (f (32 * j + x)) 0
theorem dy_flat (cA : ClassId) (ad : Nat → Nat → Nat) (n : Nat → Nat) (f : Nat → Nat → Int32) : dy cA ad n f = (List.range' 6 12).flatMap (fun k => pgs cA (ad k) (n k) (f k)) := by
  rw [show List.range' 6 12 = rowsL from rfl]
  simp [dy, List.flatMap_cons]
theorem mem_pgs {cA : ClassId} {a : Nat → Nat} {n : Nat} {f : Nat → Int32} {q : Nat × va_E} : q ∈ pgs cA a n f ↔ ∃ j, j < n ∧ q = (a j, .inl (cA, 32, .inl (pg f j))) := by
  unfold pgs
  rw [List.mem_map]
  constructor
  · rintro ⟨j, hj, rfl⟩
    exact ⟨j, List.mem_range.mp hj, rfl⟩
  · rintro ⟨j, hj, rfl⟩
    exact ⟨j, List.mem_range.mpr hj, rfl⟩
theorem mem_dy {cA : ClassId} {ad : Nat → Nat → Nat} {n : Nat → Nat} {f : Nat → Nat → Int32} {q : Nat × va_E} : q ∈ dy cA ad n f ↔ ∃ k, isRow k ∧ ∃ j, j < n k ∧ q = (ad k j, .inl (cA, 32, .inl (pg (f k) j))) := by
  rw [dy_flat, List.mem_flatMap]
  constructor
  · rintro ⟨k, hk, h⟩
    have := List.mem_range'_1.mp hk
    exact ⟨k, ⟨this.1, by omega⟩, mem_pgs.mp h⟩
  · rintro ⟨k, hk, h⟩
    exact ⟨k, List.mem_range'_1.mpr ⟨hk.1, by have := hk.2; omega⟩, mem_pgs.mpr h⟩
theorem ad_inj {cA : ClassId} {ad : Nat → Nat → Nat} {n : Nat → Nat} {f : Nat → Nat → Int32} (hD : WD (dy cA ad n f)) {k k' j j' : Nat} (hk : isRow k) (hk' : isRow k') (hj : j < n k) (hj' : j' < n k') (e : ad k j = ad k' j') : k = k' ∧ j = j' := by
  rw [dy_flat] at hD
  have h2 := List.pairwise_flatMap.mp hD
  have hm : ∀ {k j}, isRow k → j < n k → (ad k j, (.inl (cA, 32, .inl (pg (f k) j)) : va_E)) ∈ pgs cA (ad k) (n k) (f k) := fun hk hj => mem_pgs.mpr ⟨_, hj, rfl⟩
  have hx : ∀ {k k' j j' : Nat}, isRow k → isRow k' → j < n k → j' < n k' → k < k' → ad k j ≠ ad k' j' := by
    intro k k' j j' hk hk' hj hj' hlt
    have h3 := List.pairwise_iff_getElem.mp h2.2 (k - 6) (k' - 6) (by have := hk.2; simp; omega) (by have := hk'.2; simp; omega) (by have := hk.1; omega)
    rw [List.getElem_range', List.getElem_range', show 6 + 1 * (k - 6) = k by have := hk.1; omega, show 6 + 1 * (k' - 6) = k' by have := hk'.1; omega] at h3
    exact h3 _ (hm hk hj) _ (hm hk' hj')
  rcases Nat.lt_trichotomy k k' with q | q | q
  · exact absurd e (hx hk hk' hj hj' q)
  · subst q
    refine ⟨rfl, ?_⟩
    have h4 := h2.1 k (List.mem_range'_1.mpr ⟨hk.1, by have := hk.2; omega⟩)
    unfold pgs at h4
    rw [List.pairwise_map] at h4
    have h5 := List.pairwise_iff_getElem.mp h4
    rcases Nat.lt_trichotomy j j' with w | w | w
    · have := h5 j j' (by simpa using hj) (by simpa using hj') w
      simp only [List.getElem_range] at this
      exact absurd e this
    · exact w
    · have := h5 j' j (by simpa using hj') (by simpa using hj) w
      simp only [List.getElem_range] at this
      exact absurd e.symm this
  · exact absurd e.symm (hx hk' hk hj' hj q)
section
variable {cA cP : ClassId} {ob : Nat → Nat} {ad : Nat → Nat → Nat} {S : St} {k : Nat} {A : Nat → Prop} {D : va_G} {H : Heap}
theorem cw_page (S : St) (hk : isRow k) {j : Nat} (hj : j < gn S k) : ∃ i : Nat, (cw cA cP ob ad S)[i]? = some (ad k j, .inl (cA, 32, .inl (pg (ga S k) j))) :=
  List.getElem?_of_mem (List.mem_append_right _ (mem_dy.mpr ⟨k, hk, j, hj, rfl⟩))
theorem cwF_seta (hk : isRow k) (f : Nat → Int32) : cwF cA cP ob ad (seta S k f) = cwF cA cP ob ad S := by
  rcases (show k = 6 ∨ k = 7 ∨ k = 8 ∨ k = 9 ∨ k = 10 ∨ k = 11 ∨ k = 12 ∨ k = 13 ∨ k = 14 ∨ k = 15 ∨ k = 16 ∨ k = 17 by have := hk.1; have := hk.2; omega) with rfl | rfl | rfl | rfl | rfl | rfl | rfl | rfl | rfl | rfl | rfl | rfl <;> rfl
theorem up1_same {α : Type} (f : Nat → α) (k : Nat) (v : α) : up1 f k v k = v := by simp [up1, Nat.beq_refl]
theorem up1_ne {α : Type} (f : Nat → α) {k j : Nat} (v : α) (h : j ≠ k) : up1 f k v j = f j := by
  have : Nat.beq j k = false := by
    cases e : Nat.beq j k with
    | false => rfl
    | true => exact absurd (Nat.eq_of_beq_eq_true e) h
  simp [up1, this]
theorem dy_fst (cA : ClassId) (ad : Nat → Nat → Nat) (n : Nat → Nat) (f g : Nat → Nat → Int32) : (dy cA ad n f).map Prod.fst = (dy cA ad n g).map Prod.fst := by
  simp [dy, pgs, Function.comp_def]
theorem cw_put (hk : isRow k) {j x : Nat} (hj : j < gn S k) (hx : x < 32) (v : Int32) {i : Nat} (hD : va_D A (cw cA cP ob ad S)) (hi : (cw cA cP ob ad S)[i]? = some (ad k j, .inl (cA, 32, .inl (pg (ga S k) j))))
    (hP : va_P D clC ((cw cA cP ob ad S).set i (ad k j, .inl (cA, 32, .inl (upd (pg (ga S k) j) x v)))) H) :
    va_P D clC (cw cA cP ob ad (seta S k (upd (ga S k) (32 * j + x) v))) H ∧ va_D A (cw cA cP ob ad (seta S k (upd (ga S k) (32 * j + x) v))) := by
  constructor
  · refine P_set hD hi hP fun q hq => ?_
    have hW := (D_mem.mp hD).1
    have hWx := List.pairwise_append.mp hW
    rcases List.mem_append.mp hq with h | h
    · rw [cwF_seta hk] at h
      exact Or.inr ⟨List.mem_append_left _ h, hWx.2.2 q h (ad k j, .inl (cA, 32, .inl (pg (ga S k) j))) (mem_dy.mpr ⟨k, hk, j, hj, rfl⟩)⟩
    · obtain ⟨k', hk', j', hj', rfl⟩ := mem_dy.mp h
      have hj2 : j' < gn S k' := hj'
      by_cases hkk : k' = k
      · subst hkk
        by_cases hjj : j' = j
        · subst hjj
          left
          have : pg (up1 S.2.2.2 k' (upd (ga S k') (32 * j' + x) v) k') j' = upd (pg (ga S k') j') x v := by
            rw [up1_same]
            funext y
            simp only [pg, upd]
            by_cases hy : y = x
            · subst hy
              simp [hx]
            · rw [if_neg hy, if_neg (by omega)]
          show (ad k' j', _) = _
          rw [← this]
          rfl
        · right
          have : pg (up1 S.2.2.2 k' (upd (ga S k') (32 * j + x) v) k') j' = pg (ga S k') j' := by
            rw [up1_same]
            funext y
            simp only [pg, upd]
            by_cases hy : y < 32
            · rw [if_neg (by omega)]
            · have : Nat.blt y 32 = false := by simpa using hy
              simp [this]
          refine ⟨List.mem_append_right _ (mem_dy.mpr ⟨k', hk', j', hj2, ?_⟩), fun e => hjj (ad_inj hWx.2.1 hk' hk' hj2 hj e).2⟩
          show (ad k' j', _) = _
          rw [← this]
          rfl
      · right
        have : up1 S.2.2.2 k (upd (ga S k) (32 * j + x) v) k' = ga S k' := up1_ne _ _ hkk
        refine ⟨List.mem_append_right _ (mem_dy.mpr ⟨k', hk', j', hj2, ?_⟩), fun e => hkk (ad_inj hWx.2.1 hk' hk hj2 hj e).1⟩
        show (ad k' j', _) = _
        rw [← this]
        rfl
  · refine D_map ?_ hD
    unfold cw
    rw [List.map_append, List.map_append, cwF_seta hk]
    exact congrArg _ (dy_fst _ _ _ _ _)
def newp (f : Nat → Int32) (m : Nat) : Nat → Int32 := fun x => cond (Nat.beq (x / 32) m) 0 (f x)
/-- a page more -/
def grow (S : St) (k : Nat) : St := (S.1, S.2.1, up1 S.2.2.1 k (gn S k + 1), up1 S.2.2.2 k (newp (ga S k) (gn S k)))
theorem perm_flat {α : Type} {g g' : Nat → List α} {x : α} {k : Nat} : ∀ (l : List Nat), l.Nodup → k ∈ l → (∀ i ∈ l, i ≠ k → g' i = g i) → g' k = g k ++ [x] → (l.flatMap g').Perm (l.flatMap g ++ [x])
  | [], _, hk, _, _ => absurd hk List.not_mem_nil
  | a :: l, hn, hk, ho, he => by
    have hn' := List.nodup_cons.mp hn
    rw [List.flatMap_cons, List.flatMap_cons]
    by_cases hak : k = a
    · subst hak
      have hr : l.flatMap g' = l.flatMap g := by
        have : ∀ i ∈ l, g' i = g i := fun i hi => ho i (List.mem_cons_of_mem _ hi) (fun e => hn'.1 (e ▸ hi))
        simp only [List.flatMap_def]
        rw [List.map_congr_left this]
      rw [hr, he, List.append_assoc, List.append_assoc]
      exact (List.perm_append_comm).append_left _
    · have hkl : k ∈ l := (List.mem_cons.mp hk).resolve_left hak
      rw [ho a List.mem_cons_self (fun e => hak e.symm), List.append_assoc]
      exact (perm_flat l hn'.2 hkl (fun i hi => ho i (List.mem_cons_of_mem _ hi)) he).append_left _
theorem dy_grow (hk : isRow k) (q : Nat) : (dy cA (up1 ad k (up1 (ad k) (gn S k) q)) (grow S k).2.2.1 (grow S k).2.2.2).Perm (dy cA ad S.2.2.1 S.2.2.2 ++ [(q, .inl (cA, 32, .inl (fun _ => 0)))]) := by
  rw [dy_flat, dy_flat]
  refine perm_flat (k := k) (List.range' 6 12) (by decide) (List.mem_range'_1.mpr ⟨hk.1, by have := hk.2; omega⟩) (fun i _ hi => ?_) ?_
  · show pgs cA (up1 ad k _ i) (up1 S.2.2.1 k _ i) (up1 S.2.2.2 k _ i) = _
    rw [up1_ne _ _ hi, up1_ne _ _ hi, up1_ne _ _ hi]
  · show pgs cA (up1 ad k _ k) (up1 S.2.2.1 k _ k) (up1 S.2.2.2 k _ k) = _
    rw [up1_same, up1_same, up1_same]
    unfold pgs
    rw [List.range_succ, List.map_append]
    refine congr (congrArg _ (List.map_congr_left fun j hj => ?_)) ?_
    · have hj' : j < gn S k := List.mem_range.mp hj
      show (up1 (ad k) (gn S k) q j, _) = (ad k j, _)
      rw [up1_ne _ _ (Nat.ne_of_lt hj')]
      have : (fun x => cond (Nat.blt x 32) (newp (ga S k) (gn S k) (32 * j + x)) 0) = (fun x => cond (Nat.blt x 32) (ga S k (32 * j + x)) 0) := by
        funext x
        by_cases hx : x < 32
        · have h1 : Nat.beq ((32 * j + x) / 32) (gn S k) = false := by
            rw [show (32 * j + x) / 32 = j by omega]
            cases e : Nat.beq j (gn S k) with
            | false => rfl
            | true => have := Nat.eq_of_beq_eq_true e; omega
          simp [newp, h1]
        · have : Nat.blt x 32 = false := by simpa using hx
          simp [this]
      rw [this]
    · show [(up1 (ad k) (gn S k) q (gn S k), _)] = [(q, _)]
      rw [up1_same]
      have : (fun x => cond (Nat.blt x 32) (newp (ga S k) (gn S k) (32 * gn S k + x)) 0) = (fun _ => (0 : Int32)) := by
        funext x
        by_cases hx : x < 32
        · have h1 : Nat.beq ((32 * gn S k + x) / 32) (gn S k) = true := by
            rw [show (32 * gn S k + x) / 32 = gn S k by omega]
            exact Nat.beq_refl _
          simp [newp, h1]
        · have : Nat.blt x 32 = false := by simpa using hx
          simp [this]
      rw [this]
theorem refs_grow (a : Nat → Nat) (n q : Nat) : va_up (fun j => cond (Nat.blt j n) (some (a j)) none) n (some q) = (fun j => cond (Nat.blt j (n + 1)) (some (up1 a n q j)) none) := by
  funext j
  by_cases h : j = n
  · subst h
    have : Nat.blt j (j + 1) = true := by simp
    rw [this]
    simp [va_up, up1_same]
  · rw [va_up_ne _ _ h, up1_ne _ _ h]
    by_cases h2 : j < n
    · have h3 : Nat.blt j n = true := by simpa using h2
      have h4 : Nat.blt j (n + 1) = true := by simp; omega
      rw [h3, h4]
    · have h3 : Nat.blt j n = false := by simpa using h2
      have h4 : Nat.blt j (n + 1) = false := by simp; omega
      rw [h3, h4]
theorem cw_grow1 (hk : isRow k) (q : Nat) (z : Nat × va_E) : ((cw cA cP ob ad S ++ [z]).set (k + nRow) (ob (k + nRow), .inl (cP, gn S (k + nRow), .inr (.inr (.inr (.inr (fun j => cond (Nat.blt j (gn S k + 1)) (some (up1 (ad k) (gn S k) q j)) none))))))).set k (ob k, .inr (6, [.ref (ob (k + nRow)), .int (nI (gn S k + 1))])) = cwF cA cP ob (up1 ad k (up1 (ad k) (gn S k) q)) (grow S k) ++ (dy cA ad S.2.2.1 S.2.2.2 ++ [z]) := by
  rcases (show k = 6 ∨ k = 7 ∨ k = 8 ∨ k = 9 ∨ k = 10 ∨ k = 11 ∨ k = 12 ∨ k = 13 ∨ k = 14 ∨ k = 15 ∨ k = 16 ∨ k = 17 by have := hk.1; have := hk.2; omega) with rfl | rfl | rfl | rfl | rfl | rfl | rfl | rfl | rfl | rfl | rfl | rfl <;> rfl
end
end
