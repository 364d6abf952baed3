section
-- ===== PART A: goes FIRST, ahead of the names: the tables' words, and 'selects' of the private methods out of them =====
/-- a private method of a class that the tables say can be made, by its rows of tables_1 -/
def lw_okq (q : MethodName × Nat) : Prop := (q.1.cls ≠ "java/lang/invoke/MethodHandle" ∧ q.1.cls ≠ "java/lang/invoke/VarHandle") ∧ Cond.instantiable q.1.cls q.2 ∈ tables_1 ∧ Cond.privateMethod q.1 ∈ tables_1 ∧ Cond.instanceMethod q.1 ∈ tables_1
theorem lw_p0 : lw_okq (⟨"SecondBest", "comesFromRow", "(IJ)Z"⟩, 10) := ⟨⟨by decide +kernel, by decide +kernel⟩, List.mem_of_getElem? (i := 18) (by decide +kernel), List.mem_of_getElem? (i := 379) (by decide +kernel), List.mem_of_getElem? (i := 380) (by decide +kernel)⟩
theorem lw_p1 : lw_okq (⟨"SecondBest$Changes", "forgetOldest", "()V"⟩, 6) := ⟨⟨by decide +kernel, by decide +kernel⟩, List.mem_of_getElem? (i := 75) (by decide +kernel), List.mem_of_getElem? (i := 416) (by decide +kernel), List.mem_of_getElem? (i := 417) (by decide +kernel)⟩
theorem lw_p2 : lw_okq (⟨"SecondBest$Law", "readLines", "()V"⟩, 11) := ⟨⟨by decide +kernel, by decide +kernel⟩, List.mem_of_getElem? (i := 165) (by decide +kernel), List.mem_of_getElem? (i := 457) (by decide +kernel), List.mem_of_getElem? (i := 458) (by decide +kernel)⟩
theorem lw_p3 : lw_okq (⟨"SecondBest$Law", "readLine", "()V"⟩, 11) := ⟨⟨by decide +kernel, by decide +kernel⟩, List.mem_of_getElem? (i := 165) (by decide +kernel), List.mem_of_getElem? (i := 461) (by decide +kernel), List.mem_of_getElem? (i := 462) (by decide +kernel)⟩
theorem lw_p4 : lw_okq (⟨"SecondBest$Law", "readEither", "(I)V"⟩, 11) := ⟨⟨by decide +kernel, by decide +kernel⟩, List.mem_of_getElem? (i := 165) (by decide +kernel), List.mem_of_getElem? (i := 465) (by decide +kernel), List.mem_of_getElem? (i := 466) (by decide +kernel)⟩
theorem lw_p5 : lw_okq (⟨"SecondBest$Law", "readBoth", "(I)V"⟩, 11) := ⟨⟨by decide +kernel, by decide +kernel⟩, List.mem_of_getElem? (i := 165) (by decide +kernel), List.mem_of_getElem? (i := 469) (by decide +kernel), List.mem_of_getElem? (i := 470) (by decide +kernel)⟩
theorem lw_p6 : lw_okq (⟨"SecondBest$Law", "readCompared", "(I)V"⟩, 11) := ⟨⟨by decide +kernel, by decide +kernel⟩, List.mem_of_getElem? (i := 165) (by decide +kernel), List.mem_of_getElem? (i := 473) (by decide +kernel), List.mem_of_getElem? (i := 474) (by decide +kernel)⟩
theorem lw_p7 : lw_okq (⟨"SecondBest$Law", "readSum", "(I)V"⟩, 11) := ⟨⟨by decide +kernel, by decide +kernel⟩, List.mem_of_getElem? (i := 165) (by decide +kernel), List.mem_of_getElem? (i := 477) (by decide +kernel), List.mem_of_getElem? (i := 478) (by decide +kernel)⟩
theorem lw_p8 : lw_okq (⟨"SecondBest$Law", "readProduct", "(I)V"⟩, 11) := ⟨⟨by decide +kernel, by decide +kernel⟩, List.mem_of_getElem? (i := 165) (by decide +kernel), List.mem_of_getElem? (i := 481) (by decide +kernel), List.mem_of_getElem? (i := 482) (by decide +kernel)⟩
theorem lw_p9 : lw_okq (⟨"SecondBest$Law", "readOne", "(I)V"⟩, 11) := ⟨⟨by decide +kernel, by decide +kernel⟩, List.mem_of_getElem? (i := 165) (by decide +kernel), List.mem_of_getElem? (i := 485) (by decide +kernel), List.mem_of_getElem? (i := 486) (by decide +kernel)⟩
theorem lw_p10 : lw_okq (⟨"SecondBest$Law", "sign", "()I"⟩, 11) := ⟨⟨by decide +kernel, by decide +kernel⟩, List.mem_of_getElem? (i := 165) (by decide +kernel), List.mem_of_getElem? (i := 489) (by decide +kernel), List.mem_of_getElem? (i := 490) (by decide +kernel)⟩
theorem lw_p11 : lw_okq (⟨"SecondBest$Law", "readNumber", "()V"⟩, 11) := ⟨⟨by decide +kernel, by decide +kernel⟩, List.mem_of_getElem? (i := 165) (by decide +kernel), List.mem_of_getElem? (i := 496) (by decide +kernel), List.mem_of_getElem? (i := 497) (by decide +kernel)⟩
theorem lw_p12 : lw_okq (⟨"SecondBest$Law", "addStep", "(II)V"⟩, 11) := ⟨⟨by decide +kernel, by decide +kernel⟩, List.mem_of_getElem? (i := 165) (by decide +kernel), List.mem_of_getElem? (i := 500) (by decide +kernel), List.mem_of_getElem? (i := 501) (by decide +kernel)⟩
theorem lw_p13 : lw_okq (⟨"SecondBest$Law", "comes", "(C)Z"⟩, 11) := ⟨⟨by decide +kernel, by decide +kernel⟩, List.mem_of_getElem? (i := 165) (by decide +kernel), List.mem_of_getElem? (i := 507) (by decide +kernel), List.mem_of_getElem? (i := 508) (by decide +kernel)⟩
theorem lw_p14 : lw_okq (⟨"SecondBest$Law", "failHere", "()V"⟩, 11) := ⟨⟨by decide +kernel, by decide +kernel⟩, List.mem_of_getElem? (i := 165) (by decide +kernel), List.mem_of_getElem? (i := 511) (by decide +kernel), List.mem_of_getElem? (i := 512) (by decide +kernel)⟩
theorem lw_p15 : lw_okq (⟨"SecondBest$Law", "comesOf", "(CCC)I"⟩, 11) := ⟨⟨by decide +kernel, by decide +kernel⟩, List.mem_of_getElem? (i := 165) (by decide +kernel), List.mem_of_getElem? (i := 515) (by decide +kernel), List.mem_of_getElem? (i := 516) (by decide +kernel)⟩
def lw_privs_1 : List (MethodName × Nat) := [(⟨"SecondBest", "comesFromRow", "(IJ)Z"⟩, 10), (⟨"SecondBest$Changes", "forgetOldest", "()V"⟩, 6), (⟨"SecondBest$Law", "readLines", "()V"⟩, 11), (⟨"SecondBest$Law", "readLine", "()V"⟩, 11), (⟨"SecondBest$Law", "readEither", "(I)V"⟩, 11), (⟨"SecondBest$Law", "readBoth", "(I)V"⟩, 11), (⟨"SecondBest$Law", "readCompared", "(I)V"⟩, 11), (⟨"SecondBest$Law", "readSum", "(I)V"⟩, 11), (⟨"SecondBest$Law", "readProduct", "(I)V"⟩, 11), (⟨"SecondBest$Law", "readOne", "(I)V"⟩, 11), (⟨"SecondBest$Law", "sign", "()I"⟩, 11), (⟨"SecondBest$Law", "readNumber", "()V"⟩, 11), (⟨"SecondBest$Law", "addStep", "(II)V"⟩, 11), (⟨"SecondBest$Law", "comes", "(C)Z"⟩, 11), (⟨"SecondBest$Law", "failHere", "()V"⟩, 11), (⟨"SecondBest$Law", "comesOf", "(CCC)I"⟩, 11)]
theorem lw_r1 : ∀ q ∈ lw_privs_1, lw_okq q := List.forall_mem_cons.mpr ⟨lw_p0, List.forall_mem_cons.mpr ⟨lw_p1, List.forall_mem_cons.mpr ⟨lw_p2, List.forall_mem_cons.mpr ⟨lw_p3, List.forall_mem_cons.mpr ⟨lw_p4, List.forall_mem_cons.mpr ⟨lw_p5, List.forall_mem_cons.mpr ⟨lw_p6, List.forall_mem_cons.mpr ⟨lw_p7, List.forall_mem_cons.mpr ⟨lw_p8, List.forall_mem_cons.mpr ⟨lw_p9, List.forall_mem_cons.mpr ⟨lw_p10, List.forall_mem_cons.mpr ⟨lw_p11, List.forall_mem_cons.mpr ⟨lw_p12, List.forall_mem_cons.mpr ⟨lw_p13, List.forall_mem_cons.mpr ⟨lw_p14, List.forall_mem_cons.mpr ⟨lw_p15, fun _ h => absurd h List.not_mem_nil⟩⟩⟩⟩⟩⟩⟩⟩⟩⟩⟩⟩⟩⟩⟩⟩
theorem lw_p16 : lw_okq (⟨"SecondBest", "tallied", "()LSecondBest$Orders;"⟩, 10) := ⟨⟨by decide +kernel, by decide +kernel⟩, List.mem_of_getElem? (i := 18) (by decide +kernel), List.mem_of_getElem? (i := 523) (by decide +kernel), List.mem_of_getElem? (i := 524) (by decide +kernel)⟩
theorem lw_p17 : lw_okq (⟨"SecondBest$Orders", "followers", "(I)I"⟩, 4) := ⟨⟨by decide +kernel, by decide +kernel⟩, List.mem_of_getElem? (i := 101) (by decide +kernel), List.mem_of_getElem? (i := 556) (by decide +kernel), List.mem_of_getElem? (i := 557) (by decide +kernel)⟩
theorem lw_p18 : lw_okq (⟨"SecondBest$Blame", "priceBehind", "(LSecondBest$Field;II)I"⟩, 1) := ⟨⟨by decide +kernel, by decide +kernel⟩, List.mem_of_getElem? (i := 155) (by decide +kernel), List.mem_of_getElem? (i := 608) (by decide +kernel), List.mem_of_getElem? (i := 609) (by decide +kernel)⟩
theorem lw_p19 : lw_okq (⟨"SecondBest", "isQuestion", "(I)Z"⟩, 10) := ⟨⟨by decide +kernel, by decide +kernel⟩, List.mem_of_getElem? (i := 18) (by decide +kernel), List.mem_of_getElem? (i := 619) (by decide +kernel), List.mem_of_getElem? (i := 620) (by decide +kernel)⟩
theorem lw_p20 : lw_okq (⟨"SecondBest$Orders", "bestAndSecond", "()I"⟩, 4) := ⟨⟨by decide +kernel, by decide +kernel⟩, List.mem_of_getElem? (i := 101) (by decide +kernel), List.mem_of_getElem? (i := 628) (by decide +kernel), List.mem_of_getElem? (i := 629) (by decide +kernel)⟩
theorem lw_p21 : lw_okq (⟨"SecondBest$Orders", "whoCanHave", "(I)I"⟩, 4) := ⟨⟨by decide +kernel, by decide +kernel⟩, List.mem_of_getElem? (i := 101) (by decide +kernel), List.mem_of_getElem? (i := 632) (by decide +kernel), List.mem_of_getElem? (i := 633) (by decide +kernel)⟩
theorem lw_p22 : lw_okq (⟨"SecondBest$Orders", "bestAndLast", "()I"⟩, 4) := ⟨⟨by decide +kernel, by decide +kernel⟩, List.mem_of_getElem? (i := 101) (by decide +kernel), List.mem_of_getElem? (i := 636) (by decide +kernel), List.mem_of_getElem? (i := 637) (by decide +kernel)⟩
theorem lw_p23 : lw_okq (⟨"SecondBest$Orders", "setsOfFirst", "(I)I"⟩, 4) := ⟨⟨by decide +kernel, by decide +kernel⟩, List.mem_of_getElem? (i := 101) (by decide +kernel), List.mem_of_getElem? (i := 640) (by decide +kernel), List.mem_of_getElem? (i := 641) (by decide +kernel)⟩
theorem lw_p24 : lw_okq (⟨"SecondBest$Orders", "lastOrNot", "(I)I"⟩, 4) := ⟨⟨by decide +kernel, by decide +kernel⟩, List.mem_of_getElem? (i := 101) (by decide +kernel), List.mem_of_getElem? (i := 644) (by decide +kernel), List.mem_of_getElem? (i := 645) (by decide +kernel)⟩
theorem lw_p25 : lw_okq (⟨"SecondBest", "fewestProving", "(II)I"⟩, 10) := ⟨⟨by decide +kernel, by decide +kernel⟩, List.mem_of_getElem? (i := 18) (by decide +kernel), List.mem_of_getElem? (i := 655) (by decide +kernel), List.mem_of_getElem? (i := 656) (by decide +kernel)⟩
theorem lw_p26 : lw_okq (⟨"SecondBest$Field", "isToldIn", "(II)Z"⟩, 6) := ⟨⟨by decide +kernel, by decide +kernel⟩, List.mem_of_getElem? (i := 26) (by decide +kernel), List.mem_of_getElem? (i := 663) (by decide +kernel), List.mem_of_getElem? (i := 664) (by decide +kernel)⟩
theorem lw_p27 : lw_okq (⟨"SecondBest", "isProved", "(III)Z"⟩, 10) := ⟨⟨by decide +kernel, by decide +kernel⟩, List.mem_of_getElem? (i := 18) (by decide +kernel), List.mem_of_getElem? (i := 668) (by decide +kernel), List.mem_of_getElem? (i := 669) (by decide +kernel)⟩
theorem lw_p28 : lw_okq (⟨"SecondBest$Search", "cost", "(IZI)I"⟩, 8) := ⟨⟨by decide +kernel, by decide +kernel⟩, List.mem_of_getElem? (i := 122) (by decide +kernel), List.mem_of_getElem? (i := 690) (by decide +kernel), List.mem_of_getElem? (i := 691) (by decide +kernel)⟩
theorem lw_p29 : lw_okq (⟨"SecondBest$Search", "leastRest", "(IZI)I"⟩, 8) := ⟨⟨by decide +kernel, by decide +kernel⟩, List.mem_of_getElem? (i := 122) (by decide +kernel), List.mem_of_getElem? (i := 706) (by decide +kernel), List.mem_of_getElem? (i := 707) (by decide +kernel)⟩
theorem lw_p30 : lw_okq (⟨"SecondBest$Search", "restBy", "(IIIZI)I"⟩, 8) := ⟨⟨by decide +kernel, by decide +kernel⟩, List.mem_of_getElem? (i := 122) (by decide +kernel), List.mem_of_getElem? (i := 714) (by decide +kernel), List.mem_of_getElem? (i := 715) (by decide +kernel)⟩
theorem lw_p31 : lw_okq (⟨"SecondBest$Law", "workOut", "()I"⟩, 11) := ⟨⟨by decide +kernel, by decide +kernel⟩, List.mem_of_getElem? (i := 165) (by decide +kernel), List.mem_of_getElem? (i := 758) (by decide +kernel), List.mem_of_getElem? (i := 759) (by decide +kernel)⟩
def lw_privs_2 : List (MethodName × Nat) := [(⟨"SecondBest", "tallied", "()LSecondBest$Orders;"⟩, 10), (⟨"SecondBest$Orders", "followers", "(I)I"⟩, 4), (⟨"SecondBest$Blame", "priceBehind", "(LSecondBest$Field;II)I"⟩, 1), (⟨"SecondBest", "isQuestion", "(I)Z"⟩, 10), (⟨"SecondBest$Orders", "bestAndSecond", "()I"⟩, 4), (⟨"SecondBest$Orders", "whoCanHave", "(I)I"⟩, 4), (⟨"SecondBest$Orders", "bestAndLast", "()I"⟩, 4), (⟨"SecondBest$Orders", "setsOfFirst", "(I)I"⟩, 4), (⟨"SecondBest$Orders", "lastOrNot", "(I)I"⟩, 4), (⟨"SecondBest", "fewestProving", "(II)I"⟩, 10), (⟨"SecondBest$Field", "isToldIn", "(II)Z"⟩, 6), (⟨"SecondBest", "isProved", "(III)Z"⟩, 10), (⟨"SecondBest$Search", "cost", "(IZI)I"⟩, 8), (⟨"SecondBest$Search", "leastRest", "(IZI)I"⟩, 8), (⟨"SecondBest$Search", "restBy", "(IIIZI)I"⟩, 8), (⟨"SecondBest$Law", "workOut", "()I"⟩, 11)]
theorem lw_r2 : ∀ q ∈ lw_privs_2, lw_okq q := List.forall_mem_cons.mpr ⟨lw_p16, List.forall_mem_cons.mpr ⟨lw_p17, List.forall_mem_cons.mpr ⟨lw_p18, List.forall_mem_cons.mpr ⟨lw_p19, List.forall_mem_cons.mpr ⟨lw_p20, List.forall_mem_cons.mpr ⟨lw_p21, List.forall_mem_cons.mpr ⟨lw_p22, List.forall_mem_cons.mpr ⟨lw_p23, List.forall_mem_cons.mpr ⟨lw_p24, List.forall_mem_cons.mpr ⟨lw_p25, List.forall_mem_cons.mpr ⟨lw_p26, List.forall_mem_cons.mpr ⟨lw_p27, List.forall_mem_cons.mpr ⟨lw_p28, List.forall_mem_cons.mpr ⟨lw_p29, List.forall_mem_cons.mpr ⟨lw_p30, List.forall_mem_cons.mpr ⟨lw_p31, fun _ h => absurd h List.not_mem_nil⟩⟩⟩⟩⟩⟩⟩⟩⟩⟩⟩⟩⟩⟩⟩⟩
theorem lw_p32 : lw_okq (⟨"SecondBest$Law", "pop", "()I"⟩, 11) := ⟨⟨by decide +kernel, by decide +kernel⟩, List.mem_of_getElem? (i := 165) (by decide +kernel), List.mem_of_getElem? (i := 762) (by decide +kernel), List.mem_of_getElem? (i := 763) (by decide +kernel)⟩
theorem lw_p33 : lw_okq (⟨"SecondBest$Law", "push", "(I)V"⟩, 11) := ⟨⟨by decide +kernel, by decide +kernel⟩, List.mem_of_getElem? (i := 165) (by decide +kernel), List.mem_of_getElem? (i := 766) (by decide +kernel), List.mem_of_getElem? (i := 767) (by decide +kernel)⟩
theorem lw_p34 : lw_okq (⟨"SecondBest$Cup", "seatOf", "([II)I"⟩, 6) := ⟨⟨by decide +kernel, by decide +kernel⟩, List.mem_of_getElem? (i := 206) (by decide +kernel), List.mem_of_getElem? (i := 781) (by decide +kernel), List.mem_of_getElem? (i := 782) (by decide +kernel)⟩
theorem lw_p35 : lw_okq (⟨"SecondBest$Cup", "forgetOdds", "()V"⟩, 6) := ⟨⟨by decide +kernel, by decide +kernel⟩, List.mem_of_getElem? (i := 206) (by decide +kernel), List.mem_of_getElem? (i := 802) (by decide +kernel), List.mem_of_getElem? (i := 803) (by decide +kernel)⟩
theorem lw_p36 : lw_okq (⟨"SecondBest$Cup", "sitDown", "()V"⟩, 6) := ⟨⟨by decide +kernel, by decide +kernel⟩, List.mem_of_getElem? (i := 206) (by decide +kernel), List.mem_of_getElem? (i := 807) (by decide +kernel), List.mem_of_getElem? (i := 808) (by decide +kernel)⟩
theorem lw_p37 : lw_okq (⟨"SecondBest$Cup", "weigh", "(LSecondBest$Law;LSecondBest$Field;)V"⟩, 6) := ⟨⟨by decide +kernel, by decide +kernel⟩, List.mem_of_getElem? (i := 206) (by decide +kernel), List.mem_of_getElem? (i := 812) (by decide +kernel), List.mem_of_getElem? (i := 813) (by decide +kernel)⟩
theorem lw_p38 : lw_okq (⟨"SecondBest$Cup", "rounds", "()I"⟩, 6) := ⟨⟨by decide +kernel, by decide +kernel⟩, List.mem_of_getElem? (i := 206) (by decide +kernel), List.mem_of_getElem? (i := 819) (by decide +kernel), List.mem_of_getElem? (i := 820) (by decide +kernel)⟩
theorem lw_p39 : lw_okq (⟨"SecondBest$Cup", "beatingRivals", "(LSecondBest$Law;LSecondBest$Field;II)J"⟩, 6) := ⟨⟨by decide +kernel, by decide +kernel⟩, List.mem_of_getElem? (i := 206) (by decide +kernel), List.mem_of_getElem? (i := 823) (by decide +kernel), List.mem_of_getElem? (i := 824) (by decide +kernel)⟩
theorem lw_p40 : lw_okq (⟨"SecondBest$Cup", "oddsOf", "(LSecondBest$Law;LSecondBest$Field;III)I"⟩, 6) := ⟨⟨by decide +kernel, by decide +kernel⟩, List.mem_of_getElem? (i := 206) (by decide +kernel), List.mem_of_getElem? (i := 827) (by decide +kernel), List.mem_of_getElem? (i := 828) (by decide +kernel)⟩
theorem lw_p41 : lw_okq (⟨"SecondBest$Cup", "roundFor", "(I)I"⟩, 6) := ⟨⟨by decide +kernel, by decide +kernel⟩, List.mem_of_getElem? (i := 206) (by decide +kernel), List.mem_of_getElem? (i := 832) (by decide +kernel), List.mem_of_getElem? (i := 833) (by decide +kernel)⟩
theorem lw_p42 : lw_okq (⟨"SecondBest$Cup", "playByLot", "(LSecondBest$Law;LSecondBest$Field;I)I"⟩, 6) := ⟨⟨by decide +kernel, by decide +kernel⟩, List.mem_of_getElem? (i := 206) (by decide +kernel), List.mem_of_getElem? (i := 861) (by decide +kernel), List.mem_of_getElem? (i := 862) (by decide +kernel)⟩
theorem lw_p43 : lw_okq (⟨"SecondBest$League", "isHigher", "(II)Z"⟩, 6) := ⟨⟨by decide +kernel, by decide +kernel⟩, List.mem_of_getElem? (i := 233) (by decide +kernel), List.mem_of_getElem? (i := 896) (by decide +kernel), List.mem_of_getElem? (i := 897) (by decide +kernel)⟩
theorem lw_p44 : lw_okq (⟨"SecondBest$League", "placeOf", "(I)I"⟩, 6) := ⟨⟨by decide +kernel, by decide +kernel⟩, List.mem_of_getElem? (i := 233) (by decide +kernel), List.mem_of_getElem? (i := 904) (by decide +kernel), List.mem_of_getElem? (i := 905) (by decide +kernel)⟩
theorem lw_p45 : lw_okq (⟨"SecondBest$League", "firstFree", "(II)I"⟩, 6) := ⟨⟨by decide +kernel, by decide +kernel⟩, List.mem_of_getElem? (i := 233) (by decide +kernel), List.mem_of_getElem? (i := 917) (by decide +kernel), List.mem_of_getElem? (i := 918) (by decide +kernel)⟩
theorem lw_p46 : lw_okq (⟨"SecondBest$Bodies", "from", "(IIII)I"⟩, 5) := ⟨⟨by decide +kernel, by decide +kernel⟩, List.mem_of_getElem? (i := 260) (by decide +kernel), List.mem_of_getElem? (i := 962) (by decide +kernel), List.mem_of_getElem? (i := 963) (by decide +kernel)⟩
theorem lw_p47 : lw_okq (⟨"SecondBest$Bodies", "begin", "(I)V"⟩, 5) := ⟨⟨by decide +kernel, by decide +kernel⟩, List.mem_of_getElem? (i := 260) (by decide +kernel), List.mem_of_getElem? (i := 969) (by decide +kernel), List.mem_of_getElem? (i := 970) (by decide +kernel)⟩
def lw_privs_3 : List (MethodName × Nat) := [(⟨"SecondBest$Law", "pop", "()I"⟩, 11), (⟨"SecondBest$Law", "push", "(I)V"⟩, 11), (⟨"SecondBest$Cup", "seatOf", "([II)I"⟩, 6), (⟨"SecondBest$Cup", "forgetOdds", "()V"⟩, 6), (⟨"SecondBest$Cup", "sitDown", "()V"⟩, 6), (⟨"SecondBest$Cup", "weigh", "(LSecondBest$Law;LSecondBest$Field;)V"⟩, 6), (⟨"SecondBest$Cup", "rounds", "()I"⟩, 6), (⟨"SecondBest$Cup", "beatingRivals", "(LSecondBest$Law;LSecondBest$Field;II)J"⟩, 6), (⟨"SecondBest$Cup", "oddsOf", "(LSecondBest$Law;LSecondBest$Field;III)I"⟩, 6), (⟨"SecondBest$Cup", "roundFor", "(I)I"⟩, 6), (⟨"SecondBest$Cup", "playByLot", "(LSecondBest$Law;LSecondBest$Field;I)I"⟩, 6), (⟨"SecondBest$League", "isHigher", "(II)Z"⟩, 6), (⟨"SecondBest$League", "placeOf", "(I)I"⟩, 6), (⟨"SecondBest$League", "firstFree", "(II)I"⟩, 6), (⟨"SecondBest$Bodies", "from", "(IIII)I"⟩, 5), (⟨"SecondBest$Bodies", "begin", "(I)V"⟩, 5)]
theorem lw_r3 : ∀ q ∈ lw_privs_3, lw_okq q := List.forall_mem_cons.mpr ⟨lw_p32, List.forall_mem_cons.mpr ⟨lw_p33, List.forall_mem_cons.mpr ⟨lw_p34, List.forall_mem_cons.mpr ⟨lw_p35, List.forall_mem_cons.mpr ⟨lw_p36, List.forall_mem_cons.mpr ⟨lw_p37, List.forall_mem_cons.mpr ⟨lw_p38, List.forall_mem_cons.mpr ⟨lw_p39, List.forall_mem_cons.mpr ⟨lw_p40, List.forall_mem_cons.mpr ⟨lw_p41, List.forall_mem_cons.mpr ⟨lw_p42, List.forall_mem_cons.mpr ⟨lw_p43, List.forall_mem_cons.mpr ⟨lw_p44, List.forall_mem_cons.mpr ⟨lw_p45, List.forall_mem_cons.mpr ⟨lw_p46, List.forall_mem_cons.mpr ⟨lw_p47, fun _ h => absurd h List.not_mem_nil⟩⟩⟩⟩⟩⟩⟩⟩⟩⟩⟩⟩⟩⟩⟩⟩
theorem lw_p48 : lw_okq (⟨"SecondBest$Bodies", "run", "(III)I"⟩, 5) := ⟨⟨by decide +kernel, by decide +kernel⟩, List.mem_of_getElem? (i := 260) (by decide +kernel), List.mem_of_getElem? (i := 973) (by decide +kernel), List.mem_of_getElem? (i := 974) (by decide +kernel)⟩
theorem lw_p49 : lw_okq (⟨"SecondBest$Bodies", "own", "(III)I"⟩, 5) := ⟨⟨by decide +kernel, by decide +kernel⟩, List.mem_of_getElem? (i := 260) (by decide +kernel), List.mem_of_getElem? (i := 977) (by decide +kernel), List.mem_of_getElem? (i := 978) (by decide +kernel)⟩
theorem lw_p50 : lw_okq (⟨"SecondBest$Bodies", "above", "(IIII)I"⟩, 5) := ⟨⟨by decide +kernel, by decide +kernel⟩, List.mem_of_getElem? (i := 260) (by decide +kernel), List.mem_of_getElem? (i := 981) (by decide +kernel), List.mem_of_getElem? (i := 982) (by decide +kernel)⟩
theorem lw_p51 : lw_okq (⟨"SecondBestModel", "areTwo", "(JJ)Z"⟩, 50) := ⟨⟨by decide +kernel, by decide +kernel⟩, List.mem_of_getElem? (i := 1077) (by decide +kernel), List.mem_of_getElem? (i := 1255) (by decide +kernel), List.mem_of_getElem? (i := 1256) (by decide +kernel)⟩
theorem lw_p52 : lw_okq (⟨"SecondBestModel", "adds", "(II)V"⟩, 50) := ⟨⟨by decide +kernel, by decide +kernel⟩, List.mem_of_getElem? (i := 1077) (by decide +kernel), List.mem_of_getElem? (i := 1259) (by decide +kernel), List.mem_of_getElem? (i := 1260) (by decide +kernel)⟩
theorem lw_p53 : lw_okq (⟨"SecondBestModel", "isPlayer", "(I)Z"⟩, 50) := ⟨⟨by decide +kernel, by decide +kernel⟩, List.mem_of_getElem? (i := 1077) (by decide +kernel), List.mem_of_getElem? (i := 1276) (by decide +kernel), List.mem_of_getElem? (i := 1277) (by decide +kernel)⟩
theorem lw_p54 : lw_okq (⟨"SecondBestModel", "becomes", "(II)I"⟩, 50) := ⟨⟨by decide +kernel, by decide +kernel⟩, List.mem_of_getElem? (i := 1077) (by decide +kernel), List.mem_of_getElem? (i := 1280) (by decide +kernel), List.mem_of_getElem? (i := 1281) (by decide +kernel)⟩
theorem lw_p55 : lw_okq (⟨"SecondBestModel", "isMatch", "(I)Z"⟩, 50) := ⟨⟨by decide +kernel, by decide +kernel⟩, List.mem_of_getElem? (i := 1077) (by decide +kernel), List.mem_of_getElem? (i := 1284) (by decide +kernel), List.mem_of_getElem? (i := 1285) (by decide +kernel)⟩
theorem lw_p56 : lw_okq (⟨"SecondBestModel", "lostBy", "(I)I"⟩, 50) := ⟨⟨by decide +kernel, by decide +kernel⟩, List.mem_of_getElem? (i := 1077) (by decide +kernel), List.mem_of_getElem? (i := 1293) (by decide +kernel), List.mem_of_getElem? (i := 1294) (by decide +kernel)⟩
theorem lw_p57 : lw_okq (⟨"SecondBestModel", "counts", "(I)Z"⟩, 50) := ⟨⟨by decide +kernel, by decide +kernel⟩, List.mem_of_getElem? (i := 1077) (by decide +kernel), List.mem_of_getElem? (i := 1297) (by decide +kernel), List.mem_of_getElem? (i := 1298) (by decide +kernel)⟩
theorem lw_p58 : lw_okq (⟨"SecondBestModel", "wonBy", "(I)I"⟩, 50) := ⟨⟨by decide +kernel, by decide +kernel⟩, List.mem_of_getElem? (i := 1077) (by decide +kernel), List.mem_of_getElem? (i := 1301) (by decide +kernel), List.mem_of_getElem? (i := 1302) (by decide +kernel)⟩
theorem lw_p59 : lw_okq (⟨"SecondBestModel", "workOut", "(II)I"⟩, 50) := ⟨⟨by decide +kernel, by decide +kernel⟩, List.mem_of_getElem? (i := 1077) (by decide +kernel), List.mem_of_getElem? (i := 1315) (by decide +kernel), List.mem_of_getElem? (i := 1316) (by decide +kernel)⟩
theorem lw_p60 : lw_okq (⟨"SecondBestModel", "either", "()I"⟩, 50) := ⟨⟨by decide +kernel, by decide +kernel⟩, List.mem_of_getElem? (i := 1077) (by decide +kernel), List.mem_of_getElem? (i := 1319) (by decide +kernel), List.mem_of_getElem? (i := 1320) (by decide +kernel)⟩
theorem lw_p61 : lw_okq (⟨"SecondBestModel", "both", "()I"⟩, 50) := ⟨⟨by decide +kernel, by decide +kernel⟩, List.mem_of_getElem? (i := 1077) (by decide +kernel), List.mem_of_getElem? (i := 1323) (by decide +kernel), List.mem_of_getElem? (i := 1324) (by decide +kernel)⟩
theorem lw_p62 : lw_okq (⟨"SecondBestModel", "compared", "()I"⟩, 50) := ⟨⟨by decide +kernel, by decide +kernel⟩, List.mem_of_getElem? (i := 1077) (by decide +kernel), List.mem_of_getElem? (i := 1327) (by decide +kernel), List.mem_of_getElem? (i := 1328) (by decide +kernel)⟩
theorem lw_p63 : lw_okq (⟨"SecondBestModel", "sums", "()I"⟩, 50) := ⟨⟨by decide +kernel, by decide +kernel⟩, List.mem_of_getElem? (i := 1077) (by decide +kernel), List.mem_of_getElem? (i := 1331) (by decide +kernel), List.mem_of_getElem? (i := 1332) (by decide +kernel)⟩
def lw_privs_4 : List (MethodName × Nat) := [(⟨"SecondBest$Bodies", "run", "(III)I"⟩, 5), (⟨"SecondBest$Bodies", "own", "(III)I"⟩, 5), (⟨"SecondBest$Bodies", "above", "(IIII)I"⟩, 5), (⟨"SecondBestModel", "areTwo", "(JJ)Z"⟩, 50), (⟨"SecondBestModel", "adds", "(II)V"⟩, 50), (⟨"SecondBestModel", "isPlayer", "(I)Z"⟩, 50), (⟨"SecondBestModel", "becomes", "(II)I"⟩, 50), (⟨"SecondBestModel", "isMatch", "(I)Z"⟩, 50), (⟨"SecondBestModel", "lostBy", "(I)I"⟩, 50), (⟨"SecondBestModel", "counts", "(I)Z"⟩, 50), (⟨"SecondBestModel", "wonBy", "(I)I"⟩, 50), (⟨"SecondBestModel", "workOut", "(II)I"⟩, 50), (⟨"SecondBestModel", "either", "()I"⟩, 50), (⟨"SecondBestModel", "both", "()I"⟩, 50), (⟨"SecondBestModel", "compared", "()I"⟩, 50), (⟨"SecondBestModel", "sums", "()I"⟩, 50)]
theorem lw_r4 : ∀ q ∈ lw_privs_4, lw_okq q := List.forall_mem_cons.mpr ⟨lw_p48, List.forall_mem_cons.mpr ⟨lw_p49, List.forall_mem_cons.mpr ⟨lw_p50, List.forall_mem_cons.mpr ⟨lw_p51, List.forall_mem_cons.mpr ⟨lw_p52, List.forall_mem_cons.mpr ⟨lw_p53, List.forall_mem_cons.mpr ⟨lw_p54, List.forall_mem_cons.mpr ⟨lw_p55, List.forall_mem_cons.mpr ⟨lw_p56, List.forall_mem_cons.mpr ⟨lw_p57, List.forall_mem_cons.mpr ⟨lw_p58, List.forall_mem_cons.mpr ⟨lw_p59, List.forall_mem_cons.mpr ⟨lw_p60, List.forall_mem_cons.mpr ⟨lw_p61, List.forall_mem_cons.mpr ⟨lw_p62, List.forall_mem_cons.mpr ⟨lw_p63, fun _ h => absurd h List.not_mem_nil⟩⟩⟩⟩⟩⟩⟩⟩⟩⟩⟩⟩⟩⟩⟩⟩
theorem lw_p64 : lw_okq (⟨"SecondBestModel", "product", "()I"⟩, 50) := ⟨⟨by decide +kernel, by decide +kernel⟩, List.mem_of_getElem? (i := 1077) (by decide +kernel), List.mem_of_getElem? (i := 1335) (by decide +kernel), List.mem_of_getElem? (i := 1336) (by decide +kernel)⟩
theorem lw_p65 : lw_okq (⟨"SecondBestModel", "one", "()I"⟩, 50) := ⟨⟨by decide +kernel, by decide +kernel⟩, List.mem_of_getElem? (i := 1077) (by decide +kernel), List.mem_of_getElem? (i := 1339) (by decide +kernel), List.mem_of_getElem? (i := 1340) (by decide +kernel)⟩
theorem lw_p66 : lw_okq (⟨"SecondBestModel", "byteAt", "()I"⟩, 50) := ⟨⟨by decide +kernel, by decide +kernel⟩, List.mem_of_getElem? (i := 1077) (by decide +kernel), List.mem_of_getElem? (i := 1343) (by decide +kernel), List.mem_of_getElem? (i := 1344) (by decide +kernel)⟩
theorem lw_p67 : lw_okq (⟨"SecondBestModel", "faulty", "()I"⟩, 50) := ⟨⟨by decide +kernel, by decide +kernel⟩, List.mem_of_getElem? (i := 1077) (by decide +kernel), List.mem_of_getElem? (i := 1347) (by decide +kernel), List.mem_of_getElem? (i := 1348) (by decide +kernel)⟩
theorem lw_p68 : lw_okq (⟨"SecondBestModel", "takes", "(I)Z"⟩, 50) := ⟨⟨by decide +kernel, by decide +kernel⟩, List.mem_of_getElem? (i := 1077) (by decide +kernel), List.mem_of_getElem? (i := 1351) (by decide +kernel), List.mem_of_getElem? (i := 1352) (by decide +kernel)⟩
theorem lw_p69 : lw_okq (⟨"SecondBestModel", "chanceOf", "(III)I"⟩, 50) := ⟨⟨by decide +kernel, by decide +kernel⟩, List.mem_of_getElem? (i := 1077) (by decide +kernel), List.mem_of_getElem? (i := 1363) (by decide +kernel), List.mem_of_getElem? (i := 1364) (by decide +kernel)⟩
theorem lw_p70 : lw_okq (⟨"SecondBestModel", "allThatCount", "()I"⟩, 50) := ⟨⟨by decide +kernel, by decide +kernel⟩, List.mem_of_getElem? (i := 1077) (by decide +kernel), List.mem_of_getElem? (i := 1371) (by decide +kernel), List.mem_of_getElem? (i := 1372) (by decide +kernel)⟩
theorem lw_p71 : lw_okq (⟨"SecondBestModel", "goesThrough", "(III)V"⟩, 50) := ⟨⟨by decide +kernel, by decide +kernel⟩, List.mem_of_getElem? (i := 1077) (by decide +kernel), List.mem_of_getElem? (i := 1375) (by decide +kernel), List.mem_of_getElem? (i := 1376) (by decide +kernel)⟩
theorem lw_p72 : lw_okq (⟨"SecondBestModel", "beats", "(I)V"⟩, 50) := ⟨⟨by decide +kernel, by decide +kernel⟩, List.mem_of_getElem? (i := 1077) (by decide +kernel), List.mem_of_getElem? (i := 1379) (by decide +kernel), List.mem_of_getElem? (i := 1380) (by decide +kernel)⟩
theorem lw_p73 : lw_okq (⟨"SecondBestModel", "laysFrom", "(II)V"⟩, 50) := ⟨⟨by decide +kernel, by decide +kernel⟩, List.mem_of_getElem? (i := 1077) (by decide +kernel), List.mem_of_getElem? (i := 1383) (by decide +kernel), List.mem_of_getElem? (i := 1384) (by decide +kernel)⟩
theorem lw_p74 : lw_okq (⟨"SecondBestModel", "takesIn", "()V"⟩, 50) := ⟨⟨by decide +kernel, by decide +kernel⟩, List.mem_of_getElem? (i := 1077) (by decide +kernel), List.mem_of_getElem? (i := 1387) (by decide +kernel), List.mem_of_getElem? (i := 1388) (by decide +kernel)⟩
theorem lw_p75 : lw_okq (⟨"SecondBestModel", "codeNow", "()I"⟩, 50) := ⟨⟨by decide +kernel, by decide +kernel⟩, List.mem_of_getElem? (i := 1077) (by decide +kernel), List.mem_of_getElem? (i := 1391) (by decide +kernel), List.mem_of_getElem? (i := 1392) (by decide +kernel)⟩
theorem lw_p76 : lw_okq (⟨"SecondBestModel", "hasOrder", "(I)Z"⟩, 50) := ⟨⟨by decide +kernel, by decide +kernel⟩, List.mem_of_getElem? (i := 1077) (by decide +kernel), List.mem_of_getElem? (i := 1407) (by decide +kernel), List.mem_of_getElem? (i := 1408) (by decide +kernel)⟩
theorem lw_p77 : lw_okq (⟨"SecondBestModel", "isQuestion", "(I)Z"⟩, 50) := ⟨⟨by decide +kernel, by decide +kernel⟩, List.mem_of_getElem? (i := 1077) (by decide +kernel), List.mem_of_getElem? (i := 1422) (by decide +kernel), List.mem_of_getElem? (i := 1423) (by decide +kernel)⟩
theorem lw_p78 : lw_okq (⟨"SecondBestModel", "gathers", "(I)I"⟩, 50) := ⟨⟨by decide +kernel, by decide +kernel⟩, List.mem_of_getElem? (i := 1077) (by decide +kernel), List.mem_of_getElem? (i := 1434) (by decide +kernel), List.mem_of_getElem? (i := 1435) (by decide +kernel)⟩
theorem lw_p79 : lw_okq (⟨"SecondBestModel", "allOrders", "()I"⟩, 50) := ⟨⟨by decide +kernel, by decide +kernel⟩, List.mem_of_getElem? (i := 1077) (by decide +kernel), List.mem_of_getElem? (i := 1438) (by decide +kernel), List.mem_of_getElem? (i := 1439) (by decide +kernel)⟩
def lw_privs_5 : List (MethodName × Nat) := [(⟨"SecondBestModel", "product", "()I"⟩, 50), (⟨"SecondBestModel", "one", "()I"⟩, 50), (⟨"SecondBestModel", "byteAt", "()I"⟩, 50), (⟨"SecondBestModel", "faulty", "()I"⟩, 50), (⟨"SecondBestModel", "takes", "(I)Z"⟩, 50), (⟨"SecondBestModel", "chanceOf", "(III)I"⟩, 50), (⟨"SecondBestModel", "allThatCount", "()I"⟩, 50), (⟨"SecondBestModel", "goesThrough", "(III)V"⟩, 50), (⟨"SecondBestModel", "beats", "(I)V"⟩, 50), (⟨"SecondBestModel", "laysFrom", "(II)V"⟩, 50), (⟨"SecondBestModel", "takesIn", "()V"⟩, 50), (⟨"SecondBestModel", "codeNow", "()I"⟩, 50), (⟨"SecondBestModel", "hasOrder", "(I)Z"⟩, 50), (⟨"SecondBestModel", "isQuestion", "(I)Z"⟩, 50), (⟨"SecondBestModel", "gathers", "(I)I"⟩, 50), (⟨"SecondBestModel", "allOrders", "()I"⟩, 50)]
theorem lw_r5 : ∀ q ∈ lw_privs_5, lw_okq q := List.forall_mem_cons.mpr ⟨lw_p64, List.forall_mem_cons.mpr ⟨lw_p65, List.forall_mem_cons.mpr ⟨lw_p66, List.forall_mem_cons.mpr ⟨lw_p67, List.forall_mem_cons.mpr ⟨lw_p68, List.forall_mem_cons.mpr ⟨lw_p69, List.forall_mem_cons.mpr ⟨lw_p70, List.forall_mem_cons.mpr ⟨lw_p71, List.forall_mem_cons.mpr ⟨lw_p72, List.forall_mem_cons.mpr ⟨lw_p73, List.forall_mem_cons.mpr ⟨lw_p74, List.forall_mem_cons.mpr ⟨lw_p75, List.forall_mem_cons.mpr ⟨lw_p76, List.forall_mem_cons.mpr ⟨lw_p77, List.forall_mem_cons.mpr ⟨lw_p78, List.forall_mem_cons.mpr ⟨lw_p79, fun _ h => absurd h List.not_mem_nil⟩⟩⟩⟩⟩⟩⟩⟩⟩⟩⟩⟩⟩⟩⟩⟩
theorem lw_p80 : lw_okq (⟨"SecondBestModel", "worstOf", "(I)I"⟩, 50) := ⟨⟨by decide +kernel, by decide +kernel⟩, List.mem_of_getElem? (i := 1077) (by decide +kernel), List.mem_of_getElem? (i := 1442) (by decide +kernel), List.mem_of_getElem? (i := 1443) (by decide +kernel)⟩
theorem lw_p81 : lw_okq (⟨"SecondBestModel", "isAnswered", "(I)Z"⟩, 50) := ⟨⟨by decide +kernel, by decide +kernel⟩, List.mem_of_getElem? (i := 1077) (by decide +kernel), List.mem_of_getElem? (i := 1446) (by decide +kernel), List.mem_of_getElem? (i := 1447) (by decide +kernel)⟩
theorem lw_p82 : lw_okq (⟨"SecondBestModel", "those", "(III)I"⟩, 50) := ⟨⟨by decide +kernel, by decide +kernel⟩, List.mem_of_getElem? (i := 1077) (by decide +kernel), List.mem_of_getElem? (i := 1450) (by decide +kernel), List.mem_of_getElem? (i := 1451) (by decide +kernel)⟩
theorem lw_p83 : lw_okq (⟨"SecondBestModel", "togetherOf", "(I)I"⟩, 50) := ⟨⟨by decide +kernel, by decide +kernel⟩, List.mem_of_getElem? (i := 1077) (by decide +kernel), List.mem_of_getElem? (i := 1458) (by decide +kernel), List.mem_of_getElem? (i := 1459) (by decide +kernel)⟩
theorem lw_p84 : lw_okq (⟨"SecondBestModel", "placeInRow", "(I)I"⟩, 50) := ⟨⟨by decide +kernel, by decide +kernel⟩, List.mem_of_getElem? (i := 1077) (by decide +kernel), List.mem_of_getElem? (i := 1477) (by decide +kernel), List.mem_of_getElem? (i := 1478) (by decide +kernel)⟩
theorem lw_p85 : lw_okq (⟨"SecondBestModel", "isCup", "()Z"⟩, 50) := ⟨⟨by decide +kernel, by decide +kernel⟩, List.mem_of_getElem? (i := 1077) (by decide +kernel), List.mem_of_getElem? (i := 1485) (by decide +kernel), List.mem_of_getElem? (i := 1486) (by decide +kernel)⟩
theorem lw_p86 : lw_okq (⟨"SecondBestModel", "linesUp", "()V"⟩, 50) := ⟨⟨by decide +kernel, by decide +kernel⟩, List.mem_of_getElem? (i := 1077) (by decide +kernel), List.mem_of_getElem? (i := 1490) (by decide +kernel), List.mem_of_getElem? (i := 1491) (by decide +kernel)⟩
theorem lw_p87 : lw_okq (⟨"SecondBestModel", "goesCup", "()V"⟩, 50) := ⟨⟨by decide +kernel, by decide +kernel⟩, List.mem_of_getElem? (i := 1077) (by decide +kernel), List.mem_of_getElem? (i := 1494) (by decide +kernel), List.mem_of_getElem? (i := 1495) (by decide +kernel)⟩
theorem lw_p88 : lw_okq (⟨"SecondBestModel", "isMore", "(II)Z"⟩, 50) := ⟨⟨by decide +kernel, by decide +kernel⟩, List.mem_of_getElem? (i := 1077) (by decide +kernel), List.mem_of_getElem? (i := 1522) (by decide +kernel), List.mem_of_getElem? (i := 1523) (by decide +kernel)⟩
theorem lw_p89 : lw_okq (⟨"SecondBestModel", "isHigher", "(II)Z"⟩, 50) := ⟨⟨by decide +kernel, by decide +kernel⟩, List.mem_of_getElem? (i := 1077) (by decide +kernel), List.mem_of_getElem? (i := 1530) (by decide +kernel), List.mem_of_getElem? (i := 1531) (by decide +kernel)⟩
theorem lw_p90 : lw_okq (⟨"SecondBestModel", "placeInTable", "(I)I"⟩, 50) := ⟨⟨by decide +kernel, by decide +kernel⟩, List.mem_of_getElem? (i := 1077) (by decide +kernel), List.mem_of_getElem? (i := 1534) (by decide +kernel), List.mem_of_getElem? (i := 1535) (by decide +kernel)⟩
theorem lw_p91 : lw_okq (⟨"SecondBestModel", "mayPlay", "(III)Z"⟩, 50) := ⟨⟨by decide +kernel, by decide +kernel⟩, List.mem_of_getElem? (i := 1077) (by decide +kernel), List.mem_of_getElem? (i := 1543) (by decide +kernel), List.mem_of_getElem? (i := 1544) (by decide +kernel)⟩
theorem lw_p92 : lw_okq (⟨"SecondBestModel", "isBody", "(I)Z"⟩, 50) := ⟨⟨by decide +kernel, by decide +kernel⟩, List.mem_of_getElem? (i := 1077) (by decide +kernel), List.mem_of_getElem? (i := 1556) (by decide +kernel), List.mem_of_getElem? (i := 1557) (by decide +kernel)⟩
theorem lw_p93 : lw_okq (⟨"SecondBestModel", "beatsAs", "(II)I"⟩, 50) := ⟨⟨by decide +kernel, by decide +kernel⟩, List.mem_of_getElem? (i := 1077) (by decide +kernel), List.mem_of_getElem? (i := 1560) (by decide +kernel), List.mem_of_getElem? (i := 1561) (by decide +kernel)⟩
theorem lw_p94 : lw_okq (⟨"SecondBestModel", "begins", "(I)V"⟩, 50) := ⟨⟨by decide +kernel, by decide +kernel⟩, List.mem_of_getElem? (i := 1077) (by decide +kernel), List.mem_of_getElem? (i := 1564) (by decide +kernel), List.mem_of_getElem? (i := 1565) (by decide +kernel)⟩
theorem lw_p95 : lw_okq (⟨"SecondBestModel", "standsAs", "(II)I"⟩, 50) := ⟨⟨by decide +kernel, by decide +kernel⟩, List.mem_of_getElem? (i := 1077) (by decide +kernel), List.mem_of_getElem? (i := 1568) (by decide +kernel), List.mem_of_getElem? (i := 1569) (by decide +kernel)⟩
def lw_privs_6 : List (MethodName × Nat) := [(⟨"SecondBestModel", "worstOf", "(I)I"⟩, 50), (⟨"SecondBestModel", "isAnswered", "(I)Z"⟩, 50), (⟨"SecondBestModel", "those", "(III)I"⟩, 50), (⟨"SecondBestModel", "togetherOf", "(I)I"⟩, 50), (⟨"SecondBestModel", "placeInRow", "(I)I"⟩, 50), (⟨"SecondBestModel", "isCup", "()Z"⟩, 50), (⟨"SecondBestModel", "linesUp", "()V"⟩, 50), (⟨"SecondBestModel", "goesCup", "()V"⟩, 50), (⟨"SecondBestModel", "isMore", "(II)Z"⟩, 50), (⟨"SecondBestModel", "isHigher", "(II)Z"⟩, 50), (⟨"SecondBestModel", "placeInTable", "(I)I"⟩, 50), (⟨"SecondBestModel", "mayPlay", "(III)Z"⟩, 50), (⟨"SecondBestModel", "isBody", "(I)Z"⟩, 50), (⟨"SecondBestModel", "beatsAs", "(II)I"⟩, 50), (⟨"SecondBestModel", "begins", "(I)V"⟩, 50), (⟨"SecondBestModel", "standsAs", "(II)I"⟩, 50)]
theorem lw_r6 : ∀ q ∈ lw_privs_6, lw_okq q := List.forall_mem_cons.mpr ⟨lw_p80, List.forall_mem_cons.mpr ⟨lw_p81, List.forall_mem_cons.mpr ⟨lw_p82, List.forall_mem_cons.mpr ⟨lw_p83, List.forall_mem_cons.mpr ⟨lw_p84, List.forall_mem_cons.mpr ⟨lw_p85, List.forall_mem_cons.mpr ⟨lw_p86, List.forall_mem_cons.mpr ⟨lw_p87, List.forall_mem_cons.mpr ⟨lw_p88, List.forall_mem_cons.mpr ⟨lw_p89, List.forall_mem_cons.mpr ⟨lw_p90, List.forall_mem_cons.mpr ⟨lw_p91, List.forall_mem_cons.mpr ⟨lw_p92, List.forall_mem_cons.mpr ⟨lw_p93, List.forall_mem_cons.mpr ⟨lw_p94, List.forall_mem_cons.mpr ⟨lw_p95, fun _ h => absurd h List.not_mem_nil⟩⟩⟩⟩⟩⟩⟩⟩⟩⟩⟩⟩⟩⟩⟩⟩
theorem lw_p96 : lw_okq (⟨"SecondBestModel", "asksAs", "(II)I"⟩, 50) := ⟨⟨by decide +kernel, by decide +kernel⟩, List.mem_of_getElem? (i := 1077) (by decide +kernel), List.mem_of_getElem? (i := 1572) (by decide +kernel), List.mem_of_getElem? (i := 1573) (by decide +kernel)⟩
theorem lw_p97 : lw_okq (⟨"SecondBestModel", "tellsAs", "(II)I"⟩, 50) := ⟨⟨by decide +kernel, by decide +kernel⟩, List.mem_of_getElem? (i := 1077) (by decide +kernel), List.mem_of_getElem? (i := 1576) (by decide +kernel), List.mem_of_getElem? (i := 1577) (by decide +kernel)⟩
theorem lw_p98 : lw_okq (⟨"SecondBestModel", "refusal", "(II)I"⟩, 50) := ⟨⟨by decide +kernel, by decide +kernel⟩, List.mem_of_getElem? (i := 1077) (by decide +kernel), List.mem_of_getElem? (i := 1596) (by decide +kernel), List.mem_of_getElem? (i := 1597) (by decide +kernel)⟩
theorem lw_p99 : lw_okq (⟨"SecondBestModel", "kindOf", "(I)I"⟩, 50) := ⟨⟨by decide +kernel, by decide +kernel⟩, List.mem_of_getElem? (i := 1077) (by decide +kernel), List.mem_of_getElem? (i := 1615) (by decide +kernel), List.mem_of_getElem? (i := 1616) (by decide +kernel)⟩
def lw_privs_7 : List (MethodName × Nat) := [(⟨"SecondBestModel", "asksAs", "(II)I"⟩, 50), (⟨"SecondBestModel", "tellsAs", "(II)I"⟩, 50), (⟨"SecondBestModel", "refusal", "(II)I"⟩, 50), (⟨"SecondBestModel", "kindOf", "(I)I"⟩, 50)]
theorem lw_r7 : ∀ q ∈ lw_privs_7, lw_okq q := List.forall_mem_cons.mpr ⟨lw_p96, List.forall_mem_cons.mpr ⟨lw_p97, List.forall_mem_cons.mpr ⟨lw_p98, List.forall_mem_cons.mpr ⟨lw_p99, fun _ h => absurd h List.not_mem_nil⟩⟩⟩⟩
def lw_privs : List (MethodName × Nat) := lw_privs_1 ++ (lw_privs_2 ++ (lw_privs_3 ++ (lw_privs_4 ++ (lw_privs_5 ++ (lw_privs_6 ++ (lw_privs_7))))))
def lw_tbl : List Cond := k2_sels lw_privs ++ tables_1
theorem lw_privs_ok : ∀ q ∈ lw_privs, lw_okq q := by
  show ∀ q ∈ lw_privs_1 ++ (lw_privs_2 ++ (lw_privs_3 ++ (lw_privs_4 ++ (lw_privs_5 ++ (lw_privs_6 ++ (lw_privs_7)))))), lw_okq q
  exact List.forall_mem_append.mpr ⟨lw_r1, List.forall_mem_append.mpr ⟨lw_r2, List.forall_mem_append.mpr ⟨lw_r3, List.forall_mem_append.mpr ⟨lw_r4, List.forall_mem_append.mpr ⟨lw_r5, List.forall_mem_append.mpr ⟨lw_r6, lw_r7⟩⟩⟩⟩⟩⟩
-- ===== end of PART A; then your names; then what follows =====
end
section
/-! ===== BEGIN words of one list among another's, by their places ===== -/
theorem goodIn_r {big : List Cond} (ws : List Cond) (ps : List Nat) (hp : ws = ps.filterMap (fun i => big[i]?)) (h : ws.all goodWord = true) : GoodIn big ws := by
  intro w hw
  have h1 := List.all_eq_true.mp h w hw
  rw [hp] at hw
  obtain ⟨i, -, hi⟩ := List.mem_filterMap.mp hw
  have hm : w ∈ big := by first | exact List.mem_of_getElem? hi | exact List.getElem?_mem hi
  exact ⟨hm, good_of_word h1⟩
theorem goodIn_app {big a b : List Cond} (ha : GoodIn big a) (hb : GoodIn big b) : GoodIn big (a ++ b) := fun w h => (List.mem_append.mp h).elim (ha w) (hb w)
theorem goodIn_ca {big a b : List Cond} {c : Cond} (ha : GoodIn big (c :: a)) (hb : GoodIn big b) : GoodIn big (c :: (a ++ b)) := fun w h => (List.mem_cons.mp h).elim (fun e => ha w (List.mem_cons.mpr (Or.inl e))) (fun h => (List.mem_append.mp h).elim (fun h => ha w (List.mem_cons.mpr (Or.inr h))) (hb w))
theorem goodIn_sub {big ws : List Cond} (hm : ∀ w ∈ ws, w ∈ big) (h : ws.all goodWord = true) : GoodIn big ws := fun w hw => ⟨hm w hw, good_of_word (List.all_eq_true.mp h w hw)⟩
/-! ===== END ===== -/

def RX0 : String := "SecondBest$Blame"
def TX0 : u_T := fun k => match k with
  | _ => ("SecondBest$Blame", "least", "[I", true)
def tyX0 : Nat → FieldType := fun k => match k with
  | _ => .array .int
abbrev wsX00 : List Cond := u_ws RX0 TX0 1
theorem nmX0 : ∀ a, a < 1 → ∀ b, b < 1 → a ≠ b → (TX0 a).2.1 ≠ (TX0 b).2.1 := by decide +kernel
theorem tyX0_ok : ∀ k, k < 1 → parseFieldDescriptor (TX0 k).2.2.1 = some (tyX0 k) := by decide +kernel
abbrev cX0_init : ByteArray := prog_2_method_1_code
def yX0_init : MethodName := ⟨RX0, "<init>", "()V"⟩
abbrev cX0_fewestFalse : ByteArray := prog_2_method_2_code
def yX0_fewestFalse : MethodName := ⟨RX0, "fewestFalse", "(LSecondBest$Field;)I"⟩
abbrev cX0_priceBehind : ByteArray := prog_2_method_3_code
def yX0_priceBehind : MethodName := ⟨RX0, "priceBehind", "(LSecondBest$Field;II)I"⟩
def RX1 : String := "SecondBest$Bodies"
def TX1 : u_T := fun k => match k with
  | 0 => ("SecondBest$Bodies", "size", "I", false)
  | 1 => ("SecondBest$Bodies", "ran", "I", false)
  | 2 => ("SecondBest$Bodies", "began", "[I", true)
  | 3 => ("SecondBest$Bodies", "kinds", "[I", true)
  | _ => ("SecondBest$Bodies", "self", "I", false)
def tyX1 : Nat → FieldType := fun k => match k with
  | 0 => .int
  | 1 => .int
  | 2 => .array .int
  | 3 => .array .int
  | _ => .int
abbrev wsX10 : List Cond := u_ws RX1 TX1 5
theorem nmX1 : ∀ a, a < 5 → ∀ b, b < 5 → a ≠ b → (TX1 a).2.1 ≠ (TX1 b).2.1 := by decide +kernel
theorem tyX1_ok : ∀ k, k < 5 → parseFieldDescriptor (TX1 k).2.2.1 = some (tyX1 k) := by decide +kernel
abbrev cX1_init : ByteArray := prog_3_method_1_code
def yX1_init : MethodName := ⟨RX1, "<init>", "()V"⟩
abbrev cX1_isKind : ByteArray := prog_3_method_2_code
def yX1_isKind : MethodName := ⟨RX1, "isKind", "(I)Z"⟩
abbrev cX1_isUnder : ByteArray := prog_3_method_3_code
def yX1_isUnder : MethodName := ⟨RX1, "isUnder", "(II)Z"⟩
abbrev cX1_has : ByteArray := prog_3_method_4_code
def yX1_has : MethodName := ⟨RX1, "has", "(I)Z"⟩
abbrev cX1_add : ByteArray := prog_3_method_5_code
def yX1_add : MethodName := ⟨RX1, "add", "(I)I"⟩
abbrev cX1_kindOf : ByteArray := prog_3_method_6_code
def yX1_kindOf : MethodName := ⟨RX1, "kindOf", "(I)I"⟩
abbrev cX1_kept : ByteArray := prog_3_method_7_code
def yX1_kept : MethodName := ⟨RX1, "kept", "()I"⟩
abbrev cX1_perform : ByteArray := prog_3_method_8_code
def yX1_perform : MethodName := ⟨RX1, "perform", "(III)I"⟩
abbrev cX1_from : ByteArray := prog_3_method_9_code
def yX1_from : MethodName := ⟨RX1, "from", "(IIII)I"⟩
abbrev cX1_begin : ByteArray := prog_3_method_10_code
def yX1_begin : MethodName := ⟨RX1, "begin", "(I)V"⟩
abbrev cX1_own : ByteArray := prog_3_method_11_code
def yX1_own : MethodName := ⟨RX1, "own", "(III)I"⟩
abbrev cX1_above : ByteArray := prog_3_method_12_code
def yX1_above : MethodName := ⟨RX1, "above", "(IIII)I"⟩
abbrev cX1_run : ByteArray := prog_3_method_13_code
def yX1_run : MethodName := ⟨RX1, "run", "(III)I"⟩
def RX2 : String := "SecondBest$Changes"
def TX2 : u_T := fun k => match k with
  | 0 => ("SecondBest$Changes", "done", "I", false)
  | 1 => ("SecondBest$Changes", "kept", "I", false)
  | 2 => ("SecondBest$Changes", "what", "[I", true)
  | 3 => ("SecondBest$Changes", "number", "[I", true)
  | 4 => ("SecondBest$Changes", "before", "[I", true)
  | _ => ("SecondBest$Changes", "after", "[I", true)
def tyX2 : Nat → FieldType := fun k => match k with
  | 0 => .int
  | 1 => .int
  | 2 => .array .int
  | 3 => .array .int
  | 4 => .array .int
  | _ => .array .int
abbrev wsX20 : List Cond := u_ws RX2 TX2 6
theorem nmX2 : ∀ a, a < 6 → ∀ b, b < 6 → a ≠ b → (TX2 a).2.1 ≠ (TX2 b).2.1 := by decide +kernel
theorem tyX2_ok : ∀ k, k < 6 → parseFieldDescriptor (TX2 k).2.2.1 = some (tyX2 k) := by decide +kernel
abbrev cX2_init : ByteArray := prog_4_method_1_code
def yX2_init : MethodName := ⟨RX2, "<init>", "()V"⟩
abbrev cX2_add : ByteArray := prog_4_method_2_code
def yX2_add : MethodName := ⟨RX2, "add", "(IIII)V"⟩
abbrev cX2_forgetOldest : ByteArray := prog_4_method_3_code
def yX2_forgetOldest : MethodName := ⟨RX2, "forgetOldest", "()V"⟩
abbrev cX2_goBack : ByteArray := prog_4_method_4_code
def yX2_goBack : MethodName := ⟨RX2, "goBack", "(LSecondBest$Field;)I"⟩
abbrev cX2_goOn : ByteArray := prog_4_method_5_code
def yX2_goOn : MethodName := ⟨RX2, "goOn", "(LSecondBest$Field;)I"⟩
def RX3 : String := "SecondBest$Cup"
def TX3 : u_T := fun k => match k with
  | 0 => ("SecondBest$Cup", "size", "I", false)
  | 1 => ("SecondBest$Cup", "row", "[I", true)
  | 2 => ("SecondBest$Cup", "seats", "[I", true)
  | 3 => ("SecondBest$Cup", "beatenBy", "[I", true)
  | 4 => ("SecondBest$Cup", "odds", "[I", true)
  | _ => ("SecondBest$Cup", "through", "[J", true)
def tyX3 : Nat → FieldType := fun k => match k with
  | 0 => .int
  | 1 => .array .int
  | 2 => .array .int
  | 3 => .array .int
  | 4 => .array .int
  | _ => .array .long
abbrev wsX30 : List Cond := u_ws RX3 TX3 6
theorem nmX3 : ∀ a, a < 6 → ∀ b, b < 6 → a ≠ b → (TX3 a).2.1 ≠ (TX3 b).2.1 := by decide +kernel
theorem tyX3_ok : ∀ k, k < 6 → parseFieldDescriptor (TX3 k).2.2.1 = some (tyX3 k) := by decide +kernel
abbrev cX3_init : ByteArray := prog_5_method_1_code
def yX3_init : MethodName := ⟨RX3, "<init>", "()V"⟩
abbrev cX3_isWhole : ByteArray := prog_5_method_2_code
def yX3_isWhole : MethodName := ⟨RX3, "isWhole", "()Z"⟩
abbrev cX3_has : ByteArray := prog_5_method_3_code
def yX3_has : MethodName := ⟨RX3, "has", "(I)Z"⟩
abbrev cX3_seatOf : ByteArray := prog_5_method_4_code
def yX3_seatOf : MethodName := ⟨RX3, "seatOf", "([II)I"⟩
abbrev cX3_add : ByteArray := prog_5_method_5_code
def yX3_add : MethodName := ⟨RX3, "add", "(I)I"⟩
abbrev cX3_rounds : ByteArray := prog_5_method_6_code
def yX3_rounds : MethodName := ⟨RX3, "rounds", "()I"⟩
abbrev cX3_sitDown : ByteArray := prog_5_method_7_code
def yX3_sitDown : MethodName := ⟨RX3, "sitDown", "()V"⟩
abbrev cX3_forgetOdds : ByteArray := prog_5_method_8_code
def yX3_forgetOdds : MethodName := ⟨RX3, "forgetOdds", "()V"⟩
abbrev cX3_oddsOf : ByteArray := prog_5_method_9_code
def yX3_oddsOf : MethodName := ⟨RX3, "oddsOf", "(LSecondBest$Law;LSecondBest$Field;III)I"⟩
abbrev cX3_roundFor : ByteArray := prog_5_method_10_code
def yX3_roundFor : MethodName := ⟨RX3, "roundFor", "(I)I"⟩
abbrev cX3_partsInAll : ByteArray := prog_5_method_11_code
def yX3_partsInAll : MethodName := ⟨RX3, "partsInAll", "(I)J"⟩
abbrev cX3_partsFor : ByteArray := prog_5_method_12_code
def yX3_partsFor : MethodName := ⟨RX3, "partsFor", "(LSecondBest$Law;LSecondBest$Field;II)J"⟩
abbrev cX3_weigh : ByteArray := prog_5_method_13_code
def yX3_weigh : MethodName := ⟨RX3, "weigh", "(LSecondBest$Law;LSecondBest$Field;)V"⟩
abbrev cX3_beatingRivals : ByteArray := prog_5_method_14_code
def yX3_beatingRivals : MethodName := ⟨RX3, "beatingRivals", "(LSecondBest$Law;LSecondBest$Field;II)J"⟩
abbrev cX3_bestPairing : ByteArray := prog_5_method_15_code
def yX3_bestPairing : MethodName := ⟨RX3, "bestPairing", "(LSecondBest$Law;LSecondBest$Field;I)I"⟩
abbrev cX3_wonByLot : ByteArray := prog_5_method_16_code
def yX3_wonByLot : MethodName := ⟨RX3, "wonByLot", "(LSecondBest$Law;LSecondBest$Field;III)I"⟩
abbrev cX3_playByLot : ByteArray := prog_5_method_17_code
def yX3_playByLot : MethodName := ⟨RX3, "playByLot", "(LSecondBest$Law;LSecondBest$Field;I)I"⟩
abbrev cX3_bestByWorth : ByteArray := prog_5_method_18_code
def yX3_bestByWorth : MethodName := ⟨RX3, "bestByWorth", "(LSecondBest$Field;)I"⟩
abbrev cX3_bestBeatenBy : ByteArray := prog_5_method_19_code
def yX3_bestBeatenBy : MethodName := ⟨RX3, "bestBeatenBy", "(LSecondBest$Field;I)I"⟩
abbrev cX3_worthier : ByteArray := prog_5_method_20_code
def yX3_worthier : MethodName := ⟨RX3, "worthier", "(LSecondBest$Field;II)I"⟩
def RX4 : String := "SecondBest$Field"
def TX4 : u_T := fun k => match k with
  | 0 => ("SecondBest$Field", "players", "I", false)
  | 1 => ("SecondBest$Field", "matches", "I", false)
  | 2 => ("SecondBest$Field", "worth", "[I", true)
  | 3 => ("SecondBest$Field", "winner", "[I", true)
  | 4 => ("SecondBest$Field", "loser", "[I", true)
  | _ => ("SecondBest$Field", "counts", "[I", true)
def tyX4 : Nat → FieldType := fun k => match k with
  | 0 => .int
  | 1 => .int
  | 2 => .array .int
  | 3 => .array .int
  | 4 => .array .int
  | _ => .array .int
abbrev wsX40 : List Cond := u_ws RX4 TX4 6
theorem nmX4 : ∀ a, a < 6 → ∀ b, b < 6 → a ≠ b → (TX4 a).2.1 ≠ (TX4 b).2.1 := by decide +kernel
theorem tyX4_ok : ∀ k, k < 6 → parseFieldDescriptor (TX4 k).2.2.1 = some (tyX4 k) := by decide +kernel
abbrev cX4_init : ByteArray := prog_6_method_1_code
def yX4_init : MethodName := ⟨RX4, "<init>", "()V"⟩
abbrev cX4_isWorth : ByteArray := prog_6_method_2_code
def yX4_isWorth : MethodName := ⟨RX4, "isWorth", "(I)Z"⟩
abbrev cX4_hasPlayer : ByteArray := prog_6_method_3_code
def yX4_hasPlayer : MethodName := ⟨RX4, "hasPlayer", "(I)Z"⟩
abbrev cX4_hasMatch : ByteArray := prog_6_method_4_code
def yX4_hasMatch : MethodName := ⟨RX4, "hasMatch", "(I)Z"⟩
abbrev cX4_areTwo : ByteArray := prog_6_method_5_code
def yX4_areTwo : MethodName := ⟨RX4, "areTwo", "(II)Z"⟩
abbrev cX4_isPair : ByteArray := prog_6_method_6_code
def yX4_isPair : MethodName := ⟨RX4, "isPair", "(I)Z"⟩
abbrev cX4_addPlayer : ByteArray := prog_6_method_7_code
def yX4_addPlayer : MethodName := ⟨RX4, "addPlayer", "(I)I"⟩
abbrev cX4_addMatch : ByteArray := prog_6_method_8_code
def yX4_addMatch : MethodName := ⟨RX4, "addMatch", "(II)I"⟩
abbrev cX4_canBecome : ByteArray := prog_6_method_9_code
def yX4_canBecome : MethodName := ⟨RX4, "canBecome", "(III)Z"⟩
abbrev cX4_valueOf : ByteArray := prog_6_method_10_code
def yX4_valueOf : MethodName := ⟨RX4, "valueOf", "(II)I"⟩
abbrev cX4_become : ByteArray := prog_6_method_11_code
def yX4_become : MethodName := ⟨RX4, "become", "(III)V"⟩
abbrev cX4_wonBy : ByteArray := prog_6_method_12_code
def yX4_wonBy : MethodName := ⟨RX4, "wonBy", "(I)I"⟩
abbrev cX4_lostBy : ByteArray := prog_6_method_13_code
def yX4_lostBy : MethodName := ⟨RX4, "lostBy", "(I)I"⟩
abbrev cX4_counting : ByteArray := prog_6_method_14_code
def yX4_counting : MethodName := ⟨RX4, "counting", "()I"⟩
abbrev cX4_countingOnce : ByteArray := prog_6_method_15_code
def yX4_countingOnce : MethodName := ⟨RX4, "countingOnce", "()I"⟩
abbrev cX4_isToldIn : ByteArray := prog_6_method_16_code
def yX4_isToldIn : MethodName := ⟨RX4, "isToldIn", "(II)Z"⟩
def RX5 : String := "SecondBest$Law"
def TX5 : u_T := fun k => match k with
  | 0 => ("SecondBest$Law", "onTape", "I", false)
  | 1 => ("SecondBest$Law", "tape", "[I", true)
  | 2 => ("SecondBest$Law", "place", "I", false)
  | 3 => ("SecondBest$Law", "fault", "I", false)
  | 4 => ("SecondBest$Law", "draft", "[I", false)
  | 5 => ("SecondBest$Law", "drafted", "I", false)
  | 6 => ("SecondBest$Law", "steps", "[I", false)
  | 7 => ("SecondBest$Law", "length", "I", false)
  | 8 => ("SecondBest$Law", "stack", "[I", true)
  | 9 => ("SecondBest$Law", "height", "I", false)
  | _ => ("SecondBest$Law", "named", "[I", true)
def tyX5 : Nat → FieldType := fun k => match k with
  | 0 => .int
  | 1 => .array .int
  | 2 => .int
  | 3 => .int
  | 4 => .array .int
  | 5 => .int
  | 6 => .array .int
  | 7 => .int
  | 8 => .array .int
  | 9 => .int
  | _ => .array .int
abbrev wsX50 : List Cond := u_ws RX5 TX5 11
theorem nmX5 : ∀ a, a < 11 → ∀ b, b < 11 → a ≠ b → (TX5 a).2.1 ≠ (TX5 b).2.1 := by decide +kernel
theorem tyX5_ok : ∀ k, k < 11 → parseFieldDescriptor (TX5 k).2.2.1 = some (tyX5 k) := by decide +kernel
abbrev cX5_init : ByteArray := prog_7_method_1_code
def yX5_init : MethodName := ⟨RX5, "<init>", "()V"⟩
abbrev cX5_hear : ByteArray := prog_7_method_2_code
def yX5_hear : MethodName := ⟨RX5, "hear", "(I)I"⟩
abbrev cX5_adopt : ByteArray := prog_7_method_3_code
def yX5_adopt : MethodName := ⟨RX5, "adopt", "()I"⟩
abbrev cX5_sign : ByteArray := prog_7_method_4_code
def yX5_sign : MethodName := ⟨RX5, "sign", "()I"⟩
abbrev cX5_comes : ByteArray := prog_7_method_5_code
def yX5_comes : MethodName := ⟨RX5, "comes", "(C)Z"⟩
abbrev cX5_comesOf : ByteArray := prog_7_method_6_code
def yX5_comesOf : MethodName := ⟨RX5, "comesOf", "(CCC)I"⟩
abbrev cX5_failHere : ByteArray := prog_7_method_7_code
def yX5_failHere : MethodName := ⟨RX5, "failHere", "()V"⟩
abbrev cX5_addStep : ByteArray := prog_7_method_8_code
def yX5_addStep : MethodName := ⟨RX5, "addStep", "(II)V"⟩
abbrev cX5_readLines : ByteArray := prog_7_method_9_code
def yX5_readLines : MethodName := ⟨RX5, "readLines", "()V"⟩
abbrev cX5_readLine : ByteArray := prog_7_method_10_code
def yX5_readLine : MethodName := ⟨RX5, "readLine", "()V"⟩
abbrev cX5_readEither : ByteArray := prog_7_method_11_code
def yX5_readEither : MethodName := ⟨RX5, "readEither", "(I)V"⟩
abbrev cX5_readBoth : ByteArray := prog_7_method_12_code
def yX5_readBoth : MethodName := ⟨RX5, "readBoth", "(I)V"⟩
abbrev cX5_readCompared : ByteArray := prog_7_method_13_code
def yX5_readCompared : MethodName := ⟨RX5, "readCompared", "(I)V"⟩
abbrev cX5_readSum : ByteArray := prog_7_method_14_code
def yX5_readSum : MethodName := ⟨RX5, "readSum", "(I)V"⟩
abbrev cX5_readProduct : ByteArray := prog_7_method_15_code
def yX5_readProduct : MethodName := ⟨RX5, "readProduct", "(I)V"⟩
abbrev cX5_readOne : ByteArray := prog_7_method_16_code
def yX5_readOne : MethodName := ⟨RX5, "readOne", "(I)V"⟩
abbrev cX5_readNumber : ByteArray := prog_7_method_17_code
def yX5_readNumber : MethodName := ⟨RX5, "readNumber", "()V"⟩
abbrev cX5_isDigit : ByteArray := prog_7_method_18_code
def yX5_isDigit : MethodName := ⟨RX5, "isDigit", "(I)Z"⟩
abbrev cX5_nameOf : ByteArray := prog_7_method_19_code
def yX5_nameOf : MethodName := ⟨RX5, "nameOf", "(I)I"⟩
abbrev cX5_hundredths : ByteArray := prog_7_method_20_code
def yX5_hundredths : MethodName := ⟨RX5, "hundredths", "(LSecondBest$Field;III)I"⟩
abbrev cX5_workOut : ByteArray := prog_7_method_21_code
def yX5_workOut : MethodName := ⟨RX5, "workOut", "()I"⟩
abbrev cX5_push : ByteArray := prog_7_method_22_code
def yX5_push : MethodName := ⟨RX5, "push", "(I)V"⟩
abbrev cX5_pop : ByteArray := prog_7_method_23_code
def yX5_pop : MethodName := ⟨RX5, "pop", "()I"⟩
abbrev cX5_joined : ByteArray := prog_7_method_24_code
def yX5_joined : MethodName := ⟨RX5, "joined", "(III)I"⟩
def RX6 : String := "SecondBest$League"
def TX6 : u_T := fun k => match k with
  | 0 => ("SecondBest$League", "points", "[I", true)
  | 1 => ("SecondBest$League", "lost", "[I", true)
  | 2 => ("SecondBest$League", "players", "I", false)
  | 3 => ("SecondBest$League", "day", "[I", true)
  | 4 => ("SecondBest$League", "busy", "[I", true)
  | _ => ("SecondBest$League", "played", "[I", true)
def tyX6 : Nat → FieldType := fun k => match k with
  | 0 => .array .int
  | 1 => .array .int
  | 2 => .int
  | 3 => .array .int
  | 4 => .array .int
  | _ => .array .int
abbrev wsX60 : List Cond := u_ws RX6 TX6 6
theorem nmX6 : ∀ a, a < 6 → ∀ b, b < 6 → a ≠ b → (TX6 a).2.1 ≠ (TX6 b).2.1 := by decide +kernel
theorem tyX6_ok : ∀ k, k < 6 → parseFieldDescriptor (TX6 k).2.2.1 = some (tyX6 k) := by decide +kernel
abbrev cX6_init : ByteArray := prog_8_method_1_code
def yX6_init : MethodName := ⟨RX6, "<init>", "()V"⟩
abbrev cX6_read : ByteArray := prog_8_method_2_code
def yX6_read : MethodName := ⟨RX6, "read", "(LSecondBest$Field;)V"⟩
abbrev cX6_isHigher : ByteArray := prog_8_method_3_code
def yX6_isHigher : MethodName := ⟨RX6, "isHigher", "(II)Z"⟩
abbrev cX6_placeOf : ByteArray := prog_8_method_4_code
def yX6_placeOf : MethodName := ⟨RX6, "placeOf", "(I)I"⟩
abbrev cX6_whoIsAt : ByteArray := prog_8_method_5_code
def yX6_whoIsAt : MethodName := ⟨RX6, "whoIsAt", "(I)I"⟩
abbrev cX6_lostByHigher : ByteArray := prog_8_method_6_code
def yX6_lostByHigher : MethodName := ⟨RX6, "lostByHigher", "(LSecondBest$Field;)I"⟩
abbrev cX6_plan : ByteArray := prog_8_method_7_code
def yX6_plan : MethodName := ⟨RX6, "plan", "(LSecondBest$Field;I)I"⟩
abbrev cX6_firstFree : ByteArray := prog_8_method_8_code
def yX6_firstFree : MethodName := ⟨RX6, "firstFree", "(II)I"⟩
def RX7 : String := "SecondBest$Orders"
def TX7 : u_T := fun k => match k with
  | 0 => ("SecondBest$Orders", "players", "I", false)
  | 1 => ("SecondBest$Orders", "above", "[I", true)
  | 2 => ("SecondBest$Orders", "everyone", "I", false)
  | _ => ("SecondBest$Orders", "ways", "[I", true)
def tyX7 : Nat → FieldType := fun k => match k with
  | 0 => .int
  | 1 => .array .int
  | 2 => .int
  | _ => .array .int
abbrev wsX70 : List Cond := u_ws RX7 TX7 4
theorem nmX7 : ∀ a, a < 4 → ∀ b, b < 4 → a ≠ b → (TX7 a).2.1 ≠ (TX7 b).2.1 := by decide +kernel
theorem tyX7_ok : ∀ k, k < 4 → parseFieldDescriptor (TX7 k).2.2.1 = some (tyX7 k) := by decide +kernel
abbrev cX7_init : ByteArray := prog_9_method_1_code
def yX7_init : MethodName := ⟨RX7, "<init>", "()V"⟩
abbrev cX7_clear : ByteArray := prog_9_method_2_code
def yX7_clear : MethodName := ⟨RX7, "clear", "(I)V"⟩
abbrev cX7_take : ByteArray := prog_9_method_3_code
def yX7_take : MethodName := ⟨RX7, "take", "(LSecondBest$Field;I)V"⟩
abbrev cX7_add : ByteArray := prog_9_method_4_code
def yX7_add : MethodName := ⟨RX7, "add", "(II)V"⟩
abbrev cX7_tally : ByteArray := prog_9_method_5_code
def yX7_tally : MethodName := ⟨RX7, "tally", "()V"⟩
abbrev cX7_followers : ByteArray := prog_9_method_6_code
def yX7_followers : MethodName := ⟨RX7, "followers", "(I)I"⟩
abbrev cX7_all : ByteArray := prog_9_method_7_code
def yX7_all : MethodName := ⟨RX7, "all", "()I"⟩
abbrev cX7_isAny : ByteArray := prog_9_method_8_code
def yX7_isAny : MethodName := ⟨RX7, "isAny", "()Z"⟩
abbrev cX7_firstAt : ByteArray := prog_9_method_9_code
def yX7_firstAt : MethodName := ⟨RX7, "firstAt", "(I)I"⟩
abbrev cX7_isBetter : ByteArray := prog_9_method_10_code
def yX7_isBetter : MethodName := ⟨RX7, "isBetter", "(II)Z"⟩
abbrev cX7_placesOf : ByteArray := prog_9_method_11_code
def yX7_placesOf : MethodName := ⟨RX7, "placesOf", "(I)I"⟩
abbrev cX7_whoCanHave : ByteArray := prog_9_method_12_code
def yX7_whoCanHave : MethodName := ⟨RX7, "whoCanHave", "(I)I"⟩
abbrev cX7_answers : ByteArray := prog_9_method_13_code
def yX7_answers : MethodName := ⟨RX7, "answers", "(II)I"⟩
abbrev cX7_bestAndSecond : ByteArray := prog_9_method_14_code
def yX7_bestAndSecond : MethodName := ⟨RX7, "bestAndSecond", "()I"⟩
abbrev cX7_bestAndLast : ByteArray := prog_9_method_15_code
def yX7_bestAndLast : MethodName := ⟨RX7, "bestAndLast", "()I"⟩
abbrev cX7_setsOfFirst : ByteArray := prog_9_method_16_code
def yX7_setsOfFirst : MethodName := ⟨RX7, "setsOfFirst", "(I)I"⟩
abbrev cX7_lastOrNot : ByteArray := prog_9_method_17_code
def yX7_lastOrNot : MethodName := ⟨RX7, "lastOrNot", "(I)I"⟩
def RX8 : String := "SecondBest$Search"
def TX8 : u_T := fun k => match k with
  | 0 => ("SecondBest$Search", "orders", "LSecondBest$Orders;", true)
  | 1 => ("SecondBest$Search", "worsts", "[I", true)
  | 2 => ("SecondBest$Search", "sums", "[I", true)
  | 3 => ("SecondBest$Search", "players", "I", false)
  | 4 => ("SecondBest$Search", "kind", "I", false)
  | 5 => ("SecondBest$Search", "k", "I", false)
  | 6 => ("SecondBest$Search", "start", "I", false)
  | _ => ("SecondBest$Search", "isOpen", "Z", false)
def tyX8 : Nat → FieldType := fun k => match k with
  | 0 => .object "SecondBest$Orders"
  | 1 => .array .int
  | 2 => .array .int
  | 3 => .int
  | 4 => .int
  | 5 => .int
  | 6 => .int
  | _ => .boolean
abbrev wsX80 : List Cond := u_ws RX8 TX8 8
theorem nmX8 : ∀ a, a < 8 → ∀ b, b < 8 → a ≠ b → (TX8 a).2.1 ≠ (TX8 b).2.1 := by decide +kernel
theorem tyX8_ok : ∀ k, k < 8 → parseFieldDescriptor (TX8 k).2.2.1 = some (tyX8 k) := by decide +kernel
abbrev cX8_init : ByteArray := prog_10_method_1_code
def yX8_init : MethodName := ⟨RX8, "<init>", "()V"⟩
abbrev cX8_isFor : ByteArray := prog_10_method_2_code
def yX8_isFor : MethodName := ⟨RX8, "isFor", "(I)Z"⟩
abbrev cX8_begin : ByteArray := prog_10_method_3_code
def yX8_begin : MethodName := ⟨RX8, "begin", "(LSecondBest$Orders;II)V"⟩
abbrev cX8_leastWorst : ByteArray := prog_10_method_4_code
def yX8_leastWorst : MethodName := ⟨RX8, "leastWorst", "()I"⟩
abbrev cX8_leastSum : ByteArray := prog_10_method_5_code
def yX8_leastSum : MethodName := ⟨RX8, "leastSum", "()I"⟩
abbrev cX8_firstKeeping : ByteArray := prog_10_method_6_code
def yX8_firstKeeping : MethodName := ⟨RX8, "firstKeeping", "()I"⟩
abbrev cX8_cost : ByteArray := prog_10_method_7_code
def yX8_cost : MethodName := ⟨RX8, "cost", "(IZI)I"⟩
abbrev cX8_leastRest : ByteArray := prog_10_method_8_code
def yX8_leastRest : MethodName := ⟨RX8, "leastRest", "(IZI)I"⟩
abbrev cX8_restBy : ByteArray := prog_10_method_9_code
def yX8_restBy : MethodName := ⟨RX8, "restBy", "(IIIZI)I"⟩
abbrev cX8_isAbove : ByteArray := prog_10_method_10_code
def yX8_isAbove : MethodName := ⟨RX8, "isAbove", "(III)Z"⟩
abbrev cX8_isUnknown : ByteArray := prog_10_method_11_code
def yX8_isUnknown : MethodName := ⟨RX8, "isUnknown", "(III)Z"⟩
abbrev cX8_with : ByteArray := prog_10_method_12_code
def yX8_with : MethodName := ⟨RX8, "with", "(III)I"⟩
abbrev cX8_stateOf : ByteArray := prog_10_method_13_code
def yX8_stateOf : MethodName := ⟨RX8, "stateOf", "(I)I"⟩
def RX9 : String := "SecondBest$Shelves"
def TX9 : u_T := fun k => match k with
  | 0 => ("SecondBest$Shelves", "holds", "[I", true)
  | 1 => ("SecondBest$Shelves", "number", "[I", true)
  | _ => ("SecondBest$Shelves", "cells", "[J", true)
def tyX9 : Nat → FieldType := fun k => match k with
  | 0 => .array .int
  | 1 => .array .int
  | _ => .array .long
abbrev wsX90 : List Cond := u_ws RX9 TX9 3
theorem nmX9 : ∀ a, a < 3 → ∀ b, b < 3 → a ≠ b → (TX9 a).2.1 ≠ (TX9 b).2.1 := by decide +kernel
theorem tyX9_ok : ∀ k, k < 3 → parseFieldDescriptor (TX9 k).2.2.1 = some (tyX9 k) := by decide +kernel
abbrev cX9_init : ByteArray := prog_11_method_1_code
def yX9_init : MethodName := ⟨RX9, "<init>", "()V"⟩
abbrev cX9_isShelf : ByteArray := prog_11_method_2_code
def yX9_isShelf : MethodName := ⟨RX9, "isShelf", "(I)Z"⟩
abbrev cX9_isSort : ByteArray := prog_11_method_3_code
def yX9_isSort : MethodName := ⟨RX9, "isSort", "(I)Z"⟩
abbrev cX9_isEmpty : ByteArray := prog_11_method_4_code
def yX9_isEmpty : MethodName := ⟨RX9, "isEmpty", "(I)Z"⟩
abbrev cX9_holdsBytes : ByteArray := prog_11_method_5_code
def yX9_holdsBytes : MethodName := ⟨RX9, "holdsBytes", "(I)Z"⟩
abbrev cX9_areLikeRows : ByteArray := prog_11_method_6_code
def yX9_areLikeRows : MethodName := ⟨RX9, "areLikeRows", "(II)Z"⟩
abbrev cX9_bodyOn : ByteArray := prog_11_method_7_code
def yX9_bodyOn : MethodName := ⟨RX9, "bodyOn", "(I)I"⟩
abbrev cX9_lengthOf : ByteArray := prog_11_method_8_code
def yX9_lengthOf : MethodName := ⟨RX9, "lengthOf", "(I)I"⟩
abbrev cX9_holdNothing : ByteArray := prog_11_method_9_code
def yX9_holdNothing : MethodName := ⟨RX9, "holdNothing", "(I)V"⟩
abbrev cX9_holdBody : ByteArray := prog_11_method_10_code
def yX9_holdBody : MethodName := ⟨RX9, "holdBody", "(II)V"⟩
abbrev cX9_holdRow : ByteArray := prog_11_method_11_code
def yX9_holdRow : MethodName := ⟨RX9, "holdRow", "(III)V"⟩
abbrev cX9_refusal : ByteArray := prog_11_method_12_code
def yX9_refusal : MethodName := ⟨RX9, "refusal", "(II)I"⟩
abbrev cX9_hasRange : ByteArray := prog_11_method_13_code
def yX9_hasRange : MethodName := ⟨RX9, "hasRange", "(III)Z"⟩
abbrev cX9_valueAt : ByteArray := prog_11_method_14_code
def yX9_valueAt : MethodName := ⟨RX9, "valueAt", "(II)J"⟩
abbrev cX9_setValue : ByteArray := prog_11_method_15_code
def yX9_setValue : MethodName := ⟨RX9, "setValue", "(IIJ)V"⟩
abbrev cX9_narrowed : ByteArray := prog_11_method_16_code
def yX9_narrowed : MethodName := ⟨RX9, "narrowed", "(IJ)J"⟩
abbrev cX9_copy : ByteArray := prog_11_method_17_code
def yX9_copy : MethodName := ⟨RX9, "copy", "(IIIII)V"⟩
def RX10 : String := "SecondBest"
def TX10 : u_T := fun k => match k with
  | 0 => ("SecondBest", "field", "LSecondBest$Field;", true)
  | 1 => ("SecondBest", "changes", "LSecondBest$Changes;", true)
  | 2 => ("SecondBest", "fitting", "LSecondBest$Orders;", true)
  | 3 => ("SecondBest", "search", "LSecondBest$Search;", true)
  | 4 => ("SecondBest", "blame", "LSecondBest$Blame;", true)
  | 5 => ("SecondBest", "chances", "LSecondBest$Law;", true)
  | 6 => ("SecondBest", "knockout", "LSecondBest$Cup;", true)
  | 7 => ("SecondBest", "league", "LSecondBest$League;", true)
  | 8 => ("SecondBest", "bodies", "LSecondBest$Bodies;", true)
  | _ => ("SecondBest", "shelves", "LSecondBest$Shelves;", true)
def tyX10 : Nat → FieldType := fun k => match k with
  | 0 => .object "SecondBest$Field"
  | 1 => .object "SecondBest$Changes"
  | 2 => .object "SecondBest$Orders"
  | 3 => .object "SecondBest$Search"
  | 4 => .object "SecondBest$Blame"
  | 5 => .object "SecondBest$Law"
  | 6 => .object "SecondBest$Cup"
  | 7 => .object "SecondBest$League"
  | 8 => .object "SecondBest$Bodies"
  | _ => .object "SecondBest$Shelves"
abbrev wsX100 : List Cond := u_ws RX10 TX10 10
theorem nmX10 : ∀ a, a < 10 → ∀ b, b < 10 → a ≠ b → (TX10 a).2.1 ≠ (TX10 b).2.1 := by decide +kernel
theorem tyX10_ok : ∀ k, k < 10 → parseFieldDescriptor (TX10 k).2.2.1 = some (tyX10 k) := by decide +kernel
abbrev cX10_init : ByteArray := prog_1_method_1_code
def yX10_init : MethodName := ⟨RX10, "<init>", "()V"⟩
abbrev cX10_player : ByteArray := prog_1_method_2_code
def yX10_player : MethodName := ⟨RX10, "player", "(I)I"⟩
abbrev cX10_match : ByteArray := prog_1_method_3_code
def yX10_match : MethodName := ⟨RX10, "match", "(I)I"⟩
abbrev cX10_matches : ByteArray := prog_1_method_4_code
def yX10_matches : MethodName := ⟨RX10, "matches", "(III)I"⟩
abbrev cX10_comesFromRow : ByteArray := prog_1_method_5_code
def yX10_comesFromRow : MethodName := ⟨RX10, "comesFromRow", "(IJ)Z"⟩
abbrev cX10_mend : ByteArray := prog_1_method_6_code
def yX10_mend : MethodName := ⟨RX10, "mend", "(III)I"⟩
abbrev cX10_of : ByteArray := prog_1_method_7_code
def yX10_of : MethodName := ⟨RX10, "of", "(II)I"⟩
abbrev cX10_feed : ByteArray := prog_1_method_8_code
def yX10_feed : MethodName := ⟨RX10, "feed", "(I)I"⟩
abbrev cX10_law : ByteArray := prog_1_method_9_code
def yX10_law : MethodName := ⟨RX10, "law", "()I"⟩
abbrev cX10_orders : ByteArray := prog_1_method_10_code
def yX10_orders : MethodName := ⟨RX10, "orders", "(I)I"⟩
abbrev cX10_sure : ByteArray := prog_1_method_11_code
def yX10_sure : MethodName := ⟨RX10, "sure", "(I)I"⟩
abbrev cX10_places : ByteArray := prog_1_method_12_code
def yX10_places : MethodName := ⟨RX10, "places", "(I)I"⟩
abbrev cX10_clash : ByteArray := prog_1_method_13_code
def yX10_clash : MethodName := ⟨RX10, "clash", "()I"⟩
abbrev cX10_wrong : ByteArray := prog_1_method_14_code
def yX10_wrong : MethodName := ⟨RX10, "wrong", "()I"⟩
abbrev cX10_tallied : ByteArray := prog_1_method_15_code
def yX10_tallied : MethodName := ⟨RX10, "tallied", "()LSecondBest$Orders;"⟩
abbrev cX10_ask : ByteArray := prog_1_method_16_code
def yX10_ask : MethodName := ⟨RX10, "ask", "(II)I"⟩
abbrev cX10_proof : ByteArray := prog_1_method_17_code
def yX10_proof : MethodName := ⟨RX10, "proof", "(I)I"⟩
abbrev cX10_worst : ByteArray := prog_1_method_18_code
def yX10_worst : MethodName := ⟨RX10, "worst", "(I)I"⟩
abbrev cX10_mean : ByteArray := prog_1_method_19_code
def yX10_mean : MethodName := ⟨RX10, "mean", "(II)I"⟩
abbrev cX10_next : ByteArray := prog_1_method_20_code
def yX10_next : MethodName := ⟨RX10, "next", "(II)I"⟩
abbrev cX10_longest : ByteArray := prog_1_method_21_code
def yX10_longest : MethodName := ⟨RX10, "longest", "(I)I"⟩
abbrev cX10_isQuestion : ByteArray := prog_1_method_22_code
def yX10_isQuestion : MethodName := ⟨RX10, "isQuestion", "(I)Z"⟩
abbrev cX10_bound : ByteArray := prog_1_method_23_code
def yX10_bound : MethodName := ⟨RX10, "bound", "(I)I"⟩
abbrev cX10_fewestProving : ByteArray := prog_1_method_24_code
def yX10_fewestProving : MethodName := ⟨RX10, "fewestProving", "(II)I"⟩
abbrev cX10_isProved : ByteArray := prog_1_method_25_code
def yX10_isProved : MethodName := ⟨RX10, "isProved", "(III)Z"⟩
abbrev cX10_lowest : ByteArray := prog_1_method_26_code
def yX10_lowest : MethodName := ⟨RX10, "lowest", "(JJI)J"⟩
abbrev cX10_chance : ByteArray := prog_1_method_27_code
def yX10_chance : MethodName := ⟨RX10, "chance", "(II)I"⟩
abbrev cX10_cup : ByteArray := prog_1_method_28_code
def yX10_cup : MethodName := ⟨RX10, "cup", "(I)I"⟩
abbrev cX10_likely : ByteArray := prog_1_method_29_code
def yX10_likely : MethodName := ⟨RX10, "likely", "(III)J"⟩
abbrev cX10_friend : ByteArray := prog_1_method_30_code
def yX10_friend : MethodName := ⟨RX10, "friend", "(I)I"⟩
abbrev cX10_lots : ByteArray := prog_1_method_31_code
def yX10_lots : MethodName := ⟨RX10, "lots", "(III)I"⟩
abbrev cX10_champion : ByteArray := prog_1_method_32_code
def yX10_champion : MethodName := ⟨RX10, "champion", "(I)I"⟩
abbrev cX10_table : ByteArray := prog_1_method_33_code
def yX10_table : MethodName := ⟨RX10, "table", "(II)I"⟩
abbrev cX10_days : ByteArray := prog_1_method_34_code
def yX10_days : MethodName := ⟨RX10, "days", "(II)I"⟩
abbrev cX10_undo : ByteArray := prog_1_method_35_code
def yX10_undo : MethodName := ⟨RX10, "undo", "()I"⟩
abbrev cX10_redo : ByteArray := prog_1_method_36_code
def yX10_redo : MethodName := ⟨RX10, "redo", "()I"⟩
abbrev cX10_body : ByteArray := prog_1_method_37_code
def yX10_body : MethodName := ⟨RX10, "body", "(I)I"⟩
abbrev cX10_act : ByteArray := prog_1_method_38_code
def yX10_act : MethodName := ⟨RX10, "act", "(III)I"⟩
abbrev cX10_trace : ByteArray := prog_1_method_39_code
def yX10_trace : MethodName := ⟨RX10, "trace", "(I)I"⟩
abbrev cX10_keep : ByteArray := prog_1_method_40_code
def yX10_keep : MethodName := ⟨RX10, "keep", "(II)I"⟩
abbrev cX10_row : ByteArray := prog_1_method_41_code
def yX10_row : MethodName := ⟨RX10, "row", "(III)I"⟩
abbrev cX10_put : ByteArray := prog_1_method_42_code
def yX10_put : MethodName := ⟨RX10, "put", "(IIJ)I"⟩
abbrev cX10_element : ByteArray := prog_1_method_43_code
def yX10_element : MethodName := ⟨RX10, "element", "(II)J"⟩
abbrev cX10_shift : ByteArray := prog_1_method_44_code
def yX10_shift : MethodName := ⟨RX10, "shift", "(IIIII)I"⟩
abbrev cX10_taken : ByteArray := prog_1_method_45_code
def yX10_taken : MethodName := ⟨RX10, "taken", "(II)I"⟩
abbrev cX10_count : ByteArray := prog_1_method_46_code
def yX10_count : MethodName := ⟨RX10, "count", "(I)I"⟩
def RX11 : String := "SecondBestModel"
def TX11 : u_T := fun k => match k with
  | 0 => ("SecondBestModel", "may", "[I", true)
  | 1 => ("SecondBestModel", "changeAt", "[I", true)
  | 2 => ("SecondBestModel", "changeWas", "[I", true)
  | 3 => ("SecondBestModel", "changeIs", "[I", true)
  | 4 => ("SecondBestModel", "keptMany", "I", false)
  | 5 => ("SecondBestModel", "done", "I", false)
  | 6 => ("SecondBestModel", "players", "I", false)
  | 7 => ("SecondBestModel", "matches", "I", false)
  | 8 => ("SecondBestModel", "won", "[I", true)
  | 9 => ("SecondBestModel", "lost", "[I", true)
  | 10 => ("SecondBestModel", "tape", "[I", true)
  | 11 => ("SecondBestModel", "tapeMany", "I", false)
  | 12 => ("SecondBestModel", "text", "[I", true)
  | 13 => ("SecondBestModel", "textMany", "I", false)
  | 14 => ("SecondBestModel", "base", "I", false)
  | 15 => ("SecondBestModel", "at", "I", false)
  | 16 => ("SecondBestModel", "ends", "I", false)
  | 17 => ("SecondBestModel", "fault", "I", false)
  | 18 => ("SecondBestModel", "opened", "I", false)
  | 19 => ("SecondBestModel", "names", "[I", true)
  | 20 => ("SecondBestModel", "beatenBy", "[I", true)
  | 21 => ("SecondBestModel", "order", "[I", true)
  | 22 => ("SecondBestModel", "orderMany", "I", false)
  | 23 => ("SecondBestModel", "firstOrder", "[I", true)
  | 24 => ("SecondBestModel", "placesOf", "[I", true)
  | 25 => ("SecondBestModel", "better", "[I", true)
  | 26 => ("SecondBestModel", "seenCode", "[Z", true)
  | 27 => ("SecondBestModel", "codeMany", "I", false)
  | 28 => ("SecondBestModel", "kind", "I", false)
  | 29 => ("SecondBestModel", "askedOf", "I", false)
  | 30 => ("SecondBestModel", "rowOf", "[I", true)
  | 31 => ("SecondBestModel", "codeOf", "[I", true)
  | 32 => ("SecondBestModel", "isGathered", "Z", false)
  | 33 => ("SecondBestModel", "row1", "[I", true)
  | 34 => ("SecondBestModel", "rowMany", "I", false)
  | 35 => ("SecondBestModel", "line", "[I", true)
  | 36 => ("SecondBestModel", "first", "[J", true)
  | 37 => ("SecondBestModel", "second", "[J", true)
  | 38 => ("SecondBestModel", "third", "[J", true)
  | 39 => ("SecondBestModel", "dayOf", "[I", true)
  | 40 => ("SecondBestModel", "bodies", "I", false)
  | 41 => ("SecondBestModel", "bodyKind", "[I", true)
  | 42 => ("SecondBestModel", "trace", "[I", true)
  | 43 => ("SecondBestModel", "ran", "I", false)
  | 44 => ("SecondBestModel", "ownKind", "I", false)
  | 45 => ("SecondBestModel", "ownNumber", "I", false)
  | 46 => ("SecondBestModel", "shelf", "[I", true)
  | 47 => ("SecondBestModel", "many", "[I", true)
  | 48 => ("SecondBestModel", "items", "[J", true)
  | _ => ("SecondBestModel", "carried", "[J", true)
def tyX11 : Nat → FieldType := fun k => match k with
  | 0 => .array .int
  | 1 => .array .int
  | 2 => .array .int
  | 3 => .array .int
  | 4 => .int
  | 5 => .int
  | 6 => .int
  | 7 => .int
  | 8 => .array .int
  | 9 => .array .int
  | 10 => .array .int
  | 11 => .int
  | 12 => .array .int
  | 13 => .int
  | 14 => .int
  | 15 => .int
  | 16 => .int
  | 17 => .int
  | 18 => .int
  | 19 => .array .int
  | 20 => .array .int
  | 21 => .array .int
  | 22 => .int
  | 23 => .array .int
  | 24 => .array .int
  | 25 => .array .int
  | 26 => .array .boolean
  | 27 => .int
  | 28 => .int
  | 29 => .int
  | 30 => .array .int
  | 31 => .array .int
  | 32 => .boolean
  | 33 => .array .int
  | 34 => .int
  | 35 => .array .int
  | 36 => .array .long
  | 37 => .array .long
  | 38 => .array .long
  | 39 => .array .int
  | 40 => .int
  | 41 => .array .int
  | 42 => .array .int
  | 43 => .int
  | 44 => .int
  | 45 => .int
  | 46 => .array .int
  | 47 => .array .int
  | 48 => .array .long
  | _ => .array .long
abbrev wsX110 : List Cond := u_ws RX11 TX11 50
theorem nmX11 : ∀ a, a < 50 → ∀ b, b < 50 → a ≠ b → (TX11 a).2.1 ≠ (TX11 b).2.1 := by decide +kernel
theorem tyX11_ok : ∀ k, k < 50 → parseFieldDescriptor (TX11 k).2.2.1 = some (tyX11 k) := by decide +kernel
abbrev cX11_within : ByteArray := prog_13_method_1_code
def yX11_within : MethodName := ⟨RX11, "within", "(JJJ)Z"⟩
abbrev cX11_bitsOf : ByteArray := prog_13_method_2_code
def yX11_bitsOf : MethodName := ⟨RX11, "bitsOf", "(I)I"⟩
abbrev cX11_init : ByteArray := prog_13_method_3_code
def yX11_init : MethodName := ⟨RX11, "<init>", "()V"⟩
abbrev cX11_becomes : ByteArray := prog_13_method_4_code
def yX11_becomes : MethodName := ⟨RX11, "becomes", "(II)I"⟩
abbrev cX11_undo : ByteArray := prog_13_method_5_code
def yX11_undo : MethodName := ⟨RX11, "undo", "()I"⟩
abbrev cX11_redo : ByteArray := prog_13_method_6_code
def yX11_redo : MethodName := ⟨RX11, "redo", "()I"⟩
abbrev cX11_isPlayer : ByteArray := prog_13_method_7_code
def yX11_isPlayer : MethodName := ⟨RX11, "isPlayer", "(I)Z"⟩
abbrev cX11_isMatch : ByteArray := prog_13_method_8_code
def yX11_isMatch : MethodName := ⟨RX11, "isMatch", "(I)Z"⟩
abbrev cX11_counts : ByteArray := prog_13_method_9_code
def yX11_counts : MethodName := ⟨RX11, "counts", "(I)Z"⟩
abbrev cX11_player : ByteArray := prog_13_method_10_code
def yX11_player : MethodName := ⟨RX11, "player", "(I)I"⟩
abbrev cX11_areTwo : ByteArray := prog_13_method_11_code
def yX11_areTwo : MethodName := ⟨RX11, "areTwo", "(JJ)Z"⟩
abbrev cX11_adds : ByteArray := prog_13_method_12_code
def yX11_adds : MethodName := ⟨RX11, "adds", "(II)V"⟩
abbrev cX11_match : ByteArray := prog_13_method_13_code
def yX11_match : MethodName := ⟨RX11, "match", "(I)I"⟩
abbrev cX11_matches : ByteArray := prog_13_method_14_code
def yX11_matches : MethodName := ⟨RX11, "matches", "(III)I"⟩
abbrev cX11_mend : ByteArray := prog_13_method_15_code
def yX11_mend : MethodName := ⟨RX11, "mend", "(III)I"⟩
abbrev cX11_wonBy : ByteArray := prog_13_method_16_code
def yX11_wonBy : MethodName := ⟨RX11, "wonBy", "(I)I"⟩
abbrev cX11_lostBy : ByteArray := prog_13_method_17_code
def yX11_lostBy : MethodName := ⟨RX11, "lostBy", "(I)I"⟩
abbrev cX11_of : ByteArray := prog_13_method_18_code
def yX11_of : MethodName := ⟨RX11, "of", "(II)I"⟩
abbrev cX11_feed : ByteArray := prog_13_method_19_code
def yX11_feed : MethodName := ⟨RX11, "feed", "(I)I"⟩
abbrev cX11_byteAt : ByteArray := prog_13_method_20_code
def yX11_byteAt : MethodName := ⟨RX11, "byteAt", "()I"⟩
abbrev cX11_faulty : ByteArray := prog_13_method_21_code
def yX11_faulty : MethodName := ⟨RX11, "faulty", "()I"⟩
abbrev cX11_takes : ByteArray := prog_13_method_22_code
def yX11_takes : MethodName := ⟨RX11, "takes", "(I)Z"⟩
abbrev cX11_either : ByteArray := prog_13_method_23_code
def yX11_either : MethodName := ⟨RX11, "either", "()I"⟩
abbrev cX11_both : ByteArray := prog_13_method_24_code
def yX11_both : MethodName := ⟨RX11, "both", "()I"⟩
abbrev cX11_compared : ByteArray := prog_13_method_25_code
def yX11_compared : MethodName := ⟨RX11, "compared", "()I"⟩
abbrev cX11_sums : ByteArray := prog_13_method_26_code
def yX11_sums : MethodName := ⟨RX11, "sums", "()I"⟩
abbrev cX11_product : ByteArray := prog_13_method_27_code
def yX11_product : MethodName := ⟨RX11, "product", "()I"⟩
abbrev cX11_nameOf : ByteArray := prog_13_method_28_code
def yX11_nameOf : MethodName := ⟨RX11, "nameOf", "(I)I"⟩
abbrev cX11_one : ByteArray := prog_13_method_29_code
def yX11_one : MethodName := ⟨RX11, "one", "()I"⟩
abbrev cX11_workOut : ByteArray := prog_13_method_30_code
def yX11_workOut : MethodName := ⟨RX11, "workOut", "(II)I"⟩
abbrev cX11_law : ByteArray := prog_13_method_31_code
def yX11_law : MethodName := ⟨RX11, "law", "()I"⟩
abbrev cX11_chanceOf : ByteArray := prog_13_method_32_code
def yX11_chanceOf : MethodName := ⟨RX11, "chanceOf", "(III)I"⟩
abbrev cX11_chance : ByteArray := prog_13_method_33_code
def yX11_chance : MethodName := ⟨RX11, "chance", "(II)I"⟩
abbrev cX11_codeNow : ByteArray := prog_13_method_34_code
def yX11_codeNow : MethodName := ⟨RX11, "codeNow", "()I"⟩
abbrev cX11_takesIn : ByteArray := prog_13_method_35_code
def yX11_takesIn : MethodName := ⟨RX11, "takesIn", "()V"⟩
abbrev cX11_laysFrom : ByteArray := prog_13_method_36_code
def yX11_laysFrom : MethodName := ⟨RX11, "laysFrom", "(II)V"⟩
abbrev cX11_allThatCount : ByteArray := prog_13_method_37_code
def yX11_allThatCount : MethodName := ⟨RX11, "allThatCount", "()I"⟩
abbrev cX11_beats : ByteArray := prog_13_method_38_code
def yX11_beats : MethodName := ⟨RX11, "beats", "(I)V"⟩
abbrev cX11_goesThrough : ByteArray := prog_13_method_39_code
def yX11_goesThrough : MethodName := ⟨RX11, "goesThrough", "(III)V"⟩
abbrev cX11_orders : ByteArray := prog_13_method_40_code
def yX11_orders : MethodName := ⟨RX11, "orders", "(I)I"⟩
abbrev cX11_sure : ByteArray := prog_13_method_41_code
def yX11_sure : MethodName := ⟨RX11, "sure", "(I)I"⟩
abbrev cX11_places : ByteArray := prog_13_method_42_code
def yX11_places : MethodName := ⟨RX11, "places", "(I)I"⟩
abbrev cX11_hasOrder : ByteArray := prog_13_method_43_code
def yX11_hasOrder : MethodName := ⟨RX11, "hasOrder", "(I)Z"⟩
abbrev cX11_clash : ByteArray := prog_13_method_44_code
def yX11_clash : MethodName := ⟨RX11, "clash", "()I"⟩
abbrev cX11_wrong : ByteArray := prog_13_method_45_code
def yX11_wrong : MethodName := ⟨RX11, "wrong", "()I"⟩
abbrev cX11_isQuestion : ByteArray := prog_13_method_46_code
def yX11_isQuestion : MethodName := ⟨RX11, "isQuestion", "(I)Z"⟩
abbrev cX11_ask : ByteArray := prog_13_method_47_code
def yX11_ask : MethodName := ⟨RX11, "ask", "(II)I"⟩
abbrev cX11_proof : ByteArray := prog_13_method_48_code
def yX11_proof : MethodName := ⟨RX11, "proof", "(I)I"⟩
abbrev cX11_isAnswered : ByteArray := prog_13_method_49_code
def yX11_isAnswered : MethodName := ⟨RX11, "isAnswered", "(I)Z"⟩
abbrev cX11_those : ByteArray := prog_13_method_50_code
def yX11_those : MethodName := ⟨RX11, "those", "(III)I"⟩
abbrev cX11_worstOf : ByteArray := prog_13_method_51_code
def yX11_worstOf : MethodName := ⟨RX11, "worstOf", "(I)I"⟩
abbrev cX11_togetherOf : ByteArray := prog_13_method_52_code
def yX11_togetherOf : MethodName := ⟨RX11, "togetherOf", "(I)I"⟩
abbrev cX11_gathers : ByteArray := prog_13_method_53_code
def yX11_gathers : MethodName := ⟨RX11, "gathers", "(I)I"⟩
abbrev cX11_allOrders : ByteArray := prog_13_method_54_code
def yX11_allOrders : MethodName := ⟨RX11, "allOrders", "()I"⟩
abbrev cX11_worst : ByteArray := prog_13_method_55_code
def yX11_worst : MethodName := ⟨RX11, "worst", "(I)I"⟩
abbrev cX11_common : ByteArray := prog_13_method_56_code
def yX11_common : MethodName := ⟨RX11, "common", "(II)I"⟩
abbrev cX11_mean : ByteArray := prog_13_method_57_code
def yX11_mean : MethodName := ⟨RX11, "mean", "(II)I"⟩
abbrev cX11_next : ByteArray := prog_13_method_58_code
def yX11_next : MethodName := ⟨RX11, "next", "(II)I"⟩
abbrev cX11_longest : ByteArray := prog_13_method_59_code
def yX11_longest : MethodName := ⟨RX11, "longest", "(I)I"⟩
abbrev cX11_placeInRow : ByteArray := prog_13_method_60_code
def yX11_placeInRow : MethodName := ⟨RX11, "placeInRow", "(I)I"⟩
abbrev cX11_cup : ByteArray := prog_13_method_61_code
def yX11_cup : MethodName := ⟨RX11, "cup", "(I)I"⟩
abbrev cX11_isCup : ByteArray := prog_13_method_62_code
def yX11_isCup : MethodName := ⟨RX11, "isCup", "()Z"⟩
abbrev cX11_goesCup : ByteArray := prog_13_method_63_code
def yX11_goesCup : MethodName := ⟨RX11, "goesCup", "()V"⟩
abbrev cX11_commonOf : ByteArray := prog_13_method_64_code
def yX11_commonOf : MethodName := ⟨RX11, "commonOf", "(JJ)J"⟩
abbrev cX11_partOf : ByteArray := prog_13_method_65_code
def yX11_partOf : MethodName := ⟨RX11, "partOf", "(JJI)J"⟩
abbrev cX11_linesUp : ByteArray := prog_13_method_66_code
def yX11_linesUp : MethodName := ⟨RX11, "linesUp", "()V"⟩
abbrev cX11_likely : ByteArray := prog_13_method_67_code
def yX11_likely : MethodName := ⟨RX11, "likely", "(III)J"⟩
abbrev cX11_friend : ByteArray := prog_13_method_68_code
def yX11_friend : MethodName := ⟨RX11, "friend", "(I)I"⟩
abbrev cX11_lots : ByteArray := prog_13_method_69_code
def yX11_lots : MethodName := ⟨RX11, "lots", "(III)I"⟩
abbrev cX11_isMore : ByteArray := prog_13_method_70_code
def yX11_isMore : MethodName := ⟨RX11, "isMore", "(II)Z"⟩
abbrev cX11_champion : ByteArray := prog_13_method_71_code
def yX11_champion : MethodName := ⟨RX11, "champion", "(I)I"⟩
abbrev cX11_isHigher : ByteArray := prog_13_method_72_code
def yX11_isHigher : MethodName := ⟨RX11, "isHigher", "(II)Z"⟩
abbrev cX11_placeInTable : ByteArray := prog_13_method_73_code
def yX11_placeInTable : MethodName := ⟨RX11, "placeInTable", "(I)I"⟩
abbrev cX11_table : ByteArray := prog_13_method_74_code
def yX11_table : MethodName := ⟨RX11, "table", "(II)I"⟩
abbrev cX11_mayPlay : ByteArray := prog_13_method_75_code
def yX11_mayPlay : MethodName := ⟨RX11, "mayPlay", "(III)Z"⟩
abbrev cX11_days : ByteArray := prog_13_method_76_code
def yX11_days : MethodName := ⟨RX11, "days", "(II)I"⟩
abbrev cX11_isBody : ByteArray := prog_13_method_77_code
def yX11_isBody : MethodName := ⟨RX11, "isBody", "(I)Z"⟩
abbrev cX11_kindOf : ByteArray := prog_13_method_78_code
def yX11_kindOf : MethodName := ⟨RX11, "kindOf", "(I)I"⟩
abbrev cX11_body : ByteArray := prog_13_method_79_code
def yX11_body : MethodName := ⟨RX11, "body", "(I)I"⟩
abbrev cX11_above : ByteArray := prog_13_method_80_code
def yX11_above : MethodName := ⟨RX11, "above", "(I)I"⟩
abbrev cX11_begins : ByteArray := prog_13_method_81_code
def yX11_begins : MethodName := ⟨RX11, "begins", "(I)V"⟩
abbrev cX11_beatsAs : ByteArray := prog_13_method_82_code
def yX11_beatsAs : MethodName := ⟨RX11, "beatsAs", "(II)I"⟩
abbrev cX11_standsAs : ByteArray := prog_13_method_83_code
def yX11_standsAs : MethodName := ⟨RX11, "standsAs", "(II)I"⟩
abbrev cX11_asksAs : ByteArray := prog_13_method_84_code
def yX11_asksAs : MethodName := ⟨RX11, "asksAs", "(II)I"⟩
abbrev cX11_tellsAs : ByteArray := prog_13_method_85_code
def yX11_tellsAs : MethodName := ⟨RX11, "tellsAs", "(II)I"⟩
abbrev cX11_act : ByteArray := prog_13_method_86_code
def yX11_act : MethodName := ⟨RX11, "act", "(III)I"⟩
abbrev cX11_trace : ByteArray := prog_13_method_87_code
def yX11_trace : MethodName := ⟨RX11, "trace", "(I)I"⟩
abbrev cX11_isShelf : ByteArray := prog_13_method_88_code
def yX11_isShelf : MethodName := ⟨RX11, "isShelf", "(I)Z"⟩
abbrev cX11_keep : ByteArray := prog_13_method_89_code
def yX11_keep : MethodName := ⟨RX11, "keep", "(II)I"⟩
abbrev cX11_row : ByteArray := prog_13_method_90_code
def yX11_row : MethodName := ⟨RX11, "row", "(III)I"⟩
abbrev cX11_refusal : ByteArray := prog_13_method_91_code
def yX11_refusal : MethodName := ⟨RX11, "refusal", "(II)I"⟩
abbrev cX11_asSort : ByteArray := prog_13_method_92_code
def yX11_asSort : MethodName := ⟨RX11, "asSort", "(IJ)J"⟩
abbrev cX11_put : ByteArray := prog_13_method_93_code
def yX11_put : MethodName := ⟨RX11, "put", "(IIJ)I"⟩
abbrev cX11_element : ByteArray := prog_13_method_94_code
def yX11_element : MethodName := ⟨RX11, "element", "(II)J"⟩
abbrev cX11_shift : ByteArray := prog_13_method_95_code
def yX11_shift : MethodName := ⟨RX11, "shift", "(IIIII)I"⟩
abbrev cX11_taken : ByteArray := prog_13_method_96_code
def yX11_taken : MethodName := ⟨RX11, "taken", "(II)I"⟩
abbrev cX11_count : ByteArray := prog_13_method_97_code
def yX11_count : MethodName := ⟨RX11, "count", "(I)I"⟩
def RJ6 : String := "java/lang/Integer"
def TJ6 : u_T := fun k => match k with
  | _ => ("", "", "", false)
def tyJ6 : Nat → FieldType := fun k => match k with
  | _ => .int
abbrev wsJ60 : List Cond := u_ws RJ6 TJ6 0
theorem nmJ6 : ∀ a, a < 0 → ∀ b, b < 0 → a ≠ b → (TJ6 a).2.1 ≠ (TJ6 b).2.1 := by decide +kernel
theorem tyJ6_ok : ∀ k, k < 0 → parseFieldDescriptor (TJ6 k).2.2.1 = some (tyJ6 k) := by decide +kernel
abbrev cJ6_bitCount_0f7a4 : ByteArray := prog_14_method_49_code
def yJ6_bitCount_0f7a4 : MethodName := ⟨RJ6, "bitCount", "(I)I"⟩
def RJ9 : String := "java/lang/Math"
def TJ9 : u_T := fun k => match k with
  | _ => ("", "", "", false)
def tyJ9 : Nat → FieldType := fun k => match k with
  | _ => .int
abbrev wsJ90 : List Cond := u_ws RJ9 TJ9 0
theorem nmJ9 : ∀ a, a < 0 → ∀ b, b < 0 → a ≠ b → (TJ9 a).2.1 ≠ (TJ9 b).2.1 := by decide +kernel
theorem tyJ9_ok : ∀ k, k < 0 → parseFieldDescriptor (TJ9 k).2.2.1 = some (tyJ9 k) := by decide +kernel
abbrev cJ9_max_7cf53 : ByteArray := prog_15_method_65_code
def yJ9_max_7cf53 : MethodName := ⟨RJ9, "max", "(II)I"⟩
abbrev cJ9_min_7cf53 : ByteArray := prog_15_method_69_code
def yJ9_min_7cf53 : MethodName := ⟨RJ9, "min", "(II)I"⟩
def RJ10 : String := "java/lang/System"
def TJ10 : u_T := fun k => match k with
  | _ => ("", "", "", false)
def tyJ10 : Nat → FieldType := fun k => match k with
  | _ => .int
abbrev wsJ100 : List Cond := u_ws RJ10 TJ10 0
theorem nmJ10 : ∀ a, a < 0 → ∀ b, b < 0 → a ≠ b → (TJ10 a).2.1 ≠ (TJ10 b).2.1 := by decide +kernel
theorem tyJ10_ok : ∀ k, k < 0 → parseFieldDescriptor (TJ10 k).2.2.1 = some (tyJ10 k) := by decide +kernel
def RJ7 : String := "java/util/Arrays"
def TJ7 : u_T := fun k => match k with
  | _ => ("", "", "", false)
def tyJ7 : Nat → FieldType := fun k => match k with
  | _ => .int
abbrev wsJ70 : List Cond := u_ws RJ7 TJ7 0
theorem nmJ7 : ∀ a, a < 0 → ∀ b, b < 0 → a ≠ b → (TJ7 a).2.1 ≠ (TJ7 b).2.1 := by decide +kernel
theorem tyJ7_ok : ∀ k, k < 0 → parseFieldDescriptor (TJ7 k).2.2.1 = some (tyJ7 k) := by decide +kernel
abbrev cJ7_rangeCheck_23922 : ByteArray := prog_17_method_30_code
def yJ7_rangeCheck_23922 : MethodName := ⟨RJ7, "rangeCheck", "(III)V"⟩
abbrev cJ7_fill_bad5a : ByteArray := prog_17_method_102_code
def yJ7_fill_bad5a : MethodName := ⟨RJ7, "fill", "([JIIJ)V"⟩
abbrev cJ7_fill_53178 : ByteArray := prog_17_method_103_code
def yJ7_fill_53178 : MethodName := ⟨RJ7, "fill", "([II)V"⟩
abbrev cJ7_fill_fda19 : ByteArray := prog_17_method_104_code
def yJ7_fill_fda19 : MethodName := ⟨RJ7, "fill", "([IIII)V"⟩
def RL : String := "SecondBestLaw"
abbrev cL_law : ByteArray := code
def yL_law : MethodName := ⟨RL, "law", "([I)Z"⟩
end
section
/-! the abstract store: 77 cells of fixed shapes, what they hold as functions; the machine over it -/
def ab_NC : Nat := 77
def ab_sK : List Nat := [10, 4, 100, 100, 100, 100, 2, 100, 100, 100, 100, 7, 100, 100, 8, 7, 100, 100, 100, 100, 0, 100, 5, 100, 100, 100, 100, 100, 3, 100, 100, 100, 100, 101, 6, 100, 100, 100, 100, 100, 1, 100, 100, 9, 100, 100, 101, 11, 100, 100, 100, 100, 100, 100, 100, 100, 100, 100, 100, 100, 100, 100, 102, 100, 100, 100, 100, 101, 101, 101, 100, 100, 100, 100, 100, 101, 101]
def ab_sN : List Nat := [0, 0, 8, 12, 12, 12, 0, 40, 40, 40, 40, 0, 8, 256, 0, 0, 8, 256, 729, 729, 0, 256, 0, 120, 242, 242, 121, 5, 0, 8, 8, 8, 192, 32, 0, 8, 8, 12, 12, 12, 0, 24, 50, 0, 6, 6, 360, 0, 20, 40, 40, 40, 12, 12, 120, 120, 5, 8, 8, 8, 8, 64, 256, 96, 24, 8, 8, 8, 8, 8, 12, 50, 24, 6, 6, 360, 60]
def ab_k (c : Nat) : Nat := ab_sK.getD c 999
def ab_n (c : Nat) : Nat := ab_sN.getD c 0
def ab_fT : List (List Nat) := [[1], [0, 0, 1, 1, 0], [0, 0, 1, 1, 1, 1], [0, 1, 1, 1, 1, 1], [0, 0, 1, 1, 1, 1], [0, 1, 0, 0, 2, 0, 2, 0, 1, 0, 1], [1, 1, 0, 1, 1, 1], [0, 1, 0, 1], [1, 1, 1, 0, 0, 0, 0, 0], [1, 1, 1], [1, 1, 1, 1, 1, 1, 1, 1, 1, 1], [1, 1, 1, 1, 0, 0, 0, 0, 1, 1, 1, 0, 1, 0, 0, 0, 0, 0, 0, 1, 1, 1, 0, 1, 1, 1, 1, 0, 0, 0, 1, 1, 0, 1, 0, 1, 1, 1, 1, 1, 0, 1, 1, 0, 0, 0, 1, 1, 1, 1]]
def ab_ft (ci k : Nat) : Nat := (ab_fT.getD ci []).getD k 9
def ab_fN (ci : Nat) : Nat := (ab_fT.getD ci []).length
def ab_rT : List (List Nat) := [[1, 6, 11, 14, 20, 22, 28, 34, 40, 43], [0, 0, 2, 3, 4, 5], [], [], [], [], [0, 0, 7, 8, 9, 10], [], [], [], [], [0, 12, 0, 13], [], [], [15, 18, 19, 0, 0, 0, 0, 0], [0, 16, 0, 17], [], [], [], [], [21], [], [0, 23, 0, 0, 24, 0, 25, 0, 26, 0, 27], [], [], [], [], [], [0, 29, 30, 31, 32, 33], [], [], [], [], [], [35, 36, 0, 37, 38, 39], [], [], [], [], [], [0, 0, 41, 42, 0], [], [], [44, 45, 46], [], [], [], [48, 49, 50, 51, 0, 0, 0, 0, 52, 53, 54, 0, 55, 0, 0, 0, 0, 0, 0, 56, 57, 58, 0, 59, 60, 61, 62, 0, 0, 0, 63, 64, 0, 65, 0, 66, 67, 68, 69, 70, 0, 71, 72, 0, 0, 0, 73, 74, 75, 76], [], [], [], [], [], [], [], [], [], [], [], [], [], [], [], [], [], [], [], [], [], [], [], [], [], [], [], [], []]
def ab_rf (c k : Nat) : Nat := (ab_rT.getD c []).getD k 0
abbrev ab_cls : List vw_C := [(RX0, TX0, 1), (RX1, TX1, 5), (RX2, TX2, 6), (RX3, TX3, 6), (RX4, TX4, 6), (RX5, TX5, 11), (RX6, TX6, 6), (RX7, TX7, 4), (RX8, TX8, 8), (RX9, TX9, 3), (RX10, TX10, 10), (RX11, TX11, 50)]
abbrev Mem : Type := (Nat → Nat → Int32) × (Nat → Nat → Int64) × (Nat → Nat → Nat)
abbrev GW : Type := (Nat → Nat) × va_G × ClassId × ClassId × ClassId
def wI (M : Mem) (c k : Nat) (v : Int32) : Mem := (fun a => if a = c then upd (M.1 c) k v else M.1 a, M.2.1, M.2.2)
def wL (M : Mem) (c k : Nat) (v : Int64) : Mem := (M.1, fun a => if a = c then vp_updL (M.2.1 c) k v else M.2.1 a, M.2.2)
def wR (M : Mem) (c k : Nat) (v : Nat) : Mem := (M.1, M.2.1, fun a => if a = c then va_up (M.2.2 c) k v else M.2.2 a)
def cpI (M : Mem) (c sp d dp n : Nat) : Mem := (fun a => if a = d then va_cpy (M.1 c) (M.1 d) sp dp n else M.1 a, M.2.1, M.2.2)
def cpL (M : Mem) (c sp d dp n : Nat) : Mem := (M.1, fun a => if a = d then va_cpy (M.2.1 c) (M.2.1 d) sp dp n else M.2.1 a, M.2.2)
def ab_fv (ad : Nat → Nat) (M : Mem) (c k : Nat) : Value := if ab_ft (ab_k c) k = 1 then .ref (ad (ab_rf c k)) else if ab_ft (ab_k c) k = 2 then .ref (ad (M.2.2 c k)) else .int (M.1 c k)
def ab_fl (ad : Nat → Nat) (M : Mem) (c : Nat) : List Value := (List.range (ab_fN (ab_k c))).map (fun k => ab_fv ad M c k)
def ab_ce (G : GW) (M : Mem) (c : Nat) : va_E := if ab_k c = 100 then .inl (G.2.2.1, ab_n c, .inl (M.1 c)) else if ab_k c = 101 then .inl (G.2.2.2.1, ab_n c, .inr (.inl (M.2.1 c))) else if ab_k c = 102 then .inl (G.2.2.2.2, ab_n c, .inl (M.1 c)) else .inr (ab_k c, ab_fl G.1 M c)
def ab_w (G : GW) (M : Mem) : va_W := (List.range ab_NC).map (fun c => (G.1 c, ab_ce G M c))
def ab_A (G : GW) : Nat → Prop := fun q => ∃ c, c < ab_NC ∧ q = G.1 c
def ab_ok (G : GW) : Prop := ∀ i j, i < ab_NC → j < ab_NC → G.1 i = G.1 j → i = j
def ab_ty (G : GW) : List (ClassId × FieldType) := [(G.2.2.1, .int), (G.2.2.2.1, .long), (G.2.2.2.2, .boolean)]
theorem ab_klt {c : Nat} (h : ab_k c ≠ 999) : c < ab_NC := by
  refine Nat.lt_of_not_le fun q => h ?_
  have e : ab_sK.length = ab_NC := by decide +kernel
  unfold ab_k
  rw [List.getD_eq_getElem?_getD, List.getElem?_eq_none (by omega)]
  rfl
theorem ab_w_at (G : GW) (M : Mem) {c : Nat} (h : c < ab_NC) : (ab_w G M)[c]? = some (G.1 c, ab_ce G M c) := by
  simp [ab_w, List.getElem?_map, List.getElem?_range h]
theorem ab_D {G : GW} (h : ab_ok G) (M : Mem) : va_D (ab_A G) (ab_w G M) := by
  have key : ∀ (k : Nat) (q : Nat × va_E), (ab_w G M)[k]? = some q → k < ab_NC ∧ q.1 = G.1 k := by
    intro k q hk
    have hl := (List.getElem?_eq_some_iff.mp hk).1
    have hk' : k < ab_NC := by simpa [ab_w] using hl
    rw [ab_w_at G M hk'] at hk
    cases hk
    exact ⟨hk', rfl⟩
  refine ⟨fun i j p q hi hj e => ?_, fun k q hk => ?_⟩
  · obtain ⟨h1, e1⟩ := key i p hi
    obtain ⟨h2, e2⟩ := key j q hj
    exact h i j h1 h2 (e1.symm.trans (e.trans e2))
  · obtain ⟨h1, e1⟩ := key k q hk
    exact ⟨k, h1, e1⟩
theorem ab_w_set {G : GW} {M M' : Mem} {c : Nat} (hc : c < ab_NC) (h : ∀ a, a ≠ c → ab_ce G M' a = ab_ce G M a) : (ab_w G M).set c (G.1 c, ab_ce G M' c) = ab_w G M' := by
  apply List.ext_getElem?
  intro i
  by_cases hi : i = c
  · subst hi
    rw [List.getElem?_set_self (by simpa [ab_w] using hc), ab_w_at G M' hc]
  · rw [List.getElem?_set_ne (Ne.symm hi)]
    by_cases hl : i < ab_NC
    · rw [ab_w_at G M hl, ab_w_at G M' hl, h i hi]
    · rw [List.getElem?_eq_none (by simpa [ab_w] using Nat.not_lt.mp hl), List.getElem?_eq_none (by simpa [ab_w] using Nat.not_lt.mp hl)]
theorem ab_ce_congr {G : GW} {M M' : Mem} {a : Nat} (h1 : M'.1 a = M.1 a) (h2 : M'.2.1 a = M.2.1 a) (h3 : M'.2.2 a = M.2.2 a) : ab_ce G M' a = ab_ce G M a := by
  simp only [ab_ce, ab_fl, ab_fv, h1, h2, h3]
theorem ab_ceI {G : GW} {M : Mem} {c : Nat} (h : ab_k c = 100) : ab_ce G M c = .inl (G.2.2.1, ab_n c, .inl (M.1 c)) := by simp [ab_ce, h]
theorem ab_ceL {G : GW} {M : Mem} {c : Nat} (h : ab_k c = 101) : ab_ce G M c = .inl (G.2.2.2.1, ab_n c, .inr (.inl (M.2.1 c))) := by simp [ab_ce, h]
theorem ab_ceZ {G : GW} {M : Mem} {c : Nat} (h : ab_k c = 102) : ab_ce G M c = .inl (G.2.2.2.2, ab_n c, .inl (M.1 c)) := by simp [ab_ce, h]
theorem ab_ceO {G : GW} {M : Mem} {c : Nat} (h : ab_k c < 100) : ab_ce G M c = .inr (ab_k c, ab_fl G.1 M c) := by
  simp only [ab_ce]
  rw [if_neg (by omega), if_neg (by omega), if_neg (by omega)]
theorem ab_wI_o {M : Mem} {c k : Nat} {v : Int32} {a : Nat} (h : a ≠ c) : (wI M c k v).1 a = M.1 a := by simp [wI, h]
theorem ab_wI_s {M : Mem} {c k : Nat} {v : Int32} : (wI M c k v).1 c = upd (M.1 c) k v := by simp [wI]
theorem ab_setI {G : GW} {M : Mem} {c k : Nat} {v : Int32} (h : ab_k c = 100) : (ab_w G M).set c (G.1 c, .inl (G.2.2.1, ab_n c, .inl (upd (M.1 c) k v))) = ab_w G (wI M c k v) := by
  have e := ab_w_set (G := G) (M := M) (M' := wI M c k v) (c := c) (ab_klt (by omega)) (fun a ha => ab_ce_congr (ab_wI_o ha) rfl rfl)
  rw [ab_ceI h, ab_wI_s] at e
  exact e
theorem ab_setZ {G : GW} {M : Mem} {c k : Nat} {v : Int32} (h : ab_k c = 102) : (ab_w G M).set c (G.1 c, .inl (G.2.2.2.2, ab_n c, .inl (upd (M.1 c) k v))) = ab_w G (wI M c k v) := by
  have e := ab_w_set (G := G) (M := M) (M' := wI M c k v) (c := c) (ab_klt (by omega)) (fun a ha => ab_ce_congr (ab_wI_o ha) rfl rfl)
  rw [ab_ceZ h, ab_wI_s] at e
  exact e
theorem ab_setL {G : GW} {M : Mem} {c k : Nat} {v : Int64} (h : ab_k c = 101) : (ab_w G M).set c (G.1 c, .inl (G.2.2.2.1, ab_n c, .inr (.inl (vp_updL (M.2.1 c) k v)))) = ab_w G (wL M c k v) := by
  have e := ab_w_set (G := G) (M := M) (M' := wL M c k v) (c := c) (ab_klt (by omega)) (fun a ha => ab_ce_congr rfl (by simp [wL, ha]) rfl)
  rw [ab_ceL h] at e
  have e2 : (wL M c k v).2.1 c = vp_updL (M.2.1 c) k v := by simp [wL]
  rw [e2] at e
  exact e
theorem ab_setCI {G : GW} {M : Mem} {c sp d dp n : Nat} (h : ab_k d = 100) : (ab_w G M).set d (G.1 d, .inl (G.2.2.1, ab_n d, .inl (va_cpy (M.1 c) (M.1 d) sp dp n))) = ab_w G (cpI M c sp d dp n) := by
  have e := ab_w_set (G := G) (M := M) (M' := cpI M c sp d dp n) (c := d) (ab_klt (by omega)) (fun a ha => ab_ce_congr (by simp [cpI, ha]) rfl rfl)
  rw [ab_ceI h] at e
  have e2 : (cpI M c sp d dp n).1 d = va_cpy (M.1 c) (M.1 d) sp dp n := by simp [cpI]
  rw [e2] at e
  exact e
theorem ab_setCL {G : GW} {M : Mem} {c sp d dp n : Nat} (h : ab_k d = 101) : (ab_w G M).set d (G.1 d, .inl (G.2.2.2.1, ab_n d, .inr (.inl (va_cpy (M.2.1 c) (M.2.1 d) sp dp n)))) = ab_w G (cpL M c sp d dp n) := by
  have e := ab_w_set (G := G) (M := M) (M' := cpL M c sp d dp n) (c := d) (ab_klt (by omega)) (fun a ha => ab_ce_congr rfl (by simp [cpL, ha]) rfl)
  rw [ab_ceL h] at e
  have e2 : (cpL M c sp d dp n).2.1 d = va_cpy (M.2.1 c) (M.2.1 d) sp dp n := by simp [cpL]
  rw [e2] at e
  exact e
theorem ab_fl_at {ad : Nat → Nat} {M : Mem} {c k : Nat} (h : k < ab_fN (ab_k c)) : (ab_fl ad M c)[k]? = some (ab_fv ad M c k) := by
  simp [ab_fl, List.getElem?_map, List.getElem?_range h]
theorem ab_fl_len {ad : Nat → Nat} {M : Mem} {c : Nat} : (ab_fl ad M c).length = ab_fN (ab_k c) := by simp [ab_fl]
theorem ab_fl_setI {ad : Nat → Nat} {M : Mem} {c k : Nat} {v : Int32} (ht : ab_ft (ab_k c) k = 0) : (ab_fl ad M c).set k (.int v) = ab_fl ad (wI M c k v) c := by
  apply List.ext_getElem?
  intro i
  by_cases hl : i < ab_fN (ab_k c)
  · by_cases hi : i = k
    · subst hi
      rw [List.getElem?_set_self (by rw [ab_fl_len]; exact hl), ab_fl_at hl]
      simp [ab_fv, ht, ab_wI_s, upd]
    · rw [List.getElem?_set_ne (Ne.symm hi), ab_fl_at hl, ab_fl_at hl]
      simp [ab_fv, ab_wI_s, upd, hi, wI]
  · rw [List.getElem?_eq_none (by rw [List.length_set, ab_fl_len]; omega), List.getElem?_eq_none (by rw [ab_fl_len]; omega)]
theorem ab_fl_setR {ad : Nat → Nat} {M : Mem} {c k : Nat} {v : Nat} (ht : ab_ft (ab_k c) k = 2) : (ab_fl ad M c).set k (.ref (ad v)) = ab_fl ad (wR M c k v) c := by
  apply List.ext_getElem?
  intro i
  by_cases hl : i < ab_fN (ab_k c)
  · by_cases hi : i = k
    · subst hi
      rw [List.getElem?_set_self (by rw [ab_fl_len]; exact hl), ab_fl_at hl]
      simp [ab_fv, ht, wR, va_up]
    · rw [List.getElem?_set_ne (Ne.symm hi), ab_fl_at hl, ab_fl_at hl]
      simp [ab_fv, wR, va_up, hi]
  · rw [List.getElem?_eq_none (by rw [List.length_set, ab_fl_len]; omega), List.getElem?_eq_none (by rw [ab_fl_len]; omega)]
theorem ab_setFI {G : GW} {M : Mem} {c k : Nat} {v : Int32} (h : ab_k c < 100) (ht : ab_ft (ab_k c) k = 0) : (ab_w G M).set c (G.1 c, .inr (ab_k c, (ab_fl G.1 M c).set k (.int v))) = ab_w G (wI M c k v) := by
  have e := ab_w_set (G := G) (M := M) (M' := wI M c k v) (c := c) (ab_klt (by omega)) (fun a ha => ab_ce_congr (ab_wI_o ha) rfl rfl)
  rw [ab_ceO h] at e
  rw [ab_fl_setI ht]
  exact e
theorem ab_setFR {G : GW} {M : Mem} {c k : Nat} {v : Nat} (h : ab_k c < 100) (ht : ab_ft (ab_k c) k = 2) : (ab_w G M).set c (G.1 c, .inr (ab_k c, (ab_fl G.1 M c).set k (.ref (G.1 v)))) = ab_w G (wR M c k v) := by
  have e := ab_w_set (G := G) (M := M) (M' := wR M c k v) (c := c) (ab_klt (by omega)) (fun a ha => ab_ce_congr rfl rfl (by simp [wR, ha]))
  rw [ab_ceO h] at e
  rw [ab_fl_setR ht]
  exact e
end
section
/-! the machine over the abstract store -/
def BW : List Cond := lw_tbl.filter goodWord
def ab_rem (x y : Int32) : Int32 := x - x / y * y
def ab_lrem (x y : Int64) : Int64 := x - x / y * y
def ab_shl (x y : Int32) : Int32 := x <<< (y &&& 31)
def ab_shr (x y : Int32) : Int32 := x >>> (y &&& 31)
def ab_ushr (x y : Int32) : Int32 := (x.toUInt32 >>> (y.toUInt32 &&& Int32.toUInt32 31)).toInt32
def ab_lshl (x : Int64) (y : Int32) : Int64 := x <<< (y.toInt64 &&& 63)
def ck {α : Type} (b : Bool) (x : Option α) : Option α := cond b x none
def lt {α β : Type} (e : α) (k : α → Option β) : Option β := k e
def bI {α β : Type} (x : Option (α × Mem)) (k : α → Mem → Option β) : Option β := x.bind (fun r => k r.1 r.2)
def okI (c : Nat) (i : Int32) : Bool := decide (ab_k c = 100) && decide (¬ (i < 0 ∨ ab_n c ≤ i.toNatClampNeg))
def okL (c : Nat) (i : Int32) : Bool := decide (ab_k c = 101) && decide (¬ (i < 0 ∨ ab_n c ≤ i.toNatClampNeg))
def okZ (c : Nat) (i : Int32) : Bool := decide (ab_k c = 102) && decide (¬ (i < 0 ∨ ab_n c ≤ i.toNatClampNeg))
def okB (v : Int32) : Bool := decide (v = 0 ∨ v = 1)
def ab_st (j : Nat) : List Int32 := if j = 0 then [-1, 0, 0, 2, 1, 3, 0, 4] else [1, 10, 11, 2, 20, 0, 0, 0, 0, 30, 0, 0, 0, 41, 40, 0, 0, 0, 50, 0, 0, 0, 0, 60, 70, 0, 0, 0, 0, 80, 0, 81]
def ab_stL : List Int64 := [1, 100, 1000000, 100000000000000]
def okS (j : Nat) (i : Int32) : Bool := decide (¬ (i < 0 ∨ (ab_st j).length ≤ i.toNatClampNeg))
def okSL (i : Int32) : Bool := decide (¬ (i < 0 ∨ 4 ≤ i.toNatClampNeg))
def ab_tr (ad : Nat → Nat) (v : Value) : Value := match v with
  | .ref i => .ref (ad i)
  | w => w
def ab_tp (ad : Nat → Nat) (q : Nat × Value) : Nat × Value := (q.1, ab_tr ad q.2)
theorem ab_cat {ad : Nat → Nat} {v : Value} : (ab_tr ad v).category = v.category := by cases v <;> rfl
theorem ab_lvat {ad : Nat → Nat} {lv : List (Nat × Value)} {j i : Nat} {v : Value} (h : lv[j]? = some (i, v)) : (lv.map (ab_tp ad))[j]? = some (i, ab_tr ad v) := by
  rw [List.getElem?_map, h]
  rfl
theorem ab_lvst {ad : Nat → Nat} {lv lv2 : List (Nat × Value)} {i : Nat} {v : Value} {p : Nat × Value → Bool} (h : (i, v) :: lv.filter p = lv2) (hp : ∀ q, p (ab_tp ad q) = p q) : (i, ab_tr ad v) :: (lv.map (ab_tp ad)).filter p = lv2.map (ab_tp ad) := by
  rw [← h, List.map_cons, List.filter_map]
  have e : p ∘ ab_tp ad = p := funext fun q => hp q
  rw [e]
  rfl
theorem ab_pick {ad : Nat → Nat} {lv lv2 : List (Nat × Value)} {ks : List Nat} (h : lv_pick lv ks = lv2) : lv_pick (lv.map (ab_tp ad)) ks = lv2.map (ab_tp ad) := by
  rw [← h]
  clear h
  unfold lv_pick
  induction ks with
  | nil => rfl
  | cons k ks ih =>
    rw [List.filterMap_cons, List.filterMap_cons, List.getElem?_map]
    cases hk : lv[k]? with
    | none => simpa [hk] using ih
    | some q => simpa [hk] using ih
/-- machine, launch, env, room, start, method, args, below, method's record, its code, cells, slots -/
abbrev EE : Type := Program × Launch × Env × Room × State × MethodId × Array Value × List Frame × Method × Code × Nat × Nat
abbrev eP (E : EE) : Program := E.1
abbrev eLa (E : EE) : Launch := E.2.1
abbrev eE (E : EE) : Env := E.2.2.1
abbrev eR (E : EE) : Room := E.2.2.2.1
abbrev eS (E : EE) : State := E.2.2.2.2.1
abbrev eM (E : EE) : MethodId := E.2.2.2.2.2.1
abbrev eA (E : EE) : Array Value := E.2.2.2.2.2.2.1
abbrev eB (E : EE) : List Frame := E.2.2.2.2.2.2.2.1
abbrev eMe (E : EE) : Method := E.2.2.2.2.2.2.2.2.1
abbrev eC (E : EE) : Code := E.2.2.2.2.2.2.2.2.2.1
abbrev eK (E : EE) : Nat := E.2.2.2.2.2.2.2.2.2.2.1
abbrev eZ (E : EE) : Nat := E.2.2.2.2.2.2.2.2.2.2.2
/-- the static arrays -/
def ab_SF (G : GW) (U : State) : Prop :=
  (va_Z "SecondBest$Bodies" "KIND_ABOVE" "[I" (.ref (G.1 1000)) (ab_A G) U U.heap ∧ va_T .int (G.1 1000) 8 (fun j => .int ((ab_st 0).getD j 0)) (ab_A G) U U.heap) ∧
  (va_Z "SecondBest$Bodies" "OWN" "[I" (.ref (G.1 1001)) (ab_A G) U U.heap ∧ va_T .int (G.1 1001) 32 (fun j => .int ((ab_st 1).getD j 0)) (ab_A G) U U.heap) ∧
  (va_Z "SecondBest$Cup" "PARTS" "[J" (.ref (G.1 1002)) (ab_A G) U U.heap ∧ va_T .long (G.1 1002) 4 (fun j => .long (ab_stL.getD j 0)) (ab_A G) U U.heap)
def Bx (G : GW) (E : EE) (own : String) (cc : ByteArray) (nL lev : Nat) (ret : Option FieldType) : Prop :=
  (eP E).tables.exec = Jvm.exec ∧ (eC E).code = cc ∧ (eC E).maxLocals = nL ∧ (eS E).vm.findClass own = some (eM E).cls ∧ (∀ w ∈ BW, w.before (eA E) (eS E) = true) ∧ va_K G.2.1 ab_cls (ab_ty G) (eS E) ∧ ab_ok G ∧ ab_SF G (eS E) ∧ (eMe E).sig.returnType = ret ∧ (eMe E).locks = false ∧ (lev ≤ (eR E).frames ∧ 41 * lev ≤ (eR E).locals ∧ eK E ≤ (eR E).cells ∧ eZ E ≤ (eR E).slots)
def AWo {α : Type} (G : GW) (E : EE) (cc : ByteArray) (nL : Nat) (Q : α → State → Prop) (pc : Nat) (lv : List (Nat × Value)) (st : List Value) (M : Mem) (X : Option α) : Prop :=
  ∀ a, X = some a → ∀ (H : Heap) (locs : List Loc) (ls : Array Slot), va_P G.2.1 ab_cls (ab_w G M) H → va_S (ab_A G) (eS E).heap H locs → lv_has ls nL (lv.map (ab_tp G.1)) →
    W (eP E) (eLa E) (eE E) (eR E) (eS E) (eM E) (eA E) (eB E) (eMe E) (eC E) H locs (eK E) (eZ E) (Q a) (F0 (eM E) pc ls (st.map (ab_tr G.1)))
section AWR
variable {α : Type} {G : GW} {E : EE} {own : String} {cc : ByteArray} {nL lev : Nat} {ret : Option FieldType} {Q : α → State → Prop} {pc : Nat} {lv : List (Nat × Value)} {st : List Value} {M : Mem} {X : Option α}

theorem aw_iconst (B : Bx G E own cc nL lev ret) {n : Int} {v : Int32} (hd : decode cc pc = .ok (.iconst n, 1)) (hv : Int32.ofInt n = v) (k : AWo G E cc nL Q (pc + 1) lv (.int v :: st) M X) : AWo G E cc nL Q pc lv (st) M X := fun a ha H locs ls hP hS hl => lv_iconst B.1 B.2.1 hd hv (k a ha H locs ls hP hS hl)
theorem aw_bipush (B : Bx G E own cc nL lev ret) {n : Int} {v : Int32} (hd : decode cc pc = .ok (.bipush n, 2)) (hv : (Int8.ofInt n).toInt32 = v) (k : AWo G E cc nL Q (pc + 2) lv (.int v :: st) M X) : AWo G E cc nL Q pc lv (st) M X := fun a ha H locs ls hP hS hl => lv_bipush B.1 B.2.1 hd hv (k a ha H locs ls hP hS hl)
theorem aw_sipush (B : Bx G E own cc nL lev ret) {n : Int} {v : Int32} (hd : decode cc pc = .ok (.sipush n, 3)) (hv : (Int16.ofInt n).toInt32 = v) (k : AWo G E cc nL Q (pc + 3) lv (.int v :: st) M X) : AWo G E cc nL Q pc lv (st) M X := fun a ha H locs ls hP hS hl => lv_sipush B.1 B.2.1 hd hv (k a ha H locs ls hP hS hl)
theorem aw_lconst (B : Bx G E own cc nL lev ret) {n : Fin 2} {v : Int64} (hd : decode cc pc = .ok (.lconst n, 1)) (hv : Int64.ofNat (n : Nat) = v) (k : AWo G E cc nL Q (pc + 1) lv (.long v :: st) M X) : AWo G E cc nL Q pc lv (st) M X := fun a ha H locs ls hP hS hl => lv_lconst B.1 B.2.1 hd hv (k a ha H locs ls hP hS hl)
theorem aw_iload_n (B : Bx G E own cc nL lev ret) {k0 : Fin 4} {i : Nat} {x : Int32} (j : Nat) (hd : decode cc pc = .ok (.iload_n k0, 1)) (hi : (k0 : Nat) = i) (hj : lv[j]? = some (i, .int x)) (k : AWo G E cc nL Q (pc + 1) lv (.int x :: st) M X) : AWo G E cc nL Q pc lv (st) M X := fun a ha H locs ls hP hS hl => lv_iload_n B.1 B.2.1 hd hi (lv_at hl j (ab_lvat hj)) (k a ha H locs ls hP hS hl)
theorem aw_iload (B : Bx G E own cc nL lev ret) {i : Nat} {x : Int32} (j : Nat) (hd : decode cc pc = .ok (.iload i, 2)) (hj : lv[j]? = some (i, .int x)) (k : AWo G E cc nL Q (pc + 2) lv (.int x :: st) M X) : AWo G E cc nL Q pc lv (st) M X := fun a ha H locs ls hP hS hl => lv_iload B.1 B.2.1 hd (lv_at hl j (ab_lvat hj)) (k a ha H locs ls hP hS hl)
theorem aw_istore_n (B : Bx G E own cc nL lev ret) {k0 : Fin 4} {i : Nat} {x : Int32} (lv2 : List (Nat × Value)) (hd : decode cc pc = .ok (.istore_n k0, 1)) (hi : (k0 : Nat) = i) (hn : i < nL) (h2 : (i, Value.int x) :: lv.filter (fun q => !(q.1 == i) && !(q.1 + 1 == i && q.2.category == 2)) = lv2) (k : AWo G E cc nL Q (pc + 1) lv2 st M X) : AWo G E cc nL Q pc lv (.int x :: st) M X := fun a ha H locs ls hP hS hl => lv_istore_n B.1 B.2.1 hd hi hl hn (ab_lvst h2 (fun q => by simp only [ab_tp, ab_cat])) (fun ls2 h => k a ha H locs ls2 hP hS h)
theorem aw_istore (B : Bx G E own cc nL lev ret) {i : Nat} {x : Int32} (lv2 : List (Nat × Value)) (hd : decode cc pc = .ok (.istore i, 2)) (hn : i < nL) (h2 : (i, Value.int x) :: lv.filter (fun q => !(q.1 == i) && !(q.1 + 1 == i && q.2.category == 2)) = lv2) (k : AWo G E cc nL Q (pc + 2) lv2 st M X) : AWo G E cc nL Q pc lv (.int x :: st) M X := fun a ha H locs ls hP hS hl => lv_istore B.1 B.2.1 hd hl hn (ab_lvst h2 (fun q => by simp only [ab_tp, ab_cat])) (fun ls2 h => k a ha H locs ls2 hP hS h)
theorem aw_lload_n (B : Bx G E own cc nL lev ret) {k0 : Fin 4} {i : Nat} {x : Int64} (j : Nat) (hd : decode cc pc = .ok (.lload_n k0, 1)) (hi : (k0 : Nat) = i) (hj : lv[j]? = some (i, .long x)) (k : AWo G E cc nL Q (pc + 1) lv (.long x :: st) M X) : AWo G E cc nL Q pc lv (st) M X := fun a ha H locs ls hP hS hl => lv_lload_n B.1 B.2.1 hd hi (lv_at hl j (ab_lvat hj)) (k a ha H locs ls hP hS hl)
theorem aw_lload (B : Bx G E own cc nL lev ret) {i : Nat} {x : Int64} (j : Nat) (hd : decode cc pc = .ok (.lload i, 2)) (hj : lv[j]? = some (i, .long x)) (k : AWo G E cc nL Q (pc + 2) lv (.long x :: st) M X) : AWo G E cc nL Q pc lv (st) M X := fun a ha H locs ls hP hS hl => lv_lload B.1 B.2.1 hd (lv_at hl j (ab_lvat hj)) (k a ha H locs ls hP hS hl)
theorem aw_lstore_n (B : Bx G E own cc nL lev ret) {k0 : Fin 4} {i : Nat} {x : Int64} (lv2 : List (Nat × Value)) (hd : decode cc pc = .ok (.lstore_n k0, 1)) (hi : (k0 : Nat) = i) (hn : i + 1 < nL) (h2 : (i, Value.long x) :: lv.filter (fun q => !(q.1 == i) && (!(q.1 == i + 1) && !(q.1 + 1 == i && q.2.category == 2))) = lv2) (k : AWo G E cc nL Q (pc + 1) lv2 st M X) : AWo G E cc nL Q pc lv (.long x :: st) M X := fun a ha H locs ls hP hS hl => lv_lstore_n B.1 B.2.1 hd hi hl hn (ab_lvst h2 (fun q => by simp only [ab_tp, ab_cat])) (fun ls2 h => k a ha H locs ls2 hP hS h)
theorem aw_lstore (B : Bx G E own cc nL lev ret) {i : Nat} {x : Int64} (lv2 : List (Nat × Value)) (hd : decode cc pc = .ok (.lstore i, 2)) (hn : i + 1 < nL) (h2 : (i, Value.long x) :: lv.filter (fun q => !(q.1 == i) && (!(q.1 == i + 1) && !(q.1 + 1 == i && q.2.category == 2))) = lv2) (k : AWo G E cc nL Q (pc + 2) lv2 st M X) : AWo G E cc nL Q pc lv (.long x :: st) M X := fun a ha H locs ls hP hS hl => lv_lstore B.1 B.2.1 hd hl hn (ab_lvst h2 (fun q => by simp only [ab_tp, ab_cat])) (fun ls2 h => k a ha H locs ls2 hP hS h)
theorem aw_aload_n (B : Bx G E own cc nL lev ret) {k0 : Fin 4} {i : Nat} {x : Nat} (j : Nat) (hd : decode cc pc = .ok (.aload_n k0, 1)) (hi : (k0 : Nat) = i) (hj : lv[j]? = some (i, .ref x)) (k : AWo G E cc nL Q (pc + 1) lv (.ref x :: st) M X) : AWo G E cc nL Q pc lv (st) M X := fun a ha H locs ls hP hS hl => lv_aload_n B.1 B.2.1 hd hi (lv_at hl j (ab_lvat hj)) (k a ha H locs ls hP hS hl)
theorem aw_aload (B : Bx G E own cc nL lev ret) {i : Nat} {x : Nat} (j : Nat) (hd : decode cc pc = .ok (.aload i, 2)) (hj : lv[j]? = some (i, .ref x)) (k : AWo G E cc nL Q (pc + 2) lv (.ref x :: st) M X) : AWo G E cc nL Q pc lv (st) M X := fun a ha H locs ls hP hS hl => lv_aload B.1 B.2.1 hd (lv_at hl j (ab_lvat hj)) (k a ha H locs ls hP hS hl)
theorem aw_astore_n (B : Bx G E own cc nL lev ret) {k0 : Fin 4} {i : Nat} {x : Nat} (lv2 : List (Nat × Value)) (hd : decode cc pc = .ok (.astore_n k0, 1)) (hi : (k0 : Nat) = i) (hn : i < nL) (h2 : (i, Value.ref x) :: lv.filter (fun q => !(q.1 == i) && !(q.1 + 1 == i && q.2.category == 2)) = lv2) (k : AWo G E cc nL Q (pc + 1) lv2 st M X) : AWo G E cc nL Q pc lv (.ref x :: st) M X := fun a ha H locs ls hP hS hl => lv_astore_n B.1 B.2.1 hd hi hl hn (ab_lvst h2 (fun q => by simp only [ab_tp, ab_cat])) (fun ls2 h => k a ha H locs ls2 hP hS h)
theorem aw_astore (B : Bx G E own cc nL lev ret) {i : Nat} {x : Nat} (lv2 : List (Nat × Value)) (hd : decode cc pc = .ok (.astore i, 2)) (hn : i < nL) (h2 : (i, Value.ref x) :: lv.filter (fun q => !(q.1 == i) && !(q.1 + 1 == i && q.2.category == 2)) = lv2) (k : AWo G E cc nL Q (pc + 2) lv2 st M X) : AWo G E cc nL Q pc lv (.ref x :: st) M X := fun a ha H locs ls hP hS hl => lv_astore B.1 B.2.1 hd hl hn (ab_lvst h2 (fun q => by simp only [ab_tp, ab_cat])) (fun ls2 h => k a ha H locs ls2 hP hS h)
theorem aw_iinc (B : Bx G E own cc nL lev ret) {i : Nat} {n : Int} {x : Int32} (j : Nat) (lv2 : List (Nat × Value)) (hd : decode cc pc = .ok (.iinc i n, 3)) (hj : lv[j]? = some (i, .int x)) (hn : i < nL) (v : Int32) (hv : x + Int32.ofInt n = v) (h2 : (i, Value.int v) :: lv.filter (fun q => !(q.1 == i) && !(q.1 + 1 == i && q.2.category == 2)) = lv2) (k : AWo G E cc nL Q (pc + 3) lv2 st M X) : AWo G E cc nL Q pc lv st M X := fun a ha H locs ls hP hS hl => lv_iinc B.1 B.2.1 hd hl (ab_lvat hj) hv hn (ab_lvst h2 (fun q => by simp only [ab_tp, ab_cat])) (fun ls2 h => k a ha H locs ls2 hP hS h)
theorem aw_iadd (B : Bx G E own cc nL lev ret) {x y : Int32} (hd : decode cc pc = .ok (.iadd, 1)) (k : AWo G E cc nL Q (pc + 1) lv (.int (x + y) :: st) M X) : AWo G E cc nL Q pc lv (.int y :: .int x :: st) M X := fun a ha H locs ls hP hS hl => lv_iadd B.1 B.2.1 hd (k a ha H locs ls hP hS hl)
theorem aw_isub (B : Bx G E own cc nL lev ret) {x y : Int32} (hd : decode cc pc = .ok (.isub, 1)) (k : AWo G E cc nL Q (pc + 1) lv (.int (x - y) :: st) M X) : AWo G E cc nL Q pc lv (.int y :: .int x :: st) M X := fun a ha H locs ls hP hS hl => lv_isub B.1 B.2.1 hd (k a ha H locs ls hP hS hl)
theorem aw_imul (B : Bx G E own cc nL lev ret) {x y : Int32} (hd : decode cc pc = .ok (.imul, 1)) (k : AWo G E cc nL Q (pc + 1) lv (.int (x * y) :: st) M X) : AWo G E cc nL Q pc lv (.int y :: .int x :: st) M X := fun a ha H locs ls hP hS hl => lv_imul B.1 B.2.1 hd (k a ha H locs ls hP hS hl)
theorem aw_iand (B : Bx G E own cc nL lev ret) {x y : Int32} (hd : decode cc pc = .ok (.iand, 1)) (k : AWo G E cc nL Q (pc + 1) lv (.int (x &&& y) :: st) M X) : AWo G E cc nL Q pc lv (.int y :: .int x :: st) M X := fun a ha H locs ls hP hS hl => lv_iand B.1 B.2.1 hd (k a ha H locs ls hP hS hl)
theorem aw_ior (B : Bx G E own cc nL lev ret) {x y : Int32} (hd : decode cc pc = .ok (.ior, 1)) (k : AWo G E cc nL Q (pc + 1) lv (.int (x ||| y) :: st) M X) : AWo G E cc nL Q pc lv (.int y :: .int x :: st) M X := fun a ha H locs ls hP hS hl => lv_ior B.1 B.2.1 hd (k a ha H locs ls hP hS hl)
theorem aw_ixor (B : Bx G E own cc nL lev ret) {x y : Int32} (hd : decode cc pc = .ok (.ixor, 1)) (k : AWo G E cc nL Q (pc + 1) lv (.int (x ^^^ y) :: st) M X) : AWo G E cc nL Q pc lv (.int y :: .int x :: st) M X := fun a ha H locs ls hP hS hl => lv_ixor B.1 B.2.1 hd (k a ha H locs ls hP hS hl)
theorem aw_ishl (B : Bx G E own cc nL lev ret) {x y : Int32} (hd : decode cc pc = .ok (.ishl, 1)) (k : AWo G E cc nL Q (pc + 1) lv (.int (ab_shl x y) :: st) M X) : AWo G E cc nL Q pc lv (.int y :: .int x :: st) M X := fun a ha H locs ls hP hS hl => lv_ishl B.1 B.2.1 hd (k a ha H locs ls hP hS hl)
theorem aw_ishr (B : Bx G E own cc nL lev ret) {x y : Int32} (hd : decode cc pc = .ok (.ishr, 1)) (k : AWo G E cc nL Q (pc + 1) lv (.int (ab_shr x y) :: st) M X) : AWo G E cc nL Q pc lv (.int y :: .int x :: st) M X := fun a ha H locs ls hP hS hl => lv_ishr B.1 B.2.1 hd (k a ha H locs ls hP hS hl)
theorem aw_iushr (B : Bx G E own cc nL lev ret) {x y : Int32} (hd : decode cc pc = .ok (.iushr, 1)) (k : AWo G E cc nL Q (pc + 1) lv (.int (ab_ushr x y) :: st) M X) : AWo G E cc nL Q pc lv (.int y :: .int x :: st) M X := fun a ha H locs ls hP hS hl => lv_iushr B.1 B.2.1 hd rfl (k a ha H locs ls hP hS hl)
theorem aw_ineg (B : Bx G E own cc nL lev ret) {x : Int32} (hd : decode cc pc = .ok (.ineg, 1)) (k : AWo G E cc nL Q (pc + 1) lv (.int (-x) :: st) M X) : AWo G E cc nL Q pc lv (.int x :: st) M X := fun a ha H locs ls hP hS hl => lv_ineg B.1 B.2.1 hd (k a ha H locs ls hP hS hl)
theorem aw_ladd (B : Bx G E own cc nL lev ret) {x y : Int64} (hd : decode cc pc = .ok (.ladd, 1)) (k : AWo G E cc nL Q (pc + 1) lv (.long (x + y) :: st) M X) : AWo G E cc nL Q pc lv (.long y :: .long x :: st) M X := fun a ha H locs ls hP hS hl => lv_ladd B.1 B.2.1 hd (k a ha H locs ls hP hS hl)
theorem aw_lsub (B : Bx G E own cc nL lev ret) {x y : Int64} (hd : decode cc pc = .ok (.lsub, 1)) (k : AWo G E cc nL Q (pc + 1) lv (.long (x - y) :: st) M X) : AWo G E cc nL Q pc lv (.long y :: .long x :: st) M X := fun a ha H locs ls hP hS hl => lv_lsub B.1 B.2.1 hd (k a ha H locs ls hP hS hl)
theorem aw_lmul (B : Bx G E own cc nL lev ret) {x y : Int64} (hd : decode cc pc = .ok (.lmul, 1)) (k : AWo G E cc nL Q (pc + 1) lv (.long (x * y) :: st) M X) : AWo G E cc nL Q pc lv (.long y :: .long x :: st) M X := fun a ha H locs ls hP hS hl => lv_lmul B.1 B.2.1 hd (k a ha H locs ls hP hS hl)
theorem aw_land (B : Bx G E own cc nL lev ret) {x y : Int64} (hd : decode cc pc = .ok (.land, 1)) (k : AWo G E cc nL Q (pc + 1) lv (.long (x &&& y) :: st) M X) : AWo G E cc nL Q pc lv (.long y :: .long x :: st) M X := fun a ha H locs ls hP hS hl => lv_land B.1 B.2.1 hd (k a ha H locs ls hP hS hl)
theorem aw_lor (B : Bx G E own cc nL lev ret) {x y : Int64} (hd : decode cc pc = .ok (.lor, 1)) (k : AWo G E cc nL Q (pc + 1) lv (.long (x ||| y) :: st) M X) : AWo G E cc nL Q pc lv (.long y :: .long x :: st) M X := fun a ha H locs ls hP hS hl => lv_lor B.1 B.2.1 hd (k a ha H locs ls hP hS hl)
theorem aw_lshl (B : Bx G E own cc nL lev ret) {x : Int64} {y : Int32} (hd : decode cc pc = .ok (.lshl, 1)) (k : AWo G E cc nL Q (pc + 1) lv (.long (ab_lshl x y) :: st) M X) : AWo G E cc nL Q pc lv (.int y :: .long x :: st) M X := fun a ha H locs ls hP hS hl => lv_lshl B.1 B.2.1 hd rfl (k a ha H locs ls hP hS hl)
theorem aw_i2l (B : Bx G E own cc nL lev ret) {x : Int32} (hd : decode cc pc = .ok (.i2l, 1)) (k : AWo G E cc nL Q (pc + 1) lv (.long x.toInt64 :: st) M X) : AWo G E cc nL Q pc lv (.int x :: st) M X := fun a ha H locs ls hP hS hl => lv_i2l B.1 B.2.1 hd rfl (k a ha H locs ls hP hS hl)
theorem aw_l2i (B : Bx G E own cc nL lev ret) {x : Int64} (hd : decode cc pc = .ok (.l2i, 1)) (k : AWo G E cc nL Q (pc + 1) lv (.int x.toInt32 :: st) M X) : AWo G E cc nL Q pc lv (.long x :: st) M X := fun a ha H locs ls hP hS hl => lv_l2i B.1 B.2.1 hd rfl (k a ha H locs ls hP hS hl)
theorem aw_i2b (B : Bx G E own cc nL lev ret) {x : Int32} (hd : decode cc pc = .ok (.i2b, 1)) (k : AWo G E cc nL Q (pc + 1) lv (.int x.toInt8.toInt32 :: st) M X) : AWo G E cc nL Q pc lv (.int x :: st) M X := fun a ha H locs ls hP hS hl => lv_i2b B.1 B.2.1 hd rfl (k a ha H locs ls hP hS hl)
theorem aw_i2s (B : Bx G E own cc nL lev ret) {x : Int32} (hd : decode cc pc = .ok (.i2s, 1)) (k : AWo G E cc nL Q (pc + 1) lv (.int x.toInt16.toInt32 :: st) M X) : AWo G E cc nL Q pc lv (.int x :: st) M X := fun a ha H locs ls hP hS hl => lv_i2s B.1 B.2.1 hd rfl (k a ha H locs ls hP hS hl)
theorem aw_lcmp (B : Bx G E own cc nL lev ret) {x y : Int64} (hd : decode cc pc = .ok (.lcmp, 1)) (k : AWo G E cc nL Q (pc + 1) lv (.int (lg_cmp x y) :: st) M X) : AWo G E cc nL Q pc lv (.long y :: .long x :: st) M X := fun a ha H locs ls hP hS hl => W.lcmp B.1 B.2.1 hd (k a ha H locs ls hP hS hl)
theorem aw_dup (B : Bx G E own cc nL lev ret) {va : Value} (hd : decode cc pc = .ok (.dup, 1)) (hc : va.category = 1) (k : AWo G E cc nL Q (pc + 1) lv (va :: va :: st) M X) : AWo G E cc nL Q pc lv (va :: st) M X := fun a ha H locs ls hP hS hl => lv_dup B.1 B.2.1 hd (by rw [ab_cat]; exact hc) (k a ha H locs ls hP hS hl)
theorem aw_pop (B : Bx G E own cc nL lev ret) {va : Value} (hd : decode cc pc = .ok (.pop, 1)) (hc : va.category = 1) (k : AWo G E cc nL Q (pc + 1) lv (st) M X) : AWo G E cc nL Q pc lv (va :: st) M X := fun a ha H locs ls hP hS hl => lv_pop B.1 B.2.1 hd (by rw [ab_cat]; exact hc) (k a ha H locs ls hP hS hl)
theorem aw_dup_x1 (B : Bx G E own cc nL lev ret) {va vb : Value} (hd : decode cc pc = .ok (.dup_x1, 1)) (hc : va.category = 1) (hb : vb.category = 1) (k : AWo G E cc nL Q (pc + 1) lv (va :: vb :: va :: st) M X) : AWo G E cc nL Q pc lv (va :: vb :: st) M X := fun a ha H locs ls hP hS hl => lv_dup_x1 B.1 B.2.1 hd (by rw [ab_cat]; exact hc) (by rw [ab_cat]; exact hb) (k a ha H locs ls hP hS hl)
theorem aw_dup2_11 (B : Bx G E own cc nL lev ret) {va vb : Value} (hd : decode cc pc = .ok (.dup2, 1)) (hc : va.category = 1) (hb : vb.category = 1) (k : AWo G E cc nL Q (pc + 1) lv (va :: vb :: va :: vb :: st) M X) : AWo G E cc nL Q pc lv (va :: vb :: st) M X := fun a ha H locs ls hP hS hl => lv_dup2_11 B.1 B.2.1 hd (by rw [ab_cat]; exact hc) (by rw [ab_cat]; exact hb) (k a ha H locs ls hP hS hl)
theorem aw_ldc (B : Bx G E own cc nL lev ret) {i : Nat} {v : Int32} (hd : decode cc pc = .ok (.ldc i, 2)) (hw : Cond.constant own i v ∈ BW) (k : AWo G E cc nL Q (pc + 2) lv (.int v :: st) M X) : AWo G E cc nL Q pc lv (st) M X := fun a ha H locs ls hP hS hl => lv_ldc B.1 B.2.1 B.2.2.2.1 (B.2.2.2.2.1 _ hw) hd (k a ha H locs ls hP hS hl)
theorem aw_ldcw (B : Bx G E own cc nL lev ret) {i : Nat} {v : Int32} (hd : decode cc pc = .ok (.ldc_w i, 3)) (hw : Cond.constant own i v ∈ BW) (k : AWo G E cc nL Q (pc + 3) lv (.int v :: st) M X) : AWo G E cc nL Q pc lv (st) M X := fun a ha H locs ls hP hS hl => lv_ldcw B.1 B.2.1 B.2.2.2.1 (B.2.2.2.2.1 _ hw) hd (k a ha H locs ls hP hS hl)
theorem aw_ldc2 (B : Bx G E own cc nL lev ret) {i : Nat} {v : Int64} (hd : decode cc pc = .ok (.ldc2_w i, 3)) (hw : Cond.constantLong own i v ∈ BW) (k : AWo G E cc nL Q (pc + 3) lv (.long v :: st) M X) : AWo G E cc nL Q pc lv (st) M X := fun a ha H locs ls hP hS hl => lv_ldc2 B.1 B.2.1 B.2.2.2.1 (B.2.2.2.2.1 _ hw) hd (k a ha H locs ls hP hS hl)
theorem aw_icmp_eq (B : Bx G E own cc nL lev ret) {x y : Int32} {off : Int} (tgt : Nat) (hd : decode cc pc = .ok (.if_icmp .eq off, 3)) (ht : (pc : Int) + off = (tgt : Int)) {X2 : Option α} (kt : x = y → AWo G E cc nL Q tgt lv st M X) (kf : ¬ (x = y) → AWo G E cc nL Q (pc + 3) lv st M X2) : AWo G E cc nL Q pc lv (.int y :: .int x :: st) M (if x = y then X else X2) := fun a ha H locs ls hP hS hl => lv_icmp_eq B.1 B.2.1 hd ht (fun c => kt c a ((if_pos c).symm.trans ha) H locs ls hP hS hl) (fun c => kf c a ((if_neg c).symm.trans ha) H locs ls hP hS hl)
theorem aw_if_eq (B : Bx G E own cc nL lev ret) {x : Int32} {off : Int} (tgt : Nat) (hd : decode cc pc = .ok (.ifCond .eq off, 3)) (ht : (pc : Int) + off = (tgt : Int)) {X2 : Option α} (kt : x = 0 → AWo G E cc nL Q tgt lv st M X) (kf : ¬ (x = 0) → AWo G E cc nL Q (pc + 3) lv st M X2) : AWo G E cc nL Q pc lv (.int x :: st) M (if x = 0 then X else X2) := fun a ha H locs ls hP hS hl => lv_if_eq B.1 B.2.1 hd ht (fun c => kt c a ((if_pos c).symm.trans ha) H locs ls hP hS hl) (fun c => kf c a ((if_neg c).symm.trans ha) H locs ls hP hS hl)
theorem aw_icmp_lt (B : Bx G E own cc nL lev ret) {x y : Int32} {off : Int} (tgt : Nat) (hd : decode cc pc = .ok (.if_icmp .lt off, 3)) (ht : (pc : Int) + off = (tgt : Int)) {X2 : Option α} (kt : x < y → AWo G E cc nL Q tgt lv st M X) (kf : ¬ (x < y) → AWo G E cc nL Q (pc + 3) lv st M X2) : AWo G E cc nL Q pc lv (.int y :: .int x :: st) M (if x < y then X else X2) := fun a ha H locs ls hP hS hl => lv_icmp_lt B.1 B.2.1 hd ht (fun c => kt c a ((if_pos c).symm.trans ha) H locs ls hP hS hl) (fun c => kf c a ((if_neg c).symm.trans ha) H locs ls hP hS hl)
theorem aw_if_lt (B : Bx G E own cc nL lev ret) {x : Int32} {off : Int} (tgt : Nat) (hd : decode cc pc = .ok (.ifCond .lt off, 3)) (ht : (pc : Int) + off = (tgt : Int)) {X2 : Option α} (kt : x < 0 → AWo G E cc nL Q tgt lv st M X) (kf : ¬ (x < 0) → AWo G E cc nL Q (pc + 3) lv st M X2) : AWo G E cc nL Q pc lv (.int x :: st) M (if x < 0 then X else X2) := fun a ha H locs ls hP hS hl => lv_if_lt B.1 B.2.1 hd ht (fun c => kt c a ((if_pos c).symm.trans ha) H locs ls hP hS hl) (fun c => kf c a ((if_neg c).symm.trans ha) H locs ls hP hS hl)
theorem aw_icmp_ge (B : Bx G E own cc nL lev ret) {x y : Int32} {off : Int} (tgt : Nat) (hd : decode cc pc = .ok (.if_icmp .ge off, 3)) (ht : (pc : Int) + off = (tgt : Int)) {X2 : Option α} (kt : y ≤ x → AWo G E cc nL Q tgt lv st M X) (kf : ¬ (y ≤ x) → AWo G E cc nL Q (pc + 3) lv st M X2) : AWo G E cc nL Q pc lv (.int y :: .int x :: st) M (if y ≤ x then X else X2) := fun a ha H locs ls hP hS hl => lv_icmp_ge B.1 B.2.1 hd ht (fun c => kt c a ((if_pos c).symm.trans ha) H locs ls hP hS hl) (fun c => kf c a ((if_neg c).symm.trans ha) H locs ls hP hS hl)
theorem aw_if_ge (B : Bx G E own cc nL lev ret) {x : Int32} {off : Int} (tgt : Nat) (hd : decode cc pc = .ok (.ifCond .ge off, 3)) (ht : (pc : Int) + off = (tgt : Int)) {X2 : Option α} (kt : 0 ≤ x → AWo G E cc nL Q tgt lv st M X) (kf : ¬ (0 ≤ x) → AWo G E cc nL Q (pc + 3) lv st M X2) : AWo G E cc nL Q pc lv (.int x :: st) M (if 0 ≤ x then X else X2) := fun a ha H locs ls hP hS hl => lv_if_ge B.1 B.2.1 hd ht (fun c => kt c a ((if_pos c).symm.trans ha) H locs ls hP hS hl) (fun c => kf c a ((if_neg c).symm.trans ha) H locs ls hP hS hl)
theorem aw_icmp_gt (B : Bx G E own cc nL lev ret) {x y : Int32} {off : Int} (tgt : Nat) (hd : decode cc pc = .ok (.if_icmp .gt off, 3)) (ht : (pc : Int) + off = (tgt : Int)) {X2 : Option α} (kt : y < x → AWo G E cc nL Q tgt lv st M X) (kf : ¬ (y < x) → AWo G E cc nL Q (pc + 3) lv st M X2) : AWo G E cc nL Q pc lv (.int y :: .int x :: st) M (if y < x then X else X2) := fun a ha H locs ls hP hS hl => lv_icmp_gt B.1 B.2.1 hd ht (fun c => kt c a ((if_pos c).symm.trans ha) H locs ls hP hS hl) (fun c => kf c a ((if_neg c).symm.trans ha) H locs ls hP hS hl)
theorem aw_if_gt (B : Bx G E own cc nL lev ret) {x : Int32} {off : Int} (tgt : Nat) (hd : decode cc pc = .ok (.ifCond .gt off, 3)) (ht : (pc : Int) + off = (tgt : Int)) {X2 : Option α} (kt : 0 < x → AWo G E cc nL Q tgt lv st M X) (kf : ¬ (0 < x) → AWo G E cc nL Q (pc + 3) lv st M X2) : AWo G E cc nL Q pc lv (.int x :: st) M (if 0 < x then X else X2) := fun a ha H locs ls hP hS hl => lv_if_gt B.1 B.2.1 hd ht (fun c => kt c a ((if_pos c).symm.trans ha) H locs ls hP hS hl) (fun c => kf c a ((if_neg c).symm.trans ha) H locs ls hP hS hl)
theorem aw_icmp_le (B : Bx G E own cc nL lev ret) {x y : Int32} {off : Int} (tgt : Nat) (hd : decode cc pc = .ok (.if_icmp .le off, 3)) (ht : (pc : Int) + off = (tgt : Int)) {X2 : Option α} (kt : x ≤ y → AWo G E cc nL Q tgt lv st M X) (kf : ¬ (x ≤ y) → AWo G E cc nL Q (pc + 3) lv st M X2) : AWo G E cc nL Q pc lv (.int y :: .int x :: st) M (if x ≤ y then X else X2) := fun a ha H locs ls hP hS hl => lv_icmp_le B.1 B.2.1 hd ht (fun c => kt c a ((if_pos c).symm.trans ha) H locs ls hP hS hl) (fun c => kf c a ((if_neg c).symm.trans ha) H locs ls hP hS hl)
theorem aw_if_le (B : Bx G E own cc nL lev ret) {x : Int32} {off : Int} (tgt : Nat) (hd : decode cc pc = .ok (.ifCond .le off, 3)) (ht : (pc : Int) + off = (tgt : Int)) {X2 : Option α} (kt : x ≤ 0 → AWo G E cc nL Q tgt lv st M X) (kf : ¬ (x ≤ 0) → AWo G E cc nL Q (pc + 3) lv st M X2) : AWo G E cc nL Q pc lv (.int x :: st) M (if x ≤ 0 then X else X2) := fun a ha H locs ls hP hS hl => lv_if_le B.1 B.2.1 hd ht (fun c => kt c a ((if_pos c).symm.trans ha) H locs ls hP hS hl) (fun c => kf c a ((if_neg c).symm.trans ha) H locs ls hP hS hl)
theorem aw_icmp_ne (B : Bx G E own cc nL lev ret) {x y : Int32} {off : Int} (tgt : Nat) (hd : decode cc pc = .ok (.if_icmp .ne off, 3)) (ht : (pc : Int) + off = (tgt : Int)) {X2 : Option α} (kt : ¬ (x = y) → AWo G E cc nL Q tgt lv st M X2) (kf : x = y → AWo G E cc nL Q (pc + 3) lv st M X) : AWo G E cc nL Q pc lv (.int y :: .int x :: st) M (if x = y then X else X2) := fun a ha H locs ls hP hS hl => lv_icmp_ne B.1 B.2.1 hd ht (fun c => kt c a ((if_neg c).symm.trans ha) H locs ls hP hS hl) (fun c => kf c a ((if_pos c).symm.trans ha) H locs ls hP hS hl)
theorem aw_if_ne (B : Bx G E own cc nL lev ret) {x : Int32} {off : Int} (tgt : Nat) (hd : decode cc pc = .ok (.ifCond .ne off, 3)) (ht : (pc : Int) + off = (tgt : Int)) {X2 : Option α} (kt : ¬ (x = 0) → AWo G E cc nL Q tgt lv st M X2) (kf : x = 0 → AWo G E cc nL Q (pc + 3) lv st M X) : AWo G E cc nL Q pc lv (.int x :: st) M (if x = 0 then X else X2) := fun a ha H locs ls hP hS hl => lv_if_ne B.1 B.2.1 hd ht (fun c => kt c a ((if_neg c).symm.trans ha) H locs ls hP hS hl) (fun c => kf c a ((if_pos c).symm.trans ha) H locs ls hP hS hl)
theorem aw_goto (B : Bx G E own cc nL lev ret) {off : Int} (tgt : Nat) (hd : decode cc pc = .ok (.goto off, 3)) (ht : (pc : Int) + off = (tgt : Int)) (k : AWo G E cc nL Q tgt lv st M X) : AWo G E cc nL Q pc lv st M X := fun a ha H locs ls hP hS hl => lv_goto B.1 B.2.1 hd ht (k a ha H locs ls hP hS hl)
theorem aw_sub {lv2 : List (Nat × Value)} (ks : List Nat) (h : lv_pick lv ks = lv2) (k : AWo G E cc nL Q pc lv2 st M X) : AWo G E cc nL Q pc lv st M X := fun a ha H locs ls hP hS hl => k a ha H locs ls hP hS (lv_sub hl ks (ab_pick h))
theorem aw_ck {b : Bool} (k : b = true → AWo G E cc nL Q pc lv st M X) : AWo G E cc nL Q pc lv st M (ck b X) := by
  intro a ha
  cases b with
  | false => cases ha
  | true => exact k rfl a ha
theorem aw_none : AWo G E cc nL Q pc lv st M (none : Option α) := fun a ha => by cases ha
theorem aw_idiv (B : Bx G E own cc nL lev ret) {x y : Int32} (hd : decode cc pc = .ok (.idiv, 1)) (k : AWo G E cc nL Q (pc + 1) lv (.int (x / y) :: st) M X) : AWo G E cc nL Q pc lv (.int y :: .int x :: st) M (if y = 0 then none else X) := by
  intro a ha H locs ls hP hS hl
  by_cases h : y = 0
  · rw [if_pos h] at ha; cases ha
  · rw [if_neg h] at ha
    exact lv_idiv B.1 B.2.1 hd h (k a ha H locs ls hP hS hl)
theorem aw_irem (B : Bx G E own cc nL lev ret) {x y : Int32} (hd : decode cc pc = .ok (.irem, 1)) (k : AWo G E cc nL Q (pc + 1) lv (.int (ab_rem x y) :: st) M X) : AWo G E cc nL Q pc lv (.int y :: .int x :: st) M (if y = 0 then none else X) := by
  intro a ha H locs ls hP hS hl
  by_cases h : y = 0
  · rw [if_pos h] at ha; cases ha
  · rw [if_neg h] at ha
    exact lv_irem B.1 B.2.1 hd h (k a ha H locs ls hP hS hl)
theorem aw_idivK (B : Bx G E own cc nL lev ret) {x y : Int32} (hd : decode cc pc = .ok (.idiv, 1)) (h : ¬ y = 0) (k : AWo G E cc nL Q (pc + 1) lv (.int (x / y) :: st) M X) : AWo G E cc nL Q pc lv (.int y :: .int x :: st) M X := fun a ha H locs ls hP hS hl => lv_idiv B.1 B.2.1 hd h (k a ha H locs ls hP hS hl)
theorem aw_iremK (B : Bx G E own cc nL lev ret) {x y : Int32} (hd : decode cc pc = .ok (.irem, 1)) (h : ¬ y = 0) (k : AWo G E cc nL Q (pc + 1) lv (.int (ab_rem x y) :: st) M X) : AWo G E cc nL Q pc lv (.int y :: .int x :: st) M X := fun a ha H locs ls hP hS hl => lv_irem B.1 B.2.1 hd h (k a ha H locs ls hP hS hl)
theorem aw_ldiv (B : Bx G E own cc nL lev ret) {x y : Int64} (hd : decode cc pc = .ok (.ldiv, 1)) (k : AWo G E cc nL Q (pc + 1) lv (.long (x / y) :: st) M X) : AWo G E cc nL Q pc lv (.long y :: .long x :: st) M (if y = 0 then none else X) := by
  intro a ha H locs ls hP hS hl
  by_cases h : y = 0
  · rw [if_pos h] at ha; cases ha
  · rw [if_neg h] at ha
    exact lv_ldiv B.1 B.2.1 hd h (k a ha H locs ls hP hS hl)
theorem aw_lrem (B : Bx G E own cc nL lev ret) {x y : Int64} (hd : decode cc pc = .ok (.lrem, 1)) (k : AWo G E cc nL Q (pc + 1) lv (.long (ab_lrem x y) :: st) M X) : AWo G E cc nL Q pc lv (.long y :: .long x :: st) M (if y = 0 then none else X) := by
  intro a ha H locs ls hP hS hl
  by_cases h : y = 0
  · rw [if_pos h] at ha; cases ha
  · rw [if_neg h] at ha
    exact lv_lrem B.1 B.2.1 hd h (k a ha H locs ls hP hS hl)
theorem ck_some {β : Type} {b : Bool} {x : Option β} {a : β} (h : ck b x = some a) : b = true ∧ x = some a := by
  cases b with
  | false => cases h
  | true => exact ⟨rfl, h⟩
theorem okI_spec {c : Nat} {i : Int32} (h : okI c i = true) : ab_k c = 100 ∧ vp_in i (ab_n c) := by
  simp only [okI, Bool.and_eq_true, decide_eq_true_eq] at h
  exact h
theorem okL_spec {c : Nat} {i : Int32} (h : okL c i = true) : ab_k c = 101 ∧ vp_in i (ab_n c) := by
  simp only [okL, Bool.and_eq_true, decide_eq_true_eq] at h
  exact h
theorem okZ_spec {c : Nat} {i : Int32} (h : okZ c i = true) : ab_k c = 102 ∧ vp_in i (ab_n c) := by
  simp only [okZ, Bool.and_eq_true, decide_eq_true_eq] at h
  exact h
theorem ab_atI (G : GW) (M : Mem) {c : Nat} (h : ab_k c = 100) : (ab_w G M)[c]? = some (G.1 c, .inl (G.2.2.1, ab_n c, .inl (M.1 c))) := by rw [ab_w_at G M (ab_klt (by omega)), ab_ceI h]
theorem ab_atL (G : GW) (M : Mem) {c : Nat} (h : ab_k c = 101) : (ab_w G M)[c]? = some (G.1 c, .inl (G.2.2.2.1, ab_n c, .inr (.inl (M.2.1 c)))) := by rw [ab_w_at G M (ab_klt (by omega)), ab_ceL h]
theorem ab_atZ (G : GW) (M : Mem) {c : Nat} (h : ab_k c = 102) : (ab_w G M)[c]? = some (G.1 c, .inl (G.2.2.2.2, ab_n c, .inl (M.1 c))) := by rw [ab_w_at G M (ab_klt (by omega)), ab_ceZ h]
theorem ab_atO (G : GW) (M : Mem) {c : Nat} (h : ab_k c < 100) : (ab_w G M)[c]? = some (G.1 c, .inr (ab_k c, ab_fl G.1 M c)) := by rw [ab_w_at G M (ab_klt (by omega)), ab_ceO h]
theorem aw_iaload (B : Bx G E own cc nL lev ret) {c : Nat} {i : Int32} (hd : decode cc pc = .ok (.iaload, 1)) (k : AWo G E cc nL Q (pc + 1) lv (.int (M.1 c i.toNatClampNeg) :: st) M X) : AWo G E cc nL Q pc lv (.int i :: .ref c :: st) M (ck (okI c i) X) := by
  intro a ha H locs ls hP hS hl
  obtain ⟨h, ha⟩ := ck_some ha
  obtain ⟨h1, h2⟩ := okI_spec h
  exact va_iald B.1 B.2.1 B.2.2.2.2.2.1 hP c 0 (ab_atI G M h1) rfl h2 hd (k a ha H locs ls hP hS hl)
theorem aw_laload (B : Bx G E own cc nL lev ret) {c : Nat} {i : Int32} (hd : decode cc pc = .ok (.laload, 1)) (k : AWo G E cc nL Q (pc + 1) lv (.long (M.2.1 c i.toNatClampNeg) :: st) M X) : AWo G E cc nL Q pc lv (.int i :: .ref c :: st) M (ck (okL c i) X) := by
  intro a ha H locs ls hP hS hl
  obtain ⟨h, ha⟩ := ck_some ha
  obtain ⟨h1, h2⟩ := okL_spec h
  exact va_lald B.1 B.2.1 B.2.2.2.2.2.1 hP c 1 (ab_atL G M h1) rfl h2 hd (k a ha H locs ls hP hS hl)
theorem aw_zaload (B : Bx G E own cc nL lev ret) {c : Nat} {i : Int32} (hd : decode cc pc = .ok (.baload, 1)) (k : AWo G E cc nL Q (pc + 1) lv (.int (M.1 c i.toNatClampNeg) :: st) M X) : AWo G E cc nL Q pc lv (.int i :: .ref c :: st) M (ck (okZ c i) X) := by
  intro a ha H locs ls hP hS hl
  obtain ⟨h, ha⟩ := ck_some ha
  obtain ⟨h1, h2⟩ := okZ_spec h
  exact va_zald B.1 B.2.1 B.2.2.2.2.2.1 hP c 2 (ab_atZ G M h1) rfl h2 hd (k a ha H locs ls hP hS hl)
theorem aw_iastore (B : Bx G E own cc nL lev ret) {c : Nat} {i v : Int32} {K : Mem → Option α} (hd : decode cc pc = .ok (.iastore, 1)) (k : ∀ M2, AWo G E cc nL Q (pc + 1) lv st M2 (K M2)) : AWo G E cc nL Q pc lv (.int v :: .int i :: .ref c :: st) M (ck (okI c i) (lt (wI M c i.toNatClampNeg v) K)) := by
  intro a ha H locs ls hP hS hl
  obtain ⟨h, ha⟩ := ck_some ha
  obtain ⟨h1, h2⟩ := okI_spec h
  refine va_iast B.1 B.2.1 B.2.2.2.2.2.1 hP (ab_D B.2.2.2.2.2.2.1 M) hS c 0 (ab_atI G M h1) rfl h2 hd (fun H1 locs1 hP1 _ hS1 => ?_)
  rw [ab_setI h1] at hP1
  exact k _ a ha H1 locs1 ls hP1 hS1 hl
theorem aw_lastore (B : Bx G E own cc nL lev ret) {c : Nat} {i : Int32} {v : Int64} {K : Mem → Option α} (hd : decode cc pc = .ok (.lastore, 1)) (k : ∀ M2, AWo G E cc nL Q (pc + 1) lv st M2 (K M2)) : AWo G E cc nL Q pc lv (.long v :: .int i :: .ref c :: st) M (ck (okL c i) (lt (wL M c i.toNatClampNeg v) K)) := by
  intro a ha H locs ls hP hS hl
  obtain ⟨h, ha⟩ := ck_some ha
  obtain ⟨h1, h2⟩ := okL_spec h
  refine va_last B.1 B.2.1 B.2.2.2.2.2.1 hP (ab_D B.2.2.2.2.2.2.1 M) hS c 1 (ab_atL G M h1) rfl h2 hd (fun H1 locs1 hP1 _ hS1 => ?_)
  rw [ab_setL h1] at hP1
  exact k _ a ha H1 locs1 ls hP1 hS1 hl
theorem ab_nz {v : Int32} (h : okB v = true) : vp_nar .boolean v = v ∧ narrow .boolean (.int v) = .int v ∧ fits .boolean (.int v) = true := by
  simp only [okB, decide_eq_true_eq] at h
  rcases h with rfl | rfl <;> exact ⟨by decide, by decide, by decide⟩
theorem aw_zastore (B : Bx G E own cc nL lev ret) {c : Nat} {i v : Int32} {K : Mem → Option α} (hd : decode cc pc = .ok (.bastore, 1)) (hv : okB v = true) (k : ∀ M2, AWo G E cc nL Q (pc + 1) lv st M2 (K M2)) : AWo G E cc nL Q pc lv (.int v :: .int i :: .ref c :: st) M (ck (okZ c i) (lt (wI M c i.toNatClampNeg v) K)) := by
  intro a ha H locs ls hP hS hl
  obtain ⟨h, ha⟩ := ck_some ha
  obtain ⟨h1, h2⟩ := okZ_spec h
  refine va_zast B.1 B.2.1 B.2.2.2.2.2.1 hP (ab_D B.2.2.2.2.2.2.1 M) hS c 2 (ab_atZ G M h1) rfl h2 hd (fun H1 locs1 hP1 _ hS1 => ?_)
  rw [(ab_nz hv).1, ab_setZ h1] at hP1
  exact k _ a ha H1 locs1 ls hP1 hS1 hl
end AWR
end
section
/-! contracts and calls over the abstract store -/
def ab_QR (G : GW) (v : Option Value × Mem) : Array Value → State → Outcome → State → Prop := fun _ st o t => (o = .returned (v.1.map (ab_tr G.1)) ∧ va_P G.2.1 ab_cls (ab_w G v.2) t.heap) ∧ va_F (ab_A G) st t
def ab_Q {α : Type} (G : GW) (E : EE) (emb : α → Option Value × Mem) : α → State → Prop := fun a => MQ (eB E) (ab_QR G (emb a)) (eA E) (eS E) (eK E) (eZ E) (ab_A G)
def Rm (lev : Nat) : Room := { frames := lev, cells := 0, slots := 0, locals := 41 * lev }
def ab_PW (G : GW) (M : Mem) (U : State) : Prop := va_P G.2.1 ab_cls (ab_w G M) U.heap ∧ va_K G.2.1 ab_cls (ab_ty G) U ∧ ab_SF G U
def AC {α : Type} (l : Launch) (G : GW) (y : MethodName) (cc : ByteArray) (nL : Nat) (ret : Option FieldType) (lev : Nat) (av : List Value) (M : Mem) (emb : α → Option Value × Mem) (X : Option α) : Prop :=
  ∀ a, X = some a → Met l y (.code y cc nL ret :: BW) (Rm lev) (va_Pc (av.map (ab_tr G.1)) (ab_PW G M)) (ab_QR G (emb a)) 0 0 (ab_A G)
def embI (r : Int32 × Mem) : Option Value × Mem := (some (.int r.1), r.2)
def embJ (r : Int64 × Mem) : Option Value × Mem := (some (.long r.1), r.2)
def embV (r : Mem) : Option Value × Mem := (none, r)
def embRI (M : Mem) (r : Int32) : Option Value × Mem := (some (.int r), M)
def embRJ (M : Mem) (r : Int64) : Option Value × Mem := (some (.long r), M)
def embA (c : Nat) (r : Mem) : Option Value × Mem := (some (.ref c), r)
theorem bw_good {w : Cond} (h : w ∈ BW) : w ∈ BW ∧ ((w.onTables && w.keeps) = true ∨ ∃ ty, w = .arrayClass ty) := ⟨h, good_of_word (List.mem_filter.mp h).2⟩
theorem bw_mem {w : Cond} (i : Nat) (h : lw_tbl[i]? = some w) (g : goodWord w = true) : w ∈ BW := List.mem_filter.mpr ⟨List.mem_of_getElem? h, g⟩
theorem ab_SF.moved {G : GW} {u U : State} (hvm : u.vm.Alike U.vm) (hh : U.heap = u.heap) (h : ab_SF G u) : ab_SF G U := by
  unfold ab_SF at h ⊢
  rw [hh]
  obtain ⟨⟨a1, a2⟩, ⟨b1, b2⟩, c1, c2⟩ := h
  exact ⟨⟨a1.moved hvm, a2.moved hvm⟩, ⟨b1.moved hvm, b2.moved hvm⟩, c1.moved hvm, c2.moved hvm⟩
theorem ab_SF.kept {G : GW} {u U : State} {H : Heap} {locs : List Loc} (hvm : u.vm.Alike U.vm) (hS : va_S (ab_A G) u.heap H locs) (hh : U.heap = H) (h : ab_SF G u) : ab_SF G U := by
  unfold ab_SF at h ⊢
  rw [hh]
  obtain ⟨⟨a1, a2⟩, ⟨b1, b2⟩, c1, c2⟩ := h
  exact ⟨⟨(a1.kept hS.2.1).moved hvm, (a2.kept hS.2.1).moved hvm⟩, ⟨(b1.kept hS.2.1).moved hvm, (b2.kept hS.2.1).moved hvm⟩, (c1.kept hS.2.1).moved hvm, (c2.kept hS.2.1).moved hvm⟩
theorem ab_args {ad : Nat → Nat} : ∀ (av : List Value) (i : Nat), lv_args i (av.map (ab_tr ad)) = (lv_args i av).map (ab_tp ad)
  | [], _ => rfl
  | v :: vs, i => by
    show (i, ab_tr ad v) :: lv_args _ _ = (i, ab_tr ad v) :: _
    rw [ab_cat, ab_args vs]
theorem ab_sl {ad : Nat → Nat} : ∀ (av : List Value), (lg_sl (av.map (ab_tr ad))).length = (lg_sl av).length
  | [] => rfl
  | v :: vs => by
    have ih := ab_sl (ad := ad) vs
    unfold lg_sl at ih ⊢
    simp only [List.map_cons, List.flatMap_cons, List.length_append, ih, ab_cat]
    split <;> rfl
theorem AC.of {α : Type} {l : Launch} {G : GW} {y : MethodName} {cc : ByteArray} {nL : Nat} {ret : Option FieldType} {lev : Nat} {av : List Value} {M : Mem} {emb : α → Option Value × Mem} {X : Option α} (hG : ab_ok G) (hy : plainName y.cls = true) (hn : (lg_sl av).length ≤ nL)
    (h : ∀ E : EE, eLa E = l → Bx G E y.cls cc nL lev ret → AWo G E cc nL (ab_Q G E emb) 0 (lv_args 0 av) [] M X) : AC l G y cc nL ret lev av M emb X := by
  intro a ha
  refine Met.ofW (cc := cc) (maxL := nL) (ret := ret) hy rfl ?_
  intro p e s m args below meth c s₁ B hml hv
  obtain ⟨rfl, hP, hK, hSF⟩ := hv
  have hts := atoms_spec (ws := .code y cc nL ret :: BW) B.pre
  have hl := lv_entry (av.map (ab_tr G.1)) (n := nL) (by rw [ab_sl]; exact hn)
  rw [lg_entry_eq]
  rw [ab_args] at hl
  exact h (p, l, e, _, s, m, _, below, meth, c, 0, 0) rfl ⟨B.exec, B.bytes, hml, findClass_of_methodNamed B.named, fun w hw => hts w (List.mem_cons_of_mem _ hw), hK, hG, hSF, B.returns, B.notSynchronized, Nat.le_refl _, Nat.le_refl _, Nat.le_refl _, Nat.le_refl _⟩ a ha s.heap [] _ hP va_S.rf hl
section AWC
variable {α : Type} {G : GW} {E : EE} {own : String} {cc : ByteArray} {nL lev : Nat} {ret : Option FieldType} {Q : α → State → Prop} {pc : Nat} {lv : List (Nat × Value)} {st : List Value} {M : Mem} {X : Option α}
theorem aw_ireturn (B : Bx G E own cc nL lev (some .int)) {emb : α → Option Value × Mem} {b : α} {v : Int32} (hd : decode cc pc = .ok (.ireturn, 1)) (he : emb b = (some (.int v), M)) : AWo G E cc nL (ab_Q G E emb) pc lv [.int v] M (some b) := by
  intro a ha H locs ls hP hS hl
  cases ha
  refine W.iret B.1 B.2.1 B.2.2.2.2.2.2.2.2.1 (fun t ht _ => ?_) (fun q hq => hS.2.2 q hq) hd B.2.2.2.2.2.2.2.2.2.1
  rw [he]
  exact ⟨⟨rfl, by rw [ht]; exact hP⟩, hS.F ht⟩
theorem aw_zreturn (B : Bx G E own cc nL lev (some .boolean)) {emb : α → Option Value × Mem} {b : α} {v : Int32} (hd : decode cc pc = .ok (.ireturn, 1)) (he : emb b = (some (.int v), M)) : AWo G E cc nL (ab_Q G E emb) pc lv [.int v] M (ck (okB v) (some b)) := by
  intro a ha H locs ls hP hS hl
  obtain ⟨hv, ha⟩ := ck_some ha
  cases ha
  refine W.zret B.1 B.2.1 B.2.2.2.2.2.2.2.2.1 (ab_nz hv).2.1 (fun t ht _ => ?_) (fun q hq => hS.2.2 q hq) hd B.2.2.2.2.2.2.2.2.2.1
  rw [he]
  exact ⟨⟨rfl, by rw [ht]; exact hP⟩, hS.F ht⟩
theorem aw_zreturnK (B : Bx G E own cc nL lev (some .boolean)) {emb : α → Option Value × Mem} {b : α} {v : Int32} (hd : decode cc pc = .ok (.ireturn, 1)) (he : emb b = (some (.int v), M)) (hv : okB v = true) : AWo G E cc nL (ab_Q G E emb) pc lv [.int v] M (some b) := by
  intro a ha H locs ls hP hS hl
  cases ha
  refine W.zret B.1 B.2.1 B.2.2.2.2.2.2.2.2.1 (ab_nz hv).2.1 (fun t ht _ => ?_) (fun q hq => hS.2.2 q hq) hd B.2.2.2.2.2.2.2.2.2.1
  rw [he]
  exact ⟨⟨rfl, by rw [ht]; exact hP⟩, hS.F ht⟩
theorem aw_lreturn (B : Bx G E own cc nL lev (some .long)) {emb : α → Option Value × Mem} {b : α} {v : Int64} (hd : decode cc pc = .ok (.lreturn, 1)) (he : emb b = (some (.long v), M)) : AWo G E cc nL (ab_Q G E emb) pc lv [.long v] M (some b) := by
  intro a ha H locs ls hP hS hl
  cases ha
  refine W.lret B.1 B.2.1 B.2.2.2.2.2.2.2.2.1 (fun t ht _ => ?_) (fun q hq => hS.2.2 q hq) hd B.2.2.2.2.2.2.2.2.2.1
  rw [he]
  exact ⟨⟨rfl, by rw [ht]; exact hP⟩, hS.F ht⟩
theorem aw_vreturn (B : Bx G E own cc nL lev none) {emb : α → Option Value × Mem} {b : α} (hd : decode cc pc = .ok (.return_, 1)) (he : emb b = (none, M)) : AWo G E cc nL (ab_Q G E emb) pc lv [] M (some b) := by
  intro a ha H locs ls hP hS hl
  cases ha
  refine W.vret B.1 B.2.1 B.2.2.2.2.2.2.2.2.1 (fun t ht _ => ?_) (fun q hq => hS.2.2 q hq) hd B.2.2.2.2.2.2.2.2.2.1
  rw [he]
  exact ⟨⟨rfl, by rw [ht]; exact hP⟩, hS.F ht⟩
theorem aw_areturn {C : String} (B : Bx G E own cc nL lev (some (.object C))) {emb : α → Option Value × Mem} {b : α} {v : Nat} (hd : decode cc pc = .ok (.areturn, 1)) (he : emb b = (some (.ref v), M)) : AWo G E cc nL (ab_Q G E emb) pc lv [.ref v] M (some b) := by
  intro a ha H locs ls hP hS hl
  cases ha
  refine W.aret B.1 B.2.1 B.2.2.2.2.2.2.2.2.1 (Or.inl ⟨_, rfl⟩) (Or.inr ⟨_, rfl⟩) (fun t ht _ => ?_) (fun q hq => hS.2.2 q hq) hd B.2.2.2.2.2.2.2.2.2.1
  rw [he]
  exact ⟨⟨rfl, by rw [ht]; exact hP⟩, hS.F ht⟩
/-- a field's link: own class, place in its pool; the class and the field it names -/
def ab_LK (own : String) (idx ci k : Nat) : Prop := ∃ (C : String) (T : u_T) (N : Nat), ab_cls[ci]? = some (C, T, N) ∧ k < N ∧ k < ab_fN ci ∧ ci < 100 ∧ (T k).1 = C ∧ Cond.fieldLink own idx C (T k).2.1 (T k).2.2.1 ∈ BW
/-- a field that may be put -/
def ab_LP (ci k : Nat) (ty : FieldType) : Prop := ∃ (C : String) (T : u_T) (N : Nat) (ty0 : Nat → FieldType), ab_cls[ci]? = some (C, T, N) ∧ k < N ∧ (T k).2.2.2 = false ∧ parseFieldDescriptor (T k).2.2.1 = some ty ∧ (∀ k, k < N → parseFieldDescriptor (T k).2.2.1 = some (ty0 k)) ∧ (∀ a, a < N → ∀ b, b < N → a ≠ b → (T a).2.1 ≠ (T b).2.1)
theorem ab_h0 : ∀ w ∈ u_ws RX0 TX0 1, w ∈ BW := by decide +kernel
theorem ab_h1 : ∀ w ∈ u_ws RX1 TX1 5, w ∈ BW := by decide +kernel
theorem ab_h2 : ∀ w ∈ u_ws RX2 TX2 6, w ∈ BW := by decide +kernel
theorem ab_h3 : ∀ w ∈ u_ws RX3 TX3 6, w ∈ BW := by decide +kernel
theorem ab_h4 : ∀ w ∈ u_ws RX4 TX4 6, w ∈ BW := by decide +kernel
theorem ab_h5 : ∀ w ∈ u_ws RX5 TX5 11, w ∈ BW := by decide +kernel
theorem ab_h6 : ∀ w ∈ u_ws RX6 TX6 6, w ∈ BW := by decide +kernel
theorem ab_h7 : ∀ w ∈ u_ws RX7 TX7 4, w ∈ BW := by decide +kernel
theorem ab_h8 : ∀ w ∈ u_ws RX8 TX8 8, w ∈ BW := by decide +kernel
theorem ab_h9 : ∀ w ∈ u_ws RX9 TX9 3, w ∈ BW := by decide +kernel
theorem ab_h10 : ∀ w ∈ u_ws RX10 TX10 10, w ∈ BW := by decide +kernel
theorem ab_h11 : ∀ w ∈ u_ws RX11 TX11 50, w ∈ BW := by decide +kernel
theorem ab_hin (ci : Nat) (q : vw_C) (h : ab_cls[ci]? = some q) : ∀ w ∈ u_ws q.1 q.2.1 q.2.2, w ∈ BW := by
  have key : ∀ i, i < 12 → ∀ q, ab_cls[i]? = some q → ∀ w ∈ u_ws q.1 q.2.1 q.2.2, w ∈ BW := by
    intro i hi q hq
    match i, hq with
    | 0, hq => cases hq; exact ab_h0
    | 1, hq => cases hq; exact ab_h1
    | 2, hq => cases hq; exact ab_h2
    | 3, hq => cases hq; exact ab_h3
    | 4, hq => cases hq; exact ab_h4
    | 5, hq => cases hq; exact ab_h5
    | 6, hq => cases hq; exact ab_h6
    | 7, hq => cases hq; exact ab_h7
    | 8, hq => cases hq; exact ab_h8
    | 9, hq => cases hq; exact ab_h9
    | 10, hq => cases hq; exact ab_h10
    | 11, hq => cases hq; exact ab_h11
    | n + 12, hq => omega
  refine key ci ?_ q h
  exact (List.getElem?_eq_some_iff.mp h).1
theorem aw_get (B : Bx G E own cc nL lev ret) {c idx k : Nat} (hL : ab_LK own idx (ab_k c) k) (hd : decode cc pc = .ok (.getfield idx, 3)) {v : Value} (hv : ∀ ad, ab_fv ad M c k = ab_tr ad v) (kk : AWo G E cc nL Q (pc + 3) lv (v :: st) M X) : AWo G E cc nL Q pc lv (.ref c :: st) M X := by
  intro a ha H locs ls hP hS hl
  obtain ⟨C, T, N, hc, hk, hkf, h100, hT, hw⟩ := hL
  refine va_get B.1 B.2.1 B.2.2.2.2.1 (ab_hin _ _ hc) B.2.2.2.1 B.2.2.2.2.2.1 hP c (ab_atO G M h100) hc k hk (B.2.2.2.2.1 _ hw) (fun x hx => by rw [hT] at hx; exact hx) (v := ab_tr G.1 v) ?_ hd (kk a ha H locs ls hP hS hl)
  rw [ab_fl_at hkf, hv]
theorem aw_geti (B : Bx G E own cc nL lev ret) {c idx k : Nat} (hL : ab_LK own idx (ab_k c) k) (hd : decode cc pc = .ok (.getfield idx, 3)) (ht : ab_ft (ab_k c) k = 0) (kk : AWo G E cc nL Q (pc + 3) lv (.int (M.1 c k) :: st) M X) : AWo G E cc nL Q pc lv (.ref c :: st) M X :=
  aw_get B hL hd (fun ad => by simp [ab_fv, ht, ab_tr]) kk
theorem aw_getr (B : Bx G E own cc nL lev ret) {c idx k : Nat} (hL : ab_LK own idx (ab_k c) k) (hd : decode cc pc = .ok (.getfield idx, 3)) (ht : ab_ft (ab_k c) k = 1) {r : Nat} (hr : ab_rf c k = r) (kk : AWo G E cc nL Q (pc + 3) lv (.ref r :: st) M X) : AWo G E cc nL Q pc lv (.ref c :: st) M X :=
  aw_get B hL hd (fun ad => by simp [ab_fv, ht, ab_tr, hr]) kk
theorem aw_getm (B : Bx G E own cc nL lev ret) {c idx k : Nat} (hL : ab_LK own idx (ab_k c) k) (hd : decode cc pc = .ok (.getfield idx, 3)) (ht : ab_ft (ab_k c) k = 2) (kk : AWo G E cc nL Q (pc + 3) lv (.ref (M.2.2 c k) :: st) M X) : AWo G E cc nL Q pc lv (.ref c :: st) M X :=
  aw_get B hL hd (fun ad => by simp [ab_fv, ht, ab_tr]) kk
theorem ab_putx (B : Bx G E own cc nL lev ret) {c idx k : Nat} {ty : FieldType} {v : Value} {a : α} (hL : ab_LK own idx (ab_k c) k) (hp : ab_LP (ab_k c) k ty) (hd : decode cc pc = .ok (.putfield idx, 3)) (hn : narrow ty (ab_tr G.1 v) = ab_tr G.1 v) (hfit : fits ty (ab_tr G.1 v) = true) {M2 : Mem} (hset : (ab_w G M).set c (G.1 c, .inr (ab_k c, (ab_fl G.1 M c).set k (ab_tr G.1 v))) = ab_w G M2) {X2 : Option α} (hx : X2 = some a) (kk : AWo G E cc nL Q (pc + 3) lv st M2 X2) : ∀ (H : Heap) (locs : List Loc) (ls : Array Slot), va_P G.2.1 ab_cls (ab_w G M) H → va_S (ab_A G) (eS E).heap H locs → lv_has ls nL (lv.map (ab_tp G.1)) →
    W (eP E) (eLa E) (eE E) (eR E) (eS E) (eM E) (eA E) (eB E) (eMe E) (eC E) H locs (eK E) (eZ E) (Q a) (F0 (eM E) pc ls ((v :: .ref c :: st).map (ab_tr G.1))) := by
  intro H locs ls hP hS hl
  obtain ⟨C, T, N, hc, hk, hkf, h100, hT, hw⟩ := hL
  obtain ⟨C', T', N', ty0, hc', hk', hfin, hty, htys, hnm⟩ := hp
  have e := hc.symm.trans hc'
  cases e
  refine va_put B.1 B.2.1 B.2.2.2.2.1 (ab_hin _ _ hc) ty0 htys hnm B.2.2.2.1 B.2.2.2.2.2.1 hP (ab_D B.2.2.2.2.2.2.1 M) hS c (ab_atO G M h100) hc k hk (B.2.2.2.2.1 _ hw) (fun x hx => by rw [hT] at hx; exact hx) hfin hty hn hfit (by rw [ab_fl_len]; exact hkf) hd (fun H1 locs1 hP1 _ hS1 => ?_)
  rw [hset] at hP1
  exact kk a hx H1 locs1 ls hP1 hS1 hl
theorem aw_puti (B : Bx G E own cc nL lev ret) {c idx k : Nat} {v : Int32} {K : Mem → Option α} (hL : ab_LK own idx (ab_k c) k) (hp : ab_LP (ab_k c) k .int) (hd : decode cc pc = .ok (.putfield idx, 3)) (ht : ab_ft (ab_k c) k = 0) (kk : ∀ M2, AWo G E cc nL Q (pc + 3) lv st M2 (K M2)) : AWo G E cc nL Q pc lv (.int v :: .ref c :: st) M (lt (wI M c k v) K) := by
  intro a ha H locs ls hP hS hl
  have h100 := id hL
  obtain ⟨C, T, N, hc, hk, hkf, h100, hT, hw⟩ := h100
  exact ab_putx B hL hp hd (v := .int v) rfl rfl (ab_setFI h100 ht) ha (kk _) H locs ls hP hS hl
theorem aw_putz (B : Bx G E own cc nL lev ret) {c idx k : Nat} {v : Int32} {K : Mem → Option α} (hL : ab_LK own idx (ab_k c) k) (hp : ab_LP (ab_k c) k .boolean) (hd : decode cc pc = .ok (.putfield idx, 3)) (ht : ab_ft (ab_k c) k = 0) (kk : ∀ M2, AWo G E cc nL Q (pc + 3) lv st M2 (K M2)) : AWo G E cc nL Q pc lv (.int v :: .ref c :: st) M (ck (okB v) (lt (wI M c k v) K)) := by
  intro a ha H locs ls hP hS hl
  obtain ⟨hv, ha⟩ := ck_some ha
  have h100 := id hL
  obtain ⟨C, T, N, hc, hk, hkf, h100, hT, hw⟩ := h100
  exact ab_putx B hL hp hd (v := .int v) (ab_nz hv).2.1 (ab_nz hv).2.2 (ab_setFI h100 ht) ha (kk _) H locs ls hP hS hl
theorem aw_putr (B : Bx G E own cc nL lev ret) {c idx k : Nat} {v : Nat} {K : Mem → Option α} (hL : ab_LK own idx (ab_k c) k) (hp : ab_LP (ab_k c) k (.array .int)) (hd : decode cc pc = .ok (.putfield idx, 3)) (ht : ab_ft (ab_k c) k = 2) (kk : ∀ M2, AWo G E cc nL Q (pc + 3) lv st M2 (K M2)) : AWo G E cc nL Q pc lv (.ref v :: .ref c :: st) M (lt (wR M c k v) K) := by
  intro a ha H locs ls hP hS hl
  have h100 := id hL
  obtain ⟨C, T, N, hc, hk, hkf, h100, hT, hw⟩ := h100
  exact ab_putx B hL hp hd (v := .ref v) rfl rfl (ab_setFR h100 ht) ha (kk _) H locs ls hP hS hl
theorem aw_gets0 (B : Bx G E own cc nL lev ret) {idx : Nat} (hw : Cond.fieldLink own idx "SecondBest$Bodies" "KIND_ABOVE" "[I" ∈ BW) (hd : decode cc pc = .ok (.getstatic idx, 3)) (kk : AWo G E cc nL Q (pc + 3) lv (.ref 1000 :: st) M X) : AWo G E cc nL Q pc lv st M X := fun a ha H locs ls hP hS hl => va_gets B.1 B.2.1 B.2.2.2.2.2.2.2.1.1.1 hS B.2.2.2.1 (B.2.2.2.2.1 _ hw) (fun x hx => hx) hd (kk a ha H locs ls hP hS hl)
theorem aw_gets1 (B : Bx G E own cc nL lev ret) {idx : Nat} (hw : Cond.fieldLink own idx "SecondBest$Bodies" "OWN" "[I" ∈ BW) (hd : decode cc pc = .ok (.getstatic idx, 3)) (kk : AWo G E cc nL Q (pc + 3) lv (.ref 1001 :: st) M X) : AWo G E cc nL Q pc lv st M X := fun a ha H locs ls hP hS hl => va_gets B.1 B.2.1 B.2.2.2.2.2.2.2.1.2.1.1 hS B.2.2.2.1 (B.2.2.2.2.1 _ hw) (fun x hx => hx) hd (kk a ha H locs ls hP hS hl)
theorem aw_gets2 (B : Bx G E own cc nL lev ret) {idx : Nat} (hw : Cond.fieldLink own idx "SecondBest$Cup" "PARTS" "[J" ∈ BW) (hd : decode cc pc = .ok (.getstatic idx, 3)) (kk : AWo G E cc nL Q (pc + 3) lv (.ref 1002 :: st) M X) : AWo G E cc nL Q pc lv st M X := fun a ha H locs ls hP hS hl => va_gets B.1 B.2.1 B.2.2.2.2.2.2.2.1.2.2.1 hS B.2.2.2.1 (B.2.2.2.2.1 _ hw) (fun x hx => hx) hd (kk a ha H locs ls hP hS hl)
theorem okS_spec {j : Nat} {i : Int32} (h : okS j i = true) : vp_in i (ab_st j).length := by
  simp only [okS, decide_eq_true_eq] at h
  exact h
theorem okSL_spec {i : Int32} (h : okSL i = true) : vp_in i 4 := by
  simp only [okSL, decide_eq_true_eq] at h
  exact h
theorem aw_sld0 (B : Bx G E own cc nL lev ret) {i : Int32} (hd : decode cc pc = .ok (.iaload, 1)) (k : AWo G E cc nL Q (pc + 1) lv (.int ((ab_st 0).getD i.toNatClampNeg 0) :: st) M X) : AWo G E cc nL Q pc lv (.int i :: .ref 1000 :: st) M (ck (okS 0 i) X) := by
  intro a ha H locs ls hP hS hl
  obtain ⟨h, ha⟩ := ck_some ha
  exact va_ti B.1 B.2.1 B.2.2.2.2.2.2.2.1.1.2 hS (okS_spec h) rfl hd (k a ha H locs ls hP hS hl)
theorem aw_sld1 (B : Bx G E own cc nL lev ret) {i : Int32} (hd : decode cc pc = .ok (.iaload, 1)) (k : AWo G E cc nL Q (pc + 1) lv (.int ((ab_st 1).getD i.toNatClampNeg 0) :: st) M X) : AWo G E cc nL Q pc lv (.int i :: .ref 1001 :: st) M (ck (okS 1 i) X) := by
  intro a ha H locs ls hP hS hl
  obtain ⟨h, ha⟩ := ck_some ha
  exact va_ti B.1 B.2.1 B.2.2.2.2.2.2.2.1.2.1.2 hS (okS_spec h) rfl hd (k a ha H locs ls hP hS hl)
theorem aw_sld2 (B : Bx G E own cc nL lev ret) {i : Int32} (hd : decode cc pc = .ok (.laload, 1)) (k : AWo G E cc nL Q (pc + 1) lv (.long (ab_stL.getD i.toNatClampNeg 0) :: st) M X) : AWo G E cc nL Q pc lv (.int i :: .ref 1002 :: st) M (ck (okSL i) X) := by
  intro a ha H locs ls hP hS hl
  obtain ⟨h, ha⟩ := ck_some ha
  exact va_tl B.1 B.2.1 B.2.2.2.2.2.2.2.1.2.2.2 hS (okSL_spec h) rfl hd (k a ha H locs ls hP hS hl)
/-- a call's static facts -/
def ab_CV (own : String) (idx : Nat) (y : MethodName) (cc : ByteArray) (nL : Nat) (ret : Option FieldType) (n : Nat) : Prop :=
  (Cond.methodLink own idx y ∈ BW ∧ Cond.instanceMethod y ∈ BW ∧ Cond.selects y.cls y y ∈ BW ∧ Cond.initialized y.cls ∈ BW ∧ Cond.code y cc nL ret ∈ BW) ∧ (y.cls ≠ "java/lang/invoke/MethodHandle" ∧ y.cls ≠ "java/lang/invoke/VarHandle" ∧ (parseMethodDescriptor y.desc).map (fun d => d.parameters.length) = some n) ∧ nL ≤ 22
def ab_CS (own : String) (idx : Nat) (y : MethodName) (cc : ByteArray) (nL : Nat) (ret : Option FieldType) (n : Nat) : Prop :=
  (Cond.methodLink own idx y ∈ BW ∧ Cond.static y ∈ BW ∧ Cond.initialized y.cls ∈ BW ∧ Cond.code y cc nL ret ∈ BW) ∧ (y.cls ≠ "java/lang/invoke/MethodHandle" ∧ y.cls ≠ "java/lang/invoke/VarHandle" ∧ (parseMethodDescriptor y.desc).map (fun d => d.parameters.length) = some n) ∧ nL ≤ 22
theorem ab_gin {pre : List Cond} {c : Cond} (hp : ∀ w ∈ pre, w ∈ BW) (hc : c ∈ BW) : GoodIn BW (pre ++ (c :: BW)) := by
  intro w hw
  rcases List.mem_append.mp hw with h | h
  · exact bw_good (hp w h)
  · rcases List.mem_cons.mp h with rfl | h
    · exact bw_good hc
    · exact bw_good h
theorem ab_blind {G : GW} {av : List Value} {M : Mem} : FrameBlind (va_Pc av (ab_PW G M)) := by
  intro a U g mk q
  obtain ⟨q0, qP, qK, qS⟩ := q
  exact ⟨q0, qP, va_K.moved (u := U) (U := U.calling g mk a) (Vm.Alike.refl U.vm) qK, ab_SF.moved (u := U) (U := U.calling g mk a) (Vm.Alike.refl U.vm) rfl qS⟩
/-- the end of any call: the callee's world comes back -/
theorem ab_back {v : Option Value × Mem} {H : Heap} {locs : List Loc} {ls : Array Slot} {a : α} (hl : lv_has ls nL (lv.map (ab_tp G.1))) {stk : List Value} {av : Array Value} (hr : va_Run (eP E) (eLa E) (eE E) (eR E) (eS E) (eM E) (eA E) (eB E) (eMe E) (eC E) H locs (eK E) (eZ E) 0 0 (F0 (eM E) pc ls stk) (st.map (ab_tr G.1)) (ab_QR G v av) (ab_A G)) (hS : va_S (ab_A G) (eS E).heap H locs) (ha : X = some a) (k : AWo G E cc nL Q (pc + 3) lv (v.1.toList ++ st) v.2 X) : W (eP E) (eLa E) (eE E) (eR E) (eS E) (eM E) (eA E) (eB E) (eMe E) (eC E) H locs (eK E) (eZ E) (Q a) (F0 (eM E) pc ls stk) := by
  intro T hT XX
  obtain ⟨v', st₀, t, T', L, h0, X', hL, e1, e2, ⟨⟨hv, hp⟩, hz, hk⟩, stp⟩ := hr T hT XX
  have hv' : v' = v.1.map (ab_tr G.1) := by cases hv; rfl
  subst hv'
  rw [h0] at hz hk
  have hS' : va_S (ab_A G) (eS E).heap T'.heap (locs ++ L) := by
    refine ⟨Nat.le_trans hS.1 (by rw [e1]; exact hz), fun q h1 h2 => ?_, fun q hq => ?_⟩
    · rw [e1, hk q (Nat.lt_of_lt_of_le h1 hS.1) h2]
      exact hS.2.1 q h1 h2
    · rcases List.mem_append.mp hq with h | h
      · exact hS.2.2 q h
      · exact hL q h
  obtain ⟨t2, a1, b1⟩ := k a ha T'.heap (locs ++ L) ls (by rw [e1]; exact hp) hS' hl T' rfl X'
  refine ⟨t2, stp t2 ?_, b1⟩
  have es : (v.1.toList ++ st).map (ab_tr G.1) = (v.1.map (ab_tr G.1)).toList ++ st.map (ab_tr G.1) := by
    cases v.1 <;> simp
  rw [es] at a1
  exact a1
theorem ab_catsum {ad : Nat → Nat} (st : List Value) : ((st.map (ab_tr ad)).map fun v => v.category).sum = (st.map fun v => v.category).sum := by
  rw [List.map_map]
  congr 1
  apply List.map_congr_left
  intro v _
  exact ab_cat
theorem aw_callV {β : Type} {emb2 : β → Option Value × Mem} {X2 : Option β} {K : β → Option α} {y : MethodName} {bytes : ByteArray} {maxL lev2 n idx b : Nat} {ret2 : Option FieldType} {As : List Value} (B : Bx G E own cc nL lev ret) (hA : AC (eLa E) G y bytes maxL ret2 lev2 (.ref b :: As) M emb2 X2) (hC : ab_CV own idx y bytes maxL ret2 n) {q : vw_C} (hb : ab_cls[ab_k b]? = some q) (hq : q.1 = y.cls) (hlev : lev2 + 1 ≤ lev) (hn : As.length = n) (hs : (st.map fun v => v.category).sum ≤ 8) (hd : decode cc pc = .ok (.invokevirtual idx, 3)) {stk : List Value} (hk : stk = As.reverse ++ .ref b :: st)
    (k : ∀ r, X2 = some r → AWo G E cc nL Q (pc + 3) lv ((emb2 r).1.toList ++ st) (emb2 r).2 (K r)) : AWo G E cc nL Q pc lv stk M (X2.bind K) := by
  intro a ha H locs ls hP hS hl
  obtain ⟨r, hr, hK⟩ := Option.bind_eq_some_iff.mp ha
  have hM := hA r hr
  obtain ⟨⟨w1, w2, w3, w4, w5⟩, hdd, h22⟩ := hC
  have h100 : ab_k b < 100 := by
    have := (List.getElem?_eq_some_iff.mp hb).1
    have e : ab_cls.length = 12 := rfl
    omega
  obtain ⟨l1, l2, l3, l4⟩ := B.2.2.2.2.2.2.2.2.2.2
  refine ab_back (v := emb2 r) hl (va_runV (As := As.map (ab_tr G.1)) (b := G.1 b) (rest := st.map (ab_tr G.1)) (C := y.cls) (n := n) (index := idx) ⟨B.1, B.2.1, B.2.2.1, B.2.2.2.1, B.2.2.2.2.1⟩ hM (cwV (Ts := BW) n B.2.2.2.2.1 (ab_gin (pre := [.methodLink own idx y, .instanceMethod y, .selects y.cls y y, .initialized y.cls]) (fun w hw => ?_) w5) rfl rfl rfl ⟨rfl, hdd⟩ ⟨?_, ?_⟩) ⟨ab_blind, ?_, fun U hU hW => ⟨rfl, ?_, ?_, ?_⟩⟩ rfl (by rw [List.length_map]; exact hn) hl.1 ?_ (lv_room (by rw [ab_catsum]; exact hs)) hd ⟨l3, l4⟩) hS hK (k r hr)
  · simp only [List.mem_cons, List.not_mem_nil, or_false] at hw
    rcases hw with rfl | rfl | rfl | rfl <;> assumption
  · show lev2 + 1 ≤ _; omega
  · show 8 + (maxL + 11) + 41 * lev2 ≤ _; omega
  · obtain ⟨cell, g1, g2, g3⟩ := va_recv B.2.2.2.2.2.1 hP hb (ab_atO G M h100)
    exact ⟨cell, g1, g2, by rw [← hq]; exact g3⟩
  · rw [hU]; exact hP
  · exact va_K.moved hW.alike B.2.2.2.2.2.1
  · exact ab_SF.kept hW.alike hS hU B.2.2.2.2.2.2.2.1
  · rw [hk]
    show (As.reverse ++ .ref b :: st).map (ab_tr G.1) = _
    rw [List.map_append, List.map_reverse]
    rfl
theorem aw_callS {β : Type} {emb2 : β → Option Value × Mem} {X2 : Option β} {K : β → Option α} {y : MethodName} {bytes : ByteArray} {maxL lev2 n idx : Nat} {ret2 : Option FieldType} {As : List Value} (B : Bx G E own cc nL lev ret) (hA : AC (eLa E) G y bytes maxL ret2 lev2 As M emb2 X2) (hC : ab_CS own idx y bytes maxL ret2 n) (hlev : lev2 + 1 ≤ lev) (hn : As.length = n) (hs : (st.map fun v => v.category).sum ≤ 8) (hd : decode cc pc = .ok (.invokestatic idx, 3)) {stk : List Value} (hk : stk = As.reverse ++ st)
    (k : ∀ r, X2 = some r → AWo G E cc nL Q (pc + 3) lv ((emb2 r).1.toList ++ st) (emb2 r).2 (K r)) : AWo G E cc nL Q pc lv stk M (X2.bind K) := by
  intro a ha H locs ls hP hS hl
  obtain ⟨r, hr, hK⟩ := Option.bind_eq_some_iff.mp ha
  have hM := hA r hr
  obtain ⟨⟨w1, w2, w4, w5⟩, hdd, h22⟩ := hC
  obtain ⟨l1, l2, l3, l4⟩ := B.2.2.2.2.2.2.2.2.2.2
  refine ab_back (v := emb2 r) hl (va_runS (As := As.map (ab_tr G.1)) (rest := st.map (ab_tr G.1)) (n := n) (index := idx) ⟨B.1, B.2.1, B.2.2.1, B.2.2.2.1, B.2.2.2.2.1⟩ hM (va_cwS (Ts := BW) n B.2.2.2.2.1 (ab_gin (pre := [.methodLink own idx y, .static y, .initialized y.cls]) (fun w hw => ?_) w5) rfl rfl rfl hdd ⟨?_, ?_⟩) ⟨ab_blind, fun U hU hW => ⟨rfl, ?_, ?_, ?_⟩⟩ rfl (by rw [List.length_map]; exact hn) hl.1 ?_ (lv_room (by rw [ab_catsum]; exact hs)) hd ⟨l3, l4⟩) hS hK (k r hr)
  · simp only [List.mem_cons, List.not_mem_nil, or_false] at hw
    rcases hw with rfl | rfl | rfl <;> assumption
  · show lev2 + 1 ≤ _; omega
  · show 8 + (maxL + 11) + 41 * lev2 ≤ _; omega
  · rw [hU]; exact hP
  · exact va_K.moved hW.alike B.2.2.2.2.2.1
  · exact ab_SF.kept hW.alike hS hU B.2.2.2.2.2.2.2.1
  · rw [hk]
    show (As.reverse ++ st).map (ab_tr G.1) = _
    rw [List.map_append, List.map_reverse]
end AWC
end
section
/-! switches, copies, calls by the kind of their answer -/
section AWD
variable {α : Type} {G : GW} {E : EE} {own : String} {cc : ByteArray} {nL lev : Nat} {ret : Option FieldType} {Q : α → State → Prop} {pc : Nat} {lv : List (Nat × Value)} {st : List Value} {M : Mem} {X : Option α}
theorem aw_ite {c : Prop} {d : Decidable c} {X2 : Option α} (kt : c → AWo G E cc nL Q pc lv st M X) (kf : ¬ c → AWo G E cc nL Q pc lv st M X2) : AWo G E cc nL Q pc lv st M (@ite _ c d X X2) := by
  intro a ha
  by_cases h : c
  · rw [if_pos h] at ha; exact kt h a ha
  · rw [if_neg h] at ha; exact kf h a ha
theorem aw_tin (B : Bx G E own cc nL lev ret) {dflt lo hi : Int} {offs : Array Int} {len : Nat} {x k0 : Int32} {off : Int} (tgt : Nat) (hd : decode cc pc = .ok (.tableswitch dflt lo hi offs, len)) (hx : x = k0) (h1 : ¬ k0.toInt < lo) (h2 : ¬ hi < k0.toInt) (ho : offs[(k0.toInt - lo).toNat]? = some off) (ht : (pc : Int) + off = (tgt : Int)) (k : AWo G E cc nL Q tgt lv st M X) : AWo G E cc nL Q pc lv (.int x :: st) M X := by
  subst hx
  exact fun a ha H locs ls hP hS hl => lv_tableIn B.1 B.2.1 hd h1 h2 ho ht (k a ha H locs ls hP hS hl)
theorem aw_tout (B : Bx G E own cc nL lev ret) {dflt lo hi : Int} {offs : Array Int} {len : Nat} {x : Int32} (tgt : Nat) (hd : decode cc pc = .ok (.tableswitch dflt lo hi offs, len)) (h : x.toInt < lo ∨ hi < x.toInt) (ht : (pc : Int) + dflt = (tgt : Int)) (k : AWo G E cc nL Q tgt lv st M X) : AWo G E cc nL Q pc lv (.int x :: st) M X :=
  fun a ha H locs ls hP hS hl => lv_tableOut B.1 B.2.1 hd h ht (k a ha H locs ls hP hS hl)
theorem aw_lkp (B : Bx G E own cc nL lev ret) {dflt : Int} {ps : Array (Int × Int)} {len : Nat} {x : Int32} {off : Int} (tgt : Nat) (hd : decode cc pc = .ok (.lookupswitch dflt ps, len)) (hp : (ps.toList.zip (ps.toList.drop 1)).all (fun (a, next) => a.1 < next.1) = true) (ho : Op.lookupswitch.offset ps.toList dflt x.toInt = off) (ht : (pc : Int) + off = (tgt : Int)) (k : AWo G E cc nL Q tgt lv st M X) : AWo G E cc nL Q pc lv (.int x :: st) M X :=
  fun a ha H locs ls hP hS hl => lv_lookup B.1 B.2.1 hd hp ho ht (k a ha H locs ls hP hS hl)
theorem aw_lkpK (B : Bx G E own cc nL lev ret) {dflt : Int} {ps : Array (Int × Int)} {len : Nat} {x k0 : Int32} {off : Int} (tgt : Nat) (hd : decode cc pc = .ok (.lookupswitch dflt ps, len)) (hp : (ps.toList.zip (ps.toList.drop 1)).all (fun (a, next) => a.1 < next.1) = true) (hx : x = k0) (ho : Op.lookupswitch.offset ps.toList dflt k0.toInt = off) (ht : (pc : Int) + off = (tgt : Int)) (k : AWo G E cc nL Q tgt lv st M X) : AWo G E cc nL Q pc lv (.int x :: st) M X := by
  subst hx
  exact aw_lkp B tgt hd hp ho ht k
def okC (kd c : Nat) (i n : Int32) : Bool := decide (ab_k c = kd ∧ ¬ i < 0 ∧ ¬ n < 0 ∧ i.toNatClampNeg + n.toNatClampNeg ≤ ab_n c)
theorem okC_spec {kd c : Nat} {i n : Int32} (h : okC kd c i n = true) : ab_k c = kd ∧ ¬ i < 0 ∧ ¬ n < 0 ∧ i.toNatClampNeg + n.toNatClampNeg ≤ ab_n c := by
  simpa only [okC, decide_eq_true_eq] using h
theorem ab_copyw : Cond.native arraycopyName ∈ BW ∧ Cond.static arraycopyName ∈ BW ∧ Cond.initialized "java/lang/System" ∈ BW := by decide +kernel
theorem aw_copyI (B : Bx G E own cc nL lev ret) {c d idx : Nat} {sp dp n : Int32} {K : Mem → Option α} (hw : Cond.methodLink own idx arraycopyName ∈ BW) (hd : decode cc pc = .ok (.invokestatic idx, 3)) (hs : (st.map fun v => v.category).sum ≤ 8) (hlev : 2 ≤ lev) (kk : ∀ M2, AWo G E cc nL Q (pc + 3) lv st M2 (K M2)) : AWo G E cc nL Q pc lv (.int n :: .int dp :: .ref d :: .int sp :: .ref c :: st) M (ck (okC 100 c sp n && okC 100 d dp n) (lt (cpI M c sp.toNatClampNeg d dp.toNatClampNeg n.toNatClampNeg) K)) := by
  intro a ha H locs ls hP hS hl
  obtain ⟨h, ha⟩ := ck_some ha
  obtain ⟨h1, h2⟩ := Bool.and_eq_true_iff.mp h
  obtain ⟨a1, a2, a3, a4⟩ := okC_spec h1
  obtain ⟨b1, b2, b3, b4⟩ := okC_spec h2
  obtain ⟨l1, l2, l3, l4⟩ := B.2.2.2.2.2.2.2.2.2.2
  refine va_copyi B.1 B.2.1 (B.2.2.1.trans hl.1.symm) B.2.2.2.1 (B.2.2.2.2.1 _ hw) (B.2.2.2.2.1 _ ab_copyw.1) (B.2.2.2.2.1 _ ab_copyw.2.1) (B.2.2.2.2.1 _ ab_copyw.2.2) B.2.2.2.2.2.1 hP (ab_D B.2.2.2.2.2.2.1 M) hS c d 0 0 (ab_atI G M a1) (ab_atI G M b1) rfl rfl rfl a2 b2 a3 a4 b4 (fun _ _ => rfl) (by omega) ?_ hd (fun H1 locs1 hP1 _ hS1 => ?_)
  · have e : nativeFrameWords "java/lang/System" "arraycopy" 5 ≤ 50 := by decide +kernel
    rw [ab_catsum]
    omega
  · rw [ab_setCI b1] at hP1
    exact kk _ a ha H1 locs1 ls hP1 hS1 hl
theorem aw_copyL (B : Bx G E own cc nL lev ret) {c d idx : Nat} {sp dp n : Int32} {K : Mem → Option α} (hw : Cond.methodLink own idx arraycopyName ∈ BW) (hd : decode cc pc = .ok (.invokestatic idx, 3)) (hs : (st.map fun v => v.category).sum ≤ 8) (hlev : 2 ≤ lev) (kk : ∀ M2, AWo G E cc nL Q (pc + 3) lv st M2 (K M2)) : AWo G E cc nL Q pc lv (.int n :: .int dp :: .ref d :: .int sp :: .ref c :: st) M (ck (okC 101 c sp n && okC 101 d dp n) (lt (cpL M c sp.toNatClampNeg d dp.toNatClampNeg n.toNatClampNeg) K)) := by
  intro a ha H locs ls hP hS hl
  obtain ⟨h, ha⟩ := ck_some ha
  obtain ⟨h1, h2⟩ := Bool.and_eq_true_iff.mp h
  obtain ⟨a1, a2, a3, a4⟩ := okC_spec h1
  obtain ⟨b1, b2, b3, b4⟩ := okC_spec h2
  obtain ⟨l1, l2, l3, l4⟩ := B.2.2.2.2.2.2.2.2.2.2
  refine va_copyl B.1 B.2.1 (B.2.2.1.trans hl.1.symm) B.2.2.2.1 (B.2.2.2.2.1 _ hw) (B.2.2.2.2.1 _ ab_copyw.1) (B.2.2.2.2.1 _ ab_copyw.2.1) (B.2.2.2.2.1 _ ab_copyw.2.2) B.2.2.2.2.2.1 hP (ab_D B.2.2.2.2.2.2.1 M) hS c d 1 1 (ab_atL G M a1) (ab_atL G M b1) rfl rfl rfl a2 b2 a3 a4 b4 (fun _ _ => rfl) (by omega) ?_ hd (fun H1 locs1 hP1 _ hS1 => ?_)
  · have e : nativeFrameWords "java/lang/System" "arraycopy" 5 ≤ 50 := by decide +kernel
    rw [ab_catsum]
    omega
  · rw [ab_setCL b1] at hP1
    exact kk _ a ha H1 locs1 ls hP1 hS1 hl
theorem aw_alen (B : Bx G E own cc nL lev ret) {c : Nat} (hd : decode cc pc = .ok (.arraylength, 1)) (k : AWo G E cc nL Q (pc + 1) lv (.int (Int32.ofNat (ab_n c)) :: st) M X) : AWo G E cc nL Q pc lv (.ref c :: st) M (ck (decide (ab_k c = 100)) X) := by
  intro a ha H locs ls hP hS hl
  obtain ⟨h, ha⟩ := ck_some ha
  have h1 : ab_k c = 100 := of_decide_eq_true h
  exact va_alen B.1 B.2.1 B.2.2.2.2.2.1 hP c 0 (ab_atI G M h1) rfl rfl hd (k a ha H locs ls hP hS hl)
theorem aw_alenL (B : Bx G E own cc nL lev ret) {c : Nat} (hd : decode cc pc = .ok (.arraylength, 1)) (k : AWo G E cc nL Q (pc + 1) lv (.int (Int32.ofNat (ab_n c)) :: st) M X) : AWo G E cc nL Q pc lv (.ref c :: st) M (ck (decide (ab_k c = 101)) X) := by
  intro a ha H locs ls hP hS hl
  obtain ⟨h, ha⟩ := ck_some ha
  have h1 : ab_k c = 101 := of_decide_eq_true h
  exact va_alen B.1 B.2.1 B.2.2.2.2.2.1 hP c 1 (ab_atL G M h1) rfl rfl hd (k a ha H locs ls hP hS hl)
end AWD
end
section
/-! fuel, and the calls by the kind of their answer -/
def FU : Nat := 5000
def FD : Nat := 40
def embRU (M : Mem) (_ : Unit) : Option Value × Mem := (none, M)
theorem ab_inc {x c : Int32} {n : Int} (h : Int32.ofInt n = c) : x + Int32.ofInt n = x + c := by rw [h]
section AWE
variable {α : Type} {G : GW} {E : EE} {own : String} {cc : ByteArray} {nL lev : Nat} {ret : Option FieldType} {Q : α → State → Prop} {pc : Nat} {lv : List (Nat × Value)} {st : List Value} {M : Mem} {X : Option α}
theorem aw_ltI {e : Int32} {K : Int32 → Option α} (k : ∀ v, AWo G E cc nL Q pc lv (.int v :: st) M (K v)) : AWo G E cc nL Q pc lv (.int e :: st) M (lt e K) := k e
theorem aw_ltJ {e : Int64} {K : Int64 → Option α} (k : ∀ v, AWo G E cc nL Q pc lv (.long v :: st) M (K v)) : AWo G E cc nL Q pc lv (.long e :: st) M (lt e K) := k e
theorem aw_ltA {e : Nat} {K : Nat → Option α} (k : ∀ v, AWo G E cc nL Q pc lv (.ref v :: st) M (K v)) : AWo G E cc nL Q pc lv (.ref e :: st) M (lt e K) := k e
theorem aw_cVI {X2 : Option (Int32 × Mem)} {K : Int32 → Mem → Option α} {y : MethodName} {bytes : ByteArray} {maxL lev2 n idx b : Nat} {ret2 : Option FieldType} {As : List Value} (B : Bx G E own cc nL lev ret) (hA : AC (eLa E) G y bytes maxL ret2 lev2 (.ref b :: As) M embI X2) (hC : ab_CV own idx y bytes maxL ret2 n) {q : vw_C} (hb : ab_cls[ab_k b]? = some q) (hq : q.1 = y.cls) (hlev : lev2 + 1 ≤ lev) (hn : As.length = n) (hs : (st.map fun v => v.category).sum ≤ 8) (hd : decode cc pc = .ok (.invokevirtual idx, 3)) {stk : List Value} (hk : stk = As.reverse ++ .ref b :: st) (k : ∀ v M2, AWo G E cc nL Q (pc + 3) lv (.int v :: st) M2 (K v M2)) : AWo G E cc nL Q pc lv stk M (bI X2 K) := aw_callV B hA hC hb hq hlev hn hs hd hk (fun r _ => k r.1 r.2)
theorem aw_cSI {X2 : Option (Int32 × Mem)} {K : Int32 → Mem → Option α} {y : MethodName} {bytes : ByteArray} {maxL lev2 n idx : Nat} {ret2 : Option FieldType} {As : List Value} (B : Bx G E own cc nL lev ret) (hA : AC (eLa E) G y bytes maxL ret2 lev2 As M embI X2) (hC : ab_CS own idx y bytes maxL ret2 n) (hlev : lev2 + 1 ≤ lev) (hn : As.length = n) (hs : (st.map fun v => v.category).sum ≤ 8) (hd : decode cc pc = .ok (.invokestatic idx, 3)) {stk : List Value} (hk : stk = As.reverse ++ st) (k : ∀ v M2, AWo G E cc nL Q (pc + 3) lv (.int v :: st) M2 (K v M2)) : AWo G E cc nL Q pc lv stk M (bI X2 K) := aw_callS B hA hC hlev hn hs hd hk (fun r _ => k r.1 r.2)
theorem aw_cVJ {X2 : Option (Int64 × Mem)} {K : Int64 → Mem → Option α} {y : MethodName} {bytes : ByteArray} {maxL lev2 n idx b : Nat} {ret2 : Option FieldType} {As : List Value} (B : Bx G E own cc nL lev ret) (hA : AC (eLa E) G y bytes maxL ret2 lev2 (.ref b :: As) M embJ X2) (hC : ab_CV own idx y bytes maxL ret2 n) {q : vw_C} (hb : ab_cls[ab_k b]? = some q) (hq : q.1 = y.cls) (hlev : lev2 + 1 ≤ lev) (hn : As.length = n) (hs : (st.map fun v => v.category).sum ≤ 8) (hd : decode cc pc = .ok (.invokevirtual idx, 3)) {stk : List Value} (hk : stk = As.reverse ++ .ref b :: st) (k : ∀ v M2, AWo G E cc nL Q (pc + 3) lv (.long v :: st) M2 (K v M2)) : AWo G E cc nL Q pc lv stk M (bI X2 K) := aw_callV B hA hC hb hq hlev hn hs hd hk (fun r _ => k r.1 r.2)
theorem aw_cSJ {X2 : Option (Int64 × Mem)} {K : Int64 → Mem → Option α} {y : MethodName} {bytes : ByteArray} {maxL lev2 n idx : Nat} {ret2 : Option FieldType} {As : List Value} (B : Bx G E own cc nL lev ret) (hA : AC (eLa E) G y bytes maxL ret2 lev2 As M embJ X2) (hC : ab_CS own idx y bytes maxL ret2 n) (hlev : lev2 + 1 ≤ lev) (hn : As.length = n) (hs : (st.map fun v => v.category).sum ≤ 8) (hd : decode cc pc = .ok (.invokestatic idx, 3)) {stk : List Value} (hk : stk = As.reverse ++ st) (k : ∀ v M2, AWo G E cc nL Q (pc + 3) lv (.long v :: st) M2 (K v M2)) : AWo G E cc nL Q pc lv stk M (bI X2 K) := aw_callS B hA hC hlev hn hs hd hk (fun r _ => k r.1 r.2)
theorem aw_cVV {X2 : Option Mem} {K : Mem → Option α} {y : MethodName} {bytes : ByteArray} {maxL lev2 n idx b : Nat} {ret2 : Option FieldType} {As : List Value} (B : Bx G E own cc nL lev ret) (hA : AC (eLa E) G y bytes maxL ret2 lev2 (.ref b :: As) M embV X2) (hC : ab_CV own idx y bytes maxL ret2 n) {q : vw_C} (hb : ab_cls[ab_k b]? = some q) (hq : q.1 = y.cls) (hlev : lev2 + 1 ≤ lev) (hn : As.length = n) (hs : (st.map fun v => v.category).sum ≤ 8) (hd : decode cc pc = .ok (.invokevirtual idx, 3)) {stk : List Value} (hk : stk = As.reverse ++ .ref b :: st) (k : ∀ M2, AWo G E cc nL Q (pc + 3) lv st M2 (K M2)) : AWo G E cc nL Q pc lv stk M (X2.bind K) := aw_callV B hA hC hb hq hlev hn hs hd hk (fun r _ => k r)
theorem aw_cSV {X2 : Option Mem} {K : Mem → Option α} {y : MethodName} {bytes : ByteArray} {maxL lev2 n idx : Nat} {ret2 : Option FieldType} {As : List Value} (B : Bx G E own cc nL lev ret) (hA : AC (eLa E) G y bytes maxL ret2 lev2 As M embV X2) (hC : ab_CS own idx y bytes maxL ret2 n) (hlev : lev2 + 1 ≤ lev) (hn : As.length = n) (hs : (st.map fun v => v.category).sum ≤ 8) (hd : decode cc pc = .ok (.invokestatic idx, 3)) {stk : List Value} (hk : stk = As.reverse ++ st) (k : ∀ M2, AWo G E cc nL Q (pc + 3) lv st M2 (K M2)) : AWo G E cc nL Q pc lv stk M (X2.bind K) := aw_callS B hA hC hlev hn hs hd hk (fun r _ => k r)
theorem aw_cVA {X2 : Option Mem} {ca : Nat} {K : Mem → Option α} {y : MethodName} {bytes : ByteArray} {maxL lev2 n idx b : Nat} {ret2 : Option FieldType} {As : List Value} (B : Bx G E own cc nL lev ret) (hA : AC (eLa E) G y bytes maxL ret2 lev2 (.ref b :: As) M (embA ca) X2) (hC : ab_CV own idx y bytes maxL ret2 n) {q : vw_C} (hb : ab_cls[ab_k b]? = some q) (hq : q.1 = y.cls) (hlev : lev2 + 1 ≤ lev) (hn : As.length = n) (hs : (st.map fun v => v.category).sum ≤ 8) (hd : decode cc pc = .ok (.invokevirtual idx, 3)) {stk : List Value} (hk : stk = As.reverse ++ .ref b :: st) (k : ∀ M2, AWo G E cc nL Q (pc + 3) lv (.ref ca :: st) M2 (K M2)) : AWo G E cc nL Q pc lv stk M (X2.bind K) := aw_callV B hA hC hb hq hlev hn hs hd hk (fun r _ => k r)
theorem aw_cSA {X2 : Option Mem} {ca : Nat} {K : Mem → Option α} {y : MethodName} {bytes : ByteArray} {maxL lev2 n idx : Nat} {ret2 : Option FieldType} {As : List Value} (B : Bx G E own cc nL lev ret) (hA : AC (eLa E) G y bytes maxL ret2 lev2 As M (embA ca) X2) (hC : ab_CS own idx y bytes maxL ret2 n) (hlev : lev2 + 1 ≤ lev) (hn : As.length = n) (hs : (st.map fun v => v.category).sum ≤ 8) (hd : decode cc pc = .ok (.invokestatic idx, 3)) {stk : List Value} (hk : stk = As.reverse ++ st) (k : ∀ M2, AWo G E cc nL Q (pc + 3) lv (.ref ca :: st) M2 (K M2)) : AWo G E cc nL Q pc lv stk M (X2.bind K) := aw_callS B hA hC hlev hn hs hd hk (fun r _ => k r)
theorem aw_cVR {X2 : Option Int32} {K : Int32 → Option α} {y : MethodName} {bytes : ByteArray} {maxL lev2 n idx b : Nat} {ret2 : Option FieldType} {As : List Value} (B : Bx G E own cc nL lev ret) (hA : AC (eLa E) G y bytes maxL ret2 lev2 (.ref b :: As) M (embRI M) X2) (hC : ab_CV own idx y bytes maxL ret2 n) {q : vw_C} (hb : ab_cls[ab_k b]? = some q) (hq : q.1 = y.cls) (hlev : lev2 + 1 ≤ lev) (hn : As.length = n) (hs : (st.map fun v => v.category).sum ≤ 8) (hd : decode cc pc = .ok (.invokevirtual idx, 3)) {stk : List Value} (hk : stk = As.reverse ++ .ref b :: st) (k : ∀ v, AWo G E cc nL Q (pc + 3) lv (.int v :: st) M (K v)) : AWo G E cc nL Q pc lv stk M (X2.bind K) := aw_callV B hA hC hb hq hlev hn hs hd hk (fun r _ => k r)
theorem aw_cSR {X2 : Option Int32} {K : Int32 → Option α} {y : MethodName} {bytes : ByteArray} {maxL lev2 n idx : Nat} {ret2 : Option FieldType} {As : List Value} (B : Bx G E own cc nL lev ret) (hA : AC (eLa E) G y bytes maxL ret2 lev2 As M (embRI M) X2) (hC : ab_CS own idx y bytes maxL ret2 n) (hlev : lev2 + 1 ≤ lev) (hn : As.length = n) (hs : (st.map fun v => v.category).sum ≤ 8) (hd : decode cc pc = .ok (.invokestatic idx, 3)) {stk : List Value} (hk : stk = As.reverse ++ st) (k : ∀ v, AWo G E cc nL Q (pc + 3) lv (.int v :: st) M (K v)) : AWo G E cc nL Q pc lv stk M (X2.bind K) := aw_callS B hA hC hlev hn hs hd hk (fun r _ => k r)
theorem aw_cVL {X2 : Option Int64} {K : Int64 → Option α} {y : MethodName} {bytes : ByteArray} {maxL lev2 n idx b : Nat} {ret2 : Option FieldType} {As : List Value} (B : Bx G E own cc nL lev ret) (hA : AC (eLa E) G y bytes maxL ret2 lev2 (.ref b :: As) M (embRJ M) X2) (hC : ab_CV own idx y bytes maxL ret2 n) {q : vw_C} (hb : ab_cls[ab_k b]? = some q) (hq : q.1 = y.cls) (hlev : lev2 + 1 ≤ lev) (hn : As.length = n) (hs : (st.map fun v => v.category).sum ≤ 8) (hd : decode cc pc = .ok (.invokevirtual idx, 3)) {stk : List Value} (hk : stk = As.reverse ++ .ref b :: st) (k : ∀ v, AWo G E cc nL Q (pc + 3) lv (.long v :: st) M (K v)) : AWo G E cc nL Q pc lv stk M (X2.bind K) := aw_callV B hA hC hb hq hlev hn hs hd hk (fun r _ => k r)
theorem aw_cSL {X2 : Option Int64} {K : Int64 → Option α} {y : MethodName} {bytes : ByteArray} {maxL lev2 n idx : Nat} {ret2 : Option FieldType} {As : List Value} (B : Bx G E own cc nL lev ret) (hA : AC (eLa E) G y bytes maxL ret2 lev2 As M (embRJ M) X2) (hC : ab_CS own idx y bytes maxL ret2 n) (hlev : lev2 + 1 ≤ lev) (hn : As.length = n) (hs : (st.map fun v => v.category).sum ≤ 8) (hd : decode cc pc = .ok (.invokestatic idx, 3)) {stk : List Value} (hk : stk = As.reverse ++ st) (k : ∀ v, AWo G E cc nL Q (pc + 3) lv (.long v :: st) M (K v)) : AWo G E cc nL Q pc lv stk M (X2.bind K) := aw_callS B hA hC hlev hn hs hd hk (fun r _ => k r)
theorem aw_cVU {X2 : Option Unit} {K : Unit → Option α} {y : MethodName} {bytes : ByteArray} {maxL lev2 n idx b : Nat} {ret2 : Option FieldType} {As : List Value} (B : Bx G E own cc nL lev ret) (hA : AC (eLa E) G y bytes maxL ret2 lev2 (.ref b :: As) M (embRU M) X2) (hC : ab_CV own idx y bytes maxL ret2 n) {q : vw_C} (hb : ab_cls[ab_k b]? = some q) (hq : q.1 = y.cls) (hlev : lev2 + 1 ≤ lev) (hn : As.length = n) (hs : (st.map fun v => v.category).sum ≤ 8) (hd : decode cc pc = .ok (.invokevirtual idx, 3)) {stk : List Value} (hk : stk = As.reverse ++ .ref b :: st) (k : AWo G E cc nL Q (pc + 3) lv st M (K ())) : AWo G E cc nL Q pc lv stk M (X2.bind K) := aw_callV B hA hC hb hq hlev hn hs hd hk (fun r _ => k)
theorem aw_cSU {X2 : Option Unit} {K : Unit → Option α} {y : MethodName} {bytes : ByteArray} {maxL lev2 n idx : Nat} {ret2 : Option FieldType} {As : List Value} (B : Bx G E own cc nL lev ret) (hA : AC (eLa E) G y bytes maxL ret2 lev2 As M (embRU M) X2) (hC : ab_CS own idx y bytes maxL ret2 n) (hlev : lev2 + 1 ≤ lev) (hn : As.length = n) (hs : (st.map fun v => v.category).sum ≤ 8) (hd : decode cc pc = .ok (.invokestatic idx, 3)) {stk : List Value} (hk : stk = As.reverse ++ st) (k : AWo G E cc nL Q (pc + 3) lv st M (K ())) : AWo G E cc nL Q pc lv stk M (X2.bind K) := aw_callS B hA hC hlev hn hs hd hk (fun r _ => k)
end AWE
end
section
theorem lkX4_24 : ab_LK RX4 24 4 0 := ⟨RX4, TX4, 6, rfl, by decide, by decide, by decide, rfl, bw_mem 134 (by decide +kernel) (by decide +kernel)⟩
theorem lkX4_11 : ab_LK RX4 11 4 2 := ⟨RX4, TX4, 6, rfl, by decide, by decide, by decide, rfl, bw_mem 142 (by decide +kernel) (by decide +kernel)⟩
theorem lp4_0 : ab_LP 4 0 .int := ⟨RX4, TX4, 6, tyX4, rfl, by decide, rfl, by decide +kernel, tyX4_ok, nmX4⟩
theorem csX10_79 : ab_CS RX10 79 yX4_isWorth cX4_isWorth 1 (some .boolean) 1 := ⟨⟨bw_mem 435 (by decide +kernel) (by decide +kernel), bw_mem 436 (by decide +kernel) (by decide +kernel), bw_mem 102 (by decide +kernel) (by decide +kernel), bw_mem 437 (by decide +kernel) (by decide +kernel)⟩, by decide +kernel, by decide⟩
theorem lkX10_10 : ab_LK RX10 10 10 0 := ⟨RX10, TX10, 10, rfl, by decide, by decide, by decide, rfl, bw_mem 400 (by decide +kernel) (by decide +kernel)⟩
theorem cvX10_83 : ab_CV RX10 83 yX4_addPlayer cX4_addPlayer 2 (some .int) 1 := ⟨⟨bw_mem 438 (by decide +kernel) (by decide +kernel), bw_mem 439 (by decide +kernel) (by decide +kernel), bw_mem 440 (by decide +kernel) (by decide +kernel), bw_mem 102 (by decide +kernel) (by decide +kernel), bw_mem 441 (by decide +kernel) (by decide +kernel)⟩, by decide +kernel, by decide⟩
theorem lkX4_28 : ab_LK RX4 28 4 1 := ⟨RX4, TX4, 6, rfl, by decide, by decide, by decide, rfl, bw_mem 139 (by decide +kernel) (by decide +kernel)⟩
theorem lkX4_15 : ab_LK RX4 15 4 3 := ⟨RX4, TX4, 6, rfl, by decide, by decide, by decide, rfl, bw_mem 146 (by decide +kernel) (by decide +kernel)⟩
theorem lkX4_21 : ab_LK RX4 21 4 5 := ⟨RX4, TX4, 6, rfl, by decide, by decide, by decide, rfl, bw_mem 156 (by decide +kernel) (by decide +kernel)⟩
def f_X4_isWorth (v0 : Int32) : Option Int32 := (if v0 < 0 then (some (0 : Int32)) else (if (99 : Int32) < v0 then (some (0 : Int32)) else (some (1 : Int32))))
set_option maxRecDepth 100000 in
set_option maxHeartbeats 4000000 in
theorem w_X4_isWorth {G : GW} {E : EE} (hG : ab_ok G) (B : Bx G E RX4 cX4_isWorth 1 2 (some .boolean)) (v0 : Int32) (M : Mem) : AWo G E cX4_isWorth 1 (ab_Q G E (embRI M)) 0 [(0, .int v0)] [] M (f_X4_isWorth v0) := by
  unfold f_X4_isWorth
  refine aw_iload_n (k0 := 0) B 0 (by decide +kernel) rfl rfl ?_
  refine aw_if_lt (off := 13) B 14 (by decide +kernel) (by decide) (fun _ => ?_) (fun _ => ?_)
  · refine aw_iconst (n := 0) (v := (0 : Int32)) B (by decide +kernel) (by decide) ?_
    exact aw_zreturnK B (by decide +kernel) rfl (by decide)
  · refine aw_iload_n (k0 := 0) B 0 (by decide +kernel) rfl rfl ?_
    refine aw_bipush (n := 99) (v := (99 : Int32)) B (by decide +kernel) (by decide) ?_
    refine aw_icmp_gt (off := 7) B 14 (by decide +kernel) (by decide) (fun _ => ?_) (fun _ => ?_)
    · refine aw_iconst (n := 0) (v := (0 : Int32)) B (by decide +kernel) (by decide) ?_
      exact aw_zreturnK B (by decide +kernel) rfl (by decide)
    · refine aw_iconst (n := 1) (v := (1 : Int32)) B (by decide +kernel) (by decide) ?_
      refine aw_goto (off := 4) B 15 (by decide +kernel) (by decide) ?_
      exact aw_zreturnK B (by decide +kernel) rfl (by decide)
theorem c_X4_isWorth (l : Launch) {G : GW} (hG : ab_ok G) (v0 : Int32) (M : Mem) : AC l G yX4_isWorth cX4_isWorth 1 (some .boolean) 2 [.int v0] M (embRI M) (f_X4_isWorth v0) := AC.of hG (by decide) (Nat.le_of_ble_eq_true rfl) (fun E hE B => by subst hE; exact w_X4_isWorth hG B v0 M)
def f_X4_addPlayer (v1 : Int32) (M : Mem) : Option (Int32 × Mem) := (if (M.1 1 0) < (8 : Int32) then ck (okI 2 (M.1 1 0)) (lt (wI M 2 (M.1 1 0).toNatClampNeg v1) fun M1 => lt (wI M1 1 0 ((M1.1 1 0) + (1 : Int32))) fun M2 => (some (M1.1 1 0, M2))) else (some ((-3 : Int32), M)))
set_option maxRecDepth 100000 in
set_option maxHeartbeats 4000000 in
theorem w_X4_addPlayer {G : GW} {E : EE} (hG : ab_ok G) (B : Bx G E RX4 cX4_addPlayer 2 2 (some .int)) (v1 : Int32) (M : Mem) : AWo G E cX4_addPlayer 2 (ab_Q G E embI) 0 [(0, .ref 1), (1, .int v1)] [] M (f_X4_addPlayer v1 M) := by
  unfold f_X4_addPlayer
  refine aw_aload_n (k0 := 0) B 0 (by decide +kernel) rfl rfl ?_
  refine aw_geti (c := 1) B lkX4_24 (by decide +kernel) rfl ?_
  refine aw_bipush (n := 8) (v := (8 : Int32)) B (by decide +kernel) (by decide) ?_
  refine aw_icmp_lt (off := 6) B 12 (by decide +kernel) (by decide) (fun _ => ?_) (fun _ => ?_)
  · refine aw_aload_n (k0 := 0) B 0 (by decide +kernel) rfl rfl ?_
    refine aw_getr (c := 1) B lkX4_11 (by decide +kernel) rfl (r := 2) rfl ?_
    refine aw_aload_n (k0 := 0) B 0 (by decide +kernel) rfl rfl ?_
    refine aw_geti (c := 1) B lkX4_24 (by decide +kernel) rfl ?_
    refine aw_iload_n (k0 := 1) B 1 (by decide +kernel) rfl rfl ?_
    refine aw_iastore B (by decide +kernel) (fun M1 => ?_)
    refine aw_aload_n (k0 := 0) B 0 (by decide +kernel) rfl rfl ?_
    refine aw_dup B (by decide +kernel) rfl ?_
    refine aw_geti (c := 1) B lkX4_24 (by decide +kernel) rfl ?_
    refine aw_dup_x1 B (by decide +kernel) rfl rfl ?_
    refine aw_iconst (n := 1) (v := (1 : Int32)) B (by decide +kernel) (by decide) ?_
    refine aw_iadd B (by decide +kernel) ?_
    refine aw_puti (c := 1) B lkX4_24 lp4_0 (by decide +kernel) rfl (fun M2 => ?_)
    exact aw_ireturn B (by decide +kernel) rfl
  · refine aw_bipush (n := -3) (v := (-3 : Int32)) B (by decide +kernel) (by decide) ?_
    exact aw_ireturn B (by decide +kernel) rfl
theorem c_X4_addPlayer (l : Launch) {G : GW} (hG : ab_ok G) (v1 : Int32) (M : Mem) : AC l G yX4_addPlayer cX4_addPlayer 2 (some .int) 2 [.ref 1, .int v1] M embI (f_X4_addPlayer v1 M) := AC.of hG (by decide) (Nat.le_of_ble_eq_true rfl) (fun E hE B => by subst hE; exact w_X4_addPlayer hG B v1 M)
def f_X10_player (v1 : Int32) (M : Mem) : Option (Int32 × Mem) := (f_X4_isWorth v1).bind fun x1 => (if x1 = 0 then (some ((-1 : Int32), M)) else bI (f_X4_addPlayer v1 M) fun x3 M4 => (some (x3, M4)))
set_option maxRecDepth 100000 in
set_option maxHeartbeats 4000000 in
theorem w_X10_player {G : GW} {E : EE} (hG : ab_ok G) (B : Bx G E RX10 cX10_player 2 3 (some .int)) (v1 : Int32) (M : Mem) : AWo G E cX10_player 2 (ab_Q G E embI) 0 [(0, .ref 0), (1, .int v1)] [] M (f_X10_player v1 M) := by
  unfold f_X10_player
  refine aw_iload_n (k0 := 1) B 1 (by decide +kernel) rfl rfl ?_
  refine aw_cSR B (c_X4_isWorth (eLa E) hG v1 M) csX10_79 (Nat.le_of_ble_eq_true rfl) rfl (Nat.le_of_ble_eq_true rfl) (by decide +kernel) rfl (fun x1 => ?_)
  refine aw_if_ne (off := 5) B 9 (by decide +kernel) (by decide) (fun _ => ?_) (fun _ => ?_)
  · refine aw_aload_n (k0 := 0) B 0 (by decide +kernel) rfl rfl ?_
    refine aw_getr (c := 0) B lkX10_10 (by decide +kernel) rfl (r := 1) rfl ?_
    refine aw_iload_n (k0 := 1) B 1 (by decide +kernel) rfl rfl ?_
    refine aw_cVI B (c_X4_addPlayer (eLa E) hG v1 M) cvX10_83 rfl rfl (Nat.le_of_ble_eq_true rfl) rfl (Nat.le_of_ble_eq_true rfl) (by decide +kernel) rfl (fun x3 M4 => ?_)
    exact aw_ireturn B (by decide +kernel) rfl
  · refine aw_iconst (n := -1) (v := (-1 : Int32)) B (by decide +kernel) (by decide) ?_
    exact aw_ireturn B (by decide +kernel) rfl
theorem c_X10_player (l : Launch) {G : GW} (hG : ab_ok G) (v1 : Int32) (M : Mem) : AC l G yX10_player cX10_player 2 (some .int) 3 [.ref 0, .int v1] M embI (f_X10_player v1 M) := AC.of hG (by decide) (Nat.le_of_ble_eq_true rfl) (fun E hE B => by subst hE; exact w_X10_player hG B v1 M)
def f_X4_hasPlayer (v1 : Int32) (M : Mem) : Option Int32 := (if v1 < 0 then (some (0 : Int32)) else (if (M.1 1 0) ≤ v1 then (some (0 : Int32)) else (some (1 : Int32))))
set_option maxRecDepth 100000 in
set_option maxHeartbeats 4000000 in
theorem w_X4_hasPlayer {G : GW} {E : EE} (hG : ab_ok G) (B : Bx G E RX4 cX4_hasPlayer 2 2 (some .boolean)) (v1 : Int32) (M : Mem) : AWo G E cX4_hasPlayer 2 (ab_Q G E (embRI M)) 0 [(0, .ref 1), (1, .int v1)] [] M (f_X4_hasPlayer v1 M) := by
  unfold f_X4_hasPlayer
  refine aw_iload_n (k0 := 1) B 1 (by decide +kernel) rfl rfl ?_
  refine aw_if_lt (off := 15) B 16 (by decide +kernel) (by decide) (fun _ => ?_) (fun _ => ?_)
  · refine aw_iconst (n := 0) (v := (0 : Int32)) B (by decide +kernel) (by decide) ?_
    exact aw_zreturnK B (by decide +kernel) rfl (by decide)
  · refine aw_iload_n (k0 := 1) B 1 (by decide +kernel) rfl rfl ?_
    refine aw_aload_n (k0 := 0) B 0 (by decide +kernel) rfl rfl ?_
    refine aw_geti (c := 1) B lkX4_24 (by decide +kernel) rfl ?_
    refine aw_icmp_ge (off := 7) B 16 (by decide +kernel) (by decide) (fun _ => ?_) (fun _ => ?_)
    · refine aw_iconst (n := 0) (v := (0 : Int32)) B (by decide +kernel) (by decide) ?_
      exact aw_zreturnK B (by decide +kernel) rfl (by decide)
    · refine aw_iconst (n := 1) (v := (1 : Int32)) B (by decide +kernel) (by decide) ?_
      refine aw_goto (off := 4) B 17 (by decide +kernel) (by decide) ?_
      exact aw_zreturnK B (by decide +kernel) rfl (by decide)
theorem c_X4_hasPlayer (l : Launch) {G : GW} (hG : ab_ok G) (v1 : Int32) (M : Mem) : AC l G yX4_hasPlayer cX4_hasPlayer 2 (some .boolean) 2 [.ref 1, .int v1] M (embRI M) (f_X4_hasPlayer v1 M) := AC.of hG (by decide) (Nat.le_of_ble_eq_true rfl) (fun E hE B => by subst hE; exact w_X4_hasPlayer hG B v1 M)
def f_X4_wonBy_b31 (k4 : Int32 → Int32 → Int32 → Option Int32) (M : Mem) (v1 : Int32) (v2 : Int32) (v3 : Int32) : Option Int32 := k4 v1 v2 (v3 + 1)
set_option maxRecDepth 100000 in
set_option maxHeartbeats 4000000 in
theorem w_X4_wonBy_b31 {G : GW} {E : EE} (hG : ab_ok G) (M : Mem) {k4 : Int32 → Int32 → Int32 → Option Int32} (B : Bx G E RX4 cX4_wonBy 4 2 (some .int)) (hk4 : ∀ (v1 : Int32) (v2 : Int32) (v3 : Int32), AWo G E cX4_wonBy 4 (ab_Q G E (embRI M)) 4 [(0, .ref 1), (1, .int v1), (2, .int v2), (3, .int v3)] [] M (k4 v1 v2 v3)) (v1 : Int32) (v2 : Int32) (v3 : Int32) : AWo G E cX4_wonBy 4 (ab_Q G E (embRI M)) 31 [(0, .ref 1), (1, .int v1), (2, .int v2), (3, .int v3)] [] M (f_X4_wonBy_b31 k4 M v1 v2 v3) := by
  unfold f_X4_wonBy_b31
  refine aw_iinc (i := 3) (n := 1) B 3 [(3, .int (v3 + 1)), (0, .ref 1), (1, .int v1), (2, .int v2)] (by decide +kernel) rfl (Nat.le_of_ble_eq_true rfl) (v3 + 1) (ab_inc (by decide)) rfl ?_
  refine aw_goto (off := -30) B 4 (by decide +kernel) (by decide) ?_
  exact aw_sub [1, 2, 3, 0] rfl (hk4 _ _ _)
def f_X4_wonBy_L4 (M : Mem) : Nat → Int32 → Int32 → Int32 → Option Int32
  | 0, _, _, _ => none
  | n + 1, v1, v2, v3 => (if (M.1 1 1) ≤ v3 then (some v2) else ck (okI 3 v3) ((if (M.1 3 v3.toNatClampNeg) = v1 then ck (okI 5 v3) (lt (v2 + (M.1 5 v3.toNatClampNeg)) fun x1 => f_X4_wonBy_b31 (fun a0 a1 a2 => f_X4_wonBy_L4 M n a0 a1 a2) M v1 x1 v3) else f_X4_wonBy_b31 (fun a0 a1 a2 => f_X4_wonBy_L4 M n a0 a1 a2) M v1 v2 v3)))
set_option maxRecDepth 100000 in
set_option maxHeartbeats 4000000 in
theorem w_X4_wonBy_L4 {G : GW} {E : EE} (hG : ab_ok G) (M : Mem) (B : Bx G E RX4 cX4_wonBy 4 2 (some .int)) : ∀ (n : Nat) (v1 : Int32) (v2 : Int32) (v3 : Int32), AWo G E cX4_wonBy 4 (ab_Q G E (embRI M)) 4 [(0, .ref 1), (1, .int v1), (2, .int v2), (3, .int v3)] [] M (f_X4_wonBy_L4 M n v1 v2 v3) := by
  intro n
  induction n with
  | zero => intro _ _ _; exact aw_none
  | succ n ih =>
    intro v1 v2 v3
    rw [f_X4_wonBy_L4]
    refine aw_iload_n (k0 := 3) B 3 (by decide +kernel) rfl rfl ?_
    refine aw_aload_n (k0 := 0) B 0 (by decide +kernel) rfl rfl ?_
    refine aw_geti (c := 1) B lkX4_28 (by decide +kernel) rfl ?_
    refine aw_icmp_ge (off := 28) B 37 (by decide +kernel) (by decide) (fun _ => ?_) (fun _ => ?_)
    · refine aw_iload_n (k0 := 2) B 2 (by decide +kernel) rfl rfl ?_
      exact aw_ireturn B (by decide +kernel) rfl
    · refine aw_aload_n (k0 := 0) B 0 (by decide +kernel) rfl rfl ?_
      refine aw_getr (c := 1) B lkX4_15 (by decide +kernel) rfl (r := 3) rfl ?_
      refine aw_iload_n (k0 := 3) B 3 (by decide +kernel) rfl rfl ?_
      refine aw_iaload B (by decide +kernel) ?_
      refine aw_iload_n (k0 := 1) B 1 (by decide +kernel) rfl rfl ?_
      refine aw_icmp_ne (off := 12) B 31 (by decide +kernel) (by decide) (fun _ => ?_) (fun _ => ?_)
      · exact w_X4_wonBy_b31 hG M B ih _ _ _
      · refine aw_iload_n (k0 := 2) B 2 (by decide +kernel) rfl rfl ?_
        refine aw_aload_n (k0 := 0) B 0 (by decide +kernel) rfl rfl ?_
        refine aw_getr (c := 1) B lkX4_21 (by decide +kernel) rfl (r := 5) rfl ?_
        refine aw_iload_n (k0 := 3) B 3 (by decide +kernel) rfl rfl ?_
        refine aw_iaload B (by decide +kernel) ?_
        refine aw_iadd B (by decide +kernel) ?_
        refine aw_ltI (fun x1 => ?_)
        refine aw_istore_n (k0 := 2) B [(2, .int x1), (0, .ref 1), (1, .int v1), (3, .int v3)] (by decide +kernel) rfl (Nat.le_of_ble_eq_true rfl) rfl ?_
        exact aw_sub [1, 2, 0, 3] rfl (w_X4_wonBy_b31 hG M B ih _ _ _)
def f_X4_wonBy (v1 : Int32) (M : Mem) : Option Int32 := f_X4_wonBy_L4 M FU v1 (0 : Int32) (0 : Int32)
set_option maxRecDepth 100000 in
set_option maxHeartbeats 4000000 in
theorem w_X4_wonBy {G : GW} {E : EE} (hG : ab_ok G) (B : Bx G E RX4 cX4_wonBy 4 2 (some .int)) (v1 : Int32) (M : Mem) : AWo G E cX4_wonBy 4 (ab_Q G E (embRI M)) 0 [(0, .ref 1), (1, .int v1)] [] M (f_X4_wonBy v1 M) := by
  unfold f_X4_wonBy
  refine aw_iconst (n := 0) (v := (0 : Int32)) B (by decide +kernel) (by decide) ?_
  refine aw_istore_n (k0 := 2) B [(2, .int (0 : Int32)), (0, .ref 1), (1, .int v1)] (by decide +kernel) rfl (Nat.le_of_ble_eq_true rfl) rfl ?_
  refine aw_iconst (n := 0) (v := (0 : Int32)) B (by decide +kernel) (by decide) ?_
  refine aw_istore_n (k0 := 3) B [(3, .int (0 : Int32)), (2, .int (0 : Int32)), (0, .ref 1), (1, .int v1)] (by decide +kernel) rfl (Nat.le_of_ble_eq_true rfl) rfl ?_
  exact aw_sub [2, 3, 1, 0] rfl (w_X4_wonBy_L4 hG M B FU _ _ _)
theorem c_X4_wonBy (l : Launch) {G : GW} (hG : ab_ok G) (v1 : Int32) (M : Mem) : AC l G yX4_wonBy cX4_wonBy 4 (some .int) 2 [.ref 1, .int v1] M (embRI M) (f_X4_wonBy v1 M) := AC.of hG (by decide) (Nat.le_of_ble_eq_true rfl) (fun E hE B => by subst hE; exact w_X4_wonBy hG B v1 M)
end
