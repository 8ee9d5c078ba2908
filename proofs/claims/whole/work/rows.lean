section
-- ===== PART A: goes FIRST, ahead of the names: the tables' words, and 'selects' of the private methods out of them =====
/-- a private method of a class that the tables say can be made, by its rows of tables_1 -/
def lw_okq (q : MethodName × Nat) : Prop := (q.1.cls ≠ "java/lang/invoke/MethodHandle" ∧ q.1.cls ≠ "java/lang/invoke/VarHandle") ∧ Cond.instantiable q.1.cls q.2 ∈ tables_1 ∧ Cond.privateMethod q.1 ∈ tables_1 ∧ Cond.instanceMethod q.1 ∈ tables_1
theorem lw_p0 : lw_okq (⟨"RoundPoint$Tape", "readMinute", "(I)I"⟩, 6) := ⟨⟨by decide +kernel, by decide +kernel⟩, List.mem_of_getElem? (i := 23) (by decide +kernel), List.mem_of_getElem? (i := 357) (by decide +kernel), List.mem_of_getElem? (i := 358) (by decide +kernel)⟩
theorem lw_p1 : lw_okq (⟨"RoundPoint$Tape", "readNumber", "(I)I"⟩, 6) := ⟨⟨by decide +kernel, by decide +kernel⟩, List.mem_of_getElem? (i := 23) (by decide +kernel), List.mem_of_getElem? (i := 361) (by decide +kernel), List.mem_of_getElem? (i := 362) (by decide +kernel)⟩
theorem lw_p2 : lw_okq (⟨"RoundPoint$Tape", "digitIsNext", "()Z"⟩, 6) := ⟨⟨by decide +kernel, by decide +kernel⟩, List.mem_of_getElem? (i := 23) (by decide +kernel), List.mem_of_getElem? (i := 365) (by decide +kernel), List.mem_of_getElem? (i := 366) (by decide +kernel)⟩
theorem lw_p3 : lw_okq (⟨"RoundPoint$Tape", "readHeight", "()I"⟩, 6) := ⟨⟨by decide +kernel, by decide +kernel⟩, List.mem_of_getElem? (i := 23) (by decide +kernel), List.mem_of_getElem? (i := 369) (by decide +kernel), List.mem_of_getElem? (i := 370) (by decide +kernel)⟩
theorem lw_p4 : lw_okq (⟨"RoundPoint", "isPair", "(I)Z"⟩, 10) := ⟨⟨by decide +kernel, by decide +kernel⟩, List.mem_of_getElem? (i := 15) (by decide +kernel), List.mem_of_getElem? (i := 421) (by decide +kernel), List.mem_of_getElem? (i := 422) (by decide +kernel)⟩
theorem lw_p5 : lw_okq (⟨"RoundPoint", "isPlace", "(I)Z"⟩, 10) := ⟨⟨by decide +kernel, by decide +kernel⟩, List.mem_of_getElem? (i := 15) (by decide +kernel), List.mem_of_getElem? (i := 425) (by decide +kernel), List.mem_of_getElem? (i := 426) (by decide +kernel)⟩
theorem lw_p6 : lw_okq (⟨"RoundPoint$Changes", "forgetOldest", "()V"⟩, 7) := ⟨⟨by decide +kernel, by decide +kernel⟩, List.mem_of_getElem? (i := 231) (by decide +kernel), List.mem_of_getElem? (i := 445) (by decide +kernel), List.mem_of_getElem? (i := 446) (by decide +kernel)⟩
theorem lw_p7 : lw_okq (⟨"RoundPoint", "isWay", "(I)Z"⟩, 10) := ⟨⟨by decide +kernel, by decide +kernel⟩, List.mem_of_getElem? (i := 15) (by decide +kernel), List.mem_of_getElem? (i := 454) (by decide +kernel), List.mem_of_getElem? (i := 455) (by decide +kernel)⟩
theorem lw_p8 : lw_okq (⟨"RoundPoint", "isSortAndTide", "(I)Z"⟩, 10) := ⟨⟨by decide +kernel, by decide +kernel⟩, List.mem_of_getElem? (i := 15) (by decide +kernel), List.mem_of_getElem? (i := 481) (by decide +kernel), List.mem_of_getElem? (i := 482) (by decide +kernel)⟩
theorem lw_p9 : lw_okq (⟨"RoundPoint", "isWinds", "(I)Z"⟩, 10) := ⟨⟨by decide +kernel, by decide +kernel⟩, List.mem_of_getElem? (i := 15) (by decide +kernel), List.mem_of_getElem? (i := 485) (by decide +kernel), List.mem_of_getElem? (i := 486) (by decide +kernel)⟩
theorem lw_p10 : lw_okq (⟨"RoundPoint$Sea", "raise", "(II)V"⟩, 5) := ⟨⟨by decide +kernel, by decide +kernel⟩, List.mem_of_getElem? (i := 148) (by decide +kernel), List.mem_of_getElem? (i := 501) (by decide +kernel), List.mem_of_getElem? (i := 502) (by decide +kernel)⟩
theorem lw_p11 : lw_okq (⟨"RoundPoint", "isFrom", "(I)Z"⟩, 10) := ⟨⟨by decide +kernel, by decide +kernel⟩, List.mem_of_getElem? (i := 15) (by decide +kernel), List.mem_of_getElem? (i := 520) (by decide +kernel), List.mem_of_getElem? (i := 521) (by decide +kernel)⟩
theorem lw_p12 : lw_okq (⟨"RoundPoint$Search", "spread", "([JIJI)I"⟩, 7) := ⟨⟨by decide +kernel, by decide +kernel⟩, List.mem_of_getElem? (i := 171) (by decide +kernel), List.mem_of_getElem? (i := 536) (by decide +kernel), List.mem_of_getElem? (i := 537) (by decide +kernel)⟩
theorem lw_p13 : lw_okq (⟨"RoundPoint$Search", "waiting", "(I)J"⟩, 7) := ⟨⟨by decide +kernel, by decide +kernel⟩, List.mem_of_getElem? (i := 171) (by decide +kernel), List.mem_of_getElem? (i := 544) (by decide +kernel), List.mem_of_getElem? (i := 545) (by decide +kernel)⟩
theorem lw_p14 : lw_okq (⟨"RoundPoint$Search", "leave", "([JII)V"⟩, 7) := ⟨⟨by decide +kernel, by decide +kernel⟩, List.mem_of_getElem? (i := 171) (by decide +kernel), List.mem_of_getElem? (i := 549) (by decide +kernel), List.mem_of_getElem? (i := 550) (by decide +kernel)⟩
theorem lw_p15 : lw_okq (⟨"RoundPoint$Search", "goodToLeave", "(II)J"⟩, 7) := ⟨⟨by decide +kernel, by decide +kernel⟩, List.mem_of_getElem? (i := 171) (by decide +kernel), List.mem_of_getElem? (i := 563) (by decide +kernel), List.mem_of_getElem? (i := 564) (by decide +kernel)⟩
def lw_privs_1 : List (MethodName × Nat) := [(⟨"RoundPoint$Tape", "readMinute", "(I)I"⟩, 6), (⟨"RoundPoint$Tape", "readNumber", "(I)I"⟩, 6), (⟨"RoundPoint$Tape", "digitIsNext", "()Z"⟩, 6), (⟨"RoundPoint$Tape", "readHeight", "()I"⟩, 6), (⟨"RoundPoint", "isPair", "(I)Z"⟩, 10), (⟨"RoundPoint", "isPlace", "(I)Z"⟩, 10), (⟨"RoundPoint$Changes", "forgetOldest", "()V"⟩, 7), (⟨"RoundPoint", "isWay", "(I)Z"⟩, 10), (⟨"RoundPoint", "isSortAndTide", "(I)Z"⟩, 10), (⟨"RoundPoint", "isWinds", "(I)Z"⟩, 10), (⟨"RoundPoint$Sea", "raise", "(II)V"⟩, 5), (⟨"RoundPoint", "isFrom", "(I)Z"⟩, 10), (⟨"RoundPoint$Search", "spread", "([JIJI)I"⟩, 7), (⟨"RoundPoint$Search", "waiting", "(I)J"⟩, 7), (⟨"RoundPoint$Search", "leave", "([JII)V"⟩, 7), (⟨"RoundPoint$Search", "goodToLeave", "(II)J"⟩, 7)]
theorem lw_r1 : ∀ q ∈ lw_privs_1, lw_okq q := List.forall_mem_cons.mpr ⟨lw_p0, List.forall_mem_cons.mpr ⟨lw_p1, List.forall_mem_cons.mpr ⟨lw_p2, List.forall_mem_cons.mpr ⟨lw_p3, List.forall_mem_cons.mpr ⟨lw_p4, List.forall_mem_cons.mpr ⟨lw_p5, List.forall_mem_cons.mpr ⟨lw_p6, List.forall_mem_cons.mpr ⟨lw_p7, List.forall_mem_cons.mpr ⟨lw_p8, List.forall_mem_cons.mpr ⟨lw_p9, List.forall_mem_cons.mpr ⟨lw_p10, List.forall_mem_cons.mpr ⟨lw_p11, List.forall_mem_cons.mpr ⟨lw_p12, List.forall_mem_cons.mpr ⟨lw_p13, List.forall_mem_cons.mpr ⟨lw_p14, List.forall_mem_cons.mpr ⟨lw_p15, fun _ h => absurd h List.not_mem_nil⟩⟩⟩⟩⟩⟩⟩⟩⟩⟩⟩⟩⟩⟩⟩⟩
theorem lw_p16 : lw_okq (⟨"RoundPoint", "bestSet", "(III)I"⟩, 10) := ⟨⟨by decide +kernel, by decide +kernel⟩, List.mem_of_getElem? (i := 15) (by decide +kernel), List.mem_of_getElem? (i := 571) (by decide +kernel), List.mem_of_getElem? (i := 572) (by decide +kernel)⟩
theorem lw_p17 : lw_okq (⟨"RoundPoint", "reachedByDark", "(IIII)Z"⟩, 10) := ⟨⟨by decide +kernel, by decide +kernel⟩, List.mem_of_getElem? (i := 15) (by decide +kernel), List.mem_of_getElem? (i := 575) (by decide +kernel), List.mem_of_getElem? (i := 576) (by decide +kernel)⟩
theorem lw_p18 : lw_okq (⟨"RoundPoint", "likeliestUntried", "(II)I"⟩, 10) := ⟨⟨by decide +kernel, by decide +kernel⟩, List.mem_of_getElem? (i := 15) (by decide +kernel), List.mem_of_getElem? (i := 579) (by decide +kernel), List.mem_of_getElem? (i := 580) (by decide +kernel)⟩
theorem lw_p19 : lw_okq (⟨"RoundPoint", "soonOrDay", "(II)I"⟩, 10) := ⟨⟨by decide +kernel, by decide +kernel⟩, List.mem_of_getElem? (i := 15) (by decide +kernel), List.mem_of_getElem? (i := 609) (by decide +kernel), List.mem_of_getElem? (i := 610) (by decide +kernel)⟩
theorem lw_p20 : lw_okq (⟨"RoundPoint", "soonLifted", "(IIII)I"⟩, 10) := ⟨⟨by decide +kernel, by decide +kernel⟩, List.mem_of_getElem? (i := 15) (by decide +kernel), List.mem_of_getElem? (i := 617) (by decide +kernel), List.mem_of_getElem? (i := 618) (by decide +kernel)⟩
theorem lw_p21 : lw_okq (⟨"RoundPoint", "isMove", "(I)Z"⟩, 10) := ⟨⟨by decide +kernel, by decide +kernel⟩, List.mem_of_getElem? (i := 15) (by decide +kernel), List.mem_of_getElem? (i := 633) (by decide +kernel), List.mem_of_getElem? (i := 634) (by decide +kernel)⟩
theorem lw_p22 : lw_okq (⟨"RoundPoint$Plan", "stay", "(I)Z"⟩, 7) := ⟨⟨by decide +kernel, by decide +kernel⟩, List.mem_of_getElem? (i := 200) (by decide +kernel), List.mem_of_getElem? (i := 664) (by decide +kernel), List.mem_of_getElem? (i := 665) (by decide +kernel)⟩
theorem lw_p23 : lw_okq (⟨"RoundPoint$Plan", "follow", "(II)Z"⟩, 7) := ⟨⟨by decide +kernel, by decide +kernel⟩, List.mem_of_getElem? (i := 200) (by decide +kernel), List.mem_of_getElem? (i := 668) (by decide +kernel), List.mem_of_getElem? (i := 669) (by decide +kernel)⟩
theorem lw_p24 : lw_okq (⟨"RoundPoint$Plan", "leadsOn", "(I)Z"⟩, 7) := ⟨⟨by decide +kernel, by decide +kernel⟩, List.mem_of_getElem? (i := 200) (by decide +kernel), List.mem_of_getElem? (i := 672) (by decide +kernel), List.mem_of_getElem? (i := 673) (by decide +kernel)⟩
theorem lw_p25 : lw_okq (⟨"RoundPoint", "marksCanHaveBeen", "()Z"⟩, 10) := ⟨⟨by decide +kernel, by decide +kernel⟩, List.mem_of_getElem? (i := 15) (by decide +kernel), List.mem_of_getElem? (i := 699) (by decide +kernel), List.mem_of_getElem? (i := 700) (by decide +kernel)⟩
theorem lw_p26 : lw_okq (⟨"RoundPoint$Bodies", "own", "(III)I"⟩, 5) := ⟨⟨by decide +kernel, by decide +kernel⟩, List.mem_of_getElem? (i := 261) (by decide +kernel), List.mem_of_getElem? (i := 744) (by decide +kernel), List.mem_of_getElem? (i := 745) (by decide +kernel)⟩
theorem lw_p27 : lw_okq (⟨"RoundPoint$Bodies", "from", "(IIII)I"⟩, 5) := ⟨⟨by decide +kernel, by decide +kernel⟩, List.mem_of_getElem? (i := 261) (by decide +kernel), List.mem_of_getElem? (i := 748) (by decide +kernel), List.mem_of_getElem? (i := 749) (by decide +kernel)⟩
theorem lw_p28 : lw_okq (⟨"RoundPoint$Bodies", "run", "(III)I"⟩, 5) := ⟨⟨by decide +kernel, by decide +kernel⟩, List.mem_of_getElem? (i := 261) (by decide +kernel), List.mem_of_getElem? (i := 756) (by decide +kernel), List.mem_of_getElem? (i := 757) (by decide +kernel)⟩
theorem lw_p29 : lw_okq (⟨"RoundPoint$Bodies", "note", "(I)V"⟩, 5) := ⟨⟨by decide +kernel, by decide +kernel⟩, List.mem_of_getElem? (i := 261) (by decide +kernel), List.mem_of_getElem? (i := 760) (by decide +kernel), List.mem_of_getElem? (i := 761) (by decide +kernel)⟩
theorem lw_p30 : lw_okq (⟨"RoundPoint", "refusalOfElement", "(II)I"⟩, 10) := ⟨⟨by decide +kernel, by decide +kernel⟩, List.mem_of_getElem? (i := 15) (by decide +kernel), List.mem_of_getElem? (i := 791) (by decide +kernel), List.mem_of_getElem? (i := 792) (by decide +kernel)⟩
theorem lw_p31 : lw_okq (⟨"RoundPointModel", "readPoints", "()Z"⟩, 54) := ⟨⟨by decide +kernel, by decide +kernel⟩, List.mem_of_getElem? (i := 824) (by decide +kernel), List.mem_of_getElem? (i := 1016) (by decide +kernel), List.mem_of_getElem? (i := 1017) (by decide +kernel)⟩
def lw_privs_2 : List (MethodName × Nat) := [(⟨"RoundPoint", "bestSet", "(III)I"⟩, 10), (⟨"RoundPoint", "reachedByDark", "(IIII)Z"⟩, 10), (⟨"RoundPoint", "likeliestUntried", "(II)I"⟩, 10), (⟨"RoundPoint", "soonOrDay", "(II)I"⟩, 10), (⟨"RoundPoint", "soonLifted", "(IIII)I"⟩, 10), (⟨"RoundPoint", "isMove", "(I)Z"⟩, 10), (⟨"RoundPoint$Plan", "stay", "(I)Z"⟩, 7), (⟨"RoundPoint$Plan", "follow", "(II)Z"⟩, 7), (⟨"RoundPoint$Plan", "leadsOn", "(I)Z"⟩, 7), (⟨"RoundPoint", "marksCanHaveBeen", "()Z"⟩, 10), (⟨"RoundPoint$Bodies", "own", "(III)I"⟩, 5), (⟨"RoundPoint$Bodies", "from", "(IIII)I"⟩, 5), (⟨"RoundPoint$Bodies", "run", "(III)I"⟩, 5), (⟨"RoundPoint$Bodies", "note", "(I)V"⟩, 5), (⟨"RoundPoint", "refusalOfElement", "(II)I"⟩, 10), (⟨"RoundPointModel", "readPoints", "()Z"⟩, 54)]
theorem lw_r2 : ∀ q ∈ lw_privs_2, lw_okq q := List.forall_mem_cons.mpr ⟨lw_p16, List.forall_mem_cons.mpr ⟨lw_p17, List.forall_mem_cons.mpr ⟨lw_p18, List.forall_mem_cons.mpr ⟨lw_p19, List.forall_mem_cons.mpr ⟨lw_p20, List.forall_mem_cons.mpr ⟨lw_p21, List.forall_mem_cons.mpr ⟨lw_p22, List.forall_mem_cons.mpr ⟨lw_p23, List.forall_mem_cons.mpr ⟨lw_p24, List.forall_mem_cons.mpr ⟨lw_p25, List.forall_mem_cons.mpr ⟨lw_p26, List.forall_mem_cons.mpr ⟨lw_p27, List.forall_mem_cons.mpr ⟨lw_p28, List.forall_mem_cons.mpr ⟨lw_p29, List.forall_mem_cons.mpr ⟨lw_p30, List.forall_mem_cons.mpr ⟨lw_p31, fun _ h => absurd h List.not_mem_nil⟩⟩⟩⟩⟩⟩⟩⟩⟩⟩⟩⟩⟩⟩⟩⟩
theorem lw_p32 : lw_okq (⟨"RoundPointModel", "number", "(III)I"⟩, 54) := ⟨⟨by decide +kernel, by decide +kernel⟩, List.mem_of_getElem? (i := 824) (by decide +kernel), List.mem_of_getElem? (i := 1020) (by decide +kernel), List.mem_of_getElem? (i := 1021) (by decide +kernel)⟩
theorem lw_p33 : lw_okq (⟨"RoundPointModel", "byteAt", "()I"⟩, 54) := ⟨⟨by decide +kernel, by decide +kernel⟩, List.mem_of_getElem? (i := 824) (by decide +kernel), List.mem_of_getElem? (i := 1024) (by decide +kernel), List.mem_of_getElem? (i := 1025) (by decide +kernel)⟩
theorem lw_p34 : lw_okq (⟨"RoundPointModel", "isTide", "(I)Z"⟩, 54) := ⟨⟨by decide +kernel, by decide +kernel⟩, List.mem_of_getElem? (i := 824) (by decide +kernel), List.mem_of_getElem? (i := 1040) (by decide +kernel), List.mem_of_getElem? (i := 1041) (by decide +kernel)⟩
theorem lw_p35 : lw_okq (⟨"RoundPointModel", "isWind", "(I)Z"⟩, 54) := ⟨⟨by decide +kernel, by decide +kernel⟩, List.mem_of_getElem? (i := 824) (by decide +kernel), List.mem_of_getElem? (i := 1044) (by decide +kernel), List.mem_of_getElem? (i := 1045) (by decide +kernel)⟩
theorem lw_p36 : lw_okq (⟨"RoundPointModel", "seaAt", "(III)I"⟩, 54) := ⟨⟨by decide +kernel, by decide +kernel⟩, List.mem_of_getElem? (i := 824) (by decide +kernel), List.mem_of_getElem? (i := 1052) (by decide +kernel), List.mem_of_getElem? (i := 1053) (by decide +kernel)⟩
theorem lw_p37 : lw_okq (⟨"RoundPointModel", "tideAt", "(II)I"⟩, 54) := ⟨⟨by decide +kernel, by decide +kernel⟩, List.mem_of_getElem? (i := 824) (by decide +kernel), List.mem_of_getElem? (i := 1056) (by decide +kernel), List.mem_of_getElem? (i := 1057) (by decide +kernel)⟩
theorem lw_p38 : lw_okq (⟨"RoundPointModel", "areTwo", "(I)Z"⟩, 54) := ⟨⟨by decide +kernel, by decide +kernel⟩, List.mem_of_getElem? (i := 824) (by decide +kernel), List.mem_of_getElem? (i := 1070) (by decide +kernel), List.mem_of_getElem? (i := 1071) (by decide +kernel)⟩
theorem lw_p39 : lw_okq (⟨"RoundPointModel", "isPlace", "(I)Z"⟩, 54) := ⟨⟨by decide +kernel, by decide +kernel⟩, List.mem_of_getElem? (i := 824) (by decide +kernel), List.mem_of_getElem? (i := 1074) (by decide +kernel), List.mem_of_getElem? (i := 1075) (by decide +kernel)⟩
theorem lw_p40 : lw_okq (⟨"RoundPointModel", "becomes", "(II)I"⟩, 54) := ⟨⟨by decide +kernel, by decide +kernel⟩, List.mem_of_getElem? (i := 824) (by decide +kernel), List.mem_of_getElem? (i := 1083) (by decide +kernel), List.mem_of_getElem? (i := 1084) (by decide +kernel)⟩
theorem lw_p41 : lw_okq (⟨"RoundPointModel", "isWay", "(I)Z"⟩, 54) := ⟨⟨by decide +kernel, by decide +kernel⟩, List.mem_of_getElem? (i := 824) (by decide +kernel), List.mem_of_getElem? (i := 1091) (by decide +kernel), List.mem_of_getElem? (i := 1092) (by decide +kernel)⟩
theorem lw_p42 : lw_okq (⟨"RoundPointModel", "takesOf", "(III)I"⟩, 54) := ⟨⟨by decide +kernel, by decide +kernel⟩, List.mem_of_getElem? (i := 824) (by decide +kernel), List.mem_of_getElem? (i := 1113) (by decide +kernel), List.mem_of_getElem? (i := 1114) (by decide +kernel)⟩
theorem lw_p43 : lw_okq (⟨"RoundPointModel", "isSt", "(I)Z"⟩, 54) := ⟨⟨by decide +kernel, by decide +kernel⟩, List.mem_of_getElem? (i := 824) (by decide +kernel), List.mem_of_getElem? (i := 1121) (by decide +kernel), List.mem_of_getElem? (i := 1122) (by decide +kernel)⟩
theorem lw_p44 : lw_okq (⟨"RoundPointModel", "areWinds", "(I)Z"⟩, 54) := ⟨⟨by decide +kernel, by decide +kernel⟩, List.mem_of_getElem? (i := 824) (by decide +kernel), List.mem_of_getElem? (i := 1125) (by decide +kernel), List.mem_of_getElem? (i := 1126) (by decide +kernel)⟩
theorem lw_p45 : lw_okq (⟨"RoundPointModel", "layOut", "(II)V"⟩, 54) := ⟨⟨by decide +kernel, by decide +kernel⟩, List.mem_of_getElem? (i := 824) (by decide +kernel), List.mem_of_getElem? (i := 1130) (by decide +kernel), List.mem_of_getElem? (i := 1131) (by decide +kernel)⟩
theorem lw_p46 : lw_okq (⟨"RoundPointModel", "goes", "(III)Z"⟩, 54) := ⟨⟨by decide +kernel, by decide +kernel⟩, List.mem_of_getElem? (i := 824) (by decide +kernel), List.mem_of_getElem? (i := 1134) (by decide +kernel), List.mem_of_getElem? (i := 1135) (by decide +kernel)⟩
theorem lw_p47 : lw_okq (⟨"RoundPointModel", "isFrom", "(I)Z"⟩, 54) := ⟨⟨by decide +kernel, by decide +kernel⟩, List.mem_of_getElem? (i := 824) (by decide +kernel), List.mem_of_getElem? (i := 1142) (by decide +kernel), List.mem_of_getElem? (i := 1143) (by decide +kernel)⟩
def lw_privs_3 : List (MethodName × Nat) := [(⟨"RoundPointModel", "number", "(III)I"⟩, 54), (⟨"RoundPointModel", "byteAt", "()I"⟩, 54), (⟨"RoundPointModel", "isTide", "(I)Z"⟩, 54), (⟨"RoundPointModel", "isWind", "(I)Z"⟩, 54), (⟨"RoundPointModel", "seaAt", "(III)I"⟩, 54), (⟨"RoundPointModel", "tideAt", "(II)I"⟩, 54), (⟨"RoundPointModel", "areTwo", "(I)Z"⟩, 54), (⟨"RoundPointModel", "isPlace", "(I)Z"⟩, 54), (⟨"RoundPointModel", "becomes", "(II)I"⟩, 54), (⟨"RoundPointModel", "isWay", "(I)Z"⟩, 54), (⟨"RoundPointModel", "takesOf", "(III)I"⟩, 54), (⟨"RoundPointModel", "isSt", "(I)Z"⟩, 54), (⟨"RoundPointModel", "areWinds", "(I)Z"⟩, 54), (⟨"RoundPointModel", "layOut", "(II)V"⟩, 54), (⟨"RoundPointModel", "goes", "(III)Z"⟩, 54), (⟨"RoundPointModel", "isFrom", "(I)Z"⟩, 54)]
theorem lw_r3 : ∀ q ∈ lw_privs_3, lw_okq q := List.forall_mem_cons.mpr ⟨lw_p32, List.forall_mem_cons.mpr ⟨lw_p33, List.forall_mem_cons.mpr ⟨lw_p34, List.forall_mem_cons.mpr ⟨lw_p35, List.forall_mem_cons.mpr ⟨lw_p36, List.forall_mem_cons.mpr ⟨lw_p37, List.forall_mem_cons.mpr ⟨lw_p38, List.forall_mem_cons.mpr ⟨lw_p39, List.forall_mem_cons.mpr ⟨lw_p40, List.forall_mem_cons.mpr ⟨lw_p41, List.forall_mem_cons.mpr ⟨lw_p42, List.forall_mem_cons.mpr ⟨lw_p43, List.forall_mem_cons.mpr ⟨lw_p44, List.forall_mem_cons.mpr ⟨lw_p45, List.forall_mem_cons.mpr ⟨lw_p46, List.forall_mem_cons.mpr ⟨lw_p47, fun _ h => absurd h List.not_mem_nil⟩⟩⟩⟩⟩⟩⟩⟩⟩⟩⟩⟩⟩⟩⟩⟩
theorem lw_p48 : lw_okq (⟨"RoundPointModel", "reach", "(III)V"⟩, 54) := ⟨⟨by decide +kernel, by decide +kernel⟩, List.mem_of_getElem? (i := 824) (by decide +kernel), List.mem_of_getElem? (i := 1146) (by decide +kernel), List.mem_of_getElem? (i := 1147) (by decide +kernel)⟩
theorem lw_p49 : lw_okq (⟨"RoundPointModel", "spread", "(III)V"⟩, 54) := ⟨⟨by decide +kernel, by decide +kernel⟩, List.mem_of_getElem? (i := 824) (by decide +kernel), List.mem_of_getElem? (i := 1153) (by decide +kernel), List.mem_of_getElem? (i := 1154) (by decide +kernel)⟩
theorem lw_p50 : lw_okq (⟨"RoundPointModel", "waits", "(II)Z"⟩, 54) := ⟨⟨by decide +kernel, by decide +kernel⟩, List.mem_of_getElem? (i := 824) (by decide +kernel), List.mem_of_getElem? (i := 1157) (by decide +kernel), List.mem_of_getElem? (i := 1158) (by decide +kernel)⟩
theorem lw_p51 : lw_okq (⟨"RoundPointModel", "otherEnd", "(II)I"⟩, 54) := ⟨⟨by decide +kernel, by decide +kernel⟩, List.mem_of_getElem? (i := 824) (by decide +kernel), List.mem_of_getElem? (i := 1161) (by decide +kernel), List.mem_of_getElem? (i := 1162) (by decide +kernel)⟩
theorem lw_p52 : lw_okq (⟨"RoundPointModel", "soonAt", "(I)I"⟩, 54) := ⟨⟨by decide +kernel, by decide +kernel⟩, List.mem_of_getElem? (i := 824) (by decide +kernel), List.mem_of_getElem? (i := 1165) (by decide +kernel), List.mem_of_getElem? (i := 1166) (by decide +kernel)⟩
theorem lw_p53 : lw_okq (⟨"RoundPointModel", "isAt", "(II)Z"⟩, 54) := ⟨⟨by decide +kernel, by decide +kernel⟩, List.mem_of_getElem? (i := 824) (by decide +kernel), List.mem_of_getElem? (i := 1169) (by decide +kernel), List.mem_of_getElem? (i := 1170) (by decide +kernel)⟩
theorem lw_p54 : lw_okq (⟨"RoundPointModel", "lastFrom", "(III)I"⟩, 54) := ⟨⟨by decide +kernel, by decide +kernel⟩, List.mem_of_getElem? (i := 824) (by decide +kernel), List.mem_of_getElem? (i := 1177) (by decide +kernel), List.mem_of_getElem? (i := 1178) (by decide +kernel)⟩
theorem lw_p55 : lw_okq (⟨"RoundPointModel", "goBack", "(III)V"⟩, 54) := ⟨⟨by decide +kernel, by decide +kernel⟩, List.mem_of_getElem? (i := 824) (by decide +kernel), List.mem_of_getElem? (i := 1181) (by decide +kernel), List.mem_of_getElem? (i := 1182) (by decide +kernel)⟩
theorem lw_p56 : lw_okq (⟨"RoundPointModel", "comesFrom", "(III)Z"⟩, 54) := ⟨⟨by decide +kernel, by decide +kernel⟩, List.mem_of_getElem? (i := 824) (by decide +kernel), List.mem_of_getElem? (i := 1185) (by decide +kernel), List.mem_of_getElem? (i := 1186) (by decide +kernel)⟩
theorem lw_p57 : lw_okq (⟨"RoundPointModel", "allWinds", "()I"⟩, 54) := ⟨⟨by decide +kernel, by decide +kernel⟩, List.mem_of_getElem? (i := 824) (by decide +kernel), List.mem_of_getElem? (i := 1193) (by decide +kernel), List.mem_of_getElem? (i := 1194) (by decide +kernel)⟩
theorem lw_p58 : lw_okq (⟨"RoundPointModel", "chancesOf", "(I)I"⟩, 54) := ⟨⟨by decide +kernel, by decide +kernel⟩, List.mem_of_getElem? (i := 824) (by decide +kernel), List.mem_of_getElem? (i := 1197) (by decide +kernel), List.mem_of_getElem? (i := 1198) (by decide +kernel)⟩
theorem lw_p59 : lw_okq (⟨"RoundPointModel", "byDark", "(IIII)Z"⟩, 54) := ⟨⟨by decide +kernel, by decide +kernel⟩, List.mem_of_getElem? (i := 824) (by decide +kernel), List.mem_of_getElem? (i := 1201) (by decide +kernel), List.mem_of_getElem? (i := 1202) (by decide +kernel)⟩
theorem lw_p60 : lw_okq (⟨"RoundPointModel", "soonOrNever", "(III)I"⟩, 54) := ⟨⟨by decide +kernel, by decide +kernel⟩, List.mem_of_getElem? (i := 824) (by decide +kernel), List.mem_of_getElem? (i := 1217) (by decide +kernel), List.mem_of_getElem? (i := 1218) (by decide +kernel)⟩
theorem lw_p61 : lw_okq (⟨"RoundPointModel", "isSooner", "(IIIIII)Z"⟩, 54) := ⟨⟨by decide +kernel, by decide +kernel⟩, List.mem_of_getElem? (i := 824) (by decide +kernel), List.mem_of_getElem? (i := 1225) (by decide +kernel), List.mem_of_getElem? (i := 1226) (by decide +kernel)⟩
theorem lw_p62 : lw_okq (⟨"RoundPointModel", "goPlan", "(III)I"⟩, 54) := ⟨⟨by decide +kernel, by decide +kernel⟩, List.mem_of_getElem? (i := 824) (by decide +kernel), List.mem_of_getElem? (i := 1257) (by decide +kernel), List.mem_of_getElem? (i := 1258) (by decide +kernel)⟩
theorem lw_p63 : lw_okq (⟨"RoundPointModel", "doesMove", "(I)Z"⟩, 54) := ⟨⟨by decide +kernel, by decide +kernel⟩, List.mem_of_getElem? (i := 824) (by decide +kernel), List.mem_of_getElem? (i := 1261) (by decide +kernel), List.mem_of_getElem? (i := 1262) (by decide +kernel)⟩
def lw_privs_4 : List (MethodName × Nat) := [(⟨"RoundPointModel", "reach", "(III)V"⟩, 54), (⟨"RoundPointModel", "spread", "(III)V"⟩, 54), (⟨"RoundPointModel", "waits", "(II)Z"⟩, 54), (⟨"RoundPointModel", "otherEnd", "(II)I"⟩, 54), (⟨"RoundPointModel", "soonAt", "(I)I"⟩, 54), (⟨"RoundPointModel", "isAt", "(II)Z"⟩, 54), (⟨"RoundPointModel", "lastFrom", "(III)I"⟩, 54), (⟨"RoundPointModel", "goBack", "(III)V"⟩, 54), (⟨"RoundPointModel", "comesFrom", "(III)Z"⟩, 54), (⟨"RoundPointModel", "allWinds", "()I"⟩, 54), (⟨"RoundPointModel", "chancesOf", "(I)I"⟩, 54), (⟨"RoundPointModel", "byDark", "(IIII)Z"⟩, 54), (⟨"RoundPointModel", "soonOrNever", "(III)I"⟩, 54), (⟨"RoundPointModel", "isSooner", "(IIIIII)Z"⟩, 54), (⟨"RoundPointModel", "goPlan", "(III)I"⟩, 54), (⟨"RoundPointModel", "doesMove", "(I)Z"⟩, 54)]
theorem lw_r4 : ∀ q ∈ lw_privs_4, lw_okq q := List.forall_mem_cons.mpr ⟨lw_p48, List.forall_mem_cons.mpr ⟨lw_p49, List.forall_mem_cons.mpr ⟨lw_p50, List.forall_mem_cons.mpr ⟨lw_p51, List.forall_mem_cons.mpr ⟨lw_p52, List.forall_mem_cons.mpr ⟨lw_p53, List.forall_mem_cons.mpr ⟨lw_p54, List.forall_mem_cons.mpr ⟨lw_p55, List.forall_mem_cons.mpr ⟨lw_p56, List.forall_mem_cons.mpr ⟨lw_p57, List.forall_mem_cons.mpr ⟨lw_p58, List.forall_mem_cons.mpr ⟨lw_p59, List.forall_mem_cons.mpr ⟨lw_p60, List.forall_mem_cons.mpr ⟨lw_p61, List.forall_mem_cons.mpr ⟨lw_p62, List.forall_mem_cons.mpr ⟨lw_p63, fun _ h => absurd h List.not_mem_nil⟩⟩⟩⟩⟩⟩⟩⟩⟩⟩⟩⟩⟩⟩⟩⟩
theorem lw_p64 : lw_okq (⟨"RoundPointModel", "isBody", "(I)Z"⟩, 54) := ⟨⟨by decide +kernel, by decide +kernel⟩, List.mem_of_getElem? (i := 824) (by decide +kernel), List.mem_of_getElem? (i := 1294) (by decide +kernel), List.mem_of_getElem? (i := 1295) (by decide +kernel)⟩
theorem lw_p65 : lw_okq (⟨"RoundPointModel", "goesAs", "(II)I"⟩, 54) := ⟨⟨by decide +kernel, by decide +kernel⟩, List.mem_of_getElem? (i := 824) (by decide +kernel), List.mem_of_getElem? (i := 1298) (by decide +kernel), List.mem_of_getElem? (i := 1299) (by decide +kernel)⟩
theorem lw_p66 : lw_okq (⟨"RoundPointModel", "begins", "(I)V"⟩, 54) := ⟨⟨by decide +kernel, by decide +kernel⟩, List.mem_of_getElem? (i := 824) (by decide +kernel), List.mem_of_getElem? (i := 1302) (by decide +kernel), List.mem_of_getElem? (i := 1303) (by decide +kernel)⟩
theorem lw_p67 : lw_okq (⟨"RoundPointModel", "waitsAs", "(II)I"⟩, 54) := ⟨⟨by decide +kernel, by decide +kernel⟩, List.mem_of_getElem? (i := 824) (by decide +kernel), List.mem_of_getElem? (i := 1306) (by decide +kernel), List.mem_of_getElem? (i := 1307) (by decide +kernel)⟩
theorem lw_p68 : lw_okq (⟨"RoundPointModel", "wetsAs", "(II)I"⟩, 54) := ⟨⟨by decide +kernel, by decide +kernel⟩, List.mem_of_getElem? (i := 824) (by decide +kernel), List.mem_of_getElem? (i := 1310) (by decide +kernel), List.mem_of_getElem? (i := 1311) (by decide +kernel)⟩
theorem lw_p69 : lw_okq (⟨"RoundPointModel", "tellsAs", "(II)I"⟩, 54) := ⟨⟨by decide +kernel, by decide +kernel⟩, List.mem_of_getElem? (i := 824) (by decide +kernel), List.mem_of_getElem? (i := 1314) (by decide +kernel), List.mem_of_getElem? (i := 1315) (by decide +kernel)⟩
theorem lw_p70 : lw_okq (⟨"RoundPointModel", "refusal", "(II)I"⟩, 54) := ⟨⟨by decide +kernel, by decide +kernel⟩, List.mem_of_getElem? (i := 824) (by decide +kernel), List.mem_of_getElem? (i := 1334) (by decide +kernel), List.mem_of_getElem? (i := 1335) (by decide +kernel)⟩
theorem lw_p71 : lw_okq (⟨"RoundPointModel", "kindOf", "(I)I"⟩, 54) := ⟨⟨by decide +kernel, by decide +kernel⟩, List.mem_of_getElem? (i := 824) (by decide +kernel), List.mem_of_getElem? (i := 1354) (by decide +kernel), List.mem_of_getElem? (i := 1355) (by decide +kernel)⟩
def lw_privs_5 : List (MethodName × Nat) := [(⟨"RoundPointModel", "isBody", "(I)Z"⟩, 54), (⟨"RoundPointModel", "goesAs", "(II)I"⟩, 54), (⟨"RoundPointModel", "begins", "(I)V"⟩, 54), (⟨"RoundPointModel", "waitsAs", "(II)I"⟩, 54), (⟨"RoundPointModel", "wetsAs", "(II)I"⟩, 54), (⟨"RoundPointModel", "tellsAs", "(II)I"⟩, 54), (⟨"RoundPointModel", "refusal", "(II)I"⟩, 54), (⟨"RoundPointModel", "kindOf", "(I)I"⟩, 54)]
theorem lw_r5 : ∀ q ∈ lw_privs_5, lw_okq q := List.forall_mem_cons.mpr ⟨lw_p64, List.forall_mem_cons.mpr ⟨lw_p65, List.forall_mem_cons.mpr ⟨lw_p66, List.forall_mem_cons.mpr ⟨lw_p67, List.forall_mem_cons.mpr ⟨lw_p68, List.forall_mem_cons.mpr ⟨lw_p69, List.forall_mem_cons.mpr ⟨lw_p70, List.forall_mem_cons.mpr ⟨lw_p71, fun _ h => absurd h List.not_mem_nil⟩⟩⟩⟩⟩⟩⟩⟩
def lw_privs : List (MethodName × Nat) := lw_privs_1 ++ (lw_privs_2 ++ (lw_privs_3 ++ (lw_privs_4 ++ (lw_privs_5))))
def lw_tbl : List Cond := k2_sels lw_privs ++ tables_1
theorem lw_privs_ok : ∀ q ∈ lw_privs, lw_okq q := by
  show ∀ q ∈ lw_privs_1 ++ (lw_privs_2 ++ (lw_privs_3 ++ (lw_privs_4 ++ (lw_privs_5)))), lw_okq q
  exact List.forall_mem_append.mpr ⟨lw_r1, List.forall_mem_append.mpr ⟨lw_r2, List.forall_mem_append.mpr ⟨lw_r3, List.forall_mem_append.mpr ⟨lw_r4, lw_r5⟩⟩⟩⟩
-- ===== end of PART A; then your names; then what follows =====
end
section
def RX0 : String := "RoundPoint$Bodies"
def TX0 : u_T := fun k => match k with
  | 0 => ("RoundPoint$Bodies", "kinds", "[I", true)
  | 1 => ("RoundPoint$Bodies", "count", "I", false)
  | 2 => ("RoundPoint$Bodies", "began", "[I", true)
  | 3 => ("RoundPoint$Bodies", "ran", "I", false)
  | _ => ("RoundPoint$Bodies", "number", "I", false)
def tyX0 : Nat → FieldType := fun k => match k with
  | 0 => .array .int
  | 1 => .int
  | 2 => .array .int
  | 3 => .int
  | _ => .int
abbrev wsX00 : List Cond := u_ws RX0 TX0 5
theorem nmX0 : ∀ a, a < 5 → ∀ b, b < 5 → a ≠ b → (TX0 a).2.1 ≠ (TX0 b).2.1 := by decide +kernel
theorem tyX0_ok : ∀ k, k < 5 → parseFieldDescriptor (TX0 k).2.2.1 = some (tyX0 k) := by decide +kernel
abbrev cX0_init : ByteArray := prog_2_method_1_code
def yX0_init : MethodName := ⟨RX0, "<init>", "()V"⟩
abbrev cX0_add : ByteArray := prog_2_method_2_code
def yX0_add : MethodName := ⟨RX0, "add", "(I)I"⟩
abbrev cX0_isOrUnder : ByteArray := prog_2_method_3_code
def yX0_isOrUnder : MethodName := ⟨RX0, "isOrUnder", "(II)Z"⟩
abbrev cX0_perform : ByteArray := prog_2_method_4_code
def yX0_perform : MethodName := ⟨RX0, "perform", "(III)I"⟩
abbrev cX0_own : ByteArray := prog_2_method_5_code
def yX0_own : MethodName := ⟨RX0, "own", "(III)I"⟩
abbrev cX0_from : ByteArray := prog_2_method_6_code
def yX0_from : MethodName := ⟨RX0, "from", "(IIII)I"⟩
abbrev cX0_note : ByteArray := prog_2_method_7_code
def yX0_note : MethodName := ⟨RX0, "note", "(I)V"⟩
abbrev cX0_run : ByteArray := prog_2_method_8_code
def yX0_run : MethodName := ⟨RX0, "run", "(III)I"⟩
def RX1 : String := "RoundPoint$Changes"
def TX1 : u_T := fun k => match k with
  | 0 => ("RoundPoint$Changes", "coast", "LRoundPoint$Coast;", true)
  | 1 => ("RoundPoint$Changes", "whats", "[I", true)
  | 2 => ("RoundPoint$Changes", "numbers", "[I", true)
  | 3 => ("RoundPoint$Changes", "befores", "[I", true)
  | 4 => ("RoundPoint$Changes", "afters", "[I", true)
  | 5 => ("RoundPoint$Changes", "done", "I", false)
  | _ => ("RoundPoint$Changes", "known", "I", false)
def tyX1 : Nat → FieldType := fun k => match k with
  | 0 => .object "RoundPoint$Coast"
  | 1 => .array .int
  | 2 => .array .int
  | 3 => .array .int
  | 4 => .array .int
  | 5 => .int
  | _ => .int
abbrev wsX10 : List Cond := u_ws RX1 TX1 7
theorem nmX1 : ∀ a, a < 7 → ∀ b, b < 7 → a ≠ b → (TX1 a).2.1 ≠ (TX1 b).2.1 := by decide +kernel
theorem tyX1_ok : ∀ k, k < 7 → parseFieldDescriptor (TX1 k).2.2.1 = some (tyX1 k) := by decide +kernel
abbrev cX1_init : ByteArray := prog_3_method_1_code
def yX1_init : MethodName := ⟨RX1, "<init>", "(LRoundPoint$Coast;)V"⟩
abbrev cX1_tell : ByteArray := prog_3_method_2_code
def yX1_tell : MethodName := ⟨RX1, "tell", "(III)I"⟩
abbrev cX1_forgetOldest : ByteArray := prog_3_method_3_code
def yX1_forgetOldest : MethodName := ⟨RX1, "forgetOldest", "()V"⟩
abbrev cX1_back : ByteArray := prog_3_method_4_code
def yX1_back : MethodName := ⟨RX1, "back", "()Z"⟩
abbrev cX1_again : ByteArray := prog_3_method_5_code
def yX1_again : MethodName := ⟨RX1, "again", "()Z"⟩
def RX2 : String := "RoundPoint$Coast"
def TX2 : u_T := fun k => match k with
  | 0 => ("RoundPoint$Coast", "tides", "I", false)
  | 1 => ("RoundPoint$Coast", "points", "[I", true)
  | 2 => ("RoundPoint$Coast", "pointMinutes", "[I", true)
  | 3 => ("RoundPoint$Coast", "pointHeights", "[I", true)
  | 4 => ("RoundPoint$Coast", "winds", "I", false)
  | 5 => ("RoundPoint$Coast", "lifts", "[I", true)
  | 6 => ("RoundPoint$Coast", "earlies", "[I", true)
  | 7 => ("RoundPoint$Coast", "chances", "[I", true)
  | 8 => ("RoundPoint$Coast", "places", "I", false)
  | 9 => ("RoundPoint$Coast", "safes", "[I", true)
  | 10 => ("RoundPoint$Coast", "ways", "I", false)
  | 11 => ("RoundPoint$Coast", "ones", "[I", true)
  | 12 => ("RoundPoint$Coast", "others", "[I", true)
  | 13 => ("RoundPoint$Coast", "lengths", "[I", true)
  | 14 => ("RoundPoint$Coast", "heights", "[I", true)
  | 15 => ("RoundPoint$Coast", "firstHours", "[I", true)
  | 16 => ("RoundPoint$Coast", "lastHours", "[I", true)
  | 17 => ("RoundPoint$Coast", "hundredths", "[I", true)
  | 18 => ("RoundPoint$Coast", "dawn", "I", false)
  | _ => ("RoundPoint$Coast", "dark", "I", false)
def tyX2 : Nat → FieldType := fun k => match k with
  | 0 => .int
  | 1 => .array .int
  | 2 => .array .int
  | 3 => .array .int
  | 4 => .int
  | 5 => .array .int
  | 6 => .array .int
  | 7 => .array .int
  | 8 => .int
  | 9 => .array .int
  | 10 => .int
  | 11 => .array .int
  | 12 => .array .int
  | 13 => .array .int
  | 14 => .array .int
  | 15 => .array .int
  | 16 => .array .int
  | 17 => .array .int
  | 18 => .int
  | _ => .int
abbrev wsX20 : List Cond := u_ws RX2 TX2 20
theorem nmX2 : ∀ a, a < 20 → ∀ b, b < 20 → a ≠ b → (TX2 a).2.1 ≠ (TX2 b).2.1 := by decide +kernel
theorem tyX2_ok : ∀ k, k < 20 → parseFieldDescriptor (TX2 k).2.2.1 = some (tyX2 k) := by decide +kernel
abbrev cX2_init : ByteArray := prog_4_method_1_code
def yX2_init : MethodName := ⟨RX2, "<init>", "()V"⟩
abbrev cX2_addTide : ByteArray := prog_4_method_2_code
def yX2_addTide : MethodName := ⟨RX2, "addTide", "([I[II)I"⟩
abbrev cX2_addWind : ByteArray := prog_4_method_3_code
def yX2_addWind : MethodName := ⟨RX2, "addWind", "(III)I"⟩
abbrev cX2_addWay : ByteArray := prog_4_method_4_code
def yX2_addWay : MethodName := ⟨RX2, "addWay", "(IIII)I"⟩
abbrev cX2_allWinds : ByteArray := prog_4_method_5_code
def yX2_allWinds : MethodName := ⟨RX2, "allWinds", "()I"⟩
abbrev cX2_chanceOf : ByteArray := prog_4_method_6_code
def yX2_chanceOf : MethodName := ⟨RX2, "chanceOf", "(I)I"⟩
abbrev cX2_thousandths : ByteArray := prog_4_method_7_code
def yX2_thousandths : MethodName := ⟨RX2, "thousandths", "(I)I"⟩
abbrev cX2_taking : ByteArray := prog_4_method_8_code
def yX2_taking : MethodName := ⟨RX2, "taking", "(III)I"⟩
abbrev cX2_tideAt : ByteArray := prog_4_method_9_code
def yX2_tideAt : MethodName := ⟨RX2, "tideAt", "(II)I"⟩
abbrev cX2_seaAt : ByteArray := prog_4_method_10_code
def yX2_seaAt : MethodName := ⟨RX2, "seaAt", "(III)I"⟩
abbrev cX2_rowOf : ByteArray := prog_4_method_11_code
def yX2_rowOf : MethodName := ⟨RX2, "rowOf", "(I)[I"⟩
def RX3 : String := "RoundPoint$Plan"
def TX3 : u_T := fun k => match k with
  | 0 => ("RoundPoint$Plan", "coast", "LRoundPoint$Coast;", true)
  | 1 => ("RoundPoint$Plan", "water", "LRoundPoint$Sea;", true)
  | 2 => ("RoundPoint$Plan", "told", "[I", true)
  | 3 => ("RoundPoint$Plan", "count", "I", false)
  | 4 => ("RoundPoint$Plan", "place", "I", false)
  | 5 => ("RoundPoint$Plan", "minute", "I", false)
  | _ => ("RoundPoint$Plan", "weary", "I", false)
def tyX3 : Nat → FieldType := fun k => match k with
  | 0 => .object "RoundPoint$Coast"
  | 1 => .object "RoundPoint$Sea"
  | 2 => .array .int
  | 3 => .int
  | 4 => .int
  | 5 => .int
  | _ => .int
abbrev wsX30 : List Cond := u_ws RX3 TX3 7
theorem nmX3 : ∀ a, a < 7 → ∀ b, b < 7 → a ≠ b → (TX3 a).2.1 ≠ (TX3 b).2.1 := by decide +kernel
theorem tyX3_ok : ∀ k, k < 7 → parseFieldDescriptor (TX3 k).2.2.1 = some (tyX3 k) := by decide +kernel
abbrev cX3_init : ByteArray := prog_5_method_1_code
def yX3_init : MethodName := ⟨RX3, "<init>", "(LRoundPoint$Coast;LRoundPoint$Sea;)V"⟩
abbrev cX3_add : ByteArray := prog_5_method_2_code
def yX3_add : MethodName := ⟨RX3, "add", "(I)Z"⟩
abbrev cX3_walk : ByteArray := prog_5_method_3_code
def yX3_walk : MethodName := ⟨RX3, "walk", "(II)I"⟩
abbrev cX3_stay : ByteArray := prog_5_method_4_code
def yX3_stay : MethodName := ⟨RX3, "stay", "(I)Z"⟩
abbrev cX3_follow : ByteArray := prog_5_method_5_code
def yX3_follow : MethodName := ⟨RX3, "follow", "(II)Z"⟩
abbrev cX3_leadsOn : ByteArray := prog_5_method_6_code
def yX3_leadsOn : MethodName := ⟨RX3, "leadsOn", "(I)Z"⟩
abbrev cX3_wayGoes : ByteArray := prog_5_method_7_code
def yX3_wayGoes : MethodName := ⟨RX3, "wayGoes", "(IIII)Z"⟩
abbrev cX3_shutIn : ByteArray := prog_5_method_8_code
def yX3_shutIn : MethodName := ⟨RX3, "shutIn", "(I)I"⟩
def RX4 : String := "RoundPoint$Sea"
def TX4 : u_T := fun k => match k with
  | 0 => ("RoundPoint$Sea", "coast", "LRoundPoint$Coast;", true)
  | 1 => ("RoundPoint$Sea", "tideRow", "[I", true)
  | 2 => ("RoundPoint$Sea", "row", "[I", true)
  | 3 => ("RoundPoint$Sea", "tideOfRow", "I", false)
  | _ => ("RoundPoint$Sea", "windsOfRow", "I", false)
def tyX4 : Nat → FieldType := fun k => match k with
  | 0 => .object "RoundPoint$Coast"
  | 1 => .array .int
  | 2 => .array .int
  | 3 => .int
  | _ => .int
abbrev wsX40 : List Cond := u_ws RX4 TX4 5
theorem nmX4 : ∀ a, a < 5 → ∀ b, b < 5 → a ≠ b → (TX4 a).2.1 ≠ (TX4 b).2.1 := by decide +kernel
theorem tyX4_ok : ∀ k, k < 5 → parseFieldDescriptor (TX4 k).2.2.1 = some (tyX4 k) := by decide +kernel
abbrev cX4_init : ByteArray := prog_6_method_1_code
def yX4_init : MethodName := ⟨RX4, "<init>", "(LRoundPoint$Coast;)V"⟩
abbrev cX4_rise : ByteArray := prog_6_method_2_code
def yX4_rise : MethodName := ⟨RX4, "rise", "(II)V"⟩
abbrev cX4_raise : ByteArray := prog_6_method_3_code
def yX4_raise : MethodName := ⟨RX4, "raise", "(II)V"⟩
abbrev cX4_firstAbove : ByteArray := prog_6_method_4_code
def yX4_firstAbove : MethodName := ⟨RX4, "firstAbove", "(II)I"⟩
def RX5 : String := "RoundPoint$Search"
def TX5 : u_T := fun k => match k with
  | 0 => ("RoundPoint$Search", "coast", "LRoundPoint$Coast;", true)
  | 1 => ("RoundPoint$Search", "water", "LRoundPoint$Sea;", true)
  | 2 => ("RoundPoint$Search", "states", "[J", true)
  | 3 => ("RoundPoint$Search", "otherStates", "[J", true)
  | 4 => ("RoundPoint$Search", "taking", "[I", true)
  | 5 => ("RoundPoint$Search", "above", "[I", true)
  | _ => ("RoundPoint$Search", "mayWait", "J", false)
def tyX5 : Nat → FieldType := fun k => match k with
  | 0 => .object "RoundPoint$Coast"
  | 1 => .object "RoundPoint$Sea"
  | 2 => .array .long
  | 3 => .array .long
  | 4 => .array .int
  | 5 => .array .int
  | _ => .long
abbrev wsX50 : List Cond := u_ws RX5 TX5 7
theorem nmX5 : ∀ a, a < 7 → ∀ b, b < 7 → a ≠ b → (TX5 a).2.1 ≠ (TX5 b).2.1 := by decide +kernel
theorem tyX5_ok : ∀ k, k < 7 → parseFieldDescriptor (TX5 k).2.2.1 = some (tyX5 k) := by decide +kernel
abbrev cX5_init : ByteArray := prog_7_method_1_code
def yX5_init : MethodName := ⟨RX5, "<init>", "(LRoundPoint$Coast;LRoundPoint$Sea;)V"⟩
abbrev cX5_prepare : ByteArray := prog_7_method_2_code
def yX5_prepare : MethodName := ⟨RX5, "prepare", "(II)V"⟩
abbrev cX5_barWaiting : ByteArray := prog_7_method_3_code
def yX5_barWaiting : MethodName := ⟨RX5, "barWaiting", "(I)V"⟩
abbrev cX5_soonest : ByteArray := prog_7_method_4_code
def yX5_soonest : MethodName := ⟨RX5, "soonest", "(III)I"⟩
abbrev cX5_isThere : ByteArray := prog_7_method_5_code
def yX5_isThere : MethodName := ⟨RX5, "isThere", "(II)Z"⟩
abbrev cX5_meeting : ByteArray := prog_7_method_6_code
def yX5_meeting : MethodName := ⟨RX5, "meeting", "(II)I"⟩
abbrev cX5_spread : ByteArray := prog_7_method_7_code
def yX5_spread : MethodName := ⟨RX5, "spread", "([JIJI)I"⟩
abbrev cX5_waiting : ByteArray := prog_7_method_8_code
def yX5_waiting : MethodName := ⟨RX5, "waiting", "(I)J"⟩
abbrev cX5_leave : ByteArray := prog_7_method_9_code
def yX5_leave : MethodName := ⟨RX5, "leave", "([JII)V"⟩
abbrev cX5_latest : ByteArray := prog_7_method_10_code
def yX5_latest : MethodName := ⟨RX5, "latest", "(II)I"⟩
abbrev cX5_goodToLeave : ByteArray := prog_7_method_11_code
def yX5_goodToLeave : MethodName := ⟨RX5, "goodToLeave", "(II)J"⟩
def RX6 : String := "RoundPoint$Shelf"
def TX6 : u_T := fun k => match k with
  | 0 => ("RoundPoint$Shelf", "holds", "I", false)
  | 1 => ("RoundPoint$Shelf", "body", "I", false)
  | 2 => ("RoundPoint$Shelf", "elements", "[J", true)
  | _ => ("RoundPoint$Shelf", "length", "I", false)
def tyX6 : Nat → FieldType := fun k => match k with
  | 0 => .int
  | 1 => .int
  | 2 => .array .long
  | _ => .int
abbrev wsX60 : List Cond := u_ws RX6 TX6 4
theorem nmX6 : ∀ a, a < 4 → ∀ b, b < 4 → a ≠ b → (TX6 a).2.1 ≠ (TX6 b).2.1 := by decide +kernel
theorem tyX6_ok : ∀ k, k < 4 → parseFieldDescriptor (TX6 k).2.2.1 = some (tyX6 k) := by decide +kernel
abbrev cX6_init : ByteArray := prog_8_method_1_code
def yX6_init : MethodName := ⟨RX6, "<init>", "()V"⟩
abbrev cX6_holdBody : ByteArray := prog_8_method_2_code
def yX6_holdBody : MethodName := ⟨RX6, "holdBody", "(I)V"⟩
abbrev cX6_holdRow : ByteArray := prog_8_method_3_code
def yX6_holdRow : MethodName := ⟨RX6, "holdRow", "(II)V"⟩
abbrev cX6_has : ByteArray := prog_8_method_4_code
def yX6_has : MethodName := ⟨RX6, "has", "(I)Z"⟩
abbrev cX6_hasRun : ByteArray := prog_8_method_5_code
def yX6_hasRun : MethodName := ⟨RX6, "hasRun", "(II)Z"⟩
abbrev cX6_kept : ByteArray := prog_8_method_6_code
def yX6_kept : MethodName := ⟨RX6, "kept", "(J)J"⟩
def RX7 : String := "RoundPoint$Tape"
def TX7 : u_T := fun k => match k with
  | 0 => ("RoundPoint$Tape", "bytes", "[I", true)
  | 1 => ("RoundPoint$Tape", "length", "I", false)
  | 2 => ("RoundPoint$Tape", "minutes", "[I", true)
  | 3 => ("RoundPoint$Tape", "heights", "[I", true)
  | 4 => ("RoundPoint$Tape", "points", "I", false)
  | _ => ("RoundPoint$Tape", "at", "I", false)
def tyX7 : Nat → FieldType := fun k => match k with
  | 0 => .array .int
  | 1 => .int
  | 2 => .array .int
  | 3 => .array .int
  | 4 => .int
  | _ => .int
abbrev wsX70 : List Cond := u_ws RX7 TX7 6
theorem nmX7 : ∀ a, a < 6 → ∀ b, b < 6 → a ≠ b → (TX7 a).2.1 ≠ (TX7 b).2.1 := by decide +kernel
theorem tyX7_ok : ∀ k, k < 6 → parseFieldDescriptor (TX7 k).2.2.1 = some (tyX7 k) := by decide +kernel
abbrev cX7_init : ByteArray := prog_9_method_1_code
def yX7_init : MethodName := ⟨RX7, "<init>", "()V"⟩
abbrev cX7_add : ByteArray := prog_9_method_2_code
def yX7_add : MethodName := ⟨RX7, "add", "(II)Z"⟩
abbrev cX7_read : ByteArray := prog_9_method_3_code
def yX7_read : MethodName := ⟨RX7, "read", "()I"⟩
abbrev cX7_readMinute : ByteArray := prog_9_method_4_code
def yX7_readMinute : MethodName := ⟨RX7, "readMinute", "(I)I"⟩
abbrev cX7_readHeight : ByteArray := prog_9_method_5_code
def yX7_readHeight : MethodName := ⟨RX7, "readHeight", "()I"⟩
abbrev cX7_readNumber : ByteArray := prog_9_method_6_code
def yX7_readNumber : MethodName := ⟨RX7, "readNumber", "(I)I"⟩
abbrev cX7_digitIsNext : ByteArray := prog_9_method_7_code
def yX7_digitIsNext : MethodName := ⟨RX7, "digitIsNext", "()Z"⟩
def RX8 : String := "RoundPoint"
def TX8 : u_T := fun k => match k with
  | 0 => ("RoundPoint", "tape", "LRoundPoint$Tape;", true)
  | 1 => ("RoundPoint", "coast", "LRoundPoint$Coast;", true)
  | 2 => ("RoundPoint", "water", "LRoundPoint$Sea;", true)
  | 3 => ("RoundPoint", "search", "LRoundPoint$Search;", true)
  | 4 => ("RoundPoint", "plan", "LRoundPoint$Plan;", true)
  | 5 => ("RoundPoint", "changes", "LRoundPoint$Changes;", true)
  | 6 => ("RoundPoint", "bodies", "LRoundPoint$Bodies;", true)
  | 7 => ("RoundPoint", "shelves", "[LRoundPoint$Shelf;", true)
  | 8 => ("RoundPoint", "marks", "[I", true)
  | _ => ("RoundPoint", "markCount", "I", false)
def tyX8 : Nat → FieldType := fun k => match k with
  | 0 => .object "RoundPoint$Tape"
  | 1 => .object "RoundPoint$Coast"
  | 2 => .object "RoundPoint$Sea"
  | 3 => .object "RoundPoint$Search"
  | 4 => .object "RoundPoint$Plan"
  | 5 => .object "RoundPoint$Changes"
  | 6 => .object "RoundPoint$Bodies"
  | 7 => .array (.object "RoundPoint$Shelf")
  | 8 => .array .int
  | _ => .int
abbrev wsX80 : List Cond := u_ws RX8 TX8 10
theorem nmX8 : ∀ a, a < 10 → ∀ b, b < 10 → a ≠ b → (TX8 a).2.1 ≠ (TX8 b).2.1 := by decide +kernel
theorem tyX8_ok : ∀ k, k < 10 → parseFieldDescriptor (TX8 k).2.2.1 = some (tyX8 k) := by decide +kernel
abbrev cX8_init : ByteArray := prog_1_method_1_code
def yX8_init : MethodName := ⟨RX8, "<init>", "()V"⟩
abbrev cX8_feed : ByteArray := prog_1_method_2_code
def yX8_feed : MethodName := ⟨RX8, "feed", "(II)I"⟩
abbrev cX8_tide : ByteArray := prog_1_method_3_code
def yX8_tide : MethodName := ⟨RX8, "tide", "()I"⟩
abbrev cX8_wind : ByteArray := prog_1_method_4_code
def yX8_wind : MethodName := ⟨RX8, "wind", "(III)I"⟩
abbrev cX8_sea : ByteArray := prog_1_method_5_code
def yX8_sea : MethodName := ⟨RX8, "sea", "(III)I"⟩
abbrev cX8_place : ByteArray := prog_1_method_6_code
def yX8_place : MethodName := ⟨RX8, "place", "(I)I"⟩
abbrev cX8_way : ByteArray := prog_1_method_7_code
def yX8_way : MethodName := ⟨RX8, "way", "(II)I"⟩
abbrev cX8_safe : ByteArray := prog_1_method_8_code
def yX8_safe : MethodName := ⟨RX8, "safe", "(II)I"⟩
abbrev cX8_alter : ByteArray := prog_1_method_9_code
def yX8_alter : MethodName := ⟨RX8, "alter", "(III)I"⟩
abbrev cX8_sort : ByteArray := prog_1_method_10_code
def yX8_sort : MethodName := ⟨RX8, "sort", "(II)I"⟩
abbrev cX8_light : ByteArray := prog_1_method_11_code
def yX8_light : MethodName := ⟨RX8, "light", "(II)I"⟩
abbrev cX8_takes : ByteArray := prog_1_method_12_code
def yX8_takes : MethodName := ⟨RX8, "takes", "(III)I"⟩
abbrev cX8_open : ByteArray := prog_1_method_13_code
def yX8_open : MethodName := ⟨RX8, "open", "(IIII)I"⟩
abbrev cX8_soon : ByteArray := prog_1_method_14_code
def yX8_soon : MethodName := ⟨RX8, "soon", "(IIII)I"⟩
abbrev cX8_last : ByteArray := prog_1_method_15_code
def yX8_last : MethodName := ⟨RX8, "last", "(III)I"⟩
abbrev cX8_best : ByteArray := prog_1_method_16_code
def yX8_best : MethodName := ⟨RX8, "best", "(IIII)I"⟩
abbrev cX8_days : ByteArray := prog_1_method_17_code
def yX8_days : MethodName := ⟨RX8, "days", "(III)I"⟩
abbrev cX8_two : ByteArray := prog_1_method_18_code
def yX8_two : MethodName := ⟨RX8, "two", "(IIIII)I"⟩
abbrev cX8_worth : ByteArray := prog_1_method_19_code
def yX8_worth : MethodName := ⟨RX8, "worth", "(IIII)I"⟩
abbrev cX8_higher : ByteArray := prog_1_method_20_code
def yX8_higher : MethodName := ⟨RX8, "higher", "(IIII)I"⟩
abbrev cX8_must : ByteArray := prog_1_method_21_code
def yX8_must : MethodName := ⟨RX8, "must", "(III)I"⟩
abbrev cX8_move : ByteArray := prog_1_method_22_code
def yX8_move : MethodName := ⟨RX8, "move", "(I)I"⟩
abbrev cX8_moves : ByteArray := prog_1_method_23_code
def yX8_moves : MethodName := ⟨RX8, "moves", "(III)I"⟩
abbrev cX8_drop : ByteArray := prog_1_method_24_code
def yX8_drop : MethodName := ⟨RX8, "drop", "()I"⟩
abbrev cX8_judge : ByteArray := prog_1_method_25_code
def yX8_judge : MethodName := ⟨RX8, "judge", "(IIII)I"⟩
abbrev cX8_wet : ByteArray := prog_1_method_26_code
def yX8_wet : MethodName := ⟨RX8, "wet", "(III)I"⟩
abbrev cX8_chance : ByteArray := prog_1_method_27_code
def yX8_chance : MethodName := ⟨RX8, "chance", "(II)I"⟩
abbrev cX8_mark : ByteArray := prog_1_method_28_code
def yX8_mark : MethodName := ⟨RX8, "mark", "(I)I"⟩
abbrev cX8_old : ByteArray := prog_1_method_29_code
def yX8_old : MethodName := ⟨RX8, "old", "(I)I"⟩
abbrev cX8_unmark : ByteArray := prog_1_method_30_code
def yX8_unmark : MethodName := ⟨RX8, "unmark", "()I"⟩
abbrev cX8_undo : ByteArray := prog_1_method_31_code
def yX8_undo : MethodName := ⟨RX8, "undo", "()I"⟩
abbrev cX8_redo : ByteArray := prog_1_method_32_code
def yX8_redo : MethodName := ⟨RX8, "redo", "()I"⟩
abbrev cX8_body : ByteArray := prog_1_method_33_code
def yX8_body : MethodName := ⟨RX8, "body", "(I)I"⟩
abbrev cX8_act : ByteArray := prog_1_method_34_code
def yX8_act : MethodName := ⟨RX8, "act", "(III)I"⟩
abbrev cX8_trace : ByteArray := prog_1_method_35_code
def yX8_trace : MethodName := ⟨RX8, "trace", "(I)I"⟩
abbrev cX8_keep : ByteArray := prog_1_method_36_code
def yX8_keep : MethodName := ⟨RX8, "keep", "(II)I"⟩
abbrev cX8_row : ByteArray := prog_1_method_37_code
def yX8_row : MethodName := ⟨RX8, "row", "(III)I"⟩
abbrev cX8_put : ByteArray := prog_1_method_38_code
def yX8_put : MethodName := ⟨RX8, "put", "(IIJ)I"⟩
abbrev cX8_element : ByteArray := prog_1_method_39_code
def yX8_element : MethodName := ⟨RX8, "element", "(II)J"⟩
abbrev cX8_shift : ByteArray := prog_1_method_40_code
def yX8_shift : MethodName := ⟨RX8, "shift", "(IIIII)I"⟩
abbrev cX8_taken : ByteArray := prog_1_method_41_code
def yX8_taken : MethodName := ⟨RX8, "taken", "(II)I"⟩
abbrev cX8_count : ByteArray := prog_1_method_42_code
def yX8_count : MethodName := ⟨RX8, "count", "(I)I"⟩
abbrev cX8_within : ByteArray := prog_1_method_43_code
def yX8_within : MethodName := ⟨RX8, "within", "(III)Z"⟩
abbrev cX8_isMinute : ByteArray := prog_1_method_44_code
def yX8_isMinute : MethodName := ⟨RX8, "isMinute", "(I)Z"⟩
abbrev cX8_isSort : ByteArray := prog_1_method_45_code
def yX8_isSort : MethodName := ⟨RX8, "isSort", "(I)Z"⟩
abbrev cX8_isShelf : ByteArray := prog_1_method_46_code
def yX8_isShelf : MethodName := ⟨RX8, "isShelf", "(I)Z"⟩
abbrev cX8_isPlace : ByteArray := prog_1_method_47_code
def yX8_isPlace : MethodName := ⟨RX8, "isPlace", "(I)Z"⟩
abbrev cX8_isWay : ByteArray := prog_1_method_48_code
def yX8_isWay : MethodName := ⟨RX8, "isWay", "(I)Z"⟩
abbrev cX8_isPair : ByteArray := prog_1_method_49_code
def yX8_isPair : MethodName := ⟨RX8, "isPair", "(I)Z"⟩
abbrev cX8_isFrom : ByteArray := prog_1_method_50_code
def yX8_isFrom : MethodName := ⟨RX8, "isFrom", "(I)Z"⟩
abbrev cX8_isSortAndTide : ByteArray := prog_1_method_51_code
def yX8_isSortAndTide : MethodName := ⟨RX8, "isSortAndTide", "(I)Z"⟩
abbrev cX8_isWinds : ByteArray := prog_1_method_52_code
def yX8_isWinds : MethodName := ⟨RX8, "isWinds", "(I)Z"⟩
abbrev cX8_isMove : ByteArray := prog_1_method_53_code
def yX8_isMove : MethodName := ⟨RX8, "isMove", "(I)Z"⟩
abbrev cX8_refusalOfElement : ByteArray := prog_1_method_54_code
def yX8_refusalOfElement : MethodName := ⟨RX8, "refusalOfElement", "(II)I"⟩
abbrev cX8_soonOrDay : ByteArray := prog_1_method_55_code
def yX8_soonOrDay : MethodName := ⟨RX8, "soonOrDay", "(II)I"⟩
abbrev cX8_soonLifted : ByteArray := prog_1_method_56_code
def yX8_soonLifted : MethodName := ⟨RX8, "soonLifted", "(IIII)I"⟩
abbrev cX8_reachedByDark : ByteArray := prog_1_method_57_code
def yX8_reachedByDark : MethodName := ⟨RX8, "reachedByDark", "(IIII)Z"⟩
abbrev cX8_bestSet : ByteArray := prog_1_method_58_code
def yX8_bestSet : MethodName := ⟨RX8, "bestSet", "(III)I"⟩
abbrev cX8_likeliestUntried : ByteArray := prog_1_method_59_code
def yX8_likeliestUntried : MethodName := ⟨RX8, "likeliestUntried", "(II)I"⟩
abbrev cX8_marksCanHaveBeen : ByteArray := prog_1_method_60_code
def yX8_marksCanHaveBeen : MethodName := ⟨RX8, "marksCanHaveBeen", "()Z"⟩
def RX9 : String := "RoundPointModel"
def TX9 : u_T := fun k => match k with
  | 0 => ("RoundPointModel", "may", "[I", true)
  | 1 => ("RoundPointModel", "changeAt", "[I", true)
  | 2 => ("RoundPointModel", "changeWas", "[I", true)
  | 3 => ("RoundPointModel", "changeIs", "[I", true)
  | 4 => ("RoundPointModel", "keptMany", "I", false)
  | 5 => ("RoundPointModel", "done", "I", false)
  | 6 => ("RoundPointModel", "tape", "[I", true)
  | 7 => ("RoundPointModel", "tapeMany", "I", false)
  | 8 => ("RoundPointModel", "tides", "I", false)
  | 9 => ("RoundPointModel", "pointMany", "[I", true)
  | 10 => ("RoundPointModel", "pointMinute", "[I", true)
  | 11 => ("RoundPointModel", "pointHeight", "[I", true)
  | 12 => ("RoundPointModel", "readMinute", "[I", true)
  | 13 => ("RoundPointModel", "readHeight", "[I", true)
  | 14 => ("RoundPointModel", "readMany", "I", false)
  | 15 => ("RoundPointModel", "at", "I", false)
  | 16 => ("RoundPointModel", "winds", "I", false)
  | 17 => ("RoundPointModel", "lifts", "[I", true)
  | 18 => ("RoundPointModel", "early", "[I", true)
  | 19 => ("RoundPointModel", "chance", "[I", true)
  | 20 => ("RoundPointModel", "places", "I", false)
  | 21 => ("RoundPointModel", "ways", "I", false)
  | 22 => ("RoundPointModel", "wayA", "[I", true)
  | 23 => ("RoundPointModel", "wayB", "[I", true)
  | 24 => ("RoundPointModel", "minutesOf", "[I", true)
  | 25 => ("RoundPointModel", "dawn", "I", false)
  | 26 => ("RoundPointModel", "dark", "I", false)
  | 27 => ("RoundPointModel", "sortNow", "I", false)
  | 28 => ("RoundPointModel", "highest", "[I", true)
  | 29 => ("RoundPointModel", "tooHigh", "[I", true)
  | 30 => ("RoundPointModel", "isDry", "[Z", true)
  | 31 => ("RoundPointModel", "freeWay", "I", false)
  | 32 => ("RoundPointModel", "moreWay", "I", false)
  | 33 => ("RoundPointModel", "more", "I", false)
  | 34 => ("RoundPointModel", "noWait", "I", false)
  | 35 => ("RoundPointModel", "reached", "[Z", true)
  | 36 => ("RoundPointModel", "firstParty", "[Z", true)
  | 37 => ("RoundPointModel", "moves", "I", false)
  | 38 => ("RoundPointModel", "moveOf", "[I", true)
  | 39 => ("RoundPointModel", "isPlaceNow", "I", false)
  | 40 => ("RoundPointModel", "isMinuteNow", "I", false)
  | 41 => ("RoundPointModel", "isWearyNow", "I", false)
  | 42 => ("RoundPointModel", "marks", "I", false)
  | 43 => ("RoundPointModel", "markOf", "[I", true)
  | 44 => ("RoundPointModel", "bodies", "I", false)
  | 45 => ("RoundPointModel", "bodyKind", "[I", true)
  | 46 => ("RoundPointModel", "trace", "[I", true)
  | 47 => ("RoundPointModel", "ran", "I", false)
  | 48 => ("RoundPointModel", "ownKind", "I", false)
  | 49 => ("RoundPointModel", "ownNumber", "I", false)
  | 50 => ("RoundPointModel", "shelf", "[I", true)
  | 51 => ("RoundPointModel", "many", "[I", true)
  | 52 => ("RoundPointModel", "items", "[J", true)
  | _ => ("RoundPointModel", "carried", "[J", true)
def tyX9 : Nat → FieldType := fun k => match k with
  | 0 => .array .int
  | 1 => .array .int
  | 2 => .array .int
  | 3 => .array .int
  | 4 => .int
  | 5 => .int
  | 6 => .array .int
  | 7 => .int
  | 8 => .int
  | 9 => .array .int
  | 10 => .array .int
  | 11 => .array .int
  | 12 => .array .int
  | 13 => .array .int
  | 14 => .int
  | 15 => .int
  | 16 => .int
  | 17 => .array .int
  | 18 => .array .int
  | 19 => .array .int
  | 20 => .int
  | 21 => .int
  | 22 => .array .int
  | 23 => .array .int
  | 24 => .array .int
  | 25 => .int
  | 26 => .int
  | 27 => .int
  | 28 => .array .int
  | 29 => .array .int
  | 30 => .array .boolean
  | 31 => .int
  | 32 => .int
  | 33 => .int
  | 34 => .int
  | 35 => .array .boolean
  | 36 => .array .boolean
  | 37 => .int
  | 38 => .array .int
  | 39 => .int
  | 40 => .int
  | 41 => .int
  | 42 => .int
  | 43 => .array .int
  | 44 => .int
  | 45 => .array .int
  | 46 => .array .int
  | 47 => .int
  | 48 => .int
  | 49 => .int
  | 50 => .array .int
  | 51 => .array .int
  | 52 => .array .long
  | _ => .array .long
abbrev wsX90 : List Cond := u_ws RX9 TX9 54
theorem nmX9 : ∀ a, a < 54 → ∀ b, b < 54 → a ≠ b → (TX9 a).2.1 ≠ (TX9 b).2.1 := by decide +kernel
theorem tyX9_ok : ∀ k, k < 54 → parseFieldDescriptor (TX9 k).2.2.1 = some (tyX9 k) := by decide +kernel
abbrev cX9_within : ByteArray := prog_11_method_1_code
def yX9_within : MethodName := ⟨RX9, "within", "(JJJ)Z"⟩
abbrev cX9_isMinute : ByteArray := prog_11_method_2_code
def yX9_isMinute : MethodName := ⟨RX9, "isMinute", "(I)Z"⟩
abbrev cX9_init : ByteArray := prog_11_method_3_code
def yX9_init : MethodName := ⟨RX9, "<init>", "()V"⟩
abbrev cX9_becomes : ByteArray := prog_11_method_4_code
def yX9_becomes : MethodName := ⟨RX9, "becomes", "(II)I"⟩
abbrev cX9_undo : ByteArray := prog_11_method_5_code
def yX9_undo : MethodName := ⟨RX9, "undo", "()I"⟩
abbrev cX9_redo : ByteArray := prog_11_method_6_code
def yX9_redo : MethodName := ⟨RX9, "redo", "()I"⟩
abbrev cX9_feed : ByteArray := prog_11_method_7_code
def yX9_feed : MethodName := ⟨RX9, "feed", "(II)I"⟩
abbrev cX9_byteAt : ByteArray := prog_11_method_8_code
def yX9_byteAt : MethodName := ⟨RX9, "byteAt", "()I"⟩
abbrev cX9_number : ByteArray := prog_11_method_9_code
def yX9_number : MethodName := ⟨RX9, "number", "(III)I"⟩
abbrev cX9_readPoints : ByteArray := prog_11_method_10_code
def yX9_readPoints : MethodName := ⟨RX9, "readPoints", "()Z"⟩
abbrev cX9_tide : ByteArray := prog_11_method_11_code
def yX9_tide : MethodName := ⟨RX9, "tide", "()I"⟩
abbrev cX9_isTide : ByteArray := prog_11_method_12_code
def yX9_isTide : MethodName := ⟨RX9, "isTide", "(I)Z"⟩
abbrev cX9_isWind : ByteArray := prog_11_method_13_code
def yX9_isWind : MethodName := ⟨RX9, "isWind", "(I)Z"⟩
abbrev cX9_wind : ByteArray := prog_11_method_14_code
def yX9_wind : MethodName := ⟨RX9, "wind", "(III)I"⟩
abbrev cX9_tideAt : ByteArray := prog_11_method_15_code
def yX9_tideAt : MethodName := ⟨RX9, "tideAt", "(II)I"⟩
abbrev cX9_seaAt : ByteArray := prog_11_method_16_code
def yX9_seaAt : MethodName := ⟨RX9, "seaAt", "(III)I"⟩
abbrev cX9_sea : ByteArray := prog_11_method_17_code
def yX9_sea : MethodName := ⟨RX9, "sea", "(III)I"⟩
abbrev cX9_isPlace : ByteArray := prog_11_method_18_code
def yX9_isPlace : MethodName := ⟨RX9, "isPlace", "(I)Z"⟩
abbrev cX9_isWay : ByteArray := prog_11_method_19_code
def yX9_isWay : MethodName := ⟨RX9, "isWay", "(I)Z"⟩
abbrev cX9_place : ByteArray := prog_11_method_20_code
def yX9_place : MethodName := ⟨RX9, "place", "(I)I"⟩
abbrev cX9_areTwo : ByteArray := prog_11_method_21_code
def yX9_areTwo : MethodName := ⟨RX9, "areTwo", "(I)Z"⟩
abbrev cX9_way : ByteArray := prog_11_method_22_code
def yX9_way : MethodName := ⟨RX9, "way", "(II)I"⟩
abbrev cX9_safe : ByteArray := prog_11_method_23_code
def yX9_safe : MethodName := ⟨RX9, "safe", "(II)I"⟩
abbrev cX9_alter : ByteArray := prog_11_method_24_code
def yX9_alter : MethodName := ⟨RX9, "alter", "(III)I"⟩
abbrev cX9_isSort : ByteArray := prog_11_method_25_code
def yX9_isSort : MethodName := ⟨RX9, "isSort", "(I)Z"⟩
abbrev cX9_sort : ByteArray := prog_11_method_26_code
def yX9_sort : MethodName := ⟨RX9, "sort", "(II)I"⟩
abbrev cX9_light : ByteArray := prog_11_method_27_code
def yX9_light : MethodName := ⟨RX9, "light", "(II)I"⟩
abbrev cX9_takesOf : ByteArray := prog_11_method_28_code
def yX9_takesOf : MethodName := ⟨RX9, "takesOf", "(III)I"⟩
abbrev cX9_takes : ByteArray := prog_11_method_29_code
def yX9_takes : MethodName := ⟨RX9, "takes", "(III)I"⟩
abbrev cX9_layOut : ByteArray := prog_11_method_30_code
def yX9_layOut : MethodName := ⟨RX9, "layOut", "(II)V"⟩
abbrev cX9_goes : ByteArray := prog_11_method_31_code
def yX9_goes : MethodName := ⟨RX9, "goes", "(III)Z"⟩
abbrev cX9_waits : ByteArray := prog_11_method_32_code
def yX9_waits : MethodName := ⟨RX9, "waits", "(II)Z"⟩
abbrev cX9_otherEnd : ByteArray := prog_11_method_33_code
def yX9_otherEnd : MethodName := ⟨RX9, "otherEnd", "(II)I"⟩
abbrev cX9_stateOf : ByteArray := prog_11_method_34_code
def yX9_stateOf : MethodName := ⟨RX9, "stateOf", "(III)I"⟩
abbrev cX9_spread : ByteArray := prog_11_method_35_code
def yX9_spread : MethodName := ⟨RX9, "spread", "(III)V"⟩
abbrev cX9_reach : ByteArray := prog_11_method_36_code
def yX9_reach : MethodName := ⟨RX9, "reach", "(III)V"⟩
abbrev cX9_isAt : ByteArray := prog_11_method_37_code
def yX9_isAt : MethodName := ⟨RX9, "isAt", "(II)Z"⟩
abbrev cX9_soonAt : ByteArray := prog_11_method_38_code
def yX9_soonAt : MethodName := ⟨RX9, "soonAt", "(I)I"⟩
abbrev cX9_isFrom : ByteArray := prog_11_method_39_code
def yX9_isFrom : MethodName := ⟨RX9, "isFrom", "(I)Z"⟩
abbrev cX9_isSt : ByteArray := prog_11_method_40_code
def yX9_isSt : MethodName := ⟨RX9, "isSt", "(I)Z"⟩
abbrev cX9_areWinds : ByteArray := prog_11_method_41_code
def yX9_areWinds : MethodName := ⟨RX9, "areWinds", "(I)Z"⟩
abbrev cX9_open : ByteArray := prog_11_method_42_code
def yX9_open : MethodName := ⟨RX9, "open", "(IIII)I"⟩
abbrev cX9_soon : ByteArray := prog_11_method_43_code
def yX9_soon : MethodName := ⟨RX9, "soon", "(IIII)I"⟩
abbrev cX9_goBack : ByteArray := prog_11_method_44_code
def yX9_goBack : MethodName := ⟨RX9, "goBack", "(III)V"⟩
abbrev cX9_comesFrom : ByteArray := prog_11_method_45_code
def yX9_comesFrom : MethodName := ⟨RX9, "comesFrom", "(III)Z"⟩
abbrev cX9_lastFrom : ByteArray := prog_11_method_46_code
def yX9_lastFrom : MethodName := ⟨RX9, "lastFrom", "(III)I"⟩
abbrev cX9_last : ByteArray := prog_11_method_47_code
def yX9_last : MethodName := ⟨RX9, "last", "(III)I"⟩
abbrev cX9_allWinds : ByteArray := prog_11_method_48_code
def yX9_allWinds : MethodName := ⟨RX9, "allWinds", "()I"⟩
abbrev cX9_chancesOf : ByteArray := prog_11_method_49_code
def yX9_chancesOf : MethodName := ⟨RX9, "chancesOf", "(I)I"⟩
abbrev cX9_byDark : ByteArray := prog_11_method_50_code
def yX9_byDark : MethodName := ⟨RX9, "byDark", "(IIII)Z"⟩
abbrev cX9_best : ByteArray := prog_11_method_51_code
def yX9_best : MethodName := ⟨RX9, "best", "(IIII)I"⟩
abbrev cX9_days : ByteArray := prog_11_method_52_code
def yX9_days : MethodName := ⟨RX9, "days", "(III)I"⟩
abbrev cX9_two : ByteArray := prog_11_method_53_code
def yX9_two : MethodName := ⟨RX9, "two", "(IIIII)I"⟩
abbrev cX9_soonOrNever : ByteArray := prog_11_method_54_code
def yX9_soonOrNever : MethodName := ⟨RX9, "soonOrNever", "(III)I"⟩
abbrev cX9_worth : ByteArray := prog_11_method_55_code
def yX9_worth : MethodName := ⟨RX9, "worth", "(IIII)I"⟩
abbrev cX9_isSooner : ByteArray := prog_11_method_56_code
def yX9_isSooner : MethodName := ⟨RX9, "isSooner", "(IIIIII)Z"⟩
abbrev cX9_higher : ByteArray := prog_11_method_57_code
def yX9_higher : MethodName := ⟨RX9, "higher", "(IIII)I"⟩
abbrev cX9_must : ByteArray := prog_11_method_58_code
def yX9_must : MethodName := ⟨RX9, "must", "(III)I"⟩
abbrev cX9_move : ByteArray := prog_11_method_59_code
def yX9_move : MethodName := ⟨RX9, "move", "(I)I"⟩
abbrev cX9_moves : ByteArray := prog_11_method_60_code
def yX9_moves : MethodName := ⟨RX9, "moves", "(III)I"⟩
abbrev cX9_drop : ByteArray := prog_11_method_61_code
def yX9_drop : MethodName := ⟨RX9, "drop", "()I"⟩
abbrev cX9_doesMove : ByteArray := prog_11_method_62_code
def yX9_doesMove : MethodName := ⟨RX9, "doesMove", "(I)Z"⟩
abbrev cX9_goPlan : ByteArray := prog_11_method_63_code
def yX9_goPlan : MethodName := ⟨RX9, "goPlan", "(III)I"⟩
abbrev cX9_judge : ByteArray := prog_11_method_64_code
def yX9_judge : MethodName := ⟨RX9, "judge", "(IIII)I"⟩
abbrev cX9_wet : ByteArray := prog_11_method_65_code
def yX9_wet : MethodName := ⟨RX9, "wet", "(III)I"⟩
abbrev cX9_chance : ByteArray := prog_11_method_66_code
def yX9_chance : MethodName := ⟨RX9, "chance", "(II)I"⟩
abbrev cX9_mark : ByteArray := prog_11_method_67_code
def yX9_mark : MethodName := ⟨RX9, "mark", "(I)I"⟩
abbrev cX9_unmark : ByteArray := prog_11_method_68_code
def yX9_unmark : MethodName := ⟨RX9, "unmark", "()I"⟩
abbrev cX9_old : ByteArray := prog_11_method_69_code
def yX9_old : MethodName := ⟨RX9, "old", "(I)I"⟩
abbrev cX9_isBody : ByteArray := prog_11_method_70_code
def yX9_isBody : MethodName := ⟨RX9, "isBody", "(I)Z"⟩
abbrev cX9_kindOf : ByteArray := prog_11_method_71_code
def yX9_kindOf : MethodName := ⟨RX9, "kindOf", "(I)I"⟩
abbrev cX9_body : ByteArray := prog_11_method_72_code
def yX9_body : MethodName := ⟨RX9, "body", "(I)I"⟩
abbrev cX9_above : ByteArray := prog_11_method_73_code
def yX9_above : MethodName := ⟨RX9, "above", "(I)I"⟩
abbrev cX9_begins : ByteArray := prog_11_method_74_code
def yX9_begins : MethodName := ⟨RX9, "begins", "(I)V"⟩
abbrev cX9_goesAs : ByteArray := prog_11_method_75_code
def yX9_goesAs : MethodName := ⟨RX9, "goesAs", "(II)I"⟩
abbrev cX9_waitsAs : ByteArray := prog_11_method_76_code
def yX9_waitsAs : MethodName := ⟨RX9, "waitsAs", "(II)I"⟩
abbrev cX9_wetsAs : ByteArray := prog_11_method_77_code
def yX9_wetsAs : MethodName := ⟨RX9, "wetsAs", "(II)I"⟩
abbrev cX9_tellsAs : ByteArray := prog_11_method_78_code
def yX9_tellsAs : MethodName := ⟨RX9, "tellsAs", "(II)I"⟩
abbrev cX9_act : ByteArray := prog_11_method_79_code
def yX9_act : MethodName := ⟨RX9, "act", "(III)I"⟩
abbrev cX9_trace : ByteArray := prog_11_method_80_code
def yX9_trace : MethodName := ⟨RX9, "trace", "(I)I"⟩
abbrev cX9_isShelf : ByteArray := prog_11_method_81_code
def yX9_isShelf : MethodName := ⟨RX9, "isShelf", "(I)Z"⟩
abbrev cX9_keep : ByteArray := prog_11_method_82_code
def yX9_keep : MethodName := ⟨RX9, "keep", "(II)I"⟩
abbrev cX9_row : ByteArray := prog_11_method_83_code
def yX9_row : MethodName := ⟨RX9, "row", "(III)I"⟩
abbrev cX9_refusal : ByteArray := prog_11_method_84_code
def yX9_refusal : MethodName := ⟨RX9, "refusal", "(II)I"⟩
abbrev cX9_asSort : ByteArray := prog_11_method_85_code
def yX9_asSort : MethodName := ⟨RX9, "asSort", "(IJ)J"⟩
abbrev cX9_put : ByteArray := prog_11_method_86_code
def yX9_put : MethodName := ⟨RX9, "put", "(IIJ)I"⟩
abbrev cX9_element : ByteArray := prog_11_method_87_code
def yX9_element : MethodName := ⟨RX9, "element", "(II)J"⟩
abbrev cX9_shift : ByteArray := prog_11_method_88_code
def yX9_shift : MethodName := ⟨RX9, "shift", "(IIIII)I"⟩
abbrev cX9_taken : ByteArray := prog_11_method_89_code
def yX9_taken : MethodName := ⟨RX9, "taken", "(II)I"⟩
abbrev cX9_count : ByteArray := prog_11_method_90_code
def yX9_count : MethodName := ⟨RX9, "count", "(I)I"⟩
def RJ9 : String := "java/lang/Math"
abbrev cJ9_max_7cf53 : ByteArray := prog_12_method_65_code
def yJ9_max_7cf53 : MethodName := ⟨RJ9, "max", "(II)I"⟩
abbrev cJ9_min_7cf53 : ByteArray := prog_12_method_69_code
def yJ9_min_7cf53 : MethodName := ⟨RJ9, "min", "(II)I"⟩
def RJ10 : String := "java/lang/System"
def RJ7 : String := "java/util/Arrays"
abbrev cJ7_fill_d0a16 : ByteArray := prog_14_method_101_code
def yJ7_fill_d0a16 : MethodName := ⟨RJ7, "fill", "([JJ)V"⟩
abbrev cJ7_fill_53178 : ByteArray := prog_14_method_103_code
def yJ7_fill_53178 : MethodName := ⟨RJ7, "fill", "([II)V"⟩
def RL : String := "RoundPointLaw"
abbrev cL_law : ByteArray := code
def yL_law : MethodName := ⟨RL, "law", "([I)Z"⟩
abbrev vwCl : List vw_C := [(RX0, TX0, 5), (RX1, TX1, 7), (RX2, TX2, 20), (RX3, TX3, 7), (RX4, TX4, 5), (RX5, TX5, 7), (RX6, TX6, 4), (RX7, TX7, 6), (RX8, TX8, 10), (RX9, TX9, 54)]
end
section
def BIG : List Cond := lw_tbl.filter goodWord
theorem bgm {w : Cond} (h : w ∈ tables_1) (g : goodWord w = true) : w ∈ BIG := List.mem_filter.mpr ⟨List.mem_append_right _ h, g⟩
theorem bg1 {w : Cond} (i : Nat) (h : tables_1_1[i]? = some w) (g : goodWord w = true) : w ∈ BIG := bgm (List.mem_append_left _ (List.mem_of_getElem? h)) g
theorem bg2 {w : Cond} (i : Nat) (h : tables_1_2[i]? = some w) (g : goodWord w = true) : w ∈ BIG := bgm (List.mem_append_right _ (List.mem_append_left _ (List.mem_of_getElem? h))) g
theorem bg3 {w : Cond} (i : Nat) (h : tables_1_3[i]? = some w) (g : goodWord w = true) : w ∈ BIG := bgm (List.mem_append_right _ (List.mem_append_right _ (List.mem_append_left _ (List.mem_of_getElem? h)))) g
theorem bg4 {w : Cond} (i : Nat) (h : tables_1_4[i]? = some w) (g : goodWord w = true) : w ∈ BIG := bgm (List.mem_append_right _ (List.mem_append_right _ (List.mem_append_right _ (List.mem_append_left _ (List.mem_of_getElem? h))))) g
theorem bg5 {w : Cond} (i : Nat) (h : tables_1_5[i]? = some w) (g : goodWord w = true) : w ∈ BIG := bgm (List.mem_append_right _ (List.mem_append_right _ (List.mem_append_right _ (List.mem_append_right _ (List.mem_append_left _ (List.mem_of_getElem? h)))))) g
theorem bg6 {w : Cond} (i : Nat) (h : tables_1_6[i]? = some w) (g : goodWord w = true) : w ∈ BIG := bgm (List.mem_append_right _ (List.mem_append_right _ (List.mem_append_right _ (List.mem_append_right _ (List.mem_append_right _ (List.mem_of_getElem? h)))))) g
theorem bgS {w : Cond} (i : Nat) (h : (k2_sels lw_privs)[i]? = some w) (g : goodWord w = true) : w ∈ BIG := List.mem_filter.mpr ⟨List.mem_append_left _ (List.mem_of_getElem? h), g⟩
theorem BIG_in : ∀ w ∈ BIG, w ∈ lw_tbl := fun w h => (List.mem_filter.mp h).1
theorem BIG_good {w : Cond} (h : w ∈ BIG) : (w.onTables && w.keeps) = true ∨ ∃ ty, w = .arrayClass ty := good_of_word (List.mem_filter.mp h).2
theorem q1_14 : Cond.classLink RL 7 RX8 ∈ BIG := bg1 14 (by decide +kernel) rfl
theorem q1_16 : Cond.methodLink RL 9 yX8_init ∈ BIG := bg1 16 (by decide +kernel) rfl
theorem q4_103 : Cond.classLink RL 10 RX9 ∈ BIG := bg4 103 (by decide +kernel) rfl
theorem q4_105 : Cond.methodLink RL 12 yX9_init ∈ BIG := bg4 105 (by decide +kernel) rfl
theorem q2_100 : Cond.methodLink RL 13 yX8_feed ∈ BIG := bg2 100 (by decide +kernel) rfl
theorem q5_43 : Cond.methodLink RL 17 yX9_feed ∈ BIG := bg5 43 (by decide +kernel) rfl
theorem q2_108 : Cond.methodLink RL 18 yX8_tide ∈ BIG := bg2 108 (by decide +kernel) rfl
theorem q5_51 : Cond.methodLink RL 22 yX9_tide ∈ BIG := bg5 51 (by decide +kernel) rfl
theorem q2_139 : Cond.methodLink RL 23 yX8_wind ∈ BIG := bg2 139 (by decide +kernel) rfl
theorem q5_67 : Cond.methodLink RL 27 yX9_wind ∈ BIG := bg5 67 (by decide +kernel) rfl
theorem q2_150 : Cond.methodLink RL 28 yX8_sea ∈ BIG := bg2 150 (by decide +kernel) rfl
theorem q5_75 : Cond.methodLink RL 31 yX9_sea ∈ BIG := bg5 75 (by decide +kernel) rfl
theorem q2_172 : Cond.methodLink RL 32 yX8_place ∈ BIG := bg2 172 (by decide +kernel) rfl
theorem q5_100 : Cond.methodLink RL 36 yX9_place ∈ BIG := bg5 100 (by decide +kernel) rfl
theorem q2_176 : Cond.methodLink RL 37 yX8_way ∈ BIG := bg2 176 (by decide +kernel) rfl
theorem q5_105 : Cond.methodLink RL 40 yX9_way ∈ BIG := bg5 105 (by decide +kernel) rfl
theorem q2_192 : Cond.methodLink RL 41 yX8_safe ∈ BIG := bg2 192 (by decide +kernel) rfl
theorem q5_118 : Cond.methodLink RL 44 yX9_safe ∈ BIG := bg5 118 (by decide +kernel) rfl
theorem q2_209 : Cond.methodLink RL 45 yX8_alter ∈ BIG := bg2 209 (by decide +kernel) rfl
theorem q5_126 : Cond.methodLink RL 48 yX9_alter ∈ BIG := bg5 126 (by decide +kernel) rfl
theorem q2_217 : Cond.methodLink RL 49 yX8_sort ∈ BIG := bg2 217 (by decide +kernel) rfl
theorem q5_134 : Cond.methodLink RL 52 yX9_sort ∈ BIG := bg5 134 (by decide +kernel) rfl
theorem q2_224 : Cond.methodLink RL 53 yX8_light ∈ BIG := bg2 224 (by decide +kernel) rfl
theorem q5_144 : Cond.methodLink RL 56 yX9_light ∈ BIG := bg5 144 (by decide +kernel) rfl
theorem q2_228 : Cond.methodLink RL 57 yX8_takes ∈ BIG := bg2 228 (by decide +kernel) rfl
theorem q5_148 : Cond.methodLink RL 60 yX9_takes ∈ BIG := bg5 148 (by decide +kernel) rfl
theorem q2_236 : Cond.methodLink RL 61 yX8_open ∈ BIG := bg2 236 (by decide +kernel) rfl
theorem q5_156 : Cond.methodLink RL 65 yX9_open ∈ BIG := bg5 156 (by decide +kernel) rfl
theorem q3_35 : Cond.methodLink RL 66 yX8_soon ∈ BIG := bg3 35 (by decide +kernel) rfl
theorem q5_177 : Cond.methodLink RL 69 yX9_soon ∈ BIG := bg5 177 (by decide +kernel) rfl
theorem q3_74 : Cond.methodLink RL 70 yX8_last ∈ BIG := bg3 74 (by decide +kernel) rfl
theorem q5_212 : Cond.methodLink RL 73 yX9_last ∈ BIG := bg5 212 (by decide +kernel) rfl
theorem q3_86 : Cond.methodLink RL 74 yX8_best ∈ BIG := bg3 86 (by decide +kernel) rfl
theorem q5_228 : Cond.methodLink RL 77 yX9_best ∈ BIG := bg5 228 (by decide +kernel) rfl
theorem q3_112 : Cond.methodLink RL 78 yX8_days ∈ BIG := bg3 112 (by decide +kernel) rfl
theorem q6_4 : Cond.methodLink RL 81 yX9_days ∈ BIG := bg6 4 (by decide +kernel) rfl
theorem q3_116 : Cond.methodLink RL 82 yX8_two ∈ BIG := bg3 116 (by decide +kernel) rfl
theorem q6_8 : Cond.methodLink RL 86 yX9_two ∈ BIG := bg6 8 (by decide +kernel) rfl
theorem q3_124 : Cond.methodLink RL 87 yX8_worth ∈ BIG := bg3 124 (by decide +kernel) rfl
theorem q6_12 : Cond.methodLink RL 90 yX9_worth ∈ BIG := bg6 12 (by decide +kernel) rfl
theorem q3_132 : Cond.methodLink RL 91 yX8_higher ∈ BIG := bg3 132 (by decide +kernel) rfl
theorem q6_20 : Cond.methodLink RL 94 yX9_higher ∈ BIG := bg6 20 (by decide +kernel) rfl
theorem q3_140 : Cond.methodLink RL 95 yX8_must ∈ BIG := bg3 140 (by decide +kernel) rfl
theorem q6_28 : Cond.methodLink RL 98 yX9_must ∈ BIG := bg6 28 (by decide +kernel) rfl
theorem q3_148 : Cond.methodLink RL 99 yX8_move ∈ BIG := bg3 148 (by decide +kernel) rfl
theorem q6_32 : Cond.methodLink RL 102 yX9_move ∈ BIG := bg6 32 (by decide +kernel) rfl
theorem q3_160 : Cond.methodLink RL 103 yX8_moves ∈ BIG := bg3 160 (by decide +kernel) rfl
theorem q6_38 : Cond.methodLink RL 106 yX9_moves ∈ BIG := bg6 38 (by decide +kernel) rfl
theorem q3_171 : Cond.methodLink RL 107 yX8_drop ∈ BIG := bg3 171 (by decide +kernel) rfl
theorem q6_48 : Cond.methodLink RL 110 yX9_drop ∈ BIG := bg6 48 (by decide +kernel) rfl
theorem q3_175 : Cond.methodLink RL 111 yX8_judge ∈ BIG := bg3 175 (by decide +kernel) rfl
theorem q6_52 : Cond.methodLink RL 114 yX9_judge ∈ BIG := bg6 52 (by decide +kernel) rfl
theorem q3_197 : Cond.methodLink RL 115 yX8_wet ∈ BIG := bg3 197 (by decide +kernel) rfl
theorem q6_64 : Cond.methodLink RL 118 yX9_wet ∈ BIG := bg6 64 (by decide +kernel) rfl
theorem q3_206 : Cond.methodLink RL 119 yX8_chance ∈ BIG := bg3 206 (by decide +kernel) rfl
theorem q6_68 : Cond.methodLink RL 122 yX9_chance ∈ BIG := bg6 68 (by decide +kernel) rfl
theorem q3_210 : Cond.methodLink RL 123 yX8_mark ∈ BIG := bg3 210 (by decide +kernel) rfl
theorem q6_72 : Cond.methodLink RL 126 yX9_mark ∈ BIG := bg6 72 (by decide +kernel) rfl
theorem q3_214 : Cond.methodLink RL 127 yX8_old ∈ BIG := bg3 214 (by decide +kernel) rfl
theorem q6_80 : Cond.methodLink RL 130 yX9_old ∈ BIG := bg6 80 (by decide +kernel) rfl
theorem q3_226 : Cond.methodLink RL 131 yX8_unmark ∈ BIG := bg3 226 (by decide +kernel) rfl
theorem q6_76 : Cond.methodLink RL 134 yX9_unmark ∈ BIG := bg6 76 (by decide +kernel) rfl
theorem q3_230 : Cond.methodLink RL 135 yX8_undo ∈ BIG := bg3 230 (by decide +kernel) rfl
theorem q5_35 : Cond.methodLink RL 138 yX9_undo ∈ BIG := bg5 35 (by decide +kernel) rfl
theorem q3_238 : Cond.methodLink RL 139 yX8_redo ∈ BIG := bg3 238 (by decide +kernel) rfl
theorem q5_39 : Cond.methodLink RL 142 yX9_redo ∈ BIG := bg5 39 (by decide +kernel) rfl
theorem q4_6 : Cond.methodLink RL 143 yX8_body ∈ BIG := bg4 6 (by decide +kernel) rfl
theorem q6_84 : Cond.methodLink RL 146 yX9_body ∈ BIG := bg6 84 (by decide +kernel) rfl
theorem q4_14 : Cond.methodLink RL 147 yX8_act ∈ BIG := bg4 14 (by decide +kernel) rfl
theorem q6_89 : Cond.methodLink RL 150 yX9_act ∈ BIG := bg6 89 (by decide +kernel) rfl
theorem q4_43 : Cond.methodLink RL 151 yX8_trace ∈ BIG := bg4 43 (by decide +kernel) rfl
theorem q6_117 : Cond.methodLink RL 154 yX9_trace ∈ BIG := bg6 117 (by decide +kernel) rfl
theorem q4_48 : Cond.methodLink RL 155 yX8_keep ∈ BIG := bg4 48 (by decide +kernel) rfl
theorem q6_121 : Cond.methodLink RL 158 yX9_keep ∈ BIG := bg6 121 (by decide +kernel) rfl
theorem q4_57 : Cond.methodLink RL 159 yX8_row ∈ BIG := bg4 57 (by decide +kernel) rfl
theorem q6_125 : Cond.methodLink RL 162 yX9_row ∈ BIG := bg6 125 (by decide +kernel) rfl
theorem q6_164 : Cond.constantLong RL 163 (4294967295) ∈ BIG := bg6 164 (by decide +kernel) rfl
theorem q4_66 : Cond.methodLink RL 165 yX8_put ∈ BIG := bg4 66 (by decide +kernel) rfl
theorem q6_129 : Cond.methodLink RL 169 yX9_put ∈ BIG := bg6 129 (by decide +kernel) rfl
theorem q4_78 : Cond.methodLink RL 170 yX8_element ∈ BIG := bg4 78 (by decide +kernel) rfl
theorem q6_140 : Cond.methodLink RL 174 yX9_element ∈ BIG := bg6 140 (by decide +kernel) rfl
theorem q4_83 : Cond.methodLink RL 175 yX8_shift ∈ BIG := bg4 83 (by decide +kernel) rfl
theorem q6_145 : Cond.methodLink RL 178 yX9_shift ∈ BIG := bg6 145 (by decide +kernel) rfl
theorem q4_92 : Cond.methodLink RL 179 yX8_taken ∈ BIG := bg4 92 (by decide +kernel) rfl
theorem q6_149 : Cond.methodLink RL 182 yX9_taken ∈ BIG := bg6 149 (by decide +kernel) rfl
theorem q4_99 : Cond.methodLink RL 183 yX8_count ∈ BIG := bg4 99 (by decide +kernel) rfl
theorem q6_160 : Cond.methodLink RL 186 yX9_count ∈ BIG := bg6 160 (by decide +kernel) rfl
theorem q2_25 : Cond.methodLink RX0 3 objectInit ∈ BIG := bg2 25 (by decide +kernel) rfl
theorem q2_26 : Cond.fieldLink RX0 9 "RoundPoint$Bodies" "kinds" "[I" ∈ BIG := bg2 26 (by decide +kernel) rfl
theorem q2_30 : Cond.fieldLink RX0 15 "RoundPoint$Bodies" "began" "[I" ∈ BIG := bg2 30 (by decide +kernel) rfl
theorem q2_28 : Cond.fieldLink RX0 18 "RoundPoint$Bodies" "count" "I" ∈ BIG := bg2 28 (by decide +kernel) rfl
theorem q4_33 : Cond.fieldLink RX0 22 "RoundPoint$Bodies" "ABOVE" "[I" ∈ BIG := bg4 33 (by decide +kernel) rfl
theorem q2_32 : Cond.fieldLink RX0 25 "RoundPoint$Bodies" "ran" "I" ∈ BIG := bg2 32 (by decide +kernel) rfl
theorem q2_34 : Cond.fieldLink RX0 32 "RoundPoint$Bodies" "number" "I" ∈ BIG := bg2 34 (by decide +kernel) rfl
theorem q4_23 : Cond.methodLink RX0 35 yX0_own ∈ BIG := bg4 23 (by decide +kernel) rfl
theorem q4_27 : Cond.methodLink RX0 39 yX0_from ∈ BIG := bg4 27 (by decide +kernel) rfl
theorem q4_31 : Cond.fieldLink RX0 43 "RoundPoint$Bodies" "OWN" "[I" ∈ BIG := bg4 31 (by decide +kernel) rfl
theorem q4_35 : Cond.methodLink RX0 46 yX0_run ∈ BIG := bg4 35 (by decide +kernel) rfl
theorem q4_39 : Cond.methodLink RX0 49 yX0_note ∈ BIG := bg4 39 (by decide +kernel) rfl
theorem q1_235 : Cond.methodLink RX1 3 objectInit ∈ BIG := bg1 235 (by decide +kernel) rfl
theorem q1_237 : Cond.fieldLink RX1 9 "RoundPoint$Changes" "whats" "[I" ∈ BIG := bg1 237 (by decide +kernel) rfl
theorem q1_238 : Cond.fieldLink RX1 15 "RoundPoint$Changes" "numbers" "[I" ∈ BIG := bg1 238 (by decide +kernel) rfl
theorem q1_239 : Cond.fieldLink RX1 18 "RoundPoint$Changes" "befores" "[I" ∈ BIG := bg1 239 (by decide +kernel) rfl
theorem q2_0 : Cond.fieldLink RX1 21 "RoundPoint$Changes" "afters" "[I" ∈ BIG := bg2 0 (by decide +kernel) rfl
theorem q1_236 : Cond.fieldLink RX1 24 "RoundPoint$Changes" "coast" "LRoundPoint$Coast;" ∈ BIG := bg1 236 (by decide +kernel) rfl
theorem q2_200 : Cond.methodLink RX1 28 yX2_rowOf ∈ BIG := bg2 200 (by decide +kernel) rfl
theorem q2_1 : Cond.fieldLink RX1 34 "RoundPoint$Changes" "done" "I" ∈ BIG := bg2 1 (by decide +kernel) rfl
theorem q2_204 : Cond.methodLink RX1 38 yX1_forgetOldest ∈ BIG := bg2 204 (by decide +kernel) rfl
theorem q2_3 : Cond.fieldLink RX1 41 "RoundPoint$Changes" "known" "I" ∈ BIG := bg2 3 (by decide +kernel) rfl
theorem q2_208 : Cond.methodLink RX1 44 arraycopyName ∈ BIG := bg2 208 (by decide +kernel) rfl
theorem q1_57 : Cond.methodLink RX2 3 objectInit ∈ BIG := bg1 57 (by decide +kernel) rfl
theorem q1_60 : Cond.fieldLink RX2 9 "RoundPoint$Coast" "points" "[I" ∈ BIG := bg1 60 (by decide +kernel) rfl
theorem q1_61 : Cond.fieldLink RX2 15 "RoundPoint$Coast" "pointMinutes" "[I" ∈ BIG := bg1 61 (by decide +kernel) rfl
theorem q1_62 : Cond.fieldLink RX2 18 "RoundPoint$Coast" "pointHeights" "[I" ∈ BIG := bg1 62 (by decide +kernel) rfl
theorem q1_66 : Cond.fieldLink RX2 21 "RoundPoint$Coast" "lifts" "[I" ∈ BIG := bg1 66 (by decide +kernel) rfl
theorem q1_68 : Cond.fieldLink RX2 24 "RoundPoint$Coast" "earlies" "[I" ∈ BIG := bg1 68 (by decide +kernel) rfl
theorem q1_70 : Cond.fieldLink RX2 27 "RoundPoint$Coast" "chances" "[I" ∈ BIG := bg1 70 (by decide +kernel) rfl
theorem q1_73 : Cond.fieldLink RX2 30 "RoundPoint$Coast" "safes" "[I" ∈ BIG := bg1 73 (by decide +kernel) rfl
theorem q1_81 : Cond.fieldLink RX2 33 "RoundPoint$Coast" "ones" "[I" ∈ BIG := bg1 81 (by decide +kernel) rfl
theorem q1_84 : Cond.fieldLink RX2 36 "RoundPoint$Coast" "others" "[I" ∈ BIG := bg1 84 (by decide +kernel) rfl
theorem q1_87 : Cond.fieldLink RX2 39 "RoundPoint$Coast" "lengths" "[I" ∈ BIG := bg1 87 (by decide +kernel) rfl
theorem q1_88 : Cond.fieldLink RX2 42 "RoundPoint$Coast" "heights" "[I" ∈ BIG := bg1 88 (by decide +kernel) rfl
theorem q1_92 : Cond.fieldLink RX2 45 "RoundPoint$Coast" "firstHours" "[I" ∈ BIG := bg1 92 (by decide +kernel) rfl
theorem q1_96 : Cond.fieldLink RX2 48 "RoundPoint$Coast" "lastHours" "[I" ∈ BIG := bg1 96 (by decide +kernel) rfl
theorem q1_100 : Cond.fieldLink RX2 51 "RoundPoint$Coast" "hundredths" "[I" ∈ BIG := bg1 100 (by decide +kernel) rfl
theorem q1_103 : Cond.fieldLink RX2 54 "RoundPoint$Coast" "dark" "I" ∈ BIG := bg1 103 (by decide +kernel) rfl
theorem q1_63 : Cond.fieldLink RX2 58 "RoundPoint$Coast" "winds" "I" ∈ BIG := bg1 63 (by decide +kernel) rfl
theorem q1_58 : Cond.fieldLink RX2 61 "RoundPoint$Coast" "tides" "I" ∈ BIG := bg1 58 (by decide +kernel) rfl
theorem q2_136 : Cond.methodLink RX2 64 arraycopyName ∈ BIG := bg2 136 (by decide +kernel) rfl
theorem q1_78 : Cond.fieldLink RX2 70 "RoundPoint$Coast" "ways" "I" ∈ BIG := bg1 78 (by decide +kernel) rfl
theorem q3_110 : Cond.methodLink RX2 73 yX2_chanceOf ∈ BIG := bg3 110 (by decide +kernel) rfl
theorem q3_111 : Cond.methodLink RX2 77 yX2_allWinds ∈ BIG := bg3 111 (by decide +kernel) rfl
theorem q2_165 : Cond.methodLink RX2 81 Lib.Math.max.name ∈ BIG := bg2 165 (by decide +kernel) rfl
theorem q2_162 : Cond.methodLink RX2 87 Lib.Math.min.name ∈ BIG := bg2 162 (by decide +kernel) rfl
theorem q2_168 : Cond.methodLink RX2 90 yX2_tideAt ∈ BIG := bg2 168 (by decide +kernel) rfl
theorem q1_204 : Cond.methodLink RX3 3 objectInit ∈ BIG := bg1 204 (by decide +kernel) rfl
theorem q1_207 : Cond.fieldLink RX3 9 "RoundPoint$Plan" "told" "[I" ∈ BIG := bg1 207 (by decide +kernel) rfl
theorem q1_205 : Cond.fieldLink RX3 15 "RoundPoint$Plan" "coast" "LRoundPoint$Coast;" ∈ BIG := bg1 205 (by decide +kernel) rfl
theorem q1_206 : Cond.fieldLink RX3 19 "RoundPoint$Plan" "water" "LRoundPoint$Sea;" ∈ BIG := bg1 206 (by decide +kernel) rfl
theorem q1_208 : Cond.fieldLink RX3 23 "RoundPoint$Plan" "count" "I" ∈ BIG := bg1 208 (by decide +kernel) rfl
theorem q1_210 : Cond.fieldLink RX3 27 "RoundPoint$Plan" "place" "I" ∈ BIG := bg1 210 (by decide +kernel) rfl
theorem q1_212 : Cond.fieldLink RX3 30 "RoundPoint$Plan" "minute" "I" ∈ BIG := bg1 212 (by decide +kernel) rfl
theorem q1_214 : Cond.fieldLink RX3 33 "RoundPoint$Plan" "weary" "I" ∈ BIG := bg1 214 (by decide +kernel) rfl
theorem q3_183 : Cond.methodLink RX3 36 yX3_stay ∈ BIG := bg3 183 (by decide +kernel) rfl
theorem q3_187 : Cond.methodLink RX3 40 yX3_follow ∈ BIG := bg3 187 (by decide +kernel) rfl
theorem q1_74 : Cond.fieldLink RX3 44 "RoundPoint$Coast" "safes" "[I" ∈ BIG := bg1 74 (by decide +kernel) rfl
theorem q3_30 : Cond.methodLink RX3 49 yX4_firstAbove ∈ BIG := bg3 30 (by decide +kernel) rfl
theorem q3_191 : Cond.methodLink RX3 55 yX3_leadsOn ∈ BIG := bg3 191 (by decide +kernel) rfl
theorem q3_195 : Cond.methodLink RX3 58 yX3_wayGoes ∈ BIG := bg3 195 (by decide +kernel) rfl
theorem q3_34 : Cond.methodLink RX3 62 yX2_taking ∈ BIG := bg3 34 (by decide +kernel) rfl
theorem q1_82 : Cond.fieldLink RX3 66 "RoundPoint$Coast" "ones" "[I" ∈ BIG := bg1 82 (by decide +kernel) rfl
theorem q1_85 : Cond.fieldLink RX3 69 "RoundPoint$Coast" "others" "[I" ∈ BIG := bg1 85 (by decide +kernel) rfl
theorem q3_196 : Cond.methodLink RX3 72 Lib.Math.min.name ∈ BIG := bg3 196 (by decide +kernel) rfl
theorem q1_93 : Cond.fieldLink RX3 77 "RoundPoint$Coast" "firstHours" "[I" ∈ BIG := bg1 93 (by decide +kernel) rfl
theorem q1_97 : Cond.fieldLink RX3 80 "RoundPoint$Coast" "lastHours" "[I" ∈ BIG := bg1 97 (by decide +kernel) rfl
theorem q1_89 : Cond.fieldLink RX3 83 "RoundPoint$Coast" "heights" "[I" ∈ BIG := bg1 89 (by decide +kernel) rfl
theorem q3_205 : Cond.methodLink RX3 86 Lib.Math.max.name ∈ BIG := bg3 205 (by decide +kernel) rfl
theorem q1_80 : Cond.fieldLink RX3 89 "RoundPoint$Coast" "ways" "I" ∈ BIG := bg1 80 (by decide +kernel) rfl
theorem q1_152 : Cond.methodLink RX4 3 objectInit ∈ BIG := bg1 152 (by decide +kernel) rfl
theorem q1_154 : Cond.fieldLink RX4 9 "RoundPoint$Sea" "tideRow" "[I" ∈ BIG := bg1 154 (by decide +kernel) rfl
theorem q1_155 : Cond.fieldLink RX4 15 "RoundPoint$Sea" "row" "[I" ∈ BIG := bg1 155 (by decide +kernel) rfl
theorem q1_157 : Cond.fieldLink RX4 18 "RoundPoint$Sea" "tideOfRow" "I" ∈ BIG := bg1 157 (by decide +kernel) rfl
theorem q1_153 : Cond.fieldLink RX4 22 "RoundPoint$Sea" "coast" "LRoundPoint$Coast;" ∈ BIG := bg1 153 (by decide +kernel) rfl
theorem q1_158 : Cond.fieldLink RX4 26 "RoundPoint$Sea" "windsOfRow" "I" ∈ BIG := bg1 158 (by decide +kernel) rfl
theorem q3_16 : Cond.methodLink RX4 29 yX2_tideAt ∈ BIG := bg3 16 (by decide +kernel) rfl
theorem q3_17 : Cond.methodLink RX4 35 yJ7_fill_53178 ∈ BIG := bg3 17 (by decide +kernel) rfl
theorem q1_64 : Cond.fieldLink RX4 41 "RoundPoint$Coast" "winds" "I" ∈ BIG := bg1 64 (by decide +kernel) rfl
theorem q1_67 : Cond.fieldLink RX4 44 "RoundPoint$Coast" "lifts" "[I" ∈ BIG := bg1 67 (by decide +kernel) rfl
theorem q1_69 : Cond.fieldLink RX4 47 "RoundPoint$Coast" "earlies" "[I" ∈ BIG := bg1 69 (by decide +kernel) rfl
theorem q3_20 : Cond.methodLink RX4 50 yX4_raise ∈ BIG := bg3 20 (by decide +kernel) rfl
theorem q3_24 : Cond.methodLink RX4 54 Lib.Math.min.name ∈ BIG := bg3 24 (by decide +kernel) rfl
theorem q3_25 : Cond.methodLink RX4 59 Lib.Math.max.name ∈ BIG := bg3 25 (by decide +kernel) rfl
theorem q1_175 : Cond.methodLink RX5 3 objectInit ∈ BIG := bg1 175 (by decide +kernel) rfl
theorem q1_178 : Cond.fieldLink RX5 9 "RoundPoint$Search" "states" "[J" ∈ BIG := bg1 178 (by decide +kernel) rfl
theorem q1_179 : Cond.fieldLink RX5 15 "RoundPoint$Search" "otherStates" "[J" ∈ BIG := bg1 179 (by decide +kernel) rfl
theorem q1_180 : Cond.fieldLink RX5 18 "RoundPoint$Search" "taking" "[I" ∈ BIG := bg1 180 (by decide +kernel) rfl
theorem q1_181 : Cond.fieldLink RX5 22 "RoundPoint$Search" "above" "[I" ∈ BIG := bg1 181 (by decide +kernel) rfl
theorem q1_176 : Cond.fieldLink RX5 25 "RoundPoint$Search" "coast" "LRoundPoint$Coast;" ∈ BIG := bg1 176 (by decide +kernel) rfl
theorem q1_177 : Cond.fieldLink RX5 29 "RoundPoint$Search" "water" "LRoundPoint$Sea;" ∈ BIG := bg1 177 (by decide +kernel) rfl
theorem q3_47 : Cond.methodLink RX5 33 yX4_rise ∈ BIG := bg3 47 (by decide +kernel) rfl
theorem q3_48 : Cond.constantLong RX5 39 (-1) ∈ BIG := bg3 48 (by decide +kernel) rfl
theorem q1_182 : Cond.fieldLink RX5 41 "RoundPoint$Search" "mayWait" "J" ∈ BIG := bg1 182 (by decide +kernel) rfl
theorem q1_77 : Cond.fieldLink RX5 45 "RoundPoint$Coast" "ways" "I" ∈ BIG := bg1 77 (by decide +kernel) rfl
theorem q3_49 : Cond.methodLink RX5 51 yX2_taking ∈ BIG := bg3 49 (by decide +kernel) rfl
theorem q3_54 : Cond.constantLong RX5 54 (15) ∈ BIG := bg3 54 (by decide +kernel) rfl
theorem q3_55 : Cond.methodLink RX5 56 yX5_spread ∈ BIG := bg3 55 (by decide +kernel) rfl
theorem q3_67 : Cond.methodLink RX5 60 Lib.Math.max.name ∈ BIG := bg3 67 (by decide +kernel) rfl
theorem q1_72 : Cond.fieldLink RX5 66 "RoundPoint$Coast" "places" "I" ∈ BIG := bg1 72 (by decide +kernel) rfl
theorem q3_59 : Cond.methodLink RX5 69 yJ7_fill_d0a16 ∈ BIG := bg3 59 (by decide +kernel) rfl
theorem q3_62 : Cond.methodLink RX5 75 yJ7_fill_53178 ∈ BIG := bg3 62 (by decide +kernel) rfl
theorem q3_63 : Cond.methodLink RX5 78 yX5_waiting ∈ BIG := bg3 63 (by decide +kernel) rfl
theorem q3_68 : Cond.methodLink RX5 82 yX5_leave ∈ BIG := bg3 68 (by decide +kernel) rfl
theorem q1_156 : Cond.fieldLink RX5 86 "RoundPoint$Sea" "row" "[I" ∈ BIG := bg1 156 (by decide +kernel) rfl
theorem q1_76 : Cond.fieldLink RX5 89 "RoundPoint$Coast" "safes" "[I" ∈ BIG := bg1 76 (by decide +kernel) rfl
theorem q1_83 : Cond.fieldLink RX5 92 "RoundPoint$Coast" "ones" "[I" ∈ BIG := bg1 83 (by decide +kernel) rfl
theorem q1_86 : Cond.fieldLink RX5 95 "RoundPoint$Coast" "others" "[I" ∈ BIG := bg1 86 (by decide +kernel) rfl
theorem q1_94 : Cond.fieldLink RX5 98 "RoundPoint$Coast" "firstHours" "[I" ∈ BIG := bg1 94 (by decide +kernel) rfl
theorem q1_99 : Cond.fieldLink RX5 101 "RoundPoint$Coast" "lastHours" "[I" ∈ BIG := bg1 99 (by decide +kernel) rfl
theorem q1_90 : Cond.fieldLink RX5 104 "RoundPoint$Coast" "heights" "[I" ∈ BIG := bg1 90 (by decide +kernel) rfl
theorem q3_72 : Cond.methodLink RX5 107 yX4_firstAbove ∈ BIG := bg3 72 (by decide +kernel) rfl
theorem q3_73 : Cond.methodLink RX5 110 Lib.Math.min.name ∈ BIG := bg3 73 (by decide +kernel) rfl
theorem q1_104 : Cond.fieldLink RX5 113 "RoundPoint$Coast" "dark" "I" ∈ BIG := bg1 104 (by decide +kernel) rfl
theorem q1_101 : Cond.fieldLink RX5 116 "RoundPoint$Coast" "dawn" "I" ∈ BIG := bg1 101 (by decide +kernel) rfl
theorem q3_82 : Cond.methodLink RX5 119 yX5_goodToLeave ∈ BIG := bg3 82 (by decide +kernel) rfl
theorem q2_52 : Cond.methodLink RX6 3 objectInit ∈ BIG := bg2 52 (by decide +kernel) rfl
theorem q2_53 : Cond.fieldLink RX6 11 "RoundPoint$Shelf" "holds" "I" ∈ BIG := bg2 53 (by decide +kernel) rfl
theorem q2_57 : Cond.fieldLink RX6 15 "RoundPoint$Shelf" "elements" "[J" ∈ BIG := bg2 57 (by decide +kernel) rfl
theorem q4_56 : Cond.methodLink RX6 19 Lib.Math.max.name ∈ BIG := bg4 56 (by decide +kernel) rfl
theorem q2_55 : Cond.fieldLink RX6 25 "RoundPoint$Shelf" "body" "I" ∈ BIG := bg2 55 (by decide +kernel) rfl
theorem q2_59 : Cond.fieldLink RX6 28 "RoundPoint$Shelf" "length" "I" ∈ BIG := bg2 59 (by decide +kernel) rfl
theorem q4_65 : Cond.methodLink RX6 31 yJ7_fill_d0a16 ∈ BIG := bg4 65 (by decide +kernel) rfl
theorem q1_27 : Cond.methodLink RX7 3 objectInit ∈ BIG := bg1 27 (by decide +kernel) rfl
theorem q1_28 : Cond.fieldLink RX7 9 "RoundPoint$Tape" "bytes" "[I" ∈ BIG := bg1 28 (by decide +kernel) rfl
theorem q1_31 : Cond.fieldLink RX7 15 "RoundPoint$Tape" "minutes" "[I" ∈ BIG := bg1 31 (by decide +kernel) rfl
theorem q1_33 : Cond.fieldLink RX7 18 "RoundPoint$Tape" "heights" "[I" ∈ BIG := bg1 33 (by decide +kernel) rfl
theorem q1_29 : Cond.fieldLink RX7 21 "RoundPoint$Tape" "length" "I" ∈ BIG := bg1 29 (by decide +kernel) rfl
theorem q1_37 : Cond.fieldLink RX7 25 "RoundPoint$Tape" "at" "I" ∈ BIG := bg1 37 (by decide +kernel) rfl
theorem q1_35 : Cond.fieldLink RX7 28 "RoundPoint$Tape" "points" "I" ∈ BIG := bg1 35 (by decide +kernel) rfl
theorem q2_116 : Cond.methodLink RX7 31 yX7_readMinute ∈ BIG := bg2 116 (by decide +kernel) rfl
theorem q2_128 : Cond.methodLink RX7 35 yX7_readHeight ∈ BIG := bg2 128 (by decide +kernel) rfl
theorem q2_120 : Cond.methodLink RX7 39 yX7_readNumber ∈ BIG := bg2 120 (by decide +kernel) rfl
theorem q2_124 : Cond.methodLink RX7 42 yX7_digitIsNext ∈ BIG := bg2 124 (by decide +kernel) rfl
theorem q1_19 : Cond.methodLink RX8 1 objectInit ∈ BIG := bg1 19 (by decide +kernel) rfl
theorem q1_22 : Cond.classLink RX8 7 RX7 ∈ BIG := bg1 22 (by decide +kernel) rfl
theorem q2_69 : Cond.fieldLink RX8 10 "RoundPoint" "tape" "LRoundPoint$Tape;" ∈ BIG := bg2 69 (by decide +kernel) rfl
theorem q1_52 : Cond.classLink RX8 16 RX2 ∈ BIG := bg1 52 (by decide +kernel) rfl
theorem q1_54 : Cond.methodLink RX8 18 yX2_init ∈ BIG := bg1 54 (by decide +kernel) rfl
theorem q2_70 : Cond.fieldLink RX8 19 "RoundPoint" "coast" "LRoundPoint$Coast;" ∈ BIG := bg2 70 (by decide +kernel) rfl
theorem q1_147 : Cond.classLink RX8 23 RX4 ∈ BIG := bg1 147 (by decide +kernel) rfl
theorem q1_149 : Cond.methodLink RX8 25 yX4_init ∈ BIG := bg1 149 (by decide +kernel) rfl
theorem q2_71 : Cond.fieldLink RX8 28 "RoundPoint" "water" "LRoundPoint$Sea;" ∈ BIG := bg2 71 (by decide +kernel) rfl
theorem q1_170 : Cond.classLink RX8 32 RX5 ∈ BIG := bg1 170 (by decide +kernel) rfl
theorem q1_172 : Cond.methodLink RX8 34 yX5_init ∈ BIG := bg1 172 (by decide +kernel) rfl
theorem q2_72 : Cond.fieldLink RX8 37 "RoundPoint" "search" "LRoundPoint$Search;" ∈ BIG := bg2 72 (by decide +kernel) rfl
theorem q1_199 : Cond.classLink RX8 41 RX3 ∈ BIG := bg1 199 (by decide +kernel) rfl
theorem q1_201 : Cond.methodLink RX8 43 yX3_init ∈ BIG := bg1 201 (by decide +kernel) rfl
theorem q2_73 : Cond.fieldLink RX8 44 "RoundPoint" "plan" "LRoundPoint$Plan;" ∈ BIG := bg2 73 (by decide +kernel) rfl
theorem q1_230 : Cond.classLink RX8 48 RX1 ∈ BIG := bg1 230 (by decide +kernel) rfl
theorem q1_232 : Cond.methodLink RX8 50 yX1_init ∈ BIG := bg1 232 (by decide +kernel) rfl
theorem q2_74 : Cond.fieldLink RX8 51 "RoundPoint" "changes" "LRoundPoint$Changes;" ∈ BIG := bg2 74 (by decide +kernel) rfl
theorem q2_20 : Cond.classLink RX8 55 RX0 ∈ BIG := bg2 20 (by decide +kernel) rfl
theorem q2_75 : Cond.fieldLink RX8 58 "RoundPoint" "bodies" "LRoundPoint$Bodies;" ∈ BIG := bg2 75 (by decide +kernel) rfl
theorem q2_46 : Cond.classLink RX8 62 RX6 ∈ BIG := bg2 46 (by decide +kernel) rfl
theorem q2_76 : Cond.fieldLink RX8 64 "RoundPoint" "shelves" "[LRoundPoint$Shelf;" ∈ BIG := bg2 76 (by decide +kernel) rfl
theorem q2_77 : Cond.fieldLink RX8 68 "RoundPoint" "marks" "[I" ∈ BIG := bg2 77 (by decide +kernel) rfl
theorem q2_104 : Cond.methodLink RX8 73 yX7_add ∈ BIG := bg2 104 (by decide +kernel) rfl
theorem q1_30 : Cond.fieldLink RX8 77 "RoundPoint$Tape" "length" "I" ∈ BIG := bg1 30 (by decide +kernel) rfl
theorem q1_59 : Cond.fieldLink RX8 81 "RoundPoint$Coast" "tides" "I" ∈ BIG := bg1 59 (by decide +kernel) rfl
theorem q2_112 : Cond.methodLink RX8 84 yX7_read ∈ BIG := bg2 112 (by decide +kernel) rfl
theorem q1_32 : Cond.fieldLink RX8 88 "RoundPoint$Tape" "minutes" "[I" ∈ BIG := bg1 32 (by decide +kernel) rfl
theorem q1_34 : Cond.fieldLink RX8 91 "RoundPoint$Tape" "heights" "[I" ∈ BIG := bg1 34 (by decide +kernel) rfl
theorem q1_36 : Cond.fieldLink RX8 94 "RoundPoint$Tape" "points" "I" ∈ BIG := bg1 36 (by decide +kernel) rfl
theorem q2_132 : Cond.methodLink RX8 97 yX2_addTide ∈ BIG := bg2 132 (by decide +kernel) rfl
theorem q2_143 : Cond.methodLink RX8 101 yX8_within ∈ BIG := bg2 143 (by decide +kernel) rfl
theorem q1_65 : Cond.fieldLink RX8 105 "RoundPoint$Coast" "winds" "I" ∈ BIG := bg1 65 (by decide +kernel) rfl
theorem q2_146 : Cond.methodLink RX8 108 yX2_addWind ∈ BIG := bg2 146 (by decide +kernel) rfl
theorem q2_154 : Cond.methodLink RX8 112 yX8_isMinute ∈ BIG := bg2 154 (by decide +kernel) rfl
theorem q2_157 : Cond.constant RX8 116 (-2000000000) ∈ BIG := bg2 157 (by decide +kernel) rfl
theorem q2_158 : Cond.methodLink RX8 117 yX2_seaAt ∈ BIG := bg2 158 (by decide +kernel) rfl
theorem q1_71 : Cond.fieldLink RX8 120 "RoundPoint$Coast" "places" "I" ∈ BIG := bg1 71 (by decide +kernel) rfl
theorem q1_75 : Cond.fieldLink RX8 123 "RoundPoint$Coast" "safes" "[I" ∈ BIG := bg1 75 (by decide +kernel) rfl
theorem q2_180 : Cond.methodLink RX8 126 yX8_isPair ∈ BIG := bg2 180 (by decide +kernel) rfl
theorem q1_79 : Cond.fieldLink RX8 129 "RoundPoint$Coast" "ways" "I" ∈ BIG := bg1 79 (by decide +kernel) rfl
theorem q2_188 : Cond.methodLink RX8 132 yX2_addWay ∈ BIG := bg2 188 (by decide +kernel) rfl
theorem q2_184 : Cond.methodLink RX8 136 yX8_isPlace ∈ BIG := bg2 184 (by decide +kernel) rfl
theorem q2_196 : Cond.methodLink RX8 139 yX1_tell ∈ BIG := bg2 196 (by decide +kernel) rfl
theorem q2_213 : Cond.methodLink RX8 142 yX8_isWay ∈ BIG := bg2 213 (by decide +kernel) rfl
theorem q1_98 : Cond.fieldLink RX8 145 "RoundPoint$Coast" "lastHours" "[I" ∈ BIG := bg1 98 (by decide +kernel) rfl
theorem q1_95 : Cond.fieldLink RX8 148 "RoundPoint$Coast" "firstHours" "[I" ∈ BIG := bg1 95 (by decide +kernel) rfl
theorem q2_221 : Cond.methodLink RX8 151 yX8_isSort ∈ BIG := bg2 221 (by decide +kernel) rfl
theorem q1_105 : Cond.fieldLink RX8 154 "RoundPoint$Coast" "dark" "I" ∈ BIG := bg1 105 (by decide +kernel) rfl
theorem q1_102 : Cond.fieldLink RX8 157 "RoundPoint$Coast" "dawn" "I" ∈ BIG := bg1 102 (by decide +kernel) rfl
theorem q2_232 : Cond.methodLink RX8 160 yX2_taking ∈ BIG := bg2 232 (by decide +kernel) rfl
theorem q3_0 : Cond.methodLink RX8 163 yX8_isSortAndTide ∈ BIG := bg3 0 (by decide +kernel) rfl
theorem q3_4 : Cond.methodLink RX8 166 yX8_isWinds ∈ BIG := bg3 4 (by decide +kernel) rfl
theorem q3_12 : Cond.methodLink RX8 169 yX4_rise ∈ BIG := bg3 12 (by decide +kernel) rfl
theorem q3_26 : Cond.methodLink RX8 173 yX3_wayGoes ∈ BIG := bg3 26 (by decide +kernel) rfl
theorem q3_39 : Cond.methodLink RX8 177 yX8_isFrom ∈ BIG := bg3 39 (by decide +kernel) rfl
theorem q3_43 : Cond.methodLink RX8 180 yX5_prepare ∈ BIG := bg3 43 (by decide +kernel) rfl
theorem q3_50 : Cond.methodLink RX8 183 yX5_soonest ∈ BIG := bg3 50 (by decide +kernel) rfl
theorem q3_78 : Cond.methodLink RX8 186 yX5_latest ∈ BIG := bg3 78 (by decide +kernel) rfl
theorem q3_90 : Cond.methodLink RX8 190 yX8_bestSet ∈ BIG := bg3 90 (by decide +kernel) rfl
theorem q3_106 : Cond.methodLink RX8 193 yX2_thousandths ∈ BIG := bg3 106 (by decide +kernel) rfl
theorem q3_8 : Cond.methodLink RX8 197 yX2_allWinds ∈ BIG := bg3 8 (by decide +kernel) rfl
theorem q3_120 : Cond.methodLink RX8 200 yX5_meeting ∈ BIG := bg3 120 (by decide +kernel) rfl
theorem q3_128 : Cond.methodLink RX8 203 yX8_soonOrDay ∈ BIG := bg3 128 (by decide +kernel) rfl
theorem q3_136 : Cond.methodLink RX8 206 yX8_soonLifted ∈ BIG := bg3 136 (by decide +kernel) rfl
theorem q3_144 : Cond.methodLink RX8 209 yX5_barWaiting ∈ BIG := bg3 144 (by decide +kernel) rfl
theorem q3_152 : Cond.methodLink RX8 213 yX8_isMove ∈ BIG := bg3 152 (by decide +kernel) rfl
theorem q3_156 : Cond.methodLink RX8 216 yX3_add ∈ BIG := bg3 156 (by decide +kernel) rfl
theorem q1_209 : Cond.fieldLink RX8 218 "RoundPoint$Plan" "count" "I" ∈ BIG := bg1 209 (by decide +kernel) rfl
theorem q3_164 : Cond.methodLink RX8 221 yX8_isShelf ∈ BIG := bg3 164 (by decide +kernel) rfl
theorem q2_54 : Cond.fieldLink RX8 224 "RoundPoint$Shelf" "holds" "I" ∈ BIG := bg2 54 (by decide +kernel) rfl
theorem q3_167 : Cond.methodLink RX8 227 yX6_has ∈ BIG := bg3 167 (by decide +kernel) rfl
theorem q2_58 : Cond.fieldLink RX8 230 "RoundPoint$Shelf" "elements" "[J" ∈ BIG := bg2 58 (by decide +kernel) rfl
theorem q3_179 : Cond.methodLink RX8 234 yX3_walk ∈ BIG := bg3 179 (by decide +kernel) rfl
theorem q1_213 : Cond.fieldLink RX8 237 "RoundPoint$Plan" "minute" "I" ∈ BIG := bg1 213 (by decide +kernel) rfl
theorem q1_211 : Cond.fieldLink RX8 240 "RoundPoint$Plan" "place" "I" ∈ BIG := bg1 211 (by decide +kernel) rfl
theorem q3_201 : Cond.methodLink RX8 243 yX3_shutIn ∈ BIG := bg3 201 (by decide +kernel) rfl
theorem q2_78 : Cond.fieldLink RX8 246 "RoundPoint" "markCount" "I" ∈ BIG := bg2 78 (by decide +kernel) rfl
theorem q3_218 : Cond.methodLink RX8 249 yX8_marksCanHaveBeen ∈ BIG := bg3 218 (by decide +kernel) rfl
theorem q3_234 : Cond.methodLink RX8 253 yX1_back ∈ BIG := bg3 234 (by decide +kernel) rfl
theorem q2_2 : Cond.fieldLink RX8 256 "RoundPoint$Changes" "done" "I" ∈ BIG := bg2 2 (by decide +kernel) rfl
theorem q4_2 : Cond.methodLink RX8 259 yX1_again ∈ BIG := bg4 2 (by decide +kernel) rfl
theorem q2_4 : Cond.fieldLink RX8 262 "RoundPoint$Changes" "known" "I" ∈ BIG := bg2 4 (by decide +kernel) rfl
theorem q2_29 : Cond.fieldLink RX8 265 "RoundPoint$Bodies" "count" "I" ∈ BIG := bg2 29 (by decide +kernel) rfl
theorem q4_10 : Cond.methodLink RX8 266 yX0_add ∈ BIG := bg4 10 (by decide +kernel) rfl
theorem q4_18 : Cond.methodLink RX8 268 yX0_perform ∈ BIG := bg4 18 (by decide +kernel) rfl
theorem q2_33 : Cond.fieldLink RX8 271 "RoundPoint$Bodies" "ran" "I" ∈ BIG := bg2 33 (by decide +kernel) rfl
theorem q4_47 : Cond.methodLink RX8 274 Lib.Math.min.name ∈ BIG := bg4 47 (by decide +kernel) rfl
theorem q2_31 : Cond.fieldLink RX8 279 "RoundPoint$Bodies" "began" "[I" ∈ BIG := bg2 31 (by decide +kernel) rfl
theorem q4_52 : Cond.methodLink RX8 282 yX6_holdBody ∈ BIG := bg4 52 (by decide +kernel) rfl
theorem q4_61 : Cond.methodLink RX8 285 yX6_holdRow ∈ BIG := bg4 61 (by decide +kernel) rfl
theorem q4_70 : Cond.methodLink RX8 288 yX8_refusalOfElement ∈ BIG := bg4 70 (by decide +kernel) rfl
theorem q4_74 : Cond.methodLink RX8 291 yX6_kept ∈ BIG := bg4 74 (by decide +kernel) rfl
theorem q4_82 : Cond.constantLong RX8 297 (-9223372036854775808) ∈ BIG := bg4 82 (by decide +kernel) rfl
theorem q4_87 : Cond.methodLink RX8 299 yX6_hasRun ∈ BIG := bg4 87 (by decide +kernel) rfl
theorem q4_91 : Cond.methodLink RX8 302 arraycopyName ∈ BIG := bg4 91 (by decide +kernel) rfl
theorem q2_27 : Cond.fieldLink RX8 308 "RoundPoint$Bodies" "kinds" "[I" ∈ BIG := bg2 27 (by decide +kernel) rfl
theorem q2_56 : Cond.fieldLink RX8 311 "RoundPoint$Shelf" "body" "I" ∈ BIG := bg2 56 (by decide +kernel) rfl
theorem q4_96 : Cond.methodLink RX8 314 yX0_isOrUnder ∈ BIG := bg4 96 (by decide +kernel) rfl
theorem q1_91 : Cond.fieldLink RX8 317 "RoundPoint$Coast" "heights" "[I" ∈ BIG := bg1 91 (by decide +kernel) rfl
theorem q3_94 : Cond.methodLink RX8 318 yX8_reachedByDark ∈ BIG := bg3 94 (by decide +kernel) rfl
theorem q3_98 : Cond.methodLink RX8 321 yX8_likeliestUntried ∈ BIG := bg3 98 (by decide +kernel) rfl
theorem q3_102 : Cond.methodLink RX8 324 yX2_chanceOf ∈ BIG := bg3 102 (by decide +kernel) rfl
theorem q3_222 : Cond.methodLink RX8 327 yX5_isThere ∈ BIG := bg3 222 (by decide +kernel) rfl
theorem q5_90 : Cond.constantLong RX9 3 (1439) ∈ BIG := bg5 90 (by decide +kernel) rfl
theorem q5_48 : Cond.methodLink RX9 5 yX9_within ∈ BIG := bg5 48 (by decide +kernel) rfl
theorem q4_108 : Cond.methodLink RX9 9 objectInit ∈ BIG := bg4 108 (by decide +kernel) rfl
theorem q4_111 : Cond.fieldLink RX9 15 "RoundPointModel" "may" "[I" ∈ BIG := bg4 111 (by decide +kernel) rfl
theorem q4_112 : Cond.fieldLink RX9 19 "RoundPointModel" "changeAt" "[I" ∈ BIG := bg4 112 (by decide +kernel) rfl
theorem q4_113 : Cond.fieldLink RX9 22 "RoundPointModel" "changeWas" "[I" ∈ BIG := bg4 113 (by decide +kernel) rfl
theorem q4_114 : Cond.fieldLink RX9 25 "RoundPointModel" "changeIs" "[I" ∈ BIG := bg4 114 (by decide +kernel) rfl
theorem q4_117 : Cond.fieldLink RX9 28 "RoundPointModel" "tape" "[I" ∈ BIG := bg4 117 (by decide +kernel) rfl
theorem q4_120 : Cond.fieldLink RX9 31 "RoundPointModel" "pointMany" "[I" ∈ BIG := bg4 120 (by decide +kernel) rfl
theorem q4_121 : Cond.fieldLink RX9 34 "RoundPointModel" "pointMinute" "[I" ∈ BIG := bg4 121 (by decide +kernel) rfl
theorem q4_122 : Cond.fieldLink RX9 37 "RoundPointModel" "pointHeight" "[I" ∈ BIG := bg4 122 (by decide +kernel) rfl
theorem q4_123 : Cond.fieldLink RX9 40 "RoundPointModel" "readMinute" "[I" ∈ BIG := bg4 123 (by decide +kernel) rfl
theorem q4_124 : Cond.fieldLink RX9 43 "RoundPointModel" "readHeight" "[I" ∈ BIG := bg4 124 (by decide +kernel) rfl
theorem q4_128 : Cond.fieldLink RX9 46 "RoundPointModel" "lifts" "[I" ∈ BIG := bg4 128 (by decide +kernel) rfl
theorem q4_129 : Cond.fieldLink RX9 49 "RoundPointModel" "early" "[I" ∈ BIG := bg4 129 (by decide +kernel) rfl
theorem q4_130 : Cond.fieldLink RX9 52 "RoundPointModel" "chance" "[I" ∈ BIG := bg4 130 (by decide +kernel) rfl
theorem q4_133 : Cond.fieldLink RX9 55 "RoundPointModel" "wayA" "[I" ∈ BIG := bg4 133 (by decide +kernel) rfl
theorem q4_134 : Cond.fieldLink RX9 58 "RoundPointModel" "wayB" "[I" ∈ BIG := bg4 134 (by decide +kernel) rfl
theorem q4_135 : Cond.fieldLink RX9 61 "RoundPointModel" "minutesOf" "[I" ∈ BIG := bg4 135 (by decide +kernel) rfl
theorem q4_139 : Cond.fieldLink RX9 64 "RoundPointModel" "highest" "[I" ∈ BIG := bg4 139 (by decide +kernel) rfl
theorem q4_109 : Cond.constant RX9 67 (34584) ∈ BIG := bg4 109 (by decide +kernel) rfl
theorem q4_140 : Cond.fieldLink RX9 68 "RoundPointModel" "tooHigh" "[I" ∈ BIG := bg4 140 (by decide +kernel) rfl
theorem q4_141 : Cond.fieldLink RX9 71 "RoundPointModel" "isDry" "[Z" ∈ BIG := bg4 141 (by decide +kernel) rfl
theorem q4_142 : Cond.fieldLink RX9 75 "RoundPointModel" "freeWay" "I" ∈ BIG := bg4 142 (by decide +kernel) rfl
theorem q4_143 : Cond.fieldLink RX9 79 "RoundPointModel" "moreWay" "I" ∈ BIG := bg4 143 (by decide +kernel) rfl
theorem q4_145 : Cond.fieldLink RX9 82 "RoundPointModel" "noWait" "I" ∈ BIG := bg4 145 (by decide +kernel) rfl
theorem q4_110 : Cond.constant RX9 85 (69120) ∈ BIG := bg4 110 (by decide +kernel) rfl
theorem q4_146 : Cond.fieldLink RX9 86 "RoundPointModel" "reached" "[Z" ∈ BIG := bg4 146 (by decide +kernel) rfl
theorem q4_147 : Cond.fieldLink RX9 89 "RoundPointModel" "firstParty" "[Z" ∈ BIG := bg4 147 (by decide +kernel) rfl
theorem q4_149 : Cond.fieldLink RX9 92 "RoundPointModel" "moveOf" "[I" ∈ BIG := bg4 149 (by decide +kernel) rfl
theorem q4_154 : Cond.fieldLink RX9 95 "RoundPointModel" "markOf" "[I" ∈ BIG := bg4 154 (by decide +kernel) rfl
theorem q4_156 : Cond.fieldLink RX9 98 "RoundPointModel" "bodyKind" "[I" ∈ BIG := bg4 156 (by decide +kernel) rfl
theorem q4_157 : Cond.fieldLink RX9 101 "RoundPointModel" "trace" "[I" ∈ BIG := bg4 157 (by decide +kernel) rfl
theorem q4_161 : Cond.fieldLink RX9 104 "RoundPointModel" "shelf" "[I" ∈ BIG := bg4 161 (by decide +kernel) rfl
theorem q4_162 : Cond.fieldLink RX9 107 "RoundPointModel" "many" "[I" ∈ BIG := bg4 162 (by decide +kernel) rfl
theorem q4_163 : Cond.fieldLink RX9 110 "RoundPointModel" "items" "[J" ∈ BIG := bg4 163 (by decide +kernel) rfl
theorem q4_164 : Cond.fieldLink RX9 114 "RoundPointModel" "carried" "[J" ∈ BIG := bg4 164 (by decide +kernel) rfl
theorem q4_127 : Cond.fieldLink RX9 117 "RoundPointModel" "winds" "I" ∈ BIG := bg4 127 (by decide +kernel) rfl
theorem q4_137 : Cond.fieldLink RX9 120 "RoundPointModel" "dark" "I" ∈ BIG := bg4 137 (by decide +kernel) rfl
theorem q4_116 : Cond.fieldLink RX9 123 "RoundPointModel" "done" "I" ∈ BIG := bg4 116 (by decide +kernel) rfl
theorem q4_115 : Cond.fieldLink RX9 126 "RoundPointModel" "keptMany" "I" ∈ BIG := bg4 115 (by decide +kernel) rfl
theorem q5_47 : Cond.constantLong RX9 129 (4) ∈ BIG := bg5 47 (by decide +kernel) rfl
theorem q4_118 : Cond.fieldLink RX9 131 "RoundPointModel" "tapeMany" "I" ∈ BIG := bg4 118 (by decide +kernel) rfl
theorem q4_126 : Cond.fieldLink RX9 134 "RoundPointModel" "at" "I" ∈ BIG := bg4 126 (by decide +kernel) rfl
theorem q5_63 : Cond.methodLink RX9 137 yX9_byteAt ∈ BIG := bg5 63 (by decide +kernel) rfl
theorem q4_125 : Cond.fieldLink RX9 141 "RoundPointModel" "readMany" "I" ∈ BIG := bg4 125 (by decide +kernel) rfl
theorem q5_59 : Cond.methodLink RX9 144 yX9_number ∈ BIG := bg5 59 (by decide +kernel) rfl
theorem q4_119 : Cond.fieldLink RX9 148 "RoundPointModel" "tides" "I" ∈ BIG := bg4 119 (by decide +kernel) rfl
theorem q5_55 : Cond.methodLink RX9 151 yX9_readPoints ∈ BIG := bg5 55 (by decide +kernel) rfl
theorem q5_71 : Cond.constantLong RX9 155 (-99) ∈ BIG := bg5 71 (by decide +kernel) rfl
theorem q5_72 : Cond.constantLong RX9 157 (99) ∈ BIG := bg5 72 (by decide +kernel) rfl
theorem q5_73 : Cond.constantLong RX9 159 (-60) ∈ BIG := bg5 73 (by decide +kernel) rfl
theorem q5_74 : Cond.constantLong RX9 161 (60) ∈ BIG := bg5 74 (by decide +kernel) rfl
theorem q5_95 : Cond.methodLink RX9 163 yX9_tideAt ∈ BIG := bg5 95 (by decide +kernel) rfl
theorem q5_79 : Cond.methodLink RX9 167 yX9_isTide ∈ BIG := bg5 79 (by decide +kernel) rfl
theorem q5_83 : Cond.methodLink RX9 171 yX9_isWind ∈ BIG := bg5 83 (by decide +kernel) rfl
theorem q5_87 : Cond.methodLink RX9 174 yX9_isMinute ∈ BIG := bg5 87 (by decide +kernel) rfl
theorem q5_91 : Cond.methodLink RX9 177 yX9_seaAt ∈ BIG := bg5 91 (by decide +kernel) rfl
theorem q5_99 : Cond.constant RX9 180 (-2000000000) ∈ BIG := bg5 99 (by decide +kernel) rfl
theorem q4_131 : Cond.fieldLink RX9 181 "RoundPointModel" "places" "I" ∈ BIG := bg4 131 (by decide +kernel) rfl
theorem q4_132 : Cond.fieldLink RX9 184 "RoundPointModel" "ways" "I" ∈ BIG := bg4 132 (by decide +kernel) rfl
theorem q5_104 : Cond.constantLong RX9 187 (999) ∈ BIG := bg5 104 (by decide +kernel) rfl
theorem q5_113 : Cond.methodLink RX9 189 yX9_isPlace ∈ BIG := bg5 113 (by decide +kernel) rfl
theorem q5_109 : Cond.methodLink RX9 192 yX9_areTwo ∈ BIG := bg5 109 (by decide +kernel) rfl
theorem q5_117 : Cond.constantLong RX9 195 (90) ∈ BIG := bg5 117 (by decide +kernel) rfl
theorem q5_122 : Cond.methodLink RX9 197 yX9_becomes ∈ BIG := bg5 122 (by decide +kernel) rfl
theorem q5_130 : Cond.methodLink RX9 200 yX9_isWay ∈ BIG := bg5 130 (by decide +kernel) rfl
theorem q5_141 : Cond.constantLong RX9 203 (3) ∈ BIG := bg5 141 (by decide +kernel) rfl
theorem q5_138 : Cond.methodLink RX9 205 yX9_isSort ∈ BIG := bg5 138 (by decide +kernel) rfl
theorem q5_142 : Cond.constantLong RX9 208 (50) ∈ BIG := bg5 142 (by decide +kernel) rfl
theorem q5_143 : Cond.constantLong RX9 210 (400) ∈ BIG := bg5 143 (by decide +kernel) rfl
theorem q4_136 : Cond.fieldLink RX9 212 "RoundPointModel" "dawn" "I" ∈ BIG := bg4 136 (by decide +kernel) rfl
theorem q5_152 : Cond.methodLink RX9 215 yX9_takesOf ∈ BIG := bg5 152 (by decide +kernel) rfl
theorem q4_138 : Cond.fieldLink RX9 218 "RoundPointModel" "sortNow" "I" ∈ BIG := bg4 138 (by decide +kernel) rfl
theorem q4_144 : Cond.fieldLink RX9 221 "RoundPointModel" "more" "I" ∈ BIG := bg4 144 (by decide +kernel) rfl
theorem q5_196 : Cond.methodLink RX9 224 yX9_waits ∈ BIG := bg5 196 (by decide +kernel) rfl
theorem q5_189 : Cond.methodLink RX9 228 yX9_stateOf ∈ BIG := bg5 189 (by decide +kernel) rfl
theorem q5_200 : Cond.methodLink RX9 231 yX9_otherEnd ∈ BIG := bg5 200 (by decide +kernel) rfl
theorem q5_173 : Cond.methodLink RX9 234 yX9_goes ∈ BIG := bg5 173 (by decide +kernel) rfl
theorem q5_169 : Cond.methodLink RX9 238 yX9_layOut ∈ BIG := bg5 169 (by decide +kernel) rfl
theorem q5_192 : Cond.methodLink RX9 242 yX9_spread ∈ BIG := bg5 192 (by decide +kernel) rfl
theorem q5_208 : Cond.methodLink RX9 246 yX9_isAt ∈ BIG := bg5 208 (by decide +kernel) rfl
theorem q5_160 : Cond.methodLink RX9 249 yX9_isSt ∈ BIG := bg5 160 (by decide +kernel) rfl
theorem q5_164 : Cond.methodLink RX9 252 yX9_areWinds ∈ BIG := bg5 164 (by decide +kernel) rfl
theorem q5_168 : Cond.constantLong RX9 255 (2) ∈ BIG := bg5 168 (by decide +kernel) rfl
theorem q5_181 : Cond.methodLink RX9 257 yX9_isFrom ∈ BIG := bg5 181 (by decide +kernel) rfl
theorem q5_185 : Cond.methodLink RX9 260 yX9_reach ∈ BIG := bg5 185 (by decide +kernel) rfl
theorem q5_204 : Cond.methodLink RX9 263 yX9_soonAt ∈ BIG := bg5 204 (by decide +kernel) rfl
theorem q5_224 : Cond.methodLink RX9 267 yX9_comesFrom ∈ BIG := bg5 224 (by decide +kernel) rfl
theorem q5_220 : Cond.methodLink RX9 270 yX9_goBack ∈ BIG := bg5 220 (by decide +kernel) rfl
theorem q5_216 : Cond.methodLink RX9 273 yX9_lastFrom ∈ BIG := bg5 216 (by decide +kernel) rfl
theorem q5_232 : Cond.methodLink RX9 276 yX9_allWinds ∈ BIG := bg5 232 (by decide +kernel) rfl
theorem q5_236 : Cond.methodLink RX9 279 yX9_chancesOf ∈ BIG := bg5 236 (by decide +kernel) rfl
theorem q6_0 : Cond.methodLink RX9 282 yX9_byDark ∈ BIG := bg6 0 (by decide +kernel) rfl
theorem q6_16 : Cond.methodLink RX9 286 yX9_soonOrNever ∈ BIG := bg6 16 (by decide +kernel) rfl
theorem q6_24 : Cond.methodLink RX9 289 yX9_isSooner ∈ BIG := bg6 24 (by decide +kernel) rfl
theorem q6_36 : Cond.constantLong RX9 293 (101) ∈ BIG := bg6 36 (by decide +kernel) rfl
theorem q6_37 : Cond.constantLong RX9 295 (340) ∈ BIG := bg6 37 (by decide +kernel) rfl
theorem q4_148 : Cond.fieldLink RX9 297 "RoundPointModel" "moves" "I" ∈ BIG := bg4 148 (by decide +kernel) rfl
theorem q6_42 : Cond.methodLink RX9 300 yX9_isShelf ∈ BIG := bg6 42 (by decide +kernel) rfl
theorem q6_46 : Cond.constantLong RX9 303 (12) ∈ BIG := bg6 46 (by decide +kernel) rfl
theorem q6_47 : Cond.methodLink RX9 305 yX9_move ∈ BIG := bg6 47 (by decide +kernel) rfl
theorem q4_150 : Cond.fieldLink RX9 308 "RoundPointModel" "isPlaceNow" "I" ∈ BIG := bg4 150 (by decide +kernel) rfl
theorem q4_151 : Cond.fieldLink RX9 311 "RoundPointModel" "isMinuteNow" "I" ∈ BIG := bg4 151 (by decide +kernel) rfl
theorem q4_152 : Cond.fieldLink RX9 314 "RoundPointModel" "isWearyNow" "I" ∈ BIG := bg4 152 (by decide +kernel) rfl
theorem q6_60 : Cond.methodLink RX9 317 yX9_doesMove ∈ BIG := bg6 60 (by decide +kernel) rfl
theorem q6_56 : Cond.methodLink RX9 320 yX9_goPlan ∈ BIG := bg6 56 (by decide +kernel) rfl
theorem q4_153 : Cond.fieldLink RX9 323 "RoundPointModel" "marks" "I" ∈ BIG := bg4 153 (by decide +kernel) rfl
theorem q4_155 : Cond.fieldLink RX9 326 "RoundPointModel" "bodies" "I" ∈ BIG := bg4 155 (by decide +kernel) rfl
theorem q6_88 : Cond.constantLong RX9 329 (6) ∈ BIG := bg6 88 (by decide +kernel) rfl
theorem q4_158 : Cond.fieldLink RX9 331 "RoundPointModel" "ran" "I" ∈ BIG := bg4 158 (by decide +kernel) rfl
theorem q6_101 : Cond.methodLink RX9 334 yX9_begins ∈ BIG := bg6 101 (by decide +kernel) rfl
theorem q6_97 : Cond.methodLink RX9 338 yX9_goesAs ∈ BIG := bg6 97 (by decide +kernel) rfl
theorem q4_160 : Cond.fieldLink RX9 341 "RoundPointModel" "ownNumber" "I" ∈ BIG := bg4 160 (by decide +kernel) rfl
theorem q6_105 : Cond.methodLink RX9 344 yX9_waitsAs ∈ BIG := bg6 105 (by decide +kernel) rfl
theorem q4_159 : Cond.fieldLink RX9 347 "RoundPointModel" "ownKind" "I" ∈ BIG := bg4 159 (by decide +kernel) rfl
theorem q6_109 : Cond.methodLink RX9 350 yX9_wetsAs ∈ BIG := bg6 109 (by decide +kernel) rfl
theorem q6_113 : Cond.methodLink RX9 353 yX9_tellsAs ∈ BIG := bg6 113 (by decide +kernel) rfl
theorem q6_93 : Cond.methodLink RX9 356 yX9_isBody ∈ BIG := bg6 93 (by decide +kernel) rfl
theorem q6_45 : Cond.constantLong RX9 359 (5) ∈ BIG := bg6 45 (by decide +kernel) rfl
theorem q6_133 : Cond.methodLink RX9 361 yX9_refusal ∈ BIG := bg6 133 (by decide +kernel) rfl
theorem q6_137 : Cond.methodLink RX9 364 yX9_asSort ∈ BIG := bg6 137 (by decide +kernel) rfl
theorem q6_144 : Cond.constantLong RX9 370 (-9223372036854775808) ∈ BIG := bg6 144 (by decide +kernel) rfl
theorem q6_153 : Cond.methodLink RX9 372 yX9_kindOf ∈ BIG := bg6 153 (by decide +kernel) rfl
theorem q6_157 : Cond.methodLink RX9 375 yX9_above ∈ BIG := bg6 157 (by decide +kernel) rfl
set_option maxRecDepth 20000 in
theorem q2_24 : Cond.code yX0_init cX0_init 1 none ∈ BIG := bg2 24 rfl rfl
theorem q2_23 : Cond.instanceMethod yX0_init ∈ BIG := bg2 23 (by decide +kernel) rfl
theorem q1_8 : Cond.initialized RX0 ∈ BIG := bg1 8 (by decide +kernel) rfl
set_option maxRecDepth 20000 in
theorem q4_13 : Cond.code yX0_add cX0_add 2 (some .int) ∈ BIG := bg4 13 rfl rfl
theorem q4_11 : Cond.instanceMethod yX0_add ∈ BIG := bg4 11 (by decide +kernel) rfl
theorem q4_12 : Cond.selects RX0 yX0_add yX0_add ∈ BIG := bg4 12 (by decide +kernel) rfl
set_option maxRecDepth 20000 in
theorem q4_98 : Cond.code yX0_isOrUnder cX0_isOrUnder 4 (some .boolean) ∈ BIG := bg4 98 rfl rfl
theorem q4_97 : Cond.static yX0_isOrUnder ∈ BIG := bg4 97 (by decide +kernel) rfl
set_option maxRecDepth 20000 in
theorem q4_21 : Cond.code yX0_perform cX0_perform 4 (some .int) ∈ BIG := bg4 21 rfl rfl
theorem q4_19 : Cond.instanceMethod yX0_perform ∈ BIG := bg4 19 (by decide +kernel) rfl
theorem q4_20 : Cond.selects RX0 yX0_perform yX0_perform ∈ BIG := bg4 20 (by decide +kernel) rfl
set_option maxRecDepth 20000 in
theorem q4_26 : Cond.code yX0_own cX0_own 4 (some .int) ∈ BIG := bg4 26 rfl rfl
theorem q4_25 : Cond.instanceMethod yX0_own ∈ BIG := bg4 25 (by decide +kernel) rfl
theorem qs_26 : Cond.selects RX0 yX0_own yX0_own ∈ BIG := bgS 26 (by decide +kernel) rfl
set_option maxRecDepth 20000 in
theorem q4_30 : Cond.code yX0_from cX0_from 7 (some .int) ∈ BIG := bg4 30 rfl rfl
theorem q4_29 : Cond.instanceMethod yX0_from ∈ BIG := bg4 29 (by decide +kernel) rfl
theorem qs_27 : Cond.selects RX0 yX0_from yX0_from ∈ BIG := bgS 27 (by decide +kernel) rfl
set_option maxRecDepth 20000 in
theorem q4_42 : Cond.code yX0_note cX0_note 2 none ∈ BIG := bg4 42 rfl rfl
theorem q4_41 : Cond.instanceMethod yX0_note ∈ BIG := bg4 41 (by decide +kernel) rfl
theorem qs_29 : Cond.selects RX0 yX0_note yX0_note ∈ BIG := bgS 29 (by decide +kernel) rfl
set_option maxRecDepth 20000 in
theorem q4_38 : Cond.code yX0_run cX0_run 4 (some .int) ∈ BIG := bg4 38 rfl rfl
theorem q4_37 : Cond.instanceMethod yX0_run ∈ BIG := bg4 37 (by decide +kernel) rfl
theorem qs_28 : Cond.selects RX0 yX0_run yX0_run ∈ BIG := bgS 28 (by decide +kernel) rfl
set_option maxRecDepth 20000 in
theorem q1_234 : Cond.code yX1_init cX1_init 2 none ∈ BIG := bg1 234 rfl rfl
theorem q1_233 : Cond.instanceMethod yX1_init ∈ BIG := bg1 233 (by decide +kernel) rfl
theorem q1_7 : Cond.initialized RX1 ∈ BIG := bg1 7 (by decide +kernel) rfl
set_option maxRecDepth 20000 in
theorem q2_199 : Cond.code yX1_tell cX1_tell 6 (some .int) ∈ BIG := bg2 199 rfl rfl
theorem q2_197 : Cond.instanceMethod yX1_tell ∈ BIG := bg2 197 (by decide +kernel) rfl
theorem q2_198 : Cond.selects RX1 yX1_tell yX1_tell ∈ BIG := bg2 198 (by decide +kernel) rfl
set_option maxRecDepth 20000 in
theorem q2_207 : Cond.code yX1_forgetOldest cX1_forgetOldest 1 none ∈ BIG := bg2 207 rfl rfl
theorem q2_206 : Cond.instanceMethod yX1_forgetOldest ∈ BIG := bg2 206 (by decide +kernel) rfl
theorem qs_6 : Cond.selects RX1 yX1_forgetOldest yX1_forgetOldest ∈ BIG := bgS 6 (by decide +kernel) rfl
set_option maxRecDepth 20000 in
theorem q3_237 : Cond.code yX1_back cX1_back 1 (some .boolean) ∈ BIG := bg3 237 rfl rfl
theorem q3_235 : Cond.instanceMethod yX1_back ∈ BIG := bg3 235 (by decide +kernel) rfl
theorem q3_236 : Cond.selects RX1 yX1_back yX1_back ∈ BIG := bg3 236 (by decide +kernel) rfl
set_option maxRecDepth 20000 in
theorem q4_5 : Cond.code yX1_again cX1_again 1 (some .boolean) ∈ BIG := bg4 5 rfl rfl
theorem q4_3 : Cond.instanceMethod yX1_again ∈ BIG := bg4 3 (by decide +kernel) rfl
theorem q4_4 : Cond.selects RX1 yX1_again yX1_again ∈ BIG := bg4 4 (by decide +kernel) rfl
set_option maxRecDepth 20000 in
theorem q1_56 : Cond.code yX2_init cX2_init 1 none ∈ BIG := bg1 56 rfl rfl
theorem q1_55 : Cond.instanceMethod yX2_init ∈ BIG := bg1 55 (by decide +kernel) rfl
theorem q1_3 : Cond.initialized RX2 ∈ BIG := bg1 3 (by decide +kernel) rfl
set_option maxRecDepth 20000 in
theorem q2_135 : Cond.code yX2_addTide cX2_addTide 4 (some .int) ∈ BIG := bg2 135 rfl rfl
theorem q2_133 : Cond.instanceMethod yX2_addTide ∈ BIG := bg2 133 (by decide +kernel) rfl
theorem q2_134 : Cond.selects RX2 yX2_addTide yX2_addTide ∈ BIG := bg2 134 (by decide +kernel) rfl
set_option maxRecDepth 20000 in
theorem q2_149 : Cond.code yX2_addWind cX2_addWind 4 (some .int) ∈ BIG := bg2 149 rfl rfl
theorem q2_147 : Cond.instanceMethod yX2_addWind ∈ BIG := bg2 147 (by decide +kernel) rfl
theorem q2_148 : Cond.selects RX2 yX2_addWind yX2_addWind ∈ BIG := bg2 148 (by decide +kernel) rfl
set_option maxRecDepth 20000 in
theorem q2_191 : Cond.code yX2_addWay cX2_addWay 5 (some .int) ∈ BIG := bg2 191 rfl rfl
theorem q2_189 : Cond.instanceMethod yX2_addWay ∈ BIG := bg2 189 (by decide +kernel) rfl
theorem q2_190 : Cond.selects RX2 yX2_addWay yX2_addWay ∈ BIG := bg2 190 (by decide +kernel) rfl
set_option maxRecDepth 20000 in
theorem q3_11 : Cond.code yX2_allWinds cX2_allWinds 1 (some .int) ∈ BIG := bg3 11 rfl rfl
theorem q3_9 : Cond.instanceMethod yX2_allWinds ∈ BIG := bg3 9 (by decide +kernel) rfl
theorem q3_10 : Cond.selects RX2 yX2_allWinds yX2_allWinds ∈ BIG := bg3 10 (by decide +kernel) rfl
set_option maxRecDepth 20000 in
theorem q3_105 : Cond.code yX2_chanceOf cX2_chanceOf 4 (some .int) ∈ BIG := bg3 105 rfl rfl
theorem q3_103 : Cond.instanceMethod yX2_chanceOf ∈ BIG := bg3 103 (by decide +kernel) rfl
theorem q3_104 : Cond.selects RX2 yX2_chanceOf yX2_chanceOf ∈ BIG := bg3 104 (by decide +kernel) rfl
set_option maxRecDepth 20000 in
theorem q3_109 : Cond.code yX2_thousandths cX2_thousandths 2 (some .int) ∈ BIG := bg3 109 rfl rfl
theorem q3_107 : Cond.instanceMethod yX2_thousandths ∈ BIG := bg3 107 (by decide +kernel) rfl
theorem q3_108 : Cond.selects RX2 yX2_thousandths yX2_thousandths ∈ BIG := bg3 108 (by decide +kernel) rfl
set_option maxRecDepth 20000 in
theorem q2_235 : Cond.code yX2_taking cX2_taking 4 (some .int) ∈ BIG := bg2 235 rfl rfl
theorem q2_233 : Cond.instanceMethod yX2_taking ∈ BIG := bg2 233 (by decide +kernel) rfl
theorem q2_234 : Cond.selects RX2 yX2_taking yX2_taking ∈ BIG := bg2 234 (by decide +kernel) rfl
set_option maxRecDepth 20000 in
theorem q2_171 : Cond.code yX2_tideAt cX2_tideAt 8 (some .int) ∈ BIG := bg2 171 rfl rfl
theorem q2_169 : Cond.instanceMethod yX2_tideAt ∈ BIG := bg2 169 (by decide +kernel) rfl
theorem q2_170 : Cond.selects RX2 yX2_tideAt yX2_tideAt ∈ BIG := bg2 170 (by decide +kernel) rfl
set_option maxRecDepth 20000 in
theorem q2_161 : Cond.code yX2_seaAt cX2_seaAt 5 (some .int) ∈ BIG := bg2 161 rfl rfl
theorem q2_159 : Cond.instanceMethod yX2_seaAt ∈ BIG := bg2 159 (by decide +kernel) rfl
theorem q2_160 : Cond.selects RX2 yX2_seaAt yX2_seaAt ∈ BIG := bg2 160 (by decide +kernel) rfl
set_option maxRecDepth 20000 in
theorem q2_203 : Cond.code yX2_rowOf cX2_rowOf 2 (some (.array .int)) ∈ BIG := bg2 203 rfl rfl
theorem q2_201 : Cond.instanceMethod yX2_rowOf ∈ BIG := bg2 201 (by decide +kernel) rfl
theorem q2_202 : Cond.selects RX2 yX2_rowOf yX2_rowOf ∈ BIG := bg2 202 (by decide +kernel) rfl
set_option maxRecDepth 20000 in
theorem q1_203 : Cond.code yX3_init cX3_init 3 none ∈ BIG := bg1 203 rfl rfl
theorem q1_202 : Cond.instanceMethod yX3_init ∈ BIG := bg1 202 (by decide +kernel) rfl
theorem q1_6 : Cond.initialized RX3 ∈ BIG := bg1 6 (by decide +kernel) rfl
set_option maxRecDepth 20000 in
theorem q3_159 : Cond.code yX3_add cX3_add 2 (some .boolean) ∈ BIG := bg3 159 rfl rfl
theorem q3_157 : Cond.instanceMethod yX3_add ∈ BIG := bg3 157 (by decide +kernel) rfl
theorem q3_158 : Cond.selects RX3 yX3_add yX3_add ∈ BIG := bg3 158 (by decide +kernel) rfl
set_option maxRecDepth 20000 in
theorem q3_182 : Cond.code yX3_walk cX3_walk 5 (some .int) ∈ BIG := bg3 182 rfl rfl
theorem q3_180 : Cond.instanceMethod yX3_walk ∈ BIG := bg3 180 (by decide +kernel) rfl
theorem q3_181 : Cond.selects RX3 yX3_walk yX3_walk ∈ BIG := bg3 181 (by decide +kernel) rfl
set_option maxRecDepth 20000 in
theorem q3_186 : Cond.code yX3_stay cX3_stay 2 (some .boolean) ∈ BIG := bg3 186 rfl rfl
theorem q3_185 : Cond.instanceMethod yX3_stay ∈ BIG := bg3 185 (by decide +kernel) rfl
theorem qs_22 : Cond.selects RX3 yX3_stay yX3_stay ∈ BIG := bgS 22 (by decide +kernel) rfl
set_option maxRecDepth 20000 in
theorem q3_190 : Cond.code yX3_follow cX3_follow 3 (some .boolean) ∈ BIG := bg3 190 rfl rfl
theorem q3_189 : Cond.instanceMethod yX3_follow ∈ BIG := bg3 189 (by decide +kernel) rfl
theorem qs_23 : Cond.selects RX3 yX3_follow yX3_follow ∈ BIG := bgS 23 (by decide +kernel) rfl
set_option maxRecDepth 20000 in
theorem q3_194 : Cond.code yX3_leadsOn cX3_leadsOn 2 (some .boolean) ∈ BIG := bg3 194 rfl rfl
theorem q3_193 : Cond.instanceMethod yX3_leadsOn ∈ BIG := bg3 193 (by decide +kernel) rfl
theorem qs_24 : Cond.selects RX3 yX3_leadsOn yX3_leadsOn ∈ BIG := bgS 24 (by decide +kernel) rfl
set_option maxRecDepth 20000 in
theorem q3_29 : Cond.code yX3_wayGoes cX3_wayGoes 5 (some .boolean) ∈ BIG := bg3 29 rfl rfl
theorem q3_27 : Cond.instanceMethod yX3_wayGoes ∈ BIG := bg3 27 (by decide +kernel) rfl
theorem q3_28 : Cond.selects RX3 yX3_wayGoes yX3_wayGoes ∈ BIG := bg3 28 (by decide +kernel) rfl
set_option maxRecDepth 20000 in
theorem q3_204 : Cond.code yX3_shutIn cX3_shutIn 4 (some .int) ∈ BIG := bg3 204 rfl rfl
theorem q3_202 : Cond.instanceMethod yX3_shutIn ∈ BIG := bg3 202 (by decide +kernel) rfl
theorem q3_203 : Cond.selects RX3 yX3_shutIn yX3_shutIn ∈ BIG := bg3 203 (by decide +kernel) rfl
set_option maxRecDepth 20000 in
theorem q1_151 : Cond.code yX4_init cX4_init 2 none ∈ BIG := bg1 151 rfl rfl
theorem q1_150 : Cond.instanceMethod yX4_init ∈ BIG := bg1 150 (by decide +kernel) rfl
theorem q1_4 : Cond.initialized RX4 ∈ BIG := bg1 4 (by decide +kernel) rfl
set_option maxRecDepth 20000 in
theorem q3_15 : Cond.code yX4_rise cX4_rise 4 none ∈ BIG := bg3 15 rfl rfl
theorem q3_13 : Cond.instanceMethod yX4_rise ∈ BIG := bg3 13 (by decide +kernel) rfl
theorem q3_14 : Cond.selects RX4 yX4_rise yX4_rise ∈ BIG := bg3 14 (by decide +kernel) rfl
set_option maxRecDepth 20000 in
theorem q3_23 : Cond.code yX4_raise cX4_raise 5 none ∈ BIG := bg3 23 rfl rfl
theorem q3_22 : Cond.instanceMethod yX4_raise ∈ BIG := bg3 22 (by decide +kernel) rfl
theorem qs_10 : Cond.selects RX4 yX4_raise yX4_raise ∈ BIG := bgS 10 (by decide +kernel) rfl
set_option maxRecDepth 20000 in
theorem q3_33 : Cond.code yX4_firstAbove cX4_firstAbove 4 (some .int) ∈ BIG := bg3 33 rfl rfl
theorem q3_31 : Cond.instanceMethod yX4_firstAbove ∈ BIG := bg3 31 (by decide +kernel) rfl
theorem q3_32 : Cond.selects RX4 yX4_firstAbove yX4_firstAbove ∈ BIG := bg3 32 (by decide +kernel) rfl
set_option maxRecDepth 20000 in
theorem q1_174 : Cond.code yX5_init cX5_init 3 none ∈ BIG := bg1 174 rfl rfl
theorem q1_173 : Cond.instanceMethod yX5_init ∈ BIG := bg1 173 (by decide +kernel) rfl
theorem q1_5 : Cond.initialized RX5 ∈ BIG := bg1 5 (by decide +kernel) rfl
set_option maxRecDepth 20000 in
theorem q3_46 : Cond.code yX5_prepare cX5_prepare 5 none ∈ BIG := bg3 46 rfl rfl
theorem q3_44 : Cond.instanceMethod yX5_prepare ∈ BIG := bg3 44 (by decide +kernel) rfl
theorem q3_45 : Cond.selects RX5 yX5_prepare yX5_prepare ∈ BIG := bg3 45 (by decide +kernel) rfl
set_option maxRecDepth 20000 in
theorem q3_147 : Cond.code yX5_barWaiting cX5_barWaiting 2 none ∈ BIG := bg3 147 rfl rfl
theorem q3_145 : Cond.instanceMethod yX5_barWaiting ∈ BIG := bg3 145 (by decide +kernel) rfl
theorem q3_146 : Cond.selects RX5 yX5_barWaiting yX5_barWaiting ∈ BIG := bg3 146 (by decide +kernel) rfl
set_option maxRecDepth 20000 in
theorem q3_53 : Cond.code yX5_soonest cX5_soonest 4 (some .int) ∈ BIG := bg3 53 rfl rfl
theorem q3_51 : Cond.instanceMethod yX5_soonest ∈ BIG := bg3 51 (by decide +kernel) rfl
theorem q3_52 : Cond.selects RX5 yX5_soonest yX5_soonest ∈ BIG := bg3 52 (by decide +kernel) rfl
set_option maxRecDepth 20000 in
theorem q3_225 : Cond.code yX5_isThere cX5_isThere 4 (some .boolean) ∈ BIG := bg3 225 rfl rfl
theorem q3_223 : Cond.instanceMethod yX5_isThere ∈ BIG := bg3 223 (by decide +kernel) rfl
theorem q3_224 : Cond.selects RX5 yX5_isThere yX5_isThere ∈ BIG := bg3 224 (by decide +kernel) rfl
set_option maxRecDepth 20000 in
theorem q3_123 : Cond.code yX5_meeting cX5_meeting 7 (some .int) ∈ BIG := bg3 123 rfl rfl
theorem q3_121 : Cond.instanceMethod yX5_meeting ∈ BIG := bg3 121 (by decide +kernel) rfl
theorem q3_122 : Cond.selects RX5 yX5_meeting yX5_meeting ∈ BIG := bg3 122 (by decide +kernel) rfl
set_option maxRecDepth 20000 in
theorem q3_58 : Cond.code yX5_spread cX5_spread 10 (some .int) ∈ BIG := bg3 58 rfl rfl
theorem q3_57 : Cond.instanceMethod yX5_spread ∈ BIG := bg3 57 (by decide +kernel) rfl
theorem qs_12 : Cond.selects RX5 yX5_spread yX5_spread ∈ BIG := bgS 12 (by decide +kernel) rfl
set_option maxRecDepth 20000 in
theorem q3_66 : Cond.code yX5_waiting cX5_waiting 6 (some .long) ∈ BIG := bg3 66 rfl rfl
theorem q3_65 : Cond.instanceMethod yX5_waiting ∈ BIG := bg3 65 (by decide +kernel) rfl
theorem qs_13 : Cond.selects RX5 yX5_waiting yX5_waiting ∈ BIG := bgS 13 (by decide +kernel) rfl
set_option maxRecDepth 20000 in
theorem q3_71 : Cond.code yX5_leave cX5_leave 11 none ∈ BIG := bg3 71 rfl rfl
theorem q3_70 : Cond.instanceMethod yX5_leave ∈ BIG := bg3 70 (by decide +kernel) rfl
theorem qs_14 : Cond.selects RX5 yX5_leave yX5_leave ∈ BIG := bgS 14 (by decide +kernel) rfl
set_option maxRecDepth 20000 in
theorem q3_81 : Cond.code yX5_latest cX5_latest 7 (some .int) ∈ BIG := bg3 81 rfl rfl
theorem q3_79 : Cond.instanceMethod yX5_latest ∈ BIG := bg3 79 (by decide +kernel) rfl
theorem q3_80 : Cond.selects RX5 yX5_latest yX5_latest ∈ BIG := bg3 80 (by decide +kernel) rfl
set_option maxRecDepth 20000 in
theorem q3_85 : Cond.code yX5_goodToLeave cX5_goodToLeave 11 (some .long) ∈ BIG := bg3 85 rfl rfl
theorem q3_84 : Cond.instanceMethod yX5_goodToLeave ∈ BIG := bg3 84 (by decide +kernel) rfl
theorem qs_15 : Cond.selects RX5 yX5_goodToLeave yX5_goodToLeave ∈ BIG := bgS 15 (by decide +kernel) rfl
set_option maxRecDepth 20000 in
theorem q2_51 : Cond.code yX6_init cX6_init 1 none ∈ BIG := bg2 51 rfl rfl
theorem q2_50 : Cond.instanceMethod yX6_init ∈ BIG := bg2 50 (by decide +kernel) rfl
theorem q1_9 : Cond.initialized RX6 ∈ BIG := bg1 9 (by decide +kernel) rfl
set_option maxRecDepth 20000 in
theorem q4_55 : Cond.code yX6_holdBody cX6_holdBody 2 none ∈ BIG := bg4 55 rfl rfl
theorem q4_53 : Cond.instanceMethod yX6_holdBody ∈ BIG := bg4 53 (by decide +kernel) rfl
theorem q4_54 : Cond.selects RX6 yX6_holdBody yX6_holdBody ∈ BIG := bg4 54 (by decide +kernel) rfl
set_option maxRecDepth 20000 in
theorem q4_64 : Cond.code yX6_holdRow cX6_holdRow 3 none ∈ BIG := bg4 64 rfl rfl
theorem q4_62 : Cond.instanceMethod yX6_holdRow ∈ BIG := bg4 62 (by decide +kernel) rfl
theorem q4_63 : Cond.selects RX6 yX6_holdRow yX6_holdRow ∈ BIG := bg4 63 (by decide +kernel) rfl
set_option maxRecDepth 20000 in
theorem q3_170 : Cond.code yX6_has cX6_has 2 (some .boolean) ∈ BIG := bg3 170 rfl rfl
theorem q3_168 : Cond.instanceMethod yX6_has ∈ BIG := bg3 168 (by decide +kernel) rfl
theorem q3_169 : Cond.selects RX6 yX6_has yX6_has ∈ BIG := bg3 169 (by decide +kernel) rfl
set_option maxRecDepth 20000 in
theorem q4_90 : Cond.code yX6_hasRun cX6_hasRun 3 (some .boolean) ∈ BIG := bg4 90 rfl rfl
theorem q4_88 : Cond.instanceMethod yX6_hasRun ∈ BIG := bg4 88 (by decide +kernel) rfl
theorem q4_89 : Cond.selects RX6 yX6_hasRun yX6_hasRun ∈ BIG := bg4 89 (by decide +kernel) rfl
set_option maxRecDepth 20000 in
theorem q4_77 : Cond.code yX6_kept cX6_kept 3 (some .long) ∈ BIG := bg4 77 rfl rfl
theorem q4_75 : Cond.instanceMethod yX6_kept ∈ BIG := bg4 75 (by decide +kernel) rfl
theorem q4_76 : Cond.selects RX6 yX6_kept yX6_kept ∈ BIG := bg4 76 (by decide +kernel) rfl
set_option maxRecDepth 20000 in
theorem q1_26 : Cond.code yX7_init cX7_init 1 none ∈ BIG := bg1 26 rfl rfl
theorem q1_25 : Cond.instanceMethod yX7_init ∈ BIG := bg1 25 (by decide +kernel) rfl
theorem q1_2 : Cond.initialized RX7 ∈ BIG := bg1 2 (by decide +kernel) rfl
set_option maxRecDepth 20000 in
theorem q2_107 : Cond.code yX7_add cX7_add 4 (some .boolean) ∈ BIG := bg2 107 rfl rfl
theorem q2_105 : Cond.instanceMethod yX7_add ∈ BIG := bg2 105 (by decide +kernel) rfl
theorem q2_106 : Cond.selects RX7 yX7_add yX7_add ∈ BIG := bg2 106 (by decide +kernel) rfl
set_option maxRecDepth 20000 in
theorem q2_115 : Cond.code yX7_read cX7_read 3 (some .int) ∈ BIG := bg2 115 rfl rfl
theorem q2_113 : Cond.instanceMethod yX7_read ∈ BIG := bg2 113 (by decide +kernel) rfl
theorem q2_114 : Cond.selects RX7 yX7_read yX7_read ∈ BIG := bg2 114 (by decide +kernel) rfl
set_option maxRecDepth 20000 in
theorem q2_119 : Cond.code yX7_readMinute cX7_readMinute 4 (some .int) ∈ BIG := bg2 119 rfl rfl
theorem q2_118 : Cond.instanceMethod yX7_readMinute ∈ BIG := bg2 118 (by decide +kernel) rfl
theorem qs_0 : Cond.selects RX7 yX7_readMinute yX7_readMinute ∈ BIG := bgS 0 (by decide +kernel) rfl
set_option maxRecDepth 20000 in
theorem q2_131 : Cond.code yX7_readHeight cX7_readHeight 2 (some .int) ∈ BIG := bg2 131 rfl rfl
theorem q2_130 : Cond.instanceMethod yX7_readHeight ∈ BIG := bg2 130 (by decide +kernel) rfl
theorem qs_3 : Cond.selects RX7 yX7_readHeight yX7_readHeight ∈ BIG := bgS 3 (by decide +kernel) rfl
set_option maxRecDepth 20000 in
theorem q2_123 : Cond.code yX7_readNumber cX7_readNumber 4 (some .int) ∈ BIG := bg2 123 rfl rfl
theorem q2_122 : Cond.instanceMethod yX7_readNumber ∈ BIG := bg2 122 (by decide +kernel) rfl
theorem qs_1 : Cond.selects RX7 yX7_readNumber yX7_readNumber ∈ BIG := bgS 1 (by decide +kernel) rfl
set_option maxRecDepth 20000 in
theorem q2_127 : Cond.code yX7_digitIsNext cX7_digitIsNext 1 (some .boolean) ∈ BIG := bg2 127 rfl rfl
theorem q2_126 : Cond.instanceMethod yX7_digitIsNext ∈ BIG := bg2 126 (by decide +kernel) rfl
theorem qs_2 : Cond.selects RX7 yX7_digitIsNext yX7_digitIsNext ∈ BIG := bgS 2 (by decide +kernel) rfl
set_option maxRecDepth 20000 in
theorem q1_18 : Cond.code yX8_init cX8_init 2 none ∈ BIG := bg1 18 rfl rfl
theorem q1_17 : Cond.instanceMethod yX8_init ∈ BIG := bg1 17 (by decide +kernel) rfl
theorem q1_1 : Cond.initialized RX8 ∈ BIG := bg1 1 (by decide +kernel) rfl
set_option maxRecDepth 20000 in
theorem q2_103 : Cond.code yX8_feed cX8_feed 3 (some .int) ∈ BIG := bg2 103 rfl rfl
theorem q2_101 : Cond.instanceMethod yX8_feed ∈ BIG := bg2 101 (by decide +kernel) rfl
theorem q2_102 : Cond.selects RX8 yX8_feed yX8_feed ∈ BIG := bg2 102 (by decide +kernel) rfl
set_option maxRecDepth 20000 in
theorem q2_111 : Cond.code yX8_tide cX8_tide 2 (some .int) ∈ BIG := bg2 111 rfl rfl
theorem q2_109 : Cond.instanceMethod yX8_tide ∈ BIG := bg2 109 (by decide +kernel) rfl
theorem q2_110 : Cond.selects RX8 yX8_tide yX8_tide ∈ BIG := bg2 110 (by decide +kernel) rfl
set_option maxRecDepth 20000 in
theorem q2_142 : Cond.code yX8_wind cX8_wind 4 (some .int) ∈ BIG := bg2 142 rfl rfl
theorem q2_140 : Cond.instanceMethod yX8_wind ∈ BIG := bg2 140 (by decide +kernel) rfl
theorem q2_141 : Cond.selects RX8 yX8_wind yX8_wind ∈ BIG := bg2 141 (by decide +kernel) rfl
set_option maxRecDepth 20000 in
theorem q2_153 : Cond.code yX8_sea cX8_sea 4 (some .int) ∈ BIG := bg2 153 rfl rfl
theorem q2_151 : Cond.instanceMethod yX8_sea ∈ BIG := bg2 151 (by decide +kernel) rfl
theorem q2_152 : Cond.selects RX8 yX8_sea yX8_sea ∈ BIG := bg2 152 (by decide +kernel) rfl
set_option maxRecDepth 20000 in
theorem q2_175 : Cond.code yX8_place cX8_place 2 (some .int) ∈ BIG := bg2 175 rfl rfl
theorem q2_173 : Cond.instanceMethod yX8_place ∈ BIG := bg2 173 (by decide +kernel) rfl
theorem q2_174 : Cond.selects RX8 yX8_place yX8_place ∈ BIG := bg2 174 (by decide +kernel) rfl
set_option maxRecDepth 20000 in
theorem q2_179 : Cond.code yX8_way cX8_way 3 (some .int) ∈ BIG := bg2 179 rfl rfl
theorem q2_177 : Cond.instanceMethod yX8_way ∈ BIG := bg2 177 (by decide +kernel) rfl
theorem q2_178 : Cond.selects RX8 yX8_way yX8_way ∈ BIG := bg2 178 (by decide +kernel) rfl
set_option maxRecDepth 20000 in
theorem q2_195 : Cond.code yX8_safe cX8_safe 3 (some .int) ∈ BIG := bg2 195 rfl rfl
theorem q2_193 : Cond.instanceMethod yX8_safe ∈ BIG := bg2 193 (by decide +kernel) rfl
theorem q2_194 : Cond.selects RX8 yX8_safe yX8_safe ∈ BIG := bg2 194 (by decide +kernel) rfl
set_option maxRecDepth 20000 in
theorem q2_212 : Cond.code yX8_alter cX8_alter 4 (some .int) ∈ BIG := bg2 212 rfl rfl
theorem q2_210 : Cond.instanceMethod yX8_alter ∈ BIG := bg2 210 (by decide +kernel) rfl
theorem q2_211 : Cond.selects RX8 yX8_alter yX8_alter ∈ BIG := bg2 211 (by decide +kernel) rfl
set_option maxRecDepth 20000 in
theorem q2_220 : Cond.code yX8_sort cX8_sort 3 (some .int) ∈ BIG := bg2 220 rfl rfl
theorem q2_218 : Cond.instanceMethod yX8_sort ∈ BIG := bg2 218 (by decide +kernel) rfl
theorem q2_219 : Cond.selects RX8 yX8_sort yX8_sort ∈ BIG := bg2 219 (by decide +kernel) rfl
set_option maxRecDepth 20000 in
theorem q2_227 : Cond.code yX8_light cX8_light 4 (some .int) ∈ BIG := bg2 227 rfl rfl
theorem q2_225 : Cond.instanceMethod yX8_light ∈ BIG := bg2 225 (by decide +kernel) rfl
theorem q2_226 : Cond.selects RX8 yX8_light yX8_light ∈ BIG := bg2 226 (by decide +kernel) rfl
set_option maxRecDepth 20000 in
theorem q2_231 : Cond.code yX8_takes cX8_takes 4 (some .int) ∈ BIG := bg2 231 rfl rfl
theorem q2_229 : Cond.instanceMethod yX8_takes ∈ BIG := bg2 229 (by decide +kernel) rfl
theorem q2_230 : Cond.selects RX8 yX8_takes yX8_takes ∈ BIG := bg2 230 (by decide +kernel) rfl
set_option maxRecDepth 20000 in
theorem q2_239 : Cond.code yX8_open cX8_open 9 (some .int) ∈ BIG := bg2 239 rfl rfl
theorem q2_237 : Cond.instanceMethod yX8_open ∈ BIG := bg2 237 (by decide +kernel) rfl
theorem q2_238 : Cond.selects RX8 yX8_open yX8_open ∈ BIG := bg2 238 (by decide +kernel) rfl
set_option maxRecDepth 20000 in
theorem q3_38 : Cond.code yX8_soon cX8_soon 5 (some .int) ∈ BIG := bg3 38 rfl rfl
theorem q3_36 : Cond.instanceMethod yX8_soon ∈ BIG := bg3 36 (by decide +kernel) rfl
theorem q3_37 : Cond.selects RX8 yX8_soon yX8_soon ∈ BIG := bg3 37 (by decide +kernel) rfl
set_option maxRecDepth 20000 in
theorem q3_77 : Cond.code yX8_last cX8_last 4 (some .int) ∈ BIG := bg3 77 rfl rfl
theorem q3_75 : Cond.instanceMethod yX8_last ∈ BIG := bg3 75 (by decide +kernel) rfl
theorem q3_76 : Cond.selects RX8 yX8_last yX8_last ∈ BIG := bg3 76 (by decide +kernel) rfl
set_option maxRecDepth 20000 in
theorem q3_89 : Cond.code yX8_best cX8_best 6 (some .int) ∈ BIG := bg3 89 rfl rfl
theorem q3_87 : Cond.instanceMethod yX8_best ∈ BIG := bg3 87 (by decide +kernel) rfl
theorem q3_88 : Cond.selects RX8 yX8_best yX8_best ∈ BIG := bg3 88 (by decide +kernel) rfl
set_option maxRecDepth 20000 in
theorem q3_115 : Cond.code yX8_days cX8_days 9 (some .int) ∈ BIG := bg3 115 rfl rfl
theorem q3_113 : Cond.instanceMethod yX8_days ∈ BIG := bg3 113 (by decide +kernel) rfl
theorem q3_114 : Cond.selects RX8 yX8_days yX8_days ∈ BIG := bg3 114 (by decide +kernel) rfl
set_option maxRecDepth 20000 in
theorem q3_119 : Cond.code yX8_two cX8_two 7 (some .int) ∈ BIG := bg3 119 rfl rfl
theorem q3_117 : Cond.instanceMethod yX8_two ∈ BIG := bg3 117 (by decide +kernel) rfl
theorem q3_118 : Cond.selects RX8 yX8_two yX8_two ∈ BIG := bg3 118 (by decide +kernel) rfl
set_option maxRecDepth 20000 in
theorem q3_127 : Cond.code yX8_worth cX8_worth 9 (some .int) ∈ BIG := bg3 127 rfl rfl
theorem q3_125 : Cond.instanceMethod yX8_worth ∈ BIG := bg3 125 (by decide +kernel) rfl
theorem q3_126 : Cond.selects RX8 yX8_worth yX8_worth ∈ BIG := bg3 126 (by decide +kernel) rfl
set_option maxRecDepth 20000 in
theorem q3_135 : Cond.code yX8_higher cX8_higher 9 (some .int) ∈ BIG := bg3 135 rfl rfl
theorem q3_133 : Cond.instanceMethod yX8_higher ∈ BIG := bg3 133 (by decide +kernel) rfl
theorem q3_134 : Cond.selects RX8 yX8_higher yX8_higher ∈ BIG := bg3 134 (by decide +kernel) rfl
set_option maxRecDepth 20000 in
theorem q3_143 : Cond.code yX8_must cX8_must 6 (some .int) ∈ BIG := bg3 143 rfl rfl
theorem q3_141 : Cond.instanceMethod yX8_must ∈ BIG := bg3 141 (by decide +kernel) rfl
theorem q3_142 : Cond.selects RX8 yX8_must yX8_must ∈ BIG := bg3 142 (by decide +kernel) rfl
set_option maxRecDepth 20000 in
theorem q3_151 : Cond.code yX8_move cX8_move 2 (some .int) ∈ BIG := bg3 151 rfl rfl
theorem q3_149 : Cond.instanceMethod yX8_move ∈ BIG := bg3 149 (by decide +kernel) rfl
theorem q3_150 : Cond.selects RX8 yX8_move yX8_move ∈ BIG := bg3 150 (by decide +kernel) rfl
set_option maxRecDepth 20000 in
theorem q3_163 : Cond.code yX8_moves cX8_moves 6 (some .int) ∈ BIG := bg3 163 rfl rfl
theorem q3_161 : Cond.instanceMethod yX8_moves ∈ BIG := bg3 161 (by decide +kernel) rfl
theorem q3_162 : Cond.selects RX8 yX8_moves yX8_moves ∈ BIG := bg3 162 (by decide +kernel) rfl
set_option maxRecDepth 20000 in
theorem q3_174 : Cond.code yX8_drop cX8_drop 2 (some .int) ∈ BIG := bg3 174 rfl rfl
theorem q3_172 : Cond.instanceMethod yX8_drop ∈ BIG := bg3 172 (by decide +kernel) rfl
theorem q3_173 : Cond.selects RX8 yX8_drop yX8_drop ∈ BIG := bg3 173 (by decide +kernel) rfl
set_option maxRecDepth 20000 in
theorem q3_178 : Cond.code yX8_judge cX8_judge 6 (some .int) ∈ BIG := bg3 178 rfl rfl
theorem q3_176 : Cond.instanceMethod yX8_judge ∈ BIG := bg3 176 (by decide +kernel) rfl
theorem q3_177 : Cond.selects RX8 yX8_judge yX8_judge ∈ BIG := bg3 177 (by decide +kernel) rfl
set_option maxRecDepth 20000 in
theorem q3_200 : Cond.code yX8_wet cX8_wet 4 (some .int) ∈ BIG := bg3 200 rfl rfl
theorem q3_198 : Cond.instanceMethod yX8_wet ∈ BIG := bg3 198 (by decide +kernel) rfl
theorem q3_199 : Cond.selects RX8 yX8_wet yX8_wet ∈ BIG := bg3 199 (by decide +kernel) rfl
set_option maxRecDepth 20000 in
theorem q3_209 : Cond.code yX8_chance cX8_chance 5 (some .int) ∈ BIG := bg3 209 rfl rfl
theorem q3_207 : Cond.instanceMethod yX8_chance ∈ BIG := bg3 207 (by decide +kernel) rfl
theorem q3_208 : Cond.selects RX8 yX8_chance yX8_chance ∈ BIG := bg3 208 (by decide +kernel) rfl
set_option maxRecDepth 20000 in
theorem q3_213 : Cond.code yX8_mark cX8_mark 2 (some .int) ∈ BIG := bg3 213 rfl rfl
theorem q3_211 : Cond.instanceMethod yX8_mark ∈ BIG := bg3 211 (by decide +kernel) rfl
theorem q3_212 : Cond.selects RX8 yX8_mark yX8_mark ∈ BIG := bg3 212 (by decide +kernel) rfl
set_option maxRecDepth 20000 in
theorem q3_217 : Cond.code yX8_old cX8_old 4 (some .int) ∈ BIG := bg3 217 rfl rfl
theorem q3_215 : Cond.instanceMethod yX8_old ∈ BIG := bg3 215 (by decide +kernel) rfl
theorem q3_216 : Cond.selects RX8 yX8_old yX8_old ∈ BIG := bg3 216 (by decide +kernel) rfl
set_option maxRecDepth 20000 in
theorem q3_229 : Cond.code yX8_unmark cX8_unmark 2 (some .int) ∈ BIG := bg3 229 rfl rfl
theorem q3_227 : Cond.instanceMethod yX8_unmark ∈ BIG := bg3 227 (by decide +kernel) rfl
theorem q3_228 : Cond.selects RX8 yX8_unmark yX8_unmark ∈ BIG := bg3 228 (by decide +kernel) rfl
set_option maxRecDepth 20000 in
theorem q3_233 : Cond.code yX8_undo cX8_undo 1 (some .int) ∈ BIG := bg3 233 rfl rfl
theorem q3_231 : Cond.instanceMethod yX8_undo ∈ BIG := bg3 231 (by decide +kernel) rfl
theorem q3_232 : Cond.selects RX8 yX8_undo yX8_undo ∈ BIG := bg3 232 (by decide +kernel) rfl
set_option maxRecDepth 20000 in
theorem q4_1 : Cond.code yX8_redo cX8_redo 1 (some .int) ∈ BIG := bg4 1 rfl rfl
theorem q3_239 : Cond.instanceMethod yX8_redo ∈ BIG := bg3 239 (by decide +kernel) rfl
theorem q4_0 : Cond.selects RX8 yX8_redo yX8_redo ∈ BIG := bg4 0 (by decide +kernel) rfl
set_option maxRecDepth 20000 in
theorem q4_9 : Cond.code yX8_body cX8_body 2 (some .int) ∈ BIG := bg4 9 rfl rfl
theorem q4_7 : Cond.instanceMethod yX8_body ∈ BIG := bg4 7 (by decide +kernel) rfl
theorem q4_8 : Cond.selects RX8 yX8_body yX8_body ∈ BIG := bg4 8 (by decide +kernel) rfl
set_option maxRecDepth 20000 in
theorem q4_17 : Cond.code yX8_act cX8_act 4 (some .int) ∈ BIG := bg4 17 rfl rfl
theorem q4_15 : Cond.instanceMethod yX8_act ∈ BIG := bg4 15 (by decide +kernel) rfl
theorem q4_16 : Cond.selects RX8 yX8_act yX8_act ∈ BIG := bg4 16 (by decide +kernel) rfl
set_option maxRecDepth 20000 in
theorem q4_46 : Cond.code yX8_trace cX8_trace 2 (some .int) ∈ BIG := bg4 46 rfl rfl
theorem q4_44 : Cond.instanceMethod yX8_trace ∈ BIG := bg4 44 (by decide +kernel) rfl
theorem q4_45 : Cond.selects RX8 yX8_trace yX8_trace ∈ BIG := bg4 45 (by decide +kernel) rfl
set_option maxRecDepth 20000 in
theorem q4_51 : Cond.code yX8_keep cX8_keep 3 (some .int) ∈ BIG := bg4 51 rfl rfl
theorem q4_49 : Cond.instanceMethod yX8_keep ∈ BIG := bg4 49 (by decide +kernel) rfl
theorem q4_50 : Cond.selects RX8 yX8_keep yX8_keep ∈ BIG := bg4 50 (by decide +kernel) rfl
set_option maxRecDepth 20000 in
theorem q4_60 : Cond.code yX8_row cX8_row 4 (some .int) ∈ BIG := bg4 60 rfl rfl
theorem q4_58 : Cond.instanceMethod yX8_row ∈ BIG := bg4 58 (by decide +kernel) rfl
theorem q4_59 : Cond.selects RX8 yX8_row yX8_row ∈ BIG := bg4 59 (by decide +kernel) rfl
set_option maxRecDepth 20000 in
theorem q4_69 : Cond.code yX8_put cX8_put 6 (some .int) ∈ BIG := bg4 69 rfl rfl
theorem q4_67 : Cond.instanceMethod yX8_put ∈ BIG := bg4 67 (by decide +kernel) rfl
theorem q4_68 : Cond.selects RX8 yX8_put yX8_put ∈ BIG := bg4 68 (by decide +kernel) rfl
set_option maxRecDepth 20000 in
theorem q4_81 : Cond.code yX8_element cX8_element 3 (some .long) ∈ BIG := bg4 81 rfl rfl
theorem q4_79 : Cond.instanceMethod yX8_element ∈ BIG := bg4 79 (by decide +kernel) rfl
theorem q4_80 : Cond.selects RX8 yX8_element yX8_element ∈ BIG := bg4 80 (by decide +kernel) rfl
set_option maxRecDepth 20000 in
theorem q4_86 : Cond.code yX8_shift cX8_shift 8 (some .int) ∈ BIG := bg4 86 rfl rfl
theorem q4_84 : Cond.instanceMethod yX8_shift ∈ BIG := bg4 84 (by decide +kernel) rfl
theorem q4_85 : Cond.selects RX8 yX8_shift yX8_shift ∈ BIG := bg4 85 (by decide +kernel) rfl
set_option maxRecDepth 20000 in
theorem q4_95 : Cond.code yX8_taken cX8_taken 4 (some .int) ∈ BIG := bg4 95 rfl rfl
theorem q4_93 : Cond.instanceMethod yX8_taken ∈ BIG := bg4 93 (by decide +kernel) rfl
theorem q4_94 : Cond.selects RX8 yX8_taken yX8_taken ∈ BIG := bg4 94 (by decide +kernel) rfl
set_option maxRecDepth 20000 in
theorem q4_102 : Cond.code yX8_count cX8_count 2 (some .int) ∈ BIG := bg4 102 rfl rfl
theorem q4_100 : Cond.instanceMethod yX8_count ∈ BIG := bg4 100 (by decide +kernel) rfl
theorem q4_101 : Cond.selects RX8 yX8_count yX8_count ∈ BIG := bg4 101 (by decide +kernel) rfl
set_option maxRecDepth 20000 in
theorem q2_145 : Cond.code yX8_within cX8_within 3 (some .boolean) ∈ BIG := bg2 145 rfl rfl
theorem q2_144 : Cond.static yX8_within ∈ BIG := bg2 144 (by decide +kernel) rfl
set_option maxRecDepth 20000 in
theorem q2_156 : Cond.code yX8_isMinute cX8_isMinute 1 (some .boolean) ∈ BIG := bg2 156 rfl rfl
theorem q2_155 : Cond.static yX8_isMinute ∈ BIG := bg2 155 (by decide +kernel) rfl
set_option maxRecDepth 20000 in
theorem q2_223 : Cond.code yX8_isSort cX8_isSort 1 (some .boolean) ∈ BIG := bg2 223 rfl rfl
theorem q2_222 : Cond.static yX8_isSort ∈ BIG := bg2 222 (by decide +kernel) rfl
set_option maxRecDepth 20000 in
theorem q3_166 : Cond.code yX8_isShelf cX8_isShelf 1 (some .boolean) ∈ BIG := bg3 166 rfl rfl
theorem q3_165 : Cond.static yX8_isShelf ∈ BIG := bg3 165 (by decide +kernel) rfl
set_option maxRecDepth 20000 in
theorem q2_187 : Cond.code yX8_isPlace cX8_isPlace 2 (some .boolean) ∈ BIG := bg2 187 rfl rfl
theorem q2_186 : Cond.instanceMethod yX8_isPlace ∈ BIG := bg2 186 (by decide +kernel) rfl
theorem qs_5 : Cond.selects RX8 yX8_isPlace yX8_isPlace ∈ BIG := bgS 5 (by decide +kernel) rfl
set_option maxRecDepth 20000 in
theorem q2_216 : Cond.code yX8_isWay cX8_isWay 2 (some .boolean) ∈ BIG := bg2 216 rfl rfl
theorem q2_215 : Cond.instanceMethod yX8_isWay ∈ BIG := bg2 215 (by decide +kernel) rfl
theorem qs_7 : Cond.selects RX8 yX8_isWay yX8_isWay ∈ BIG := bgS 7 (by decide +kernel) rfl
set_option maxRecDepth 20000 in
theorem q2_183 : Cond.code yX8_isPair cX8_isPair 2 (some .boolean) ∈ BIG := bg2 183 rfl rfl
theorem q2_182 : Cond.instanceMethod yX8_isPair ∈ BIG := bg2 182 (by decide +kernel) rfl
theorem qs_4 : Cond.selects RX8 yX8_isPair yX8_isPair ∈ BIG := bgS 4 (by decide +kernel) rfl
set_option maxRecDepth 20000 in
theorem q3_42 : Cond.code yX8_isFrom cX8_isFrom 2 (some .boolean) ∈ BIG := bg3 42 rfl rfl
theorem q3_41 : Cond.instanceMethod yX8_isFrom ∈ BIG := bg3 41 (by decide +kernel) rfl
theorem qs_11 : Cond.selects RX8 yX8_isFrom yX8_isFrom ∈ BIG := bgS 11 (by decide +kernel) rfl
set_option maxRecDepth 20000 in
theorem q3_3 : Cond.code yX8_isSortAndTide cX8_isSortAndTide 2 (some .boolean) ∈ BIG := bg3 3 rfl rfl
theorem q3_2 : Cond.instanceMethod yX8_isSortAndTide ∈ BIG := bg3 2 (by decide +kernel) rfl
theorem qs_8 : Cond.selects RX8 yX8_isSortAndTide yX8_isSortAndTide ∈ BIG := bgS 8 (by decide +kernel) rfl
set_option maxRecDepth 20000 in
theorem q3_7 : Cond.code yX8_isWinds cX8_isWinds 2 (some .boolean) ∈ BIG := bg3 7 rfl rfl
theorem q3_6 : Cond.instanceMethod yX8_isWinds ∈ BIG := bg3 6 (by decide +kernel) rfl
theorem qs_9 : Cond.selects RX8 yX8_isWinds yX8_isWinds ∈ BIG := bgS 9 (by decide +kernel) rfl
set_option maxRecDepth 20000 in
theorem q3_155 : Cond.code yX8_isMove cX8_isMove 2 (some .boolean) ∈ BIG := bg3 155 rfl rfl
theorem q3_154 : Cond.instanceMethod yX8_isMove ∈ BIG := bg3 154 (by decide +kernel) rfl
theorem qs_21 : Cond.selects RX8 yX8_isMove yX8_isMove ∈ BIG := bgS 21 (by decide +kernel) rfl
set_option maxRecDepth 20000 in
theorem q4_73 : Cond.code yX8_refusalOfElement cX8_refusalOfElement 4 (some .int) ∈ BIG := bg4 73 rfl rfl
theorem q4_72 : Cond.instanceMethod yX8_refusalOfElement ∈ BIG := bg4 72 (by decide +kernel) rfl
theorem qs_30 : Cond.selects RX8 yX8_refusalOfElement yX8_refusalOfElement ∈ BIG := bgS 30 (by decide +kernel) rfl
set_option maxRecDepth 20000 in
theorem q3_131 : Cond.code yX8_soonOrDay cX8_soonOrDay 4 (some .int) ∈ BIG := bg3 131 rfl rfl
theorem q3_130 : Cond.instanceMethod yX8_soonOrDay ∈ BIG := bg3 130 (by decide +kernel) rfl
theorem qs_19 : Cond.selects RX8 yX8_soonOrDay yX8_soonOrDay ∈ BIG := bgS 19 (by decide +kernel) rfl
set_option maxRecDepth 20000 in
theorem q3_139 : Cond.code yX8_soonLifted cX8_soonLifted 7 (some .int) ∈ BIG := bg3 139 rfl rfl
theorem q3_138 : Cond.instanceMethod yX8_soonLifted ∈ BIG := bg3 138 (by decide +kernel) rfl
theorem qs_20 : Cond.selects RX8 yX8_soonLifted yX8_soonLifted ∈ BIG := bgS 20 (by decide +kernel) rfl
set_option maxRecDepth 20000 in
theorem q3_97 : Cond.code yX8_reachedByDark cX8_reachedByDark 5 (some .boolean) ∈ BIG := bg3 97 rfl rfl
theorem q3_96 : Cond.instanceMethod yX8_reachedByDark ∈ BIG := bg3 96 (by decide +kernel) rfl
theorem qs_17 : Cond.selects RX8 yX8_reachedByDark yX8_reachedByDark ∈ BIG := bgS 17 (by decide +kernel) rfl
set_option maxRecDepth 20000 in
theorem q3_93 : Cond.code yX8_bestSet cX8_bestSet 8 (some .int) ∈ BIG := bg3 93 rfl rfl
theorem q3_92 : Cond.instanceMethod yX8_bestSet ∈ BIG := bg3 92 (by decide +kernel) rfl
theorem qs_16 : Cond.selects RX8 yX8_bestSet yX8_bestSet ∈ BIG := bgS 16 (by decide +kernel) rfl
set_option maxRecDepth 20000 in
theorem q3_101 : Cond.code yX8_likeliestUntried cX8_likeliestUntried 6 (some .int) ∈ BIG := bg3 101 rfl rfl
theorem q3_100 : Cond.instanceMethod yX8_likeliestUntried ∈ BIG := bg3 100 (by decide +kernel) rfl
theorem qs_18 : Cond.selects RX8 yX8_likeliestUntried yX8_likeliestUntried ∈ BIG := bgS 18 (by decide +kernel) rfl
set_option maxRecDepth 20000 in
theorem q3_221 : Cond.code yX8_marksCanHaveBeen cX8_marksCanHaveBeen 2 (some .boolean) ∈ BIG := bg3 221 rfl rfl
theorem q3_220 : Cond.instanceMethod yX8_marksCanHaveBeen ∈ BIG := bg3 220 (by decide +kernel) rfl
theorem qs_25 : Cond.selects RX8 yX8_marksCanHaveBeen yX8_marksCanHaveBeen ∈ BIG := bgS 25 (by decide +kernel) rfl
set_option maxRecDepth 20000 in
theorem q5_50 : Cond.code yX9_within cX9_within 6 (some .boolean) ∈ BIG := bg5 50 rfl rfl
theorem q5_49 : Cond.static yX9_within ∈ BIG := bg5 49 (by decide +kernel) rfl
theorem q1_10 : Cond.initialized RX9 ∈ BIG := bg1 10 (by decide +kernel) rfl
set_option maxRecDepth 20000 in
theorem q5_89 : Cond.code yX9_isMinute cX9_isMinute 1 (some .boolean) ∈ BIG := bg5 89 rfl rfl
theorem q5_88 : Cond.static yX9_isMinute ∈ BIG := bg5 88 (by decide +kernel) rfl
set_option maxRecDepth 20000 in
theorem q4_107 : Cond.code yX9_init cX9_init 2 none ∈ BIG := bg4 107 rfl rfl
theorem q4_106 : Cond.instanceMethod yX9_init ∈ BIG := bg4 106 (by decide +kernel) rfl
set_option maxRecDepth 20000 in
theorem q5_125 : Cond.code yX9_becomes cX9_becomes 5 (some .int) ∈ BIG := bg5 125 rfl rfl
theorem q5_124 : Cond.instanceMethod yX9_becomes ∈ BIG := bg5 124 (by decide +kernel) rfl
theorem qs_40 : Cond.selects RX9 yX9_becomes yX9_becomes ∈ BIG := bgS 40 (by decide +kernel) rfl
set_option maxRecDepth 20000 in
theorem q5_38 : Cond.code yX9_undo cX9_undo 1 (some .int) ∈ BIG := bg5 38 rfl rfl
theorem q5_36 : Cond.instanceMethod yX9_undo ∈ BIG := bg5 36 (by decide +kernel) rfl
theorem q5_37 : Cond.selects RX9 yX9_undo yX9_undo ∈ BIG := bg5 37 (by decide +kernel) rfl
set_option maxRecDepth 20000 in
theorem q5_42 : Cond.code yX9_redo cX9_redo 1 (some .int) ∈ BIG := bg5 42 rfl rfl
theorem q5_40 : Cond.instanceMethod yX9_redo ∈ BIG := bg5 40 (by decide +kernel) rfl
theorem q5_41 : Cond.selects RX9 yX9_redo yX9_redo ∈ BIG := bg5 41 (by decide +kernel) rfl
set_option maxRecDepth 20000 in
theorem q5_46 : Cond.code yX9_feed cX9_feed 4 (some .int) ∈ BIG := bg5 46 rfl rfl
theorem q5_44 : Cond.instanceMethod yX9_feed ∈ BIG := bg5 44 (by decide +kernel) rfl
theorem q5_45 : Cond.selects RX9 yX9_feed yX9_feed ∈ BIG := bg5 45 (by decide +kernel) rfl
set_option maxRecDepth 20000 in
theorem q5_66 : Cond.code yX9_byteAt cX9_byteAt 1 (some .int) ∈ BIG := bg5 66 rfl rfl
theorem q5_65 : Cond.instanceMethod yX9_byteAt ∈ BIG := bg5 65 (by decide +kernel) rfl
theorem qs_33 : Cond.selects RX9 yX9_byteAt yX9_byteAt ∈ BIG := bgS 33 (by decide +kernel) rfl
set_option maxRecDepth 20000 in
theorem q5_62 : Cond.code yX9_number cX9_number 6 (some .int) ∈ BIG := bg5 62 rfl rfl
theorem q5_61 : Cond.instanceMethod yX9_number ∈ BIG := bg5 61 (by decide +kernel) rfl
theorem qs_32 : Cond.selects RX9 yX9_number yX9_number ∈ BIG := bgS 32 (by decide +kernel) rfl
set_option maxRecDepth 20000 in
theorem q5_58 : Cond.code yX9_readPoints cX9_readPoints 4 (some .boolean) ∈ BIG := bg5 58 rfl rfl
theorem q5_57 : Cond.instanceMethod yX9_readPoints ∈ BIG := bg5 57 (by decide +kernel) rfl
theorem qs_31 : Cond.selects RX9 yX9_readPoints yX9_readPoints ∈ BIG := bgS 31 (by decide +kernel) rfl
set_option maxRecDepth 20000 in
theorem q5_54 : Cond.code yX9_tide cX9_tide 3 (some .int) ∈ BIG := bg5 54 rfl rfl
theorem q5_52 : Cond.instanceMethod yX9_tide ∈ BIG := bg5 52 (by decide +kernel) rfl
theorem q5_53 : Cond.selects RX9 yX9_tide yX9_tide ∈ BIG := bg5 53 (by decide +kernel) rfl
set_option maxRecDepth 20000 in
theorem q5_82 : Cond.code yX9_isTide cX9_isTide 2 (some .boolean) ∈ BIG := bg5 82 rfl rfl
theorem q5_81 : Cond.instanceMethod yX9_isTide ∈ BIG := bg5 81 (by decide +kernel) rfl
theorem qs_34 : Cond.selects RX9 yX9_isTide yX9_isTide ∈ BIG := bgS 34 (by decide +kernel) rfl
set_option maxRecDepth 20000 in
theorem q5_86 : Cond.code yX9_isWind cX9_isWind 2 (some .boolean) ∈ BIG := bg5 86 rfl rfl
theorem q5_85 : Cond.instanceMethod yX9_isWind ∈ BIG := bg5 85 (by decide +kernel) rfl
theorem qs_35 : Cond.selects RX9 yX9_isWind yX9_isWind ∈ BIG := bgS 35 (by decide +kernel) rfl
set_option maxRecDepth 20000 in
theorem q5_70 : Cond.code yX9_wind cX9_wind 4 (some .int) ∈ BIG := bg5 70 rfl rfl
theorem q5_68 : Cond.instanceMethod yX9_wind ∈ BIG := bg5 68 (by decide +kernel) rfl
theorem q5_69 : Cond.selects RX9 yX9_wind yX9_wind ∈ BIG := bg5 69 (by decide +kernel) rfl
set_option maxRecDepth 20000 in
theorem q5_98 : Cond.code yX9_tideAt cX9_tideAt 8 (some .int) ∈ BIG := bg5 98 rfl rfl
theorem q5_97 : Cond.instanceMethod yX9_tideAt ∈ BIG := bg5 97 (by decide +kernel) rfl
theorem qs_37 : Cond.selects RX9 yX9_tideAt yX9_tideAt ∈ BIG := bgS 37 (by decide +kernel) rfl
set_option maxRecDepth 20000 in
theorem q5_94 : Cond.code yX9_seaAt cX9_seaAt 5 (some .int) ∈ BIG := bg5 94 rfl rfl
theorem q5_93 : Cond.instanceMethod yX9_seaAt ∈ BIG := bg5 93 (by decide +kernel) rfl
theorem qs_36 : Cond.selects RX9 yX9_seaAt yX9_seaAt ∈ BIG := bgS 36 (by decide +kernel) rfl
set_option maxRecDepth 20000 in
theorem q5_78 : Cond.code yX9_sea cX9_sea 4 (some .int) ∈ BIG := bg5 78 rfl rfl
theorem q5_76 : Cond.instanceMethod yX9_sea ∈ BIG := bg5 76 (by decide +kernel) rfl
theorem q5_77 : Cond.selects RX9 yX9_sea yX9_sea ∈ BIG := bg5 77 (by decide +kernel) rfl
set_option maxRecDepth 20000 in
theorem q5_116 : Cond.code yX9_isPlace cX9_isPlace 2 (some .boolean) ∈ BIG := bg5 116 rfl rfl
theorem q5_115 : Cond.instanceMethod yX9_isPlace ∈ BIG := bg5 115 (by decide +kernel) rfl
theorem qs_39 : Cond.selects RX9 yX9_isPlace yX9_isPlace ∈ BIG := bgS 39 (by decide +kernel) rfl
set_option maxRecDepth 20000 in
theorem q5_133 : Cond.code yX9_isWay cX9_isWay 2 (some .boolean) ∈ BIG := bg5 133 rfl rfl
theorem q5_132 : Cond.instanceMethod yX9_isWay ∈ BIG := bg5 132 (by decide +kernel) rfl
theorem qs_41 : Cond.selects RX9 yX9_isWay yX9_isWay ∈ BIG := bgS 41 (by decide +kernel) rfl
set_option maxRecDepth 20000 in
theorem q5_103 : Cond.code yX9_place cX9_place 2 (some .int) ∈ BIG := bg5 103 rfl rfl
theorem q5_101 : Cond.instanceMethod yX9_place ∈ BIG := bg5 101 (by decide +kernel) rfl
theorem q5_102 : Cond.selects RX9 yX9_place yX9_place ∈ BIG := bg5 102 (by decide +kernel) rfl
set_option maxRecDepth 20000 in
theorem q5_112 : Cond.code yX9_areTwo cX9_areTwo 2 (some .boolean) ∈ BIG := bg5 112 rfl rfl
theorem q5_111 : Cond.instanceMethod yX9_areTwo ∈ BIG := bg5 111 (by decide +kernel) rfl
theorem qs_38 : Cond.selects RX9 yX9_areTwo yX9_areTwo ∈ BIG := bgS 38 (by decide +kernel) rfl
set_option maxRecDepth 20000 in
theorem q5_108 : Cond.code yX9_way cX9_way 3 (some .int) ∈ BIG := bg5 108 rfl rfl
theorem q5_106 : Cond.instanceMethod yX9_way ∈ BIG := bg5 106 (by decide +kernel) rfl
theorem q5_107 : Cond.selects RX9 yX9_way yX9_way ∈ BIG := bg5 107 (by decide +kernel) rfl
set_option maxRecDepth 20000 in
theorem q5_121 : Cond.code yX9_safe cX9_safe 3 (some .int) ∈ BIG := bg5 121 rfl rfl
theorem q5_119 : Cond.instanceMethod yX9_safe ∈ BIG := bg5 119 (by decide +kernel) rfl
theorem q5_120 : Cond.selects RX9 yX9_safe yX9_safe ∈ BIG := bg5 120 (by decide +kernel) rfl
set_option maxRecDepth 20000 in
theorem q5_129 : Cond.code yX9_alter cX9_alter 4 (some .int) ∈ BIG := bg5 129 rfl rfl
theorem q5_127 : Cond.instanceMethod yX9_alter ∈ BIG := bg5 127 (by decide +kernel) rfl
theorem q5_128 : Cond.selects RX9 yX9_alter yX9_alter ∈ BIG := bg5 128 (by decide +kernel) rfl
set_option maxRecDepth 20000 in
theorem q5_140 : Cond.code yX9_isSort cX9_isSort 1 (some .boolean) ∈ BIG := bg5 140 rfl rfl
theorem q5_139 : Cond.static yX9_isSort ∈ BIG := bg5 139 (by decide +kernel) rfl
set_option maxRecDepth 20000 in
theorem q5_137 : Cond.code yX9_sort cX9_sort 3 (some .int) ∈ BIG := bg5 137 rfl rfl
theorem q5_135 : Cond.instanceMethod yX9_sort ∈ BIG := bg5 135 (by decide +kernel) rfl
theorem q5_136 : Cond.selects RX9 yX9_sort yX9_sort ∈ BIG := bg5 136 (by decide +kernel) rfl
set_option maxRecDepth 20000 in
theorem q5_147 : Cond.code yX9_light cX9_light 4 (some .int) ∈ BIG := bg5 147 rfl rfl
theorem q5_145 : Cond.instanceMethod yX9_light ∈ BIG := bg5 145 (by decide +kernel) rfl
theorem q5_146 : Cond.selects RX9 yX9_light yX9_light ∈ BIG := bg5 146 (by decide +kernel) rfl
set_option maxRecDepth 20000 in
theorem q5_155 : Cond.code yX9_takesOf cX9_takesOf 4 (some .int) ∈ BIG := bg5 155 rfl rfl
theorem q5_154 : Cond.instanceMethod yX9_takesOf ∈ BIG := bg5 154 (by decide +kernel) rfl
theorem qs_42 : Cond.selects RX9 yX9_takesOf yX9_takesOf ∈ BIG := bgS 42 (by decide +kernel) rfl
set_option maxRecDepth 20000 in
theorem q5_151 : Cond.code yX9_takes cX9_takes 4 (some .int) ∈ BIG := bg5 151 rfl rfl
theorem q5_149 : Cond.instanceMethod yX9_takes ∈ BIG := bg5 149 (by decide +kernel) rfl
theorem q5_150 : Cond.selects RX9 yX9_takes yX9_takes ∈ BIG := bg5 150 (by decide +kernel) rfl
set_option maxRecDepth 20000 in
theorem q5_172 : Cond.code yX9_layOut cX9_layOut 7 none ∈ BIG := bg5 172 rfl rfl
theorem q5_171 : Cond.instanceMethod yX9_layOut ∈ BIG := bg5 171 (by decide +kernel) rfl
theorem qs_45 : Cond.selects RX9 yX9_layOut yX9_layOut ∈ BIG := bgS 45 (by decide +kernel) rfl
set_option maxRecDepth 20000 in
theorem q5_176 : Cond.code yX9_goes cX9_goes 7 (some .boolean) ∈ BIG := bg5 176 rfl rfl
theorem q5_175 : Cond.instanceMethod yX9_goes ∈ BIG := bg5 175 (by decide +kernel) rfl
theorem qs_46 : Cond.selects RX9 yX9_goes yX9_goes ∈ BIG := bgS 46 (by decide +kernel) rfl
set_option maxRecDepth 20000 in
theorem q5_199 : Cond.code yX9_waits cX9_waits 3 (some .boolean) ∈ BIG := bg5 199 rfl rfl
theorem q5_198 : Cond.instanceMethod yX9_waits ∈ BIG := bg5 198 (by decide +kernel) rfl
theorem qs_50 : Cond.selects RX9 yX9_waits yX9_waits ∈ BIG := bgS 50 (by decide +kernel) rfl
set_option maxRecDepth 20000 in
theorem q5_203 : Cond.code yX9_otherEnd cX9_otherEnd 3 (some .int) ∈ BIG := bg5 203 rfl rfl
theorem q5_202 : Cond.instanceMethod yX9_otherEnd ∈ BIG := bg5 202 (by decide +kernel) rfl
theorem qs_51 : Cond.selects RX9 yX9_otherEnd yX9_otherEnd ∈ BIG := bgS 51 (by decide +kernel) rfl
set_option maxRecDepth 20000 in
theorem q5_191 : Cond.code yX9_stateOf cX9_stateOf 3 (some .int) ∈ BIG := bg5 191 rfl rfl
theorem q5_190 : Cond.static yX9_stateOf ∈ BIG := bg5 190 (by decide +kernel) rfl
set_option maxRecDepth 20000 in
theorem q5_195 : Cond.code yX9_spread cX9_spread 7 none ∈ BIG := bg5 195 rfl rfl
theorem q5_194 : Cond.instanceMethod yX9_spread ∈ BIG := bg5 194 (by decide +kernel) rfl
theorem qs_49 : Cond.selects RX9 yX9_spread yX9_spread ∈ BIG := bgS 49 (by decide +kernel) rfl
set_option maxRecDepth 20000 in
theorem q5_188 : Cond.code yX9_reach cX9_reach 7 none ∈ BIG := bg5 188 rfl rfl
theorem q5_187 : Cond.instanceMethod yX9_reach ∈ BIG := bg5 187 (by decide +kernel) rfl
theorem qs_48 : Cond.selects RX9 yX9_reach yX9_reach ∈ BIG := bgS 48 (by decide +kernel) rfl
set_option maxRecDepth 20000 in
theorem q5_211 : Cond.code yX9_isAt cX9_isAt 4 (some .boolean) ∈ BIG := bg5 211 rfl rfl
theorem q5_210 : Cond.instanceMethod yX9_isAt ∈ BIG := bg5 210 (by decide +kernel) rfl
theorem qs_53 : Cond.selects RX9 yX9_isAt yX9_isAt ∈ BIG := bgS 53 (by decide +kernel) rfl
set_option maxRecDepth 20000 in
theorem q5_207 : Cond.code yX9_soonAt cX9_soonAt 3 (some .int) ∈ BIG := bg5 207 rfl rfl
theorem q5_206 : Cond.instanceMethod yX9_soonAt ∈ BIG := bg5 206 (by decide +kernel) rfl
theorem qs_52 : Cond.selects RX9 yX9_soonAt yX9_soonAt ∈ BIG := bgS 52 (by decide +kernel) rfl
set_option maxRecDepth 20000 in
theorem q5_184 : Cond.code yX9_isFrom cX9_isFrom 2 (some .boolean) ∈ BIG := bg5 184 rfl rfl
theorem q5_183 : Cond.instanceMethod yX9_isFrom ∈ BIG := bg5 183 (by decide +kernel) rfl
theorem qs_47 : Cond.selects RX9 yX9_isFrom yX9_isFrom ∈ BIG := bgS 47 (by decide +kernel) rfl
set_option maxRecDepth 20000 in
theorem q5_163 : Cond.code yX9_isSt cX9_isSt 2 (some .boolean) ∈ BIG := bg5 163 rfl rfl
theorem q5_162 : Cond.instanceMethod yX9_isSt ∈ BIG := bg5 162 (by decide +kernel) rfl
theorem qs_43 : Cond.selects RX9 yX9_isSt yX9_isSt ∈ BIG := bgS 43 (by decide +kernel) rfl
set_option maxRecDepth 20000 in
theorem q5_167 : Cond.code yX9_areWinds cX9_areWinds 2 (some .boolean) ∈ BIG := bg5 167 rfl rfl
theorem q5_166 : Cond.instanceMethod yX9_areWinds ∈ BIG := bg5 166 (by decide +kernel) rfl
theorem qs_44 : Cond.selects RX9 yX9_areWinds yX9_areWinds ∈ BIG := bgS 44 (by decide +kernel) rfl
set_option maxRecDepth 20000 in
theorem q5_159 : Cond.code yX9_open cX9_open 9 (some .int) ∈ BIG := bg5 159 rfl rfl
theorem q5_157 : Cond.instanceMethod yX9_open ∈ BIG := bg5 157 (by decide +kernel) rfl
theorem q5_158 : Cond.selects RX9 yX9_open yX9_open ∈ BIG := bg5 158 (by decide +kernel) rfl
set_option maxRecDepth 20000 in
theorem q5_180 : Cond.code yX9_soon cX9_soon 5 (some .int) ∈ BIG := bg5 180 rfl rfl
theorem q5_178 : Cond.instanceMethod yX9_soon ∈ BIG := bg5 178 (by decide +kernel) rfl
theorem q5_179 : Cond.selects RX9 yX9_soon yX9_soon ∈ BIG := bg5 179 (by decide +kernel) rfl
set_option maxRecDepth 20000 in
theorem q5_223 : Cond.code yX9_goBack cX9_goBack 7 none ∈ BIG := bg5 223 rfl rfl
theorem q5_222 : Cond.instanceMethod yX9_goBack ∈ BIG := bg5 222 (by decide +kernel) rfl
theorem qs_55 : Cond.selects RX9 yX9_goBack yX9_goBack ∈ BIG := bgS 55 (by decide +kernel) rfl
set_option maxRecDepth 20000 in
theorem q5_227 : Cond.code yX9_comesFrom cX9_comesFrom 8 (some .boolean) ∈ BIG := bg5 227 rfl rfl
theorem q5_226 : Cond.instanceMethod yX9_comesFrom ∈ BIG := bg5 226 (by decide +kernel) rfl
theorem qs_56 : Cond.selects RX9 yX9_comesFrom yX9_comesFrom ∈ BIG := bgS 56 (by decide +kernel) rfl
set_option maxRecDepth 20000 in
theorem q5_219 : Cond.code yX9_lastFrom cX9_lastFrom 5 (some .int) ∈ BIG := bg5 219 rfl rfl
theorem q5_218 : Cond.instanceMethod yX9_lastFrom ∈ BIG := bg5 218 (by decide +kernel) rfl
theorem qs_54 : Cond.selects RX9 yX9_lastFrom yX9_lastFrom ∈ BIG := bgS 54 (by decide +kernel) rfl
set_option maxRecDepth 20000 in
theorem q5_215 : Cond.code yX9_last cX9_last 4 (some .int) ∈ BIG := bg5 215 rfl rfl
theorem q5_213 : Cond.instanceMethod yX9_last ∈ BIG := bg5 213 (by decide +kernel) rfl
theorem q5_214 : Cond.selects RX9 yX9_last yX9_last ∈ BIG := bg5 214 (by decide +kernel) rfl
set_option maxRecDepth 20000 in
theorem q5_235 : Cond.code yX9_allWinds cX9_allWinds 1 (some .int) ∈ BIG := bg5 235 rfl rfl
theorem q5_234 : Cond.instanceMethod yX9_allWinds ∈ BIG := bg5 234 (by decide +kernel) rfl
theorem qs_57 : Cond.selects RX9 yX9_allWinds yX9_allWinds ∈ BIG := bgS 57 (by decide +kernel) rfl
set_option maxRecDepth 20000 in
theorem q5_239 : Cond.code yX9_chancesOf cX9_chancesOf 4 (some .int) ∈ BIG := bg5 239 rfl rfl
theorem q5_238 : Cond.instanceMethod yX9_chancesOf ∈ BIG := bg5 238 (by decide +kernel) rfl
theorem qs_58 : Cond.selects RX9 yX9_chancesOf yX9_chancesOf ∈ BIG := bgS 58 (by decide +kernel) rfl
set_option maxRecDepth 20000 in
theorem q6_3 : Cond.code yX9_byDark cX9_byDark 6 (some .boolean) ∈ BIG := bg6 3 rfl rfl
theorem q6_2 : Cond.instanceMethod yX9_byDark ∈ BIG := bg6 2 (by decide +kernel) rfl
theorem qs_59 : Cond.selects RX9 yX9_byDark yX9_byDark ∈ BIG := bgS 59 (by decide +kernel) rfl
set_option maxRecDepth 20000 in
theorem q5_231 : Cond.code yX9_best cX9_best 7 (some .int) ∈ BIG := bg5 231 rfl rfl
theorem q5_229 : Cond.instanceMethod yX9_best ∈ BIG := bg5 229 (by decide +kernel) rfl
theorem q5_230 : Cond.selects RX9 yX9_best yX9_best ∈ BIG := bg5 230 (by decide +kernel) rfl
set_option maxRecDepth 20000 in
theorem q6_7 : Cond.code yX9_days cX9_days 9 (some .int) ∈ BIG := bg6 7 rfl rfl
theorem q6_5 : Cond.instanceMethod yX9_days ∈ BIG := bg6 5 (by decide +kernel) rfl
theorem q6_6 : Cond.selects RX9 yX9_days yX9_days ∈ BIG := bg6 6 (by decide +kernel) rfl
set_option maxRecDepth 20000 in
theorem q6_11 : Cond.code yX9_two cX9_two 8 (some .int) ∈ BIG := bg6 11 rfl rfl
theorem q6_9 : Cond.instanceMethod yX9_two ∈ BIG := bg6 9 (by decide +kernel) rfl
theorem q6_10 : Cond.selects RX9 yX9_two yX9_two ∈ BIG := bg6 10 (by decide +kernel) rfl
set_option maxRecDepth 20000 in
theorem q6_19 : Cond.code yX9_soonOrNever cX9_soonOrNever 5 (some .int) ∈ BIG := bg6 19 rfl rfl
theorem q6_18 : Cond.instanceMethod yX9_soonOrNever ∈ BIG := bg6 18 (by decide +kernel) rfl
theorem qs_60 : Cond.selects RX9 yX9_soonOrNever yX9_soonOrNever ∈ BIG := bgS 60 (by decide +kernel) rfl
set_option maxRecDepth 20000 in
theorem q6_15 : Cond.code yX9_worth cX9_worth 7 (some .int) ∈ BIG := bg6 15 rfl rfl
theorem q6_13 : Cond.instanceMethod yX9_worth ∈ BIG := bg6 13 (by decide +kernel) rfl
theorem q6_14 : Cond.selects RX9 yX9_worth yX9_worth ∈ BIG := bg6 14 (by decide +kernel) rfl
set_option maxRecDepth 20000 in
theorem q6_27 : Cond.code yX9_isSooner cX9_isSooner 8 (some .boolean) ∈ BIG := bg6 27 rfl rfl
theorem q6_26 : Cond.instanceMethod yX9_isSooner ∈ BIG := bg6 26 (by decide +kernel) rfl
theorem qs_61 : Cond.selects RX9 yX9_isSooner yX9_isSooner ∈ BIG := bgS 61 (by decide +kernel) rfl
set_option maxRecDepth 20000 in
theorem q6_23 : Cond.code yX9_higher cX9_higher 9 (some .int) ∈ BIG := bg6 23 rfl rfl
theorem q6_21 : Cond.instanceMethod yX9_higher ∈ BIG := bg6 21 (by decide +kernel) rfl
theorem q6_22 : Cond.selects RX9 yX9_higher yX9_higher ∈ BIG := bg6 22 (by decide +kernel) rfl
set_option maxRecDepth 20000 in
theorem q6_31 : Cond.code yX9_must cX9_must 6 (some .int) ∈ BIG := bg6 31 rfl rfl
theorem q6_29 : Cond.instanceMethod yX9_must ∈ BIG := bg6 29 (by decide +kernel) rfl
theorem q6_30 : Cond.selects RX9 yX9_must yX9_must ∈ BIG := bg6 30 (by decide +kernel) rfl
set_option maxRecDepth 20000 in
theorem q6_35 : Cond.code yX9_move cX9_move 2 (some .int) ∈ BIG := bg6 35 rfl rfl
theorem q6_33 : Cond.instanceMethod yX9_move ∈ BIG := bg6 33 (by decide +kernel) rfl
theorem q6_34 : Cond.selects RX9 yX9_move yX9_move ∈ BIG := bg6 34 (by decide +kernel) rfl
set_option maxRecDepth 20000 in
theorem q6_41 : Cond.code yX9_moves cX9_moves 6 (some .int) ∈ BIG := bg6 41 rfl rfl
theorem q6_39 : Cond.instanceMethod yX9_moves ∈ BIG := bg6 39 (by decide +kernel) rfl
theorem q6_40 : Cond.selects RX9 yX9_moves yX9_moves ∈ BIG := bg6 40 (by decide +kernel) rfl
set_option maxRecDepth 20000 in
theorem q6_51 : Cond.code yX9_drop cX9_drop 2 (some .int) ∈ BIG := bg6 51 rfl rfl
theorem q6_49 : Cond.instanceMethod yX9_drop ∈ BIG := bg6 49 (by decide +kernel) rfl
theorem q6_50 : Cond.selects RX9 yX9_drop yX9_drop ∈ BIG := bg6 50 (by decide +kernel) rfl
set_option maxRecDepth 20000 in
theorem q6_63 : Cond.code yX9_doesMove cX9_doesMove 3 (some .boolean) ∈ BIG := bg6 63 rfl rfl
theorem q6_62 : Cond.instanceMethod yX9_doesMove ∈ BIG := bg6 62 (by decide +kernel) rfl
theorem qs_63 : Cond.selects RX9 yX9_doesMove yX9_doesMove ∈ BIG := bgS 63 (by decide +kernel) rfl
set_option maxRecDepth 20000 in
theorem q6_59 : Cond.code yX9_goPlan cX9_goPlan 5 (some .int) ∈ BIG := bg6 59 rfl rfl
theorem q6_58 : Cond.instanceMethod yX9_goPlan ∈ BIG := bg6 58 (by decide +kernel) rfl
theorem qs_62 : Cond.selects RX9 yX9_goPlan yX9_goPlan ∈ BIG := bgS 62 (by decide +kernel) rfl
set_option maxRecDepth 20000 in
theorem q6_55 : Cond.code yX9_judge cX9_judge 6 (some .int) ∈ BIG := bg6 55 rfl rfl
theorem q6_53 : Cond.instanceMethod yX9_judge ∈ BIG := bg6 53 (by decide +kernel) rfl
theorem q6_54 : Cond.selects RX9 yX9_judge yX9_judge ∈ BIG := bg6 54 (by decide +kernel) rfl
set_option maxRecDepth 20000 in
theorem q6_67 : Cond.code yX9_wet cX9_wet 6 (some .int) ∈ BIG := bg6 67 rfl rfl
theorem q6_65 : Cond.instanceMethod yX9_wet ∈ BIG := bg6 65 (by decide +kernel) rfl
theorem q6_66 : Cond.selects RX9 yX9_wet yX9_wet ∈ BIG := bg6 66 (by decide +kernel) rfl
set_option maxRecDepth 20000 in
theorem q6_71 : Cond.code yX9_chance cX9_chance 5 (some .int) ∈ BIG := bg6 71 rfl rfl
theorem q6_69 : Cond.instanceMethod yX9_chance ∈ BIG := bg6 69 (by decide +kernel) rfl
theorem q6_70 : Cond.selects RX9 yX9_chance yX9_chance ∈ BIG := bg6 70 (by decide +kernel) rfl
set_option maxRecDepth 20000 in
theorem q6_75 : Cond.code yX9_mark cX9_mark 2 (some .int) ∈ BIG := bg6 75 rfl rfl
theorem q6_73 : Cond.instanceMethod yX9_mark ∈ BIG := bg6 73 (by decide +kernel) rfl
theorem q6_74 : Cond.selects RX9 yX9_mark yX9_mark ∈ BIG := bg6 74 (by decide +kernel) rfl
set_option maxRecDepth 20000 in
theorem q6_79 : Cond.code yX9_unmark cX9_unmark 2 (some .int) ∈ BIG := bg6 79 rfl rfl
theorem q6_77 : Cond.instanceMethod yX9_unmark ∈ BIG := bg6 77 (by decide +kernel) rfl
theorem q6_78 : Cond.selects RX9 yX9_unmark yX9_unmark ∈ BIG := bg6 78 (by decide +kernel) rfl
set_option maxRecDepth 20000 in
theorem q6_83 : Cond.code yX9_old cX9_old 6 (some .int) ∈ BIG := bg6 83 rfl rfl
theorem q6_81 : Cond.instanceMethod yX9_old ∈ BIG := bg6 81 (by decide +kernel) rfl
theorem q6_82 : Cond.selects RX9 yX9_old yX9_old ∈ BIG := bg6 82 (by decide +kernel) rfl
set_option maxRecDepth 20000 in
theorem q6_96 : Cond.code yX9_isBody cX9_isBody 2 (some .boolean) ∈ BIG := bg6 96 rfl rfl
theorem q6_95 : Cond.instanceMethod yX9_isBody ∈ BIG := bg6 95 (by decide +kernel) rfl
theorem qs_64 : Cond.selects RX9 yX9_isBody yX9_isBody ∈ BIG := bgS 64 (by decide +kernel) rfl
set_option maxRecDepth 20000 in
theorem q6_156 : Cond.code yX9_kindOf cX9_kindOf 2 (some .int) ∈ BIG := bg6 156 rfl rfl
theorem q6_155 : Cond.instanceMethod yX9_kindOf ∈ BIG := bg6 155 (by decide +kernel) rfl
theorem qs_71 : Cond.selects RX9 yX9_kindOf yX9_kindOf ∈ BIG := bgS 71 (by decide +kernel) rfl
set_option maxRecDepth 20000 in
theorem q6_87 : Cond.code yX9_body cX9_body 2 (some .int) ∈ BIG := bg6 87 rfl rfl
theorem q6_85 : Cond.instanceMethod yX9_body ∈ BIG := bg6 85 (by decide +kernel) rfl
theorem q6_86 : Cond.selects RX9 yX9_body yX9_body ∈ BIG := bg6 86 (by decide +kernel) rfl
set_option maxRecDepth 20000 in
theorem q6_159 : Cond.code yX9_above cX9_above 1 (some .int) ∈ BIG := bg6 159 rfl rfl
theorem q6_158 : Cond.static yX9_above ∈ BIG := bg6 158 (by decide +kernel) rfl
set_option maxRecDepth 20000 in
theorem q6_104 : Cond.code yX9_begins cX9_begins 2 none ∈ BIG := bg6 104 rfl rfl
theorem q6_103 : Cond.instanceMethod yX9_begins ∈ BIG := bg6 103 (by decide +kernel) rfl
theorem qs_66 : Cond.selects RX9 yX9_begins yX9_begins ∈ BIG := bgS 66 (by decide +kernel) rfl
set_option maxRecDepth 20000 in
theorem q6_100 : Cond.code yX9_goesAs cX9_goesAs 3 (some .int) ∈ BIG := bg6 100 rfl rfl
theorem q6_99 : Cond.instanceMethod yX9_goesAs ∈ BIG := bg6 99 (by decide +kernel) rfl
theorem qs_65 : Cond.selects RX9 yX9_goesAs yX9_goesAs ∈ BIG := bgS 65 (by decide +kernel) rfl
set_option maxRecDepth 20000 in
theorem q6_108 : Cond.code yX9_waitsAs cX9_waitsAs 4 (some .int) ∈ BIG := bg6 108 rfl rfl
theorem q6_107 : Cond.instanceMethod yX9_waitsAs ∈ BIG := bg6 107 (by decide +kernel) rfl
theorem qs_67 : Cond.selects RX9 yX9_waitsAs yX9_waitsAs ∈ BIG := bgS 67 (by decide +kernel) rfl
set_option maxRecDepth 20000 in
theorem q6_112 : Cond.code yX9_wetsAs cX9_wetsAs 4 (some .int) ∈ BIG := bg6 112 rfl rfl
theorem q6_111 : Cond.instanceMethod yX9_wetsAs ∈ BIG := bg6 111 (by decide +kernel) rfl
theorem qs_68 : Cond.selects RX9 yX9_wetsAs yX9_wetsAs ∈ BIG := bgS 68 (by decide +kernel) rfl
set_option maxRecDepth 20000 in
theorem q6_116 : Cond.code yX9_tellsAs cX9_tellsAs 4 (some .int) ∈ BIG := bg6 116 rfl rfl
theorem q6_115 : Cond.instanceMethod yX9_tellsAs ∈ BIG := bg6 115 (by decide +kernel) rfl
theorem qs_69 : Cond.selects RX9 yX9_tellsAs yX9_tellsAs ∈ BIG := bgS 69 (by decide +kernel) rfl
set_option maxRecDepth 20000 in
theorem q6_92 : Cond.code yX9_act cX9_act 4 (some .int) ∈ BIG := bg6 92 rfl rfl
theorem q6_90 : Cond.instanceMethod yX9_act ∈ BIG := bg6 90 (by decide +kernel) rfl
theorem q6_91 : Cond.selects RX9 yX9_act yX9_act ∈ BIG := bg6 91 (by decide +kernel) rfl
set_option maxRecDepth 20000 in
theorem q6_120 : Cond.code yX9_trace cX9_trace 2 (some .int) ∈ BIG := bg6 120 rfl rfl
theorem q6_118 : Cond.instanceMethod yX9_trace ∈ BIG := bg6 118 (by decide +kernel) rfl
theorem q6_119 : Cond.selects RX9 yX9_trace yX9_trace ∈ BIG := bg6 119 (by decide +kernel) rfl
set_option maxRecDepth 20000 in
theorem q6_44 : Cond.code yX9_isShelf cX9_isShelf 1 (some .boolean) ∈ BIG := bg6 44 rfl rfl
theorem q6_43 : Cond.static yX9_isShelf ∈ BIG := bg6 43 (by decide +kernel) rfl
set_option maxRecDepth 20000 in
theorem q6_124 : Cond.code yX9_keep cX9_keep 3 (some .int) ∈ BIG := bg6 124 rfl rfl
theorem q6_122 : Cond.instanceMethod yX9_keep ∈ BIG := bg6 122 (by decide +kernel) rfl
theorem q6_123 : Cond.selects RX9 yX9_keep yX9_keep ∈ BIG := bg6 123 (by decide +kernel) rfl
set_option maxRecDepth 20000 in
theorem q6_128 : Cond.code yX9_row cX9_row 5 (some .int) ∈ BIG := bg6 128 rfl rfl
theorem q6_126 : Cond.instanceMethod yX9_row ∈ BIG := bg6 126 (by decide +kernel) rfl
theorem q6_127 : Cond.selects RX9 yX9_row yX9_row ∈ BIG := bg6 127 (by decide +kernel) rfl
set_option maxRecDepth 20000 in
theorem q6_136 : Cond.code yX9_refusal cX9_refusal 3 (some .int) ∈ BIG := bg6 136 rfl rfl
theorem q6_135 : Cond.instanceMethod yX9_refusal ∈ BIG := bg6 135 (by decide +kernel) rfl
theorem qs_70 : Cond.selects RX9 yX9_refusal yX9_refusal ∈ BIG := bgS 70 (by decide +kernel) rfl
set_option maxRecDepth 20000 in
theorem q6_139 : Cond.code yX9_asSort cX9_asSort 3 (some .long) ∈ BIG := bg6 139 rfl rfl
theorem q6_138 : Cond.static yX9_asSort ∈ BIG := bg6 138 (by decide +kernel) rfl
set_option maxRecDepth 20000 in
theorem q6_132 : Cond.code yX9_put cX9_put 6 (some .int) ∈ BIG := bg6 132 rfl rfl
theorem q6_130 : Cond.instanceMethod yX9_put ∈ BIG := bg6 130 (by decide +kernel) rfl
theorem q6_131 : Cond.selects RX9 yX9_put yX9_put ∈ BIG := bg6 131 (by decide +kernel) rfl
set_option maxRecDepth 20000 in
theorem q6_143 : Cond.code yX9_element cX9_element 3 (some .long) ∈ BIG := bg6 143 rfl rfl
theorem q6_141 : Cond.instanceMethod yX9_element ∈ BIG := bg6 141 (by decide +kernel) rfl
theorem q6_142 : Cond.selects RX9 yX9_element yX9_element ∈ BIG := bg6 142 (by decide +kernel) rfl
set_option maxRecDepth 20000 in
theorem q6_148 : Cond.code yX9_shift cX9_shift 7 (some .int) ∈ BIG := bg6 148 rfl rfl
theorem q6_146 : Cond.instanceMethod yX9_shift ∈ BIG := bg6 146 (by decide +kernel) rfl
theorem q6_147 : Cond.selects RX9 yX9_shift yX9_shift ∈ BIG := bg6 147 (by decide +kernel) rfl
set_option maxRecDepth 20000 in
theorem q6_152 : Cond.code yX9_taken cX9_taken 4 (some .int) ∈ BIG := bg6 152 rfl rfl
theorem q6_150 : Cond.instanceMethod yX9_taken ∈ BIG := bg6 150 (by decide +kernel) rfl
theorem q6_151 : Cond.selects RX9 yX9_taken yX9_taken ∈ BIG := bg6 151 (by decide +kernel) rfl
set_option maxRecDepth 20000 in
theorem q6_163 : Cond.code yX9_count cX9_count 2 (some .int) ∈ BIG := bg6 163 rfl rfl
theorem q6_161 : Cond.instanceMethod yX9_count ∈ BIG := bg6 161 (by decide +kernel) rfl
theorem q6_162 : Cond.selects RX9 yX9_count yX9_count ∈ BIG := bg6 162 (by decide +kernel) rfl
set_option maxRecDepth 20000 in
theorem q2_167 : Cond.code yJ9_max_7cf53 cJ9_max_7cf53 2 (some .int) ∈ BIG := bg2 167 rfl rfl
theorem q2_166 : Cond.static yJ9_max_7cf53 ∈ BIG := bg2 166 (by decide +kernel) rfl
theorem q1_12 : Cond.initialized RJ9 ∈ BIG := bg1 12 (by decide +kernel) rfl
set_option maxRecDepth 20000 in
theorem q2_164 : Cond.code yJ9_min_7cf53 cJ9_min_7cf53 2 (some .int) ∈ BIG := bg2 164 rfl rfl
theorem q2_163 : Cond.static yJ9_min_7cf53 ∈ BIG := bg2 163 (by decide +kernel) rfl
set_option maxRecDepth 20000 in
theorem q3_61 : Cond.code yJ7_fill_d0a16 cJ7_fill_d0a16 5 none ∈ BIG := bg3 61 rfl rfl
theorem q3_60 : Cond.static yJ7_fill_d0a16 ∈ BIG := bg3 60 (by decide +kernel) rfl
theorem q1_13 : Cond.initialized RJ7 ∈ BIG := bg1 13 (by decide +kernel) rfl
set_option maxRecDepth 20000 in
theorem q3_19 : Cond.code yJ7_fill_53178 cJ7_fill_53178 4 none ∈ BIG := bg3 19 rfl rfl
theorem q3_18 : Cond.static yJ7_fill_53178 ∈ BIG := bg3 18 (by decide +kernel) rfl
theorem q2_166b : Cond.static Lib.Math.max.name ∈ BIG := bg2 166 (by decide +kernel) rfl
theorem q2_163b : Cond.static Lib.Math.min.name ∈ BIG := bg2 163 (by decide +kernel) rfl
theorem q1_12b : Cond.initialized "java/lang/Math" ∈ BIG := bg1 12 (by decide +kernel) rfl
theorem q1_11 : Cond.initialized "java/lang/System" ∈ BIG := bg1 11 (by decide +kernel) rfl
theorem q2_138 : Cond.native arraycopyName ∈ BIG := bg2 138 (by decide +kernel) rfl
theorem q2_137 : Cond.static arraycopyName ∈ BIG := bg2 137 (by decide +kernel) rfl
set_option maxRecDepth 20000 in
theorem qmaxC : Cond.code Lib.Math.max.name Lib.Math.max.code 2 (some .int) ∈ BIG := bg2 167 (by decide +kernel) rfl
set_option maxRecDepth 20000 in
theorem qminC : Cond.code Lib.Math.min.name Lib.Math.min.code 2 (some .int) ∈ BIG := bg2 164 (by decide +kernel) rfl
theorem inX0 : ∀ w ∈ wsX00, w ∈ BIG := by
  intro w hw
  obtain ⟨k, hk, rfl⟩ := List.mem_map.mp hw
  have hk := List.mem_range.mp hk
  match k, hk with
  | 0, _ => exact bg2 35 (by decide +kernel) rfl
  | 1, _ => exact bg2 37 (by decide +kernel) rfl
  | 2, _ => exact bg2 39 (by decide +kernel) rfl
  | 3, _ => exact bg2 41 (by decide +kernel) rfl
  | 4, _ => exact bg2 43 (by decide +kernel) rfl
  | n + 5, h => exact absurd h (by omega)
theorem inX1 : ∀ w ∈ wsX10, w ∈ BIG := by
  intro w hw
  obtain ⟨k, hk, rfl⟩ := List.mem_map.mp hw
  have hk := List.mem_range.mp hk
  match k, hk with
  | 0, _ => exact bg2 5 (by decide +kernel) rfl
  | 1, _ => exact bg2 7 (by decide +kernel) rfl
  | 2, _ => exact bg2 9 (by decide +kernel) rfl
  | 3, _ => exact bg2 11 (by decide +kernel) rfl
  | 4, _ => exact bg2 13 (by decide +kernel) rfl
  | 5, _ => exact bg2 15 (by decide +kernel) rfl
  | 6, _ => exact bg2 17 (by decide +kernel) rfl
  | n + 7, h => exact absurd h (by omega)
theorem inX2 : ∀ w ∈ wsX20, w ∈ BIG := by
  intro w hw
  obtain ⟨k, hk, rfl⟩ := List.mem_map.mp hw
  have hk := List.mem_range.mp hk
  match k, hk with
  | 0, _ => exact bg1 106 (by decide +kernel) rfl
  | 1, _ => exact bg1 108 (by decide +kernel) rfl
  | 2, _ => exact bg1 110 (by decide +kernel) rfl
  | 3, _ => exact bg1 112 (by decide +kernel) rfl
  | 4, _ => exact bg1 114 (by decide +kernel) rfl
  | 5, _ => exact bg1 116 (by decide +kernel) rfl
  | 6, _ => exact bg1 118 (by decide +kernel) rfl
  | 7, _ => exact bg1 120 (by decide +kernel) rfl
  | 8, _ => exact bg1 122 (by decide +kernel) rfl
  | 9, _ => exact bg1 124 (by decide +kernel) rfl
  | 10, _ => exact bg1 126 (by decide +kernel) rfl
  | 11, _ => exact bg1 128 (by decide +kernel) rfl
  | 12, _ => exact bg1 130 (by decide +kernel) rfl
  | 13, _ => exact bg1 132 (by decide +kernel) rfl
  | 14, _ => exact bg1 134 (by decide +kernel) rfl
  | 15, _ => exact bg1 136 (by decide +kernel) rfl
  | 16, _ => exact bg1 138 (by decide +kernel) rfl
  | 17, _ => exact bg1 140 (by decide +kernel) rfl
  | 18, _ => exact bg1 142 (by decide +kernel) rfl
  | 19, _ => exact bg1 144 (by decide +kernel) rfl
  | n + 20, h => exact absurd h (by omega)
theorem inX3 : ∀ w ∈ wsX30, w ∈ BIG := by
  intro w hw
  obtain ⟨k, hk, rfl⟩ := List.mem_map.mp hw
  have hk := List.mem_range.mp hk
  match k, hk with
  | 0, _ => exact bg1 215 (by decide +kernel) rfl
  | 1, _ => exact bg1 217 (by decide +kernel) rfl
  | 2, _ => exact bg1 219 (by decide +kernel) rfl
  | 3, _ => exact bg1 221 (by decide +kernel) rfl
  | 4, _ => exact bg1 223 (by decide +kernel) rfl
  | 5, _ => exact bg1 225 (by decide +kernel) rfl
  | 6, _ => exact bg1 227 (by decide +kernel) rfl
  | n + 7, h => exact absurd h (by omega)
theorem inX4 : ∀ w ∈ wsX40, w ∈ BIG := by
  intro w hw
  obtain ⟨k, hk, rfl⟩ := List.mem_map.mp hw
  have hk := List.mem_range.mp hk
  match k, hk with
  | 0, _ => exact bg1 159 (by decide +kernel) rfl
  | 1, _ => exact bg1 161 (by decide +kernel) rfl
  | 2, _ => exact bg1 163 (by decide +kernel) rfl
  | 3, _ => exact bg1 165 (by decide +kernel) rfl
  | 4, _ => exact bg1 167 (by decide +kernel) rfl
  | n + 5, h => exact absurd h (by omega)
theorem inX5 : ∀ w ∈ wsX50, w ∈ BIG := by
  intro w hw
  obtain ⟨k, hk, rfl⟩ := List.mem_map.mp hw
  have hk := List.mem_range.mp hk
  match k, hk with
  | 0, _ => exact bg1 183 (by decide +kernel) rfl
  | 1, _ => exact bg1 185 (by decide +kernel) rfl
  | 2, _ => exact bg1 187 (by decide +kernel) rfl
  | 3, _ => exact bg1 189 (by decide +kernel) rfl
  | 4, _ => exact bg1 191 (by decide +kernel) rfl
  | 5, _ => exact bg1 193 (by decide +kernel) rfl
  | 6, _ => exact bg1 195 (by decide +kernel) rfl
  | n + 7, h => exact absurd h (by omega)
theorem inX6 : ∀ w ∈ wsX60, w ∈ BIG := by
  intro w hw
  obtain ⟨k, hk, rfl⟩ := List.mem_map.mp hw
  have hk := List.mem_range.mp hk
  match k, hk with
  | 0, _ => exact bg2 60 (by decide +kernel) rfl
  | 1, _ => exact bg2 62 (by decide +kernel) rfl
  | 2, _ => exact bg2 64 (by decide +kernel) rfl
  | 3, _ => exact bg2 66 (by decide +kernel) rfl
  | n + 4, h => exact absurd h (by omega)
theorem inX7 : ∀ w ∈ wsX70, w ∈ BIG := by
  intro w hw
  obtain ⟨k, hk, rfl⟩ := List.mem_map.mp hw
  have hk := List.mem_range.mp hk
  match k, hk with
  | 0, _ => exact bg1 38 (by decide +kernel) rfl
  | 1, _ => exact bg1 40 (by decide +kernel) rfl
  | 2, _ => exact bg1 42 (by decide +kernel) rfl
  | 3, _ => exact bg1 44 (by decide +kernel) rfl
  | 4, _ => exact bg1 46 (by decide +kernel) rfl
  | 5, _ => exact bg1 48 (by decide +kernel) rfl
  | n + 6, h => exact absurd h (by omega)
theorem inX8 : ∀ w ∈ wsX80, w ∈ BIG := by
  intro w hw
  obtain ⟨k, hk, rfl⟩ := List.mem_map.mp hw
  have hk := List.mem_range.mp hk
  match k, hk with
  | 0, _ => exact bg2 79 (by decide +kernel) rfl
  | 1, _ => exact bg2 81 (by decide +kernel) rfl
  | 2, _ => exact bg2 83 (by decide +kernel) rfl
  | 3, _ => exact bg2 85 (by decide +kernel) rfl
  | 4, _ => exact bg2 87 (by decide +kernel) rfl
  | 5, _ => exact bg2 89 (by decide +kernel) rfl
  | 6, _ => exact bg2 91 (by decide +kernel) rfl
  | 7, _ => exact bg2 93 (by decide +kernel) rfl
  | 8, _ => exact bg2 95 (by decide +kernel) rfl
  | 9, _ => exact bg2 97 (by decide +kernel) rfl
  | n + 10, h => exact absurd h (by omega)
theorem inX9 : ∀ w ∈ wsX90, w ∈ BIG := by
  intro w hw
  obtain ⟨k, hk, rfl⟩ := List.mem_map.mp hw
  have hk := List.mem_range.mp hk
  match k, hk with
  | 0, _ => exact bg4 165 (by decide +kernel) rfl
  | 1, _ => exact bg4 167 (by decide +kernel) rfl
  | 2, _ => exact bg4 169 (by decide +kernel) rfl
  | 3, _ => exact bg4 171 (by decide +kernel) rfl
  | 4, _ => exact bg4 173 (by decide +kernel) rfl
  | 5, _ => exact bg4 175 (by decide +kernel) rfl
  | 6, _ => exact bg4 177 (by decide +kernel) rfl
  | 7, _ => exact bg4 179 (by decide +kernel) rfl
  | 8, _ => exact bg4 181 (by decide +kernel) rfl
  | 9, _ => exact bg4 183 (by decide +kernel) rfl
  | 10, _ => exact bg4 185 (by decide +kernel) rfl
  | 11, _ => exact bg4 187 (by decide +kernel) rfl
  | 12, _ => exact bg4 189 (by decide +kernel) rfl
  | 13, _ => exact bg4 191 (by decide +kernel) rfl
  | 14, _ => exact bg4 193 (by decide +kernel) rfl
  | 15, _ => exact bg4 195 (by decide +kernel) rfl
  | 16, _ => exact bg4 197 (by decide +kernel) rfl
  | 17, _ => exact bg4 199 (by decide +kernel) rfl
  | 18, _ => exact bg4 201 (by decide +kernel) rfl
  | 19, _ => exact bg4 203 (by decide +kernel) rfl
  | 20, _ => exact bg4 205 (by decide +kernel) rfl
  | 21, _ => exact bg4 207 (by decide +kernel) rfl
  | 22, _ => exact bg4 209 (by decide +kernel) rfl
  | 23, _ => exact bg4 211 (by decide +kernel) rfl
  | 24, _ => exact bg4 213 (by decide +kernel) rfl
  | 25, _ => exact bg4 215 (by decide +kernel) rfl
  | 26, _ => exact bg4 217 (by decide +kernel) rfl
  | 27, _ => exact bg4 219 (by decide +kernel) rfl
  | 28, _ => exact bg4 221 (by decide +kernel) rfl
  | 29, _ => exact bg4 223 (by decide +kernel) rfl
  | 30, _ => exact bg4 225 (by decide +kernel) rfl
  | 31, _ => exact bg4 227 (by decide +kernel) rfl
  | 32, _ => exact bg4 229 (by decide +kernel) rfl
  | 33, _ => exact bg4 231 (by decide +kernel) rfl
  | 34, _ => exact bg4 233 (by decide +kernel) rfl
  | 35, _ => exact bg4 235 (by decide +kernel) rfl
  | 36, _ => exact bg4 237 (by decide +kernel) rfl
  | 37, _ => exact bg4 239 (by decide +kernel) rfl
  | 38, _ => exact bg5 1 (by decide +kernel) rfl
  | 39, _ => exact bg5 3 (by decide +kernel) rfl
  | 40, _ => exact bg5 5 (by decide +kernel) rfl
  | 41, _ => exact bg5 7 (by decide +kernel) rfl
  | 42, _ => exact bg5 9 (by decide +kernel) rfl
  | 43, _ => exact bg5 11 (by decide +kernel) rfl
  | 44, _ => exact bg5 13 (by decide +kernel) rfl
  | 45, _ => exact bg5 15 (by decide +kernel) rfl
  | 46, _ => exact bg5 17 (by decide +kernel) rfl
  | 47, _ => exact bg5 19 (by decide +kernel) rfl
  | 48, _ => exact bg5 21 (by decide +kernel) rfl
  | 49, _ => exact bg5 23 (by decide +kernel) rfl
  | 50, _ => exact bg5 25 (by decide +kernel) rfl
  | 51, _ => exact bg5 27 (by decide +kernel) rfl
  | 52, _ => exact bg5 29 (by decide +kernel) rfl
  | 53, _ => exact bg5 31 (by decide +kernel) rfl
  | n + 54, h => exact absurd h (by omega)
end
section
/-! ===== a small machine over whole numbers: values, heap, shape ===== -/
abbrev zV : Type := Int ⊕ (Int64 ⊕ Option Nat)
abbrev sI (x : Int) : zV := .inl x
abbrev sL (x : Int64) : zV := .inr (.inl x)
abbrev sR (a : Nat) : zV := .inr (.inr (some a))
abbrev zH : Type := (Nat → Nat → Int) × (Nat → Nat → Int64)
def i32 (x : Int) : Int32 := Int32.ofInt x
abbrev inR (x : Int) : Prop := -2147483648 ≤ x ∧ x ≤ 2147483647
theorem i32_toInt {x : Int} (h : inR x) : (i32 x).toInt = x := Int32.toInt_ofInt_of_le (by have := h.1; omega) (by have := h.2; omega)
theorem i32_in (x : Int32) : inR x.toInt := ⟨by have := x.le_toInt; omega, by have := x.toInt_lt; omega⟩
theorem i32_of (x : Int32) : i32 x.toInt = x := Int32.ofInt_toInt x
theorem i32_add (x y : Int) : i32 (x + y) = i32 x + i32 y := Int32.ofInt_add x y
theorem i32_sub (x y : Int) : i32 (x - y) = i32 x - i32 y := Int32.ofInt_sub x y
theorem i32_mul (x y : Int) : i32 (x * y) = i32 x * i32 y := Int32.ofInt_mul x y
theorem i32_neg (x : Int) : i32 (-x) = -i32 x := Int32.ofInt_neg x
theorem i32_lt {x y : Int} (hx : inR x) (hy : inR y) : i32 x < i32 y ↔ x < y := by rw [Int32.lt_iff_toInt_lt, i32_toInt hx, i32_toInt hy]
theorem i32_le {x y : Int} (hx : inR x) (hy : inR y) : i32 x ≤ i32 y ↔ x ≤ y := by rw [Int32.le_iff_toInt_le, i32_toInt hx, i32_toInt hy]
theorem i32_eq {x y : Int} (hx : inR x) (hy : inR y) : i32 x = i32 y ↔ x = y := by rw [← Int32.toInt_inj, i32_toInt hx, i32_toInt hy]
theorem i32_0 : (0 : Int32) = i32 0 := rfl
theorem inR_0 : inR 0 := by decide
theorem i32_in' {j : Int} {n : Nat} (h0 : 0 ≤ j) (h1 : j < n) (hn : n < 2147483648) : vp_in (i32 j) n := by
  rw [vp_in_iff, i32_toInt ⟨by omega, by omega⟩]
  exact ⟨h0, h1⟩
theorem i32_nat {j : Int} (h0 : 0 ≤ j) (h1 : j < 2147483648) : (i32 j).toNatClampNeg = j.toNat := by
  show (i32 j).toInt.toNat = j.toNat
  rw [i32_toInt ⟨by omega, by omega⟩]
theorem i32_div {x y : Int} (hx : 0 ≤ x ∧ x ≤ 2147483647) (hy : 0 < y ∧ y ≤ 2147483647) : i32 x / i32 y = i32 (x / y) := by
  have h := Int32.ofInt_tdiv (a := x) (b := y) (by have h1 := hx.1; rw [show Int32.minValue.toInt = -2147483648 from rfl]; omega) (by have h1 := hx.2; rw [show Int32.maxValue.toInt = 2147483647 from rfl]; omega) (by have h1 := hy.1; rw [show Int32.minValue.toInt = -2147483648 from rfl]; omega) (by have h1 := hy.2; rw [show Int32.maxValue.toInt = 2147483647 from rfl]; omega)
  rw [Int.tdiv_eq_ediv_of_nonneg hx.1] at h
  exact h.symm
theorem i32_rem {x y : Int} (hx : 0 ≤ x ∧ x ≤ 2147483647) (hy : 0 < y ∧ y ≤ 2147483647) : i32 x - i32 x / i32 y * i32 y = i32 (x % y) := by
  rw [i32_div hx hy, ← i32_mul, ← i32_sub, Int.emod_def, Int.mul_comm]
def cvV (A : Nat → Nat) : zV → Value
  | .inl x => .int (i32 x)
  | .inr (.inl y) => .long y
  | .inr (.inr none) => .null
  | .inr (.inr (some a)) => .ref (A a)
abbrev zSh : Type := Nat × Nat × List (Nat × Nat)
def SHL : List zSh := [
  (0, 8, [(2, 1), (2, 2), (2, 3), (2, 4), (2, 5), (2, 6), (2, 7), (2, 14), (2, 15), (0, 0)]),
  (0, 7, [(2, 16), (0, 0), (2, 17), (2, 18), (0, 0), (0, 0)]),
  (0, 2, [(0, 0), (2, 19), (2, 20), (2, 21), (0, 0), (2, 22), (2, 23), (2, 24), (0, 0), (2, 25), (0, 0), (2, 26), (2, 27), (2, 28), (2, 29), (2, 30), (2, 31), (2, 32), (0, 0), (0, 0)]),
  (0, 4, [(2, 2), (2, 33), (2, 34), (0, 0), (0, 0)]),
  (0, 5, [(2, 2), (2, 3), (2, 35), (2, 36), (2, 37), (2, 38), (1, 0)]),
  (0, 3, [(2, 2), (2, 3), (2, 39), (0, 0), (0, 0), (0, 0), (0, 0)]),
  (0, 1, [(2, 2), (2, 40), (2, 41), (2, 42), (2, 43), (0, 0), (0, 0)]),
  (0, 0, [(2, 44), (0, 0), (2, 45), (0, 0), (0, 0)]),
  (0, 6, [(0, 0), (0, 0), (2, 46), (0, 0)]),
  (0, 6, [(0, 0), (0, 0), (2, 47), (0, 0)]),
  (0, 6, [(0, 0), (0, 0), (2, 48), (0, 0)]),
  (0, 6, [(0, 0), (0, 0), (2, 49), (0, 0)]),
  (0, 6, [(0, 0), (0, 0), (2, 50), (0, 0)]),
  (0, 6, [(0, 0), (0, 0), (2, 51), (0, 0)]),
  (4, 6, [(2, 8), (2, 9), (2, 10), (2, 11), (2, 12), (2, 13)]),
  (1, 6, []),
  (1, 120, []),
  (1, 12, []),
  (1, 12, []),
  (1, 10, []),
  (1, 120, []),
  (1, 120, []),
  (1, 5, []),
  (1, 5, []),
  (1, 5, []),
  (1, 12, []),
  (1, 24, []),
  (1, 24, []),
  (1, 24, []),
  (1, 24, []),
  (1, 24, []),
  (1, 24, []),
  (1, 4, []),
  (1, 1440, []),
  (1, 1440, []),
  (2, 1440, []),
  (2, 1440, []),
  (1, 96, []),
  (1, 24, []),
  (1, 12, []),
  (1, 40, []),
  (1, 40, []),
  (1, 40, []),
  (1, 40, []),
  (1, 50, []),
  (1, 24, []),
  (2, 60, []),
  (2, 60, []),
  (2, 60, []),
  (2, 60, []),
  (2, 60, []),
  (2, 60, []),
  (0, 9, [(2, 53), (2, 54), (2, 55), (2, 56), (0, 0), (0, 0), (2, 57), (0, 0), (0, 0), (2, 58), (2, 59), (2, 60), (2, 61), (2, 62), (0, 0), (0, 0), (0, 0), (2, 63), (2, 64), (2, 65), (0, 0), (0, 0), (2, 66), (2, 67), (2, 68), (0, 0), (0, 0), (0, 0), (2, 69), (2, 70), (2, 71), (0, 0), (0, 0), (0, 0), (0, 0), (2, 72), (2, 73), (0, 0), (2, 74), (0, 0), (0, 0), (0, 0), (0, 0), (2, 75), (0, 0), (2, 76), (2, 77), (0, 0), (0, 0), (0, 0), (2, 78), (2, 79), (2, 80), (2, 81)]),
  (1, 88, []),
  (1, 40, []),
  (1, 40, []),
  (1, 40, []),
  (1, 120, []),
  (1, 10, []),
  (1, 120, []),
  (1, 120, []),
  (1, 12, []),
  (1, 12, []),
  (1, 5, []),
  (1, 5, []),
  (1, 5, []),
  (1, 24, []),
  (1, 24, []),
  (1, 24, []),
  (1, 1440, []),
  (1, 34584, []),
  (3, 17280, []),
  (3, 69120, []),
  (3, 17280, []),
  (1, 12, []),
  (1, 6, []),
  (1, 50, []),
  (1, 24, []),
  (1, 6, []),
  (1, 6, []),
  (2, 360, []),
  (2, 60, [])]
def SHP (c : Nat) : zSh := SHL.getD c (9, 0, [])
def NC : Nat := 82
theorem SHL_len : SHL.length = NC := by decide
theorem SHP_lt {c : Nat} (h : (SHP c).1 ≠ 9) : c < NC := by
  rcases Nat.lt_or_ge c NC with g | g
  · exact g
  · exact absurd (by unfold SHP; rw [List.getD_eq_getElem?_getD, List.getElem?_eq_none (by rw [SHL_len]; exact g)]; rfl) h
theorem SHP_len (c : Nat) : (SHP c).2.1 < 2147483648 := by
  have h : SHL.all (fun q => decide (q.2.1 < 2147483648)) = true := by decide
  unfold SHP
  rw [List.getD_eq_getElem?_getD]
  cases hq : SHL[c]? with
  | none => decide
  | some q => exact of_decide_eq_true (List.all_eq_true.mp h q (List.mem_of_getElem? hq))
def ztbl (a : Nat) : List Int := if a = 90 then [-1, 0, 0, 2, 0, 1, 0] else [1, 10, 11, 2, 20, 0, 0, 0, 0, 30, 0, 0, 0, 41, 40, 0, 0, 0, 0, 50, 60, 0, 61, 0, 0, 70, 0, 0]
def kV (A : Nat → Nat) (h : zH) (c i : Nat) (k : Nat × Nat) : Value := match k.1 with
  | 0 => .int (i32 (h.1 c i))
  | 1 => .long (h.2 c i)
  | _ => .ref (A k.2)
def cellE (T : Nat → ClassId) (A : Nat → Nat) (h : zH) (c : Nat) (s : zSh) : va_E := match s.1 with
  | 0 => .inr (s.2.1, s.2.2.mapIdx (fun i k => kV A h c i k))
  | 1 => .inl (T 0, s.2.1, .inl (fun j => i32 (h.1 c j)))
  | 2 => .inl (T 1, s.2.1, .inr (.inl (h.2 c)))
  | 3 => .inl (T 2, s.2.1, .inl (fun j => i32 (h.1 c j)))
  | _ => .inl (T 3, s.2.1, .inr (.inr (.inr (.inr (fun j => some (A (s.2.2.getD j (2, 0)).2))))))
def tysT (T : Nat → ClassId) : List (ClassId × FieldType) := [(T 0, .int), (T 1, .long), (T 2, .boolean), (T 3, .object RX6)]
def wld (T : Nat → ClassId) (A : Nat → Nat) (h : zH) : va_W := (List.range NC).map (fun c => (A c, cellE T A h c (SHP c)))
theorem wld_at {T : Nat → ClassId} {A : Nat → Nat} {h : zH} {c : Nat} (hc : c < NC) : (wld T A h)[c]? = some (A c, cellE T A h c (SHP c)) := by
  unfold wld
  rw [List.getElem?_map, List.getElem?_range hc]
  rfl
def setI (h : zH) (c i : Nat) (v : Int) : zH := (fun c' i' => if c' = c ∧ i' = i then v else h.1 c' i', h.2)
def setL (h : zH) (c i : Nat) (v : Int64) : zH := (h.1, fun c' i' => if c' = c ∧ i' = i then v else h.2 c' i')
def cpI (h : zH) (a sp b dp n : Nat) : zH := (fun c' i' => if c' = b then va_cpy (h.1 a) (h.1 b) sp dp n i' else h.1 c' i', h.2)
def cpL (h : zH) (a sp b dp n : Nat) : zH := (h.1, fun c' i' => if c' = b then va_cpy (h.2 a) (h.2 b) sp dp n i' else h.2 c' i')
/-- one cell of the world changed, the others as they were -/
theorem wld_set {T : Nat → ClassId} {A : Nat → Nat} {h h' : zH} {c : Nat} (ho : ∀ c', c' ≠ c → h'.1 c' = h.1 c' ∧ h'.2 c' = h.2 c') : (wld T A h).set c (A c, cellE T A h' c (SHP c)) = wld T A h' := by
  apply List.ext_getElem?
  intro i
  rw [List.getElem?_set]
  by_cases hi : c = i
  · subst hi
    rw [if_pos rfl]
    by_cases hc : c < NC
    · rw [if_pos (by unfold wld; rw [List.length_map, List.length_range]; exact hc), wld_at hc]
    · rw [if_neg (by unfold wld; rw [List.length_map, List.length_range]; exact hc), List.getElem?_eq_none (by unfold wld; rw [List.length_map, List.length_range]; omega)]
  · rw [if_neg hi]
    by_cases hc : i < NC
    · rw [wld_at hc, wld_at hc]
      obtain ⟨e1, e2⟩ := ho i (fun e => hi e.symm)
      have : cellE T A h i (SHP i) = cellE T A h' i (SHP i) := by
        unfold cellE
        have ek : ∀ j k, kV A h i j k = kV A h' i j k := by
          intro j k
          unfold kV
          rw [e1, e2]
        simp only [e1, e2, ek]
      rw [this]
    · rw [List.getElem?_eq_none (by unfold wld; rw [List.length_map, List.length_range]; omega), List.getElem?_eq_none (by unfold wld; rw [List.length_map, List.length_range]; omega)]
theorem mapIdx_set {α β : Type} (f g : Nat → α → β) (l : List α) (i : Nat) (v : β) (h1 : ∀ j a, j ≠ i → f j a = g j a) (h2 : ∀ a, l[i]? = some a → g i a = v) : (l.mapIdx f).set i v = l.mapIdx g := by
  apply List.ext_getElem?
  intro j
  rw [List.getElem?_set, List.getElem?_mapIdx, List.getElem?_mapIdx]
  by_cases hj : i = j
  · subst hj
    rw [if_pos rfl, List.length_mapIdx]
    cases hq : l[i]? with
    | none => rw [if_neg (by have := List.getElem?_eq_none_iff.mp hq; omega)]; rfl
    | some a => rw [if_pos (List.getElem?_eq_some_iff.mp hq).1]; simp [h2 a hq]
  · rw [if_neg hj]
    cases hq : l[j]? with
    | none => rfl
    | some a => simp [h1 j a (fun e => hj e.symm)]
/-! ===== locals by their places ===== -/
def lset : List (Option zV) → Nat → Option zV → List (Option zV)
  | [], 0, x => [x]
  | [], n + 1, x => none :: lset [] n x
  | _ :: r, 0, x => x :: r
  | a :: r, n + 1, x => a :: lset r n x
def lkill (lv : List (Option zV)) (i : Nat) : List (Option zV) := match i with
  | 0 => lv
  | j + 1 => match lv[j]? with
    | some (some (.inr (.inl _))) => lset lv j none
    | _ => lv
def st1 (lv : List (Option zV)) (i : Nat) (v : zV) : List (Option zV) := lset (lkill lv i) i (some v)
def st2 (lv : List (Option zV)) (i : Nat) (v : zV) : List (Option zV) := lset (lset (lkill lv i) (i + 1) none) i (some v)
theorem lset_get : ∀ (l : List (Option zV)) (i : Nat) (x : Option zV) (j : Nat) (w : zV), (lset l i x)[j]? = some (some w) → (j = i ∧ x = some w) ∨ (j ≠ i ∧ l[j]? = some (some w))
  | [], 0, x, j, w, h => by
    cases j with
    | zero => exact Or.inl ⟨rfl, by simpa [lset] using h⟩
    | succ j => simp [lset] at h
  | [], n + 1, x, j, w, h => by
    cases j with
    | zero => simp [lset] at h
    | succ j =>
      rcases lset_get [] n x j w (by simpa [lset] using h) with ⟨g1, g2⟩ | ⟨g1, g2⟩
      · exact Or.inl ⟨by omega, g2⟩
      · simp at g2
  | a :: r, 0, x, j, w, h => by
    cases j with
    | zero => exact Or.inl ⟨rfl, by simpa [lset] using h⟩
    | succ j => exact Or.inr ⟨by omega, by simpa [lset] using h⟩
  | a :: r, n + 1, x, j, w, h => by
    cases j with
    | zero => exact Or.inr ⟨by omega, by simpa [lset] using h⟩
    | succ j =>
      rcases lset_get r n x j w (by simpa [lset] using h) with ⟨g1, g2⟩ | ⟨g1, g2⟩
      · exact Or.inl ⟨by omega, g2⟩
      · exact Or.inr ⟨by omega, by simpa using g2⟩
theorem lkill_get (lv : List (Option zV)) (i j : Nat) (w : zV) (h : (lkill lv i)[j]? = some (some w)) : lv[j]? = some (some w) ∧ ¬ (j + 1 = i ∧ ∃ y, w = sL y) := by
  unfold lkill at h
  cases i with
  | zero => exact ⟨h, fun q => by omega⟩
  | succ i =>
    simp only at h
    split at h
    · rcases lset_get _ _ _ _ _ h with ⟨g1, g2⟩ | ⟨g1, g2⟩
      · cases g2
      · exact ⟨g2, fun q => g1 (by omega)⟩
    · rename_i hne
      refine ⟨h, ?_⟩
      rintro ⟨q1, y, rfl⟩
      have : j = i := by omega
      subst this
      exact hne y h
def lvx (n : Nat) (A : Nat → Nat) (ls : Array Slot) (lv : List (Option zV)) : Prop := ls.size = n ∧ lv_wf ls ∧ ∀ (i : Nat) (v : zV), lv[i]? = some (some v) → ls[i]? = some (.val (cvV A v))
def lvL (A : Nat → Nat) (lv : List (Option zV)) : List (Nat × Value) := (List.range lv.length).filterMap (fun j => match lv[j]? with
  | some (some v) => some (j, cvV A v)
  | _ => none)
theorem lvL_mem {A : Nat → Nat} {lv : List (Option zV)} {j : Nat} {v : zV} (h : lv[j]? = some (some v)) : (j, cvV A v) ∈ lvL A lv := by
  unfold lvL
  exact List.mem_filterMap.mpr ⟨j, List.mem_range.mpr (List.getElem?_eq_some_iff.mp h).1, by rw [h]⟩
theorem lvL_of {A : Nat → Nat} {lv : List (Option zV)} {q : Nat × Value} (h : q ∈ lvL A lv) : ∃ v, lv[q.1]? = some (some v) ∧ q.2 = cvV A v := by
  unfold lvL at h
  obtain ⟨j, -, hj⟩ := List.mem_filterMap.mp h
  split at hj
  · rename_i v hv
    cases hj
    exact ⟨v, hv, rfl⟩
  · cases hj
theorem lvx_has {n : Nat} {A : Nat → Nat} {ls : Array Slot} {lv : List (Option zV)} (h : lvx n A ls lv) : lv_has ls n (lvL A lv) := ⟨h.1, h.2.1, fun q hq => by
  obtain ⟨v, h1, h2⟩ := lvL_of hq
  rw [h2]
  exact h.2.2 q.1 v h1⟩
theorem cv_cat (A : Nat → Nat) (v : zV) : (cvV A v).category = 2 ↔ ∃ y, v = sL y := by
  match v with
  | .inl x => exact ⟨fun h => (by cases h), fun ⟨y, h⟩ => (by cases h)⟩
  | .inr (.inl y) => exact ⟨fun _ => ⟨y, rfl⟩, fun _ => rfl⟩
  | .inr (.inr none) => exact ⟨fun h => (by cases h), fun ⟨y, h⟩ => (by cases h)⟩
  | .inr (.inr (some a)) => exact ⟨fun h => (by cases h), fun ⟨y, h⟩ => (by cases h)⟩
theorem lvx_st1 {n : Nat} {A : Nat → Nat} {ls : Array Slot} {lv : List (Option zV)} {i : Nat} {v : zV} (h : lv_has ls n ((i, cvV A v) :: (lvL A lv).filter (fun q => !(q.1 == i) && !(q.1 + 1 == i && q.2.category == 2)))) : lvx n A ls (st1 lv i v) := by
  refine ⟨h.1, h.2.1, fun j w hw => ?_⟩
  rcases lset_get _ _ _ _ _ hw with ⟨rfl, g⟩ | ⟨g1, g2⟩
  · cases g
    exact h.2.2 (j, cvV A v) List.mem_cons_self
  · obtain ⟨g3, g4⟩ := lkill_get _ _ _ _ g2
    refine h.2.2 (j, cvV A w) (List.mem_cons_of_mem _ (List.mem_filter.mpr ⟨lvL_mem g3, ?_⟩))
    by_cases hc : (cvV A w).category = 2
    · have : ¬ j + 1 = i := fun e => g4 ⟨e, (cv_cat A w).mp hc⟩
      simp [g1, this]
    · simp [g1, hc]
theorem lvx_st2 {n : Nat} {A : Nat → Nat} {ls : Array Slot} {lv : List (Option zV)} {i : Nat} {v : zV} (h : lv_has ls n ((i, cvV A v) :: (lvL A lv).filter (fun q => !(q.1 == i) && (!(q.1 == i + 1) && !(q.1 + 1 == i && q.2.category == 2))))) : lvx n A ls (st2 lv i v) := by
  refine ⟨h.1, h.2.1, fun j w hw => ?_⟩
  rcases lset_get _ _ _ _ _ hw with ⟨rfl, g⟩ | ⟨g1, g2⟩
  · cases g
    exact h.2.2 (j, cvV A v) List.mem_cons_self
  · rcases lset_get _ _ _ _ _ g2 with ⟨_, g⟩ | ⟨g5, g6⟩
    · cases g
    · obtain ⟨g3, g4⟩ := lkill_get _ _ _ _ g6
      refine h.2.2 (j, cvV A w) (List.mem_cons_of_mem _ (List.mem_filter.mpr ⟨lvL_mem g3, ?_⟩))
      by_cases hc : (cvV A w).category = 2
      · have : ¬ j + 1 = i := fun e => g4 ⟨e, (cv_cat A w).mp hc⟩
        simp [g1, g5, this]
      · simp [g1, g5, hc]
def entL : List zV → List (Option zV)
  | [] => []
  | .inr (.inl y) :: r => some (.inr (.inl y)) :: none :: entL r
  | v :: r => some v :: entL r
def wsz : List zV → Nat
  | [] => 0
  | .inr (.inl _) :: r => wsz r + 2
  | _ :: r => wsz r + 1
theorem wsz_sl (A : Nat → Nat) : ∀ vs : List zV, (lg_sl (vs.map (cvV A))).length = wsz vs
  | [] => rfl
  | .inl x :: r => by
    show (lg_sl (Value.int (i32 x) :: r.map (cvV A))).length = wsz r + 1
    rw [← wsz_sl A r]
    simp [lg_sl, Value.category]
  | .inr (.inl y) :: r => by
    show (lg_sl (Value.long y :: r.map (cvV A))).length = wsz r + 2
    rw [← wsz_sl A r]
    simp [lg_sl, Value.category]
  | .inr (.inr none) :: r => by
    show (lg_sl (Value.null :: r.map (cvV A))).length = wsz r + 1
    rw [← wsz_sl A r]
    simp [lg_sl, Value.category]
  | .inr (.inr (some a)) :: r => by
    show (lg_sl (Value.ref (A a) :: r.map (cvV A))).length = wsz r + 1
    rw [← wsz_sl A r]
    simp [lg_sl, Value.category]
theorem entL_args (A : Nat → Nat) : ∀ (vs : List zV) (o j : Nat) (w : zV), (entL vs)[j]? = some (some w) → (o + j, cvV A w) ∈ lv_args o (vs.map (cvV A))
  | [], o, j, w, h => by simp [entL] at h
  | .inl x :: r, o, j, w, h => by
    show (o + j, cvV A w) ∈ (o, Value.int (i32 x)) :: lv_args (o + 1) (r.map (cvV A))
    cases j with
    | zero => cases (show some (some (Sum.inl x : zV)) = some (some w) from h); exact List.mem_cons_self
    | succ j => exact List.mem_cons_of_mem _ (by have := entL_args A r (o + 1) j w (by simpa [entL] using h); rwa [show o + 1 + j = o + (j + 1) by omega] at this)
  | .inr (.inl y) :: r, o, j, w, h => by
    show (o + j, cvV A w) ∈ (o, Value.long y) :: lv_args (o + 2) (r.map (cvV A))
    cases j with
    | zero => cases (show some (some (Sum.inr (Sum.inl y) : zV)) = some (some w) from h); exact List.mem_cons_self
    | succ j =>
      cases j with
      | zero => simp [entL] at h
      | succ j => exact List.mem_cons_of_mem _ (by have := entL_args A r (o + 2) j w (by simpa [entL] using h); rwa [show o + 2 + j = o + (j + 1 + 1) by omega] at this)
  | .inr (.inr none) :: r, o, j, w, h => by
    show (o + j, cvV A w) ∈ (o, Value.null) :: lv_args (o + 1) (r.map (cvV A))
    cases j with
    | zero => cases (show some (some (Sum.inr (Sum.inr none) : zV)) = some (some w) from h); exact List.mem_cons_self
    | succ j => exact List.mem_cons_of_mem _ (by have := entL_args A r (o + 1) j w (by simpa [entL] using h); rwa [show o + 1 + j = o + (j + 1) by omega] at this)
  | .inr (.inr (some a)) :: r, o, j, w, h => by
    show (o + j, cvV A w) ∈ (o, Value.ref (A a)) :: lv_args (o + 1) (r.map (cvV A))
    cases j with
    | zero => cases (show some (some (Sum.inr (Sum.inr (some a)) : zV)) = some (some w) from h); exact List.mem_cons_self
    | succ j => exact List.mem_cons_of_mem _ (by have := entL_args A r (o + 1) j w (by simpa [entL] using h); rwa [show o + 1 + j = o + (j + 1) by omega] at this)
end
section
/-! ===== the judgement over the small machine ===== -/
abbrev zM : Type := MethodName × ByteArray × Nat × Option FieldType
abbrev zX : Type := Program × Launch × Env × Room × State × MethodId × Array Value × List Frame × Method × Code × (State → Prop) × (Nat → Nat) × va_G × (Nat → ClassId) × (Nat → Prop) × (Nat × Nat)
abbrev xp (X : zX) : Program := X.1
abbrev xl (X : zX) : Launch := X.2.1
abbrev xe (X : zX) : Env := X.2.2.1
abbrev xR (X : zX) : Room := X.2.2.2.1
abbrev xs (X : zX) : State := X.2.2.2.2.1
abbrev xm (X : zX) : MethodId := X.2.2.2.2.2.1
abbrev xa (X : zX) : Array Value := X.2.2.2.2.2.2.1
abbrev xb (X : zX) : List Frame := X.2.2.2.2.2.2.2.1
abbrev xh (X : zX) : Method := X.2.2.2.2.2.2.2.2.1
abbrev xc (X : zX) : Code := X.2.2.2.2.2.2.2.2.2.1
abbrev xQ (X : zX) : State → Prop := X.2.2.2.2.2.2.2.2.2.2.1
abbrev xA (X : zX) : Nat → Nat := X.2.2.2.2.2.2.2.2.2.2.2.1
abbrev xD (X : zX) : va_G := X.2.2.2.2.2.2.2.2.2.2.2.2.1
abbrev xT (X : zX) : Nat → ClassId := X.2.2.2.2.2.2.2.2.2.2.2.2.2.1
abbrev xF (X : zX) : Nat → Prop := X.2.2.2.2.2.2.2.2.2.2.2.2.2.2.1
abbrev xk (X : zX) : Nat × Nat := X.2.2.2.2.2.2.2.2.2.2.2.2.2.2.2
/-- from the frame at pc, with these locals, this stack and this heap, the machine comes to what the context wants -/
def zJ (X : zX) (pc : Nat) (lv : List (Option zV)) (st : List zV) (h : zH) : Prop :=
  ∀ (H : Heap) (locs : List Loc) (ls : Array Slot), va_P (xD X) vwCl (wld (xT X) (xA X) h) H → va_D (xF X) (wld (xT X) (xA X) h) → va_S (xF X) (xs X).heap H locs → lvx (xc X).maxLocals (xA X) ls lv →
    W (xp X) (xl X) (xe X) (xR X) (xs X) (xm X) (xa X) (xb X) (xh X) (xc X) H locs (xk X).1 (xk X).2 (xQ X) (F0 (xm X) pc ls (st.map (cvV (xA X))))
/-- the two tables of Bodies, in cells outside the world -/
def zST (A : Nat → Nat) (F : Nat → Prop) (U : State) (H : Heap) : Prop :=
  (va_Z "RoundPoint$Bodies" "ABOVE" "[I" (.ref (A 90)) F U H ∧ va_T .int (A 90) 7 (fun j => .int (i32 ((ztbl 90).getD j 0))) F U H) ∧ (va_Z "RoundPoint$Bodies" "OWN" "[I" (.ref (A 91)) F U H ∧ va_T .int (A 91) 28 (fun j => .int (i32 ((ztbl 91).getD j 0))) F U H) ∧ va_Nw (.methodLinkNest RX0 28 yX8_within RX8) U
def frA (A : Nat → Nat) : Nat → Prop := fun q => ∃ c, c < NC ∧ q = A c
/-- the context of a method's body -/
def zCx (X : zX) (d : Nat) (k : zM) : Prop :=
  (xp X).tables.exec = Jvm.exec ∧ (xc X).code = k.2.1 ∧ (xc X).maxLocals = k.2.2.1 ∧ (xs X).vm.findClass k.1.cls = some (xm X).cls ∧ (∀ w ∈ BIG, w.before (xa X) (xs X) = true) ∧ va_K (xD X) vwCl (tysT (xT X)) (xs X) ∧ zST (xA X) (xF X) (xs X) (xs X).heap ∧ d ≤ (xR X).frames ∧ 64 * d ≤ (xR X).locals ∧ (xk X).1 ≤ (xR X).cells ∧ (xk X).2 ≤ (xR X).slots ∧ (∀ q, (xs X).heap.size ≤ q → ¬ frA (xA X) q → xF X q → xF X q)
abbrev zQ : Type := Option zV → zH → Prop
/-- at a return that fits, with what the contract wants, all is done -/
def zRo (k : zM) (pc : Nat) (o : Option zV) : Prop :=
  (decode k.2.1 pc = .ok (.ireturn, 1) ∧ ∃ x : Int, o = some (sI x) ∧ (k.2.2.2 = some .int ∨ (k.2.2.2 = some .boolean ∧ (x = 0 ∨ x = 1)))) ∨
  (decode k.2.1 pc = .ok (.lreturn, 1) ∧ ∃ x : Int64, o = some (sL x) ∧ k.2.2.2 = some .long) ∨
  (decode k.2.1 pc = .ok (.areturn, 1) ∧ ∃ a : Nat, o = some (sR a) ∧ k.2.2.2 = some (.array .int)) ∨
  (decode k.2.1 pc = .ok (.return_, 1) ∧ o = none ∧ k.2.2.2 = none)
def zEx (X : zX) (k : zM) (Q : zQ) : Prop := ∀ (pc : Nat) (o : Option zV) (lv : List (Option zV)) (h : zH), Q o h → zRo k pc o → zJ X pc lv o.toList h
/-- a method's contract: with these arguments and this heap it returns, and Q holds of its answer and its heap; d calls deep at most -/
def zPre (D : va_G) (T : Nat → ClassId) (A : Nat → Nat) (h : zH) (U : State) : Prop := va_P D vwCl (wld T A h) U.heap ∧ va_K D vwCl (tysT T) U ∧ va_D (frA A) (wld T A h) ∧ zST A (frA A) U U.heap
def zQQ (D : va_G) (T : Nat → ClassId) (A : Nat → Nat) (ret : Option FieldType) (Q : zQ) : Array Value → State → Outcome → State → Prop := match ret with
  | none => va_Qv (fun h : zH => Q none h) (fun h t => va_P D vwCl (wld T A h) t.heap) (frA A)
  | some .long => va_Ql (fun r (h : zH) => Q (some (sL r)) h) (fun h t => va_P D vwCl (wld T A h) t.heap) (frA A)
  | some (.array _) => va_Qr (fun u : zH × Nat => Q (some (sR u.2)) u.1) (fun u a t => a = A u.2 ∧ va_P D vwCl (wld T A u.1) t.heap) (frA A)
  | some _ => va_Qi (fun r (u : zH × Int) => r = i32 u.2 ∧ Q (some (sI u.2)) u.1) (fun u t => va_P D vwCl (wld T A u.1) t.heap) (frA A)
def zrm (d : Nat) : Room := { frames := d, cells := 0, slots := 0, locals := 64 * d }
def zws (k : zM) : List Cond := Cond.code k.1 k.2.1 k.2.2.1 k.2.2.2 :: BIG
def zC (d : Nat) (k : zM) (vs : List zV) (h : zH) (Q : zQ) : Prop :=
  ∀ (l : Launch) (D : va_G) (T : Nat → ClassId) (A : Nat → Nat), Met l k.1 (zws k) (zrm d) (va_Pc (vs.map (cvV A)) (zPre D T A h)) (zQQ D T A k.2.2.2 Q) 0 0 (frA A)
theorem wld_D {T : Nat → ClassId} {A : Nat → Nat} {h h' : zH} {F G : Nat → Prop} (hD : va_D F (wld T A h)) (hG : ∀ c, c < NC → G (A c)) : va_D G (wld T A h') := by
  have hk : ∀ (g : zH) (i : Nat) (q : Nat × va_E), (wld T A g)[i]? = some q → i < NC ∧ q.1 = A i := by
    intro g i q hq
    have hi : i < NC := by
      have := (List.getElem?_eq_some_iff.mp hq).1
      unfold wld at this
      rwa [List.length_map, List.length_range] at this
    rw [wld_at hi] at hq
    exact ⟨hi, by rw [← Option.some.inj hq]⟩
  refine ⟨fun i j p q hi hj e => ?_, fun i q hi => ?_⟩
  · obtain ⟨a1, a2⟩ := hk _ _ _ hi
    obtain ⟨b1, b2⟩ := hk _ _ _ hj
    exact hD.1 i j _ _ (wld_at a1) (wld_at b1) (by show A i = A j; rw [← a2, ← b2]; exact e)
  · obtain ⟨a1, a2⟩ := hk _ _ _ hi
    rw [a2]
    exact hG i a1
theorem wld_F {T : Nat → ClassId} {A : Nat → Nat} {h : zH} {F : Nat → Prop} (hD : va_D F (wld T A h)) {c : Nat} (hc : c < NC) : F (A c) := hD.2 c _ (wld_at hc)
set_option maxHeartbeats 4000000 in
/-- a contract out of the judgement at its entry -/
theorem zC_of {d : Nat} {k : zM} {vs : List zV} {h : zH} {Q : zQ} (hy : plainName k.1.cls = true) (hsz : wsz vs ≤ k.2.2.1) (body : ∀ X, zCx X d k → zEx X k Q → zJ X 0 (entL vs) [] h) : zC d k vs h Q := by
  intro l D T A
  refine Met.ofW (cc := k.2.1) (maxL := k.2.2.1) (ret := k.2.2.2) hy rfl ?_
  intro p e s m args below meth c s₁ B hml hv
  obtain ⟨rfl, hP, hK, hD, hST⟩ := hv
  have hts := atoms_spec (ws := zws k) B.pre
  have hr := B.returns
  have hlocks := B.notSynchronized
  have J := body (p, l, e, (headSpec (zws k) (zrm d)).room, s, m, (vs.map (cvV A)).toArray, below, meth, c, MQ below (zQQ D T A k.2.2.2 Q) (vs.map (cvV A)).toArray s 0 0 (frA A), A, D, T, frA A, (0, 0))
    ⟨B.exec, B.bytes, hml, findClass_of_methodNamed B.named, fun w hw => hts w (List.mem_cons_of_mem _ hw), hK, hST, Nat.le_refl _, Nat.le_refl _, Nat.zero_le _, Nat.zero_le _, fun _ _ _ h => h⟩ ?_
  · rw [lg_entry_eq]
    refine J s.heap [] _ hP hD va_S.rf ?_
    have hl := lv_entry (vs.map (cvV A)) (n := k.2.2.1) (by rw [wsz_sl]; exact hsz)
    exact ⟨by rw [show (xc (p, l, e, (headSpec (zws k) (zrm d)).room, s, m, (vs.map (cvV A)).toArray, below, meth, c, MQ below (zQQ D T A k.2.2.2 Q) (vs.map (cvV A)).toArray s 0 0 (frA A), A, D, T, frA A, (0, 0))) = c from rfl, hml]; exact hl.1, hl.2.1, fun i v hv => hl.2.2 (i, cvV A v) (by have := entL_args A vs 0 i v hv; rwa [Nat.zero_add] at this)⟩
  · intro pc o lv h' hQ hro H locs ls hP hD hS hl
    rcases hro with ⟨hd, x, rfl, hret⟩ | ⟨hd, x, rfl, hret⟩ | ⟨hd, a, rfl, hret⟩ | ⟨hd, rfl, hret⟩
    · rcases hret with hret | ⟨hret, h01⟩
      · exact W.iret B.exec B.bytes (by rw [hr, hret]) (fun t ht hW => by
          show zQQ D T A k.2.2.2 Q _ _ _ _
          rw [hret]
          exact ⟨⟨i32 x, (h', x), rfl, ⟨rfl, hQ⟩, (show va_P D vwCl (wld T A h') t.heap by rw [ht]; exact hP)⟩, va_S.F hS ht⟩) hS.2.2 hd hlocks
      · exact W.zret B.exec B.bytes (by rw [hr, hret]) (by rcases h01 with rfl | rfl <;> rfl) (fun t ht hW => by
          show zQQ D T A k.2.2.2 Q _ _ _ _
          rw [hret]
          exact ⟨⟨i32 x, (h', x), rfl, ⟨rfl, hQ⟩, (show va_P D vwCl (wld T A h') t.heap by rw [ht]; exact hP)⟩, va_S.F hS ht⟩) hS.2.2 hd hlocks
    · exact W.lret B.exec B.bytes (by rw [hr, hret]) (fun t ht hW => by
          show zQQ D T A k.2.2.2 Q _ _ _ _
          rw [hret]
          exact ⟨⟨x, h', rfl, hQ, (show va_P D vwCl (wld T A h') t.heap by rw [ht]; exact hP)⟩, va_S.F hS ht⟩) hS.2.2 hd hlocks
    · exact W.aret B.exec B.bytes (by rw [hr, hret]) (Or.inr ⟨_, rfl⟩) (Or.inr ⟨_, rfl⟩) (fun t ht hW => by
          show zQQ D T A k.2.2.2 Q _ _ _ _
          rw [hret]
          exact ⟨⟨(h', a), A a, rfl, hQ, rfl, (show va_P D vwCl (wld T A h') t.heap by rw [ht]; exact hP)⟩, va_S.F hS ht⟩) hS.2.2 hd hlocks
    · exact W.vret B.exec B.bytes (by rw [hr, hret]) (fun t ht hW => by
          show zQQ D T A k.2.2.2 Q _ _ _ _
          rw [hret]
          exact ⟨⟨h', rfl, hQ, (show va_P D vwCl (wld T A h') t.heap by rw [ht]; exact hP)⟩, va_S.F hS ht⟩) hS.2.2 hd hlocks
end
section
/-! ===== the instructions of the small machine, and that each is the machine's own ===== -/
abbrev zK : Type := Nat → List (Option zV) → List zV → zH → Prop
abbrev zO : Type := Nat → zQ → List (Option zV) → List zV → zH → zK → Prop
def zS (k : zM) (pc : Nat) (o : zO) : Prop := ∀ (X : zX) (d : Nat) (Q : zQ), zCx X d k → zEx X k Q → ∀ (K : zK), (∀ pc' lv' st' h', K pc' lv' st' h' → zJ X pc' lv' st' h') → ∀ (lv : List (Option zV)) (st : List zV) (h : zH), o d Q lv st h K → zJ X pc lv st h
section OPS
variable {k : zM} {pc n : Nat}
def o_const (n : Nat) (x : Int) : zO := fun _ _ lv st h K => K n lv (sI x :: st) h
def o_lconst (n : Nat) (y : Int64) : zO := fun _ _ lv st h K => K n lv (sL y :: st) h
theorem s_iconst {z : Int} (hd : decode k.2.1 pc = .ok (.iconst z, 1)) (hn : pc + 1 = n) : zS k pc (o_const n z) := by
  intro X d Q C E K hK lv st h hk H locs ls hP hD hS hl
  subst hn
  exact lv_iconst C.1 C.2.1 hd rfl (hK _ _ _ _ hk H locs ls hP hD hS hl)
theorem s_bipush {z : Int} (hd : decode k.2.1 pc = .ok (.bipush z, 2)) (hv : (Int8.ofInt z).toInt32 = i32 z) (hn : pc + 2 = n) : zS k pc (o_const n z) := by
  intro X d Q C E K hK lv st h hk H locs ls hP hD hS hl
  subst hn
  exact lv_bipush C.1 C.2.1 hd hv (hK _ _ _ _ hk H locs ls hP hD hS hl)
theorem s_sipush {z : Int} (hd : decode k.2.1 pc = .ok (.sipush z, 3)) (hv : (Int16.ofInt z).toInt32 = i32 z) (hn : pc + 3 = n) : zS k pc (o_const n z) := by
  intro X d Q C E K hK lv st h hk H locs ls hP hD hS hl
  subst hn
  exact lv_sipush C.1 C.2.1 hd hv (hK _ _ _ _ hk H locs ls hP hD hS hl)
theorem s_ldc {idx : Nat} {v : Int32} {z : Int} (hd : decode k.2.1 pc = .ok (.ldc idx, 2)) (hw : Cond.constant k.1.cls idx v ∈ BIG) (hv : v = i32 z) (hn : pc + 2 = n) : zS k pc (o_const n z) := by
  intro X d Q C E K hK lv st h hk H locs ls hP hD hS hl
  subst hn
  subst hv
  exact lv_ldc C.1 C.2.1 C.2.2.2.1 (C.2.2.2.2.1 _ hw) hd (hK _ _ _ _ hk H locs ls hP hD hS hl)
theorem s_lconst {z : Fin 2} {y : Int64} (hd : decode k.2.1 pc = .ok (.lconst z, 1)) (hv : Int64.ofNat z = y) (hn : pc + 1 = n) : zS k pc (o_lconst n y) := by
  intro X d Q C E K hK lv st h hk H locs ls hP hD hS hl
  subst hn
  exact lv_lconst C.1 C.2.1 hd hv (hK _ _ _ _ hk H locs ls hP hD hS hl)
theorem s_ldc2 {idx : Nat} {y : Int64} (hd : decode k.2.1 pc = .ok (.ldc2_w idx, 3)) (hw : Cond.constantLong k.1.cls idx y ∈ BIG) (hn : pc + 3 = n) : zS k pc (o_lconst n y) := by
  intro X d Q C E K hK lv st h hk H locs ls hP hD hS hl
  subst hn
  exact lv_ldc2 C.1 C.2.1 C.2.2.2.1 (C.2.2.2.2.1 _ hw) hd (hK _ _ _ _ hk H locs ls hP hD hS hl)
def o_iload (n i : Nat) : zO := fun _ _ lv st h K => match lv[i]? with
  | some (some (.inl x)) => K n lv (sI x :: st) h
  | _ => False
theorem s_iload_n {j : Fin 4} {i : Nat} (hd : decode k.2.1 pc = .ok (.iload_n j, 1)) (hi : (j : Nat) = i) (hn : pc + 1 = n) : zS k pc (o_iload n i) := by
  intro X d Q C E K hK lv st h hk
  subst hn
  unfold o_iload at hk
  split at hk
  · rename_i x hx
    intro H locs ls hP hD hS hl
    exact lv_iload_n C.1 C.2.1 hd hi (hl.2.2 i _ hx) (hK _ _ _ _ hk H locs ls hP hD hS hl)
  · exact hk.elim
theorem s_iload {i : Nat} (hd : decode k.2.1 pc = .ok (.iload i, 2)) (hn : pc + 2 = n) : zS k pc (o_iload n i) := by
  intro X d Q C E K hK lv st h hk
  subst hn
  unfold o_iload at hk
  split at hk
  · rename_i x hx
    intro H locs ls hP hD hS hl
    exact lv_iload C.1 C.2.1 hd (hl.2.2 i _ hx) (hK _ _ _ _ hk H locs ls hP hD hS hl)
  · exact hk.elim
def o_lload (n i : Nat) : zO := fun _ _ lv st h K => match lv[i]? with
  | some (some (.inr (.inl x))) => K n lv (sL x :: st) h
  | _ => False
theorem s_lload_n {j : Fin 4} {i : Nat} (hd : decode k.2.1 pc = .ok (.lload_n j, 1)) (hi : (j : Nat) = i) (hn : pc + 1 = n) : zS k pc (o_lload n i) := by
  intro X d Q C E K hK lv st h hk
  subst hn
  unfold o_lload at hk
  split at hk
  · rename_i x hx
    intro H locs ls hP hD hS hl
    exact lv_lload_n C.1 C.2.1 hd hi (hl.2.2 i _ hx) (hK _ _ _ _ hk H locs ls hP hD hS hl)
  · exact hk.elim
theorem s_lload {i : Nat} (hd : decode k.2.1 pc = .ok (.lload i, 2)) (hn : pc + 2 = n) : zS k pc (o_lload n i) := by
  intro X d Q C E K hK lv st h hk
  subst hn
  unfold o_lload at hk
  split at hk
  · rename_i x hx
    intro H locs ls hP hD hS hl
    exact lv_lload C.1 C.2.1 hd (hl.2.2 i _ hx) (hK _ _ _ _ hk H locs ls hP hD hS hl)
  · exact hk.elim
def o_aload (n i : Nat) : zO := fun _ _ lv st h K => match lv[i]? with
  | some (some (.inr (.inr (some x)))) => K n lv (sR x :: st) h
  | _ => False
theorem s_aload_n {j : Fin 4} {i : Nat} (hd : decode k.2.1 pc = .ok (.aload_n j, 1)) (hi : (j : Nat) = i) (hn : pc + 1 = n) : zS k pc (o_aload n i) := by
  intro X d Q C E K hK lv st h hk
  subst hn
  unfold o_aload at hk
  split at hk
  · rename_i x hx
    intro H locs ls hP hD hS hl
    exact lv_aload_n C.1 C.2.1 hd hi (hl.2.2 i _ hx) (hK _ _ _ _ hk H locs ls hP hD hS hl)
  · exact hk.elim
theorem s_aload {i : Nat} (hd : decode k.2.1 pc = .ok (.aload i, 2)) (hn : pc + 2 = n) : zS k pc (o_aload n i) := by
  intro X d Q C E K hK lv st h hk
  subst hn
  unfold o_aload at hk
  split at hk
  · rename_i x hx
    intro H locs ls hP hD hS hl
    exact lv_aload C.1 C.2.1 hd (hl.2.2 i _ hx) (hK _ _ _ _ hk H locs ls hP hD hS hl)
  · exact hk.elim
def o_istore (n i : Nat) : zO := fun _ _ lv st h K => match st with
  | .inl x :: r => K n (st1 lv i (sI x)) r h
  | _ => False
theorem s_istore_n {j : Fin 4} {i : Nat} (hd : decode k.2.1 pc = .ok (.istore_n j, 1)) (hj : (j : Nat) = i) (hi : i < k.2.2.1) (hn : pc + 1 = n) : zS k pc (o_istore n i) := by
  intro X d Q C E K hK lv st h hk
  subst hn
  unfold o_istore at hk
  split at hk
  · rename_i x r
    intro H locs ls hP hD hS hl
    exact lv_istore_n C.1 C.2.1 hd hj (lvx_has hl) (by rw [C.2.2.1]; exact hi) rfl (fun ls' hl' => hK _ _ _ _ hk H locs ls' hP hD hS (lvx_st1 (v := sI x) hl'))
  · exact hk.elim
theorem s_istore {i : Nat} (hd : decode k.2.1 pc = .ok (.istore i, 2)) (hi : i < k.2.2.1) (hn : pc + 2 = n) : zS k pc (o_istore n i) := by
  intro X d Q C E K hK lv st h hk
  subst hn
  unfold o_istore at hk
  split at hk
  · rename_i x r
    intro H locs ls hP hD hS hl
    exact lv_istore C.1 C.2.1 hd (lvx_has hl) (by rw [C.2.2.1]; exact hi) rfl (fun ls' hl' => hK _ _ _ _ hk H locs ls' hP hD hS (lvx_st1 (v := sI x) hl'))
  · exact hk.elim
def o_lstore (n i : Nat) : zO := fun _ _ lv st h K => match st with
  | .inr (.inl x) :: r => K n (st2 lv i (sL x)) r h
  | _ => False
theorem s_lstore_n {j : Fin 4} {i : Nat} (hd : decode k.2.1 pc = .ok (.lstore_n j, 1)) (hj : (j : Nat) = i) (hi : i + 1 < k.2.2.1) (hn : pc + 1 = n) : zS k pc (o_lstore n i) := by
  intro X d Q C E K hK lv st h hk
  subst hn
  unfold o_lstore at hk
  split at hk
  · rename_i x r
    intro H locs ls hP hD hS hl
    exact lv_lstore_n C.1 C.2.1 hd hj (lvx_has hl) (by rw [C.2.2.1]; exact hi) rfl (fun ls' hl' => hK _ _ _ _ hk H locs ls' hP hD hS (lvx_st2 (v := sL x) hl'))
  · exact hk.elim
theorem s_lstore {i : Nat} (hd : decode k.2.1 pc = .ok (.lstore i, 2)) (hi : i + 1 < k.2.2.1) (hn : pc + 2 = n) : zS k pc (o_lstore n i) := by
  intro X d Q C E K hK lv st h hk
  subst hn
  unfold o_lstore at hk
  split at hk
  · rename_i x r
    intro H locs ls hP hD hS hl
    exact lv_lstore C.1 C.2.1 hd (lvx_has hl) (by rw [C.2.2.1]; exact hi) rfl (fun ls' hl' => hK _ _ _ _ hk H locs ls' hP hD hS (lvx_st2 (v := sL x) hl'))
  · exact hk.elim
def o_astore (n i : Nat) : zO := fun _ _ lv st h K => match st with
  | .inr (.inr (some x)) :: r => K n (st1 lv i (sR x)) r h
  | _ => False
theorem s_astore_n {j : Fin 4} {i : Nat} (hd : decode k.2.1 pc = .ok (.astore_n j, 1)) (hj : (j : Nat) = i) (hi : i < k.2.2.1) (hn : pc + 1 = n) : zS k pc (o_astore n i) := by
  intro X d Q C E K hK lv st h hk
  subst hn
  unfold o_astore at hk
  split at hk
  · rename_i x r
    intro H locs ls hP hD hS hl
    exact lv_astore_n C.1 C.2.1 hd hj (lvx_has hl) (by rw [C.2.2.1]; exact hi) rfl (fun ls' hl' => hK _ _ _ _ hk H locs ls' hP hD hS (lvx_st1 (v := sR x) hl'))
  · exact hk.elim
theorem s_astore {i : Nat} (hd : decode k.2.1 pc = .ok (.astore i, 2)) (hi : i < k.2.2.1) (hn : pc + 2 = n) : zS k pc (o_astore n i) := by
  intro X d Q C E K hK lv st h hk
  subst hn
  unfold o_astore at hk
  split at hk
  · rename_i x r
    intro H locs ls hP hD hS hl
    exact lv_astore C.1 C.2.1 hd (lvx_has hl) (by rw [C.2.2.1]; exact hi) rfl (fun ls' hl' => hK _ _ _ _ hk H locs ls' hP hD hS (lvx_st1 (v := sR x) hl'))
  · exact hk.elim
def o_iinc (n i : Nat) (z : Int) : zO := fun _ _ lv st h K => match lv[i]? with
  | some (some (.inl x)) => K n (st1 lv i (sI (x + z))) st h
  | _ => False
theorem s_iinc {i : Nat} {z : Int} (hd : decode k.2.1 pc = .ok (.iinc i z, 3)) (hi : i < k.2.2.1) (hn : pc + 3 = n) : zS k pc (o_iinc n i z) := by
  intro X d Q C E K hK lv st h hk
  subst hn
  unfold o_iinc at hk
  split at hk
  · rename_i x hx
    intro H locs ls hP hD hS hl
    obtain ⟨j, hj⟩ := List.getElem?_of_mem (lvL_mem (A := xA X) hx)
    exact lv_iinc (v := i32 (x + z)) C.1 C.2.1 hd (lvx_has hl) hj (by rw [i32_add]; rfl) (by rw [C.2.2.1]; exact hi) rfl (fun ls' hl' => hK _ _ _ _ hk H locs ls' hP hD hS (lvx_st1 (v := sI (x + z)) hl'))
  · exact hk.elim
def o_iadd (n : Nat) : zO := fun _ _ lv st h K => match st with
  | .inl y :: .inl x :: r => K n lv (sI (x + y) :: r) h
  | _ => False
theorem s_iadd (hd : decode k.2.1 pc = .ok (.iadd, 1)) (hn : pc + 1 = n) : zS k pc (o_iadd n) := by
  intro X d Q C E K hK lv st h hk
  subst hn
  unfold o_iadd at hk
  split at hk
  · rename_i y x r
    intro H locs ls hP hD hS hl
    refine lv_iadd C.1 C.2.1 hd ?_
    rw [← i32_add]
    exact hK _ _ _ _ hk H locs ls hP hD hS hl
  · exact hk.elim
def o_isub (n : Nat) : zO := fun _ _ lv st h K => match st with
  | .inl y :: .inl x :: r => K n lv (sI (x - y) :: r) h
  | _ => False
theorem s_isub (hd : decode k.2.1 pc = .ok (.isub, 1)) (hn : pc + 1 = n) : zS k pc (o_isub n) := by
  intro X d Q C E K hK lv st h hk
  subst hn
  unfold o_isub at hk
  split at hk
  · rename_i y x r
    intro H locs ls hP hD hS hl
    refine lv_isub C.1 C.2.1 hd ?_
    rw [← i32_sub]
    exact hK _ _ _ _ hk H locs ls hP hD hS hl
  · exact hk.elim
def o_imul (n : Nat) : zO := fun _ _ lv st h K => match st with
  | .inl y :: .inl x :: r => K n lv (sI (x * y) :: r) h
  | _ => False
theorem s_imul (hd : decode k.2.1 pc = .ok (.imul, 1)) (hn : pc + 1 = n) : zS k pc (o_imul n) := by
  intro X d Q C E K hK lv st h hk
  subst hn
  unfold o_imul at hk
  split at hk
  · rename_i y x r
    intro H locs ls hP hD hS hl
    refine lv_imul C.1 C.2.1 hd ?_
    rw [← i32_mul]
    exact hK _ _ _ _ hk H locs ls hP hD hS hl
  · exact hk.elim
def o_idiv (n : Nat) : zO := fun _ _ lv st h K => match st with
  | .inl y :: .inl x :: r => (0 ≤ x ∧ x ≤ 2147483647) ∧ (0 < y ∧ y ≤ 2147483647) ∧ K n lv (sI (x / y) :: r) h
  | _ => False
theorem s_idiv (hd : decode k.2.1 pc = .ok (.idiv, 1)) (hn : pc + 1 = n) : zS k pc (o_idiv n) := by
  intro X d Q C E K hK lv st h hk
  subst hn
  unfold o_idiv at hk
  split at hk
  · rename_i y x r
    intro H locs ls hP hD hS hl
    obtain ⟨h1, h2, hk⟩ := hk
    refine lv_idiv C.1 C.2.1 hd (fun e => ?_) ?_
    · have := (i32_eq (x := y) (y := 0) ⟨by omega, h2.2⟩ inR_0).mp e
      omega
    · rw [i32_div h1 h2]
      exact hK _ _ _ _ hk H locs ls hP hD hS hl
  · exact hk.elim
def o_irem (n : Nat) : zO := fun _ _ lv st h K => match st with
  | .inl y :: .inl x :: r => (0 ≤ x ∧ x ≤ 2147483647) ∧ (0 < y ∧ y ≤ 2147483647) ∧ K n lv (sI (x % y) :: r) h
  | _ => False
theorem s_irem (hd : decode k.2.1 pc = .ok (.irem, 1)) (hn : pc + 1 = n) : zS k pc (o_irem n) := by
  intro X d Q C E K hK lv st h hk
  subst hn
  unfold o_irem at hk
  split at hk
  · rename_i y x r
    intro H locs ls hP hD hS hl
    obtain ⟨h1, h2, hk⟩ := hk
    refine lv_irem C.1 C.2.1 hd (fun e => ?_) ?_
    · have := (i32_eq (x := y) (y := 0) ⟨by omega, h2.2⟩ inR_0).mp e
      omega
    · rw [i32_rem h1 h2]
      exact hK _ _ _ _ hk H locs ls hP hD hS hl
  · exact hk.elim
def and32 (x y : Int) : Int := (i32 x &&& i32 y).toInt
def or32 (x y : Int) : Int := (i32 x ||| i32 y).toInt
def xor32 (x y : Int) : Int := (i32 x ^^^ i32 y).toInt
def shl32 (x y : Int) : Int := (i32 x <<< (i32 y &&& 31)).toInt
def shr32 (x y : Int) : Int := (i32 x >>> (i32 y &&& 31)).toInt
def ushr32 (x y : Int) : Int := ((i32 x).toUInt32 >>> ((i32 y).toUInt32 &&& Int32.toUInt32 31)).toInt32.toInt
def shl64 (x : Int64) (y : Int) : Int64 := x <<< ((i32 y).toInt64 &&& 63)
def ushr64 (x : Int64) (y : Int) : Int64 := (x.toUInt64 >>> ((i32 y).toInt64.toUInt64 &&& Int64.toUInt64 63)).toInt64
def i2l (x : Int) : Int64 := (i32 x).toInt64
def l2i (x : Int64) : Int := x.toInt32.toInt
def i2b (x : Int) : Int := (i32 x).toInt8.toInt32.toInt
def i2s (x : Int) : Int := (i32 x).toInt16.toInt32.toInt
def o_iand (n : Nat) : zO := fun _ _ lv st h K => match st with
  | .inl y :: .inl x :: r => K n lv (sI (and32 x y) :: r) h
  | _ => False
theorem s_iand (hd : decode k.2.1 pc = .ok (.iand, 1)) (hn : pc + 1 = n) : zS k pc (o_iand n) := by
  intro X d Q C E K hK lv st h hk
  subst hn
  unfold o_iand at hk
  split at hk
  · rename_i y x r
    intro H locs ls hP hD hS hl
    refine lv_iand C.1 C.2.1 hd ?_
    rw [show i32 x &&& i32 y = i32 (and32 x y) from (i32_of _).symm]
    exact hK _ _ _ _ hk H locs ls hP hD hS hl
  · exact hk.elim
def o_ior (n : Nat) : zO := fun _ _ lv st h K => match st with
  | .inl y :: .inl x :: r => K n lv (sI (or32 x y) :: r) h
  | _ => False
theorem s_ior (hd : decode k.2.1 pc = .ok (.ior, 1)) (hn : pc + 1 = n) : zS k pc (o_ior n) := by
  intro X d Q C E K hK lv st h hk
  subst hn
  unfold o_ior at hk
  split at hk
  · rename_i y x r
    intro H locs ls hP hD hS hl
    refine lv_ior C.1 C.2.1 hd ?_
    rw [show i32 x ||| i32 y = i32 (or32 x y) from (i32_of _).symm]
    exact hK _ _ _ _ hk H locs ls hP hD hS hl
  · exact hk.elim
def o_ixor (n : Nat) : zO := fun _ _ lv st h K => match st with
  | .inl y :: .inl x :: r => K n lv (sI (xor32 x y) :: r) h
  | _ => False
theorem s_ixor (hd : decode k.2.1 pc = .ok (.ixor, 1)) (hn : pc + 1 = n) : zS k pc (o_ixor n) := by
  intro X d Q C E K hK lv st h hk
  subst hn
  unfold o_ixor at hk
  split at hk
  · rename_i y x r
    intro H locs ls hP hD hS hl
    refine lv_ixor C.1 C.2.1 hd ?_
    rw [show i32 x ^^^ i32 y = i32 (xor32 x y) from (i32_of _).symm]
    exact hK _ _ _ _ hk H locs ls hP hD hS hl
  · exact hk.elim
def o_ishl (n : Nat) : zO := fun _ _ lv st h K => match st with
  | .inl y :: .inl x :: r => K n lv (sI (shl32 x y) :: r) h
  | _ => False
theorem s_ishl (hd : decode k.2.1 pc = .ok (.ishl, 1)) (hn : pc + 1 = n) : zS k pc (o_ishl n) := by
  intro X d Q C E K hK lv st h hk
  subst hn
  unfold o_ishl at hk
  split at hk
  · rename_i y x r
    intro H locs ls hP hD hS hl
    refine lv_ishl C.1 C.2.1 hd ?_
    rw [show i32 x <<< (i32 y &&& 31) = i32 (shl32 x y) from (i32_of _).symm]
    exact hK _ _ _ _ hk H locs ls hP hD hS hl
  · exact hk.elim
def o_ishr (n : Nat) : zO := fun _ _ lv st h K => match st with
  | .inl y :: .inl x :: r => K n lv (sI (shr32 x y) :: r) h
  | _ => False
theorem s_ishr (hd : decode k.2.1 pc = .ok (.ishr, 1)) (hn : pc + 1 = n) : zS k pc (o_ishr n) := by
  intro X d Q C E K hK lv st h hk
  subst hn
  unfold o_ishr at hk
  split at hk
  · rename_i y x r
    intro H locs ls hP hD hS hl
    refine lv_ishr C.1 C.2.1 hd ?_
    rw [show i32 x >>> (i32 y &&& 31) = i32 (shr32 x y) from (i32_of _).symm]
    exact hK _ _ _ _ hk H locs ls hP hD hS hl
  · exact hk.elim
def o_iushr (n : Nat) : zO := fun _ _ lv st h K => match st with
  | .inl y :: .inl x :: r => K n lv (sI (ushr32 x y) :: r) h
  | _ => False
theorem s_iushr (hd : decode k.2.1 pc = .ok (.iushr, 1)) (hn : pc + 1 = n) : zS k pc (o_iushr n) := by
  intro X d Q C E K hK lv st h hk
  subst hn
  unfold o_iushr at hk
  split at hk
  · rename_i y x r
    intro H locs ls hP hD hS hl
    refine lv_iushr C.1 C.2.1 hd (i32_of _).symm ?_
    exact hK _ _ _ _ hk H locs ls hP hD hS hl
  · exact hk.elim
def o_ineg (n : Nat) : zO := fun _ _ lv st h K => match st with
  | .inl x :: r => K n lv (sI (-x) :: r) h
  | _ => False
theorem s_ineg (hd : decode k.2.1 pc = .ok (.ineg, 1)) (hn : pc + 1 = n) : zS k pc (o_ineg n) := by
  intro X d Q C E K hK lv st h hk
  subst hn
  unfold o_ineg at hk
  split at hk
  · intro H locs ls hP hD hS hl
    refine lv_ineg C.1 C.2.1 hd ?_
    rw [← i32_neg]
    exact hK _ _ _ _ hk H locs ls hP hD hS hl
  · exact hk.elim
def o_i2l (n : Nat) : zO := fun _ _ lv st h K => match st with
  | .inl x :: r => K n lv (sL (i2l x) :: r) h
  | _ => False
theorem s_i2l (hd : decode k.2.1 pc = .ok (.i2l, 1)) (hn : pc + 1 = n) : zS k pc (o_i2l n) := by
  intro X d Q C E K hK lv st h hk
  subst hn
  unfold o_i2l at hk
  split at hk
  · intro H locs ls hP hD hS hl
    exact lv_i2l C.1 C.2.1 hd rfl (hK _ _ _ _ hk H locs ls hP hD hS hl)
  · exact hk.elim
def o_l2i (n : Nat) : zO := fun _ _ lv st h K => match st with
  | .inr (.inl x) :: r => K n lv (sI (l2i x) :: r) h
  | _ => False
theorem s_l2i (hd : decode k.2.1 pc = .ok (.l2i, 1)) (hn : pc + 1 = n) : zS k pc (o_l2i n) := by
  intro X d Q C E K hK lv st h hk
  subst hn
  unfold o_l2i at hk
  split at hk
  · intro H locs ls hP hD hS hl
    exact lv_l2i C.1 C.2.1 hd (i32_of _).symm (hK _ _ _ _ hk H locs ls hP hD hS hl)
  · exact hk.elim
def o_i2b (n : Nat) : zO := fun _ _ lv st h K => match st with
  | .inl x :: r => K n lv (sI (i2b x) :: r) h
  | _ => False
theorem s_i2b (hd : decode k.2.1 pc = .ok (.i2b, 1)) (hn : pc + 1 = n) : zS k pc (o_i2b n) := by
  intro X d Q C E K hK lv st h hk
  subst hn
  unfold o_i2b at hk
  split at hk
  · intro H locs ls hP hD hS hl
    exact lv_i2b C.1 C.2.1 hd (i32_of _).symm (hK _ _ _ _ hk H locs ls hP hD hS hl)
  · exact hk.elim
def o_i2s (n : Nat) : zO := fun _ _ lv st h K => match st with
  | .inl x :: r => K n lv (sI (i2s x) :: r) h
  | _ => False
theorem s_i2s (hd : decode k.2.1 pc = .ok (.i2s, 1)) (hn : pc + 1 = n) : zS k pc (o_i2s n) := by
  intro X d Q C E K hK lv st h hk
  subst hn
  unfold o_i2s at hk
  split at hk
  · intro H locs ls hP hD hS hl
    exact lv_i2s C.1 C.2.1 hd (i32_of _).symm (hK _ _ _ _ hk H locs ls hP hD hS hl)
  · exact hk.elim
def o_land (n : Nat) : zO := fun _ _ lv st h K => match st with
  | .inr (.inl y) :: .inr (.inl x) :: r => K n lv (sL (x &&& y) :: r) h
  | _ => False
theorem s_land (hd : decode k.2.1 pc = .ok (.land, 1)) (hn : pc + 1 = n) : zS k pc (o_land n) := by
  intro X d Q C E K hK lv st h hk
  subst hn
  unfold o_land at hk
  split at hk
  · intro H locs ls hP hD hS hl
    exact lv_land C.1 C.2.1 hd (hK _ _ _ _ hk H locs ls hP hD hS hl)
  · exact hk.elim
def o_lor (n : Nat) : zO := fun _ _ lv st h K => match st with
  | .inr (.inl y) :: .inr (.inl x) :: r => K n lv (sL (x ||| y) :: r) h
  | _ => False
theorem s_lor (hd : decode k.2.1 pc = .ok (.lor, 1)) (hn : pc + 1 = n) : zS k pc (o_lor n) := by
  intro X d Q C E K hK lv st h hk
  subst hn
  unfold o_lor at hk
  split at hk
  · intro H locs ls hP hD hS hl
    exact lv_lor C.1 C.2.1 hd (hK _ _ _ _ hk H locs ls hP hD hS hl)
  · exact hk.elim
def o_lxor (n : Nat) : zO := fun _ _ lv st h K => match st with
  | .inr (.inl y) :: .inr (.inl x) :: r => K n lv (sL (x ^^^ y) :: r) h
  | _ => False
theorem s_lxor (hd : decode k.2.1 pc = .ok (.lxor, 1)) (hn : pc + 1 = n) : zS k pc (o_lxor n) := by
  intro X d Q C E K hK lv st h hk
  subst hn
  unfold o_lxor at hk
  split at hk
  · intro H locs ls hP hD hS hl
    exact lv_lxor C.1 C.2.1 hd (hK _ _ _ _ hk H locs ls hP hD hS hl)
  · exact hk.elim
def o_lshl (n : Nat) : zO := fun _ _ lv st h K => match st with
  | .inl y :: .inr (.inl x) :: r => K n lv (sL (shl64 x y) :: r) h
  | _ => False
theorem s_lshl (hd : decode k.2.1 pc = .ok (.lshl, 1)) (hn : pc + 1 = n) : zS k pc (o_lshl n) := by
  intro X d Q C E K hK lv st h hk
  subst hn
  unfold o_lshl at hk
  split at hk
  · intro H locs ls hP hD hS hl
    exact lv_lshl C.1 C.2.1 hd rfl (hK _ _ _ _ hk H locs ls hP hD hS hl)
  · exact hk.elim
def o_lushr (n : Nat) : zO := fun _ _ lv st h K => match st with
  | .inl y :: .inr (.inl x) :: r => K n lv (sL (ushr64 x y) :: r) h
  | _ => False
theorem s_lushr (hd : decode k.2.1 pc = .ok (.lushr, 1)) (hn : pc + 1 = n) : zS k pc (o_lushr n) := by
  intro X d Q C E K hK lv st h hk
  subst hn
  unfold o_lushr at hk
  split at hk
  · intro H locs ls hP hD hS hl
    exact lv_lushr C.1 C.2.1 hd rfl (hK _ _ _ _ hk H locs ls hP hD hS hl)
  · exact hk.elim
def o_lcmp (n : Nat) : zO := fun _ _ lv st h K => match st with
  | .inr (.inl y) :: .inr (.inl x) :: r => (x < y → K n lv (sI (-1) :: r) h) ∧ (x = y → K n lv (sI 0 :: r) h) ∧ (y < x → K n lv (sI 1 :: r) h)
  | _ => False
theorem s_lcmp (hd : decode k.2.1 pc = .ok (.lcmp, 1)) (hn : pc + 1 = n) : zS k pc (o_lcmp n) := by
  intro X d Q C E K hK lv st h hk
  subst hn
  unfold o_lcmp at hk
  split at hk
  · rename_i y x r
    intro H locs ls hP hD hS hl
    refine W.lcmp C.1 C.2.1 hd ?_
    unfold lg_cmp
    by_cases h1 : x > y
    · rw [if_pos h1]
      exact hK _ _ _ _ (hk.2.2 h1) H locs ls hP hD hS hl
    · rw [if_neg h1]
      by_cases h2 : x = y
      · rw [if_pos h2]
        exact hK _ _ _ _ (hk.2.1 h2) H locs ls hP hD hS hl
      · rw [if_neg h2]
        exact hK _ _ _ _ (hk.1 (by
          rw [gt_iff_lt, Int64.lt_iff_toInt_lt] at h1
          rw [Int64.lt_iff_toInt_lt]
          rw [← Int64.toInt_inj] at h2
          omega)) H locs ls hP hD hS hl
  · exact hk.elim
def o_icmp_eq (t n : Nat) : zO := fun _ _ lv st h K => match st with
  | .inl y :: .inl x :: r => inR x ∧ inR y ∧ (x = y → K t lv r h) ∧ (¬ (x = y) → K n lv r h)
  | _ => False
theorem s_icmp_eq {off : Int} {t : Nat} (hd : decode k.2.1 pc = .ok (.if_icmp .eq off, 3)) (ht : (pc : Int) + off = (t : Int)) (hn : pc + 3 = n) : zS k pc (o_icmp_eq t n) := by
  intro X d Q C E K hK lv st h hk
  subst hn
  unfold o_icmp_eq at hk
  split at hk
  · rename_i y x r
    intro H locs ls hP hD hS hl
    obtain ⟨hx, hy, k1, k2⟩ := hk
    
    exact lv_icmp_eq C.1 C.2.1 hd ht (fun q => hK _ _ _ _ (k1 ((i32_eq hx hy).mp q)) H locs ls hP hD hS hl) (fun q => hK _ _ _ _ (k2 (fun z => q ((i32_eq hx hy).mpr z))) H locs ls hP hD hS hl)
  · exact hk.elim
def o_if_eq (t n : Nat) : zO := fun _ _ lv st h K => match st with
  | .inl x :: r => inR x ∧ (x = 0 → K t lv r h) ∧ (¬ (x = 0) → K n lv r h)
  | _ => False
theorem s_if_eq {off : Int} {t : Nat} (hd : decode k.2.1 pc = .ok (.ifCond .eq off, 3)) (ht : (pc : Int) + off = (t : Int)) (hn : pc + 3 = n) : zS k pc (o_if_eq t n) := by
  intro X d Q C E K hK lv st h hk
  subst hn
  unfold o_if_eq at hk
  split at hk
  · rename_i x r
    intro H locs ls hP hD hS hl
    obtain ⟨hx, k1, k2⟩ := hk
    have hy := inR_0
    exact lv_if_eq C.1 C.2.1 hd ht (fun q => hK _ _ _ _ (k1 ((i32_eq hx hy).mp q)) H locs ls hP hD hS hl) (fun q => hK _ _ _ _ (k2 (fun z => q ((i32_eq hx hy).mpr z))) H locs ls hP hD hS hl)
  · exact hk.elim
def o_icmp_ne (t n : Nat) : zO := fun _ _ lv st h K => match st with
  | .inl y :: .inl x :: r => inR x ∧ inR y ∧ (¬ x = y → K t lv r h) ∧ (x = y → K n lv r h)
  | _ => False
theorem s_icmp_ne {off : Int} {t : Nat} (hd : decode k.2.1 pc = .ok (.if_icmp .ne off, 3)) (ht : (pc : Int) + off = (t : Int)) (hn : pc + 3 = n) : zS k pc (o_icmp_ne t n) := by
  intro X d Q C E K hK lv st h hk
  subst hn
  unfold o_icmp_ne at hk
  split at hk
  · rename_i y x r
    intro H locs ls hP hD hS hl
    obtain ⟨hx, hy, k1, k2⟩ := hk
    
    exact lv_icmp_ne C.1 C.2.1 hd ht (fun q => hK _ _ _ _ (k1 ((not_congr (i32_eq hx hy)).mp q)) H locs ls hP hD hS hl) (fun q => hK _ _ _ _ (k2 ((i32_eq hx hy).mp q)) H locs ls hP hD hS hl)
  · exact hk.elim
def o_if_ne (t n : Nat) : zO := fun _ _ lv st h K => match st with
  | .inl x :: r => inR x ∧ (¬ x = 0 → K t lv r h) ∧ (x = 0 → K n lv r h)
  | _ => False
theorem s_if_ne {off : Int} {t : Nat} (hd : decode k.2.1 pc = .ok (.ifCond .ne off, 3)) (ht : (pc : Int) + off = (t : Int)) (hn : pc + 3 = n) : zS k pc (o_if_ne t n) := by
  intro X d Q C E K hK lv st h hk
  subst hn
  unfold o_if_ne at hk
  split at hk
  · rename_i x r
    intro H locs ls hP hD hS hl
    obtain ⟨hx, k1, k2⟩ := hk
    have hy := inR_0
    exact lv_if_ne C.1 C.2.1 hd ht (fun q => hK _ _ _ _ (k1 ((not_congr (i32_eq hx hy)).mp q)) H locs ls hP hD hS hl) (fun q => hK _ _ _ _ (k2 ((i32_eq hx hy).mp q)) H locs ls hP hD hS hl)
  · exact hk.elim
def o_icmp_lt (t n : Nat) : zO := fun _ _ lv st h K => match st with
  | .inl y :: .inl x :: r => inR x ∧ inR y ∧ (x < y → K t lv r h) ∧ (¬ (x < y) → K n lv r h)
  | _ => False
theorem s_icmp_lt {off : Int} {t : Nat} (hd : decode k.2.1 pc = .ok (.if_icmp .lt off, 3)) (ht : (pc : Int) + off = (t : Int)) (hn : pc + 3 = n) : zS k pc (o_icmp_lt t n) := by
  intro X d Q C E K hK lv st h hk
  subst hn
  unfold o_icmp_lt at hk
  split at hk
  · rename_i y x r
    intro H locs ls hP hD hS hl
    obtain ⟨hx, hy, k1, k2⟩ := hk
    
    exact lv_icmp_lt C.1 C.2.1 hd ht (fun q => hK _ _ _ _ (k1 ((i32_lt hx hy).mp q)) H locs ls hP hD hS hl) (fun q => hK _ _ _ _ (k2 (fun z => q ((i32_lt hx hy).mpr z))) H locs ls hP hD hS hl)
  · exact hk.elim
def o_if_lt (t n : Nat) : zO := fun _ _ lv st h K => match st with
  | .inl x :: r => inR x ∧ (x < 0 → K t lv r h) ∧ (¬ (x < 0) → K n lv r h)
  | _ => False
theorem s_if_lt {off : Int} {t : Nat} (hd : decode k.2.1 pc = .ok (.ifCond .lt off, 3)) (ht : (pc : Int) + off = (t : Int)) (hn : pc + 3 = n) : zS k pc (o_if_lt t n) := by
  intro X d Q C E K hK lv st h hk
  subst hn
  unfold o_if_lt at hk
  split at hk
  · rename_i x r
    intro H locs ls hP hD hS hl
    obtain ⟨hx, k1, k2⟩ := hk
    have hy := inR_0
    exact lv_if_lt C.1 C.2.1 hd ht (fun q => hK _ _ _ _ (k1 ((i32_lt hx hy).mp q)) H locs ls hP hD hS hl) (fun q => hK _ _ _ _ (k2 (fun z => q ((i32_lt hx hy).mpr z))) H locs ls hP hD hS hl)
  · exact hk.elim
def o_icmp_ge (t n : Nat) : zO := fun _ _ lv st h K => match st with
  | .inl y :: .inl x :: r => inR x ∧ inR y ∧ (y ≤ x → K t lv r h) ∧ (¬ (y ≤ x) → K n lv r h)
  | _ => False
theorem s_icmp_ge {off : Int} {t : Nat} (hd : decode k.2.1 pc = .ok (.if_icmp .ge off, 3)) (ht : (pc : Int) + off = (t : Int)) (hn : pc + 3 = n) : zS k pc (o_icmp_ge t n) := by
  intro X d Q C E K hK lv st h hk
  subst hn
  unfold o_icmp_ge at hk
  split at hk
  · rename_i y x r
    intro H locs ls hP hD hS hl
    obtain ⟨hx, hy, k1, k2⟩ := hk
    
    exact lv_icmp_ge C.1 C.2.1 hd ht (fun q => hK _ _ _ _ (k1 ((i32_le hy hx).mp q)) H locs ls hP hD hS hl) (fun q => hK _ _ _ _ (k2 (fun z => q ((i32_le hy hx).mpr z))) H locs ls hP hD hS hl)
  · exact hk.elim
def o_if_ge (t n : Nat) : zO := fun _ _ lv st h K => match st with
  | .inl x :: r => inR x ∧ (0 ≤ x → K t lv r h) ∧ (¬ (0 ≤ x) → K n lv r h)
  | _ => False
theorem s_if_ge {off : Int} {t : Nat} (hd : decode k.2.1 pc = .ok (.ifCond .ge off, 3)) (ht : (pc : Int) + off = (t : Int)) (hn : pc + 3 = n) : zS k pc (o_if_ge t n) := by
  intro X d Q C E K hK lv st h hk
  subst hn
  unfold o_if_ge at hk
  split at hk
  · rename_i x r
    intro H locs ls hP hD hS hl
    obtain ⟨hx, k1, k2⟩ := hk
    have hy := inR_0
    exact lv_if_ge C.1 C.2.1 hd ht (fun q => hK _ _ _ _ (k1 ((i32_le hy hx).mp q)) H locs ls hP hD hS hl) (fun q => hK _ _ _ _ (k2 (fun z => q ((i32_le hy hx).mpr z))) H locs ls hP hD hS hl)
  · exact hk.elim
def o_icmp_gt (t n : Nat) : zO := fun _ _ lv st h K => match st with
  | .inl y :: .inl x :: r => inR x ∧ inR y ∧ (y < x → K t lv r h) ∧ (¬ (y < x) → K n lv r h)
  | _ => False
theorem s_icmp_gt {off : Int} {t : Nat} (hd : decode k.2.1 pc = .ok (.if_icmp .gt off, 3)) (ht : (pc : Int) + off = (t : Int)) (hn : pc + 3 = n) : zS k pc (o_icmp_gt t n) := by
  intro X d Q C E K hK lv st h hk
  subst hn
  unfold o_icmp_gt at hk
  split at hk
  · rename_i y x r
    intro H locs ls hP hD hS hl
    obtain ⟨hx, hy, k1, k2⟩ := hk
    
    exact lv_icmp_gt C.1 C.2.1 hd ht (fun q => hK _ _ _ _ (k1 ((i32_lt hy hx).mp q)) H locs ls hP hD hS hl) (fun q => hK _ _ _ _ (k2 (fun z => q ((i32_lt hy hx).mpr z))) H locs ls hP hD hS hl)
  · exact hk.elim
def o_if_gt (t n : Nat) : zO := fun _ _ lv st h K => match st with
  | .inl x :: r => inR x ∧ (0 < x → K t lv r h) ∧ (¬ (0 < x) → K n lv r h)
  | _ => False
theorem s_if_gt {off : Int} {t : Nat} (hd : decode k.2.1 pc = .ok (.ifCond .gt off, 3)) (ht : (pc : Int) + off = (t : Int)) (hn : pc + 3 = n) : zS k pc (o_if_gt t n) := by
  intro X d Q C E K hK lv st h hk
  subst hn
  unfold o_if_gt at hk
  split at hk
  · rename_i x r
    intro H locs ls hP hD hS hl
    obtain ⟨hx, k1, k2⟩ := hk
    have hy := inR_0
    exact lv_if_gt C.1 C.2.1 hd ht (fun q => hK _ _ _ _ (k1 ((i32_lt hy hx).mp q)) H locs ls hP hD hS hl) (fun q => hK _ _ _ _ (k2 (fun z => q ((i32_lt hy hx).mpr z))) H locs ls hP hD hS hl)
  · exact hk.elim
def o_icmp_le (t n : Nat) : zO := fun _ _ lv st h K => match st with
  | .inl y :: .inl x :: r => inR x ∧ inR y ∧ (x ≤ y → K t lv r h) ∧ (¬ (x ≤ y) → K n lv r h)
  | _ => False
theorem s_icmp_le {off : Int} {t : Nat} (hd : decode k.2.1 pc = .ok (.if_icmp .le off, 3)) (ht : (pc : Int) + off = (t : Int)) (hn : pc + 3 = n) : zS k pc (o_icmp_le t n) := by
  intro X d Q C E K hK lv st h hk
  subst hn
  unfold o_icmp_le at hk
  split at hk
  · rename_i y x r
    intro H locs ls hP hD hS hl
    obtain ⟨hx, hy, k1, k2⟩ := hk
    
    exact lv_icmp_le C.1 C.2.1 hd ht (fun q => hK _ _ _ _ (k1 ((i32_le hx hy).mp q)) H locs ls hP hD hS hl) (fun q => hK _ _ _ _ (k2 (fun z => q ((i32_le hx hy).mpr z))) H locs ls hP hD hS hl)
  · exact hk.elim
def o_if_le (t n : Nat) : zO := fun _ _ lv st h K => match st with
  | .inl x :: r => inR x ∧ (x ≤ 0 → K t lv r h) ∧ (¬ (x ≤ 0) → K n lv r h)
  | _ => False
theorem s_if_le {off : Int} {t : Nat} (hd : decode k.2.1 pc = .ok (.ifCond .le off, 3)) (ht : (pc : Int) + off = (t : Int)) (hn : pc + 3 = n) : zS k pc (o_if_le t n) := by
  intro X d Q C E K hK lv st h hk
  subst hn
  unfold o_if_le at hk
  split at hk
  · rename_i x r
    intro H locs ls hP hD hS hl
    obtain ⟨hx, k1, k2⟩ := hk
    have hy := inR_0
    exact lv_if_le C.1 C.2.1 hd ht (fun q => hK _ _ _ _ (k1 ((i32_le hx hy).mp q)) H locs ls hP hD hS hl) (fun q => hK _ _ _ _ (k2 (fun z => q ((i32_le hx hy).mpr z))) H locs ls hP hD hS hl)
  · exact hk.elim
def o_goto (t : Nat) : zO := fun _ _ lv st h K => K t lv st h
theorem s_goto {off : Int} {t : Nat} (hd : decode k.2.1 pc = .ok (.goto off, 3)) (ht : (pc : Int) + off = (t : Int)) : zS k pc (o_goto t) := by
  intro X d Q C E K hK lv st h hk H locs ls hP hD hS hl
  exact lv_goto C.1 C.2.1 hd ht (hK _ _ _ _ hk H locs ls hP hD hS hl)
def c1v : zV → Bool
  | .inr (.inl _) => false
  | _ => true
theorem c1v_cat {A : Nat → Nat} {v : zV} (h : c1v v = true) : (cvV A v).category = 1 := by
  rcases lv_cat (cvV A v) with g | g
  · exact g
  · obtain ⟨y, rfl⟩ := (cv_cat A v).mp g
    cases h
def o_dup (n : Nat) : zO := fun _ _ lv st h K => match st with
  | v :: r => match c1v v with
    | true => K n lv (v :: v :: r) h
    | false => False
  | _ => False
theorem s_dup (hd : decode k.2.1 pc = .ok (.dup, 1)) (hn : pc + 1 = n) : zS k pc (o_dup n) := by
  intro X d Q C E K hK lv st h hk
  subst hn
  unfold o_dup at hk
  split at hk
  · split at hk
    · rename_i hc
      intro H locs ls hP hD hS hl
      exact lv_dup C.1 C.2.1 hd (c1v_cat hc) (hK _ _ _ _ hk H locs ls hP hD hS hl)
    · exact hk.elim
  · exact hk.elim
def o_pop (n : Nat) : zO := fun _ _ lv st h K => match st with
  | v :: r => match c1v v with
    | true => K n lv r h
    | false => False
  | _ => False
theorem s_pop (hd : decode k.2.1 pc = .ok (.pop, 1)) (hn : pc + 1 = n) : zS k pc (o_pop n) := by
  intro X d Q C E K hK lv st h hk
  subst hn
  unfold o_pop at hk
  split at hk
  · split at hk
    · rename_i hc
      intro H locs ls hP hD hS hl
      exact lv_pop C.1 C.2.1 hd (c1v_cat hc) (hK _ _ _ _ hk H locs ls hP hD hS hl)
    · exact hk.elim
  · exact hk.elim
def o_dup2 (n : Nat) : zO := fun _ _ lv st h K => match st with
  | v :: u :: r => match c1v v, c1v u with
    | true, true => K n lv (v :: u :: v :: u :: r) h
    | _, _ => False
  | _ => False
theorem s_dup2 (hd : decode k.2.1 pc = .ok (.dup2, 1)) (hn : pc + 1 = n) : zS k pc (o_dup2 n) := by
  intro X d Q C E K hK lv st h hk
  subst hn
  unfold o_dup2 at hk
  split at hk
  · split at hk
    · rename_i hc hc2
      intro H locs ls hP hD hS hl
      exact lv_dup2_11 C.1 C.2.1 hd (c1v_cat hc) (c1v_cat hc2) (hK _ _ _ _ hk H locs ls hP hD hS hl)
    · exact hk.elim
  · exact hk.elim
end OPS
end
section
section OPSH
variable {k : zM} {pc n : Nat}
theorem SHP_0 {a ci : Nat} {ks : List (Nat × Nat)} (h : SHP a = (0, ci, ks)) : a < NC := SHP_lt (by rw [h]; show (0 : Nat) ≠ 9; decide)
theorem cell_0 {T : Nat → ClassId} {A : Nat → Nat} {h : zH} {a ci : Nat} {ks : List (Nat × Nat)} (e : SHP a = (0, ci, ks)) : (wld T A h)[a]? = some (A a, .inr (ci, ks.mapIdx (fun i q => kV A h a i q))) := by
  rw [wld_at (SHP_0 e), e]
  rfl
theorem cell_1 {T : Nat → ClassId} {A : Nat → Nat} {h : zH} {a len : Nat} {ks : List (Nat × Nat)} (e : SHP a = (1, len, ks)) : (wld T A h)[a]? = some (A a, .inl (T 0, len, .inl (fun j => i32 (h.1 a j)))) := by
  rw [wld_at (SHP_lt (by rw [e]; show (1 : Nat) ≠ 9; decide)), e]
  rfl
theorem cell_2 {T : Nat → ClassId} {A : Nat → Nat} {h : zH} {a len : Nat} {ks : List (Nat × Nat)} (e : SHP a = (2, len, ks)) : (wld T A h)[a]? = some (A a, .inl (T 1, len, .inr (.inl (h.2 a)))) := by
  rw [wld_at (SHP_lt (by rw [e]; show (2 : Nat) ≠ 9; decide)), e]
  rfl
theorem cell_3 {T : Nat → ClassId} {A : Nat → Nat} {h : zH} {a len : Nat} {ks : List (Nat × Nat)} (e : SHP a = (3, len, ks)) : (wld T A h)[a]? = some (A a, .inl (T 2, len, .inl (fun j => i32 (h.1 a j)))) := by
  rw [wld_at (SHP_lt (by rw [e]; show (3 : Nat) ≠ 9; decide)), e]
  rfl
theorem cell_4 {T : Nat → ClassId} {A : Nat → Nat} {h : zH} {a len : Nat} {ks : List (Nat × Nat)} (e : SHP a = (4, len, ks)) : (wld T A h)[a]? = some (A a, .inl (T 3, len, .inr (.inr (.inr (.inr (fun j => some (A (ks.getD j (2, 0)).2))))))) := by
  rw [wld_at (SHP_lt (by rw [e]; show (4 : Nat) ≠ 9; decide)), e]
  rfl
def o_getf (n ci s : Nat) : zO := fun _ _ lv st h K => match st with
  | .inr (.inr (some a)) :: r => match SHP a with
    | (0, c, ks) => match Nat.beq c ci, ks[s]? with
      | true, some (0, _) => K n lv (sI (h.1 a s) :: r) h
      | true, some (1, _) => K n lv (sL (h.2 a s) :: r) h
      | true, some (2, j) => K n lv (sR j :: r) h
      | _, _ => False
    | _ => False
  | _ => False
set_option maxHeartbeats 2000000 in
theorem s_getf {ci s idx N : Nat} {C : String} {T : u_T} (hc : vwCl[ci]? = some (C, T, N)) (hin : ∀ w ∈ u_ws C T N, w ∈ BIG) (hs : s < N) (hl : Cond.fieldLink k.1.cls idx (T s).1 (T s).2.1 (T s).2.2.1 ∈ BIG) (hd : decode k.2.1 pc = .ok (.getfield idx, 3)) (hn : pc + 3 = n) : zS k pc (o_getf n ci s) := by
  intro X d Q Z E K hK lv st h hk
  subst hn
  unfold o_getf at hk
  split at hk
  · rename_i a r
    split at hk
    · rename_i c ks hsh
      have key : ∀ q v, ks[s]? = some q → c = ci → kV (xA X) h a s q = cvV (xA X) v → K (pc + 3) lv (v :: r) h → zJ X pc lv (.inr (.inr (some a)) :: r) h := by
        intro q v hq hci hv hk9 H locs ls hP hD hS hl2
        subst hci
        refine va_get (v := cvV (xA X) v) Z.1 Z.2.1 Z.2.2.2.2.1 hin Z.2.2.2.1 Z.2.2.2.2.2.1 hP a (cell_0 hsh) hc s hs (Z.2.2.2.2.1 _ hl) (fun _ h9 => h9) ?_ hd ?_
        · rw [List.getElem?_mapIdx, hq, ← hv]
          rfl
        · exact hK _ _ _ _ hk9 H locs ls hP hD hS hl2
      split at hk
      · rename_i h1 h2
        exact key _ _ h2 (Nat.eq_of_beq_eq_true h1) rfl hk
      · rename_i h1 h2
        exact key _ _ h2 (Nat.eq_of_beq_eq_true h1) rfl hk
      · rename_i h1 h2
        exact key _ _ h2 (Nat.eq_of_beq_eq_true h1) rfl hk
      · exact hk.elim
    · exact hk.elim
  · exact hk.elim
theorem cell_0I {A : Nat → Nat} {h : zH} {a s : Nat} {x : Int} {ks : List (Nat × Nat)} {q : Nat} (hq : ks[s]? = some (0, q)) : (ks.mapIdx (fun i q => kV A h a i q)).set s (.int (i32 x)) = ks.mapIdx (fun i q => kV A (setI h a s x) a i q) := by
  refine mapIdx_set _ _ _ _ _ (fun j b hj => ?_) (fun b hb => ?_)
  · unfold kV setI
    simp only [hj, and_false, if_false]
  · rw [hq] at hb
    cases hb
    unfold kV setI
    simp
theorem cell_0L {A : Nat → Nat} {h : zH} {a s : Nat} {x : Int64} {ks : List (Nat × Nat)} {q : Nat} (hq : ks[s]? = some (1, q)) : (ks.mapIdx (fun i q => kV A h a i q)).set s (.long x) = ks.mapIdx (fun i q => kV A (setL h a s x) a i q) := by
  refine mapIdx_set _ _ _ _ _ (fun j b hj => ?_) (fun b hb => ?_)
  · unfold kV setL
    simp only [hj, and_false, if_false]
  · rw [hq] at hb
    cases hb
    unfold kV setL
    simp
theorem setI_o {h : zH} {a i : Nat} {x : Int} : ∀ c', c' ≠ a → (setI h a i x).1 c' = h.1 c' ∧ (setI h a i x).2 c' = h.2 c' := fun c' hc => ⟨by funext j; simp [setI, hc], rfl⟩
theorem setL_o {h : zH} {a i : Nat} {x : Int64} : ∀ c', c' ≠ a → (setL h a i x).1 c' = h.1 c' ∧ (setL h a i x).2 c' = h.2 c' := fun c' hc => ⟨rfl, by funext j; simp [setL, hc]⟩
theorem cpI_o {h : zH} {a sp b dp m : Nat} : ∀ c', c' ≠ b → (cpI h a sp b dp m).1 c' = h.1 c' ∧ (cpI h a sp b dp m).2 c' = h.2 c' := fun c' hc => ⟨by funext j; simp [cpI, hc], rfl⟩
theorem cpL_o {h : zH} {a sp b dp m : Nat} : ∀ c', c' ≠ b → (cpL h a sp b dp m).1 c' = h.1 c' ∧ (cpL h a sp b dp m).2 c' = h.2 c' := fun c' hc => ⟨rfl, by funext j; simp [cpL, hc]⟩
/-- the new world behind one changed cell -/
theorem wld_new {T : Nat → ClassId} {A : Nat → Nat} {h h' : zH} {c : Nat} {e : va_E} (he : e = cellE T A h' c (SHP c)) (ho : ∀ c', c' ≠ c → h'.1 c' = h.1 c' ∧ h'.2 c' = h.2 c') : (wld T A h).set c (A c, e) = wld T A h' := by
  rw [he]
  exact wld_set ho
def o_putf (n ci s : Nat) : zO := fun _ _ lv st h K => match st with
  | .inl x :: .inr (.inr (some a)) :: r => match SHP a with
    | (0, c, ks) => match Nat.beq c ci, ks[s]? with
      | true, some (0, _) => K n lv r (setI h a s x)
      | _, _ => False
    | _ => False
  | .inr (.inl x) :: .inr (.inr (some a)) :: r => match SHP a with
    | (0, c, ks) => match Nat.beq c ci, ks[s]? with
      | true, some (1, _) => K n lv r (setL h a s x)
      | _, _ => False
    | _ => False
  | _ => False
set_option maxHeartbeats 2000000 in
theorem s_putf {ci s idx N : Nat} {C : String} {T : u_T} {ty0 : Nat → FieldType} {ty : FieldType} (hc : vwCl[ci]? = some (C, T, N)) (hin : ∀ w ∈ u_ws C T N, w ∈ BIG) (hty : ∀ k, k < N → parseFieldDescriptor (T k).2.2.1 = some (ty0 k)) (hnm : ∀ a, a < N → ∀ b, b < N → a ≠ b → (T a).2.1 ≠ (T b).2.1) (hs : s < N) (hfin : (T s).2.2.2 = false) (hty2 : parseFieldDescriptor (T s).2.2.1 = some ty) (hkind : (ty = .int ∧ ∀ a c ks, SHP a = (0, c, ks) → c = ci → ∃ q, ks[s]? = some (0, q)) ∨ (ty = .long ∧ ∀ a c ks, SHP a = (0, c, ks) → c = ci → ∃ q, ks[s]? = some (1, q)))
    (hl : Cond.fieldLink k.1.cls idx (T s).1 (T s).2.1 (T s).2.2.1 ∈ BIG) (hd : decode k.2.1 pc = .ok (.putfield idx, 3)) (hn : pc + 3 = n) : zS k pc (o_putf n ci s) := by
  intro X d Q Z E K hK lv st h hk
  subst hn
  unfold o_putf at hk
  split at hk
  · rename_i x a r
    split at hk
    · rename_i c ks hsh
      split at hk
      · rename_i q h1 h2
        have hci : c = ci := Nat.eq_of_beq_eq_true h1
        have hti : ty = .int := by
          rcases hkind with ⟨g, -⟩ | ⟨-, g⟩
          · exact g
          · obtain ⟨q', g⟩ := g a c ks hsh hci
            rw [h2] at g
            cases g
        subst hci
        subst hti
        intro H locs ls hP hD hS hl2
        refine va_put (v := .int (i32 x)) Z.1 Z.2.1 Z.2.2.2.2.1 hin ty0 hty hnm Z.2.2.2.1 Z.2.2.2.2.2.1 hP hD hS a (cell_0 hsh) hc s hs (Z.2.2.2.2.1 _ hl) (fun _ h9 => h9) hfin hty2 rfl rfl ?_ hd (fun H1 locs1 hP1 hD1 hS1 => ?_)
        · rw [List.length_mapIdx]
          exact (List.getElem?_eq_some_iff.mp h2).1
        · have e : (wld (xT X) (xA X) h).set a (xA X a, .inr (c, (ks.mapIdx (fun i q => kV (xA X) h a i q)).set s (.int (i32 x)))) = wld (xT X) (xA X) (setI h a s x) := wld_new (by rw [cell_0I h2, hsh]; rfl) setI_o
          rw [e] at hP1 hD1
          exact hK _ _ _ _ hk H1 locs1 ls hP1 hD1 hS1 hl2
      · exact hk.elim
    · exact hk.elim
  · rename_i x a r
    split at hk
    · rename_i c ks hsh
      split at hk
      · rename_i q h1 h2
        have hci : c = ci := Nat.eq_of_beq_eq_true h1
        have hti : ty = .long := by
          rcases hkind with ⟨-, g⟩ | ⟨g, -⟩
          · obtain ⟨q', g⟩ := g a c ks hsh hci
            rw [h2] at g
            cases g
          · exact g
        subst hci
        subst hti
        intro H locs ls hP hD hS hl2
        refine va_put (v := .long x) Z.1 Z.2.1 Z.2.2.2.2.1 hin ty0 hty hnm Z.2.2.2.1 Z.2.2.2.2.2.1 hP hD hS a (cell_0 hsh) hc s hs (Z.2.2.2.2.1 _ hl) (fun _ h9 => h9) hfin hty2 rfl rfl ?_ hd (fun H1 locs1 hP1 hD1 hS1 => ?_)
        · rw [List.length_mapIdx]
          exact (List.getElem?_eq_some_iff.mp h2).1
        · have e : (wld (xT X) (xA X) h).set a (xA X a, .inr (c, (ks.mapIdx (fun i q => kV (xA X) h a i q)).set s (.long x))) = wld (xT X) (xA X) (setL h a s x) := wld_new (by rw [cell_0L h2, hsh]; rfl) setL_o
          rw [e] at hP1 hD1
          exact hK _ _ _ _ hk H1 locs1 ls hP1 hD1 hS1 hl2
      · exact hk.elim
    · exact hk.elim
  · exact hk.elim
def o_gets (n a : Nat) : zO := fun _ _ lv st h K => K n lv (sR a :: st) h
theorem s_getsA {idx : Nat} (hl : Cond.fieldLink k.1.cls idx "RoundPoint$Bodies" "ABOVE" "[I" ∈ BIG) (hd : decode k.2.1 pc = .ok (.getstatic idx, 3)) (hn : pc + 3 = n) : zS k pc (o_gets n 90) := by
  intro X d Q Z E K hK lv st h hk H locs ls hP hD hS hl2
  subst hn
  exact va_gets Z.1 Z.2.1 Z.2.2.2.2.2.2.1.1.1 hS Z.2.2.2.1 (Z.2.2.2.2.1 _ hl) (fun _ h9 => h9) hd (hK _ _ _ _ hk H locs ls hP hD hS hl2)
theorem s_getsO {idx : Nat} (hl : Cond.fieldLink k.1.cls idx "RoundPoint$Bodies" "OWN" "[I" ∈ BIG) (hd : decode k.2.1 pc = .ok (.getstatic idx, 3)) (hn : pc + 3 = n) : zS k pc (o_gets n 91) := by
  intro X d Q Z E K hK lv st h hk H locs ls hP hD hS hl2
  subst hn
  exact va_gets Z.1 Z.2.1 Z.2.2.2.2.2.2.1.2.1.1 hS Z.2.2.2.1 (Z.2.2.2.2.1 _ hl) (fun _ h9 => h9) hd (hK _ _ _ _ hk H locs ls hP hD hS hl2)
def o_iald (n : Nat) : zO := fun _ _ lv st h K => match st with
  | .inl j :: .inr (.inr (some a)) :: r => match SHP a with
    | (1, len, _) => 0 ≤ j ∧ j < (len : Int) ∧ K n lv (sI (h.1 a j.toNat) :: r) h
    | _ => False
  | _ => False
theorem s_iald (hd : decode k.2.1 pc = .ok (.iaload, 1)) (hn : pc + 1 = n) : zS k pc (o_iald n) := by
  intro X d Q Z E K hK lv st h hk
  subst hn
  unfold o_iald at hk
  split at hk
  · rename_i j a r
    split at hk
    · rename_i len ks hsh
      obtain ⟨h0, h1, hk⟩ := hk
      have hlen : len < 2147483648 := by have := SHP_len a; rw [hsh] at this; exact this
      intro H locs ls hP hD hS hl
      refine va_iald Z.1 Z.2.1 Z.2.2.2.2.2.1 hP a 0 (cell_1 hsh) rfl (i32_in' h0 h1 hlen) hd ?_
      rw [i32_nat h0 (by omega)]
      exact hK _ _ _ _ hk H locs ls hP hD hS hl
    · exact hk.elim
  · exact hk.elim
/-- a load from one of the two tables -/
def o_tald (n : Nat) : zO := fun _ _ lv st h K => match st with
  | .inl j :: .inr (.inr (some a)) :: r => (a = 90 ∧ 0 ≤ j ∧ j < 7 ∧ K n lv (sI ((ztbl 90).getD j.toNat 0) :: r) h) ∨ (a = 91 ∧ 0 ≤ j ∧ j < 28 ∧ K n lv (sI ((ztbl 91).getD j.toNat 0) :: r) h)
  | _ => False
theorem s_tald (hd : decode k.2.1 pc = .ok (.iaload, 1)) (hn : pc + 1 = n) : zS k pc (o_tald n) := by
  intro X d Q Z E K hK lv st h hk
  subst hn
  unfold o_tald at hk
  split at hk
  · rename_i j a r
    intro H locs ls hP hD hS hl
    rcases hk with ⟨rfl, h0, h1, hk⟩ | ⟨rfl, h0, h1, hk⟩
    · refine va_ti Z.1 Z.2.1 Z.2.2.2.2.2.2.1.1.2 hS (i32_in' h0 h1 (by decide)) (v := .int (i32 ((ztbl 90).getD j.toNat 0))) (by rw [i32_nat h0 (by omega)]) hd ?_
      exact hK _ _ _ _ hk H locs ls hP hD hS hl
    · refine va_ti Z.1 Z.2.1 Z.2.2.2.2.2.2.1.2.1.2 hS (i32_in' h0 h1 (by decide)) (v := .int (i32 ((ztbl 91).getD j.toNat 0))) (by rw [i32_nat h0 (by omega)]) hd ?_
      exact hK _ _ _ _ hk H locs ls hP hD hS hl
  · exact hk.elim
def o_bald (n : Nat) : zO := fun _ _ lv st h K => match st with
  | .inl j :: .inr (.inr (some a)) :: r => match SHP a with
    | (3, len, _) => 0 ≤ j ∧ j < (len : Int) ∧ K n lv (sI (h.1 a j.toNat) :: r) h
    | _ => False
  | _ => False
theorem s_bald (hd : decode k.2.1 pc = .ok (.baload, 1)) (hn : pc + 1 = n) : zS k pc (o_bald n) := by
  intro X d Q Z E K hK lv st h hk
  subst hn
  unfold o_bald at hk
  split at hk
  · rename_i j a r
    split at hk
    · rename_i len ks hsh
      obtain ⟨h0, h1, hk⟩ := hk
      have hlen : len < 2147483648 := by have := SHP_len a; rw [hsh] at this; exact this
      intro H locs ls hP hD hS hl
      refine va_zald Z.1 Z.2.1 Z.2.2.2.2.2.1 hP a 2 (cell_3 hsh) rfl (i32_in' h0 h1 hlen) hd ?_
      rw [i32_nat h0 (by omega)]
      exact hK _ _ _ _ hk H locs ls hP hD hS hl
    · exact hk.elim
  · exact hk.elim
def o_lald (n : Nat) : zO := fun _ _ lv st h K => match st with
  | .inl j :: .inr (.inr (some a)) :: r => match SHP a with
    | (2, len, _) => 0 ≤ j ∧ j < (len : Int) ∧ K n lv (sL (h.2 a j.toNat) :: r) h
    | _ => False
  | _ => False
theorem s_lald (hd : decode k.2.1 pc = .ok (.laload, 1)) (hn : pc + 1 = n) : zS k pc (o_lald n) := by
  intro X d Q Z E K hK lv st h hk
  subst hn
  unfold o_lald at hk
  split at hk
  · rename_i j a r
    split at hk
    · rename_i len ks hsh
      obtain ⟨h0, h1, hk⟩ := hk
      have hlen : len < 2147483648 := by have := SHP_len a; rw [hsh] at this; exact this
      intro H locs ls hP hD hS hl
      refine va_lald Z.1 Z.2.1 Z.2.2.2.2.2.1 hP a 1 (cell_2 hsh) rfl (i32_in' h0 h1 hlen) hd ?_
      rw [i32_nat h0 (by omega)]
      exact hK _ _ _ _ hk H locs ls hP hD hS hl
    · exact hk.elim
  · exact hk.elim
def o_aald (n : Nat) : zO := fun _ _ lv st h K => match st with
  | .inl j :: .inr (.inr (some a)) :: r => match SHP a with
    | (4, len, ks) => 0 ≤ j ∧ j < (len : Int) ∧ K n lv (sR (ks.getD j.toNat (2, 0)).2 :: r) h
    | _ => False
  | _ => False
theorem s_aald (hd : decode k.2.1 pc = .ok (.aaload, 1)) (hn : pc + 1 = n) : zS k pc (o_aald n) := by
  intro X d Q Z E K hK lv st h hk
  subst hn
  unfold o_aald at hk
  split at hk
  · rename_i j a r
    split at hk
    · rename_i len ks hsh
      obtain ⟨h0, h1, hk⟩ := hk
      have hlen : len < 2147483648 := by have := SHP_len a; rw [hsh] at this; exact this
      intro H locs ls hP hD hS hl
      refine va_aldq Z.1 Z.2.1 Z.2.2.2.2.2.1 hP a 3 (cell_4 hsh) rfl (i32_in' h0 h1 hlen) hd ?_
      rw [i32_nat h0 (by omega)]
      exact hK _ _ _ _ hk H locs ls hP hD hS hl
    · exact hk.elim
  · exact hk.elim
def o_iast (n : Nat) : zO := fun _ _ lv st h K => match st with
  | .inl x :: .inl j :: .inr (.inr (some a)) :: r => match SHP a with
    | (1, len, _) => 0 ≤ j ∧ j < (len : Int) ∧ K n lv r (setI h a j.toNat x)
    | _ => False
  | _ => False
theorem s_iast (hd : decode k.2.1 pc = .ok (.iastore, 1)) (hn : pc + 1 = n) : zS k pc (o_iast n) := by
  intro X d Q Z E K hK lv st h hk
  subst hn
  unfold o_iast at hk
  split at hk
  · rename_i x j a r
    split at hk
    · rename_i len ks hsh
      obtain ⟨h0, h1, hk⟩ := hk
      have hlen : len < 2147483648 := by have := SHP_len a; rw [hsh] at this; exact this
      intro H locs ls hP hD hS hl
      refine va_iast Z.1 Z.2.1 Z.2.2.2.2.2.1 hP hD hS a 0 (cell_1 hsh) rfl (i32_in' h0 h1 hlen) hd (fun H1 locs1 hP1 hD1 hS1 => ?_)
      have e : (wld (xT X) (xA X) h).set a (xA X a, .inl (xT X 0, len, .inl (upd (fun j => i32 (h.1 a j)) (i32 j).toNatClampNeg (i32 x)))) = wld (xT X) (xA X) (setI h a j.toNat x) := by
        refine wld_new ?_ setI_o
        rw [hsh, i32_nat h0 (by omega)]
        show Sum.inl _ = Sum.inl _
        congr 4
        funext i
        unfold upd setI
        by_cases hi : i = j.toNat <;> simp [hi]
      rw [e] at hP1 hD1
      exact hK _ _ _ _ hk H1 locs1 ls hP1 hD1 hS1 hl
    · exact hk.elim
  · exact hk.elim
def o_bast (n : Nat) : zO := fun _ _ lv st h K => match st with
  | .inl x :: .inl j :: .inr (.inr (some a)) :: r => match SHP a with
    | (3, len, _) => 0 ≤ j ∧ j < (len : Int) ∧ (x = 0 ∨ x = 1) ∧ K n lv r (setI h a j.toNat x)
    | _ => False
  | _ => False
theorem s_bast (hd : decode k.2.1 pc = .ok (.bastore, 1)) (hn : pc + 1 = n) : zS k pc (o_bast n) := by
  intro X d Q Z E K hK lv st h hk
  subst hn
  unfold o_bast at hk
  split at hk
  · rename_i x j a r
    split at hk
    · rename_i len ks hsh
      obtain ⟨h0, h1, h01, hk⟩ := hk
      have hlen : len < 2147483648 := by have := SHP_len a; rw [hsh] at this; exact this
      intro H locs ls hP hD hS hl
      refine va_zast Z.1 Z.2.1 Z.2.2.2.2.2.1 hP hD hS a 2 (cell_3 hsh) rfl (i32_in' h0 h1 hlen) hd (fun H1 locs1 hP1 hD1 hS1 => ?_)
      have hx : vp_nar .boolean (i32 x) = i32 x := by rcases h01 with rfl | rfl <;> rfl
      rw [hx] at hP1 hD1
      have e : (wld (xT X) (xA X) h).set a (xA X a, .inl (xT X 2, len, .inl (upd (fun j => i32 (h.1 a j)) (i32 j).toNatClampNeg (i32 x)))) = wld (xT X) (xA X) (setI h a j.toNat x) := by
        refine wld_new ?_ setI_o
        rw [hsh, i32_nat h0 (by omega)]
        show Sum.inl _ = Sum.inl _
        congr 4
        funext i
        unfold upd setI
        by_cases hi : i = j.toNat <;> simp [hi]
      rw [e] at hP1 hD1
      exact hK _ _ _ _ hk H1 locs1 ls hP1 hD1 hS1 hl
    · exact hk.elim
  · exact hk.elim
def o_last (n : Nat) : zO := fun _ _ lv st h K => match st with
  | .inr (.inl x) :: .inl j :: .inr (.inr (some a)) :: r => match SHP a with
    | (2, len, _) => 0 ≤ j ∧ j < (len : Int) ∧ K n lv r (setL h a j.toNat x)
    | _ => False
  | _ => False
theorem s_last (hd : decode k.2.1 pc = .ok (.lastore, 1)) (hn : pc + 1 = n) : zS k pc (o_last n) := by
  intro X d Q Z E K hK lv st h hk
  subst hn
  unfold o_last at hk
  split at hk
  · rename_i x j a r
    split at hk
    · rename_i len ks hsh
      obtain ⟨h0, h1, hk⟩ := hk
      have hlen : len < 2147483648 := by have := SHP_len a; rw [hsh] at this; exact this
      intro H locs ls hP hD hS hl
      refine va_last Z.1 Z.2.1 Z.2.2.2.2.2.1 hP hD hS a 1 (cell_2 hsh) rfl (i32_in' h0 h1 hlen) hd (fun H1 locs1 hP1 hD1 hS1 => ?_)
      have e : (wld (xT X) (xA X) h).set a (xA X a, .inl (xT X 1, len, .inr (.inl (vp_updL (h.2 a) (i32 j).toNatClampNeg x)))) = wld (xT X) (xA X) (setL h a j.toNat x) := by
        refine wld_new ?_ setL_o
        rw [hsh, i32_nat h0 (by omega)]
        show Sum.inl _ = Sum.inl _
        congr 5
        funext i
        unfold vp_updL setL
        by_cases hi : i = j.toNat <;> simp [hi]
      rw [e] at hP1 hD1
      exact hK _ _ _ _ hk H1 locs1 ls hP1 hD1 hS1 hl
    · exact hk.elim
  · exact hk.elim
def o_alen (n : Nat) : zO := fun _ _ lv st h K => match st with
  | .inr (.inr (some a)) :: r => match SHP a with
    | (1, len, _) => K n lv (sI (len : Int) :: r) h
    | (2, len, _) => K n lv (sI (len : Int) :: r) h
    | _ => False
  | _ => False
theorem i32_ofNat (m : Nat) : Int32.ofNat m = i32 (m : Int) := (Int32.ofInt_eq_ofNat).symm
theorem s_alen (hd : decode k.2.1 pc = .ok (.arraylength, 1)) (hn : pc + 1 = n) : zS k pc (o_alen n) := by
  intro X d Q Z E K hK lv st h hk
  subst hn
  unfold o_alen at hk
  split at hk
  · rename_i a r
    split at hk
    · rename_i len ks hsh
      intro H locs ls hP hD hS hl
      exact va_alen Z.1 Z.2.1 Z.2.2.2.2.2.1 hP a 0 (cell_1 hsh) rfl (i32_ofNat len) hd (hK _ _ _ _ hk H locs ls hP hD hS hl)
    · rename_i len ks hsh
      intro H locs ls hP hD hS hl
      exact va_alen Z.1 Z.2.1 Z.2.2.2.2.2.1 hP a 1 (cell_2 hsh) rfl (i32_ofNat len) hd (hK _ _ _ _ hk H locs ls hP hD hS hl)
    · exact hk.elim
  · exact hk.elim
end OPSH
end
section
section OPSC
variable {k : zM} {pc n : Nat}
def popA : Nat → List zV → List zV → Option (List zV × List zV)
  | 0, st, acc => some (acc, st)
  | m + 1, v :: st, acc => popA m st (v :: acc)
  | _ + 1, [], _ => none
theorem popA_spec : ∀ (m : Nat) (st acc As rest : List zV), popA m st acc = some (As, rest) → ∃ l, As = l ++ acc ∧ st = l.reverse ++ rest ∧ l.length = m
  | 0, st, acc, As, rest, h => by cases h; exact ⟨[], rfl, rfl, rfl⟩
  | m + 1, v :: st, acc, As, rest, h => by
    obtain ⟨l, h1, h2, h3⟩ := popA_spec m st (v :: acc) As rest h
    refine ⟨l ++ [v], by simp [h1], by simp [h2], by simp [h3]⟩
  | m + 1, [], acc, As, rest, h => by cases h
def catS : List zV → Nat
  | [] => 0
  | .inr (.inl _) :: r => catS r + 2
  | _ :: r => catS r + 1
theorem catS_eq (A : Nat → Nat) : ∀ st : List zV, ((st.map (cvV A)).map fun v => v.category).sum = catS st
  | [] => rfl
  | .inl x :: r => by
    show 1 + ((r.map (cvV A)).map fun v => v.category).sum = catS r + 1
    rw [catS_eq A r]; omega
  | .inr (.inl y) :: r => by
    show 2 + ((r.map (cvV A)).map fun v => v.category).sum = catS r + 2
    rw [catS_eq A r]; omega
  | .inr (.inr none) :: r => by
    show 1 + ((r.map (cvV A)).map fun v => v.category).sum = catS r + 1
    rw [catS_eq A r]; omega
  | .inr (.inr (some a)) :: r => by
    show 1 + ((r.map (cvV A)).map fun v => v.category).sum = catS r + 1
    rw [catS_eq A r]; omega
/-- what follows a call: the callee's contract, and going on from all that it allows -/
def zcall (d : Nat) (k' : zM) (As : List zV) (h : zH) (kk : Option zV → zH → Prop) : Prop := ∃ (d' : Nat) (P : zQ), d' + 1 ≤ d ∧ zC d' k' As h P ∧ ∀ o h', P o h' → kk o h'
def o_callv (m ci : Nat) (k' : zM) (n : Nat) : zO := fun d _ lv st h K => match popA (m + 1) st [] with
  | some (.inr (.inr (some b)) :: As, rest) => match Nat.ble (catS rest) 8, SHP b with
    | true, (0, c, _) => match Nat.beq c ci with
      | true => zcall d k' (sR b :: As) h (fun o h' => K n lv (o.toList ++ rest) h')
      | false => False
    | _, _ => False
  | _ => False
def o_calls (m : Nat) (k' : zM) (n : Nat) : zO := fun d _ lv st h K => match popA m st [] with
  | some (As, rest) => match Nat.ble (catS rest) 8 with
    | true => zcall d k' As h (fun o h' => K n lv (o.toList ++ rest) h')
    | _ => False
  | _ => False
theorem frA_F {X : zX} {h : zH} (hD : va_D (xF X) (wld (xT X) (xA X) h)) : ∀ q, frA (xA X) q → xF X q := by
  rintro q ⟨c, hc, rfl⟩
  exact wld_F hD hc
theorem zST_kept {A : Nat → Nat} {F G : Nat → Prop} {u U : State} {H1 : Heap} (hW : u.WarmedH U.vm) (hS : ∀ q : Nat, q < u.heap.size → ¬ F q → H1[q]? = u.heap[q]?) (hFG : ∀ q, G q → F q) (h : zST A F u u.heap) : zST A G U H1 :=
  ⟨⟨((h.1.1.kept hS).moved hW.alike).narrow hFG, ((h.1.2.kept hS).moved hW.alike).narrow hFG⟩, ⟨((h.2.1.1.kept hS).moved hW.alike).narrow hFG, ((h.2.1.2.kept hS).moved hW.alike).narrow hFG⟩, va_Nw.warmM hW h.2.2⟩
theorem zpre_call {X : zX} {d : Nat} {h : zH} {H : Heap} {locs : List Loc} {k : zM} (Z : zCx X d k) (hP : va_P (xD X) vwCl (wld (xT X) (xA X) h) H) (hD : va_D (xF X) (wld (xT X) (xA X) h)) (hS : va_S (xF X) (xs X).heap H locs) :
    ∀ U : State, U.heap = H → (xs X).WarmedH U.vm → zPre (xD X) (xT X) (xA X) h U := fun U hU hW =>
  ⟨by rw [hU]; exact hP, va_K.moved hW.alike Z.2.2.2.2.2.1, wld_D hD (fun c hc => ⟨c, hc, rfl⟩), by rw [hU]; exact zST_kept hW (fun q h1 h2 => hS.2.1 q h1 h2) (frA_F hD) Z.2.2.2.2.2.2.1⟩
theorem zblind {D : va_G} {T : Nat → ClassId} {A : Nat → Nat} {h : zH} {av : List Value} : FrameBlind (va_Pc av (zPre D T A h)) := fun a U g mk q => by
  obtain ⟨q0, qP, qK, qD, qS⟩ := q
  exact ⟨q0, qP, va_K.moved (u := U) (U := U.calling g mk a) (Vm.Alike.refl U.vm) qK, qD, ⟨⟨qS.1.1.moved (Vm.Alike.refl U.vm), qS.1.2.moved (Vm.Alike.refl U.vm)⟩, ⟨qS.2.1.1.moved (Vm.Alike.refl U.vm), qS.2.1.2.moved (Vm.Alike.refl U.vm)⟩, va_Nw.same rfl (u := U) (U := U.calling g mk a) rfl qS.2.2⟩⟩
set_option maxHeartbeats 4000000 in
/-- going on behind a run of a callee -/
theorem zgo {X : zX} {d : Nat} {h : zH} {H : Heap} {locs : List Loc} {ls : Array Slot} {lv : List (Option zV)} {rest : List zV} {ret : Option FieldType} {P : zQ} {a : Array Value} {st0 : List Value} {pc : Nat} (Z : zCx X d k) (hD : va_D (xF X) (wld (xT X) (xA X) h)) (hS : va_S (xF X) (xs X).heap H locs) (hl : lvx (xc X).maxLocals (xA X) ls lv)
    (hr : va_Run (xp X) (xl X) (xe X) (xR X) (xs X) (xm X) (xa X) (xb X) (xh X) (xc X) H locs (xk X).1 (xk X).2 0 0 (F0 (xm X) pc ls st0) (rest.map (cvV (xA X))) (zQQ (xD X) (xT X) (xA X) ret P a) (frA (xA X)))
    (hk : ∀ o h', P o h' → zJ X (pc + 3) lv (o.toList ++ rest) h') :
    W (xp X) (xl X) (xe X) (xR X) (xs X) (xm X) (xa X) (xb X) (xh X) (xc X) H locs (xk X).1 (xk X).2 (xQ X) (F0 (xm X) pc ls st0) := by
  have fin : ∀ (h' : zH) (H1 : Heap) (locs1 : List Loc) (t : State) (o : Option zV), t.heap = H1 → va_P (xD X) vwCl (wld (xT X) (xA X) h') t.heap → va_S (xF X) (xs X).heap H1 locs1 → P o h' → W (xp X) (xl X) (xe X) (xR X) (xs X) (xm X) (xa X) (xb X) (xh X) (xc X) H1 locs1 (xk X).1 (xk X).2 (xQ X) (F0 (xm X) (pc + 3) ls ((o.toList ++ rest).map (cvV (xA X)))) := by
    intro h' H1 locs1 t o ht hB hS1 hp
    exact hk o h' hp H1 locs1 ls (by rw [← ht]; exact hB) (wld_D hD (fun c hc => wld_F hD hc)) hS1 hl
  have fini : ∀ (hr : va_Run (xp X) (xl X) (xe X) (xR X) (xs X) (xm X) (xa X) (xb X) (xh X) (xc X) H locs (xk X).1 (xk X).2 0 0 (F0 (xm X) pc ls st0) (rest.map (cvV (xA X))) (va_Qi (fun r (u : zH × Int) => r = i32 u.2 ∧ P (some (sI u.2)) u.1) (fun u t => va_P (xD X) vwCl (wld (xT X) (xA X) u.1) t.heap) (frA (xA X)) a) (frA (xA X))), W (xp X) (xl X) (xe X) (xR X) (xs X) (xm X) (xa X) (xb X) (xh X) (xc X) H locs (xk X).1 (xk X).2 (xQ X) (F0 (xm X) pc ls st0) := by
    intro hr
    refine va_calli (a := a) hr hS (fun q _ h9 => frA_F hD q h9) (fun q h9 => frA_F hD q h9) (fun r u t H1 locs1 ht hvm hw hB hz1 hk1 hS1 => ?_)
    obtain ⟨rfl, hw⟩ := hw
    exact fin u.1 H1 locs1 t _ ht hB hS1 hw
  rcases ret with _ | ty
  · refine va_callv (a := a) hr hS (fun q _ h9 => frA_F hD q h9) (fun q h9 => frA_F hD q h9) (fun u t H1 locs1 ht hvm hw hB hz1 hk1 hS1 => ?_)
    exact fin u H1 locs1 t none ht hB hS1 hw
  · cases ty with
    | long =>
      refine va_calll (a := a) hr hS (fun q _ h9 => frA_F hD q h9) (fun q h9 => frA_F hD q h9) (fun r u t H1 locs1 ht hvm hw hB hz1 hk1 hS1 => ?_)
      exact fin u H1 locs1 t _ ht hB hS1 hw
    | array ty =>
      refine va_callr (a := a) hr hS (fun q _ h9 => frA_F hD q h9) (fun q h9 => frA_F hD q h9) (fun u ra t H1 locs1 ht hvm hw hB hz1 hk1 hS1 => ?_)
      obtain ⟨rfl, hB⟩ := hB
      exact fin u.1 H1 locs1 t _ ht hB hS1 hw
    | _ => exact fini hr
theorem zgood {y : MethodName} {b : ByteArray} {mL : Nat} {ret : Option FieldType} (h : Cond.code y b mL ret ∈ BIG) : GoodIn BIG (Cond.code y b mL ret :: BIG) := fun w hw => by
  rcases List.mem_cons.mp hw with rfl | hw
  · exact ⟨h, BIG_good h⟩
  · exact ⟨hw, BIG_good hw⟩
theorem zgoodV {ws : List Cond} {own C : String} {idx : Nat} {y : MethodName} (h : GoodIn BIG ws) (h1 : Cond.methodLink own idx y ∈ BIG) (h2 : Cond.instanceMethod y ∈ BIG) (h3 : Cond.selects C y y ∈ BIG) (h4 : Cond.initialized C ∈ BIG) : GoodIn BIG (wsV own idx C y ws) := fun w hw => by
  unfold wsV at hw
  rcases List.mem_append.mp hw with hw | hw
  · have : w ∈ BIG := by
      simp only [List.mem_cons, List.not_mem_nil, or_false] at hw
      rcases hw with rfl | rfl | rfl | rfl <;> assumption
    exact ⟨this, BIG_good this⟩
  · exact h w hw
theorem zgoodS {ws : List Cond} {own : String} {idx : Nat} {y : MethodName} (h : GoodIn BIG ws) (h1 : Cond.methodLink own idx y ∈ BIG) (h2 : Cond.static y ∈ BIG) (h4 : Cond.initialized y.cls ∈ BIG) : GoodIn BIG (va_wsS own idx y ws) := fun w hw => by
  unfold va_wsS at hw
  rcases List.mem_append.mp hw with hw | hw
  · have : w ∈ BIG := by
      simp only [List.mem_cons, List.not_mem_nil, or_false] at hw
      rcases hw with rfl | rfl | rfl <;> assumption
    exact ⟨this, BIG_good this⟩
  · exact h w hw
set_option maxHeartbeats 4000000 in
theorem s_callv {m ci idx N : Nat} {T : u_T} {k' : zM} (hc : vwCl[ci]? = some (k'.1.cls, T, N)) (h0 : Cond.code k'.1 k'.2.1 k'.2.2.1 k'.2.2.2 ∈ BIG) (h1 : Cond.methodLink k.1.cls idx k'.1 ∈ BIG) (h2 : Cond.instanceMethod k'.1 ∈ BIG) (h3 : Cond.selects k'.1.cls k'.1 k'.1 ∈ BIG) (h4 : Cond.initialized k'.1.cls ∈ BIG)
    (hdesc : k'.1.cls = k'.1.cls ∧ k'.1.cls ≠ "java/lang/invoke/MethodHandle" ∧ k'.1.cls ≠ "java/lang/invoke/VarHandle" ∧ (parseMethodDescriptor k'.1.desc).map (fun d => d.parameters.length) = some m) (hmL : k'.2.2.1 ≤ 40) (hd : decode k.2.1 pc = .ok (.invokevirtual idx, 3)) (hn : pc + 3 = n) : zS k pc (o_callv m ci k' n) := by
  intro X d Q Z E K hK lv st h hk
  subst hn
  unfold o_callv at hk
  split at hk
  · rename_i b As rest hpop
    split at hk
    · rename_i c ks hcat hsh
      split at hk
      · rename_i hbeq
        have hci : c = ci := Nat.eq_of_beq_eq_true hbeq
        obtain ⟨d', P, hd', hC, hk⟩ := hk
        obtain ⟨l, e1, e2, e3⟩ := popA_spec _ _ _ _ _ hpop
        rw [List.append_nil] at e1
        subst e1
        intro H locs ls hP hD hS hl
        have hst : st.map (cvV (xA X)) = (As.map (cvV (xA X))).reverse ++ Value.ref (xA X b) :: rest.map (cvV (xA X)) := by
          rw [e2]
          simp [cvV]
        have hrec : ∃ cellB : Cell, H[xA X b]? = some cellB ∧ cellB.vm.isStatics = false ∧ (xs X).vm.findClass k'.1.cls = some cellB.cls := by
          subst hci
          exact va_recv (ci := c) (q := (k'.1.cls, T, N)) Z.2.2.2.2.2.1 hP hc (cell_0 hsh)
        have hr := va_runV (As := As.map (cvV (xA X))) (rest := rest.map (cvV (xA X))) (b := xA X b) (g := F0 (xm X) pc ls (st.map (cvV (xA X)))) (locs := locs) (cells := (xk X).1) (slots := (xk X).2) (e := xe X) (below := xb X) (meth := xh X) ⟨Z.1, Z.2.1, Z.2.2.1, Z.2.2.2.1, Z.2.2.2.2.1⟩ (hC (xl X) (xD X) (xT X) (xA X))
          (cwV m Z.2.2.2.2.1 (zgoodV (zgood h0) h1 h2 h3 h4) rfl rfl rfl hdesc ⟨Nat.le_trans hd' Z.2.2.2.2.2.2.2.1, by
            have h9 := Z.2.2.2.2.2.2.2.2.1
            show 8 + (k'.2.2.1 + 11) + 64 * d' ≤ (xR X).locals
            omega⟩) ⟨zblind, hrec, fun U hU hW => ⟨rfl, zpre_call Z hP hD hS U hU hW⟩⟩ rfl (by rw [List.length_map]; have := e3; simp at this; omega) (hl.1.trans Z.2.2.1) hst (lv_room (pc := pc) (ls := ls) (m := xm X) (rest := st.map (cvV (xA X))) (by rw [catS_eq]; exact Nat.le_of_ble_eq_true hcat)) hd ⟨Z.2.2.2.2.2.2.2.2.2.1, Z.2.2.2.2.2.2.2.2.2.2.1⟩
        exact zgo Z hD hS hl hr (fun o h' hp => hK _ _ _ _ (hk o h' hp))
      · exact hk.elim
    · exact hk.elim
  · exact hk.elim
set_option maxHeartbeats 4000000 in
theorem s_calls {m idx : Nat} {k' : zM} (h0 : Cond.code k'.1 k'.2.1 k'.2.2.1 k'.2.2.2 ∈ BIG) (h1 : Cond.methodLink k.1.cls idx k'.1 ∈ BIG) (h2 : Cond.static k'.1 ∈ BIG) (h4 : Cond.initialized k'.1.cls ∈ BIG)
    (hdesc : k'.1.cls ≠ "java/lang/invoke/MethodHandle" ∧ k'.1.cls ≠ "java/lang/invoke/VarHandle" ∧ (parseMethodDescriptor k'.1.desc).map (fun d => d.parameters.length) = some m) (hmL : k'.2.2.1 ≤ 40) (hd : decode k.2.1 pc = .ok (.invokestatic idx, 3)) (hn : pc + 3 = n) : zS k pc (o_calls m k' n) := by
  intro X d Q Z E K hK lv st h hk
  subst hn
  unfold o_calls at hk
  split at hk
  · rename_i As rest hpop
    split at hk
    · rename_i hcat
      obtain ⟨d', P, hd', hC, hk⟩ := hk
      obtain ⟨l, e1, e2, e3⟩ := popA_spec _ _ _ _ _ hpop
      rw [List.append_nil] at e1
      subst e1
      intro H locs ls hP hD hS hl
      have hst : st.map (cvV (xA X)) = (As.map (cvV (xA X))).reverse ++ rest.map (cvV (xA X)) := by
        rw [e2]
        simp
      have hr := va_runS (As := As.map (cvV (xA X))) (rest := rest.map (cvV (xA X))) (g := F0 (xm X) pc ls (st.map (cvV (xA X)))) (locs := locs) (cells := (xk X).1) (slots := (xk X).2) (e := xe X) (below := xb X) (meth := xh X) ⟨Z.1, Z.2.1, Z.2.2.1, Z.2.2.2.1, Z.2.2.2.2.1⟩ (hC (xl X) (xD X) (xT X) (xA X))
        (va_cwS m Z.2.2.2.2.1 (zgoodS (zgood h0) h1 h2 h4) rfl rfl rfl hdesc ⟨Nat.le_trans hd' Z.2.2.2.2.2.2.2.1, by
          have h9 := Z.2.2.2.2.2.2.2.2.1
          show 8 + (k'.2.2.1 + 11) + 64 * d' ≤ (xR X).locals
          omega⟩) ⟨zblind, fun U hU hW => ⟨rfl, zpre_call Z hP hD hS U hU hW⟩⟩ rfl (by rw [List.length_map]; exact e3) (hl.1.trans Z.2.2.1) hst (lv_room (pc := pc) (ls := ls) (m := xm X) (rest := st.map (cvV (xA X))) (by rw [catS_eq]; exact Nat.le_of_ble_eq_true hcat)) hd ⟨Z.2.2.2.2.2.2.2.2.2.1, Z.2.2.2.2.2.2.2.2.2.2.1⟩
      exact zgo Z hD hS hl hr (fun o h' hp => hK _ _ _ _ (hk o h' hp))
    · exact hk.elim
  · exact hk.elim
set_option maxHeartbeats 4000000 in
/-- the one call of a private static method of a nest mate -/
theorem s_callsN {m idx : Nat} {k' : zM} (hk' : k'.1 = yX8_within) (hown : k.1.cls = RX0) (hidx : idx = 28) (h0 : Cond.code k'.1 k'.2.1 k'.2.2.1 k'.2.2.2 ∈ BIG) (h2 : Cond.static k'.1 ∈ BIG) (h4 : Cond.initialized k'.1.cls ∈ BIG)
    (hdesc : k'.1.cls ≠ "java/lang/invoke/MethodHandle" ∧ k'.1.cls ≠ "java/lang/invoke/VarHandle" ∧ (parseMethodDescriptor k'.1.desc).map (fun d => d.parameters.length) = some m) (hmL : k'.2.2.1 ≤ 40) (hd : decode k.2.1 pc = .ok (.invokestatic idx, 3)) (hn : pc + 3 = n) : zS k pc (o_calls m k' n) := by
  intro X d Q Z E K hK lv st h hk
  subst hn
  unfold o_calls at hk
  split at hk
  · rename_i As rest hpop
    split at hk
    · rename_i hcat
      obtain ⟨d', P, hd', hC, hk⟩ := hk
      obtain ⟨l, e1, e2, e3⟩ := popA_spec _ _ _ _ _ hpop
      rw [List.append_nil] at e1
      subst e1
      intro H locs ls hP hD hS hl
      have hst : st.map (cvV (xA X)) = (As.map (cvV (xA X))).reverse ++ rest.map (cvV (xA X)) := by
        rw [e2]
        simp
      have hr := va_runSN (host := RX8) (As := As.map (cvV (xA X))) (rest := rest.map (cvV (xA X))) (g := F0 (xm X) pc ls (st.map (cvV (xA X)))) (locs := locs) (cells := (xk X).1) (slots := (xk X).2) (e := xe X) (below := xb X) (meth := xh X) ⟨Z.1, Z.2.1, Z.2.2.1, Z.2.2.2.1, Z.2.2.2.2.1⟩ (hC (xl X) (xD X) (xT X) (xA X))
        ⟨va_cnB m Z.2.2.2.2.1 (zgood h0) rfl rfl rfl (by rw [hk', hown, hidx]; exact Z.2.2.2.2.2.2.1.2.2) (Z.2.2.2.2.1 _ h4) hdesc ⟨Nat.le_trans hd' Z.2.2.2.2.2.2.2.1, by
          have h9 := Z.2.2.2.2.2.2.2.2.1
          show 8 + (k'.2.2.1 + 11) + 64 * d' ≤ (xR X).locals
          omega⟩, Z.2.2.2.2.1 _ h2, trivial⟩ ⟨zblind, fun U hU hW => ⟨rfl, zpre_call Z hP hD hS U hU hW⟩⟩ rfl (by rw [List.length_map]; exact e3) (hl.1.trans Z.2.2.1) hst (lv_room (pc := pc) (ls := ls) (m := xm X) (rest := st.map (cvV (xA X))) (by rw [catS_eq]; exact Nat.le_of_ble_eq_true hcat)) hd ⟨Z.2.2.2.2.2.2.2.2.2.1, Z.2.2.2.2.2.2.2.2.2.2.1⟩
      exact zgo Z hD hS hl hr (fun o h' hp => hK _ _ _ _ (hk o h' hp))
    · exact hk.elim
  · exact hk.elim
/-- Math.max, Math.min -/
def o_mmax (n : Nat) : zO := fun d _ lv st h K => match st with
  | .inl y :: .inl x :: r => match Nat.ble (catS r) 8 with
    | true => 1 ≤ d ∧ inR x ∧ inR y ∧ K n lv (sI (max x y) :: r) h
    | false => False
  | _ => False
theorem s_mmax {idx : Nat} (h1 : Cond.methodLink k.1.cls idx Lib.Math.max.name ∈ BIG) (h2 : Cond.static Lib.Math.max.name ∈ BIG) (h3 : Cond.initialized "java/lang/Math" ∈ BIG) (h4 : Cond.code Lib.Math.max.name Lib.Math.max.code 2 (some .int) ∈ BIG) (hd : decode k.2.1 pc = .ok (.invokestatic idx, 3)) (hn : pc + 3 = n) : zS k pc (o_mmax n) := by
  intro X d Q Z E K hK lv st h hk
  subst hn
  unfold o_mmax at hk
  split at hk
  · rename_i y x r
    split at hk
    · rename_i hcat
      obtain ⟨hd1, hx, hy, hk⟩ := hk
      intro H locs ls hP hD hS hl
      refine va_mmax (cells := (xk X).1) (slots := (xk X).2) Z.1 Z.2.1 hl.1.symm Z.2.2.2.1 (Z.2.2.2.2.1 _ h1) (Z.2.2.2.2.1 _ h2) (Z.2.2.2.2.1 _ h3) (Z.2.2.2.2.1 _ h4) (Nat.le_trans hd1 Z.2.2.2.2.2.2.2.1) (by
        have h9 := Z.2.2.2.2.2.2.2.2.1
        have hc := Nat.le_of_ble_eq_true hcat
        rw [catS_eq]
        omega) Z.2.2.2.2.2.2.2.2.2.1 Z.2.2.2.2.2.2.2.2.2.2.1 hd ?_
      have e : (if i32 x < i32 y then i32 y else i32 x) = i32 (max x y) := by
        by_cases hlt : x < y
        · rw [if_pos ((i32_lt hx hy).mpr hlt), Int.max_eq_right (by omega)]
        · rw [if_neg (fun q => hlt ((i32_lt hx hy).mp q)), Int.max_eq_left (by omega)]
      rw [e]
      exact hK _ _ _ _ hk H locs ls hP hD hS hl
    · exact hk.elim
  · exact hk.elim
def o_mmin (n : Nat) : zO := fun d _ lv st h K => match st with
  | .inl y :: .inl x :: r => match Nat.ble (catS r) 8 with
    | true => 1 ≤ d ∧ inR x ∧ inR y ∧ K n lv (sI (min x y) :: r) h
    | false => False
  | _ => False
theorem s_mmin {idx : Nat} (h1 : Cond.methodLink k.1.cls idx Lib.Math.min.name ∈ BIG) (h2 : Cond.static Lib.Math.min.name ∈ BIG) (h3 : Cond.initialized "java/lang/Math" ∈ BIG) (h4 : Cond.code Lib.Math.min.name Lib.Math.min.code 2 (some .int) ∈ BIG) (hd : decode k.2.1 pc = .ok (.invokestatic idx, 3)) (hn : pc + 3 = n) : zS k pc (o_mmin n) := by
  intro X d Q Z E K hK lv st h hk
  subst hn
  unfold o_mmin at hk
  split at hk
  · rename_i y x r
    split at hk
    · rename_i hcat
      obtain ⟨hd1, hx, hy, hk⟩ := hk
      intro H locs ls hP hD hS hl
      refine va_mmin (cells := (xk X).1) (slots := (xk X).2) Z.1 Z.2.1 hl.1.symm Z.2.2.2.1 (Z.2.2.2.2.1 _ h1) (Z.2.2.2.2.1 _ h2) (Z.2.2.2.2.1 _ h3) (Z.2.2.2.2.1 _ h4) (Nat.le_trans hd1 Z.2.2.2.2.2.2.2.1) (by
        have h9 := Z.2.2.2.2.2.2.2.2.1
        have hc := Nat.le_of_ble_eq_true hcat
        rw [catS_eq]
        omega) Z.2.2.2.2.2.2.2.2.2.1 Z.2.2.2.2.2.2.2.2.2.2.1 hd ?_
      have e : (if i32 y < i32 x then i32 y else i32 x) = i32 (min x y) := by
        by_cases hlt : y < x
        · rw [if_pos ((i32_lt hy hx).mpr hlt), Int.min_eq_right (by omega)]
        · rw [if_neg (fun q => hlt ((i32_lt hy hx).mp q)), Int.min_eq_left (by omega)]
      rw [e]
      exact hK _ _ _ _ hk H locs ls hP hD hS hl
    · exact hk.elim
  · exact hk.elim
def o_acopy (n : Nat) : zO := fun d _ lv st h K => match st with
  | .inl m :: .inl dp :: .inr (.inr (some b)) :: .inl sp :: .inr (.inr (some a)) :: r => match Nat.ble (catS r) 8, SHP a, SHP b with
    | true, (1, la, _), (1, lb, _) => 1 ≤ d ∧ 0 ≤ sp ∧ 0 ≤ dp ∧ 0 ≤ m ∧ sp + m ≤ (la : Int) ∧ dp + m ≤ (lb : Int) ∧ K n lv r (cpI h a sp.toNat b dp.toNat m.toNat)
    | true, (2, la, _), (2, lb, _) => 1 ≤ d ∧ 0 ≤ sp ∧ 0 ≤ dp ∧ 0 ≤ m ∧ sp + m ≤ (la : Int) ∧ dp + m ≤ (lb : Int) ∧ K n lv r (cpL h a sp.toNat b dp.toNat m.toNat)
    | _, _, _ => False
  | _ => False
theorem i32_nn {x : Int} (h0 : 0 ≤ x) (h1 : x < 2147483648) : ¬ i32 x < 0 := fun q => by
  have := (i32_lt (x := x) (y := 0) ⟨by omega, by omega⟩ inR_0).mp q
  omega
set_option maxHeartbeats 4000000 in
theorem s_acopy {idx : Nat} (h1 : Cond.methodLink k.1.cls idx arraycopyName ∈ BIG) (h2 : Cond.native arraycopyName ∈ BIG) (h3 : Cond.static arraycopyName ∈ BIG) (h4 : Cond.initialized "java/lang/System" ∈ BIG) (hd : decode k.2.1 pc = .ok (.invokestatic idx, 3)) (hn : pc + 3 = n) : zS k pc (o_acopy n) := by
  intro X d Q Z E K hK lv st h hk
  subst hn
  unfold o_acopy at hk
  split at hk
  · rename_i m dp b sp a r
    split at hk
    · rename_i la ka lb kb hcat ha hb
      obtain ⟨hd1, g1, g2, g3, g4, g5, hk⟩ := hk
      have hla : la < 2147483648 := by have := SHP_len a; rw [ha] at this; exact this
      have hlb : lb < 2147483648 := by have := SHP_len b; rw [hb] at this; exact this
      intro H locs ls hP hD hS hl
      refine va_copyi Z.1 Z.2.1 hl.1.symm Z.2.2.2.1 (Z.2.2.2.2.1 _ h1) (Z.2.2.2.2.1 _ h2) (Z.2.2.2.2.1 _ h3) (Z.2.2.2.2.1 _ h4) Z.2.2.2.2.2.1 hP hD hS a b 0 0 (cell_1 ha) (cell_1 hb) (ty := .int) rfl rfl rfl (i32_nn g1 (by omega)) (i32_nn g2 (by omega)) (i32_nn g3 (by omega)) (by rw [i32_nat g1 (by omega), i32_nat g3 (by omega)]; omega) (by rw [i32_nat g2 (by omega), i32_nat g3 (by omega)]; omega) (fun i _ => rfl)
        (Nat.le_trans hd1 Z.2.2.2.2.2.2.2.1) (by
        have h9 := Z.2.2.2.2.2.2.2.2.1
        have hc := Nat.le_of_ble_eq_true hcat
        have hw : nativeFrameWords "java/lang/System" "arraycopy" 5 + 11 ≤ 50 := by decide
        rw [catS_eq]
        omega) hd (fun H1 locs1 hP1 hD1 hS1 => ?_)
      have e : (wld (xT X) (xA X) h).set b (xA X b, .inl (xT X 0, lb, .inl (va_cpy (fun j => i32 (h.1 a j)) (fun j => i32 (h.1 b j)) (i32 sp).toNatClampNeg (i32 dp).toNatClampNeg (i32 m).toNatClampNeg))) = wld (xT X) (xA X) (cpI h a sp.toNat b dp.toNat m.toNat) := by
        refine wld_new ?_ cpI_o
        rw [hb, i32_nat g1 (by omega), i32_nat g2 (by omega), i32_nat g3 (by omega)]
        show Sum.inl _ = Sum.inl _
        congr 4
        funext i
        unfold va_cpy cpI
        simp only [if_true]
        unfold va_cpy
        split <;> rfl
      rw [e] at hP1 hD1
      exact hK _ _ _ _ hk H1 locs1 ls hP1 hD1 hS1 hl
    · rename_i la ka lb kb hcat ha hb
      obtain ⟨hd1, g1, g2, g3, g4, g5, hk⟩ := hk
      have hla : la < 2147483648 := by have := SHP_len a; rw [ha] at this; exact this
      have hlb : lb < 2147483648 := by have := SHP_len b; rw [hb] at this; exact this
      intro H locs ls hP hD hS hl
      refine va_copyl Z.1 Z.2.1 hl.1.symm Z.2.2.2.1 (Z.2.2.2.2.1 _ h1) (Z.2.2.2.2.1 _ h2) (Z.2.2.2.2.1 _ h3) (Z.2.2.2.2.1 _ h4) Z.2.2.2.2.2.1 hP hD hS a b 1 1 (cell_2 ha) (cell_2 hb) (ty := .long) rfl rfl rfl (i32_nn g1 (by omega)) (i32_nn g2 (by omega)) (i32_nn g3 (by omega)) (by rw [i32_nat g1 (by omega), i32_nat g3 (by omega)]; omega) (by rw [i32_nat g2 (by omega), i32_nat g3 (by omega)]; omega) (fun i _ => rfl)
        (Nat.le_trans hd1 Z.2.2.2.2.2.2.2.1) (by
        have h9 := Z.2.2.2.2.2.2.2.2.1
        have hc := Nat.le_of_ble_eq_true hcat
        have hw : nativeFrameWords "java/lang/System" "arraycopy" 5 + 11 ≤ 50 := by decide
        rw [catS_eq]
        omega) hd (fun H1 locs1 hP1 hD1 hS1 => ?_)
      have e : (wld (xT X) (xA X) h).set b (xA X b, .inl (xT X 1, lb, .inr (.inl (va_cpy (h.2 a) (h.2 b) (i32 sp).toNatClampNeg (i32 dp).toNatClampNeg (i32 m).toNatClampNeg)))) = wld (xT X) (xA X) (cpL h a sp.toNat b dp.toNat m.toNat) := by
        refine wld_new ?_ cpL_o
        rw [hb, i32_nat g1 (by omega), i32_nat g2 (by omega), i32_nat g3 (by omega)]
        show Sum.inl _ = Sum.inl _
        congr 5
        funext i
        unfold cpL
        simp
      rw [e] at hP1 hD1
      exact hK _ _ _ _ hk H1 locs1 ls hP1 hD1 hS1 hl
    · exact hk.elim
  · exact hk.elim
def swL (x : Int) : Int → List Nat → (Nat → Prop) → Prop
  | _, [], _ => True
  | lo, t :: ts, K => (x = lo → K t) ∧ swL x (lo + 1) ts K
theorem swL_at {x : Int} {K : Nat → Prop} : ∀ (ts : List Nat) (lo : Int) (i : Nat) (t : Nat), swL x lo ts K → ts[i]? = some t → x = lo + i → K t
  | [], lo, i, t, _, h, _ => by simp at h
  | t' :: ts, lo, 0, t, hs, h, hx => by
    have : t' = t := by simpa using h
    subst this
    exact hs.1 (by simpa using hx)
  | t' :: ts, lo, i + 1, t, hs, h, hx => swL_at ts (lo + 1) i t hs.2 (by simpa using h) (by rw [hx]; push_cast; omega)
def o_tsw (lo hi : Int) (ts : List Nat) (df : Nat) : zO := fun _ _ lv st h K => match st with
  | .inl x :: r => inR x ∧ (x < lo ∨ hi < x → K df lv r h) ∧ swL x lo ts (fun t => K t lv r h)
  | _ => False
theorem s_tsw {lo hi dfo : Int} {offs : Array Int} {ts : List Nat} {df len : Nat} (hd : decode k.2.1 pc = .ok (.tableswitch dfo lo hi offs, len)) (hdf : (pc : Int) + dfo = (df : Int)) (hts : offs.toList.map (fun o => (pc : Int) + o) = ts.map (fun t : Nat => (t : Int))) (hlen : ((offs.size : Nat) : Int) = hi - lo + 1) : zS k pc (o_tsw lo hi ts df) := by
  intro X d Q Z E K hK lv st h hk
  unfold o_tsw at hk
  split at hk
  · rename_i x r
    obtain ⟨hx, k1, k2⟩ := hk
    intro H locs ls hP hD hS hl
    by_cases hout : x < lo ∨ hi < x
    · exact lv_tableOut Z.1 Z.2.1 hd (by rw [i32_toInt hx]; exact hout) hdf (hK _ _ _ _ (k1 hout) H locs ls hP hD hS hl)
    · have hi2 : (x - lo).toNat < offs.size := by omega
      have ho : offs[(x - lo).toNat]? = some offs[(x - lo).toNat] := Array.getElem?_eq_getElem hi2
      have hlts : ts.length = offs.size := by
        have := congrArg List.length hts
        simpa using this.symm
      have ht : ts[(x - lo).toNat]? = some (ts[(x - lo).toNat]'(by omega)) := List.getElem?_eq_getElem _
      have he : (pc : Int) + offs[(x - lo).toNat] = ((ts[(x - lo).toNat]'(by omega) : Nat) : Int) := by
        have h9 := congrArg (fun l => l[(x - lo).toNat]?) hts
        simp only [List.getElem?_map, ht, Array.getElem?_toList, ho, Option.map_some, Option.some.injEq] at h9
        exact h9
      exact lv_tableIn Z.1 Z.2.1 hd (by rw [i32_toInt hx]; omega) (by rw [i32_toInt hx]; omega) (by rw [i32_toInt hx]; exact ho) he (hK _ _ _ _ (swL_at ts lo _ _ k2 ht (by omega)) H locs ls hP hD hS hl)
  · exact hk.elim
def lsL (x : Int) : List (Int × Nat) → Nat → (Nat → Prop) → Prop
  | [], df, K => K df
  | (a, t) :: ps, df, K => (x = a → K t) ∧ (¬ x = a → lsL x ps df K)
theorem lsL_at {x : Int} {K : Nat → Prop} {pc : Nat} {dfo : Int} {df : Nat} (hdf : (pc : Int) + dfo = (df : Int)) : ∀ (os : List (Int × Int)) (ps : List (Int × Nat)), os.map (fun q => (q.1, (pc : Int) + q.2)) = ps.map (fun q => (q.1, ((q.2 : Nat) : Int))) → lsL x ps df K → ∃ t : Nat, (pc : Int) + Op.lookupswitch.offset os dfo x = (t : Int) ∧ K t
  | [], [], _, h => ⟨df, by simpa [Op.lookupswitch.offset] using hdf, h⟩
  | [], _ :: _, e, _ => by simp at e
  | _ :: _, [], e, _ => by simp at e
  | (a, o) :: os, (a', t) :: ps, e, h => by
    simp only [List.map_cons, List.cons.injEq, Prod.mk.injEq] at e
    obtain ⟨⟨rfl, e2⟩, e3⟩ := e
    by_cases hx : x = a
    · exact ⟨t, by simpa [Op.lookupswitch.offset, hx] using e2, h.1 hx⟩
    · obtain ⟨t', h1, h2⟩ := lsL_at hdf os ps e3 (h.2 hx)
      refine ⟨t', ?_, h2⟩
      rw [← h1]
      have : Op.lookupswitch.offset ((a, o) :: os) dfo x = Op.lookupswitch.offset os dfo x := by
        simp only [Op.lookupswitch.offset, List.find?_cons]
        have : (a == x) = false := by simpa using fun q => hx q.symm
        simp [this]
        intro q
        exact absurd q.symm hx
      rw [this]
def o_lsw (ps : List (Int × Nat)) (df : Nat) : zO := fun _ _ lv st h K => match st with
  | .inl x :: r => inR x ∧ lsL x ps df (fun t => K t lv r h)
  | _ => False
theorem s_lsw {dfo : Int} {os : Array (Int × Int)} {ps : List (Int × Nat)} {df len : Nat} (hd : decode k.2.1 pc = .ok (.lookupswitch dfo os, len)) (hp : (os.toList.zip (os.toList.drop 1)).all (fun (a, next) => a.1 < next.1) = true) (hdf : (pc : Int) + dfo = (df : Int)) (hps : os.toList.map (fun q => (q.1, (pc : Int) + q.2)) = ps.map (fun q => (q.1, ((q.2 : Nat) : Int)))) : zS k pc (o_lsw ps df) := by
  intro X d Q Z E K hK lv st h hk
  unfold o_lsw at hk
  split at hk
  · rename_i x r
    obtain ⟨hx, hk⟩ := hk
    obtain ⟨t, h1, h2⟩ := lsL_at hdf _ _ hps hk
    intro H locs ls hP hD hS hl
    exact lv_lookup Z.1 Z.2.1 hd hp rfl (by rw [i32_toInt hx]; exact h1) (hK _ _ _ _ h2 H locs ls hP hD hS hl)
  · exact hk.elim
def o_iret : zO := fun _ Q _ st h _ => match st with
  | [.inl x] => Q (some (sI x)) h
  | _ => False
theorem s_iret (hr : k.2.2.2 = some .int) (hd : decode k.2.1 pc = .ok (.ireturn, 1)) : zS k pc o_iret := by
  intro X d Q Z E K hK lv st h hk
  unfold o_iret at hk
  split at hk
  · rename_i x
    exact E pc _ lv h hk (Or.inl ⟨hd, x, rfl, Or.inl hr⟩)
  · exact hk.elim
def o_zret : zO := fun _ Q _ st h _ => match st with
  | [.inl x] => (x = 0 ∨ x = 1) ∧ Q (some (sI x)) h
  | _ => False
theorem s_zret (hr : k.2.2.2 = some .boolean) (hd : decode k.2.1 pc = .ok (.ireturn, 1)) : zS k pc o_zret := by
  intro X d Q Z E K hK lv st h hk
  unfold o_zret at hk
  split at hk
  · rename_i x
    exact E pc _ lv h hk.2 (Or.inl ⟨hd, x, rfl, Or.inr ⟨hr, hk.1⟩⟩)
  · exact hk.elim
def o_lret : zO := fun _ Q _ st h _ => match st with
  | [.inr (.inl x)] => Q (some (sL x)) h
  | _ => False
theorem s_lret (hr : k.2.2.2 = some .long) (hd : decode k.2.1 pc = .ok (.lreturn, 1)) : zS k pc o_lret := by
  intro X d Q Z E K hK lv st h hk
  unfold o_lret at hk
  split at hk
  · rename_i x
    exact E pc _ lv h hk (Or.inr (Or.inl ⟨hd, x, rfl, hr⟩))
  · exact hk.elim
def o_aret : zO := fun _ Q _ st h _ => match st with
  | [.inr (.inr (some a))] => Q (some (sR a)) h
  | _ => False
theorem s_aret (hr : k.2.2.2 = some (.array .int)) (hd : decode k.2.1 pc = .ok (.areturn, 1)) : zS k pc o_aret := by
  intro X d Q Z E K hK lv st h hk
  unfold o_aret at hk
  split at hk
  · rename_i x
    exact E pc _ lv h hk (Or.inr (Or.inr (Or.inl ⟨hd, x, rfl, hr⟩)))
  · exact hk.elim
def o_vret : zO := fun _ Q _ st h _ => match st with
  | [] => Q none h
  | _ => False
theorem s_vret (hr : k.2.2.2 = none) (hd : decode k.2.1 pc = .ok (.return_, 1)) : zS k pc o_vret := by
  intro X d Q Z E K hK lv st h hk
  unfold o_vret at hk
  split at hk
  · exact E pc _ lv h hk (Or.inr (Or.inr (Or.inr ⟨hd, rfl, hr⟩)))
  · exact hk.elim
/-! ===== the run of a method's table ===== -/
def zrun (T : List (Nat × zO)) (cut : List Nat) (d : Nat) (Q : zQ) (JJ : zK) : Nat → zK
  | 0 => JJ
  | m + 1 => fun pc lv st h => match T.lookup pc with
    | none => JJ pc lv st h
    | some o => o d Q lv st h (fun pc' lv' st' h' => match cut.contains pc' with
      | true => JJ pc' lv' st' h'
      | false => zrun T cut d Q JJ m pc' lv' st' h')
theorem zrun_sound {T : List (Nat × zO)} (hT : ∀ q ∈ T, zS k q.1 q.2) {X : zX} {d : Nat} {Q : zQ} (C : zCx X d k) (E : zEx X k Q) (cut : List Nat) : ∀ (m pc : Nat) (lv : List (Option zV)) (st : List zV) (h : zH), zrun T cut d Q (zJ X) m pc lv st h → zJ X pc lv st h
  | 0, _, _, _, _, hk => hk
  | m + 1, pc, lv, st, h, hk => by
    unfold zrun at hk
    split at hk
    · exact hk
    · rename_i o ho
      have hm : ∃ q ∈ T, q.1 = pc ∧ q.2 = o := by
        clear hk hT
        induction T with
        | nil => simp at ho
        | cons a T ih =>
          obtain ⟨b, o'⟩ := a
          rw [List.lookup_cons] at ho
          by_cases hb : pc = b
          · subst hb
            simp at ho
            exact ⟨(pc, o'), List.mem_cons_self, rfl, ho⟩
          · have : (pc == b) = false := by simpa using hb
            rw [this] at ho
            obtain ⟨q, h1, h2⟩ := ih ho
            exact ⟨q, List.mem_cons_of_mem _ h1, h2⟩
      obtain ⟨q, hq, rfl, rfl⟩ := hm
      refine hT q hq X d Q C E _ (fun pc' lv' st' h' hk' => ?_) lv st h hk
      split at hk'
      · exact hk'
      · exact zrun_sound hT C E cut m pc' lv' st' h' hk'
/-- less may be known of the locals -/
def leL : List (Option zV) → List (Option zV) → Prop
  | [], _ => True
  | none :: r, [] => leL r []
  | none :: r, _ :: r' => leL r r'
  | some v :: r, some v' :: r' => v = v' ∧ leL r r'
  | some _ :: _, _ => False
theorem leL_get : ∀ (a b : List (Option zV)) (i : Nat) (v : zV), leL a b → a[i]? = some (some v) → b[i]? = some (some v)
  | [], _, i, v, _, h => by simp at h
  | none :: r, [], 0, v, _, h => by simp at h
  | none :: r, [], i + 1, v, hl, h => by
    have := leL_get r [] i v hl (by simpa using h)
    simp at this
  | none :: r, x :: r', 0, v, _, h => by simp at h
  | none :: r, x :: r', i + 1, v, hl, h => by simpa using leL_get r r' i v hl (by simpa using h)
  | some u :: r, some u' :: r', 0, v, hl, h => by
    have := hl.1
    subst this
    simpa using h
  | some u :: r, some u' :: r', i + 1, v, hl, h => by simpa using leL_get r r' i v hl.2 (by simpa using h)
  | some u :: r, none :: r', i, v, hl, h => hl.elim
  | some u :: r, [], i, v, hl, h => hl.elim
theorem zJ_le {X : zX} {pc : Nat} {a b : List (Option zV)} {st st' : List zV} {h h' : zH} (hj : zJ X pc a st h) (hl : leL a b) (hs : st = st') (hh : h = h') : zJ X pc b st' h' := by
  subst hs
  subst hh
  intro H locs ls hP hD hS hx
  exact hj H locs ls hP hD hS ⟨hx.1, hx.2.1, fun i v hv => hx.2.2 i v (leL_get a b i v hl hv)⟩
theorem zC_mono {d : Nat} {vs : List zV} {h : zH} {Q Q' : zQ} (hC : zC d k vs h Q) (hq : ∀ o g, Q o g → Q' o g) : zC d k vs h Q' := by
  intro l D T A
  refine MetFree.mono (hC l D T A) (fun a s h => h) (fun _ _ _ _ _ h => h) (fun a s o t _ h9 => ⟨?_, h9.2⟩)
  have h8 := h9.1
  revert h8
  generalize k.2.2.2 = ret
  intro h8
  rcases ret with _ | ty
  · obtain ⟨⟨u, e1, e2, e3⟩, e4⟩ := h8
    exact ⟨⟨u, e1, hq _ _ e2, e3⟩, e4⟩
  · have fini : va_Qi (fun r (u : zH × Int) => r = i32 u.2 ∧ Q (some (sI u.2)) u.1) (fun u t => va_P D vwCl (wld T A u.1) t.heap) (frA A) a s o t → va_Qi (fun r (u : zH × Int) => r = i32 u.2 ∧ Q' (some (sI u.2)) u.1) (fun u t => va_P D vwCl (wld T A u.1) t.heap) (frA A) a s o t := by
      rintro ⟨⟨r, u, e1, e2, e3⟩, e4⟩
      exact ⟨⟨r, u, e1, ⟨e2.1, hq _ _ e2.2⟩, e3⟩, e4⟩
    cases ty with
    | long =>
      obtain ⟨⟨r, u, e1, e2, e3⟩, e4⟩ := h8
      exact ⟨⟨r, u, e1, hq _ _ e2, e3⟩, e4⟩
    | array ty =>
      obtain ⟨⟨u, a, e1, e2, e3⟩, e4⟩ := h8
      exact ⟨⟨u, a, e1, hq _ _ e2, e3⟩, e4⟩
    | _ => exact fini h8
end OPSC
end
section
theorem kdI (ci s : Nat) (h : SHL.all (fun r => !(Nat.beq r.1 0 && Nat.beq r.2.1 ci) || (match r.2.2[s]? with
  | some q => Nat.beq q.1 0
  | none => false)) = true) : ∀ a c ks, SHP a = (0, c, ks) → c = ci → ∃ q, ks[s]? = some (0, q) := by
  intro a c ks e hc
  subst hc
  have hm : (0, c, ks) ∈ SHL := by
    unfold SHP at e
    rw [List.getD_eq_getElem?_getD] at e
    cases hq : SHL[a]? with
    | none => rw [hq] at e; cases e
    | some q => rw [hq] at e; cases e; exact List.mem_of_getElem? hq
  have := List.all_eq_true.mp h _ hm
  simp only [Nat.beq_refl, Bool.and_self, Bool.not_true, Bool.false_or] at this
  split at this
  · rename_i q hq
    exact ⟨q.2, by rw [hq, ← Nat.eq_of_beq_eq_true this]⟩
  · cases this
theorem kdL (ci s : Nat) (h : SHL.all (fun r => !(Nat.beq r.1 0 && Nat.beq r.2.1 ci) || (match r.2.2[s]? with
  | some q => Nat.beq q.1 1
  | none => false)) = true) : ∀ a c ks, SHP a = (0, c, ks) → c = ci → ∃ q, ks[s]? = some (1, q) := by
  intro a c ks e hc
  subst hc
  have hm : (0, c, ks) ∈ SHL := by
    unfold SHP at e
    rw [List.getD_eq_getElem?_getD] at e
    cases hq : SHL[a]? with
    | none => rw [hq] at e; cases e
    | some q => rw [hq] at e; cases e; exact List.mem_of_getElem? hq
  have := List.all_eq_true.mp h _ hm
  simp only [Nat.beq_refl, Bool.and_self, Bool.not_true, Bool.false_or] at this
  split at this
  · rename_i q hq
    exact ⟨q.2, by rw [hq, ← Nat.eq_of_beq_eq_true this]⟩
  · cases this
def k_X0_add : zM := (yX0_add, cX0_add, 2, some .int)
theorem de_X0_add : k_X0_add.1.cls = k_X0_add.1.cls ∧ k_X0_add.1.cls ≠ "java/lang/invoke/MethodHandle" ∧ k_X0_add.1.cls ≠ "java/lang/invoke/VarHandle" ∧ (parseMethodDescriptor k_X0_add.1.desc).map (fun d => d.parameters.length) = some 1 := ⟨rfl, by decide +kernel, by decide +kernel, by decide +kernel⟩
def k_X0_isOrUnder : zM := (yX0_isOrUnder, cX0_isOrUnder, 4, some .boolean)
theorem de_X0_isOrUnder : k_X0_isOrUnder.1.cls ≠ "java/lang/invoke/MethodHandle" ∧ k_X0_isOrUnder.1.cls ≠ "java/lang/invoke/VarHandle" ∧ (parseMethodDescriptor k_X0_isOrUnder.1.desc).map (fun d => d.parameters.length) = some 2 := ⟨by decide +kernel, by decide +kernel, by decide +kernel⟩
def k_X0_perform : zM := (yX0_perform, cX0_perform, 4, some .int)
theorem de_X0_perform : k_X0_perform.1.cls = k_X0_perform.1.cls ∧ k_X0_perform.1.cls ≠ "java/lang/invoke/MethodHandle" ∧ k_X0_perform.1.cls ≠ "java/lang/invoke/VarHandle" ∧ (parseMethodDescriptor k_X0_perform.1.desc).map (fun d => d.parameters.length) = some 3 := ⟨rfl, by decide +kernel, by decide +kernel, by decide +kernel⟩
def k_X0_own : zM := (yX0_own, cX0_own, 4, some .int)
theorem de_X0_own : k_X0_own.1.cls = k_X0_own.1.cls ∧ k_X0_own.1.cls ≠ "java/lang/invoke/MethodHandle" ∧ k_X0_own.1.cls ≠ "java/lang/invoke/VarHandle" ∧ (parseMethodDescriptor k_X0_own.1.desc).map (fun d => d.parameters.length) = some 3 := ⟨rfl, by decide +kernel, by decide +kernel, by decide +kernel⟩
def k_X0_from : zM := (yX0_from, cX0_from, 7, some .int)
theorem de_X0_from : k_X0_from.1.cls = k_X0_from.1.cls ∧ k_X0_from.1.cls ≠ "java/lang/invoke/MethodHandle" ∧ k_X0_from.1.cls ≠ "java/lang/invoke/VarHandle" ∧ (parseMethodDescriptor k_X0_from.1.desc).map (fun d => d.parameters.length) = some 4 := ⟨rfl, by decide +kernel, by decide +kernel, by decide +kernel⟩
def k_X0_note : zM := (yX0_note, cX0_note, 2, none)
theorem de_X0_note : k_X0_note.1.cls = k_X0_note.1.cls ∧ k_X0_note.1.cls ≠ "java/lang/invoke/MethodHandle" ∧ k_X0_note.1.cls ≠ "java/lang/invoke/VarHandle" ∧ (parseMethodDescriptor k_X0_note.1.desc).map (fun d => d.parameters.length) = some 1 := ⟨rfl, by decide +kernel, by decide +kernel, by decide +kernel⟩
def k_X0_run : zM := (yX0_run, cX0_run, 4, some .int)
theorem de_X0_run : k_X0_run.1.cls = k_X0_run.1.cls ∧ k_X0_run.1.cls ≠ "java/lang/invoke/MethodHandle" ∧ k_X0_run.1.cls ≠ "java/lang/invoke/VarHandle" ∧ (parseMethodDescriptor k_X0_run.1.desc).map (fun d => d.parameters.length) = some 3 := ⟨rfl, by decide +kernel, by decide +kernel, by decide +kernel⟩
def k_X1_tell : zM := (yX1_tell, cX1_tell, 6, some .int)
theorem de_X1_tell : k_X1_tell.1.cls = k_X1_tell.1.cls ∧ k_X1_tell.1.cls ≠ "java/lang/invoke/MethodHandle" ∧ k_X1_tell.1.cls ≠ "java/lang/invoke/VarHandle" ∧ (parseMethodDescriptor k_X1_tell.1.desc).map (fun d => d.parameters.length) = some 3 := ⟨rfl, by decide +kernel, by decide +kernel, by decide +kernel⟩
def k_X1_forgetOldest : zM := (yX1_forgetOldest, cX1_forgetOldest, 1, none)
theorem de_X1_forgetOldest : k_X1_forgetOldest.1.cls = k_X1_forgetOldest.1.cls ∧ k_X1_forgetOldest.1.cls ≠ "java/lang/invoke/MethodHandle" ∧ k_X1_forgetOldest.1.cls ≠ "java/lang/invoke/VarHandle" ∧ (parseMethodDescriptor k_X1_forgetOldest.1.desc).map (fun d => d.parameters.length) = some 0 := ⟨rfl, by decide +kernel, by decide +kernel, by decide +kernel⟩
def k_X1_back : zM := (yX1_back, cX1_back, 1, some .boolean)
theorem de_X1_back : k_X1_back.1.cls = k_X1_back.1.cls ∧ k_X1_back.1.cls ≠ "java/lang/invoke/MethodHandle" ∧ k_X1_back.1.cls ≠ "java/lang/invoke/VarHandle" ∧ (parseMethodDescriptor k_X1_back.1.desc).map (fun d => d.parameters.length) = some 0 := ⟨rfl, by decide +kernel, by decide +kernel, by decide +kernel⟩
def k_X1_again : zM := (yX1_again, cX1_again, 1, some .boolean)
theorem de_X1_again : k_X1_again.1.cls = k_X1_again.1.cls ∧ k_X1_again.1.cls ≠ "java/lang/invoke/MethodHandle" ∧ k_X1_again.1.cls ≠ "java/lang/invoke/VarHandle" ∧ (parseMethodDescriptor k_X1_again.1.desc).map (fun d => d.parameters.length) = some 0 := ⟨rfl, by decide +kernel, by decide +kernel, by decide +kernel⟩
def k_X2_addTide : zM := (yX2_addTide, cX2_addTide, 4, some .int)
theorem de_X2_addTide : k_X2_addTide.1.cls = k_X2_addTide.1.cls ∧ k_X2_addTide.1.cls ≠ "java/lang/invoke/MethodHandle" ∧ k_X2_addTide.1.cls ≠ "java/lang/invoke/VarHandle" ∧ (parseMethodDescriptor k_X2_addTide.1.desc).map (fun d => d.parameters.length) = some 3 := ⟨rfl, by decide +kernel, by decide +kernel, by decide +kernel⟩
def k_X2_addWind : zM := (yX2_addWind, cX2_addWind, 4, some .int)
theorem de_X2_addWind : k_X2_addWind.1.cls = k_X2_addWind.1.cls ∧ k_X2_addWind.1.cls ≠ "java/lang/invoke/MethodHandle" ∧ k_X2_addWind.1.cls ≠ "java/lang/invoke/VarHandle" ∧ (parseMethodDescriptor k_X2_addWind.1.desc).map (fun d => d.parameters.length) = some 3 := ⟨rfl, by decide +kernel, by decide +kernel, by decide +kernel⟩
def k_X2_addWay : zM := (yX2_addWay, cX2_addWay, 5, some .int)
theorem de_X2_addWay : k_X2_addWay.1.cls = k_X2_addWay.1.cls ∧ k_X2_addWay.1.cls ≠ "java/lang/invoke/MethodHandle" ∧ k_X2_addWay.1.cls ≠ "java/lang/invoke/VarHandle" ∧ (parseMethodDescriptor k_X2_addWay.1.desc).map (fun d => d.parameters.length) = some 4 := ⟨rfl, by decide +kernel, by decide +kernel, by decide +kernel⟩
def k_X2_allWinds : zM := (yX2_allWinds, cX2_allWinds, 1, some .int)
theorem de_X2_allWinds : k_X2_allWinds.1.cls = k_X2_allWinds.1.cls ∧ k_X2_allWinds.1.cls ≠ "java/lang/invoke/MethodHandle" ∧ k_X2_allWinds.1.cls ≠ "java/lang/invoke/VarHandle" ∧ (parseMethodDescriptor k_X2_allWinds.1.desc).map (fun d => d.parameters.length) = some 0 := ⟨rfl, by decide +kernel, by decide +kernel, by decide +kernel⟩
def k_X2_chanceOf : zM := (yX2_chanceOf, cX2_chanceOf, 4, some .int)
theorem de_X2_chanceOf : k_X2_chanceOf.1.cls = k_X2_chanceOf.1.cls ∧ k_X2_chanceOf.1.cls ≠ "java/lang/invoke/MethodHandle" ∧ k_X2_chanceOf.1.cls ≠ "java/lang/invoke/VarHandle" ∧ (parseMethodDescriptor k_X2_chanceOf.1.desc).map (fun d => d.parameters.length) = some 1 := ⟨rfl, by decide +kernel, by decide +kernel, by decide +kernel⟩
def k_X2_thousandths : zM := (yX2_thousandths, cX2_thousandths, 2, some .int)
theorem de_X2_thousandths : k_X2_thousandths.1.cls = k_X2_thousandths.1.cls ∧ k_X2_thousandths.1.cls ≠ "java/lang/invoke/MethodHandle" ∧ k_X2_thousandths.1.cls ≠ "java/lang/invoke/VarHandle" ∧ (parseMethodDescriptor k_X2_thousandths.1.desc).map (fun d => d.parameters.length) = some 1 := ⟨rfl, by decide +kernel, by decide +kernel, by decide +kernel⟩
def k_X2_taking : zM := (yX2_taking, cX2_taking, 4, some .int)
theorem de_X2_taking : k_X2_taking.1.cls = k_X2_taking.1.cls ∧ k_X2_taking.1.cls ≠ "java/lang/invoke/MethodHandle" ∧ k_X2_taking.1.cls ≠ "java/lang/invoke/VarHandle" ∧ (parseMethodDescriptor k_X2_taking.1.desc).map (fun d => d.parameters.length) = some 3 := ⟨rfl, by decide +kernel, by decide +kernel, by decide +kernel⟩
def k_X2_tideAt : zM := (yX2_tideAt, cX2_tideAt, 8, some .int)
theorem de_X2_tideAt : k_X2_tideAt.1.cls = k_X2_tideAt.1.cls ∧ k_X2_tideAt.1.cls ≠ "java/lang/invoke/MethodHandle" ∧ k_X2_tideAt.1.cls ≠ "java/lang/invoke/VarHandle" ∧ (parseMethodDescriptor k_X2_tideAt.1.desc).map (fun d => d.parameters.length) = some 2 := ⟨rfl, by decide +kernel, by decide +kernel, by decide +kernel⟩
def k_X2_seaAt : zM := (yX2_seaAt, cX2_seaAt, 5, some .int)
theorem de_X2_seaAt : k_X2_seaAt.1.cls = k_X2_seaAt.1.cls ∧ k_X2_seaAt.1.cls ≠ "java/lang/invoke/MethodHandle" ∧ k_X2_seaAt.1.cls ≠ "java/lang/invoke/VarHandle" ∧ (parseMethodDescriptor k_X2_seaAt.1.desc).map (fun d => d.parameters.length) = some 3 := ⟨rfl, by decide +kernel, by decide +kernel, by decide +kernel⟩
def k_X2_rowOf : zM := (yX2_rowOf, cX2_rowOf, 2, some (.array .int))
theorem de_X2_rowOf : k_X2_rowOf.1.cls = k_X2_rowOf.1.cls ∧ k_X2_rowOf.1.cls ≠ "java/lang/invoke/MethodHandle" ∧ k_X2_rowOf.1.cls ≠ "java/lang/invoke/VarHandle" ∧ (parseMethodDescriptor k_X2_rowOf.1.desc).map (fun d => d.parameters.length) = some 1 := ⟨rfl, by decide +kernel, by decide +kernel, by decide +kernel⟩
def k_X3_add : zM := (yX3_add, cX3_add, 2, some .boolean)
theorem de_X3_add : k_X3_add.1.cls = k_X3_add.1.cls ∧ k_X3_add.1.cls ≠ "java/lang/invoke/MethodHandle" ∧ k_X3_add.1.cls ≠ "java/lang/invoke/VarHandle" ∧ (parseMethodDescriptor k_X3_add.1.desc).map (fun d => d.parameters.length) = some 1 := ⟨rfl, by decide +kernel, by decide +kernel, by decide +kernel⟩
def k_X3_walk : zM := (yX3_walk, cX3_walk, 5, some .int)
theorem de_X3_walk : k_X3_walk.1.cls = k_X3_walk.1.cls ∧ k_X3_walk.1.cls ≠ "java/lang/invoke/MethodHandle" ∧ k_X3_walk.1.cls ≠ "java/lang/invoke/VarHandle" ∧ (parseMethodDescriptor k_X3_walk.1.desc).map (fun d => d.parameters.length) = some 2 := ⟨rfl, by decide +kernel, by decide +kernel, by decide +kernel⟩
def k_X3_stay : zM := (yX3_stay, cX3_stay, 2, some .boolean)
theorem de_X3_stay : k_X3_stay.1.cls = k_X3_stay.1.cls ∧ k_X3_stay.1.cls ≠ "java/lang/invoke/MethodHandle" ∧ k_X3_stay.1.cls ≠ "java/lang/invoke/VarHandle" ∧ (parseMethodDescriptor k_X3_stay.1.desc).map (fun d => d.parameters.length) = some 1 := ⟨rfl, by decide +kernel, by decide +kernel, by decide +kernel⟩
def k_X3_follow : zM := (yX3_follow, cX3_follow, 3, some .boolean)
theorem de_X3_follow : k_X3_follow.1.cls = k_X3_follow.1.cls ∧ k_X3_follow.1.cls ≠ "java/lang/invoke/MethodHandle" ∧ k_X3_follow.1.cls ≠ "java/lang/invoke/VarHandle" ∧ (parseMethodDescriptor k_X3_follow.1.desc).map (fun d => d.parameters.length) = some 2 := ⟨rfl, by decide +kernel, by decide +kernel, by decide +kernel⟩
def k_X3_leadsOn : zM := (yX3_leadsOn, cX3_leadsOn, 2, some .boolean)
theorem de_X3_leadsOn : k_X3_leadsOn.1.cls = k_X3_leadsOn.1.cls ∧ k_X3_leadsOn.1.cls ≠ "java/lang/invoke/MethodHandle" ∧ k_X3_leadsOn.1.cls ≠ "java/lang/invoke/VarHandle" ∧ (parseMethodDescriptor k_X3_leadsOn.1.desc).map (fun d => d.parameters.length) = some 1 := ⟨rfl, by decide +kernel, by decide +kernel, by decide +kernel⟩
def k_X3_wayGoes : zM := (yX3_wayGoes, cX3_wayGoes, 5, some .boolean)
theorem de_X3_wayGoes : k_X3_wayGoes.1.cls = k_X3_wayGoes.1.cls ∧ k_X3_wayGoes.1.cls ≠ "java/lang/invoke/MethodHandle" ∧ k_X3_wayGoes.1.cls ≠ "java/lang/invoke/VarHandle" ∧ (parseMethodDescriptor k_X3_wayGoes.1.desc).map (fun d => d.parameters.length) = some 4 := ⟨rfl, by decide +kernel, by decide +kernel, by decide +kernel⟩
def k_X3_shutIn : zM := (yX3_shutIn, cX3_shutIn, 4, some .int)
theorem de_X3_shutIn : k_X3_shutIn.1.cls = k_X3_shutIn.1.cls ∧ k_X3_shutIn.1.cls ≠ "java/lang/invoke/MethodHandle" ∧ k_X3_shutIn.1.cls ≠ "java/lang/invoke/VarHandle" ∧ (parseMethodDescriptor k_X3_shutIn.1.desc).map (fun d => d.parameters.length) = some 1 := ⟨rfl, by decide +kernel, by decide +kernel, by decide +kernel⟩
def k_X4_rise : zM := (yX4_rise, cX4_rise, 4, none)
theorem de_X4_rise : k_X4_rise.1.cls = k_X4_rise.1.cls ∧ k_X4_rise.1.cls ≠ "java/lang/invoke/MethodHandle" ∧ k_X4_rise.1.cls ≠ "java/lang/invoke/VarHandle" ∧ (parseMethodDescriptor k_X4_rise.1.desc).map (fun d => d.parameters.length) = some 2 := ⟨rfl, by decide +kernel, by decide +kernel, by decide +kernel⟩
def k_X4_raise : zM := (yX4_raise, cX4_raise, 5, none)
theorem de_X4_raise : k_X4_raise.1.cls = k_X4_raise.1.cls ∧ k_X4_raise.1.cls ≠ "java/lang/invoke/MethodHandle" ∧ k_X4_raise.1.cls ≠ "java/lang/invoke/VarHandle" ∧ (parseMethodDescriptor k_X4_raise.1.desc).map (fun d => d.parameters.length) = some 2 := ⟨rfl, by decide +kernel, by decide +kernel, by decide +kernel⟩
def k_X4_firstAbove : zM := (yX4_firstAbove, cX4_firstAbove, 4, some .int)
theorem de_X4_firstAbove : k_X4_firstAbove.1.cls = k_X4_firstAbove.1.cls ∧ k_X4_firstAbove.1.cls ≠ "java/lang/invoke/MethodHandle" ∧ k_X4_firstAbove.1.cls ≠ "java/lang/invoke/VarHandle" ∧ (parseMethodDescriptor k_X4_firstAbove.1.desc).map (fun d => d.parameters.length) = some 2 := ⟨rfl, by decide +kernel, by decide +kernel, by decide +kernel⟩
def k_X5_prepare : zM := (yX5_prepare, cX5_prepare, 5, none)
theorem de_X5_prepare : k_X5_prepare.1.cls = k_X5_prepare.1.cls ∧ k_X5_prepare.1.cls ≠ "java/lang/invoke/MethodHandle" ∧ k_X5_prepare.1.cls ≠ "java/lang/invoke/VarHandle" ∧ (parseMethodDescriptor k_X5_prepare.1.desc).map (fun d => d.parameters.length) = some 2 := ⟨rfl, by decide +kernel, by decide +kernel, by decide +kernel⟩
def k_X5_barWaiting : zM := (yX5_barWaiting, cX5_barWaiting, 2, none)
theorem de_X5_barWaiting : k_X5_barWaiting.1.cls = k_X5_barWaiting.1.cls ∧ k_X5_barWaiting.1.cls ≠ "java/lang/invoke/MethodHandle" ∧ k_X5_barWaiting.1.cls ≠ "java/lang/invoke/VarHandle" ∧ (parseMethodDescriptor k_X5_barWaiting.1.desc).map (fun d => d.parameters.length) = some 1 := ⟨rfl, by decide +kernel, by decide +kernel, by decide +kernel⟩
def k_X5_soonest : zM := (yX5_soonest, cX5_soonest, 4, some .int)
theorem de_X5_soonest : k_X5_soonest.1.cls = k_X5_soonest.1.cls ∧ k_X5_soonest.1.cls ≠ "java/lang/invoke/MethodHandle" ∧ k_X5_soonest.1.cls ≠ "java/lang/invoke/VarHandle" ∧ (parseMethodDescriptor k_X5_soonest.1.desc).map (fun d => d.parameters.length) = some 3 := ⟨rfl, by decide +kernel, by decide +kernel, by decide +kernel⟩
def k_X5_isThere : zM := (yX5_isThere, cX5_isThere, 4, some .boolean)
theorem de_X5_isThere : k_X5_isThere.1.cls = k_X5_isThere.1.cls ∧ k_X5_isThere.1.cls ≠ "java/lang/invoke/MethodHandle" ∧ k_X5_isThere.1.cls ≠ "java/lang/invoke/VarHandle" ∧ (parseMethodDescriptor k_X5_isThere.1.desc).map (fun d => d.parameters.length) = some 2 := ⟨rfl, by decide +kernel, by decide +kernel, by decide +kernel⟩
def k_X5_meeting : zM := (yX5_meeting, cX5_meeting, 7, some .int)
theorem de_X5_meeting : k_X5_meeting.1.cls = k_X5_meeting.1.cls ∧ k_X5_meeting.1.cls ≠ "java/lang/invoke/MethodHandle" ∧ k_X5_meeting.1.cls ≠ "java/lang/invoke/VarHandle" ∧ (parseMethodDescriptor k_X5_meeting.1.desc).map (fun d => d.parameters.length) = some 2 := ⟨rfl, by decide +kernel, by decide +kernel, by decide +kernel⟩
def k_X5_spread : zM := (yX5_spread, cX5_spread, 10, some .int)
theorem de_X5_spread : k_X5_spread.1.cls = k_X5_spread.1.cls ∧ k_X5_spread.1.cls ≠ "java/lang/invoke/MethodHandle" ∧ k_X5_spread.1.cls ≠ "java/lang/invoke/VarHandle" ∧ (parseMethodDescriptor k_X5_spread.1.desc).map (fun d => d.parameters.length) = some 4 := ⟨rfl, by decide +kernel, by decide +kernel, by decide +kernel⟩
def k_X5_waiting : zM := (yX5_waiting, cX5_waiting, 6, some .long)
theorem de_X5_waiting : k_X5_waiting.1.cls = k_X5_waiting.1.cls ∧ k_X5_waiting.1.cls ≠ "java/lang/invoke/MethodHandle" ∧ k_X5_waiting.1.cls ≠ "java/lang/invoke/VarHandle" ∧ (parseMethodDescriptor k_X5_waiting.1.desc).map (fun d => d.parameters.length) = some 1 := ⟨rfl, by decide +kernel, by decide +kernel, by decide +kernel⟩
def k_X5_leave : zM := (yX5_leave, cX5_leave, 11, none)
theorem de_X5_leave : k_X5_leave.1.cls = k_X5_leave.1.cls ∧ k_X5_leave.1.cls ≠ "java/lang/invoke/MethodHandle" ∧ k_X5_leave.1.cls ≠ "java/lang/invoke/VarHandle" ∧ (parseMethodDescriptor k_X5_leave.1.desc).map (fun d => d.parameters.length) = some 3 := ⟨rfl, by decide +kernel, by decide +kernel, by decide +kernel⟩
def k_X5_latest : zM := (yX5_latest, cX5_latest, 7, some .int)
theorem de_X5_latest : k_X5_latest.1.cls = k_X5_latest.1.cls ∧ k_X5_latest.1.cls ≠ "java/lang/invoke/MethodHandle" ∧ k_X5_latest.1.cls ≠ "java/lang/invoke/VarHandle" ∧ (parseMethodDescriptor k_X5_latest.1.desc).map (fun d => d.parameters.length) = some 2 := ⟨rfl, by decide +kernel, by decide +kernel, by decide +kernel⟩
def k_X5_goodToLeave : zM := (yX5_goodToLeave, cX5_goodToLeave, 11, some .long)
theorem de_X5_goodToLeave : k_X5_goodToLeave.1.cls = k_X5_goodToLeave.1.cls ∧ k_X5_goodToLeave.1.cls ≠ "java/lang/invoke/MethodHandle" ∧ k_X5_goodToLeave.1.cls ≠ "java/lang/invoke/VarHandle" ∧ (parseMethodDescriptor k_X5_goodToLeave.1.desc).map (fun d => d.parameters.length) = some 2 := ⟨rfl, by decide +kernel, by decide +kernel, by decide +kernel⟩
def k_X6_holdBody : zM := (yX6_holdBody, cX6_holdBody, 2, none)
theorem de_X6_holdBody : k_X6_holdBody.1.cls = k_X6_holdBody.1.cls ∧ k_X6_holdBody.1.cls ≠ "java/lang/invoke/MethodHandle" ∧ k_X6_holdBody.1.cls ≠ "java/lang/invoke/VarHandle" ∧ (parseMethodDescriptor k_X6_holdBody.1.desc).map (fun d => d.parameters.length) = some 1 := ⟨rfl, by decide +kernel, by decide +kernel, by decide +kernel⟩
def k_X6_holdRow : zM := (yX6_holdRow, cX6_holdRow, 3, none)
theorem de_X6_holdRow : k_X6_holdRow.1.cls = k_X6_holdRow.1.cls ∧ k_X6_holdRow.1.cls ≠ "java/lang/invoke/MethodHandle" ∧ k_X6_holdRow.1.cls ≠ "java/lang/invoke/VarHandle" ∧ (parseMethodDescriptor k_X6_holdRow.1.desc).map (fun d => d.parameters.length) = some 2 := ⟨rfl, by decide +kernel, by decide +kernel, by decide +kernel⟩
def k_X6_has : zM := (yX6_has, cX6_has, 2, some .boolean)
theorem de_X6_has : k_X6_has.1.cls = k_X6_has.1.cls ∧ k_X6_has.1.cls ≠ "java/lang/invoke/MethodHandle" ∧ k_X6_has.1.cls ≠ "java/lang/invoke/VarHandle" ∧ (parseMethodDescriptor k_X6_has.1.desc).map (fun d => d.parameters.length) = some 1 := ⟨rfl, by decide +kernel, by decide +kernel, by decide +kernel⟩
def k_X6_hasRun : zM := (yX6_hasRun, cX6_hasRun, 3, some .boolean)
theorem de_X6_hasRun : k_X6_hasRun.1.cls = k_X6_hasRun.1.cls ∧ k_X6_hasRun.1.cls ≠ "java/lang/invoke/MethodHandle" ∧ k_X6_hasRun.1.cls ≠ "java/lang/invoke/VarHandle" ∧ (parseMethodDescriptor k_X6_hasRun.1.desc).map (fun d => d.parameters.length) = some 2 := ⟨rfl, by decide +kernel, by decide +kernel, by decide +kernel⟩
def k_X6_kept : zM := (yX6_kept, cX6_kept, 3, some .long)
theorem de_X6_kept : k_X6_kept.1.cls = k_X6_kept.1.cls ∧ k_X6_kept.1.cls ≠ "java/lang/invoke/MethodHandle" ∧ k_X6_kept.1.cls ≠ "java/lang/invoke/VarHandle" ∧ (parseMethodDescriptor k_X6_kept.1.desc).map (fun d => d.parameters.length) = some 1 := ⟨rfl, by decide +kernel, by decide +kernel, by decide +kernel⟩
def k_X7_add : zM := (yX7_add, cX7_add, 4, some .boolean)
theorem de_X7_add : k_X7_add.1.cls = k_X7_add.1.cls ∧ k_X7_add.1.cls ≠ "java/lang/invoke/MethodHandle" ∧ k_X7_add.1.cls ≠ "java/lang/invoke/VarHandle" ∧ (parseMethodDescriptor k_X7_add.1.desc).map (fun d => d.parameters.length) = some 2 := ⟨rfl, by decide +kernel, by decide +kernel, by decide +kernel⟩
def k_X7_read : zM := (yX7_read, cX7_read, 3, some .int)
theorem de_X7_read : k_X7_read.1.cls = k_X7_read.1.cls ∧ k_X7_read.1.cls ≠ "java/lang/invoke/MethodHandle" ∧ k_X7_read.1.cls ≠ "java/lang/invoke/VarHandle" ∧ (parseMethodDescriptor k_X7_read.1.desc).map (fun d => d.parameters.length) = some 0 := ⟨rfl, by decide +kernel, by decide +kernel, by decide +kernel⟩
def k_X7_readMinute : zM := (yX7_readMinute, cX7_readMinute, 4, some .int)
theorem de_X7_readMinute : k_X7_readMinute.1.cls = k_X7_readMinute.1.cls ∧ k_X7_readMinute.1.cls ≠ "java/lang/invoke/MethodHandle" ∧ k_X7_readMinute.1.cls ≠ "java/lang/invoke/VarHandle" ∧ (parseMethodDescriptor k_X7_readMinute.1.desc).map (fun d => d.parameters.length) = some 1 := ⟨rfl, by decide +kernel, by decide +kernel, by decide +kernel⟩
def k_X7_readHeight : zM := (yX7_readHeight, cX7_readHeight, 2, some .int)
theorem de_X7_readHeight : k_X7_readHeight.1.cls = k_X7_readHeight.1.cls ∧ k_X7_readHeight.1.cls ≠ "java/lang/invoke/MethodHandle" ∧ k_X7_readHeight.1.cls ≠ "java/lang/invoke/VarHandle" ∧ (parseMethodDescriptor k_X7_readHeight.1.desc).map (fun d => d.parameters.length) = some 0 := ⟨rfl, by decide +kernel, by decide +kernel, by decide +kernel⟩
def k_X7_readNumber : zM := (yX7_readNumber, cX7_readNumber, 4, some .int)
theorem de_X7_readNumber : k_X7_readNumber.1.cls = k_X7_readNumber.1.cls ∧ k_X7_readNumber.1.cls ≠ "java/lang/invoke/MethodHandle" ∧ k_X7_readNumber.1.cls ≠ "java/lang/invoke/VarHandle" ∧ (parseMethodDescriptor k_X7_readNumber.1.desc).map (fun d => d.parameters.length) = some 1 := ⟨rfl, by decide +kernel, by decide +kernel, by decide +kernel⟩
def k_X7_digitIsNext : zM := (yX7_digitIsNext, cX7_digitIsNext, 1, some .boolean)
theorem de_X7_digitIsNext : k_X7_digitIsNext.1.cls = k_X7_digitIsNext.1.cls ∧ k_X7_digitIsNext.1.cls ≠ "java/lang/invoke/MethodHandle" ∧ k_X7_digitIsNext.1.cls ≠ "java/lang/invoke/VarHandle" ∧ (parseMethodDescriptor k_X7_digitIsNext.1.desc).map (fun d => d.parameters.length) = some 0 := ⟨rfl, by decide +kernel, by decide +kernel, by decide +kernel⟩
def k_X8_feed : zM := (yX8_feed, cX8_feed, 3, some .int)
theorem de_X8_feed : k_X8_feed.1.cls = k_X8_feed.1.cls ∧ k_X8_feed.1.cls ≠ "java/lang/invoke/MethodHandle" ∧ k_X8_feed.1.cls ≠ "java/lang/invoke/VarHandle" ∧ (parseMethodDescriptor k_X8_feed.1.desc).map (fun d => d.parameters.length) = some 2 := ⟨rfl, by decide +kernel, by decide +kernel, by decide +kernel⟩
def k_X8_tide : zM := (yX8_tide, cX8_tide, 2, some .int)
theorem de_X8_tide : k_X8_tide.1.cls = k_X8_tide.1.cls ∧ k_X8_tide.1.cls ≠ "java/lang/invoke/MethodHandle" ∧ k_X8_tide.1.cls ≠ "java/lang/invoke/VarHandle" ∧ (parseMethodDescriptor k_X8_tide.1.desc).map (fun d => d.parameters.length) = some 0 := ⟨rfl, by decide +kernel, by decide +kernel, by decide +kernel⟩
def k_X8_wind : zM := (yX8_wind, cX8_wind, 4, some .int)
theorem de_X8_wind : k_X8_wind.1.cls = k_X8_wind.1.cls ∧ k_X8_wind.1.cls ≠ "java/lang/invoke/MethodHandle" ∧ k_X8_wind.1.cls ≠ "java/lang/invoke/VarHandle" ∧ (parseMethodDescriptor k_X8_wind.1.desc).map (fun d => d.parameters.length) = some 3 := ⟨rfl, by decide +kernel, by decide +kernel, by decide +kernel⟩
def k_X8_sea : zM := (yX8_sea, cX8_sea, 4, some .int)
theorem de_X8_sea : k_X8_sea.1.cls = k_X8_sea.1.cls ∧ k_X8_sea.1.cls ≠ "java/lang/invoke/MethodHandle" ∧ k_X8_sea.1.cls ≠ "java/lang/invoke/VarHandle" ∧ (parseMethodDescriptor k_X8_sea.1.desc).map (fun d => d.parameters.length) = some 3 := ⟨rfl, by decide +kernel, by decide +kernel, by decide +kernel⟩
def k_X8_place : zM := (yX8_place, cX8_place, 2, some .int)
theorem de_X8_place : k_X8_place.1.cls = k_X8_place.1.cls ∧ k_X8_place.1.cls ≠ "java/lang/invoke/MethodHandle" ∧ k_X8_place.1.cls ≠ "java/lang/invoke/VarHandle" ∧ (parseMethodDescriptor k_X8_place.1.desc).map (fun d => d.parameters.length) = some 1 := ⟨rfl, by decide +kernel, by decide +kernel, by decide +kernel⟩
def k_X8_way : zM := (yX8_way, cX8_way, 3, some .int)
theorem de_X8_way : k_X8_way.1.cls = k_X8_way.1.cls ∧ k_X8_way.1.cls ≠ "java/lang/invoke/MethodHandle" ∧ k_X8_way.1.cls ≠ "java/lang/invoke/VarHandle" ∧ (parseMethodDescriptor k_X8_way.1.desc).map (fun d => d.parameters.length) = some 2 := ⟨rfl, by decide +kernel, by decide +kernel, by decide +kernel⟩
def k_X8_safe : zM := (yX8_safe, cX8_safe, 3, some .int)
theorem de_X8_safe : k_X8_safe.1.cls = k_X8_safe.1.cls ∧ k_X8_safe.1.cls ≠ "java/lang/invoke/MethodHandle" ∧ k_X8_safe.1.cls ≠ "java/lang/invoke/VarHandle" ∧ (parseMethodDescriptor k_X8_safe.1.desc).map (fun d => d.parameters.length) = some 2 := ⟨rfl, by decide +kernel, by decide +kernel, by decide +kernel⟩
def k_X8_alter : zM := (yX8_alter, cX8_alter, 4, some .int)
theorem de_X8_alter : k_X8_alter.1.cls = k_X8_alter.1.cls ∧ k_X8_alter.1.cls ≠ "java/lang/invoke/MethodHandle" ∧ k_X8_alter.1.cls ≠ "java/lang/invoke/VarHandle" ∧ (parseMethodDescriptor k_X8_alter.1.desc).map (fun d => d.parameters.length) = some 3 := ⟨rfl, by decide +kernel, by decide +kernel, by decide +kernel⟩
def k_X8_sort : zM := (yX8_sort, cX8_sort, 3, some .int)
theorem de_X8_sort : k_X8_sort.1.cls = k_X8_sort.1.cls ∧ k_X8_sort.1.cls ≠ "java/lang/invoke/MethodHandle" ∧ k_X8_sort.1.cls ≠ "java/lang/invoke/VarHandle" ∧ (parseMethodDescriptor k_X8_sort.1.desc).map (fun d => d.parameters.length) = some 2 := ⟨rfl, by decide +kernel, by decide +kernel, by decide +kernel⟩
def k_X8_light : zM := (yX8_light, cX8_light, 4, some .int)
theorem de_X8_light : k_X8_light.1.cls = k_X8_light.1.cls ∧ k_X8_light.1.cls ≠ "java/lang/invoke/MethodHandle" ∧ k_X8_light.1.cls ≠ "java/lang/invoke/VarHandle" ∧ (parseMethodDescriptor k_X8_light.1.desc).map (fun d => d.parameters.length) = some 2 := ⟨rfl, by decide +kernel, by decide +kernel, by decide +kernel⟩
def k_X8_takes : zM := (yX8_takes, cX8_takes, 4, some .int)
theorem de_X8_takes : k_X8_takes.1.cls = k_X8_takes.1.cls ∧ k_X8_takes.1.cls ≠ "java/lang/invoke/MethodHandle" ∧ k_X8_takes.1.cls ≠ "java/lang/invoke/VarHandle" ∧ (parseMethodDescriptor k_X8_takes.1.desc).map (fun d => d.parameters.length) = some 3 := ⟨rfl, by decide +kernel, by decide +kernel, by decide +kernel⟩
def k_X8_open : zM := (yX8_open, cX8_open, 9, some .int)
theorem de_X8_open : k_X8_open.1.cls = k_X8_open.1.cls ∧ k_X8_open.1.cls ≠ "java/lang/invoke/MethodHandle" ∧ k_X8_open.1.cls ≠ "java/lang/invoke/VarHandle" ∧ (parseMethodDescriptor k_X8_open.1.desc).map (fun d => d.parameters.length) = some 4 := ⟨rfl, by decide +kernel, by decide +kernel, by decide +kernel⟩
def k_X8_soon : zM := (yX8_soon, cX8_soon, 5, some .int)
theorem de_X8_soon : k_X8_soon.1.cls = k_X8_soon.1.cls ∧ k_X8_soon.1.cls ≠ "java/lang/invoke/MethodHandle" ∧ k_X8_soon.1.cls ≠ "java/lang/invoke/VarHandle" ∧ (parseMethodDescriptor k_X8_soon.1.desc).map (fun d => d.parameters.length) = some 4 := ⟨rfl, by decide +kernel, by decide +kernel, by decide +kernel⟩
def k_X8_last : zM := (yX8_last, cX8_last, 4, some .int)
theorem de_X8_last : k_X8_last.1.cls = k_X8_last.1.cls ∧ k_X8_last.1.cls ≠ "java/lang/invoke/MethodHandle" ∧ k_X8_last.1.cls ≠ "java/lang/invoke/VarHandle" ∧ (parseMethodDescriptor k_X8_last.1.desc).map (fun d => d.parameters.length) = some 3 := ⟨rfl, by decide +kernel, by decide +kernel, by decide +kernel⟩
def k_X8_best : zM := (yX8_best, cX8_best, 6, some .int)
theorem de_X8_best : k_X8_best.1.cls = k_X8_best.1.cls ∧ k_X8_best.1.cls ≠ "java/lang/invoke/MethodHandle" ∧ k_X8_best.1.cls ≠ "java/lang/invoke/VarHandle" ∧ (parseMethodDescriptor k_X8_best.1.desc).map (fun d => d.parameters.length) = some 4 := ⟨rfl, by decide +kernel, by decide +kernel, by decide +kernel⟩
def k_X8_days : zM := (yX8_days, cX8_days, 9, some .int)
theorem de_X8_days : k_X8_days.1.cls = k_X8_days.1.cls ∧ k_X8_days.1.cls ≠ "java/lang/invoke/MethodHandle" ∧ k_X8_days.1.cls ≠ "java/lang/invoke/VarHandle" ∧ (parseMethodDescriptor k_X8_days.1.desc).map (fun d => d.parameters.length) = some 3 := ⟨rfl, by decide +kernel, by decide +kernel, by decide +kernel⟩
def k_X8_two : zM := (yX8_two, cX8_two, 7, some .int)
theorem de_X8_two : k_X8_two.1.cls = k_X8_two.1.cls ∧ k_X8_two.1.cls ≠ "java/lang/invoke/MethodHandle" ∧ k_X8_two.1.cls ≠ "java/lang/invoke/VarHandle" ∧ (parseMethodDescriptor k_X8_two.1.desc).map (fun d => d.parameters.length) = some 5 := ⟨rfl, by decide +kernel, by decide +kernel, by decide +kernel⟩
def k_X8_worth : zM := (yX8_worth, cX8_worth, 9, some .int)
theorem de_X8_worth : k_X8_worth.1.cls = k_X8_worth.1.cls ∧ k_X8_worth.1.cls ≠ "java/lang/invoke/MethodHandle" ∧ k_X8_worth.1.cls ≠ "java/lang/invoke/VarHandle" ∧ (parseMethodDescriptor k_X8_worth.1.desc).map (fun d => d.parameters.length) = some 4 := ⟨rfl, by decide +kernel, by decide +kernel, by decide +kernel⟩
def k_X8_higher : zM := (yX8_higher, cX8_higher, 9, some .int)
theorem de_X8_higher : k_X8_higher.1.cls = k_X8_higher.1.cls ∧ k_X8_higher.1.cls ≠ "java/lang/invoke/MethodHandle" ∧ k_X8_higher.1.cls ≠ "java/lang/invoke/VarHandle" ∧ (parseMethodDescriptor k_X8_higher.1.desc).map (fun d => d.parameters.length) = some 4 := ⟨rfl, by decide +kernel, by decide +kernel, by decide +kernel⟩
def k_X8_must : zM := (yX8_must, cX8_must, 6, some .int)
theorem de_X8_must : k_X8_must.1.cls = k_X8_must.1.cls ∧ k_X8_must.1.cls ≠ "java/lang/invoke/MethodHandle" ∧ k_X8_must.1.cls ≠ "java/lang/invoke/VarHandle" ∧ (parseMethodDescriptor k_X8_must.1.desc).map (fun d => d.parameters.length) = some 3 := ⟨rfl, by decide +kernel, by decide +kernel, by decide +kernel⟩
def k_X8_move : zM := (yX8_move, cX8_move, 2, some .int)
theorem de_X8_move : k_X8_move.1.cls = k_X8_move.1.cls ∧ k_X8_move.1.cls ≠ "java/lang/invoke/MethodHandle" ∧ k_X8_move.1.cls ≠ "java/lang/invoke/VarHandle" ∧ (parseMethodDescriptor k_X8_move.1.desc).map (fun d => d.parameters.length) = some 1 := ⟨rfl, by decide +kernel, by decide +kernel, by decide +kernel⟩
def k_X8_moves : zM := (yX8_moves, cX8_moves, 6, some .int)
theorem de_X8_moves : k_X8_moves.1.cls = k_X8_moves.1.cls ∧ k_X8_moves.1.cls ≠ "java/lang/invoke/MethodHandle" ∧ k_X8_moves.1.cls ≠ "java/lang/invoke/VarHandle" ∧ (parseMethodDescriptor k_X8_moves.1.desc).map (fun d => d.parameters.length) = some 3 := ⟨rfl, by decide +kernel, by decide +kernel, by decide +kernel⟩
def k_X8_drop : zM := (yX8_drop, cX8_drop, 2, some .int)
theorem de_X8_drop : k_X8_drop.1.cls = k_X8_drop.1.cls ∧ k_X8_drop.1.cls ≠ "java/lang/invoke/MethodHandle" ∧ k_X8_drop.1.cls ≠ "java/lang/invoke/VarHandle" ∧ (parseMethodDescriptor k_X8_drop.1.desc).map (fun d => d.parameters.length) = some 0 := ⟨rfl, by decide +kernel, by decide +kernel, by decide +kernel⟩
def k_X8_judge : zM := (yX8_judge, cX8_judge, 6, some .int)
theorem de_X8_judge : k_X8_judge.1.cls = k_X8_judge.1.cls ∧ k_X8_judge.1.cls ≠ "java/lang/invoke/MethodHandle" ∧ k_X8_judge.1.cls ≠ "java/lang/invoke/VarHandle" ∧ (parseMethodDescriptor k_X8_judge.1.desc).map (fun d => d.parameters.length) = some 4 := ⟨rfl, by decide +kernel, by decide +kernel, by decide +kernel⟩
def k_X8_wet : zM := (yX8_wet, cX8_wet, 4, some .int)
theorem de_X8_wet : k_X8_wet.1.cls = k_X8_wet.1.cls ∧ k_X8_wet.1.cls ≠ "java/lang/invoke/MethodHandle" ∧ k_X8_wet.1.cls ≠ "java/lang/invoke/VarHandle" ∧ (parseMethodDescriptor k_X8_wet.1.desc).map (fun d => d.parameters.length) = some 3 := ⟨rfl, by decide +kernel, by decide +kernel, by decide +kernel⟩
def k_X8_chance : zM := (yX8_chance, cX8_chance, 5, some .int)
theorem de_X8_chance : k_X8_chance.1.cls = k_X8_chance.1.cls ∧ k_X8_chance.1.cls ≠ "java/lang/invoke/MethodHandle" ∧ k_X8_chance.1.cls ≠ "java/lang/invoke/VarHandle" ∧ (parseMethodDescriptor k_X8_chance.1.desc).map (fun d => d.parameters.length) = some 2 := ⟨rfl, by decide +kernel, by decide +kernel, by decide +kernel⟩
def k_X8_mark : zM := (yX8_mark, cX8_mark, 2, some .int)
theorem de_X8_mark : k_X8_mark.1.cls = k_X8_mark.1.cls ∧ k_X8_mark.1.cls ≠ "java/lang/invoke/MethodHandle" ∧ k_X8_mark.1.cls ≠ "java/lang/invoke/VarHandle" ∧ (parseMethodDescriptor k_X8_mark.1.desc).map (fun d => d.parameters.length) = some 1 := ⟨rfl, by decide +kernel, by decide +kernel, by decide +kernel⟩
def k_X8_old : zM := (yX8_old, cX8_old, 4, some .int)
theorem de_X8_old : k_X8_old.1.cls = k_X8_old.1.cls ∧ k_X8_old.1.cls ≠ "java/lang/invoke/MethodHandle" ∧ k_X8_old.1.cls ≠ "java/lang/invoke/VarHandle" ∧ (parseMethodDescriptor k_X8_old.1.desc).map (fun d => d.parameters.length) = some 1 := ⟨rfl, by decide +kernel, by decide +kernel, by decide +kernel⟩
def k_X8_unmark : zM := (yX8_unmark, cX8_unmark, 2, some .int)
theorem de_X8_unmark : k_X8_unmark.1.cls = k_X8_unmark.1.cls ∧ k_X8_unmark.1.cls ≠ "java/lang/invoke/MethodHandle" ∧ k_X8_unmark.1.cls ≠ "java/lang/invoke/VarHandle" ∧ (parseMethodDescriptor k_X8_unmark.1.desc).map (fun d => d.parameters.length) = some 0 := ⟨rfl, by decide +kernel, by decide +kernel, by decide +kernel⟩
def k_X8_undo : zM := (yX8_undo, cX8_undo, 1, some .int)
theorem de_X8_undo : k_X8_undo.1.cls = k_X8_undo.1.cls ∧ k_X8_undo.1.cls ≠ "java/lang/invoke/MethodHandle" ∧ k_X8_undo.1.cls ≠ "java/lang/invoke/VarHandle" ∧ (parseMethodDescriptor k_X8_undo.1.desc).map (fun d => d.parameters.length) = some 0 := ⟨rfl, by decide +kernel, by decide +kernel, by decide +kernel⟩
def k_X8_redo : zM := (yX8_redo, cX8_redo, 1, some .int)
theorem de_X8_redo : k_X8_redo.1.cls = k_X8_redo.1.cls ∧ k_X8_redo.1.cls ≠ "java/lang/invoke/MethodHandle" ∧ k_X8_redo.1.cls ≠ "java/lang/invoke/VarHandle" ∧ (parseMethodDescriptor k_X8_redo.1.desc).map (fun d => d.parameters.length) = some 0 := ⟨rfl, by decide +kernel, by decide +kernel, by decide +kernel⟩
def k_X8_body : zM := (yX8_body, cX8_body, 2, some .int)
theorem de_X8_body : k_X8_body.1.cls = k_X8_body.1.cls ∧ k_X8_body.1.cls ≠ "java/lang/invoke/MethodHandle" ∧ k_X8_body.1.cls ≠ "java/lang/invoke/VarHandle" ∧ (parseMethodDescriptor k_X8_body.1.desc).map (fun d => d.parameters.length) = some 1 := ⟨rfl, by decide +kernel, by decide +kernel, by decide +kernel⟩
def k_X8_act : zM := (yX8_act, cX8_act, 4, some .int)
theorem de_X8_act : k_X8_act.1.cls = k_X8_act.1.cls ∧ k_X8_act.1.cls ≠ "java/lang/invoke/MethodHandle" ∧ k_X8_act.1.cls ≠ "java/lang/invoke/VarHandle" ∧ (parseMethodDescriptor k_X8_act.1.desc).map (fun d => d.parameters.length) = some 3 := ⟨rfl, by decide +kernel, by decide +kernel, by decide +kernel⟩
def k_X8_trace : zM := (yX8_trace, cX8_trace, 2, some .int)
theorem de_X8_trace : k_X8_trace.1.cls = k_X8_trace.1.cls ∧ k_X8_trace.1.cls ≠ "java/lang/invoke/MethodHandle" ∧ k_X8_trace.1.cls ≠ "java/lang/invoke/VarHandle" ∧ (parseMethodDescriptor k_X8_trace.1.desc).map (fun d => d.parameters.length) = some 1 := ⟨rfl, by decide +kernel, by decide +kernel, by decide +kernel⟩
def k_X8_keep : zM := (yX8_keep, cX8_keep, 3, some .int)
theorem de_X8_keep : k_X8_keep.1.cls = k_X8_keep.1.cls ∧ k_X8_keep.1.cls ≠ "java/lang/invoke/MethodHandle" ∧ k_X8_keep.1.cls ≠ "java/lang/invoke/VarHandle" ∧ (parseMethodDescriptor k_X8_keep.1.desc).map (fun d => d.parameters.length) = some 2 := ⟨rfl, by decide +kernel, by decide +kernel, by decide +kernel⟩
def k_X8_row : zM := (yX8_row, cX8_row, 4, some .int)
theorem de_X8_row : k_X8_row.1.cls = k_X8_row.1.cls ∧ k_X8_row.1.cls ≠ "java/lang/invoke/MethodHandle" ∧ k_X8_row.1.cls ≠ "java/lang/invoke/VarHandle" ∧ (parseMethodDescriptor k_X8_row.1.desc).map (fun d => d.parameters.length) = some 3 := ⟨rfl, by decide +kernel, by decide +kernel, by decide +kernel⟩
def k_X8_put : zM := (yX8_put, cX8_put, 6, some .int)
theorem de_X8_put : k_X8_put.1.cls = k_X8_put.1.cls ∧ k_X8_put.1.cls ≠ "java/lang/invoke/MethodHandle" ∧ k_X8_put.1.cls ≠ "java/lang/invoke/VarHandle" ∧ (parseMethodDescriptor k_X8_put.1.desc).map (fun d => d.parameters.length) = some 3 := ⟨rfl, by decide +kernel, by decide +kernel, by decide +kernel⟩
def k_X8_element : zM := (yX8_element, cX8_element, 3, some .long)
theorem de_X8_element : k_X8_element.1.cls = k_X8_element.1.cls ∧ k_X8_element.1.cls ≠ "java/lang/invoke/MethodHandle" ∧ k_X8_element.1.cls ≠ "java/lang/invoke/VarHandle" ∧ (parseMethodDescriptor k_X8_element.1.desc).map (fun d => d.parameters.length) = some 2 := ⟨rfl, by decide +kernel, by decide +kernel, by decide +kernel⟩
def k_X8_shift : zM := (yX8_shift, cX8_shift, 8, some .int)
theorem de_X8_shift : k_X8_shift.1.cls = k_X8_shift.1.cls ∧ k_X8_shift.1.cls ≠ "java/lang/invoke/MethodHandle" ∧ k_X8_shift.1.cls ≠ "java/lang/invoke/VarHandle" ∧ (parseMethodDescriptor k_X8_shift.1.desc).map (fun d => d.parameters.length) = some 5 := ⟨rfl, by decide +kernel, by decide +kernel, by decide +kernel⟩
def k_X8_taken : zM := (yX8_taken, cX8_taken, 4, some .int)
theorem de_X8_taken : k_X8_taken.1.cls = k_X8_taken.1.cls ∧ k_X8_taken.1.cls ≠ "java/lang/invoke/MethodHandle" ∧ k_X8_taken.1.cls ≠ "java/lang/invoke/VarHandle" ∧ (parseMethodDescriptor k_X8_taken.1.desc).map (fun d => d.parameters.length) = some 2 := ⟨rfl, by decide +kernel, by decide +kernel, by decide +kernel⟩
def k_X8_count : zM := (yX8_count, cX8_count, 2, some .int)
theorem de_X8_count : k_X8_count.1.cls = k_X8_count.1.cls ∧ k_X8_count.1.cls ≠ "java/lang/invoke/MethodHandle" ∧ k_X8_count.1.cls ≠ "java/lang/invoke/VarHandle" ∧ (parseMethodDescriptor k_X8_count.1.desc).map (fun d => d.parameters.length) = some 1 := ⟨rfl, by decide +kernel, by decide +kernel, by decide +kernel⟩
def k_X8_within : zM := (yX8_within, cX8_within, 3, some .boolean)
theorem de_X8_within : k_X8_within.1.cls ≠ "java/lang/invoke/MethodHandle" ∧ k_X8_within.1.cls ≠ "java/lang/invoke/VarHandle" ∧ (parseMethodDescriptor k_X8_within.1.desc).map (fun d => d.parameters.length) = some 3 := ⟨by decide +kernel, by decide +kernel, by decide +kernel⟩
def k_X8_isMinute : zM := (yX8_isMinute, cX8_isMinute, 1, some .boolean)
theorem de_X8_isMinute : k_X8_isMinute.1.cls ≠ "java/lang/invoke/MethodHandle" ∧ k_X8_isMinute.1.cls ≠ "java/lang/invoke/VarHandle" ∧ (parseMethodDescriptor k_X8_isMinute.1.desc).map (fun d => d.parameters.length) = some 1 := ⟨by decide +kernel, by decide +kernel, by decide +kernel⟩
def k_X8_isSort : zM := (yX8_isSort, cX8_isSort, 1, some .boolean)
theorem de_X8_isSort : k_X8_isSort.1.cls ≠ "java/lang/invoke/MethodHandle" ∧ k_X8_isSort.1.cls ≠ "java/lang/invoke/VarHandle" ∧ (parseMethodDescriptor k_X8_isSort.1.desc).map (fun d => d.parameters.length) = some 1 := ⟨by decide +kernel, by decide +kernel, by decide +kernel⟩
def k_X8_isShelf : zM := (yX8_isShelf, cX8_isShelf, 1, some .boolean)
theorem de_X8_isShelf : k_X8_isShelf.1.cls ≠ "java/lang/invoke/MethodHandle" ∧ k_X8_isShelf.1.cls ≠ "java/lang/invoke/VarHandle" ∧ (parseMethodDescriptor k_X8_isShelf.1.desc).map (fun d => d.parameters.length) = some 1 := ⟨by decide +kernel, by decide +kernel, by decide +kernel⟩
def k_X8_isPlace : zM := (yX8_isPlace, cX8_isPlace, 2, some .boolean)
theorem de_X8_isPlace : k_X8_isPlace.1.cls = k_X8_isPlace.1.cls ∧ k_X8_isPlace.1.cls ≠ "java/lang/invoke/MethodHandle" ∧ k_X8_isPlace.1.cls ≠ "java/lang/invoke/VarHandle" ∧ (parseMethodDescriptor k_X8_isPlace.1.desc).map (fun d => d.parameters.length) = some 1 := ⟨rfl, by decide +kernel, by decide +kernel, by decide +kernel⟩
def k_X8_isWay : zM := (yX8_isWay, cX8_isWay, 2, some .boolean)
theorem de_X8_isWay : k_X8_isWay.1.cls = k_X8_isWay.1.cls ∧ k_X8_isWay.1.cls ≠ "java/lang/invoke/MethodHandle" ∧ k_X8_isWay.1.cls ≠ "java/lang/invoke/VarHandle" ∧ (parseMethodDescriptor k_X8_isWay.1.desc).map (fun d => d.parameters.length) = some 1 := ⟨rfl, by decide +kernel, by decide +kernel, by decide +kernel⟩
def k_X8_isPair : zM := (yX8_isPair, cX8_isPair, 2, some .boolean)
theorem de_X8_isPair : k_X8_isPair.1.cls = k_X8_isPair.1.cls ∧ k_X8_isPair.1.cls ≠ "java/lang/invoke/MethodHandle" ∧ k_X8_isPair.1.cls ≠ "java/lang/invoke/VarHandle" ∧ (parseMethodDescriptor k_X8_isPair.1.desc).map (fun d => d.parameters.length) = some 1 := ⟨rfl, by decide +kernel, by decide +kernel, by decide +kernel⟩
def k_X8_isFrom : zM := (yX8_isFrom, cX8_isFrom, 2, some .boolean)
theorem de_X8_isFrom : k_X8_isFrom.1.cls = k_X8_isFrom.1.cls ∧ k_X8_isFrom.1.cls ≠ "java/lang/invoke/MethodHandle" ∧ k_X8_isFrom.1.cls ≠ "java/lang/invoke/VarHandle" ∧ (parseMethodDescriptor k_X8_isFrom.1.desc).map (fun d => d.parameters.length) = some 1 := ⟨rfl, by decide +kernel, by decide +kernel, by decide +kernel⟩
def k_X8_isSortAndTide : zM := (yX8_isSortAndTide, cX8_isSortAndTide, 2, some .boolean)
theorem de_X8_isSortAndTide : k_X8_isSortAndTide.1.cls = k_X8_isSortAndTide.1.cls ∧ k_X8_isSortAndTide.1.cls ≠ "java/lang/invoke/MethodHandle" ∧ k_X8_isSortAndTide.1.cls ≠ "java/lang/invoke/VarHandle" ∧ (parseMethodDescriptor k_X8_isSortAndTide.1.desc).map (fun d => d.parameters.length) = some 1 := ⟨rfl, by decide +kernel, by decide +kernel, by decide +kernel⟩
def k_X8_isWinds : zM := (yX8_isWinds, cX8_isWinds, 2, some .boolean)
theorem de_X8_isWinds : k_X8_isWinds.1.cls = k_X8_isWinds.1.cls ∧ k_X8_isWinds.1.cls ≠ "java/lang/invoke/MethodHandle" ∧ k_X8_isWinds.1.cls ≠ "java/lang/invoke/VarHandle" ∧ (parseMethodDescriptor k_X8_isWinds.1.desc).map (fun d => d.parameters.length) = some 1 := ⟨rfl, by decide +kernel, by decide +kernel, by decide +kernel⟩
def k_X8_isMove : zM := (yX8_isMove, cX8_isMove, 2, some .boolean)
theorem de_X8_isMove : k_X8_isMove.1.cls = k_X8_isMove.1.cls ∧ k_X8_isMove.1.cls ≠ "java/lang/invoke/MethodHandle" ∧ k_X8_isMove.1.cls ≠ "java/lang/invoke/VarHandle" ∧ (parseMethodDescriptor k_X8_isMove.1.desc).map (fun d => d.parameters.length) = some 1 := ⟨rfl, by decide +kernel, by decide +kernel, by decide +kernel⟩
def k_X8_refusalOfElement : zM := (yX8_refusalOfElement, cX8_refusalOfElement, 4, some .int)
theorem de_X8_refusalOfElement : k_X8_refusalOfElement.1.cls = k_X8_refusalOfElement.1.cls ∧ k_X8_refusalOfElement.1.cls ≠ "java/lang/invoke/MethodHandle" ∧ k_X8_refusalOfElement.1.cls ≠ "java/lang/invoke/VarHandle" ∧ (parseMethodDescriptor k_X8_refusalOfElement.1.desc).map (fun d => d.parameters.length) = some 2 := ⟨rfl, by decide +kernel, by decide +kernel, by decide +kernel⟩
def k_X8_soonOrDay : zM := (yX8_soonOrDay, cX8_soonOrDay, 4, some .int)
theorem de_X8_soonOrDay : k_X8_soonOrDay.1.cls = k_X8_soonOrDay.1.cls ∧ k_X8_soonOrDay.1.cls ≠ "java/lang/invoke/MethodHandle" ∧ k_X8_soonOrDay.1.cls ≠ "java/lang/invoke/VarHandle" ∧ (parseMethodDescriptor k_X8_soonOrDay.1.desc).map (fun d => d.parameters.length) = some 2 := ⟨rfl, by decide +kernel, by decide +kernel, by decide +kernel⟩
def k_X8_soonLifted : zM := (yX8_soonLifted, cX8_soonLifted, 7, some .int)
theorem de_X8_soonLifted : k_X8_soonLifted.1.cls = k_X8_soonLifted.1.cls ∧ k_X8_soonLifted.1.cls ≠ "java/lang/invoke/MethodHandle" ∧ k_X8_soonLifted.1.cls ≠ "java/lang/invoke/VarHandle" ∧ (parseMethodDescriptor k_X8_soonLifted.1.desc).map (fun d => d.parameters.length) = some 4 := ⟨rfl, by decide +kernel, by decide +kernel, by decide +kernel⟩
def k_X8_reachedByDark : zM := (yX8_reachedByDark, cX8_reachedByDark, 5, some .boolean)
theorem de_X8_reachedByDark : k_X8_reachedByDark.1.cls = k_X8_reachedByDark.1.cls ∧ k_X8_reachedByDark.1.cls ≠ "java/lang/invoke/MethodHandle" ∧ k_X8_reachedByDark.1.cls ≠ "java/lang/invoke/VarHandle" ∧ (parseMethodDescriptor k_X8_reachedByDark.1.desc).map (fun d => d.parameters.length) = some 4 := ⟨rfl, by decide +kernel, by decide +kernel, by decide +kernel⟩
def k_X8_bestSet : zM := (yX8_bestSet, cX8_bestSet, 8, some .int)
theorem de_X8_bestSet : k_X8_bestSet.1.cls = k_X8_bestSet.1.cls ∧ k_X8_bestSet.1.cls ≠ "java/lang/invoke/MethodHandle" ∧ k_X8_bestSet.1.cls ≠ "java/lang/invoke/VarHandle" ∧ (parseMethodDescriptor k_X8_bestSet.1.desc).map (fun d => d.parameters.length) = some 3 := ⟨rfl, by decide +kernel, by decide +kernel, by decide +kernel⟩
def k_X8_likeliestUntried : zM := (yX8_likeliestUntried, cX8_likeliestUntried, 6, some .int)
theorem de_X8_likeliestUntried : k_X8_likeliestUntried.1.cls = k_X8_likeliestUntried.1.cls ∧ k_X8_likeliestUntried.1.cls ≠ "java/lang/invoke/MethodHandle" ∧ k_X8_likeliestUntried.1.cls ≠ "java/lang/invoke/VarHandle" ∧ (parseMethodDescriptor k_X8_likeliestUntried.1.desc).map (fun d => d.parameters.length) = some 2 := ⟨rfl, by decide +kernel, by decide +kernel, by decide +kernel⟩
def k_X8_marksCanHaveBeen : zM := (yX8_marksCanHaveBeen, cX8_marksCanHaveBeen, 2, some .boolean)
theorem de_X8_marksCanHaveBeen : k_X8_marksCanHaveBeen.1.cls = k_X8_marksCanHaveBeen.1.cls ∧ k_X8_marksCanHaveBeen.1.cls ≠ "java/lang/invoke/MethodHandle" ∧ k_X8_marksCanHaveBeen.1.cls ≠ "java/lang/invoke/VarHandle" ∧ (parseMethodDescriptor k_X8_marksCanHaveBeen.1.desc).map (fun d => d.parameters.length) = some 0 := ⟨rfl, by decide +kernel, by decide +kernel, by decide +kernel⟩
def k_X9_within : zM := (yX9_within, cX9_within, 6, some .boolean)
theorem de_X9_within : k_X9_within.1.cls ≠ "java/lang/invoke/MethodHandle" ∧ k_X9_within.1.cls ≠ "java/lang/invoke/VarHandle" ∧ (parseMethodDescriptor k_X9_within.1.desc).map (fun d => d.parameters.length) = some 3 := ⟨by decide +kernel, by decide +kernel, by decide +kernel⟩
def k_X9_isMinute : zM := (yX9_isMinute, cX9_isMinute, 1, some .boolean)
theorem de_X9_isMinute : k_X9_isMinute.1.cls ≠ "java/lang/invoke/MethodHandle" ∧ k_X9_isMinute.1.cls ≠ "java/lang/invoke/VarHandle" ∧ (parseMethodDescriptor k_X9_isMinute.1.desc).map (fun d => d.parameters.length) = some 1 := ⟨by decide +kernel, by decide +kernel, by decide +kernel⟩
def k_X9_becomes : zM := (yX9_becomes, cX9_becomes, 5, some .int)
theorem de_X9_becomes : k_X9_becomes.1.cls = k_X9_becomes.1.cls ∧ k_X9_becomes.1.cls ≠ "java/lang/invoke/MethodHandle" ∧ k_X9_becomes.1.cls ≠ "java/lang/invoke/VarHandle" ∧ (parseMethodDescriptor k_X9_becomes.1.desc).map (fun d => d.parameters.length) = some 2 := ⟨rfl, by decide +kernel, by decide +kernel, by decide +kernel⟩
def k_X9_undo : zM := (yX9_undo, cX9_undo, 1, some .int)
theorem de_X9_undo : k_X9_undo.1.cls = k_X9_undo.1.cls ∧ k_X9_undo.1.cls ≠ "java/lang/invoke/MethodHandle" ∧ k_X9_undo.1.cls ≠ "java/lang/invoke/VarHandle" ∧ (parseMethodDescriptor k_X9_undo.1.desc).map (fun d => d.parameters.length) = some 0 := ⟨rfl, by decide +kernel, by decide +kernel, by decide +kernel⟩
def k_X9_redo : zM := (yX9_redo, cX9_redo, 1, some .int)
theorem de_X9_redo : k_X9_redo.1.cls = k_X9_redo.1.cls ∧ k_X9_redo.1.cls ≠ "java/lang/invoke/MethodHandle" ∧ k_X9_redo.1.cls ≠ "java/lang/invoke/VarHandle" ∧ (parseMethodDescriptor k_X9_redo.1.desc).map (fun d => d.parameters.length) = some 0 := ⟨rfl, by decide +kernel, by decide +kernel, by decide +kernel⟩
def k_X9_feed : zM := (yX9_feed, cX9_feed, 4, some .int)
theorem de_X9_feed : k_X9_feed.1.cls = k_X9_feed.1.cls ∧ k_X9_feed.1.cls ≠ "java/lang/invoke/MethodHandle" ∧ k_X9_feed.1.cls ≠ "java/lang/invoke/VarHandle" ∧ (parseMethodDescriptor k_X9_feed.1.desc).map (fun d => d.parameters.length) = some 2 := ⟨rfl, by decide +kernel, by decide +kernel, by decide +kernel⟩
def k_X9_byteAt : zM := (yX9_byteAt, cX9_byteAt, 1, some .int)
theorem de_X9_byteAt : k_X9_byteAt.1.cls = k_X9_byteAt.1.cls ∧ k_X9_byteAt.1.cls ≠ "java/lang/invoke/MethodHandle" ∧ k_X9_byteAt.1.cls ≠ "java/lang/invoke/VarHandle" ∧ (parseMethodDescriptor k_X9_byteAt.1.desc).map (fun d => d.parameters.length) = some 0 := ⟨rfl, by decide +kernel, by decide +kernel, by decide +kernel⟩
def k_X9_number : zM := (yX9_number, cX9_number, 6, some .int)
theorem de_X9_number : k_X9_number.1.cls = k_X9_number.1.cls ∧ k_X9_number.1.cls ≠ "java/lang/invoke/MethodHandle" ∧ k_X9_number.1.cls ≠ "java/lang/invoke/VarHandle" ∧ (parseMethodDescriptor k_X9_number.1.desc).map (fun d => d.parameters.length) = some 3 := ⟨rfl, by decide +kernel, by decide +kernel, by decide +kernel⟩
def k_X9_readPoints : zM := (yX9_readPoints, cX9_readPoints, 4, some .boolean)
theorem de_X9_readPoints : k_X9_readPoints.1.cls = k_X9_readPoints.1.cls ∧ k_X9_readPoints.1.cls ≠ "java/lang/invoke/MethodHandle" ∧ k_X9_readPoints.1.cls ≠ "java/lang/invoke/VarHandle" ∧ (parseMethodDescriptor k_X9_readPoints.1.desc).map (fun d => d.parameters.length) = some 0 := ⟨rfl, by decide +kernel, by decide +kernel, by decide +kernel⟩
def k_X9_tide : zM := (yX9_tide, cX9_tide, 3, some .int)
theorem de_X9_tide : k_X9_tide.1.cls = k_X9_tide.1.cls ∧ k_X9_tide.1.cls ≠ "java/lang/invoke/MethodHandle" ∧ k_X9_tide.1.cls ≠ "java/lang/invoke/VarHandle" ∧ (parseMethodDescriptor k_X9_tide.1.desc).map (fun d => d.parameters.length) = some 0 := ⟨rfl, by decide +kernel, by decide +kernel, by decide +kernel⟩
def k_X9_isTide : zM := (yX9_isTide, cX9_isTide, 2, some .boolean)
theorem de_X9_isTide : k_X9_isTide.1.cls = k_X9_isTide.1.cls ∧ k_X9_isTide.1.cls ≠ "java/lang/invoke/MethodHandle" ∧ k_X9_isTide.1.cls ≠ "java/lang/invoke/VarHandle" ∧ (parseMethodDescriptor k_X9_isTide.1.desc).map (fun d => d.parameters.length) = some 1 := ⟨rfl, by decide +kernel, by decide +kernel, by decide +kernel⟩
def k_X9_isWind : zM := (yX9_isWind, cX9_isWind, 2, some .boolean)
theorem de_X9_isWind : k_X9_isWind.1.cls = k_X9_isWind.1.cls ∧ k_X9_isWind.1.cls ≠ "java/lang/invoke/MethodHandle" ∧ k_X9_isWind.1.cls ≠ "java/lang/invoke/VarHandle" ∧ (parseMethodDescriptor k_X9_isWind.1.desc).map (fun d => d.parameters.length) = some 1 := ⟨rfl, by decide +kernel, by decide +kernel, by decide +kernel⟩
def k_X9_wind : zM := (yX9_wind, cX9_wind, 4, some .int)
theorem de_X9_wind : k_X9_wind.1.cls = k_X9_wind.1.cls ∧ k_X9_wind.1.cls ≠ "java/lang/invoke/MethodHandle" ∧ k_X9_wind.1.cls ≠ "java/lang/invoke/VarHandle" ∧ (parseMethodDescriptor k_X9_wind.1.desc).map (fun d => d.parameters.length) = some 3 := ⟨rfl, by decide +kernel, by decide +kernel, by decide +kernel⟩
def k_X9_tideAt : zM := (yX9_tideAt, cX9_tideAt, 8, some .int)
theorem de_X9_tideAt : k_X9_tideAt.1.cls = k_X9_tideAt.1.cls ∧ k_X9_tideAt.1.cls ≠ "java/lang/invoke/MethodHandle" ∧ k_X9_tideAt.1.cls ≠ "java/lang/invoke/VarHandle" ∧ (parseMethodDescriptor k_X9_tideAt.1.desc).map (fun d => d.parameters.length) = some 2 := ⟨rfl, by decide +kernel, by decide +kernel, by decide +kernel⟩
def k_X9_seaAt : zM := (yX9_seaAt, cX9_seaAt, 5, some .int)
theorem de_X9_seaAt : k_X9_seaAt.1.cls = k_X9_seaAt.1.cls ∧ k_X9_seaAt.1.cls ≠ "java/lang/invoke/MethodHandle" ∧ k_X9_seaAt.1.cls ≠ "java/lang/invoke/VarHandle" ∧ (parseMethodDescriptor k_X9_seaAt.1.desc).map (fun d => d.parameters.length) = some 3 := ⟨rfl, by decide +kernel, by decide +kernel, by decide +kernel⟩
def k_X9_sea : zM := (yX9_sea, cX9_sea, 4, some .int)
theorem de_X9_sea : k_X9_sea.1.cls = k_X9_sea.1.cls ∧ k_X9_sea.1.cls ≠ "java/lang/invoke/MethodHandle" ∧ k_X9_sea.1.cls ≠ "java/lang/invoke/VarHandle" ∧ (parseMethodDescriptor k_X9_sea.1.desc).map (fun d => d.parameters.length) = some 3 := ⟨rfl, by decide +kernel, by decide +kernel, by decide +kernel⟩
def k_X9_isPlace : zM := (yX9_isPlace, cX9_isPlace, 2, some .boolean)
theorem de_X9_isPlace : k_X9_isPlace.1.cls = k_X9_isPlace.1.cls ∧ k_X9_isPlace.1.cls ≠ "java/lang/invoke/MethodHandle" ∧ k_X9_isPlace.1.cls ≠ "java/lang/invoke/VarHandle" ∧ (parseMethodDescriptor k_X9_isPlace.1.desc).map (fun d => d.parameters.length) = some 1 := ⟨rfl, by decide +kernel, by decide +kernel, by decide +kernel⟩
def k_X9_isWay : zM := (yX9_isWay, cX9_isWay, 2, some .boolean)
theorem de_X9_isWay : k_X9_isWay.1.cls = k_X9_isWay.1.cls ∧ k_X9_isWay.1.cls ≠ "java/lang/invoke/MethodHandle" ∧ k_X9_isWay.1.cls ≠ "java/lang/invoke/VarHandle" ∧ (parseMethodDescriptor k_X9_isWay.1.desc).map (fun d => d.parameters.length) = some 1 := ⟨rfl, by decide +kernel, by decide +kernel, by decide +kernel⟩
def k_X9_place : zM := (yX9_place, cX9_place, 2, some .int)
theorem de_X9_place : k_X9_place.1.cls = k_X9_place.1.cls ∧ k_X9_place.1.cls ≠ "java/lang/invoke/MethodHandle" ∧ k_X9_place.1.cls ≠ "java/lang/invoke/VarHandle" ∧ (parseMethodDescriptor k_X9_place.1.desc).map (fun d => d.parameters.length) = some 1 := ⟨rfl, by decide +kernel, by decide +kernel, by decide +kernel⟩
def k_X9_areTwo : zM := (yX9_areTwo, cX9_areTwo, 2, some .boolean)
theorem de_X9_areTwo : k_X9_areTwo.1.cls = k_X9_areTwo.1.cls ∧ k_X9_areTwo.1.cls ≠ "java/lang/invoke/MethodHandle" ∧ k_X9_areTwo.1.cls ≠ "java/lang/invoke/VarHandle" ∧ (parseMethodDescriptor k_X9_areTwo.1.desc).map (fun d => d.parameters.length) = some 1 := ⟨rfl, by decide +kernel, by decide +kernel, by decide +kernel⟩
def k_X9_way : zM := (yX9_way, cX9_way, 3, some .int)
theorem de_X9_way : k_X9_way.1.cls = k_X9_way.1.cls ∧ k_X9_way.1.cls ≠ "java/lang/invoke/MethodHandle" ∧ k_X9_way.1.cls ≠ "java/lang/invoke/VarHandle" ∧ (parseMethodDescriptor k_X9_way.1.desc).map (fun d => d.parameters.length) = some 2 := ⟨rfl, by decide +kernel, by decide +kernel, by decide +kernel⟩
def k_X9_safe : zM := (yX9_safe, cX9_safe, 3, some .int)
theorem de_X9_safe : k_X9_safe.1.cls = k_X9_safe.1.cls ∧ k_X9_safe.1.cls ≠ "java/lang/invoke/MethodHandle" ∧ k_X9_safe.1.cls ≠ "java/lang/invoke/VarHandle" ∧ (parseMethodDescriptor k_X9_safe.1.desc).map (fun d => d.parameters.length) = some 2 := ⟨rfl, by decide +kernel, by decide +kernel, by decide +kernel⟩
def k_X9_alter : zM := (yX9_alter, cX9_alter, 4, some .int)
theorem de_X9_alter : k_X9_alter.1.cls = k_X9_alter.1.cls ∧ k_X9_alter.1.cls ≠ "java/lang/invoke/MethodHandle" ∧ k_X9_alter.1.cls ≠ "java/lang/invoke/VarHandle" ∧ (parseMethodDescriptor k_X9_alter.1.desc).map (fun d => d.parameters.length) = some 3 := ⟨rfl, by decide +kernel, by decide +kernel, by decide +kernel⟩
def k_X9_isSort : zM := (yX9_isSort, cX9_isSort, 1, some .boolean)
theorem de_X9_isSort : k_X9_isSort.1.cls ≠ "java/lang/invoke/MethodHandle" ∧ k_X9_isSort.1.cls ≠ "java/lang/invoke/VarHandle" ∧ (parseMethodDescriptor k_X9_isSort.1.desc).map (fun d => d.parameters.length) = some 1 := ⟨by decide +kernel, by decide +kernel, by decide +kernel⟩
def k_X9_sort : zM := (yX9_sort, cX9_sort, 3, some .int)
theorem de_X9_sort : k_X9_sort.1.cls = k_X9_sort.1.cls ∧ k_X9_sort.1.cls ≠ "java/lang/invoke/MethodHandle" ∧ k_X9_sort.1.cls ≠ "java/lang/invoke/VarHandle" ∧ (parseMethodDescriptor k_X9_sort.1.desc).map (fun d => d.parameters.length) = some 2 := ⟨rfl, by decide +kernel, by decide +kernel, by decide +kernel⟩
def k_X9_light : zM := (yX9_light, cX9_light, 4, some .int)
theorem de_X9_light : k_X9_light.1.cls = k_X9_light.1.cls ∧ k_X9_light.1.cls ≠ "java/lang/invoke/MethodHandle" ∧ k_X9_light.1.cls ≠ "java/lang/invoke/VarHandle" ∧ (parseMethodDescriptor k_X9_light.1.desc).map (fun d => d.parameters.length) = some 2 := ⟨rfl, by decide +kernel, by decide +kernel, by decide +kernel⟩
def k_X9_takesOf : zM := (yX9_takesOf, cX9_takesOf, 4, some .int)
theorem de_X9_takesOf : k_X9_takesOf.1.cls = k_X9_takesOf.1.cls ∧ k_X9_takesOf.1.cls ≠ "java/lang/invoke/MethodHandle" ∧ k_X9_takesOf.1.cls ≠ "java/lang/invoke/VarHandle" ∧ (parseMethodDescriptor k_X9_takesOf.1.desc).map (fun d => d.parameters.length) = some 3 := ⟨rfl, by decide +kernel, by decide +kernel, by decide +kernel⟩
def k_X9_takes : zM := (yX9_takes, cX9_takes, 4, some .int)
theorem de_X9_takes : k_X9_takes.1.cls = k_X9_takes.1.cls ∧ k_X9_takes.1.cls ≠ "java/lang/invoke/MethodHandle" ∧ k_X9_takes.1.cls ≠ "java/lang/invoke/VarHandle" ∧ (parseMethodDescriptor k_X9_takes.1.desc).map (fun d => d.parameters.length) = some 3 := ⟨rfl, by decide +kernel, by decide +kernel, by decide +kernel⟩
def k_X9_layOut : zM := (yX9_layOut, cX9_layOut, 7, none)
theorem de_X9_layOut : k_X9_layOut.1.cls = k_X9_layOut.1.cls ∧ k_X9_layOut.1.cls ≠ "java/lang/invoke/MethodHandle" ∧ k_X9_layOut.1.cls ≠ "java/lang/invoke/VarHandle" ∧ (parseMethodDescriptor k_X9_layOut.1.desc).map (fun d => d.parameters.length) = some 2 := ⟨rfl, by decide +kernel, by decide +kernel, by decide +kernel⟩
def k_X9_goes : zM := (yX9_goes, cX9_goes, 7, some .boolean)
theorem de_X9_goes : k_X9_goes.1.cls = k_X9_goes.1.cls ∧ k_X9_goes.1.cls ≠ "java/lang/invoke/MethodHandle" ∧ k_X9_goes.1.cls ≠ "java/lang/invoke/VarHandle" ∧ (parseMethodDescriptor k_X9_goes.1.desc).map (fun d => d.parameters.length) = some 3 := ⟨rfl, by decide +kernel, by decide +kernel, by decide +kernel⟩
def k_X9_waits : zM := (yX9_waits, cX9_waits, 3, some .boolean)
theorem de_X9_waits : k_X9_waits.1.cls = k_X9_waits.1.cls ∧ k_X9_waits.1.cls ≠ "java/lang/invoke/MethodHandle" ∧ k_X9_waits.1.cls ≠ "java/lang/invoke/VarHandle" ∧ (parseMethodDescriptor k_X9_waits.1.desc).map (fun d => d.parameters.length) = some 2 := ⟨rfl, by decide +kernel, by decide +kernel, by decide +kernel⟩
def k_X9_otherEnd : zM := (yX9_otherEnd, cX9_otherEnd, 3, some .int)
theorem de_X9_otherEnd : k_X9_otherEnd.1.cls = k_X9_otherEnd.1.cls ∧ k_X9_otherEnd.1.cls ≠ "java/lang/invoke/MethodHandle" ∧ k_X9_otherEnd.1.cls ≠ "java/lang/invoke/VarHandle" ∧ (parseMethodDescriptor k_X9_otherEnd.1.desc).map (fun d => d.parameters.length) = some 2 := ⟨rfl, by decide +kernel, by decide +kernel, by decide +kernel⟩
def k_X9_stateOf : zM := (yX9_stateOf, cX9_stateOf, 3, some .int)
theorem de_X9_stateOf : k_X9_stateOf.1.cls ≠ "java/lang/invoke/MethodHandle" ∧ k_X9_stateOf.1.cls ≠ "java/lang/invoke/VarHandle" ∧ (parseMethodDescriptor k_X9_stateOf.1.desc).map (fun d => d.parameters.length) = some 3 := ⟨by decide +kernel, by decide +kernel, by decide +kernel⟩
def k_X9_spread : zM := (yX9_spread, cX9_spread, 7, none)
theorem de_X9_spread : k_X9_spread.1.cls = k_X9_spread.1.cls ∧ k_X9_spread.1.cls ≠ "java/lang/invoke/MethodHandle" ∧ k_X9_spread.1.cls ≠ "java/lang/invoke/VarHandle" ∧ (parseMethodDescriptor k_X9_spread.1.desc).map (fun d => d.parameters.length) = some 3 := ⟨rfl, by decide +kernel, by decide +kernel, by decide +kernel⟩
def k_X9_reach : zM := (yX9_reach, cX9_reach, 7, none)
theorem de_X9_reach : k_X9_reach.1.cls = k_X9_reach.1.cls ∧ k_X9_reach.1.cls ≠ "java/lang/invoke/MethodHandle" ∧ k_X9_reach.1.cls ≠ "java/lang/invoke/VarHandle" ∧ (parseMethodDescriptor k_X9_reach.1.desc).map (fun d => d.parameters.length) = some 3 := ⟨rfl, by decide +kernel, by decide +kernel, by decide +kernel⟩
def k_X9_isAt : zM := (yX9_isAt, cX9_isAt, 4, some .boolean)
theorem de_X9_isAt : k_X9_isAt.1.cls = k_X9_isAt.1.cls ∧ k_X9_isAt.1.cls ≠ "java/lang/invoke/MethodHandle" ∧ k_X9_isAt.1.cls ≠ "java/lang/invoke/VarHandle" ∧ (parseMethodDescriptor k_X9_isAt.1.desc).map (fun d => d.parameters.length) = some 2 := ⟨rfl, by decide +kernel, by decide +kernel, by decide +kernel⟩
def k_X9_soonAt : zM := (yX9_soonAt, cX9_soonAt, 3, some .int)
theorem de_X9_soonAt : k_X9_soonAt.1.cls = k_X9_soonAt.1.cls ∧ k_X9_soonAt.1.cls ≠ "java/lang/invoke/MethodHandle" ∧ k_X9_soonAt.1.cls ≠ "java/lang/invoke/VarHandle" ∧ (parseMethodDescriptor k_X9_soonAt.1.desc).map (fun d => d.parameters.length) = some 1 := ⟨rfl, by decide +kernel, by decide +kernel, by decide +kernel⟩
def k_X9_isFrom : zM := (yX9_isFrom, cX9_isFrom, 2, some .boolean)
theorem de_X9_isFrom : k_X9_isFrom.1.cls = k_X9_isFrom.1.cls ∧ k_X9_isFrom.1.cls ≠ "java/lang/invoke/MethodHandle" ∧ k_X9_isFrom.1.cls ≠ "java/lang/invoke/VarHandle" ∧ (parseMethodDescriptor k_X9_isFrom.1.desc).map (fun d => d.parameters.length) = some 1 := ⟨rfl, by decide +kernel, by decide +kernel, by decide +kernel⟩
def k_X9_isSt : zM := (yX9_isSt, cX9_isSt, 2, some .boolean)
theorem de_X9_isSt : k_X9_isSt.1.cls = k_X9_isSt.1.cls ∧ k_X9_isSt.1.cls ≠ "java/lang/invoke/MethodHandle" ∧ k_X9_isSt.1.cls ≠ "java/lang/invoke/VarHandle" ∧ (parseMethodDescriptor k_X9_isSt.1.desc).map (fun d => d.parameters.length) = some 1 := ⟨rfl, by decide +kernel, by decide +kernel, by decide +kernel⟩
def k_X9_areWinds : zM := (yX9_areWinds, cX9_areWinds, 2, some .boolean)
theorem de_X9_areWinds : k_X9_areWinds.1.cls = k_X9_areWinds.1.cls ∧ k_X9_areWinds.1.cls ≠ "java/lang/invoke/MethodHandle" ∧ k_X9_areWinds.1.cls ≠ "java/lang/invoke/VarHandle" ∧ (parseMethodDescriptor k_X9_areWinds.1.desc).map (fun d => d.parameters.length) = some 1 := ⟨rfl, by decide +kernel, by decide +kernel, by decide +kernel⟩
def k_X9_open : zM := (yX9_open, cX9_open, 9, some .int)
theorem de_X9_open : k_X9_open.1.cls = k_X9_open.1.cls ∧ k_X9_open.1.cls ≠ "java/lang/invoke/MethodHandle" ∧ k_X9_open.1.cls ≠ "java/lang/invoke/VarHandle" ∧ (parseMethodDescriptor k_X9_open.1.desc).map (fun d => d.parameters.length) = some 4 := ⟨rfl, by decide +kernel, by decide +kernel, by decide +kernel⟩
def k_X9_soon : zM := (yX9_soon, cX9_soon, 5, some .int)
theorem de_X9_soon : k_X9_soon.1.cls = k_X9_soon.1.cls ∧ k_X9_soon.1.cls ≠ "java/lang/invoke/MethodHandle" ∧ k_X9_soon.1.cls ≠ "java/lang/invoke/VarHandle" ∧ (parseMethodDescriptor k_X9_soon.1.desc).map (fun d => d.parameters.length) = some 4 := ⟨rfl, by decide +kernel, by decide +kernel, by decide +kernel⟩
def k_X9_goBack : zM := (yX9_goBack, cX9_goBack, 7, none)
theorem de_X9_goBack : k_X9_goBack.1.cls = k_X9_goBack.1.cls ∧ k_X9_goBack.1.cls ≠ "java/lang/invoke/MethodHandle" ∧ k_X9_goBack.1.cls ≠ "java/lang/invoke/VarHandle" ∧ (parseMethodDescriptor k_X9_goBack.1.desc).map (fun d => d.parameters.length) = some 3 := ⟨rfl, by decide +kernel, by decide +kernel, by decide +kernel⟩
def k_X9_comesFrom : zM := (yX9_comesFrom, cX9_comesFrom, 8, some .boolean)
theorem de_X9_comesFrom : k_X9_comesFrom.1.cls = k_X9_comesFrom.1.cls ∧ k_X9_comesFrom.1.cls ≠ "java/lang/invoke/MethodHandle" ∧ k_X9_comesFrom.1.cls ≠ "java/lang/invoke/VarHandle" ∧ (parseMethodDescriptor k_X9_comesFrom.1.desc).map (fun d => d.parameters.length) = some 3 := ⟨rfl, by decide +kernel, by decide +kernel, by decide +kernel⟩
def k_X9_lastFrom : zM := (yX9_lastFrom, cX9_lastFrom, 5, some .int)
theorem de_X9_lastFrom : k_X9_lastFrom.1.cls = k_X9_lastFrom.1.cls ∧ k_X9_lastFrom.1.cls ≠ "java/lang/invoke/MethodHandle" ∧ k_X9_lastFrom.1.cls ≠ "java/lang/invoke/VarHandle" ∧ (parseMethodDescriptor k_X9_lastFrom.1.desc).map (fun d => d.parameters.length) = some 3 := ⟨rfl, by decide +kernel, by decide +kernel, by decide +kernel⟩
def k_X9_last : zM := (yX9_last, cX9_last, 4, some .int)
theorem de_X9_last : k_X9_last.1.cls = k_X9_last.1.cls ∧ k_X9_last.1.cls ≠ "java/lang/invoke/MethodHandle" ∧ k_X9_last.1.cls ≠ "java/lang/invoke/VarHandle" ∧ (parseMethodDescriptor k_X9_last.1.desc).map (fun d => d.parameters.length) = some 3 := ⟨rfl, by decide +kernel, by decide +kernel, by decide +kernel⟩
def k_X9_allWinds : zM := (yX9_allWinds, cX9_allWinds, 1, some .int)
theorem de_X9_allWinds : k_X9_allWinds.1.cls = k_X9_allWinds.1.cls ∧ k_X9_allWinds.1.cls ≠ "java/lang/invoke/MethodHandle" ∧ k_X9_allWinds.1.cls ≠ "java/lang/invoke/VarHandle" ∧ (parseMethodDescriptor k_X9_allWinds.1.desc).map (fun d => d.parameters.length) = some 0 := ⟨rfl, by decide +kernel, by decide +kernel, by decide +kernel⟩
def k_X9_chancesOf : zM := (yX9_chancesOf, cX9_chancesOf, 4, some .int)
theorem de_X9_chancesOf : k_X9_chancesOf.1.cls = k_X9_chancesOf.1.cls ∧ k_X9_chancesOf.1.cls ≠ "java/lang/invoke/MethodHandle" ∧ k_X9_chancesOf.1.cls ≠ "java/lang/invoke/VarHandle" ∧ (parseMethodDescriptor k_X9_chancesOf.1.desc).map (fun d => d.parameters.length) = some 1 := ⟨rfl, by decide +kernel, by decide +kernel, by decide +kernel⟩
def k_X9_byDark : zM := (yX9_byDark, cX9_byDark, 6, some .boolean)
theorem de_X9_byDark : k_X9_byDark.1.cls = k_X9_byDark.1.cls ∧ k_X9_byDark.1.cls ≠ "java/lang/invoke/MethodHandle" ∧ k_X9_byDark.1.cls ≠ "java/lang/invoke/VarHandle" ∧ (parseMethodDescriptor k_X9_byDark.1.desc).map (fun d => d.parameters.length) = some 4 := ⟨rfl, by decide +kernel, by decide +kernel, by decide +kernel⟩
def k_X9_best : zM := (yX9_best, cX9_best, 7, some .int)
theorem de_X9_best : k_X9_best.1.cls = k_X9_best.1.cls ∧ k_X9_best.1.cls ≠ "java/lang/invoke/MethodHandle" ∧ k_X9_best.1.cls ≠ "java/lang/invoke/VarHandle" ∧ (parseMethodDescriptor k_X9_best.1.desc).map (fun d => d.parameters.length) = some 4 := ⟨rfl, by decide +kernel, by decide +kernel, by decide +kernel⟩
def k_X9_days : zM := (yX9_days, cX9_days, 9, some .int)
theorem de_X9_days : k_X9_days.1.cls = k_X9_days.1.cls ∧ k_X9_days.1.cls ≠ "java/lang/invoke/MethodHandle" ∧ k_X9_days.1.cls ≠ "java/lang/invoke/VarHandle" ∧ (parseMethodDescriptor k_X9_days.1.desc).map (fun d => d.parameters.length) = some 3 := ⟨rfl, by decide +kernel, by decide +kernel, by decide +kernel⟩
def k_X9_two : zM := (yX9_two, cX9_two, 8, some .int)
theorem de_X9_two : k_X9_two.1.cls = k_X9_two.1.cls ∧ k_X9_two.1.cls ≠ "java/lang/invoke/MethodHandle" ∧ k_X9_two.1.cls ≠ "java/lang/invoke/VarHandle" ∧ (parseMethodDescriptor k_X9_two.1.desc).map (fun d => d.parameters.length) = some 5 := ⟨rfl, by decide +kernel, by decide +kernel, by decide +kernel⟩
def k_X9_soonOrNever : zM := (yX9_soonOrNever, cX9_soonOrNever, 5, some .int)
theorem de_X9_soonOrNever : k_X9_soonOrNever.1.cls = k_X9_soonOrNever.1.cls ∧ k_X9_soonOrNever.1.cls ≠ "java/lang/invoke/MethodHandle" ∧ k_X9_soonOrNever.1.cls ≠ "java/lang/invoke/VarHandle" ∧ (parseMethodDescriptor k_X9_soonOrNever.1.desc).map (fun d => d.parameters.length) = some 3 := ⟨rfl, by decide +kernel, by decide +kernel, by decide +kernel⟩
def k_X9_worth : zM := (yX9_worth, cX9_worth, 7, some .int)
theorem de_X9_worth : k_X9_worth.1.cls = k_X9_worth.1.cls ∧ k_X9_worth.1.cls ≠ "java/lang/invoke/MethodHandle" ∧ k_X9_worth.1.cls ≠ "java/lang/invoke/VarHandle" ∧ (parseMethodDescriptor k_X9_worth.1.desc).map (fun d => d.parameters.length) = some 4 := ⟨rfl, by decide +kernel, by decide +kernel, by decide +kernel⟩
def k_X9_isSooner : zM := (yX9_isSooner, cX9_isSooner, 8, some .boolean)
theorem de_X9_isSooner : k_X9_isSooner.1.cls = k_X9_isSooner.1.cls ∧ k_X9_isSooner.1.cls ≠ "java/lang/invoke/MethodHandle" ∧ k_X9_isSooner.1.cls ≠ "java/lang/invoke/VarHandle" ∧ (parseMethodDescriptor k_X9_isSooner.1.desc).map (fun d => d.parameters.length) = some 6 := ⟨rfl, by decide +kernel, by decide +kernel, by decide +kernel⟩
def k_X9_higher : zM := (yX9_higher, cX9_higher, 9, some .int)
theorem de_X9_higher : k_X9_higher.1.cls = k_X9_higher.1.cls ∧ k_X9_higher.1.cls ≠ "java/lang/invoke/MethodHandle" ∧ k_X9_higher.1.cls ≠ "java/lang/invoke/VarHandle" ∧ (parseMethodDescriptor k_X9_higher.1.desc).map (fun d => d.parameters.length) = some 4 := ⟨rfl, by decide +kernel, by decide +kernel, by decide +kernel⟩
def k_X9_must : zM := (yX9_must, cX9_must, 6, some .int)
theorem de_X9_must : k_X9_must.1.cls = k_X9_must.1.cls ∧ k_X9_must.1.cls ≠ "java/lang/invoke/MethodHandle" ∧ k_X9_must.1.cls ≠ "java/lang/invoke/VarHandle" ∧ (parseMethodDescriptor k_X9_must.1.desc).map (fun d => d.parameters.length) = some 3 := ⟨rfl, by decide +kernel, by decide +kernel, by decide +kernel⟩
def k_X9_move : zM := (yX9_move, cX9_move, 2, some .int)
theorem de_X9_move : k_X9_move.1.cls = k_X9_move.1.cls ∧ k_X9_move.1.cls ≠ "java/lang/invoke/MethodHandle" ∧ k_X9_move.1.cls ≠ "java/lang/invoke/VarHandle" ∧ (parseMethodDescriptor k_X9_move.1.desc).map (fun d => d.parameters.length) = some 1 := ⟨rfl, by decide +kernel, by decide +kernel, by decide +kernel⟩
def k_X9_moves : zM := (yX9_moves, cX9_moves, 6, some .int)
theorem de_X9_moves : k_X9_moves.1.cls = k_X9_moves.1.cls ∧ k_X9_moves.1.cls ≠ "java/lang/invoke/MethodHandle" ∧ k_X9_moves.1.cls ≠ "java/lang/invoke/VarHandle" ∧ (parseMethodDescriptor k_X9_moves.1.desc).map (fun d => d.parameters.length) = some 3 := ⟨rfl, by decide +kernel, by decide +kernel, by decide +kernel⟩
def k_X9_drop : zM := (yX9_drop, cX9_drop, 2, some .int)
theorem de_X9_drop : k_X9_drop.1.cls = k_X9_drop.1.cls ∧ k_X9_drop.1.cls ≠ "java/lang/invoke/MethodHandle" ∧ k_X9_drop.1.cls ≠ "java/lang/invoke/VarHandle" ∧ (parseMethodDescriptor k_X9_drop.1.desc).map (fun d => d.parameters.length) = some 0 := ⟨rfl, by decide +kernel, by decide +kernel, by decide +kernel⟩
def k_X9_doesMove : zM := (yX9_doesMove, cX9_doesMove, 3, some .boolean)
theorem de_X9_doesMove : k_X9_doesMove.1.cls = k_X9_doesMove.1.cls ∧ k_X9_doesMove.1.cls ≠ "java/lang/invoke/MethodHandle" ∧ k_X9_doesMove.1.cls ≠ "java/lang/invoke/VarHandle" ∧ (parseMethodDescriptor k_X9_doesMove.1.desc).map (fun d => d.parameters.length) = some 1 := ⟨rfl, by decide +kernel, by decide +kernel, by decide +kernel⟩
def k_X9_goPlan : zM := (yX9_goPlan, cX9_goPlan, 5, some .int)
theorem de_X9_goPlan : k_X9_goPlan.1.cls = k_X9_goPlan.1.cls ∧ k_X9_goPlan.1.cls ≠ "java/lang/invoke/MethodHandle" ∧ k_X9_goPlan.1.cls ≠ "java/lang/invoke/VarHandle" ∧ (parseMethodDescriptor k_X9_goPlan.1.desc).map (fun d => d.parameters.length) = some 3 := ⟨rfl, by decide +kernel, by decide +kernel, by decide +kernel⟩
def k_X9_judge : zM := (yX9_judge, cX9_judge, 6, some .int)
theorem de_X9_judge : k_X9_judge.1.cls = k_X9_judge.1.cls ∧ k_X9_judge.1.cls ≠ "java/lang/invoke/MethodHandle" ∧ k_X9_judge.1.cls ≠ "java/lang/invoke/VarHandle" ∧ (parseMethodDescriptor k_X9_judge.1.desc).map (fun d => d.parameters.length) = some 4 := ⟨rfl, by decide +kernel, by decide +kernel, by decide +kernel⟩
def k_X9_wet : zM := (yX9_wet, cX9_wet, 6, some .int)
theorem de_X9_wet : k_X9_wet.1.cls = k_X9_wet.1.cls ∧ k_X9_wet.1.cls ≠ "java/lang/invoke/MethodHandle" ∧ k_X9_wet.1.cls ≠ "java/lang/invoke/VarHandle" ∧ (parseMethodDescriptor k_X9_wet.1.desc).map (fun d => d.parameters.length) = some 3 := ⟨rfl, by decide +kernel, by decide +kernel, by decide +kernel⟩
def k_X9_chance : zM := (yX9_chance, cX9_chance, 5, some .int)
theorem de_X9_chance : k_X9_chance.1.cls = k_X9_chance.1.cls ∧ k_X9_chance.1.cls ≠ "java/lang/invoke/MethodHandle" ∧ k_X9_chance.1.cls ≠ "java/lang/invoke/VarHandle" ∧ (parseMethodDescriptor k_X9_chance.1.desc).map (fun d => d.parameters.length) = some 2 := ⟨rfl, by decide +kernel, by decide +kernel, by decide +kernel⟩
def k_X9_mark : zM := (yX9_mark, cX9_mark, 2, some .int)
theorem de_X9_mark : k_X9_mark.1.cls = k_X9_mark.1.cls ∧ k_X9_mark.1.cls ≠ "java/lang/invoke/MethodHandle" ∧ k_X9_mark.1.cls ≠ "java/lang/invoke/VarHandle" ∧ (parseMethodDescriptor k_X9_mark.1.desc).map (fun d => d.parameters.length) = some 1 := ⟨rfl, by decide +kernel, by decide +kernel, by decide +kernel⟩
def k_X9_unmark : zM := (yX9_unmark, cX9_unmark, 2, some .int)
theorem de_X9_unmark : k_X9_unmark.1.cls = k_X9_unmark.1.cls ∧ k_X9_unmark.1.cls ≠ "java/lang/invoke/MethodHandle" ∧ k_X9_unmark.1.cls ≠ "java/lang/invoke/VarHandle" ∧ (parseMethodDescriptor k_X9_unmark.1.desc).map (fun d => d.parameters.length) = some 0 := ⟨rfl, by decide +kernel, by decide +kernel, by decide +kernel⟩
def k_X9_old : zM := (yX9_old, cX9_old, 6, some .int)
theorem de_X9_old : k_X9_old.1.cls = k_X9_old.1.cls ∧ k_X9_old.1.cls ≠ "java/lang/invoke/MethodHandle" ∧ k_X9_old.1.cls ≠ "java/lang/invoke/VarHandle" ∧ (parseMethodDescriptor k_X9_old.1.desc).map (fun d => d.parameters.length) = some 1 := ⟨rfl, by decide +kernel, by decide +kernel, by decide +kernel⟩
def k_X9_isBody : zM := (yX9_isBody, cX9_isBody, 2, some .boolean)
theorem de_X9_isBody : k_X9_isBody.1.cls = k_X9_isBody.1.cls ∧ k_X9_isBody.1.cls ≠ "java/lang/invoke/MethodHandle" ∧ k_X9_isBody.1.cls ≠ "java/lang/invoke/VarHandle" ∧ (parseMethodDescriptor k_X9_isBody.1.desc).map (fun d => d.parameters.length) = some 1 := ⟨rfl, by decide +kernel, by decide +kernel, by decide +kernel⟩
def k_X9_kindOf : zM := (yX9_kindOf, cX9_kindOf, 2, some .int)
theorem de_X9_kindOf : k_X9_kindOf.1.cls = k_X9_kindOf.1.cls ∧ k_X9_kindOf.1.cls ≠ "java/lang/invoke/MethodHandle" ∧ k_X9_kindOf.1.cls ≠ "java/lang/invoke/VarHandle" ∧ (parseMethodDescriptor k_X9_kindOf.1.desc).map (fun d => d.parameters.length) = some 1 := ⟨rfl, by decide +kernel, by decide +kernel, by decide +kernel⟩
def k_X9_body : zM := (yX9_body, cX9_body, 2, some .int)
theorem de_X9_body : k_X9_body.1.cls = k_X9_body.1.cls ∧ k_X9_body.1.cls ≠ "java/lang/invoke/MethodHandle" ∧ k_X9_body.1.cls ≠ "java/lang/invoke/VarHandle" ∧ (parseMethodDescriptor k_X9_body.1.desc).map (fun d => d.parameters.length) = some 1 := ⟨rfl, by decide +kernel, by decide +kernel, by decide +kernel⟩
def k_X9_above : zM := (yX9_above, cX9_above, 1, some .int)
theorem de_X9_above : k_X9_above.1.cls ≠ "java/lang/invoke/MethodHandle" ∧ k_X9_above.1.cls ≠ "java/lang/invoke/VarHandle" ∧ (parseMethodDescriptor k_X9_above.1.desc).map (fun d => d.parameters.length) = some 1 := ⟨by decide +kernel, by decide +kernel, by decide +kernel⟩
def k_X9_begins : zM := (yX9_begins, cX9_begins, 2, none)
theorem de_X9_begins : k_X9_begins.1.cls = k_X9_begins.1.cls ∧ k_X9_begins.1.cls ≠ "java/lang/invoke/MethodHandle" ∧ k_X9_begins.1.cls ≠ "java/lang/invoke/VarHandle" ∧ (parseMethodDescriptor k_X9_begins.1.desc).map (fun d => d.parameters.length) = some 1 := ⟨rfl, by decide +kernel, by decide +kernel, by decide +kernel⟩
def k_X9_goesAs : zM := (yX9_goesAs, cX9_goesAs, 3, some .int)
theorem de_X9_goesAs : k_X9_goesAs.1.cls = k_X9_goesAs.1.cls ∧ k_X9_goesAs.1.cls ≠ "java/lang/invoke/MethodHandle" ∧ k_X9_goesAs.1.cls ≠ "java/lang/invoke/VarHandle" ∧ (parseMethodDescriptor k_X9_goesAs.1.desc).map (fun d => d.parameters.length) = some 2 := ⟨rfl, by decide +kernel, by decide +kernel, by decide +kernel⟩
def k_X9_waitsAs : zM := (yX9_waitsAs, cX9_waitsAs, 4, some .int)
theorem de_X9_waitsAs : k_X9_waitsAs.1.cls = k_X9_waitsAs.1.cls ∧ k_X9_waitsAs.1.cls ≠ "java/lang/invoke/MethodHandle" ∧ k_X9_waitsAs.1.cls ≠ "java/lang/invoke/VarHandle" ∧ (parseMethodDescriptor k_X9_waitsAs.1.desc).map (fun d => d.parameters.length) = some 2 := ⟨rfl, by decide +kernel, by decide +kernel, by decide +kernel⟩
def k_X9_wetsAs : zM := (yX9_wetsAs, cX9_wetsAs, 4, some .int)
theorem de_X9_wetsAs : k_X9_wetsAs.1.cls = k_X9_wetsAs.1.cls ∧ k_X9_wetsAs.1.cls ≠ "java/lang/invoke/MethodHandle" ∧ k_X9_wetsAs.1.cls ≠ "java/lang/invoke/VarHandle" ∧ (parseMethodDescriptor k_X9_wetsAs.1.desc).map (fun d => d.parameters.length) = some 2 := ⟨rfl, by decide +kernel, by decide +kernel, by decide +kernel⟩
def k_X9_tellsAs : zM := (yX9_tellsAs, cX9_tellsAs, 4, some .int)
theorem de_X9_tellsAs : k_X9_tellsAs.1.cls = k_X9_tellsAs.1.cls ∧ k_X9_tellsAs.1.cls ≠ "java/lang/invoke/MethodHandle" ∧ k_X9_tellsAs.1.cls ≠ "java/lang/invoke/VarHandle" ∧ (parseMethodDescriptor k_X9_tellsAs.1.desc).map (fun d => d.parameters.length) = some 2 := ⟨rfl, by decide +kernel, by decide +kernel, by decide +kernel⟩
def k_X9_act : zM := (yX9_act, cX9_act, 4, some .int)
theorem de_X9_act : k_X9_act.1.cls = k_X9_act.1.cls ∧ k_X9_act.1.cls ≠ "java/lang/invoke/MethodHandle" ∧ k_X9_act.1.cls ≠ "java/lang/invoke/VarHandle" ∧ (parseMethodDescriptor k_X9_act.1.desc).map (fun d => d.parameters.length) = some 3 := ⟨rfl, by decide +kernel, by decide +kernel, by decide +kernel⟩
def k_X9_trace : zM := (yX9_trace, cX9_trace, 2, some .int)
theorem de_X9_trace : k_X9_trace.1.cls = k_X9_trace.1.cls ∧ k_X9_trace.1.cls ≠ "java/lang/invoke/MethodHandle" ∧ k_X9_trace.1.cls ≠ "java/lang/invoke/VarHandle" ∧ (parseMethodDescriptor k_X9_trace.1.desc).map (fun d => d.parameters.length) = some 1 := ⟨rfl, by decide +kernel, by decide +kernel, by decide +kernel⟩
def k_X9_isShelf : zM := (yX9_isShelf, cX9_isShelf, 1, some .boolean)
theorem de_X9_isShelf : k_X9_isShelf.1.cls ≠ "java/lang/invoke/MethodHandle" ∧ k_X9_isShelf.1.cls ≠ "java/lang/invoke/VarHandle" ∧ (parseMethodDescriptor k_X9_isShelf.1.desc).map (fun d => d.parameters.length) = some 1 := ⟨by decide +kernel, by decide +kernel, by decide +kernel⟩
def k_X9_keep : zM := (yX9_keep, cX9_keep, 3, some .int)
theorem de_X9_keep : k_X9_keep.1.cls = k_X9_keep.1.cls ∧ k_X9_keep.1.cls ≠ "java/lang/invoke/MethodHandle" ∧ k_X9_keep.1.cls ≠ "java/lang/invoke/VarHandle" ∧ (parseMethodDescriptor k_X9_keep.1.desc).map (fun d => d.parameters.length) = some 2 := ⟨rfl, by decide +kernel, by decide +kernel, by decide +kernel⟩
def k_X9_row : zM := (yX9_row, cX9_row, 5, some .int)
theorem de_X9_row : k_X9_row.1.cls = k_X9_row.1.cls ∧ k_X9_row.1.cls ≠ "java/lang/invoke/MethodHandle" ∧ k_X9_row.1.cls ≠ "java/lang/invoke/VarHandle" ∧ (parseMethodDescriptor k_X9_row.1.desc).map (fun d => d.parameters.length) = some 3 := ⟨rfl, by decide +kernel, by decide +kernel, by decide +kernel⟩
def k_X9_refusal : zM := (yX9_refusal, cX9_refusal, 3, some .int)
theorem de_X9_refusal : k_X9_refusal.1.cls = k_X9_refusal.1.cls ∧ k_X9_refusal.1.cls ≠ "java/lang/invoke/MethodHandle" ∧ k_X9_refusal.1.cls ≠ "java/lang/invoke/VarHandle" ∧ (parseMethodDescriptor k_X9_refusal.1.desc).map (fun d => d.parameters.length) = some 2 := ⟨rfl, by decide +kernel, by decide +kernel, by decide +kernel⟩
def k_X9_asSort : zM := (yX9_asSort, cX9_asSort, 3, some .long)
theorem de_X9_asSort : k_X9_asSort.1.cls ≠ "java/lang/invoke/MethodHandle" ∧ k_X9_asSort.1.cls ≠ "java/lang/invoke/VarHandle" ∧ (parseMethodDescriptor k_X9_asSort.1.desc).map (fun d => d.parameters.length) = some 2 := ⟨by decide +kernel, by decide +kernel, by decide +kernel⟩
def k_X9_put : zM := (yX9_put, cX9_put, 6, some .int)
theorem de_X9_put : k_X9_put.1.cls = k_X9_put.1.cls ∧ k_X9_put.1.cls ≠ "java/lang/invoke/MethodHandle" ∧ k_X9_put.1.cls ≠ "java/lang/invoke/VarHandle" ∧ (parseMethodDescriptor k_X9_put.1.desc).map (fun d => d.parameters.length) = some 3 := ⟨rfl, by decide +kernel, by decide +kernel, by decide +kernel⟩
def k_X9_element : zM := (yX9_element, cX9_element, 3, some .long)
theorem de_X9_element : k_X9_element.1.cls = k_X9_element.1.cls ∧ k_X9_element.1.cls ≠ "java/lang/invoke/MethodHandle" ∧ k_X9_element.1.cls ≠ "java/lang/invoke/VarHandle" ∧ (parseMethodDescriptor k_X9_element.1.desc).map (fun d => d.parameters.length) = some 2 := ⟨rfl, by decide +kernel, by decide +kernel, by decide +kernel⟩
def k_X9_shift : zM := (yX9_shift, cX9_shift, 7, some .int)
theorem de_X9_shift : k_X9_shift.1.cls = k_X9_shift.1.cls ∧ k_X9_shift.1.cls ≠ "java/lang/invoke/MethodHandle" ∧ k_X9_shift.1.cls ≠ "java/lang/invoke/VarHandle" ∧ (parseMethodDescriptor k_X9_shift.1.desc).map (fun d => d.parameters.length) = some 5 := ⟨rfl, by decide +kernel, by decide +kernel, by decide +kernel⟩
def k_X9_taken : zM := (yX9_taken, cX9_taken, 4, some .int)
theorem de_X9_taken : k_X9_taken.1.cls = k_X9_taken.1.cls ∧ k_X9_taken.1.cls ≠ "java/lang/invoke/MethodHandle" ∧ k_X9_taken.1.cls ≠ "java/lang/invoke/VarHandle" ∧ (parseMethodDescriptor k_X9_taken.1.desc).map (fun d => d.parameters.length) = some 2 := ⟨rfl, by decide +kernel, by decide +kernel, by decide +kernel⟩
def k_X9_count : zM := (yX9_count, cX9_count, 2, some .int)
theorem de_X9_count : k_X9_count.1.cls = k_X9_count.1.cls ∧ k_X9_count.1.cls ≠ "java/lang/invoke/MethodHandle" ∧ k_X9_count.1.cls ≠ "java/lang/invoke/VarHandle" ∧ (parseMethodDescriptor k_X9_count.1.desc).map (fun d => d.parameters.length) = some 1 := ⟨rfl, by decide +kernel, by decide +kernel, by decide +kernel⟩
def k_J7_fill_d0a16 : zM := (yJ7_fill_d0a16, cJ7_fill_d0a16, 5, none)
theorem de_J7_fill_d0a16 : k_J7_fill_d0a16.1.cls ≠ "java/lang/invoke/MethodHandle" ∧ k_J7_fill_d0a16.1.cls ≠ "java/lang/invoke/VarHandle" ∧ (parseMethodDescriptor k_J7_fill_d0a16.1.desc).map (fun d => d.parameters.length) = some 2 := ⟨by decide +kernel, by decide +kernel, by decide +kernel⟩
def k_J7_fill_53178 : zM := (yJ7_fill_53178, cJ7_fill_53178, 4, none)
theorem de_J7_fill_53178 : k_J7_fill_53178.1.cls ≠ "java/lang/invoke/MethodHandle" ∧ k_J7_fill_53178.1.cls ≠ "java/lang/invoke/VarHandle" ∧ (parseMethodDescriptor k_J7_fill_53178.1.desc).map (fun d => d.parameters.length) = some 2 := ⟨by decide +kernel, by decide +kernel, by decide +kernel⟩
end
section
def T_X0_add : List (Nat × zO) := [(0, o_aload 1 0), (1, o_getf 4 0 0), (4, o_aload 5 0), (5, o_getf 8 0 1), (8, o_iload 9 1), (9, o_iast 10), (10, o_aload 11 0), (11, o_dup 12), (12, o_getf 15 0 1), (15, o_const 16 1), (16, o_iadd 17), (17, o_putf 20 0 1), (20, o_aload 21 0), (21, o_getf 24 0 1), (24, o_const 25 1), (25, o_isub 26), (26, o_iret)]
set_option maxRecDepth 20000 in
theorem t_X0_add : ∀ q ∈ T_X0_add, zS k_X0_add q.1 q.2 := by
  unfold T_X0_add
  refine List.forall_mem_cons.mpr ⟨s_aload_n (j := 0) (by decide +kernel) rfl rfl, ?_⟩
  refine List.forall_mem_cons.mpr ⟨s_getf (idx := 9) (C := RX0) (T := TX0) (N := 5) rfl inX0 (by decide) q2_26 (by decide +kernel) rfl, ?_⟩
  refine List.forall_mem_cons.mpr ⟨s_aload_n (j := 0) (by decide +kernel) rfl rfl, ?_⟩
  refine List.forall_mem_cons.mpr ⟨s_getf (idx := 18) (C := RX0) (T := TX0) (N := 5) rfl inX0 (by decide) q2_28 (by decide +kernel) rfl, ?_⟩
  refine List.forall_mem_cons.mpr ⟨s_iload_n (j := 1) (by decide +kernel) rfl rfl, ?_⟩
  refine List.forall_mem_cons.mpr ⟨s_iast (by decide +kernel) rfl, ?_⟩
  refine List.forall_mem_cons.mpr ⟨s_aload_n (j := 0) (by decide +kernel) rfl rfl, ?_⟩
  refine List.forall_mem_cons.mpr ⟨s_dup (by decide +kernel) rfl, ?_⟩
  refine List.forall_mem_cons.mpr ⟨s_getf (idx := 18) (C := RX0) (T := TX0) (N := 5) rfl inX0 (by decide) q2_28 (by decide +kernel) rfl, ?_⟩
  refine List.forall_mem_cons.mpr ⟨s_iconst (by decide +kernel) rfl, ?_⟩
  refine List.forall_mem_cons.mpr ⟨s_iadd (by decide +kernel) rfl, ?_⟩
  refine List.forall_mem_cons.mpr ⟨s_putf (idx := 18) (C := RX0) (T := TX0) (N := 5) rfl inX0 tyX0_ok nmX0 (by decide) rfl (tyX0_ok 1 (by decide)) (Or.inl ⟨rfl, kdI 0 1 (by decide)⟩) q2_28 (by decide +kernel) rfl, ?_⟩
  refine List.forall_mem_cons.mpr ⟨s_aload_n (j := 0) (by decide +kernel) rfl rfl, ?_⟩
  refine List.forall_mem_cons.mpr ⟨s_getf (idx := 18) (C := RX0) (T := TX0) (N := 5) rfl inX0 (by decide) q2_28 (by decide +kernel) rfl, ?_⟩
  refine List.forall_mem_cons.mpr ⟨s_iconst (by decide +kernel) rfl, ?_⟩
  refine List.forall_mem_cons.mpr ⟨s_isub (by decide +kernel) rfl, ?_⟩
  refine List.forall_mem_cons.mpr ⟨s_iret rfl (by decide +kernel), ?_⟩
  exact fun q hq => absurd hq List.not_mem_nil
def T_X0_isOrUnder : List (Nat × zO) := [(0, o_iload 1 0), (1, o_istore 2 2), (2, o_const 3 0), (3, o_istore 4 3), (4, o_iload 5 3), (5, o_const 7 7), (7, o_icmp_ge 33 10), (10, o_iload 11 2), (11, o_if_lt 33 14), (14, o_iload 15 2), (15, o_iload 16 1), (16, o_icmp_ne 21 19), (19, o_const 20 1), (20, o_zret), (21, o_gets 24 90), (24, o_iload 25 2), (25, o_tald 26), (26, o_istore 27 2), (27, o_iinc 30 3 1), (30, o_goto 4), (33, o_const 34 0), (34, o_zret)]
set_option maxRecDepth 20000 in
theorem t_X0_isOrUnder : ∀ q ∈ T_X0_isOrUnder, zS k_X0_isOrUnder q.1 q.2 := by
  unfold T_X0_isOrUnder
  refine List.forall_mem_cons.mpr ⟨s_iload_n (j := 0) (by decide +kernel) rfl rfl, ?_⟩
  refine List.forall_mem_cons.mpr ⟨s_istore_n (j := 2) (by decide +kernel) rfl (by decide) rfl, ?_⟩
  refine List.forall_mem_cons.mpr ⟨s_iconst (by decide +kernel) rfl, ?_⟩
  refine List.forall_mem_cons.mpr ⟨s_istore_n (j := 3) (by decide +kernel) rfl (by decide) rfl, ?_⟩
  refine List.forall_mem_cons.mpr ⟨s_iload_n (j := 3) (by decide +kernel) rfl rfl, ?_⟩
  refine List.forall_mem_cons.mpr ⟨s_bipush (by decide +kernel) (by decide) rfl, ?_⟩
  refine List.forall_mem_cons.mpr ⟨s_icmp_ge (off := 26) (by decide +kernel) (by decide) rfl, ?_⟩
  refine List.forall_mem_cons.mpr ⟨s_iload_n (j := 2) (by decide +kernel) rfl rfl, ?_⟩
  refine List.forall_mem_cons.mpr ⟨s_if_lt (off := 22) (by decide +kernel) (by decide) rfl, ?_⟩
  refine List.forall_mem_cons.mpr ⟨s_iload_n (j := 2) (by decide +kernel) rfl rfl, ?_⟩
  refine List.forall_mem_cons.mpr ⟨s_iload_n (j := 1) (by decide +kernel) rfl rfl, ?_⟩
  refine List.forall_mem_cons.mpr ⟨s_icmp_ne (off := 5) (by decide +kernel) (by decide) rfl, ?_⟩
  refine List.forall_mem_cons.mpr ⟨s_iconst (by decide +kernel) rfl, ?_⟩
  refine List.forall_mem_cons.mpr ⟨s_zret rfl (by decide +kernel), ?_⟩
  refine List.forall_mem_cons.mpr ⟨s_getsA (idx := 22) q4_33 (by decide +kernel) rfl, ?_⟩
  refine List.forall_mem_cons.mpr ⟨s_iload_n (j := 2) (by decide +kernel) rfl rfl, ?_⟩
  refine List.forall_mem_cons.mpr ⟨s_tald (by decide +kernel) rfl, ?_⟩
  refine List.forall_mem_cons.mpr ⟨s_istore_n (j := 2) (by decide +kernel) rfl (by decide) rfl, ?_⟩
  refine List.forall_mem_cons.mpr ⟨s_iinc (by decide +kernel) (by decide) rfl, ?_⟩
  refine List.forall_mem_cons.mpr ⟨s_goto (off := (-26)) (by decide +kernel) (by decide), ?_⟩
  refine List.forall_mem_cons.mpr ⟨s_iconst (by decide +kernel) rfl, ?_⟩
  refine List.forall_mem_cons.mpr ⟨s_zret rfl (by decide +kernel), ?_⟩
  exact fun q hq => absurd hq List.not_mem_nil
def T_X0_perform : List (Nat × zO) := [(0, o_aload 1 0), (1, o_const 2 0), (2, o_putf 5 0 3), (5, o_iload 6 1), (6, o_const 7 0), (7, o_aload 8 0), (8, o_getf 11 0 1), (11, o_const 12 1), (12, o_isub 13), (13, o_calls 3 k_X8_within 16), (16, o_if_eq 28 19), (19, o_iload 20 2), (20, o_const 21 0), (21, o_const 22 3), (22, o_calls 3 k_X8_within 25), (25, o_if_ne 30 28), (28, o_const 29 0), (29, o_iret), (30, o_aload 31 0), (31, o_iload 32 1), (32, o_putf 35 0 4), (35, o_aload 36 0), (36, o_iload 37 2), (37, o_iload 38 3), (38, o_const 39 0), (39, o_callv 3 0 k_X0_own 42), (42, o_iret)]
set_option maxRecDepth 20000 in
theorem t_X0_perform : ∀ q ∈ T_X0_perform, zS k_X0_perform q.1 q.2 := by
  unfold T_X0_perform
  refine List.forall_mem_cons.mpr ⟨s_aload_n (j := 0) (by decide +kernel) rfl rfl, ?_⟩
  refine List.forall_mem_cons.mpr ⟨s_iconst (by decide +kernel) rfl, ?_⟩
  refine List.forall_mem_cons.mpr ⟨s_putf (idx := 25) (C := RX0) (T := TX0) (N := 5) rfl inX0 tyX0_ok nmX0 (by decide) rfl (tyX0_ok 3 (by decide)) (Or.inl ⟨rfl, kdI 0 3 (by decide)⟩) q2_32 (by decide +kernel) rfl, ?_⟩
  refine List.forall_mem_cons.mpr ⟨s_iload_n (j := 1) (by decide +kernel) rfl rfl, ?_⟩
  refine List.forall_mem_cons.mpr ⟨s_iconst (by decide +kernel) rfl, ?_⟩
  refine List.forall_mem_cons.mpr ⟨s_aload_n (j := 0) (by decide +kernel) rfl rfl, ?_⟩
  refine List.forall_mem_cons.mpr ⟨s_getf (idx := 18) (C := RX0) (T := TX0) (N := 5) rfl inX0 (by decide) q2_28 (by decide +kernel) rfl, ?_⟩
  refine List.forall_mem_cons.mpr ⟨s_iconst (by decide +kernel) rfl, ?_⟩
  refine List.forall_mem_cons.mpr ⟨s_isub (by decide +kernel) rfl, ?_⟩
  refine List.forall_mem_cons.mpr ⟨s_callsN (idx := 28) (k' := k_X8_within) rfl rfl rfl q2_145 q2_144 q1_1 de_X8_within (by decide) (by decide +kernel) rfl, ?_⟩
  refine List.forall_mem_cons.mpr ⟨s_if_eq (off := 12) (by decide +kernel) (by decide) rfl, ?_⟩
  refine List.forall_mem_cons.mpr ⟨s_iload_n (j := 2) (by decide +kernel) rfl rfl, ?_⟩
  refine List.forall_mem_cons.mpr ⟨s_iconst (by decide +kernel) rfl, ?_⟩
  refine List.forall_mem_cons.mpr ⟨s_iconst (by decide +kernel) rfl, ?_⟩
  refine List.forall_mem_cons.mpr ⟨s_callsN (idx := 28) (k' := k_X8_within) rfl rfl rfl q2_145 q2_144 q1_1 de_X8_within (by decide) (by decide +kernel) rfl, ?_⟩
  refine List.forall_mem_cons.mpr ⟨s_if_ne (off := 5) (by decide +kernel) (by decide) rfl, ?_⟩
  refine List.forall_mem_cons.mpr ⟨s_iconst (by decide +kernel) rfl, ?_⟩
  refine List.forall_mem_cons.mpr ⟨s_iret rfl (by decide +kernel), ?_⟩
  refine List.forall_mem_cons.mpr ⟨s_aload_n (j := 0) (by decide +kernel) rfl rfl, ?_⟩
  refine List.forall_mem_cons.mpr ⟨s_iload_n (j := 1) (by decide +kernel) rfl rfl, ?_⟩
  refine List.forall_mem_cons.mpr ⟨s_putf (idx := 32) (C := RX0) (T := TX0) (N := 5) rfl inX0 tyX0_ok nmX0 (by decide) rfl (tyX0_ok 4 (by decide)) (Or.inl ⟨rfl, kdI 0 4 (by decide)⟩) q2_34 (by decide +kernel) rfl, ?_⟩
  refine List.forall_mem_cons.mpr ⟨s_aload_n (j := 0) (by decide +kernel) rfl rfl, ?_⟩
  refine List.forall_mem_cons.mpr ⟨s_iload_n (j := 2) (by decide +kernel) rfl rfl, ?_⟩
  refine List.forall_mem_cons.mpr ⟨s_iload_n (j := 3) (by decide +kernel) rfl rfl, ?_⟩
  refine List.forall_mem_cons.mpr ⟨s_iconst (by decide +kernel) rfl, ?_⟩
  refine List.forall_mem_cons.mpr ⟨s_callv (idx := 35) (k' := k_X0_own) (T := TX0) (N := 5) rfl q4_26 q4_23 q4_25 qs_26 q1_8 de_X0_own (by decide) (by decide +kernel) rfl, ?_⟩
  refine List.forall_mem_cons.mpr ⟨s_iret rfl (by decide +kernel), ?_⟩
  exact fun q hq => absurd hq List.not_mem_nil
def T_X0_own : List (Nat × zO) := [(0, o_aload 1 0), (1, o_aload 2 0), (2, o_getf 5 0 0), (5, o_aload 6 0), (6, o_getf 9 0 4), (9, o_iald 10), (10, o_iload 11 1), (11, o_iload 12 2), (12, o_iload 13 3), (13, o_callv 4 0 k_X0_from 16), (16, o_iret)]
set_option maxRecDepth 20000 in
theorem t_X0_own : ∀ q ∈ T_X0_own, zS k_X0_own q.1 q.2 := by
  unfold T_X0_own
  refine List.forall_mem_cons.mpr ⟨s_aload_n (j := 0) (by decide +kernel) rfl rfl, ?_⟩
  refine List.forall_mem_cons.mpr ⟨s_aload_n (j := 0) (by decide +kernel) rfl rfl, ?_⟩
  refine List.forall_mem_cons.mpr ⟨s_getf (idx := 9) (C := RX0) (T := TX0) (N := 5) rfl inX0 (by decide) q2_26 (by decide +kernel) rfl, ?_⟩
  refine List.forall_mem_cons.mpr ⟨s_aload_n (j := 0) (by decide +kernel) rfl rfl, ?_⟩
  refine List.forall_mem_cons.mpr ⟨s_getf (idx := 32) (C := RX0) (T := TX0) (N := 5) rfl inX0 (by decide) q2_34 (by decide +kernel) rfl, ?_⟩
  refine List.forall_mem_cons.mpr ⟨s_iald (by decide +kernel) rfl, ?_⟩
  refine List.forall_mem_cons.mpr ⟨s_iload_n (j := 1) (by decide +kernel) rfl rfl, ?_⟩
  refine List.forall_mem_cons.mpr ⟨s_iload_n (j := 2) (by decide +kernel) rfl rfl, ?_⟩
  refine List.forall_mem_cons.mpr ⟨s_iload_n (j := 3) (by decide +kernel) rfl rfl, ?_⟩
  refine List.forall_mem_cons.mpr ⟨s_callv (idx := 39) (k' := k_X0_from) (T := TX0) (N := 5) rfl q4_30 q4_27 q4_29 qs_27 q1_8 de_X0_from (by decide) (by decide +kernel) rfl, ?_⟩
  refine List.forall_mem_cons.mpr ⟨s_iret rfl (by decide +kernel), ?_⟩
  exact fun q hq => absurd hq List.not_mem_nil
def T_X0_from : List (Nat × zO) := [(0, o_iload 1 1), (1, o_istore 3 5), (3, o_const 4 0), (4, o_istore 6 6), (6, o_iload 8 6), (8, o_const 10 7), (10, o_icmp_ge 45 13), (13, o_iload 15 5), (15, o_if_le 45 18), (18, o_gets 21 91), (21, o_const 22 4), (22, o_iload 24 5), (24, o_imul 25), (25, o_iload 26 2), (26, o_iadd 27), (27, o_tald 28), (28, o_if_ne 45 31), (31, o_gets 34 90), (34, o_iload 36 5), (36, o_tald 37), (37, o_istore 39 5), (39, o_iinc 42 6 1), (42, o_goto 6), (45, o_iload 47 5), (47, o_if_lt 57 50), (50, o_iload 52 4), (52, o_const 54 20), (54, o_icmp_le 61 57), (57, o_const 58 0), (58, o_goto 80), (61, o_aload 62 0), (62, o_gets 65 91), (65, o_const 66 4), (66, o_iload 68 5), (68, o_imul 69), (69, o_iload 70 2), (70, o_iadd 71), (71, o_tald 72), (72, o_iload 73 3), (73, o_iload 75 4), (75, o_const 76 1), (76, o_iadd 77), (77, o_callv 3 0 k_X0_run 80), (80, o_iret)]
set_option maxRecDepth 20000 in
theorem t_X0_from : ∀ q ∈ T_X0_from, zS k_X0_from q.1 q.2 := by
  unfold T_X0_from
  refine List.forall_mem_cons.mpr ⟨s_iload_n (j := 1) (by decide +kernel) rfl rfl, ?_⟩
  refine List.forall_mem_cons.mpr ⟨s_istore (by decide +kernel) (by decide) rfl, ?_⟩
  refine List.forall_mem_cons.mpr ⟨s_iconst (by decide +kernel) rfl, ?_⟩
  refine List.forall_mem_cons.mpr ⟨s_istore (by decide +kernel) (by decide) rfl, ?_⟩
  refine List.forall_mem_cons.mpr ⟨s_iload (by decide +kernel) rfl, ?_⟩
  refine List.forall_mem_cons.mpr ⟨s_bipush (by decide +kernel) (by decide) rfl, ?_⟩
  refine List.forall_mem_cons.mpr ⟨s_icmp_ge (off := 35) (by decide +kernel) (by decide) rfl, ?_⟩
  refine List.forall_mem_cons.mpr ⟨s_iload (by decide +kernel) rfl, ?_⟩
  refine List.forall_mem_cons.mpr ⟨s_if_le (off := 30) (by decide +kernel) (by decide) rfl, ?_⟩
  refine List.forall_mem_cons.mpr ⟨s_getsO (idx := 43) q4_31 (by decide +kernel) rfl, ?_⟩
  refine List.forall_mem_cons.mpr ⟨s_iconst (by decide +kernel) rfl, ?_⟩
  refine List.forall_mem_cons.mpr ⟨s_iload (by decide +kernel) rfl, ?_⟩
  refine List.forall_mem_cons.mpr ⟨s_imul (by decide +kernel) rfl, ?_⟩
  refine List.forall_mem_cons.mpr ⟨s_iload_n (j := 2) (by decide +kernel) rfl rfl, ?_⟩
  refine List.forall_mem_cons.mpr ⟨s_iadd (by decide +kernel) rfl, ?_⟩
  refine List.forall_mem_cons.mpr ⟨s_tald (by decide +kernel) rfl, ?_⟩
  refine List.forall_mem_cons.mpr ⟨s_if_ne (off := 17) (by decide +kernel) (by decide) rfl, ?_⟩
  refine List.forall_mem_cons.mpr ⟨s_getsA (idx := 22) q4_33 (by decide +kernel) rfl, ?_⟩
  refine List.forall_mem_cons.mpr ⟨s_iload (by decide +kernel) rfl, ?_⟩
  refine List.forall_mem_cons.mpr ⟨s_tald (by decide +kernel) rfl, ?_⟩
  refine List.forall_mem_cons.mpr ⟨s_istore (by decide +kernel) (by decide) rfl, ?_⟩
  refine List.forall_mem_cons.mpr ⟨s_iinc (by decide +kernel) (by decide) rfl, ?_⟩
  refine List.forall_mem_cons.mpr ⟨s_goto (off := (-36)) (by decide +kernel) (by decide), ?_⟩
  refine List.forall_mem_cons.mpr ⟨s_iload (by decide +kernel) rfl, ?_⟩
  refine List.forall_mem_cons.mpr ⟨s_if_lt (off := 10) (by decide +kernel) (by decide) rfl, ?_⟩
  refine List.forall_mem_cons.mpr ⟨s_iload (by decide +kernel) rfl, ?_⟩
  refine List.forall_mem_cons.mpr ⟨s_bipush (by decide +kernel) (by decide) rfl, ?_⟩
  refine List.forall_mem_cons.mpr ⟨s_icmp_le (off := 7) (by decide +kernel) (by decide) rfl, ?_⟩
  refine List.forall_mem_cons.mpr ⟨s_iconst (by decide +kernel) rfl, ?_⟩
  refine List.forall_mem_cons.mpr ⟨s_goto (off := 22) (by decide +kernel) (by decide), ?_⟩
  refine List.forall_mem_cons.mpr ⟨s_aload_n (j := 0) (by decide +kernel) rfl rfl, ?_⟩
  refine List.forall_mem_cons.mpr ⟨s_getsO (idx := 43) q4_31 (by decide +kernel) rfl, ?_⟩
  refine List.forall_mem_cons.mpr ⟨s_iconst (by decide +kernel) rfl, ?_⟩
  refine List.forall_mem_cons.mpr ⟨s_iload (by decide +kernel) rfl, ?_⟩
  refine List.forall_mem_cons.mpr ⟨s_imul (by decide +kernel) rfl, ?_⟩
  refine List.forall_mem_cons.mpr ⟨s_iload_n (j := 2) (by decide +kernel) rfl rfl, ?_⟩
  refine List.forall_mem_cons.mpr ⟨s_iadd (by decide +kernel) rfl, ?_⟩
  refine List.forall_mem_cons.mpr ⟨s_tald (by decide +kernel) rfl, ?_⟩
  refine List.forall_mem_cons.mpr ⟨s_iload_n (j := 3) (by decide +kernel) rfl rfl, ?_⟩
  refine List.forall_mem_cons.mpr ⟨s_iload (by decide +kernel) rfl, ?_⟩
  refine List.forall_mem_cons.mpr ⟨s_iconst (by decide +kernel) rfl, ?_⟩
  refine List.forall_mem_cons.mpr ⟨s_iadd (by decide +kernel) rfl, ?_⟩
  refine List.forall_mem_cons.mpr ⟨s_callv (idx := 46) (k' := k_X0_run) (T := TX0) (N := 5) rfl q4_38 q4_35 q4_37 qs_28 q1_8 de_X0_run (by decide) (by decide +kernel) rfl, ?_⟩
  refine List.forall_mem_cons.mpr ⟨s_iret rfl (by decide +kernel), ?_⟩
  exact fun q hq => absurd hq List.not_mem_nil
def T_X0_note : List (Nat × zO) := [(0, o_aload 1 0), (1, o_getf 4 0 3), (4, o_const 6 24), (6, o_icmp_ge 19 9), (9, o_aload 10 0), (10, o_getf 13 0 2), (13, o_aload 14 0), (14, o_getf 17 0 3), (17, o_iload 18 1), (18, o_iast 19), (19, o_aload 20 0), (20, o_dup 21), (21, o_getf 24 0 3), (24, o_const 25 1), (25, o_iadd 26), (26, o_putf 29 0 3), (29, o_vret)]
set_option maxRecDepth 20000 in
theorem t_X0_note : ∀ q ∈ T_X0_note, zS k_X0_note q.1 q.2 := by
  unfold T_X0_note
  refine List.forall_mem_cons.mpr ⟨s_aload_n (j := 0) (by decide +kernel) rfl rfl, ?_⟩
  refine List.forall_mem_cons.mpr ⟨s_getf (idx := 25) (C := RX0) (T := TX0) (N := 5) rfl inX0 (by decide) q2_32 (by decide +kernel) rfl, ?_⟩
  refine List.forall_mem_cons.mpr ⟨s_bipush (by decide +kernel) (by decide) rfl, ?_⟩
  refine List.forall_mem_cons.mpr ⟨s_icmp_ge (off := 13) (by decide +kernel) (by decide) rfl, ?_⟩
  refine List.forall_mem_cons.mpr ⟨s_aload_n (j := 0) (by decide +kernel) rfl rfl, ?_⟩
  refine List.forall_mem_cons.mpr ⟨s_getf (idx := 15) (C := RX0) (T := TX0) (N := 5) rfl inX0 (by decide) q2_30 (by decide +kernel) rfl, ?_⟩
  refine List.forall_mem_cons.mpr ⟨s_aload_n (j := 0) (by decide +kernel) rfl rfl, ?_⟩
  refine List.forall_mem_cons.mpr ⟨s_getf (idx := 25) (C := RX0) (T := TX0) (N := 5) rfl inX0 (by decide) q2_32 (by decide +kernel) rfl, ?_⟩
  refine List.forall_mem_cons.mpr ⟨s_iload_n (j := 1) (by decide +kernel) rfl rfl, ?_⟩
  refine List.forall_mem_cons.mpr ⟨s_iast (by decide +kernel) rfl, ?_⟩
  refine List.forall_mem_cons.mpr ⟨s_aload_n (j := 0) (by decide +kernel) rfl rfl, ?_⟩
  refine List.forall_mem_cons.mpr ⟨s_dup (by decide +kernel) rfl, ?_⟩
  refine List.forall_mem_cons.mpr ⟨s_getf (idx := 25) (C := RX0) (T := TX0) (N := 5) rfl inX0 (by decide) q2_32 (by decide +kernel) rfl, ?_⟩
  refine List.forall_mem_cons.mpr ⟨s_iconst (by decide +kernel) rfl, ?_⟩
  refine List.forall_mem_cons.mpr ⟨s_iadd (by decide +kernel) rfl, ?_⟩
  refine List.forall_mem_cons.mpr ⟨s_putf (idx := 25) (C := RX0) (T := TX0) (N := 5) rfl inX0 tyX0_ok nmX0 (by decide) rfl (tyX0_ok 3 (by decide)) (Or.inl ⟨rfl, kdI 0 3 (by decide)⟩) q2_32 (by decide +kernel) rfl, ?_⟩
  refine List.forall_mem_cons.mpr ⟨s_vret rfl (by decide +kernel), ?_⟩
  exact fun q hq => absurd hq List.not_mem_nil
def T_X0_run : List (Nat × zO) := [(0, o_aload 1 0), (1, o_iload 2 1), (2, o_callv 1 0 k_X0_note 5), (5, o_iload 6 1), (6, o_lsw [(1, 112), (2, 119), (10, 135), (11, 145), (20, 152), (30, 163), (40, 173), (41, 184), (50, 195), (60, 206), (61, 217), (70, 234)] 251), (112, o_iload 113 2), (113, o_aload 114 0), (114, o_getf 117 0 4), (117, o_iadd 118), (118, o_iret), (119, o_aload 120 0), (120, o_const 121 1), (121, o_iload 122 2), (122, o_iload 123 3), (123, o_callv 3 0 k_X0_own 126), (126, o_aload 127 0), (127, o_const 128 2), (128, o_const 129 1), (129, o_iload 130 3), (130, o_callv 3 0 k_X0_own 133), (133, o_isub 134), (134, o_iret), (135, o_aload 136 0), (136, o_const 137 0), (137, o_iload 138 2), (138, o_iload 139 3), (139, o_callv 3 0 k_X0_own 142), (142, o_const 143 2), (143, o_imul 144), (144, o_iret), (145, o_iload 146 2), (146, o_aload 147 0), (147, o_getf 150 0 4), (150, o_ixor 151), (151, o_iret), (152, o_aload 153 0), (153, o_const 154 0), (154, o_const 155 0), (155, o_iload 156 2), (156, o_iload 157 3), (157, o_callv 4 0 k_X0_from 160), (160, o_const 161 3), (161, o_iadd 162), (162, o_iret), (163, o_aload 164 0), (164, o_const 165 0), (165, o_const 166 1), (166, o_iload 167 2), (167, o_iload 168 3), (168, o_callv 4 0 k_X0_from 171), (171, o_ineg 172), (172, o_iret), (173, o_aload 174 0), (174, o_const 175 2), (175, o_const 176 2), (176, o_iload 177 2), (177, o_iload 178 3), (178, o_callv 4 0 k_X0_from 181), (181, o_const 182 3), (182, o_imul 183), (183, o_iret), (184, o_aload 185 0), (185, o_const 186 2), (186, o_const 187 1), (187, o_iload 188 2), (188, o_const 189 1), (189, o_iadd 190), (190, o_iload 191 3), (191, o_callv 4 0 k_X0_from 194), (194, o_iret), (195, o_aload 196 0), (196, o_const 197 0), (197, o_const 198 3), (198, o_iload 199 2), (199, o_iload 200 3), (200, o_callv 4 0 k_X0_from 203), (203, o_const 204 5), (204, o_ixor 205), (205, o_iret), (206, o_aload 207 0), (207, o_const 208 1), (208, o_const 209 0), (209, o_iload 210 2), (210, o_iload 211 3), (211, o_callv 4 0 k_X0_from 214), (214, o_const 215 2), (215, o_imul 216), (216, o_iret), (217, o_aload 218 0), (218, o_const 219 1), (219, o_const 220 2), (220, o_iload 221 2), (221, o_iload 222 3), (222, o_callv 4 0 k_X0_from 225), (225, o_aload 226 0), (226, o_const 227 0), (227, o_const 228 2), (228, o_iload 229 3), (229, o_callv 3 0 k_X0_own 232), (232, o_iadd 233), (233, o_iret), (234, o_aload 235 0), (235, o_const 236 0), (236, o_const 237 1), (237, o_iload 238 2), (238, o_iload 239 3), (239, o_callv 4 0 k_X0_from 242), (242, o_aload 243 0), (243, o_const 244 2), (244, o_const 245 2), (245, o_iload 246 3), (246, o_callv 3 0 k_X0_own 249), (249, o_isub 250), (250, o_iret), (251, o_const 252 0), (252, o_iret)]
set_option maxRecDepth 20000 in
theorem t_X0_run : ∀ q ∈ T_X0_run, zS k_X0_run q.1 q.2 := by
  unfold T_X0_run
  refine List.forall_mem_cons.mpr ⟨s_aload_n (j := 0) (by decide +kernel) rfl rfl, ?_⟩
  refine List.forall_mem_cons.mpr ⟨s_iload_n (j := 1) (by decide +kernel) rfl rfl, ?_⟩
  refine List.forall_mem_cons.mpr ⟨s_callv (idx := 49) (k' := k_X0_note) (T := TX0) (N := 5) rfl q4_42 q4_39 q4_41 qs_29 q1_8 de_X0_note (by decide) (by decide +kernel) rfl, ?_⟩
  refine List.forall_mem_cons.mpr ⟨s_iload_n (j := 1) (by decide +kernel) rfl rfl, ?_⟩
  refine List.forall_mem_cons.mpr ⟨s_lsw (dfo := 245) (os := #[(1, 106), (2, 113), (10, 129), (11, 139), (20, 146), (30, 157), (40, 167), (41, 178), (50, 189), (60, 200), (61, 211), (70, 228)]) (len := 106) (by decide +kernel) (by decide) (by decide) (by decide), ?_⟩
  refine List.forall_mem_cons.mpr ⟨s_iload_n (j := 2) (by decide +kernel) rfl rfl, ?_⟩
  refine List.forall_mem_cons.mpr ⟨s_aload_n (j := 0) (by decide +kernel) rfl rfl, ?_⟩
  refine List.forall_mem_cons.mpr ⟨s_getf (idx := 32) (C := RX0) (T := TX0) (N := 5) rfl inX0 (by decide) q2_34 (by decide +kernel) rfl, ?_⟩
  refine List.forall_mem_cons.mpr ⟨s_iadd (by decide +kernel) rfl, ?_⟩
  refine List.forall_mem_cons.mpr ⟨s_iret rfl (by decide +kernel), ?_⟩
  refine List.forall_mem_cons.mpr ⟨s_aload_n (j := 0) (by decide +kernel) rfl rfl, ?_⟩
  refine List.forall_mem_cons.mpr ⟨s_iconst (by decide +kernel) rfl, ?_⟩
  refine List.forall_mem_cons.mpr ⟨s_iload_n (j := 2) (by decide +kernel) rfl rfl, ?_⟩
  refine List.forall_mem_cons.mpr ⟨s_iload_n (j := 3) (by decide +kernel) rfl rfl, ?_⟩
  refine List.forall_mem_cons.mpr ⟨s_callv (idx := 35) (k' := k_X0_own) (T := TX0) (N := 5) rfl q4_26 q4_23 q4_25 qs_26 q1_8 de_X0_own (by decide) (by decide +kernel) rfl, ?_⟩
  refine List.forall_mem_cons.mpr ⟨s_aload_n (j := 0) (by decide +kernel) rfl rfl, ?_⟩
  refine List.forall_mem_cons.mpr ⟨s_iconst (by decide +kernel) rfl, ?_⟩
  refine List.forall_mem_cons.mpr ⟨s_iconst (by decide +kernel) rfl, ?_⟩
  refine List.forall_mem_cons.mpr ⟨s_iload_n (j := 3) (by decide +kernel) rfl rfl, ?_⟩
  refine List.forall_mem_cons.mpr ⟨s_callv (idx := 35) (k' := k_X0_own) (T := TX0) (N := 5) rfl q4_26 q4_23 q4_25 qs_26 q1_8 de_X0_own (by decide) (by decide +kernel) rfl, ?_⟩
  refine List.forall_mem_cons.mpr ⟨s_isub (by decide +kernel) rfl, ?_⟩
  refine List.forall_mem_cons.mpr ⟨s_iret rfl (by decide +kernel), ?_⟩
  refine List.forall_mem_cons.mpr ⟨s_aload_n (j := 0) (by decide +kernel) rfl rfl, ?_⟩
  refine List.forall_mem_cons.mpr ⟨s_iconst (by decide +kernel) rfl, ?_⟩
  refine List.forall_mem_cons.mpr ⟨s_iload_n (j := 2) (by decide +kernel) rfl rfl, ?_⟩
  refine List.forall_mem_cons.mpr ⟨s_iload_n (j := 3) (by decide +kernel) rfl rfl, ?_⟩
  refine List.forall_mem_cons.mpr ⟨s_callv (idx := 35) (k' := k_X0_own) (T := TX0) (N := 5) rfl q4_26 q4_23 q4_25 qs_26 q1_8 de_X0_own (by decide) (by decide +kernel) rfl, ?_⟩
  refine List.forall_mem_cons.mpr ⟨s_iconst (by decide +kernel) rfl, ?_⟩
  refine List.forall_mem_cons.mpr ⟨s_imul (by decide +kernel) rfl, ?_⟩
  refine List.forall_mem_cons.mpr ⟨s_iret rfl (by decide +kernel), ?_⟩
  refine List.forall_mem_cons.mpr ⟨s_iload_n (j := 2) (by decide +kernel) rfl rfl, ?_⟩
  refine List.forall_mem_cons.mpr ⟨s_aload_n (j := 0) (by decide +kernel) rfl rfl, ?_⟩
  refine List.forall_mem_cons.mpr ⟨s_getf (idx := 32) (C := RX0) (T := TX0) (N := 5) rfl inX0 (by decide) q2_34 (by decide +kernel) rfl, ?_⟩
  refine List.forall_mem_cons.mpr ⟨s_ixor (by decide +kernel) rfl, ?_⟩
  refine List.forall_mem_cons.mpr ⟨s_iret rfl (by decide +kernel), ?_⟩
  refine List.forall_mem_cons.mpr ⟨s_aload_n (j := 0) (by decide +kernel) rfl rfl, ?_⟩
  refine List.forall_mem_cons.mpr ⟨s_iconst (by decide +kernel) rfl, ?_⟩
  refine List.forall_mem_cons.mpr ⟨s_iconst (by decide +kernel) rfl, ?_⟩
  refine List.forall_mem_cons.mpr ⟨s_iload_n (j := 2) (by decide +kernel) rfl rfl, ?_⟩
  refine List.forall_mem_cons.mpr ⟨s_iload_n (j := 3) (by decide +kernel) rfl rfl, ?_⟩
  refine List.forall_mem_cons.mpr ⟨s_callv (idx := 39) (k' := k_X0_from) (T := TX0) (N := 5) rfl q4_30 q4_27 q4_29 qs_27 q1_8 de_X0_from (by decide) (by decide +kernel) rfl, ?_⟩
  refine List.forall_mem_cons.mpr ⟨s_iconst (by decide +kernel) rfl, ?_⟩
  refine List.forall_mem_cons.mpr ⟨s_iadd (by decide +kernel) rfl, ?_⟩
  refine List.forall_mem_cons.mpr ⟨s_iret rfl (by decide +kernel), ?_⟩
  refine List.forall_mem_cons.mpr ⟨s_aload_n (j := 0) (by decide +kernel) rfl rfl, ?_⟩
  refine List.forall_mem_cons.mpr ⟨s_iconst (by decide +kernel) rfl, ?_⟩
  refine List.forall_mem_cons.mpr ⟨s_iconst (by decide +kernel) rfl, ?_⟩
  refine List.forall_mem_cons.mpr ⟨s_iload_n (j := 2) (by decide +kernel) rfl rfl, ?_⟩
  refine List.forall_mem_cons.mpr ⟨s_iload_n (j := 3) (by decide +kernel) rfl rfl, ?_⟩
  refine List.forall_mem_cons.mpr ⟨s_callv (idx := 39) (k' := k_X0_from) (T := TX0) (N := 5) rfl q4_30 q4_27 q4_29 qs_27 q1_8 de_X0_from (by decide) (by decide +kernel) rfl, ?_⟩
  refine List.forall_mem_cons.mpr ⟨s_ineg (by decide +kernel) rfl, ?_⟩
  refine List.forall_mem_cons.mpr ⟨s_iret rfl (by decide +kernel), ?_⟩
  refine List.forall_mem_cons.mpr ⟨s_aload_n (j := 0) (by decide +kernel) rfl rfl, ?_⟩
  refine List.forall_mem_cons.mpr ⟨s_iconst (by decide +kernel) rfl, ?_⟩
  refine List.forall_mem_cons.mpr ⟨s_iconst (by decide +kernel) rfl, ?_⟩
  refine List.forall_mem_cons.mpr ⟨s_iload_n (j := 2) (by decide +kernel) rfl rfl, ?_⟩
  refine List.forall_mem_cons.mpr ⟨s_iload_n (j := 3) (by decide +kernel) rfl rfl, ?_⟩
  refine List.forall_mem_cons.mpr ⟨s_callv (idx := 39) (k' := k_X0_from) (T := TX0) (N := 5) rfl q4_30 q4_27 q4_29 qs_27 q1_8 de_X0_from (by decide) (by decide +kernel) rfl, ?_⟩
  refine List.forall_mem_cons.mpr ⟨s_iconst (by decide +kernel) rfl, ?_⟩
  refine List.forall_mem_cons.mpr ⟨s_imul (by decide +kernel) rfl, ?_⟩
  refine List.forall_mem_cons.mpr ⟨s_iret rfl (by decide +kernel), ?_⟩
  refine List.forall_mem_cons.mpr ⟨s_aload_n (j := 0) (by decide +kernel) rfl rfl, ?_⟩
  refine List.forall_mem_cons.mpr ⟨s_iconst (by decide +kernel) rfl, ?_⟩
  refine List.forall_mem_cons.mpr ⟨s_iconst (by decide +kernel) rfl, ?_⟩
  refine List.forall_mem_cons.mpr ⟨s_iload_n (j := 2) (by decide +kernel) rfl rfl, ?_⟩
  refine List.forall_mem_cons.mpr ⟨s_iconst (by decide +kernel) rfl, ?_⟩
  refine List.forall_mem_cons.mpr ⟨s_iadd (by decide +kernel) rfl, ?_⟩
  refine List.forall_mem_cons.mpr ⟨s_iload_n (j := 3) (by decide +kernel) rfl rfl, ?_⟩
  refine List.forall_mem_cons.mpr ⟨s_callv (idx := 39) (k' := k_X0_from) (T := TX0) (N := 5) rfl q4_30 q4_27 q4_29 qs_27 q1_8 de_X0_from (by decide) (by decide +kernel) rfl, ?_⟩
  refine List.forall_mem_cons.mpr ⟨s_iret rfl (by decide +kernel), ?_⟩
  refine List.forall_mem_cons.mpr ⟨s_aload_n (j := 0) (by decide +kernel) rfl rfl, ?_⟩
  refine List.forall_mem_cons.mpr ⟨s_iconst (by decide +kernel) rfl, ?_⟩
  refine List.forall_mem_cons.mpr ⟨s_iconst (by decide +kernel) rfl, ?_⟩
  refine List.forall_mem_cons.mpr ⟨s_iload_n (j := 2) (by decide +kernel) rfl rfl, ?_⟩
  refine List.forall_mem_cons.mpr ⟨s_iload_n (j := 3) (by decide +kernel) rfl rfl, ?_⟩
  refine List.forall_mem_cons.mpr ⟨s_callv (idx := 39) (k' := k_X0_from) (T := TX0) (N := 5) rfl q4_30 q4_27 q4_29 qs_27 q1_8 de_X0_from (by decide) (by decide +kernel) rfl, ?_⟩
  refine List.forall_mem_cons.mpr ⟨s_iconst (by decide +kernel) rfl, ?_⟩
  refine List.forall_mem_cons.mpr ⟨s_ixor (by decide +kernel) rfl, ?_⟩
  refine List.forall_mem_cons.mpr ⟨s_iret rfl (by decide +kernel), ?_⟩
  refine List.forall_mem_cons.mpr ⟨s_aload_n (j := 0) (by decide +kernel) rfl rfl, ?_⟩
  refine List.forall_mem_cons.mpr ⟨s_iconst (by decide +kernel) rfl, ?_⟩
  refine List.forall_mem_cons.mpr ⟨s_iconst (by decide +kernel) rfl, ?_⟩
  refine List.forall_mem_cons.mpr ⟨s_iload_n (j := 2) (by decide +kernel) rfl rfl, ?_⟩
  refine List.forall_mem_cons.mpr ⟨s_iload_n (j := 3) (by decide +kernel) rfl rfl, ?_⟩
  refine List.forall_mem_cons.mpr ⟨s_callv (idx := 39) (k' := k_X0_from) (T := TX0) (N := 5) rfl q4_30 q4_27 q4_29 qs_27 q1_8 de_X0_from (by decide) (by decide +kernel) rfl, ?_⟩
  refine List.forall_mem_cons.mpr ⟨s_iconst (by decide +kernel) rfl, ?_⟩
  refine List.forall_mem_cons.mpr ⟨s_imul (by decide +kernel) rfl, ?_⟩
  refine List.forall_mem_cons.mpr ⟨s_iret rfl (by decide +kernel), ?_⟩
  refine List.forall_mem_cons.mpr ⟨s_aload_n (j := 0) (by decide +kernel) rfl rfl, ?_⟩
  refine List.forall_mem_cons.mpr ⟨s_iconst (by decide +kernel) rfl, ?_⟩
  refine List.forall_mem_cons.mpr ⟨s_iconst (by decide +kernel) rfl, ?_⟩
  refine List.forall_mem_cons.mpr ⟨s_iload_n (j := 2) (by decide +kernel) rfl rfl, ?_⟩
  refine List.forall_mem_cons.mpr ⟨s_iload_n (j := 3) (by decide +kernel) rfl rfl, ?_⟩
  refine List.forall_mem_cons.mpr ⟨s_callv (idx := 39) (k' := k_X0_from) (T := TX0) (N := 5) rfl q4_30 q4_27 q4_29 qs_27 q1_8 de_X0_from (by decide) (by decide +kernel) rfl, ?_⟩
  refine List.forall_mem_cons.mpr ⟨s_aload_n (j := 0) (by decide +kernel) rfl rfl, ?_⟩
  refine List.forall_mem_cons.mpr ⟨s_iconst (by decide +kernel) rfl, ?_⟩
  refine List.forall_mem_cons.mpr ⟨s_iconst (by decide +kernel) rfl, ?_⟩
  refine List.forall_mem_cons.mpr ⟨s_iload_n (j := 3) (by decide +kernel) rfl rfl, ?_⟩
  refine List.forall_mem_cons.mpr ⟨s_callv (idx := 35) (k' := k_X0_own) (T := TX0) (N := 5) rfl q4_26 q4_23 q4_25 qs_26 q1_8 de_X0_own (by decide) (by decide +kernel) rfl, ?_⟩
  refine List.forall_mem_cons.mpr ⟨s_iadd (by decide +kernel) rfl, ?_⟩
  refine List.forall_mem_cons.mpr ⟨s_iret rfl (by decide +kernel), ?_⟩
  refine List.forall_mem_cons.mpr ⟨s_aload_n (j := 0) (by decide +kernel) rfl rfl, ?_⟩
  refine List.forall_mem_cons.mpr ⟨s_iconst (by decide +kernel) rfl, ?_⟩
  refine List.forall_mem_cons.mpr ⟨s_iconst (by decide +kernel) rfl, ?_⟩
  refine List.forall_mem_cons.mpr ⟨s_iload_n (j := 2) (by decide +kernel) rfl rfl, ?_⟩
  refine List.forall_mem_cons.mpr ⟨s_iload_n (j := 3) (by decide +kernel) rfl rfl, ?_⟩
  refine List.forall_mem_cons.mpr ⟨s_callv (idx := 39) (k' := k_X0_from) (T := TX0) (N := 5) rfl q4_30 q4_27 q4_29 qs_27 q1_8 de_X0_from (by decide) (by decide +kernel) rfl, ?_⟩
  refine List.forall_mem_cons.mpr ⟨s_aload_n (j := 0) (by decide +kernel) rfl rfl, ?_⟩
  refine List.forall_mem_cons.mpr ⟨s_iconst (by decide +kernel) rfl, ?_⟩
  refine List.forall_mem_cons.mpr ⟨s_iconst (by decide +kernel) rfl, ?_⟩
  refine List.forall_mem_cons.mpr ⟨s_iload_n (j := 3) (by decide +kernel) rfl rfl, ?_⟩
  refine List.forall_mem_cons.mpr ⟨s_callv (idx := 35) (k' := k_X0_own) (T := TX0) (N := 5) rfl q4_26 q4_23 q4_25 qs_26 q1_8 de_X0_own (by decide) (by decide +kernel) rfl, ?_⟩
  refine List.forall_mem_cons.mpr ⟨s_isub (by decide +kernel) rfl, ?_⟩
  refine List.forall_mem_cons.mpr ⟨s_iret rfl (by decide +kernel), ?_⟩
  refine List.forall_mem_cons.mpr ⟨s_iconst (by decide +kernel) rfl, ?_⟩
  refine List.forall_mem_cons.mpr ⟨s_iret rfl (by decide +kernel), ?_⟩
  exact fun q hq => absurd hq List.not_mem_nil
def T_X1_tell : List (Nat × zO) := [(0, o_aload 1 0), (1, o_getf 4 1 0), (4, o_iload 5 1), (5, o_callv 1 2 k_X2_rowOf 8), (8, o_astore 10 4), (10, o_aload 12 4), (12, o_iload 13 2), (13, o_iald 14), (14, o_istore 16 5), (16, o_iload 18 5), (18, o_iload 19 3), (19, o_icmp_ne 25 22), (22, o_iload 24 5), (24, o_iret), (25, o_aload 27 4), (27, o_iload 28 2), (28, o_iload 29 3), (29, o_iast 30), (30, o_aload 31 0), (31, o_getf 34 1 5), (34, o_const 36 40), (36, o_icmp_lt 43 39), (39, o_aload 40 0), (40, o_callv 0 1 k_X1_forgetOldest 43), (43, o_aload 44 0), (44, o_getf 47 1 1), (47, o_aload 48 0), (48, o_getf 51 1 5), (51, o_iload 52 1), (52, o_iast 53), (53, o_aload 54 0), (54, o_getf 57 1 2), (57, o_aload 58 0), (58, o_getf 61 1 5), (61, o_iload 62 2), (62, o_iast 63), (63, o_aload 64 0), (64, o_getf 67 1 3), (67, o_aload 68 0), (68, o_getf 71 1 5), (71, o_iload 73 5), (73, o_iast 74), (74, o_aload 75 0), (75, o_getf 78 1 4), (78, o_aload 79 0), (79, o_getf 82 1 5), (82, o_iload 83 3), (83, o_iast 84), (84, o_aload 85 0), (85, o_dup 86), (86, o_getf 89 1 5), (89, o_const 90 1), (90, o_iadd 91), (91, o_putf 94 1 5), (94, o_aload 95 0), (95, o_aload 96 0), (96, o_getf 99 1 5), (99, o_putf 102 1 6), (102, o_iload 104 5), (104, o_iret)]
set_option maxRecDepth 20000 in
theorem t_X1_tell : ∀ q ∈ T_X1_tell, zS k_X1_tell q.1 q.2 := by
  unfold T_X1_tell
  refine List.forall_mem_cons.mpr ⟨s_aload_n (j := 0) (by decide +kernel) rfl rfl, ?_⟩
  refine List.forall_mem_cons.mpr ⟨s_getf (idx := 24) (C := RX1) (T := TX1) (N := 7) rfl inX1 (by decide) q1_236 (by decide +kernel) rfl, ?_⟩
  refine List.forall_mem_cons.mpr ⟨s_iload_n (j := 1) (by decide +kernel) rfl rfl, ?_⟩
  refine List.forall_mem_cons.mpr ⟨s_callv (idx := 28) (k' := k_X2_rowOf) (T := TX2) (N := 20) rfl q2_203 q2_200 q2_201 q2_202 q1_3 de_X2_rowOf (by decide) (by decide +kernel) rfl, ?_⟩
  refine List.forall_mem_cons.mpr ⟨s_astore (by decide +kernel) (by decide) rfl, ?_⟩
  refine List.forall_mem_cons.mpr ⟨s_aload (by decide +kernel) rfl, ?_⟩
  refine List.forall_mem_cons.mpr ⟨s_iload_n (j := 2) (by decide +kernel) rfl rfl, ?_⟩
  refine List.forall_mem_cons.mpr ⟨s_iald (by decide +kernel) rfl, ?_⟩
  refine List.forall_mem_cons.mpr ⟨s_istore (by decide +kernel) (by decide) rfl, ?_⟩
  refine List.forall_mem_cons.mpr ⟨s_iload (by decide +kernel) rfl, ?_⟩
  refine List.forall_mem_cons.mpr ⟨s_iload_n (j := 3) (by decide +kernel) rfl rfl, ?_⟩
  refine List.forall_mem_cons.mpr ⟨s_icmp_ne (off := 6) (by decide +kernel) (by decide) rfl, ?_⟩
  refine List.forall_mem_cons.mpr ⟨s_iload (by decide +kernel) rfl, ?_⟩
  refine List.forall_mem_cons.mpr ⟨s_iret rfl (by decide +kernel), ?_⟩
  refine List.forall_mem_cons.mpr ⟨s_aload (by decide +kernel) rfl, ?_⟩
  refine List.forall_mem_cons.mpr ⟨s_iload_n (j := 2) (by decide +kernel) rfl rfl, ?_⟩
  refine List.forall_mem_cons.mpr ⟨s_iload_n (j := 3) (by decide +kernel) rfl rfl, ?_⟩
  refine List.forall_mem_cons.mpr ⟨s_iast (by decide +kernel) rfl, ?_⟩
  refine List.forall_mem_cons.mpr ⟨s_aload_n (j := 0) (by decide +kernel) rfl rfl, ?_⟩
  refine List.forall_mem_cons.mpr ⟨s_getf (idx := 34) (C := RX1) (T := TX1) (N := 7) rfl inX1 (by decide) q2_1 (by decide +kernel) rfl, ?_⟩
  refine List.forall_mem_cons.mpr ⟨s_bipush (by decide +kernel) (by decide) rfl, ?_⟩
  refine List.forall_mem_cons.mpr ⟨s_icmp_lt (off := 7) (by decide +kernel) (by decide) rfl, ?_⟩
  refine List.forall_mem_cons.mpr ⟨s_aload_n (j := 0) (by decide +kernel) rfl rfl, ?_⟩
  refine List.forall_mem_cons.mpr ⟨s_callv (idx := 38) (k' := k_X1_forgetOldest) (T := TX1) (N := 7) rfl q2_207 q2_204 q2_206 qs_6 q1_7 de_X1_forgetOldest (by decide) (by decide +kernel) rfl, ?_⟩
  refine List.forall_mem_cons.mpr ⟨s_aload_n (j := 0) (by decide +kernel) rfl rfl, ?_⟩
  refine List.forall_mem_cons.mpr ⟨s_getf (idx := 9) (C := RX1) (T := TX1) (N := 7) rfl inX1 (by decide) q1_237 (by decide +kernel) rfl, ?_⟩
  refine List.forall_mem_cons.mpr ⟨s_aload_n (j := 0) (by decide +kernel) rfl rfl, ?_⟩
  refine List.forall_mem_cons.mpr ⟨s_getf (idx := 34) (C := RX1) (T := TX1) (N := 7) rfl inX1 (by decide) q2_1 (by decide +kernel) rfl, ?_⟩
  refine List.forall_mem_cons.mpr ⟨s_iload_n (j := 1) (by decide +kernel) rfl rfl, ?_⟩
  refine List.forall_mem_cons.mpr ⟨s_iast (by decide +kernel) rfl, ?_⟩
  refine List.forall_mem_cons.mpr ⟨s_aload_n (j := 0) (by decide +kernel) rfl rfl, ?_⟩
  refine List.forall_mem_cons.mpr ⟨s_getf (idx := 15) (C := RX1) (T := TX1) (N := 7) rfl inX1 (by decide) q1_238 (by decide +kernel) rfl, ?_⟩
  refine List.forall_mem_cons.mpr ⟨s_aload_n (j := 0) (by decide +kernel) rfl rfl, ?_⟩
  refine List.forall_mem_cons.mpr ⟨s_getf (idx := 34) (C := RX1) (T := TX1) (N := 7) rfl inX1 (by decide) q2_1 (by decide +kernel) rfl, ?_⟩
  refine List.forall_mem_cons.mpr ⟨s_iload_n (j := 2) (by decide +kernel) rfl rfl, ?_⟩
  refine List.forall_mem_cons.mpr ⟨s_iast (by decide +kernel) rfl, ?_⟩
  refine List.forall_mem_cons.mpr ⟨s_aload_n (j := 0) (by decide +kernel) rfl rfl, ?_⟩
  refine List.forall_mem_cons.mpr ⟨s_getf (idx := 18) (C := RX1) (T := TX1) (N := 7) rfl inX1 (by decide) q1_239 (by decide +kernel) rfl, ?_⟩
  refine List.forall_mem_cons.mpr ⟨s_aload_n (j := 0) (by decide +kernel) rfl rfl, ?_⟩
  refine List.forall_mem_cons.mpr ⟨s_getf (idx := 34) (C := RX1) (T := TX1) (N := 7) rfl inX1 (by decide) q2_1 (by decide +kernel) rfl, ?_⟩
  refine List.forall_mem_cons.mpr ⟨s_iload (by decide +kernel) rfl, ?_⟩
  refine List.forall_mem_cons.mpr ⟨s_iast (by decide +kernel) rfl, ?_⟩
  refine List.forall_mem_cons.mpr ⟨s_aload_n (j := 0) (by decide +kernel) rfl rfl, ?_⟩
  refine List.forall_mem_cons.mpr ⟨s_getf (idx := 21) (C := RX1) (T := TX1) (N := 7) rfl inX1 (by decide) q2_0 (by decide +kernel) rfl, ?_⟩
  refine List.forall_mem_cons.mpr ⟨s_aload_n (j := 0) (by decide +kernel) rfl rfl, ?_⟩
  refine List.forall_mem_cons.mpr ⟨s_getf (idx := 34) (C := RX1) (T := TX1) (N := 7) rfl inX1 (by decide) q2_1 (by decide +kernel) rfl, ?_⟩
  refine List.forall_mem_cons.mpr ⟨s_iload_n (j := 3) (by decide +kernel) rfl rfl, ?_⟩
  refine List.forall_mem_cons.mpr ⟨s_iast (by decide +kernel) rfl, ?_⟩
  refine List.forall_mem_cons.mpr ⟨s_aload_n (j := 0) (by decide +kernel) rfl rfl, ?_⟩
  refine List.forall_mem_cons.mpr ⟨s_dup (by decide +kernel) rfl, ?_⟩
  refine List.forall_mem_cons.mpr ⟨s_getf (idx := 34) (C := RX1) (T := TX1) (N := 7) rfl inX1 (by decide) q2_1 (by decide +kernel) rfl, ?_⟩
  refine List.forall_mem_cons.mpr ⟨s_iconst (by decide +kernel) rfl, ?_⟩
  refine List.forall_mem_cons.mpr ⟨s_iadd (by decide +kernel) rfl, ?_⟩
  refine List.forall_mem_cons.mpr ⟨s_putf (idx := 34) (C := RX1) (T := TX1) (N := 7) rfl inX1 tyX1_ok nmX1 (by decide) rfl (tyX1_ok 5 (by decide)) (Or.inl ⟨rfl, kdI 1 5 (by decide)⟩) q2_1 (by decide +kernel) rfl, ?_⟩
  refine List.forall_mem_cons.mpr ⟨s_aload_n (j := 0) (by decide +kernel) rfl rfl, ?_⟩
  refine List.forall_mem_cons.mpr ⟨s_aload_n (j := 0) (by decide +kernel) rfl rfl, ?_⟩
  refine List.forall_mem_cons.mpr ⟨s_getf (idx := 34) (C := RX1) (T := TX1) (N := 7) rfl inX1 (by decide) q2_1 (by decide +kernel) rfl, ?_⟩
  refine List.forall_mem_cons.mpr ⟨s_putf (idx := 41) (C := RX1) (T := TX1) (N := 7) rfl inX1 tyX1_ok nmX1 (by decide) rfl (tyX1_ok 6 (by decide)) (Or.inl ⟨rfl, kdI 1 6 (by decide)⟩) q2_3 (by decide +kernel) rfl, ?_⟩
  refine List.forall_mem_cons.mpr ⟨s_iload (by decide +kernel) rfl, ?_⟩
  refine List.forall_mem_cons.mpr ⟨s_iret rfl (by decide +kernel), ?_⟩
  exact fun q hq => absurd hq List.not_mem_nil
def T_X1_forgetOldest : List (Nat × zO) := [(0, o_aload 1 0), (1, o_const 3 39), (3, o_putf 6 1 5), (6, o_aload 7 0), (7, o_getf 10 1 1), (10, o_const 11 1), (11, o_aload 12 0), (12, o_getf 15 1 1), (15, o_const 16 0), (16, o_aload 17 0), (17, o_getf 20 1 5), (20, o_acopy 23), (23, o_aload 24 0), (24, o_getf 27 1 2), (27, o_const 28 1), (28, o_aload 29 0), (29, o_getf 32 1 2), (32, o_const 33 0), (33, o_aload 34 0), (34, o_getf 37 1 5), (37, o_acopy 40), (40, o_aload 41 0), (41, o_getf 44 1 3), (44, o_const 45 1), (45, o_aload 46 0), (46, o_getf 49 1 3), (49, o_const 50 0), (50, o_aload 51 0), (51, o_getf 54 1 5), (54, o_acopy 57), (57, o_aload 58 0), (58, o_getf 61 1 4), (61, o_const 62 1), (62, o_aload 63 0), (63, o_getf 66 1 4), (66, o_const 67 0), (67, o_aload 68 0), (68, o_getf 71 1 5), (71, o_acopy 74), (74, o_vret)]
set_option maxRecDepth 20000 in
theorem t_X1_forgetOldest : ∀ q ∈ T_X1_forgetOldest, zS k_X1_forgetOldest q.1 q.2 := by
  unfold T_X1_forgetOldest
  refine List.forall_mem_cons.mpr ⟨s_aload_n (j := 0) (by decide +kernel) rfl rfl, ?_⟩
  refine List.forall_mem_cons.mpr ⟨s_bipush (by decide +kernel) (by decide) rfl, ?_⟩
  refine List.forall_mem_cons.mpr ⟨s_putf (idx := 34) (C := RX1) (T := TX1) (N := 7) rfl inX1 tyX1_ok nmX1 (by decide) rfl (tyX1_ok 5 (by decide)) (Or.inl ⟨rfl, kdI 1 5 (by decide)⟩) q2_1 (by decide +kernel) rfl, ?_⟩
  refine List.forall_mem_cons.mpr ⟨s_aload_n (j := 0) (by decide +kernel) rfl rfl, ?_⟩
  refine List.forall_mem_cons.mpr ⟨s_getf (idx := 9) (C := RX1) (T := TX1) (N := 7) rfl inX1 (by decide) q1_237 (by decide +kernel) rfl, ?_⟩
  refine List.forall_mem_cons.mpr ⟨s_iconst (by decide +kernel) rfl, ?_⟩
  refine List.forall_mem_cons.mpr ⟨s_aload_n (j := 0) (by decide +kernel) rfl rfl, ?_⟩
  refine List.forall_mem_cons.mpr ⟨s_getf (idx := 9) (C := RX1) (T := TX1) (N := 7) rfl inX1 (by decide) q1_237 (by decide +kernel) rfl, ?_⟩
  refine List.forall_mem_cons.mpr ⟨s_iconst (by decide +kernel) rfl, ?_⟩
  refine List.forall_mem_cons.mpr ⟨s_aload_n (j := 0) (by decide +kernel) rfl rfl, ?_⟩
  refine List.forall_mem_cons.mpr ⟨s_getf (idx := 34) (C := RX1) (T := TX1) (N := 7) rfl inX1 (by decide) q2_1 (by decide +kernel) rfl, ?_⟩
  refine List.forall_mem_cons.mpr ⟨s_acopy (idx := 44) q2_208 q2_138 q2_137 q1_11 (by decide +kernel) rfl, ?_⟩
  refine List.forall_mem_cons.mpr ⟨s_aload_n (j := 0) (by decide +kernel) rfl rfl, ?_⟩
  refine List.forall_mem_cons.mpr ⟨s_getf (idx := 15) (C := RX1) (T := TX1) (N := 7) rfl inX1 (by decide) q1_238 (by decide +kernel) rfl, ?_⟩
  refine List.forall_mem_cons.mpr ⟨s_iconst (by decide +kernel) rfl, ?_⟩
  refine List.forall_mem_cons.mpr ⟨s_aload_n (j := 0) (by decide +kernel) rfl rfl, ?_⟩
  refine List.forall_mem_cons.mpr ⟨s_getf (idx := 15) (C := RX1) (T := TX1) (N := 7) rfl inX1 (by decide) q1_238 (by decide +kernel) rfl, ?_⟩
  refine List.forall_mem_cons.mpr ⟨s_iconst (by decide +kernel) rfl, ?_⟩
  refine List.forall_mem_cons.mpr ⟨s_aload_n (j := 0) (by decide +kernel) rfl rfl, ?_⟩
  refine List.forall_mem_cons.mpr ⟨s_getf (idx := 34) (C := RX1) (T := TX1) (N := 7) rfl inX1 (by decide) q2_1 (by decide +kernel) rfl, ?_⟩
  refine List.forall_mem_cons.mpr ⟨s_acopy (idx := 44) q2_208 q2_138 q2_137 q1_11 (by decide +kernel) rfl, ?_⟩
  refine List.forall_mem_cons.mpr ⟨s_aload_n (j := 0) (by decide +kernel) rfl rfl, ?_⟩
  refine List.forall_mem_cons.mpr ⟨s_getf (idx := 18) (C := RX1) (T := TX1) (N := 7) rfl inX1 (by decide) q1_239 (by decide +kernel) rfl, ?_⟩
  refine List.forall_mem_cons.mpr ⟨s_iconst (by decide +kernel) rfl, ?_⟩
  refine List.forall_mem_cons.mpr ⟨s_aload_n (j := 0) (by decide +kernel) rfl rfl, ?_⟩
  refine List.forall_mem_cons.mpr ⟨s_getf (idx := 18) (C := RX1) (T := TX1) (N := 7) rfl inX1 (by decide) q1_239 (by decide +kernel) rfl, ?_⟩
  refine List.forall_mem_cons.mpr ⟨s_iconst (by decide +kernel) rfl, ?_⟩
  refine List.forall_mem_cons.mpr ⟨s_aload_n (j := 0) (by decide +kernel) rfl rfl, ?_⟩
  refine List.forall_mem_cons.mpr ⟨s_getf (idx := 34) (C := RX1) (T := TX1) (N := 7) rfl inX1 (by decide) q2_1 (by decide +kernel) rfl, ?_⟩
  refine List.forall_mem_cons.mpr ⟨s_acopy (idx := 44) q2_208 q2_138 q2_137 q1_11 (by decide +kernel) rfl, ?_⟩
  refine List.forall_mem_cons.mpr ⟨s_aload_n (j := 0) (by decide +kernel) rfl rfl, ?_⟩
  refine List.forall_mem_cons.mpr ⟨s_getf (idx := 21) (C := RX1) (T := TX1) (N := 7) rfl inX1 (by decide) q2_0 (by decide +kernel) rfl, ?_⟩
  refine List.forall_mem_cons.mpr ⟨s_iconst (by decide +kernel) rfl, ?_⟩
  refine List.forall_mem_cons.mpr ⟨s_aload_n (j := 0) (by decide +kernel) rfl rfl, ?_⟩
  refine List.forall_mem_cons.mpr ⟨s_getf (idx := 21) (C := RX1) (T := TX1) (N := 7) rfl inX1 (by decide) q2_0 (by decide +kernel) rfl, ?_⟩
  refine List.forall_mem_cons.mpr ⟨s_iconst (by decide +kernel) rfl, ?_⟩
  refine List.forall_mem_cons.mpr ⟨s_aload_n (j := 0) (by decide +kernel) rfl rfl, ?_⟩
  refine List.forall_mem_cons.mpr ⟨s_getf (idx := 34) (C := RX1) (T := TX1) (N := 7) rfl inX1 (by decide) q2_1 (by decide +kernel) rfl, ?_⟩
  refine List.forall_mem_cons.mpr ⟨s_acopy (idx := 44) q2_208 q2_138 q2_137 q1_11 (by decide +kernel) rfl, ?_⟩
  refine List.forall_mem_cons.mpr ⟨s_vret rfl (by decide +kernel), ?_⟩
  exact fun q hq => absurd hq List.not_mem_nil
def T_X1_back : List (Nat × zO) := [(0, o_aload 1 0), (1, o_getf 4 1 5), (4, o_if_ne 9 7), (7, o_const 8 0), (8, o_zret), (9, o_aload 10 0), (10, o_dup 11), (11, o_getf 14 1 5), (14, o_const 15 1), (15, o_isub 16), (16, o_putf 19 1 5), (19, o_aload 20 0), (20, o_getf 23 1 0), (23, o_aload 24 0), (24, o_getf 27 1 1), (27, o_aload 28 0), (28, o_getf 31 1 5), (31, o_iald 32), (32, o_callv 1 2 k_X2_rowOf 35), (35, o_aload 36 0), (36, o_getf 39 1 2), (39, o_aload 40 0), (40, o_getf 43 1 5), (43, o_iald 44), (44, o_aload 45 0), (45, o_getf 48 1 3), (48, o_aload 49 0), (49, o_getf 52 1 5), (52, o_iald 53), (53, o_iast 54), (54, o_const 55 1), (55, o_zret)]
set_option maxRecDepth 20000 in
theorem t_X1_back : ∀ q ∈ T_X1_back, zS k_X1_back q.1 q.2 := by
  unfold T_X1_back
  refine List.forall_mem_cons.mpr ⟨s_aload_n (j := 0) (by decide +kernel) rfl rfl, ?_⟩
  refine List.forall_mem_cons.mpr ⟨s_getf (idx := 34) (C := RX1) (T := TX1) (N := 7) rfl inX1 (by decide) q2_1 (by decide +kernel) rfl, ?_⟩
  refine List.forall_mem_cons.mpr ⟨s_if_ne (off := 5) (by decide +kernel) (by decide) rfl, ?_⟩
  refine List.forall_mem_cons.mpr ⟨s_iconst (by decide +kernel) rfl, ?_⟩
  refine List.forall_mem_cons.mpr ⟨s_zret rfl (by decide +kernel), ?_⟩
  refine List.forall_mem_cons.mpr ⟨s_aload_n (j := 0) (by decide +kernel) rfl rfl, ?_⟩
  refine List.forall_mem_cons.mpr ⟨s_dup (by decide +kernel) rfl, ?_⟩
  refine List.forall_mem_cons.mpr ⟨s_getf (idx := 34) (C := RX1) (T := TX1) (N := 7) rfl inX1 (by decide) q2_1 (by decide +kernel) rfl, ?_⟩
  refine List.forall_mem_cons.mpr ⟨s_iconst (by decide +kernel) rfl, ?_⟩
  refine List.forall_mem_cons.mpr ⟨s_isub (by decide +kernel) rfl, ?_⟩
  refine List.forall_mem_cons.mpr ⟨s_putf (idx := 34) (C := RX1) (T := TX1) (N := 7) rfl inX1 tyX1_ok nmX1 (by decide) rfl (tyX1_ok 5 (by decide)) (Or.inl ⟨rfl, kdI 1 5 (by decide)⟩) q2_1 (by decide +kernel) rfl, ?_⟩
  refine List.forall_mem_cons.mpr ⟨s_aload_n (j := 0) (by decide +kernel) rfl rfl, ?_⟩
  refine List.forall_mem_cons.mpr ⟨s_getf (idx := 24) (C := RX1) (T := TX1) (N := 7) rfl inX1 (by decide) q1_236 (by decide +kernel) rfl, ?_⟩
  refine List.forall_mem_cons.mpr ⟨s_aload_n (j := 0) (by decide +kernel) rfl rfl, ?_⟩
  refine List.forall_mem_cons.mpr ⟨s_getf (idx := 9) (C := RX1) (T := TX1) (N := 7) rfl inX1 (by decide) q1_237 (by decide +kernel) rfl, ?_⟩
  refine List.forall_mem_cons.mpr ⟨s_aload_n (j := 0) (by decide +kernel) rfl rfl, ?_⟩
  refine List.forall_mem_cons.mpr ⟨s_getf (idx := 34) (C := RX1) (T := TX1) (N := 7) rfl inX1 (by decide) q2_1 (by decide +kernel) rfl, ?_⟩
  refine List.forall_mem_cons.mpr ⟨s_iald (by decide +kernel) rfl, ?_⟩
  refine List.forall_mem_cons.mpr ⟨s_callv (idx := 28) (k' := k_X2_rowOf) (T := TX2) (N := 20) rfl q2_203 q2_200 q2_201 q2_202 q1_3 de_X2_rowOf (by decide) (by decide +kernel) rfl, ?_⟩
  refine List.forall_mem_cons.mpr ⟨s_aload_n (j := 0) (by decide +kernel) rfl rfl, ?_⟩
  refine List.forall_mem_cons.mpr ⟨s_getf (idx := 15) (C := RX1) (T := TX1) (N := 7) rfl inX1 (by decide) q1_238 (by decide +kernel) rfl, ?_⟩
  refine List.forall_mem_cons.mpr ⟨s_aload_n (j := 0) (by decide +kernel) rfl rfl, ?_⟩
  refine List.forall_mem_cons.mpr ⟨s_getf (idx := 34) (C := RX1) (T := TX1) (N := 7) rfl inX1 (by decide) q2_1 (by decide +kernel) rfl, ?_⟩
  refine List.forall_mem_cons.mpr ⟨s_iald (by decide +kernel) rfl, ?_⟩
  refine List.forall_mem_cons.mpr ⟨s_aload_n (j := 0) (by decide +kernel) rfl rfl, ?_⟩
  refine List.forall_mem_cons.mpr ⟨s_getf (idx := 18) (C := RX1) (T := TX1) (N := 7) rfl inX1 (by decide) q1_239 (by decide +kernel) rfl, ?_⟩
  refine List.forall_mem_cons.mpr ⟨s_aload_n (j := 0) (by decide +kernel) rfl rfl, ?_⟩
  refine List.forall_mem_cons.mpr ⟨s_getf (idx := 34) (C := RX1) (T := TX1) (N := 7) rfl inX1 (by decide) q2_1 (by decide +kernel) rfl, ?_⟩
  refine List.forall_mem_cons.mpr ⟨s_iald (by decide +kernel) rfl, ?_⟩
  refine List.forall_mem_cons.mpr ⟨s_iast (by decide +kernel) rfl, ?_⟩
  refine List.forall_mem_cons.mpr ⟨s_iconst (by decide +kernel) rfl, ?_⟩
  refine List.forall_mem_cons.mpr ⟨s_zret rfl (by decide +kernel), ?_⟩
  exact fun q hq => absurd hq List.not_mem_nil
def T_X1_again : List (Nat × zO) := [(0, o_aload 1 0), (1, o_getf 4 1 5), (4, o_aload 5 0), (5, o_getf 8 1 6), (8, o_icmp_ne 13 11), (11, o_const 12 0), (12, o_zret), (13, o_aload 14 0), (14, o_getf 17 1 0), (17, o_aload 18 0), (18, o_getf 21 1 1), (21, o_aload 22 0), (22, o_getf 25 1 5), (25, o_iald 26), (26, o_callv 1 2 k_X2_rowOf 29), (29, o_aload 30 0), (30, o_getf 33 1 2), (33, o_aload 34 0), (34, o_getf 37 1 5), (37, o_iald 38), (38, o_aload 39 0), (39, o_getf 42 1 4), (42, o_aload 43 0), (43, o_getf 46 1 5), (46, o_iald 47), (47, o_iast 48), (48, o_aload 49 0), (49, o_dup 50), (50, o_getf 53 1 5), (53, o_const 54 1), (54, o_iadd 55), (55, o_putf 58 1 5), (58, o_const 59 1), (59, o_zret)]
set_option maxRecDepth 20000 in
theorem t_X1_again : ∀ q ∈ T_X1_again, zS k_X1_again q.1 q.2 := by
  unfold T_X1_again
  refine List.forall_mem_cons.mpr ⟨s_aload_n (j := 0) (by decide +kernel) rfl rfl, ?_⟩
  refine List.forall_mem_cons.mpr ⟨s_getf (idx := 34) (C := RX1) (T := TX1) (N := 7) rfl inX1 (by decide) q2_1 (by decide +kernel) rfl, ?_⟩
  refine List.forall_mem_cons.mpr ⟨s_aload_n (j := 0) (by decide +kernel) rfl rfl, ?_⟩
  refine List.forall_mem_cons.mpr ⟨s_getf (idx := 41) (C := RX1) (T := TX1) (N := 7) rfl inX1 (by decide) q2_3 (by decide +kernel) rfl, ?_⟩
  refine List.forall_mem_cons.mpr ⟨s_icmp_ne (off := 5) (by decide +kernel) (by decide) rfl, ?_⟩
  refine List.forall_mem_cons.mpr ⟨s_iconst (by decide +kernel) rfl, ?_⟩
  refine List.forall_mem_cons.mpr ⟨s_zret rfl (by decide +kernel), ?_⟩
  refine List.forall_mem_cons.mpr ⟨s_aload_n (j := 0) (by decide +kernel) rfl rfl, ?_⟩
  refine List.forall_mem_cons.mpr ⟨s_getf (idx := 24) (C := RX1) (T := TX1) (N := 7) rfl inX1 (by decide) q1_236 (by decide +kernel) rfl, ?_⟩
  refine List.forall_mem_cons.mpr ⟨s_aload_n (j := 0) (by decide +kernel) rfl rfl, ?_⟩
  refine List.forall_mem_cons.mpr ⟨s_getf (idx := 9) (C := RX1) (T := TX1) (N := 7) rfl inX1 (by decide) q1_237 (by decide +kernel) rfl, ?_⟩
  refine List.forall_mem_cons.mpr ⟨s_aload_n (j := 0) (by decide +kernel) rfl rfl, ?_⟩
  refine List.forall_mem_cons.mpr ⟨s_getf (idx := 34) (C := RX1) (T := TX1) (N := 7) rfl inX1 (by decide) q2_1 (by decide +kernel) rfl, ?_⟩
  refine List.forall_mem_cons.mpr ⟨s_iald (by decide +kernel) rfl, ?_⟩
  refine List.forall_mem_cons.mpr ⟨s_callv (idx := 28) (k' := k_X2_rowOf) (T := TX2) (N := 20) rfl q2_203 q2_200 q2_201 q2_202 q1_3 de_X2_rowOf (by decide) (by decide +kernel) rfl, ?_⟩
  refine List.forall_mem_cons.mpr ⟨s_aload_n (j := 0) (by decide +kernel) rfl rfl, ?_⟩
  refine List.forall_mem_cons.mpr ⟨s_getf (idx := 15) (C := RX1) (T := TX1) (N := 7) rfl inX1 (by decide) q1_238 (by decide +kernel) rfl, ?_⟩
  refine List.forall_mem_cons.mpr ⟨s_aload_n (j := 0) (by decide +kernel) rfl rfl, ?_⟩
  refine List.forall_mem_cons.mpr ⟨s_getf (idx := 34) (C := RX1) (T := TX1) (N := 7) rfl inX1 (by decide) q2_1 (by decide +kernel) rfl, ?_⟩
  refine List.forall_mem_cons.mpr ⟨s_iald (by decide +kernel) rfl, ?_⟩
  refine List.forall_mem_cons.mpr ⟨s_aload_n (j := 0) (by decide +kernel) rfl rfl, ?_⟩
  refine List.forall_mem_cons.mpr ⟨s_getf (idx := 21) (C := RX1) (T := TX1) (N := 7) rfl inX1 (by decide) q2_0 (by decide +kernel) rfl, ?_⟩
  refine List.forall_mem_cons.mpr ⟨s_aload_n (j := 0) (by decide +kernel) rfl rfl, ?_⟩
  refine List.forall_mem_cons.mpr ⟨s_getf (idx := 34) (C := RX1) (T := TX1) (N := 7) rfl inX1 (by decide) q2_1 (by decide +kernel) rfl, ?_⟩
  refine List.forall_mem_cons.mpr ⟨s_iald (by decide +kernel) rfl, ?_⟩
  refine List.forall_mem_cons.mpr ⟨s_iast (by decide +kernel) rfl, ?_⟩
  refine List.forall_mem_cons.mpr ⟨s_aload_n (j := 0) (by decide +kernel) rfl rfl, ?_⟩
  refine List.forall_mem_cons.mpr ⟨s_dup (by decide +kernel) rfl, ?_⟩
  refine List.forall_mem_cons.mpr ⟨s_getf (idx := 34) (C := RX1) (T := TX1) (N := 7) rfl inX1 (by decide) q2_1 (by decide +kernel) rfl, ?_⟩
  refine List.forall_mem_cons.mpr ⟨s_iconst (by decide +kernel) rfl, ?_⟩
  refine List.forall_mem_cons.mpr ⟨s_iadd (by decide +kernel) rfl, ?_⟩
  refine List.forall_mem_cons.mpr ⟨s_putf (idx := 34) (C := RX1) (T := TX1) (N := 7) rfl inX1 tyX1_ok nmX1 (by decide) rfl (tyX1_ok 5 (by decide)) (Or.inl ⟨rfl, kdI 1 5 (by decide)⟩) q2_1 (by decide +kernel) rfl, ?_⟩
  refine List.forall_mem_cons.mpr ⟨s_iconst (by decide +kernel) rfl, ?_⟩
  refine List.forall_mem_cons.mpr ⟨s_zret rfl (by decide +kernel), ?_⟩
  exact fun q hq => absurd hq List.not_mem_nil
def T_X2_addTide : List (Nat × zO) := [(0, o_aload 1 1), (1, o_const 2 0), (2, o_aload 3 0), (3, o_getf 6 2 2), (6, o_const 8 12), (8, o_aload 9 0), (9, o_getf 12 2 0), (12, o_imul 13), (13, o_iload 14 3), (14, o_acopy 17), (17, o_aload 18 2), (18, o_const 19 0), (19, o_aload 20 0), (20, o_getf 23 2 3), (23, o_const 25 12), (25, o_aload 26 0), (26, o_getf 29 2 0), (29, o_imul 30), (30, o_iload 31 3), (31, o_acopy 34), (34, o_aload 35 0), (35, o_getf 38 2 1), (38, o_aload 39 0), (39, o_getf 42 2 0), (42, o_iload 43 3), (43, o_iast 44), (44, o_aload 45 0), (45, o_dup 46), (46, o_getf 49 2 0), (49, o_const 50 1), (50, o_iadd 51), (51, o_putf 54 2 0), (54, o_aload 55 0), (55, o_getf 58 2 0), (58, o_const 59 1), (59, o_isub 60), (60, o_iret)]
set_option maxRecDepth 20000 in
theorem t_X2_addTide : ∀ q ∈ T_X2_addTide, zS k_X2_addTide q.1 q.2 := by
  unfold T_X2_addTide
  refine List.forall_mem_cons.mpr ⟨s_aload_n (j := 1) (by decide +kernel) rfl rfl, ?_⟩
  refine List.forall_mem_cons.mpr ⟨s_iconst (by decide +kernel) rfl, ?_⟩
  refine List.forall_mem_cons.mpr ⟨s_aload_n (j := 0) (by decide +kernel) rfl rfl, ?_⟩
  refine List.forall_mem_cons.mpr ⟨s_getf (idx := 15) (C := RX2) (T := TX2) (N := 20) rfl inX2 (by decide) q1_61 (by decide +kernel) rfl, ?_⟩
  refine List.forall_mem_cons.mpr ⟨s_bipush (by decide +kernel) (by decide) rfl, ?_⟩
  refine List.forall_mem_cons.mpr ⟨s_aload_n (j := 0) (by decide +kernel) rfl rfl, ?_⟩
  refine List.forall_mem_cons.mpr ⟨s_getf (idx := 61) (C := RX2) (T := TX2) (N := 20) rfl inX2 (by decide) q1_58 (by decide +kernel) rfl, ?_⟩
  refine List.forall_mem_cons.mpr ⟨s_imul (by decide +kernel) rfl, ?_⟩
  refine List.forall_mem_cons.mpr ⟨s_iload_n (j := 3) (by decide +kernel) rfl rfl, ?_⟩
  refine List.forall_mem_cons.mpr ⟨s_acopy (idx := 64) q2_136 q2_138 q2_137 q1_11 (by decide +kernel) rfl, ?_⟩
  refine List.forall_mem_cons.mpr ⟨s_aload_n (j := 2) (by decide +kernel) rfl rfl, ?_⟩
  refine List.forall_mem_cons.mpr ⟨s_iconst (by decide +kernel) rfl, ?_⟩
  refine List.forall_mem_cons.mpr ⟨s_aload_n (j := 0) (by decide +kernel) rfl rfl, ?_⟩
  refine List.forall_mem_cons.mpr ⟨s_getf (idx := 18) (C := RX2) (T := TX2) (N := 20) rfl inX2 (by decide) q1_62 (by decide +kernel) rfl, ?_⟩
  refine List.forall_mem_cons.mpr ⟨s_bipush (by decide +kernel) (by decide) rfl, ?_⟩
  refine List.forall_mem_cons.mpr ⟨s_aload_n (j := 0) (by decide +kernel) rfl rfl, ?_⟩
  refine List.forall_mem_cons.mpr ⟨s_getf (idx := 61) (C := RX2) (T := TX2) (N := 20) rfl inX2 (by decide) q1_58 (by decide +kernel) rfl, ?_⟩
  refine List.forall_mem_cons.mpr ⟨s_imul (by decide +kernel) rfl, ?_⟩
  refine List.forall_mem_cons.mpr ⟨s_iload_n (j := 3) (by decide +kernel) rfl rfl, ?_⟩
  refine List.forall_mem_cons.mpr ⟨s_acopy (idx := 64) q2_136 q2_138 q2_137 q1_11 (by decide +kernel) rfl, ?_⟩
  refine List.forall_mem_cons.mpr ⟨s_aload_n (j := 0) (by decide +kernel) rfl rfl, ?_⟩
  refine List.forall_mem_cons.mpr ⟨s_getf (idx := 9) (C := RX2) (T := TX2) (N := 20) rfl inX2 (by decide) q1_60 (by decide +kernel) rfl, ?_⟩
  refine List.forall_mem_cons.mpr ⟨s_aload_n (j := 0) (by decide +kernel) rfl rfl, ?_⟩
  refine List.forall_mem_cons.mpr ⟨s_getf (idx := 61) (C := RX2) (T := TX2) (N := 20) rfl inX2 (by decide) q1_58 (by decide +kernel) rfl, ?_⟩
  refine List.forall_mem_cons.mpr ⟨s_iload_n (j := 3) (by decide +kernel) rfl rfl, ?_⟩
  refine List.forall_mem_cons.mpr ⟨s_iast (by decide +kernel) rfl, ?_⟩
  refine List.forall_mem_cons.mpr ⟨s_aload_n (j := 0) (by decide +kernel) rfl rfl, ?_⟩
  refine List.forall_mem_cons.mpr ⟨s_dup (by decide +kernel) rfl, ?_⟩
  refine List.forall_mem_cons.mpr ⟨s_getf (idx := 61) (C := RX2) (T := TX2) (N := 20) rfl inX2 (by decide) q1_58 (by decide +kernel) rfl, ?_⟩
  refine List.forall_mem_cons.mpr ⟨s_iconst (by decide +kernel) rfl, ?_⟩
  refine List.forall_mem_cons.mpr ⟨s_iadd (by decide +kernel) rfl, ?_⟩
  refine List.forall_mem_cons.mpr ⟨s_putf (idx := 61) (C := RX2) (T := TX2) (N := 20) rfl inX2 tyX2_ok nmX2 (by decide) rfl (tyX2_ok 0 (by decide)) (Or.inl ⟨rfl, kdI 2 0 (by decide)⟩) q1_58 (by decide +kernel) rfl, ?_⟩
  refine List.forall_mem_cons.mpr ⟨s_aload_n (j := 0) (by decide +kernel) rfl rfl, ?_⟩
  refine List.forall_mem_cons.mpr ⟨s_getf (idx := 61) (C := RX2) (T := TX2) (N := 20) rfl inX2 (by decide) q1_58 (by decide +kernel) rfl, ?_⟩
  refine List.forall_mem_cons.mpr ⟨s_iconst (by decide +kernel) rfl, ?_⟩
  refine List.forall_mem_cons.mpr ⟨s_isub (by decide +kernel) rfl, ?_⟩
  refine List.forall_mem_cons.mpr ⟨s_iret rfl (by decide +kernel), ?_⟩
  exact fun q hq => absurd hq List.not_mem_nil
def T_X2_addWind : List (Nat × zO) := [(0, o_aload 1 0), (1, o_getf 4 2 5), (4, o_aload 5 0), (5, o_getf 8 2 4), (8, o_iload 9 1), (9, o_iast 10), (10, o_aload 11 0), (11, o_getf 14 2 6), (14, o_aload 15 0), (15, o_getf 18 2 4), (18, o_iload 19 2), (19, o_iast 20), (20, o_aload 21 0), (21, o_getf 24 2 7), (24, o_aload 25 0), (25, o_getf 28 2 4), (28, o_iload 29 3), (29, o_iast 30), (30, o_aload 31 0), (31, o_dup 32), (32, o_getf 35 2 4), (35, o_const 36 1), (36, o_iadd 37), (37, o_putf 40 2 4), (40, o_aload 41 0), (41, o_getf 44 2 4), (44, o_const 45 1), (45, o_isub 46), (46, o_iret)]
set_option maxRecDepth 20000 in
theorem t_X2_addWind : ∀ q ∈ T_X2_addWind, zS k_X2_addWind q.1 q.2 := by
  unfold T_X2_addWind
  refine List.forall_mem_cons.mpr ⟨s_aload_n (j := 0) (by decide +kernel) rfl rfl, ?_⟩
  refine List.forall_mem_cons.mpr ⟨s_getf (idx := 21) (C := RX2) (T := TX2) (N := 20) rfl inX2 (by decide) q1_66 (by decide +kernel) rfl, ?_⟩
  refine List.forall_mem_cons.mpr ⟨s_aload_n (j := 0) (by decide +kernel) rfl rfl, ?_⟩
  refine List.forall_mem_cons.mpr ⟨s_getf (idx := 58) (C := RX2) (T := TX2) (N := 20) rfl inX2 (by decide) q1_63 (by decide +kernel) rfl, ?_⟩
  refine List.forall_mem_cons.mpr ⟨s_iload_n (j := 1) (by decide +kernel) rfl rfl, ?_⟩
  refine List.forall_mem_cons.mpr ⟨s_iast (by decide +kernel) rfl, ?_⟩
  refine List.forall_mem_cons.mpr ⟨s_aload_n (j := 0) (by decide +kernel) rfl rfl, ?_⟩
  refine List.forall_mem_cons.mpr ⟨s_getf (idx := 24) (C := RX2) (T := TX2) (N := 20) rfl inX2 (by decide) q1_68 (by decide +kernel) rfl, ?_⟩
  refine List.forall_mem_cons.mpr ⟨s_aload_n (j := 0) (by decide +kernel) rfl rfl, ?_⟩
  refine List.forall_mem_cons.mpr ⟨s_getf (idx := 58) (C := RX2) (T := TX2) (N := 20) rfl inX2 (by decide) q1_63 (by decide +kernel) rfl, ?_⟩
  refine List.forall_mem_cons.mpr ⟨s_iload_n (j := 2) (by decide +kernel) rfl rfl, ?_⟩
  refine List.forall_mem_cons.mpr ⟨s_iast (by decide +kernel) rfl, ?_⟩
  refine List.forall_mem_cons.mpr ⟨s_aload_n (j := 0) (by decide +kernel) rfl rfl, ?_⟩
  refine List.forall_mem_cons.mpr ⟨s_getf (idx := 27) (C := RX2) (T := TX2) (N := 20) rfl inX2 (by decide) q1_70 (by decide +kernel) rfl, ?_⟩
  refine List.forall_mem_cons.mpr ⟨s_aload_n (j := 0) (by decide +kernel) rfl rfl, ?_⟩
  refine List.forall_mem_cons.mpr ⟨s_getf (idx := 58) (C := RX2) (T := TX2) (N := 20) rfl inX2 (by decide) q1_63 (by decide +kernel) rfl, ?_⟩
  refine List.forall_mem_cons.mpr ⟨s_iload_n (j := 3) (by decide +kernel) rfl rfl, ?_⟩
  refine List.forall_mem_cons.mpr ⟨s_iast (by decide +kernel) rfl, ?_⟩
  refine List.forall_mem_cons.mpr ⟨s_aload_n (j := 0) (by decide +kernel) rfl rfl, ?_⟩
  refine List.forall_mem_cons.mpr ⟨s_dup (by decide +kernel) rfl, ?_⟩
  refine List.forall_mem_cons.mpr ⟨s_getf (idx := 58) (C := RX2) (T := TX2) (N := 20) rfl inX2 (by decide) q1_63 (by decide +kernel) rfl, ?_⟩
  refine List.forall_mem_cons.mpr ⟨s_iconst (by decide +kernel) rfl, ?_⟩
  refine List.forall_mem_cons.mpr ⟨s_iadd (by decide +kernel) rfl, ?_⟩
  refine List.forall_mem_cons.mpr ⟨s_putf (idx := 58) (C := RX2) (T := TX2) (N := 20) rfl inX2 tyX2_ok nmX2 (by decide) rfl (tyX2_ok 4 (by decide)) (Or.inl ⟨rfl, kdI 2 4 (by decide)⟩) q1_63 (by decide +kernel) rfl, ?_⟩
  refine List.forall_mem_cons.mpr ⟨s_aload_n (j := 0) (by decide +kernel) rfl rfl, ?_⟩
  refine List.forall_mem_cons.mpr ⟨s_getf (idx := 58) (C := RX2) (T := TX2) (N := 20) rfl inX2 (by decide) q1_63 (by decide +kernel) rfl, ?_⟩
  refine List.forall_mem_cons.mpr ⟨s_iconst (by decide +kernel) rfl, ?_⟩
  refine List.forall_mem_cons.mpr ⟨s_isub (by decide +kernel) rfl, ?_⟩
  refine List.forall_mem_cons.mpr ⟨s_iret rfl (by decide +kernel), ?_⟩
  exact fun q hq => absurd hq List.not_mem_nil
def T_X2_addWay : List (Nat × zO) := [(0, o_aload 1 0), (1, o_getf 4 2 11), (4, o_aload 5 0), (5, o_getf 8 2 10), (8, o_iload 9 1), (9, o_iast 10), (10, o_aload 11 0), (11, o_getf 14 2 12), (14, o_aload 15 0), (15, o_getf 18 2 10), (18, o_iload 19 2), (19, o_iast 20), (20, o_aload 21 0), (21, o_getf 24 2 13), (24, o_aload 25 0), (25, o_getf 28 2 10), (28, o_iload 29 3), (29, o_iast 30), (30, o_aload 31 0), (31, o_getf 34 2 14), (34, o_aload 35 0), (35, o_getf 38 2 10), (38, o_iload 40 4), (40, o_iast 41), (41, o_aload 42 0), (42, o_getf 45 2 15), (45, o_aload 46 0), (46, o_getf 49 2 10), (49, o_const 50 0), (50, o_iast 51), (51, o_aload 52 0), (52, o_getf 55 2 16), (55, o_aload 56 0), (56, o_getf 59 2 10), (59, o_const 62 1439), (62, o_iast 63), (63, o_aload 64 0), (64, o_dup 65), (65, o_getf 68 2 10), (68, o_const 69 1), (69, o_iadd 70), (70, o_putf 73 2 10), (73, o_aload 74 0), (74, o_getf 77 2 10), (77, o_const 78 1), (78, o_isub 79), (79, o_iret)]
set_option maxRecDepth 20000 in
theorem t_X2_addWay : ∀ q ∈ T_X2_addWay, zS k_X2_addWay q.1 q.2 := by
  unfold T_X2_addWay
  refine List.forall_mem_cons.mpr ⟨s_aload_n (j := 0) (by decide +kernel) rfl rfl, ?_⟩
  refine List.forall_mem_cons.mpr ⟨s_getf (idx := 33) (C := RX2) (T := TX2) (N := 20) rfl inX2 (by decide) q1_81 (by decide +kernel) rfl, ?_⟩
  refine List.forall_mem_cons.mpr ⟨s_aload_n (j := 0) (by decide +kernel) rfl rfl, ?_⟩
  refine List.forall_mem_cons.mpr ⟨s_getf (idx := 70) (C := RX2) (T := TX2) (N := 20) rfl inX2 (by decide) q1_78 (by decide +kernel) rfl, ?_⟩
  refine List.forall_mem_cons.mpr ⟨s_iload_n (j := 1) (by decide +kernel) rfl rfl, ?_⟩
  refine List.forall_mem_cons.mpr ⟨s_iast (by decide +kernel) rfl, ?_⟩
  refine List.forall_mem_cons.mpr ⟨s_aload_n (j := 0) (by decide +kernel) rfl rfl, ?_⟩
  refine List.forall_mem_cons.mpr ⟨s_getf (idx := 36) (C := RX2) (T := TX2) (N := 20) rfl inX2 (by decide) q1_84 (by decide +kernel) rfl, ?_⟩
  refine List.forall_mem_cons.mpr ⟨s_aload_n (j := 0) (by decide +kernel) rfl rfl, ?_⟩
  refine List.forall_mem_cons.mpr ⟨s_getf (idx := 70) (C := RX2) (T := TX2) (N := 20) rfl inX2 (by decide) q1_78 (by decide +kernel) rfl, ?_⟩
  refine List.forall_mem_cons.mpr ⟨s_iload_n (j := 2) (by decide +kernel) rfl rfl, ?_⟩
  refine List.forall_mem_cons.mpr ⟨s_iast (by decide +kernel) rfl, ?_⟩
  refine List.forall_mem_cons.mpr ⟨s_aload_n (j := 0) (by decide +kernel) rfl rfl, ?_⟩
  refine List.forall_mem_cons.mpr ⟨s_getf (idx := 39) (C := RX2) (T := TX2) (N := 20) rfl inX2 (by decide) q1_87 (by decide +kernel) rfl, ?_⟩
  refine List.forall_mem_cons.mpr ⟨s_aload_n (j := 0) (by decide +kernel) rfl rfl, ?_⟩
  refine List.forall_mem_cons.mpr ⟨s_getf (idx := 70) (C := RX2) (T := TX2) (N := 20) rfl inX2 (by decide) q1_78 (by decide +kernel) rfl, ?_⟩
  refine List.forall_mem_cons.mpr ⟨s_iload_n (j := 3) (by decide +kernel) rfl rfl, ?_⟩
  refine List.forall_mem_cons.mpr ⟨s_iast (by decide +kernel) rfl, ?_⟩
  refine List.forall_mem_cons.mpr ⟨s_aload_n (j := 0) (by decide +kernel) rfl rfl, ?_⟩
  refine List.forall_mem_cons.mpr ⟨s_getf (idx := 42) (C := RX2) (T := TX2) (N := 20) rfl inX2 (by decide) q1_88 (by decide +kernel) rfl, ?_⟩
  refine List.forall_mem_cons.mpr ⟨s_aload_n (j := 0) (by decide +kernel) rfl rfl, ?_⟩
  refine List.forall_mem_cons.mpr ⟨s_getf (idx := 70) (C := RX2) (T := TX2) (N := 20) rfl inX2 (by decide) q1_78 (by decide +kernel) rfl, ?_⟩
  refine List.forall_mem_cons.mpr ⟨s_iload (by decide +kernel) rfl, ?_⟩
  refine List.forall_mem_cons.mpr ⟨s_iast (by decide +kernel) rfl, ?_⟩
  refine List.forall_mem_cons.mpr ⟨s_aload_n (j := 0) (by decide +kernel) rfl rfl, ?_⟩
  refine List.forall_mem_cons.mpr ⟨s_getf (idx := 45) (C := RX2) (T := TX2) (N := 20) rfl inX2 (by decide) q1_92 (by decide +kernel) rfl, ?_⟩
  refine List.forall_mem_cons.mpr ⟨s_aload_n (j := 0) (by decide +kernel) rfl rfl, ?_⟩
  refine List.forall_mem_cons.mpr ⟨s_getf (idx := 70) (C := RX2) (T := TX2) (N := 20) rfl inX2 (by decide) q1_78 (by decide +kernel) rfl, ?_⟩
  refine List.forall_mem_cons.mpr ⟨s_iconst (by decide +kernel) rfl, ?_⟩
  refine List.forall_mem_cons.mpr ⟨s_iast (by decide +kernel) rfl, ?_⟩
  refine List.forall_mem_cons.mpr ⟨s_aload_n (j := 0) (by decide +kernel) rfl rfl, ?_⟩
  refine List.forall_mem_cons.mpr ⟨s_getf (idx := 48) (C := RX2) (T := TX2) (N := 20) rfl inX2 (by decide) q1_96 (by decide +kernel) rfl, ?_⟩
  refine List.forall_mem_cons.mpr ⟨s_aload_n (j := 0) (by decide +kernel) rfl rfl, ?_⟩
  refine List.forall_mem_cons.mpr ⟨s_getf (idx := 70) (C := RX2) (T := TX2) (N := 20) rfl inX2 (by decide) q1_78 (by decide +kernel) rfl, ?_⟩
  refine List.forall_mem_cons.mpr ⟨s_sipush (by decide +kernel) (by decide) rfl, ?_⟩
  refine List.forall_mem_cons.mpr ⟨s_iast (by decide +kernel) rfl, ?_⟩
  refine List.forall_mem_cons.mpr ⟨s_aload_n (j := 0) (by decide +kernel) rfl rfl, ?_⟩
  refine List.forall_mem_cons.mpr ⟨s_dup (by decide +kernel) rfl, ?_⟩
  refine List.forall_mem_cons.mpr ⟨s_getf (idx := 70) (C := RX2) (T := TX2) (N := 20) rfl inX2 (by decide) q1_78 (by decide +kernel) rfl, ?_⟩
  refine List.forall_mem_cons.mpr ⟨s_iconst (by decide +kernel) rfl, ?_⟩
  refine List.forall_mem_cons.mpr ⟨s_iadd (by decide +kernel) rfl, ?_⟩
  refine List.forall_mem_cons.mpr ⟨s_putf (idx := 70) (C := RX2) (T := TX2) (N := 20) rfl inX2 tyX2_ok nmX2 (by decide) rfl (tyX2_ok 10 (by decide)) (Or.inl ⟨rfl, kdI 2 10 (by decide)⟩) q1_78 (by decide +kernel) rfl, ?_⟩
  refine List.forall_mem_cons.mpr ⟨s_aload_n (j := 0) (by decide +kernel) rfl rfl, ?_⟩
  refine List.forall_mem_cons.mpr ⟨s_getf (idx := 70) (C := RX2) (T := TX2) (N := 20) rfl inX2 (by decide) q1_78 (by decide +kernel) rfl, ?_⟩
  refine List.forall_mem_cons.mpr ⟨s_iconst (by decide +kernel) rfl, ?_⟩
  refine List.forall_mem_cons.mpr ⟨s_isub (by decide +kernel) rfl, ?_⟩
  refine List.forall_mem_cons.mpr ⟨s_iret rfl (by decide +kernel), ?_⟩
  exact fun q hq => absurd hq List.not_mem_nil
def T_X2_allWinds : List (Nat × zO) := [(0, o_const 1 1), (1, o_aload 2 0), (2, o_getf 5 2 4), (5, o_ishl 6), (6, o_const 7 1), (7, o_isub 8), (8, o_iret)]
set_option maxRecDepth 20000 in
theorem t_X2_allWinds : ∀ q ∈ T_X2_allWinds, zS k_X2_allWinds q.1 q.2 := by
  unfold T_X2_allWinds
  refine List.forall_mem_cons.mpr ⟨s_iconst (by decide +kernel) rfl, ?_⟩
  refine List.forall_mem_cons.mpr ⟨s_aload_n (j := 0) (by decide +kernel) rfl rfl, ?_⟩
  refine List.forall_mem_cons.mpr ⟨s_getf (idx := 58) (C := RX2) (T := TX2) (N := 20) rfl inX2 (by decide) q1_63 (by decide +kernel) rfl, ?_⟩
  refine List.forall_mem_cons.mpr ⟨s_ishl (by decide +kernel) rfl, ?_⟩
  refine List.forall_mem_cons.mpr ⟨s_iconst (by decide +kernel) rfl, ?_⟩
  refine List.forall_mem_cons.mpr ⟨s_isub (by decide +kernel) rfl, ?_⟩
  refine List.forall_mem_cons.mpr ⟨s_iret rfl (by decide +kernel), ?_⟩
  exact fun q hq => absurd hq List.not_mem_nil
def T_X2_chanceOf : List (Nat × zO) := [(0, o_const 1 0), (1, o_istore 2 2), (2, o_const 3 0), (3, o_istore 4 3), (4, o_iload 5 3), (5, o_aload 6 0), (6, o_getf 9 2 4), (9, o_icmp_ge 35 12), (12, o_iload 13 1), (13, o_iload 14 3), (14, o_iushr 15), (15, o_const 16 1), (16, o_iand 17), (17, o_if_eq 29 20), (20, o_iload 21 2), (21, o_aload 22 0), (22, o_getf 25 2 7), (25, o_iload 26 3), (26, o_iald 27), (27, o_iadd 28), (28, o_istore 29 2), (29, o_iinc 32 3 1), (32, o_goto 4), (35, o_iload 36 2), (36, o_iret)]
set_option maxRecDepth 20000 in
theorem t_X2_chanceOf : ∀ q ∈ T_X2_chanceOf, zS k_X2_chanceOf q.1 q.2 := by
  unfold T_X2_chanceOf
  refine List.forall_mem_cons.mpr ⟨s_iconst (by decide +kernel) rfl, ?_⟩
  refine List.forall_mem_cons.mpr ⟨s_istore_n (j := 2) (by decide +kernel) rfl (by decide) rfl, ?_⟩
  refine List.forall_mem_cons.mpr ⟨s_iconst (by decide +kernel) rfl, ?_⟩
  refine List.forall_mem_cons.mpr ⟨s_istore_n (j := 3) (by decide +kernel) rfl (by decide) rfl, ?_⟩
  refine List.forall_mem_cons.mpr ⟨s_iload_n (j := 3) (by decide +kernel) rfl rfl, ?_⟩
  refine List.forall_mem_cons.mpr ⟨s_aload_n (j := 0) (by decide +kernel) rfl rfl, ?_⟩
  refine List.forall_mem_cons.mpr ⟨s_getf (idx := 58) (C := RX2) (T := TX2) (N := 20) rfl inX2 (by decide) q1_63 (by decide +kernel) rfl, ?_⟩
  refine List.forall_mem_cons.mpr ⟨s_icmp_ge (off := 26) (by decide +kernel) (by decide) rfl, ?_⟩
  refine List.forall_mem_cons.mpr ⟨s_iload_n (j := 1) (by decide +kernel) rfl rfl, ?_⟩
  refine List.forall_mem_cons.mpr ⟨s_iload_n (j := 3) (by decide +kernel) rfl rfl, ?_⟩
  refine List.forall_mem_cons.mpr ⟨s_iushr (by decide +kernel) rfl, ?_⟩
  refine List.forall_mem_cons.mpr ⟨s_iconst (by decide +kernel) rfl, ?_⟩
  refine List.forall_mem_cons.mpr ⟨s_iand (by decide +kernel) rfl, ?_⟩
  refine List.forall_mem_cons.mpr ⟨s_if_eq (off := 12) (by decide +kernel) (by decide) rfl, ?_⟩
  refine List.forall_mem_cons.mpr ⟨s_iload_n (j := 2) (by decide +kernel) rfl rfl, ?_⟩
  refine List.forall_mem_cons.mpr ⟨s_aload_n (j := 0) (by decide +kernel) rfl rfl, ?_⟩
  refine List.forall_mem_cons.mpr ⟨s_getf (idx := 27) (C := RX2) (T := TX2) (N := 20) rfl inX2 (by decide) q1_70 (by decide +kernel) rfl, ?_⟩
  refine List.forall_mem_cons.mpr ⟨s_iload_n (j := 3) (by decide +kernel) rfl rfl, ?_⟩
  refine List.forall_mem_cons.mpr ⟨s_iald (by decide +kernel) rfl, ?_⟩
  refine List.forall_mem_cons.mpr ⟨s_iadd (by decide +kernel) rfl, ?_⟩
  refine List.forall_mem_cons.mpr ⟨s_istore_n (j := 2) (by decide +kernel) rfl (by decide) rfl, ?_⟩
  refine List.forall_mem_cons.mpr ⟨s_iinc (by decide +kernel) (by decide) rfl, ?_⟩
  refine List.forall_mem_cons.mpr ⟨s_goto (off := (-28)) (by decide +kernel) (by decide), ?_⟩
  refine List.forall_mem_cons.mpr ⟨s_iload_n (j := 2) (by decide +kernel) rfl rfl, ?_⟩
  refine List.forall_mem_cons.mpr ⟨s_iret rfl (by decide +kernel), ?_⟩
  exact fun q hq => absurd hq List.not_mem_nil
def T_X2_thousandths : List (Nat × zO) := [(0, o_aload 1 0), (1, o_iload 2 1), (2, o_callv 1 2 k_X2_chanceOf 5), (5, o_const 8 1000), (8, o_imul 9), (9, o_const 10 1), (10, o_aload 11 0), (11, o_aload 12 0), (12, o_callv 0 2 k_X2_allWinds 15), (15, o_callv 1 2 k_X2_chanceOf 18), (18, o_mmax 21), (21, o_idiv 22), (22, o_iret)]
set_option maxRecDepth 20000 in
theorem t_X2_thousandths : ∀ q ∈ T_X2_thousandths, zS k_X2_thousandths q.1 q.2 := by
  unfold T_X2_thousandths
  refine List.forall_mem_cons.mpr ⟨s_aload_n (j := 0) (by decide +kernel) rfl rfl, ?_⟩
  refine List.forall_mem_cons.mpr ⟨s_iload_n (j := 1) (by decide +kernel) rfl rfl, ?_⟩
  refine List.forall_mem_cons.mpr ⟨s_callv (idx := 73) (k' := k_X2_chanceOf) (T := TX2) (N := 20) rfl q3_105 q3_110 q3_103 q3_104 q1_3 de_X2_chanceOf (by decide) (by decide +kernel) rfl, ?_⟩
  refine List.forall_mem_cons.mpr ⟨s_sipush (by decide +kernel) (by decide) rfl, ?_⟩
  refine List.forall_mem_cons.mpr ⟨s_imul (by decide +kernel) rfl, ?_⟩
  refine List.forall_mem_cons.mpr ⟨s_iconst (by decide +kernel) rfl, ?_⟩
  refine List.forall_mem_cons.mpr ⟨s_aload_n (j := 0) (by decide +kernel) rfl rfl, ?_⟩
  refine List.forall_mem_cons.mpr ⟨s_aload_n (j := 0) (by decide +kernel) rfl rfl, ?_⟩
  refine List.forall_mem_cons.mpr ⟨s_callv (idx := 77) (k' := k_X2_allWinds) (T := TX2) (N := 20) rfl q3_11 q3_111 q3_9 q3_10 q1_3 de_X2_allWinds (by decide) (by decide +kernel) rfl, ?_⟩
  refine List.forall_mem_cons.mpr ⟨s_callv (idx := 73) (k' := k_X2_chanceOf) (T := TX2) (N := 20) rfl q3_105 q3_110 q3_103 q3_104 q1_3 de_X2_chanceOf (by decide) (by decide +kernel) rfl, ?_⟩
  refine List.forall_mem_cons.mpr ⟨s_mmax (idx := 81) q2_165 q2_166b q1_12b qmaxC (by decide +kernel) rfl, ?_⟩
  refine List.forall_mem_cons.mpr ⟨s_idiv (by decide +kernel) rfl, ?_⟩
  refine List.forall_mem_cons.mpr ⟨s_iret rfl (by decide +kernel), ?_⟩
  exact fun q hq => absurd hq List.not_mem_nil
def T_X2_taking : List (Nat × zO) := [(0, o_aload 1 0), (1, o_getf 4 2 13), (4, o_iload 5 1), (5, o_iald 6), (6, o_aload 7 0), (7, o_getf 10 2 17), (10, o_iload 11 2), (11, o_iald 12), (12, o_const 14 10), (14, o_iload 15 3), (15, o_imul 16), (16, o_iadd 17), (17, o_imul 18), (18, o_const 20 99), (20, o_iadd 21), (21, o_const 23 100), (23, o_idiv 24), (24, o_iret)]
set_option maxRecDepth 20000 in
theorem t_X2_taking : ∀ q ∈ T_X2_taking, zS k_X2_taking q.1 q.2 := by
  unfold T_X2_taking
  refine List.forall_mem_cons.mpr ⟨s_aload_n (j := 0) (by decide +kernel) rfl rfl, ?_⟩
  refine List.forall_mem_cons.mpr ⟨s_getf (idx := 39) (C := RX2) (T := TX2) (N := 20) rfl inX2 (by decide) q1_87 (by decide +kernel) rfl, ?_⟩
  refine List.forall_mem_cons.mpr ⟨s_iload_n (j := 1) (by decide +kernel) rfl rfl, ?_⟩
  refine List.forall_mem_cons.mpr ⟨s_iald (by decide +kernel) rfl, ?_⟩
  refine List.forall_mem_cons.mpr ⟨s_aload_n (j := 0) (by decide +kernel) rfl rfl, ?_⟩
  refine List.forall_mem_cons.mpr ⟨s_getf (idx := 51) (C := RX2) (T := TX2) (N := 20) rfl inX2 (by decide) q1_100 (by decide +kernel) rfl, ?_⟩
  refine List.forall_mem_cons.mpr ⟨s_iload_n (j := 2) (by decide +kernel) rfl rfl, ?_⟩
  refine List.forall_mem_cons.mpr ⟨s_iald (by decide +kernel) rfl, ?_⟩
  refine List.forall_mem_cons.mpr ⟨s_bipush (by decide +kernel) (by decide) rfl, ?_⟩
  refine List.forall_mem_cons.mpr ⟨s_iload_n (j := 3) (by decide +kernel) rfl rfl, ?_⟩
  refine List.forall_mem_cons.mpr ⟨s_imul (by decide +kernel) rfl, ?_⟩
  refine List.forall_mem_cons.mpr ⟨s_iadd (by decide +kernel) rfl, ?_⟩
  refine List.forall_mem_cons.mpr ⟨s_imul (by decide +kernel) rfl, ?_⟩
  refine List.forall_mem_cons.mpr ⟨s_bipush (by decide +kernel) (by decide) rfl, ?_⟩
  refine List.forall_mem_cons.mpr ⟨s_iadd (by decide +kernel) rfl, ?_⟩
  refine List.forall_mem_cons.mpr ⟨s_bipush (by decide +kernel) (by decide) rfl, ?_⟩
  refine List.forall_mem_cons.mpr ⟨s_idiv (by decide +kernel) rfl, ?_⟩
  refine List.forall_mem_cons.mpr ⟨s_iret rfl (by decide +kernel), ?_⟩
  exact fun q hq => absurd hq List.not_mem_nil
def T_X2_tideAt : List (Nat × zO) := [(0, o_const 2 12), (2, o_iload 3 1), (3, o_imul 4), (4, o_istore 5 3), (5, o_iload 6 3), (6, o_aload 7 0), (7, o_getf 10 2 1), (10, o_iload 11 1), (11, o_iald 12), (12, o_iadd 13), (13, o_istore 15 4), (15, o_iload 16 3), (16, o_istore 18 5), (18, o_iload 20 5), (20, o_iload 22 4), (22, o_icmp_ge 42 25), (25, o_aload 26 0), (26, o_getf 29 2 2), (29, o_iload 31 5), (31, o_iald 32), (32, o_iload 33 2), (33, o_icmp_ge 42 36), (36, o_iinc 39 5 1), (39, o_goto 18), (42, o_iload 44 5), (44, o_iload 45 3), (45, o_icmp_ne 55 48), (48, o_aload 49 0), (49, o_getf 52 2 3), (52, o_iload 53 3), (53, o_iald 54), (54, o_iret), (55, o_iload 57 5), (57, o_iload 59 4), (59, o_icmp_ne 72 62), (62, o_aload 63 0), (63, o_getf 66 2 3), (66, o_iload 68 4), (68, o_const 69 1), (69, o_isub 70), (70, o_iald 71), (71, o_iret), (72, o_const 73 1), (73, o_aload 74 0), (74, o_getf 77 2 2), (77, o_iload 79 5), (79, o_iald 80), (80, o_aload 81 0), (81, o_getf 84 2 2), (84, o_iload 86 5), (86, o_const 87 1), (87, o_isub 88), (88, o_iald 89), (89, o_isub 90), (90, o_mmax 93), (93, o_istore 95 6), (95, o_iload 96 2), (96, o_aload 97 0), (97, o_getf 100 2 2), (100, o_iload 102 5), (102, o_const 103 1), (103, o_isub 104), (104, o_iald 105), (105, o_isub 106), (106, o_istore 108 7), (108, o_aload 109 0), (109, o_getf 112 2 3), (112, o_iload 114 5), (114, o_const 115 1), (115, o_isub 116), (116, o_iald 117), (117, o_iload 119 6), (119, o_iload 121 7), (121, o_isub 122), (122, o_imul 123), (123, o_aload 124 0), (124, o_getf 127 2 3), (127, o_iload 129 5), (129, o_iald 130), (130, o_iload 132 7), (132, o_imul 133), (133, o_iadd 134), (134, o_iload 136 6), (136, o_idiv 137), (137, o_iret)]
set_option maxRecDepth 20000 in
theorem t_X2_tideAt : ∀ q ∈ T_X2_tideAt, zS k_X2_tideAt q.1 q.2 := by
  unfold T_X2_tideAt
  refine List.forall_mem_cons.mpr ⟨s_bipush (by decide +kernel) (by decide) rfl, ?_⟩
  refine List.forall_mem_cons.mpr ⟨s_iload_n (j := 1) (by decide +kernel) rfl rfl, ?_⟩
  refine List.forall_mem_cons.mpr ⟨s_imul (by decide +kernel) rfl, ?_⟩
  refine List.forall_mem_cons.mpr ⟨s_istore_n (j := 3) (by decide +kernel) rfl (by decide) rfl, ?_⟩
  refine List.forall_mem_cons.mpr ⟨s_iload_n (j := 3) (by decide +kernel) rfl rfl, ?_⟩
  refine List.forall_mem_cons.mpr ⟨s_aload_n (j := 0) (by decide +kernel) rfl rfl, ?_⟩
  refine List.forall_mem_cons.mpr ⟨s_getf (idx := 9) (C := RX2) (T := TX2) (N := 20) rfl inX2 (by decide) q1_60 (by decide +kernel) rfl, ?_⟩
  refine List.forall_mem_cons.mpr ⟨s_iload_n (j := 1) (by decide +kernel) rfl rfl, ?_⟩
  refine List.forall_mem_cons.mpr ⟨s_iald (by decide +kernel) rfl, ?_⟩
  refine List.forall_mem_cons.mpr ⟨s_iadd (by decide +kernel) rfl, ?_⟩
  refine List.forall_mem_cons.mpr ⟨s_istore (by decide +kernel) (by decide) rfl, ?_⟩
  refine List.forall_mem_cons.mpr ⟨s_iload_n (j := 3) (by decide +kernel) rfl rfl, ?_⟩
  refine List.forall_mem_cons.mpr ⟨s_istore (by decide +kernel) (by decide) rfl, ?_⟩
  refine List.forall_mem_cons.mpr ⟨s_iload (by decide +kernel) rfl, ?_⟩
  refine List.forall_mem_cons.mpr ⟨s_iload (by decide +kernel) rfl, ?_⟩
  refine List.forall_mem_cons.mpr ⟨s_icmp_ge (off := 20) (by decide +kernel) (by decide) rfl, ?_⟩
  refine List.forall_mem_cons.mpr ⟨s_aload_n (j := 0) (by decide +kernel) rfl rfl, ?_⟩
  refine List.forall_mem_cons.mpr ⟨s_getf (idx := 15) (C := RX2) (T := TX2) (N := 20) rfl inX2 (by decide) q1_61 (by decide +kernel) rfl, ?_⟩
  refine List.forall_mem_cons.mpr ⟨s_iload (by decide +kernel) rfl, ?_⟩
  refine List.forall_mem_cons.mpr ⟨s_iald (by decide +kernel) rfl, ?_⟩
  refine List.forall_mem_cons.mpr ⟨s_iload_n (j := 2) (by decide +kernel) rfl rfl, ?_⟩
  refine List.forall_mem_cons.mpr ⟨s_icmp_ge (off := 9) (by decide +kernel) (by decide) rfl, ?_⟩
  refine List.forall_mem_cons.mpr ⟨s_iinc (by decide +kernel) (by decide) rfl, ?_⟩
  refine List.forall_mem_cons.mpr ⟨s_goto (off := (-21)) (by decide +kernel) (by decide), ?_⟩
  refine List.forall_mem_cons.mpr ⟨s_iload (by decide +kernel) rfl, ?_⟩
  refine List.forall_mem_cons.mpr ⟨s_iload_n (j := 3) (by decide +kernel) rfl rfl, ?_⟩
  refine List.forall_mem_cons.mpr ⟨s_icmp_ne (off := 10) (by decide +kernel) (by decide) rfl, ?_⟩
  refine List.forall_mem_cons.mpr ⟨s_aload_n (j := 0) (by decide +kernel) rfl rfl, ?_⟩
  refine List.forall_mem_cons.mpr ⟨s_getf (idx := 18) (C := RX2) (T := TX2) (N := 20) rfl inX2 (by decide) q1_62 (by decide +kernel) rfl, ?_⟩
  refine List.forall_mem_cons.mpr ⟨s_iload_n (j := 3) (by decide +kernel) rfl rfl, ?_⟩
  refine List.forall_mem_cons.mpr ⟨s_iald (by decide +kernel) rfl, ?_⟩
  refine List.forall_mem_cons.mpr ⟨s_iret rfl (by decide +kernel), ?_⟩
  refine List.forall_mem_cons.mpr ⟨s_iload (by decide +kernel) rfl, ?_⟩
  refine List.forall_mem_cons.mpr ⟨s_iload (by decide +kernel) rfl, ?_⟩
  refine List.forall_mem_cons.mpr ⟨s_icmp_ne (off := 13) (by decide +kernel) (by decide) rfl, ?_⟩
  refine List.forall_mem_cons.mpr ⟨s_aload_n (j := 0) (by decide +kernel) rfl rfl, ?_⟩
  refine List.forall_mem_cons.mpr ⟨s_getf (idx := 18) (C := RX2) (T := TX2) (N := 20) rfl inX2 (by decide) q1_62 (by decide +kernel) rfl, ?_⟩
  refine List.forall_mem_cons.mpr ⟨s_iload (by decide +kernel) rfl, ?_⟩
  refine List.forall_mem_cons.mpr ⟨s_iconst (by decide +kernel) rfl, ?_⟩
  refine List.forall_mem_cons.mpr ⟨s_isub (by decide +kernel) rfl, ?_⟩
  refine List.forall_mem_cons.mpr ⟨s_iald (by decide +kernel) rfl, ?_⟩
  refine List.forall_mem_cons.mpr ⟨s_iret rfl (by decide +kernel), ?_⟩
  refine List.forall_mem_cons.mpr ⟨s_iconst (by decide +kernel) rfl, ?_⟩
  refine List.forall_mem_cons.mpr ⟨s_aload_n (j := 0) (by decide +kernel) rfl rfl, ?_⟩
  refine List.forall_mem_cons.mpr ⟨s_getf (idx := 15) (C := RX2) (T := TX2) (N := 20) rfl inX2 (by decide) q1_61 (by decide +kernel) rfl, ?_⟩
  refine List.forall_mem_cons.mpr ⟨s_iload (by decide +kernel) rfl, ?_⟩
  refine List.forall_mem_cons.mpr ⟨s_iald (by decide +kernel) rfl, ?_⟩
  refine List.forall_mem_cons.mpr ⟨s_aload_n (j := 0) (by decide +kernel) rfl rfl, ?_⟩
  refine List.forall_mem_cons.mpr ⟨s_getf (idx := 15) (C := RX2) (T := TX2) (N := 20) rfl inX2 (by decide) q1_61 (by decide +kernel) rfl, ?_⟩
  refine List.forall_mem_cons.mpr ⟨s_iload (by decide +kernel) rfl, ?_⟩
  refine List.forall_mem_cons.mpr ⟨s_iconst (by decide +kernel) rfl, ?_⟩
  refine List.forall_mem_cons.mpr ⟨s_isub (by decide +kernel) rfl, ?_⟩
  refine List.forall_mem_cons.mpr ⟨s_iald (by decide +kernel) rfl, ?_⟩
  refine List.forall_mem_cons.mpr ⟨s_isub (by decide +kernel) rfl, ?_⟩
  refine List.forall_mem_cons.mpr ⟨s_mmax (idx := 81) q2_165 q2_166b q1_12b qmaxC (by decide +kernel) rfl, ?_⟩
  refine List.forall_mem_cons.mpr ⟨s_istore (by decide +kernel) (by decide) rfl, ?_⟩
  refine List.forall_mem_cons.mpr ⟨s_iload_n (j := 2) (by decide +kernel) rfl rfl, ?_⟩
  refine List.forall_mem_cons.mpr ⟨s_aload_n (j := 0) (by decide +kernel) rfl rfl, ?_⟩
  refine List.forall_mem_cons.mpr ⟨s_getf (idx := 15) (C := RX2) (T := TX2) (N := 20) rfl inX2 (by decide) q1_61 (by decide +kernel) rfl, ?_⟩
  refine List.forall_mem_cons.mpr ⟨s_iload (by decide +kernel) rfl, ?_⟩
  refine List.forall_mem_cons.mpr ⟨s_iconst (by decide +kernel) rfl, ?_⟩
  refine List.forall_mem_cons.mpr ⟨s_isub (by decide +kernel) rfl, ?_⟩
  refine List.forall_mem_cons.mpr ⟨s_iald (by decide +kernel) rfl, ?_⟩
  refine List.forall_mem_cons.mpr ⟨s_isub (by decide +kernel) rfl, ?_⟩
  refine List.forall_mem_cons.mpr ⟨s_istore (by decide +kernel) (by decide) rfl, ?_⟩
  refine List.forall_mem_cons.mpr ⟨s_aload_n (j := 0) (by decide +kernel) rfl rfl, ?_⟩
  refine List.forall_mem_cons.mpr ⟨s_getf (idx := 18) (C := RX2) (T := TX2) (N := 20) rfl inX2 (by decide) q1_62 (by decide +kernel) rfl, ?_⟩
  refine List.forall_mem_cons.mpr ⟨s_iload (by decide +kernel) rfl, ?_⟩
  refine List.forall_mem_cons.mpr ⟨s_iconst (by decide +kernel) rfl, ?_⟩
  refine List.forall_mem_cons.mpr ⟨s_isub (by decide +kernel) rfl, ?_⟩
  refine List.forall_mem_cons.mpr ⟨s_iald (by decide +kernel) rfl, ?_⟩
  refine List.forall_mem_cons.mpr ⟨s_iload (by decide +kernel) rfl, ?_⟩
  refine List.forall_mem_cons.mpr ⟨s_iload (by decide +kernel) rfl, ?_⟩
  refine List.forall_mem_cons.mpr ⟨s_isub (by decide +kernel) rfl, ?_⟩
  refine List.forall_mem_cons.mpr ⟨s_imul (by decide +kernel) rfl, ?_⟩
  refine List.forall_mem_cons.mpr ⟨s_aload_n (j := 0) (by decide +kernel) rfl rfl, ?_⟩
  refine List.forall_mem_cons.mpr ⟨s_getf (idx := 18) (C := RX2) (T := TX2) (N := 20) rfl inX2 (by decide) q1_62 (by decide +kernel) rfl, ?_⟩
  refine List.forall_mem_cons.mpr ⟨s_iload (by decide +kernel) rfl, ?_⟩
  refine List.forall_mem_cons.mpr ⟨s_iald (by decide +kernel) rfl, ?_⟩
  refine List.forall_mem_cons.mpr ⟨s_iload (by decide +kernel) rfl, ?_⟩
  refine List.forall_mem_cons.mpr ⟨s_imul (by decide +kernel) rfl, ?_⟩
  refine List.forall_mem_cons.mpr ⟨s_iadd (by decide +kernel) rfl, ?_⟩
  refine List.forall_mem_cons.mpr ⟨s_iload (by decide +kernel) rfl, ?_⟩
  refine List.forall_mem_cons.mpr ⟨s_idiv (by decide +kernel) rfl, ?_⟩
  refine List.forall_mem_cons.mpr ⟨s_iret rfl (by decide +kernel), ?_⟩
  exact fun q hq => absurd hq List.not_mem_nil
def T_X2_seaAt : List (Nat × zO) := [(0, o_const 1 0), (1, o_const 4 1439), (4, o_iload 5 3), (5, o_aload 6 0), (6, o_getf 9 2 6), (9, o_iload 10 2), (10, o_iald 11), (11, o_iadd 12), (12, o_mmin 15), (15, o_mmax 18), (18, o_istore 20 4), (20, o_aload 21 0), (21, o_iload 22 1), (22, o_iload 24 4), (24, o_callv 2 2 k_X2_tideAt 27), (27, o_aload 28 0), (28, o_getf 31 2 5), (31, o_iload 32 2), (32, o_iald 33), (33, o_iadd 34), (34, o_iret)]
set_option maxRecDepth 20000 in
theorem t_X2_seaAt : ∀ q ∈ T_X2_seaAt, zS k_X2_seaAt q.1 q.2 := by
  unfold T_X2_seaAt
  refine List.forall_mem_cons.mpr ⟨s_iconst (by decide +kernel) rfl, ?_⟩
  refine List.forall_mem_cons.mpr ⟨s_sipush (by decide +kernel) (by decide) rfl, ?_⟩
  refine List.forall_mem_cons.mpr ⟨s_iload_n (j := 3) (by decide +kernel) rfl rfl, ?_⟩
  refine List.forall_mem_cons.mpr ⟨s_aload_n (j := 0) (by decide +kernel) rfl rfl, ?_⟩
  refine List.forall_mem_cons.mpr ⟨s_getf (idx := 24) (C := RX2) (T := TX2) (N := 20) rfl inX2 (by decide) q1_68 (by decide +kernel) rfl, ?_⟩
  refine List.forall_mem_cons.mpr ⟨s_iload_n (j := 2) (by decide +kernel) rfl rfl, ?_⟩
  refine List.forall_mem_cons.mpr ⟨s_iald (by decide +kernel) rfl, ?_⟩
  refine List.forall_mem_cons.mpr ⟨s_iadd (by decide +kernel) rfl, ?_⟩
  refine List.forall_mem_cons.mpr ⟨s_mmin (idx := 87) q2_162 q2_163b q1_12b qminC (by decide +kernel) rfl, ?_⟩
  refine List.forall_mem_cons.mpr ⟨s_mmax (idx := 81) q2_165 q2_166b q1_12b qmaxC (by decide +kernel) rfl, ?_⟩
  refine List.forall_mem_cons.mpr ⟨s_istore (by decide +kernel) (by decide) rfl, ?_⟩
  refine List.forall_mem_cons.mpr ⟨s_aload_n (j := 0) (by decide +kernel) rfl rfl, ?_⟩
  refine List.forall_mem_cons.mpr ⟨s_iload_n (j := 1) (by decide +kernel) rfl rfl, ?_⟩
  refine List.forall_mem_cons.mpr ⟨s_iload (by decide +kernel) rfl, ?_⟩
  refine List.forall_mem_cons.mpr ⟨s_callv (idx := 90) (k' := k_X2_tideAt) (T := TX2) (N := 20) rfl q2_171 q2_168 q2_169 q2_170 q1_3 de_X2_tideAt (by decide) (by decide +kernel) rfl, ?_⟩
  refine List.forall_mem_cons.mpr ⟨s_aload_n (j := 0) (by decide +kernel) rfl rfl, ?_⟩
  refine List.forall_mem_cons.mpr ⟨s_getf (idx := 21) (C := RX2) (T := TX2) (N := 20) rfl inX2 (by decide) q1_66 (by decide +kernel) rfl, ?_⟩
  refine List.forall_mem_cons.mpr ⟨s_iload_n (j := 2) (by decide +kernel) rfl rfl, ?_⟩
  refine List.forall_mem_cons.mpr ⟨s_iald (by decide +kernel) rfl, ?_⟩
  refine List.forall_mem_cons.mpr ⟨s_iadd (by decide +kernel) rfl, ?_⟩
  refine List.forall_mem_cons.mpr ⟨s_iret rfl (by decide +kernel), ?_⟩
  exact fun q hq => absurd hq List.not_mem_nil
def T_X2_rowOf : List (Nat × zO) := [(0, o_iload 1 1), (1, o_tsw 0 3 [32, 37, 42, 47] 52), (32, o_aload 33 0), (33, o_getf 36 2 14), (36, o_aret), (37, o_aload 38 0), (38, o_getf 41 2 15), (41, o_aret), (42, o_aload 43 0), (43, o_getf 46 2 16), (46, o_aret), (47, o_aload 48 0), (48, o_getf 51 2 9), (51, o_aret), (52, o_aload 53 0), (53, o_getf 56 2 17), (56, o_aret)]
set_option maxRecDepth 20000 in
theorem t_X2_rowOf : ∀ q ∈ T_X2_rowOf, zS k_X2_rowOf q.1 q.2 := by
  unfold T_X2_rowOf
  refine List.forall_mem_cons.mpr ⟨s_iload_n (j := 1) (by decide +kernel) rfl rfl, ?_⟩
  refine List.forall_mem_cons.mpr ⟨s_tsw (dfo := 51) (offs := #[31, 36, 41, 46]) (len := 31) (by decide +kernel) (by decide) (by decide) (by decide), ?_⟩
  refine List.forall_mem_cons.mpr ⟨s_aload_n (j := 0) (by decide +kernel) rfl rfl, ?_⟩
  refine List.forall_mem_cons.mpr ⟨s_getf (idx := 42) (C := RX2) (T := TX2) (N := 20) rfl inX2 (by decide) q1_88 (by decide +kernel) rfl, ?_⟩
  refine List.forall_mem_cons.mpr ⟨s_aret rfl (by decide +kernel), ?_⟩
  refine List.forall_mem_cons.mpr ⟨s_aload_n (j := 0) (by decide +kernel) rfl rfl, ?_⟩
  refine List.forall_mem_cons.mpr ⟨s_getf (idx := 45) (C := RX2) (T := TX2) (N := 20) rfl inX2 (by decide) q1_92 (by decide +kernel) rfl, ?_⟩
  refine List.forall_mem_cons.mpr ⟨s_aret rfl (by decide +kernel), ?_⟩
  refine List.forall_mem_cons.mpr ⟨s_aload_n (j := 0) (by decide +kernel) rfl rfl, ?_⟩
  refine List.forall_mem_cons.mpr ⟨s_getf (idx := 48) (C := RX2) (T := TX2) (N := 20) rfl inX2 (by decide) q1_96 (by decide +kernel) rfl, ?_⟩
  refine List.forall_mem_cons.mpr ⟨s_aret rfl (by decide +kernel), ?_⟩
  refine List.forall_mem_cons.mpr ⟨s_aload_n (j := 0) (by decide +kernel) rfl rfl, ?_⟩
  refine List.forall_mem_cons.mpr ⟨s_getf (idx := 30) (C := RX2) (T := TX2) (N := 20) rfl inX2 (by decide) q1_73 (by decide +kernel) rfl, ?_⟩
  refine List.forall_mem_cons.mpr ⟨s_aret rfl (by decide +kernel), ?_⟩
  refine List.forall_mem_cons.mpr ⟨s_aload_n (j := 0) (by decide +kernel) rfl rfl, ?_⟩
  refine List.forall_mem_cons.mpr ⟨s_getf (idx := 51) (C := RX2) (T := TX2) (N := 20) rfl inX2 (by decide) q1_100 (by decide +kernel) rfl, ?_⟩
  refine List.forall_mem_cons.mpr ⟨s_aret rfl (by decide +kernel), ?_⟩
  exact fun q hq => absurd hq List.not_mem_nil
def T_X3_add : List (Nat × zO) := [(0, o_aload 1 0), (1, o_getf 4 3 3), (4, o_const 6 12), (6, o_icmp_lt 11 9), (9, o_const 10 0), (10, o_zret), (11, o_aload 12 0), (12, o_getf 15 3 2), (15, o_aload 16 0), (16, o_getf 19 3 3), (19, o_iload 20 1), (20, o_iast 21), (21, o_aload 22 0), (22, o_dup 23), (23, o_getf 26 3 3), (26, o_const 27 1), (27, o_iadd 28), (28, o_putf 31 3 3), (31, o_const 32 1), (32, o_zret)]
set_option maxRecDepth 20000 in
theorem t_X3_add : ∀ q ∈ T_X3_add, zS k_X3_add q.1 q.2 := by
  unfold T_X3_add
  refine List.forall_mem_cons.mpr ⟨s_aload_n (j := 0) (by decide +kernel) rfl rfl, ?_⟩
  refine List.forall_mem_cons.mpr ⟨s_getf (idx := 23) (C := RX3) (T := TX3) (N := 7) rfl inX3 (by decide) q1_208 (by decide +kernel) rfl, ?_⟩
  refine List.forall_mem_cons.mpr ⟨s_bipush (by decide +kernel) (by decide) rfl, ?_⟩
  refine List.forall_mem_cons.mpr ⟨s_icmp_lt (off := 5) (by decide +kernel) (by decide) rfl, ?_⟩
  refine List.forall_mem_cons.mpr ⟨s_iconst (by decide +kernel) rfl, ?_⟩
  refine List.forall_mem_cons.mpr ⟨s_zret rfl (by decide +kernel), ?_⟩
  refine List.forall_mem_cons.mpr ⟨s_aload_n (j := 0) (by decide +kernel) rfl rfl, ?_⟩
  refine List.forall_mem_cons.mpr ⟨s_getf (idx := 9) (C := RX3) (T := TX3) (N := 7) rfl inX3 (by decide) q1_207 (by decide +kernel) rfl, ?_⟩
  refine List.forall_mem_cons.mpr ⟨s_aload_n (j := 0) (by decide +kernel) rfl rfl, ?_⟩
  refine List.forall_mem_cons.mpr ⟨s_getf (idx := 23) (C := RX3) (T := TX3) (N := 7) rfl inX3 (by decide) q1_208 (by decide +kernel) rfl, ?_⟩
  refine List.forall_mem_cons.mpr ⟨s_iload_n (j := 1) (by decide +kernel) rfl rfl, ?_⟩
  refine List.forall_mem_cons.mpr ⟨s_iast (by decide +kernel) rfl, ?_⟩
  refine List.forall_mem_cons.mpr ⟨s_aload_n (j := 0) (by decide +kernel) rfl rfl, ?_⟩
  refine List.forall_mem_cons.mpr ⟨s_dup (by decide +kernel) rfl, ?_⟩
  refine List.forall_mem_cons.mpr ⟨s_getf (idx := 23) (C := RX3) (T := TX3) (N := 7) rfl inX3 (by decide) q1_208 (by decide +kernel) rfl, ?_⟩
  refine List.forall_mem_cons.mpr ⟨s_iconst (by decide +kernel) rfl, ?_⟩
  refine List.forall_mem_cons.mpr ⟨s_iadd (by decide +kernel) rfl, ?_⟩
  refine List.forall_mem_cons.mpr ⟨s_putf (idx := 23) (C := RX3) (T := TX3) (N := 7) rfl inX3 tyX3_ok nmX3 (by decide) rfl (tyX3_ok 3 (by decide)) (Or.inl ⟨rfl, kdI 3 3 (by decide)⟩) q1_208 (by decide +kernel) rfl, ?_⟩
  refine List.forall_mem_cons.mpr ⟨s_iconst (by decide +kernel) rfl, ?_⟩
  refine List.forall_mem_cons.mpr ⟨s_zret rfl (by decide +kernel), ?_⟩
  exact fun q hq => absurd hq List.not_mem_nil
def T_X3_walk : List (Nat × zO) := [(0, o_aload 1 0), (1, o_iload 2 1), (2, o_const 5 10000), (5, o_idiv 6), (6, o_putf 9 3 4), (9, o_aload 10 0), (10, o_iload 11 1), (11, o_const 14 10000), (14, o_irem 15), (15, o_putf 18 3 5), (18, o_aload 19 0), (19, o_const 20 0), (20, o_putf 23 3 6), (23, o_const 24 0), (24, o_istore 25 3), (25, o_iload 26 3), (26, o_aload 27 0), (27, o_getf 30 3 3), (30, o_icmp_ge 86 33), (33, o_aload 34 0), (34, o_getf 37 3 2), (37, o_iload 38 3), (38, o_iald 39), (39, o_const 41 100), (41, o_icmp_le 60 44), (44, o_aload 45 0), (45, o_aload 46 0), (46, o_getf 49 3 2), (49, o_iload 50 3), (50, o_iald 51), (51, o_const 53 100), (53, o_isub 54), (54, o_callv 1 3 k_X3_stay 57), (57, o_goto 71), (60, o_aload 61 0), (61, o_aload 62 0), (62, o_getf 65 3 2), (65, o_iload 66 3), (66, o_iald 67), (67, o_iload 68 2), (68, o_callv 2 3 k_X3_follow 71), (71, o_istore 73 4), (73, o_iload 75 4), (75, o_if_ne 80 78), (78, o_iload 79 3), (79, o_iret), (80, o_iinc 83 3 1), (83, o_goto 25), (86, o_const 88 (-2)), (88, o_iret)]
set_option maxRecDepth 20000 in
theorem t_X3_walk : ∀ q ∈ T_X3_walk, zS k_X3_walk q.1 q.2 := by
  unfold T_X3_walk
  refine List.forall_mem_cons.mpr ⟨s_aload_n (j := 0) (by decide +kernel) rfl rfl, ?_⟩
  refine List.forall_mem_cons.mpr ⟨s_iload_n (j := 1) (by decide +kernel) rfl rfl, ?_⟩
  refine List.forall_mem_cons.mpr ⟨s_sipush (by decide +kernel) (by decide) rfl, ?_⟩
  refine List.forall_mem_cons.mpr ⟨s_idiv (by decide +kernel) rfl, ?_⟩
  refine List.forall_mem_cons.mpr ⟨s_putf (idx := 27) (C := RX3) (T := TX3) (N := 7) rfl inX3 tyX3_ok nmX3 (by decide) rfl (tyX3_ok 4 (by decide)) (Or.inl ⟨rfl, kdI 3 4 (by decide)⟩) q1_210 (by decide +kernel) rfl, ?_⟩
  refine List.forall_mem_cons.mpr ⟨s_aload_n (j := 0) (by decide +kernel) rfl rfl, ?_⟩
  refine List.forall_mem_cons.mpr ⟨s_iload_n (j := 1) (by decide +kernel) rfl rfl, ?_⟩
  refine List.forall_mem_cons.mpr ⟨s_sipush (by decide +kernel) (by decide) rfl, ?_⟩
  refine List.forall_mem_cons.mpr ⟨s_irem (by decide +kernel) rfl, ?_⟩
  refine List.forall_mem_cons.mpr ⟨s_putf (idx := 30) (C := RX3) (T := TX3) (N := 7) rfl inX3 tyX3_ok nmX3 (by decide) rfl (tyX3_ok 5 (by decide)) (Or.inl ⟨rfl, kdI 3 5 (by decide)⟩) q1_212 (by decide +kernel) rfl, ?_⟩
  refine List.forall_mem_cons.mpr ⟨s_aload_n (j := 0) (by decide +kernel) rfl rfl, ?_⟩
  refine List.forall_mem_cons.mpr ⟨s_iconst (by decide +kernel) rfl, ?_⟩
  refine List.forall_mem_cons.mpr ⟨s_putf (idx := 33) (C := RX3) (T := TX3) (N := 7) rfl inX3 tyX3_ok nmX3 (by decide) rfl (tyX3_ok 6 (by decide)) (Or.inl ⟨rfl, kdI 3 6 (by decide)⟩) q1_214 (by decide +kernel) rfl, ?_⟩
  refine List.forall_mem_cons.mpr ⟨s_iconst (by decide +kernel) rfl, ?_⟩
  refine List.forall_mem_cons.mpr ⟨s_istore_n (j := 3) (by decide +kernel) rfl (by decide) rfl, ?_⟩
  refine List.forall_mem_cons.mpr ⟨s_iload_n (j := 3) (by decide +kernel) rfl rfl, ?_⟩
  refine List.forall_mem_cons.mpr ⟨s_aload_n (j := 0) (by decide +kernel) rfl rfl, ?_⟩
  refine List.forall_mem_cons.mpr ⟨s_getf (idx := 23) (C := RX3) (T := TX3) (N := 7) rfl inX3 (by decide) q1_208 (by decide +kernel) rfl, ?_⟩
  refine List.forall_mem_cons.mpr ⟨s_icmp_ge (off := 56) (by decide +kernel) (by decide) rfl, ?_⟩
  refine List.forall_mem_cons.mpr ⟨s_aload_n (j := 0) (by decide +kernel) rfl rfl, ?_⟩
  refine List.forall_mem_cons.mpr ⟨s_getf (idx := 9) (C := RX3) (T := TX3) (N := 7) rfl inX3 (by decide) q1_207 (by decide +kernel) rfl, ?_⟩
  refine List.forall_mem_cons.mpr ⟨s_iload_n (j := 3) (by decide +kernel) rfl rfl, ?_⟩
  refine List.forall_mem_cons.mpr ⟨s_iald (by decide +kernel) rfl, ?_⟩
  refine List.forall_mem_cons.mpr ⟨s_bipush (by decide +kernel) (by decide) rfl, ?_⟩
  refine List.forall_mem_cons.mpr ⟨s_icmp_le (off := 19) (by decide +kernel) (by decide) rfl, ?_⟩
  refine List.forall_mem_cons.mpr ⟨s_aload_n (j := 0) (by decide +kernel) rfl rfl, ?_⟩
  refine List.forall_mem_cons.mpr ⟨s_aload_n (j := 0) (by decide +kernel) rfl rfl, ?_⟩
  refine List.forall_mem_cons.mpr ⟨s_getf (idx := 9) (C := RX3) (T := TX3) (N := 7) rfl inX3 (by decide) q1_207 (by decide +kernel) rfl, ?_⟩
  refine List.forall_mem_cons.mpr ⟨s_iload_n (j := 3) (by decide +kernel) rfl rfl, ?_⟩
  refine List.forall_mem_cons.mpr ⟨s_iald (by decide +kernel) rfl, ?_⟩
  refine List.forall_mem_cons.mpr ⟨s_bipush (by decide +kernel) (by decide) rfl, ?_⟩
  refine List.forall_mem_cons.mpr ⟨s_isub (by decide +kernel) rfl, ?_⟩
  refine List.forall_mem_cons.mpr ⟨s_callv (idx := 36) (k' := k_X3_stay) (T := TX3) (N := 7) rfl q3_186 q3_183 q3_185 qs_22 q1_6 de_X3_stay (by decide) (by decide +kernel) rfl, ?_⟩
  refine List.forall_mem_cons.mpr ⟨s_goto (off := 14) (by decide +kernel) (by decide), ?_⟩
  refine List.forall_mem_cons.mpr ⟨s_aload_n (j := 0) (by decide +kernel) rfl rfl, ?_⟩
  refine List.forall_mem_cons.mpr ⟨s_aload_n (j := 0) (by decide +kernel) rfl rfl, ?_⟩
  refine List.forall_mem_cons.mpr ⟨s_getf (idx := 9) (C := RX3) (T := TX3) (N := 7) rfl inX3 (by decide) q1_207 (by decide +kernel) rfl, ?_⟩
  refine List.forall_mem_cons.mpr ⟨s_iload_n (j := 3) (by decide +kernel) rfl rfl, ?_⟩
  refine List.forall_mem_cons.mpr ⟨s_iald (by decide +kernel) rfl, ?_⟩
  refine List.forall_mem_cons.mpr ⟨s_iload_n (j := 2) (by decide +kernel) rfl rfl, ?_⟩
  refine List.forall_mem_cons.mpr ⟨s_callv (idx := 40) (k' := k_X3_follow) (T := TX3) (N := 7) rfl q3_190 q3_187 q3_189 qs_23 q1_6 de_X3_follow (by decide) (by decide +kernel) rfl, ?_⟩
  refine List.forall_mem_cons.mpr ⟨s_istore (by decide +kernel) (by decide) rfl, ?_⟩
  refine List.forall_mem_cons.mpr ⟨s_iload (by decide +kernel) rfl, ?_⟩
  refine List.forall_mem_cons.mpr ⟨s_if_ne (off := 5) (by decide +kernel) (by decide) rfl, ?_⟩
  refine List.forall_mem_cons.mpr ⟨s_iload_n (j := 3) (by decide +kernel) rfl rfl, ?_⟩
  refine List.forall_mem_cons.mpr ⟨s_iret rfl (by decide +kernel), ?_⟩
  refine List.forall_mem_cons.mpr ⟨s_iinc (by decide +kernel) (by decide) rfl, ?_⟩
  refine List.forall_mem_cons.mpr ⟨s_goto (off := (-58)) (by decide +kernel) (by decide), ?_⟩
  refine List.forall_mem_cons.mpr ⟨s_bipush (by decide +kernel) (by decide) rfl, ?_⟩
  refine List.forall_mem_cons.mpr ⟨s_iret rfl (by decide +kernel), ?_⟩
  exact fun q hq => absurd hq List.not_mem_nil
def T_X3_stay : List (Nat × zO) := [(0, o_aload 1 0), (1, o_getf 4 3 1), (4, o_aload 5 0), (5, o_getf 8 3 0), (8, o_getf 11 2 9), (11, o_aload 12 0), (12, o_getf 15 3 4), (15, o_iald 16), (16, o_aload 17 0), (17, o_getf 20 3 5), (20, o_callv 2 4 k_X4_firstAbove 23), (23, o_aload 24 0), (24, o_getf 27 3 5), (27, o_iload 28 1), (28, o_iadd 29), (29, o_icmp_gt 34 32), (32, o_const 33 0), (33, o_zret), (34, o_aload 35 0), (35, o_dup 36), (36, o_getf 39 3 5), (39, o_iload 40 1), (40, o_iadd 41), (41, o_putf 44 3 5), (44, o_const 45 1), (45, o_zret)]
set_option maxRecDepth 20000 in
theorem t_X3_stay : ∀ q ∈ T_X3_stay, zS k_X3_stay q.1 q.2 := by
  unfold T_X3_stay
  refine List.forall_mem_cons.mpr ⟨s_aload_n (j := 0) (by decide +kernel) rfl rfl, ?_⟩
  refine List.forall_mem_cons.mpr ⟨s_getf (idx := 19) (C := RX3) (T := TX3) (N := 7) rfl inX3 (by decide) q1_206 (by decide +kernel) rfl, ?_⟩
  refine List.forall_mem_cons.mpr ⟨s_aload_n (j := 0) (by decide +kernel) rfl rfl, ?_⟩
  refine List.forall_mem_cons.mpr ⟨s_getf (idx := 15) (C := RX3) (T := TX3) (N := 7) rfl inX3 (by decide) q1_205 (by decide +kernel) rfl, ?_⟩
  refine List.forall_mem_cons.mpr ⟨s_getf (idx := 44) (C := RX2) (T := TX2) (N := 20) rfl inX2 (by decide) q1_74 (by decide +kernel) rfl, ?_⟩
  refine List.forall_mem_cons.mpr ⟨s_aload_n (j := 0) (by decide +kernel) rfl rfl, ?_⟩
  refine List.forall_mem_cons.mpr ⟨s_getf (idx := 27) (C := RX3) (T := TX3) (N := 7) rfl inX3 (by decide) q1_210 (by decide +kernel) rfl, ?_⟩
  refine List.forall_mem_cons.mpr ⟨s_iald (by decide +kernel) rfl, ?_⟩
  refine List.forall_mem_cons.mpr ⟨s_aload_n (j := 0) (by decide +kernel) rfl rfl, ?_⟩
  refine List.forall_mem_cons.mpr ⟨s_getf (idx := 30) (C := RX3) (T := TX3) (N := 7) rfl inX3 (by decide) q1_212 (by decide +kernel) rfl, ?_⟩
  refine List.forall_mem_cons.mpr ⟨s_callv (idx := 49) (k' := k_X4_firstAbove) (T := TX4) (N := 5) rfl q3_33 q3_30 q3_31 q3_32 q1_4 de_X4_firstAbove (by decide) (by decide +kernel) rfl, ?_⟩
  refine List.forall_mem_cons.mpr ⟨s_aload_n (j := 0) (by decide +kernel) rfl rfl, ?_⟩
  refine List.forall_mem_cons.mpr ⟨s_getf (idx := 30) (C := RX3) (T := TX3) (N := 7) rfl inX3 (by decide) q1_212 (by decide +kernel) rfl, ?_⟩
  refine List.forall_mem_cons.mpr ⟨s_iload_n (j := 1) (by decide +kernel) rfl rfl, ?_⟩
  refine List.forall_mem_cons.mpr ⟨s_iadd (by decide +kernel) rfl, ?_⟩
  refine List.forall_mem_cons.mpr ⟨s_icmp_gt (off := 5) (by decide +kernel) (by decide) rfl, ?_⟩
  refine List.forall_mem_cons.mpr ⟨s_iconst (by decide +kernel) rfl, ?_⟩
  refine List.forall_mem_cons.mpr ⟨s_zret rfl (by decide +kernel), ?_⟩
  refine List.forall_mem_cons.mpr ⟨s_aload_n (j := 0) (by decide +kernel) rfl rfl, ?_⟩
  refine List.forall_mem_cons.mpr ⟨s_dup (by decide +kernel) rfl, ?_⟩
  refine List.forall_mem_cons.mpr ⟨s_getf (idx := 30) (C := RX3) (T := TX3) (N := 7) rfl inX3 (by decide) q1_212 (by decide +kernel) rfl, ?_⟩
  refine List.forall_mem_cons.mpr ⟨s_iload_n (j := 1) (by decide +kernel) rfl rfl, ?_⟩
  refine List.forall_mem_cons.mpr ⟨s_iadd (by decide +kernel) rfl, ?_⟩
  refine List.forall_mem_cons.mpr ⟨s_putf (idx := 30) (C := RX3) (T := TX3) (N := 7) rfl inX3 tyX3_ok nmX3 (by decide) rfl (tyX3_ok 5 (by decide)) (Or.inl ⟨rfl, kdI 3 5 (by decide)⟩) q1_212 (by decide +kernel) rfl, ?_⟩
  refine List.forall_mem_cons.mpr ⟨s_iconst (by decide +kernel) rfl, ?_⟩
  refine List.forall_mem_cons.mpr ⟨s_zret rfl (by decide +kernel), ?_⟩
  exact fun q hq => absurd hq List.not_mem_nil
def T_X3_follow : List (Nat × zO) := [(0, o_aload 1 0), (1, o_iload 2 1), (2, o_callv 1 3 k_X3_leadsOn 5), (5, o_if_eq 25 8), (8, o_aload 9 0), (9, o_iload 10 1), (10, o_aload 11 0), (11, o_getf 14 3 5), (14, o_iload 15 2), (15, o_aload 16 0), (16, o_getf 19 3 6), (19, o_callv 4 3 k_X3_wayGoes 22), (22, o_if_ne 27 25), (25, o_const 26 0), (26, o_zret), (27, o_aload 28 0), (28, o_dup 29), (29, o_getf 32 3 5), (32, o_aload 33 0), (33, o_getf 36 3 0), (36, o_iload 37 1), (37, o_iload 38 2), (38, o_aload 39 0), (39, o_getf 42 3 6), (42, o_callv 3 2 k_X2_taking 45), (45, o_iadd 46), (46, o_putf 49 3 5), (49, o_aload 50 0), (50, o_aload 51 0), (51, o_getf 54 3 0), (54, o_getf 57 2 11), (57, o_iload 58 1), (58, o_iald 59), (59, o_aload 60 0), (60, o_getf 63 3 4), (63, o_icmp_ne 78 66), (66, o_aload 67 0), (67, o_getf 70 3 0), (70, o_getf 73 2 12), (73, o_iload 74 1), (74, o_iald 75), (75, o_goto 87), (78, o_aload 79 0), (79, o_getf 82 3 0), (82, o_getf 85 2 11), (85, o_iload 86 1), (86, o_iald 87), (87, o_putf 90 3 4), (90, o_aload 91 0), (91, o_aload 92 0), (92, o_getf 95 3 6), (95, o_const 96 1), (96, o_iadd 97), (97, o_const 98 3), (98, o_mmin 101), (101, o_putf 104 3 6), (104, o_const 105 1), (105, o_zret)]
set_option maxRecDepth 20000 in
theorem t_X3_follow : ∀ q ∈ T_X3_follow, zS k_X3_follow q.1 q.2 := by
  unfold T_X3_follow
  refine List.forall_mem_cons.mpr ⟨s_aload_n (j := 0) (by decide +kernel) rfl rfl, ?_⟩
  refine List.forall_mem_cons.mpr ⟨s_iload_n (j := 1) (by decide +kernel) rfl rfl, ?_⟩
  refine List.forall_mem_cons.mpr ⟨s_callv (idx := 55) (k' := k_X3_leadsOn) (T := TX3) (N := 7) rfl q3_194 q3_191 q3_193 qs_24 q1_6 de_X3_leadsOn (by decide) (by decide +kernel) rfl, ?_⟩
  refine List.forall_mem_cons.mpr ⟨s_if_eq (off := 20) (by decide +kernel) (by decide) rfl, ?_⟩
  refine List.forall_mem_cons.mpr ⟨s_aload_n (j := 0) (by decide +kernel) rfl rfl, ?_⟩
  refine List.forall_mem_cons.mpr ⟨s_iload_n (j := 1) (by decide +kernel) rfl rfl, ?_⟩
  refine List.forall_mem_cons.mpr ⟨s_aload_n (j := 0) (by decide +kernel) rfl rfl, ?_⟩
  refine List.forall_mem_cons.mpr ⟨s_getf (idx := 30) (C := RX3) (T := TX3) (N := 7) rfl inX3 (by decide) q1_212 (by decide +kernel) rfl, ?_⟩
  refine List.forall_mem_cons.mpr ⟨s_iload_n (j := 2) (by decide +kernel) rfl rfl, ?_⟩
  refine List.forall_mem_cons.mpr ⟨s_aload_n (j := 0) (by decide +kernel) rfl rfl, ?_⟩
  refine List.forall_mem_cons.mpr ⟨s_getf (idx := 33) (C := RX3) (T := TX3) (N := 7) rfl inX3 (by decide) q1_214 (by decide +kernel) rfl, ?_⟩
  refine List.forall_mem_cons.mpr ⟨s_callv (idx := 58) (k' := k_X3_wayGoes) (T := TX3) (N := 7) rfl q3_29 q3_195 q3_27 q3_28 q1_6 de_X3_wayGoes (by decide) (by decide +kernel) rfl, ?_⟩
  refine List.forall_mem_cons.mpr ⟨s_if_ne (off := 5) (by decide +kernel) (by decide) rfl, ?_⟩
  refine List.forall_mem_cons.mpr ⟨s_iconst (by decide +kernel) rfl, ?_⟩
  refine List.forall_mem_cons.mpr ⟨s_zret rfl (by decide +kernel), ?_⟩
  refine List.forall_mem_cons.mpr ⟨s_aload_n (j := 0) (by decide +kernel) rfl rfl, ?_⟩
  refine List.forall_mem_cons.mpr ⟨s_dup (by decide +kernel) rfl, ?_⟩
  refine List.forall_mem_cons.mpr ⟨s_getf (idx := 30) (C := RX3) (T := TX3) (N := 7) rfl inX3 (by decide) q1_212 (by decide +kernel) rfl, ?_⟩
  refine List.forall_mem_cons.mpr ⟨s_aload_n (j := 0) (by decide +kernel) rfl rfl, ?_⟩
  refine List.forall_mem_cons.mpr ⟨s_getf (idx := 15) (C := RX3) (T := TX3) (N := 7) rfl inX3 (by decide) q1_205 (by decide +kernel) rfl, ?_⟩
  refine List.forall_mem_cons.mpr ⟨s_iload_n (j := 1) (by decide +kernel) rfl rfl, ?_⟩
  refine List.forall_mem_cons.mpr ⟨s_iload_n (j := 2) (by decide +kernel) rfl rfl, ?_⟩
  refine List.forall_mem_cons.mpr ⟨s_aload_n (j := 0) (by decide +kernel) rfl rfl, ?_⟩
  refine List.forall_mem_cons.mpr ⟨s_getf (idx := 33) (C := RX3) (T := TX3) (N := 7) rfl inX3 (by decide) q1_214 (by decide +kernel) rfl, ?_⟩
  refine List.forall_mem_cons.mpr ⟨s_callv (idx := 62) (k' := k_X2_taking) (T := TX2) (N := 20) rfl q2_235 q3_34 q2_233 q2_234 q1_3 de_X2_taking (by decide) (by decide +kernel) rfl, ?_⟩
  refine List.forall_mem_cons.mpr ⟨s_iadd (by decide +kernel) rfl, ?_⟩
  refine List.forall_mem_cons.mpr ⟨s_putf (idx := 30) (C := RX3) (T := TX3) (N := 7) rfl inX3 tyX3_ok nmX3 (by decide) rfl (tyX3_ok 5 (by decide)) (Or.inl ⟨rfl, kdI 3 5 (by decide)⟩) q1_212 (by decide +kernel) rfl, ?_⟩
  refine List.forall_mem_cons.mpr ⟨s_aload_n (j := 0) (by decide +kernel) rfl rfl, ?_⟩
  refine List.forall_mem_cons.mpr ⟨s_aload_n (j := 0) (by decide +kernel) rfl rfl, ?_⟩
  refine List.forall_mem_cons.mpr ⟨s_getf (idx := 15) (C := RX3) (T := TX3) (N := 7) rfl inX3 (by decide) q1_205 (by decide +kernel) rfl, ?_⟩
  refine List.forall_mem_cons.mpr ⟨s_getf (idx := 66) (C := RX2) (T := TX2) (N := 20) rfl inX2 (by decide) q1_82 (by decide +kernel) rfl, ?_⟩
  refine List.forall_mem_cons.mpr ⟨s_iload_n (j := 1) (by decide +kernel) rfl rfl, ?_⟩
  refine List.forall_mem_cons.mpr ⟨s_iald (by decide +kernel) rfl, ?_⟩
  refine List.forall_mem_cons.mpr ⟨s_aload_n (j := 0) (by decide +kernel) rfl rfl, ?_⟩
  refine List.forall_mem_cons.mpr ⟨s_getf (idx := 27) (C := RX3) (T := TX3) (N := 7) rfl inX3 (by decide) q1_210 (by decide +kernel) rfl, ?_⟩
  refine List.forall_mem_cons.mpr ⟨s_icmp_ne (off := 15) (by decide +kernel) (by decide) rfl, ?_⟩
  refine List.forall_mem_cons.mpr ⟨s_aload_n (j := 0) (by decide +kernel) rfl rfl, ?_⟩
  refine List.forall_mem_cons.mpr ⟨s_getf (idx := 15) (C := RX3) (T := TX3) (N := 7) rfl inX3 (by decide) q1_205 (by decide +kernel) rfl, ?_⟩
  refine List.forall_mem_cons.mpr ⟨s_getf (idx := 69) (C := RX2) (T := TX2) (N := 20) rfl inX2 (by decide) q1_85 (by decide +kernel) rfl, ?_⟩
  refine List.forall_mem_cons.mpr ⟨s_iload_n (j := 1) (by decide +kernel) rfl rfl, ?_⟩
  refine List.forall_mem_cons.mpr ⟨s_iald (by decide +kernel) rfl, ?_⟩
  refine List.forall_mem_cons.mpr ⟨s_goto (off := 12) (by decide +kernel) (by decide), ?_⟩
  refine List.forall_mem_cons.mpr ⟨s_aload_n (j := 0) (by decide +kernel) rfl rfl, ?_⟩
  refine List.forall_mem_cons.mpr ⟨s_getf (idx := 15) (C := RX3) (T := TX3) (N := 7) rfl inX3 (by decide) q1_205 (by decide +kernel) rfl, ?_⟩
  refine List.forall_mem_cons.mpr ⟨s_getf (idx := 66) (C := RX2) (T := TX2) (N := 20) rfl inX2 (by decide) q1_82 (by decide +kernel) rfl, ?_⟩
  refine List.forall_mem_cons.mpr ⟨s_iload_n (j := 1) (by decide +kernel) rfl rfl, ?_⟩
  refine List.forall_mem_cons.mpr ⟨s_iald (by decide +kernel) rfl, ?_⟩
  refine List.forall_mem_cons.mpr ⟨s_putf (idx := 27) (C := RX3) (T := TX3) (N := 7) rfl inX3 tyX3_ok nmX3 (by decide) rfl (tyX3_ok 4 (by decide)) (Or.inl ⟨rfl, kdI 3 4 (by decide)⟩) q1_210 (by decide +kernel) rfl, ?_⟩
  refine List.forall_mem_cons.mpr ⟨s_aload_n (j := 0) (by decide +kernel) rfl rfl, ?_⟩
  refine List.forall_mem_cons.mpr ⟨s_aload_n (j := 0) (by decide +kernel) rfl rfl, ?_⟩
  refine List.forall_mem_cons.mpr ⟨s_getf (idx := 33) (C := RX3) (T := TX3) (N := 7) rfl inX3 (by decide) q1_214 (by decide +kernel) rfl, ?_⟩
  refine List.forall_mem_cons.mpr ⟨s_iconst (by decide +kernel) rfl, ?_⟩
  refine List.forall_mem_cons.mpr ⟨s_iadd (by decide +kernel) rfl, ?_⟩
  refine List.forall_mem_cons.mpr ⟨s_iconst (by decide +kernel) rfl, ?_⟩
  refine List.forall_mem_cons.mpr ⟨s_mmin (idx := 72) q3_196 q2_163b q1_12b qminC (by decide +kernel) rfl, ?_⟩
  refine List.forall_mem_cons.mpr ⟨s_putf (idx := 33) (C := RX3) (T := TX3) (N := 7) rfl inX3 tyX3_ok nmX3 (by decide) rfl (tyX3_ok 6 (by decide)) (Or.inl ⟨rfl, kdI 3 6 (by decide)⟩) q1_214 (by decide +kernel) rfl, ?_⟩
  refine List.forall_mem_cons.mpr ⟨s_iconst (by decide +kernel) rfl, ?_⟩
  refine List.forall_mem_cons.mpr ⟨s_zret rfl (by decide +kernel), ?_⟩
  exact fun q hq => absurd hq List.not_mem_nil
def T_X3_leadsOn : List (Nat × zO) := [(0, o_aload 1 0), (1, o_getf 4 3 0), (4, o_getf 7 2 11), (7, o_iload 8 1), (8, o_iald 9), (9, o_aload 10 0), (10, o_getf 13 3 4), (13, o_icmp_eq 32 16), (16, o_aload 17 0), (17, o_getf 20 3 0), (20, o_getf 23 2 12), (23, o_iload 24 1), (24, o_iald 25), (25, o_aload 26 0), (26, o_getf 29 3 4), (29, o_icmp_ne 36 32), (32, o_const 33 1), (33, o_goto 37), (36, o_const 37 0), (37, o_zret)]
set_option maxRecDepth 20000 in
theorem t_X3_leadsOn : ∀ q ∈ T_X3_leadsOn, zS k_X3_leadsOn q.1 q.2 := by
  unfold T_X3_leadsOn
  refine List.forall_mem_cons.mpr ⟨s_aload_n (j := 0) (by decide +kernel) rfl rfl, ?_⟩
  refine List.forall_mem_cons.mpr ⟨s_getf (idx := 15) (C := RX3) (T := TX3) (N := 7) rfl inX3 (by decide) q1_205 (by decide +kernel) rfl, ?_⟩
  refine List.forall_mem_cons.mpr ⟨s_getf (idx := 66) (C := RX2) (T := TX2) (N := 20) rfl inX2 (by decide) q1_82 (by decide +kernel) rfl, ?_⟩
  refine List.forall_mem_cons.mpr ⟨s_iload_n (j := 1) (by decide +kernel) rfl rfl, ?_⟩
  refine List.forall_mem_cons.mpr ⟨s_iald (by decide +kernel) rfl, ?_⟩
  refine List.forall_mem_cons.mpr ⟨s_aload_n (j := 0) (by decide +kernel) rfl rfl, ?_⟩
  refine List.forall_mem_cons.mpr ⟨s_getf (idx := 27) (C := RX3) (T := TX3) (N := 7) rfl inX3 (by decide) q1_210 (by decide +kernel) rfl, ?_⟩
  refine List.forall_mem_cons.mpr ⟨s_icmp_eq (off := 19) (by decide +kernel) (by decide) rfl, ?_⟩
  refine List.forall_mem_cons.mpr ⟨s_aload_n (j := 0) (by decide +kernel) rfl rfl, ?_⟩
  refine List.forall_mem_cons.mpr ⟨s_getf (idx := 15) (C := RX3) (T := TX3) (N := 7) rfl inX3 (by decide) q1_205 (by decide +kernel) rfl, ?_⟩
  refine List.forall_mem_cons.mpr ⟨s_getf (idx := 69) (C := RX2) (T := TX2) (N := 20) rfl inX2 (by decide) q1_85 (by decide +kernel) rfl, ?_⟩
  refine List.forall_mem_cons.mpr ⟨s_iload_n (j := 1) (by decide +kernel) rfl rfl, ?_⟩
  refine List.forall_mem_cons.mpr ⟨s_iald (by decide +kernel) rfl, ?_⟩
  refine List.forall_mem_cons.mpr ⟨s_aload_n (j := 0) (by decide +kernel) rfl rfl, ?_⟩
  refine List.forall_mem_cons.mpr ⟨s_getf (idx := 27) (C := RX3) (T := TX3) (N := 7) rfl inX3 (by decide) q1_210 (by decide +kernel) rfl, ?_⟩
  refine List.forall_mem_cons.mpr ⟨s_icmp_ne (off := 7) (by decide +kernel) (by decide) rfl, ?_⟩
  refine List.forall_mem_cons.mpr ⟨s_iconst (by decide +kernel) rfl, ?_⟩
  refine List.forall_mem_cons.mpr ⟨s_goto (off := 4) (by decide +kernel) (by decide), ?_⟩
  refine List.forall_mem_cons.mpr ⟨s_iconst (by decide +kernel) rfl, ?_⟩
  refine List.forall_mem_cons.mpr ⟨s_zret rfl (by decide +kernel), ?_⟩
  exact fun q hq => absurd hq List.not_mem_nil
def T_X3_wayGoes : List (Nat × zO) := [(0, o_iload 1 2), (1, o_aload 2 0), (2, o_getf 5 3 0), (5, o_getf 8 2 15), (8, o_iload 9 1), (9, o_iald 10), (10, o_icmp_lt 63 13), (13, o_iload 14 2), (14, o_aload 15 0), (15, o_getf 18 3 0), (18, o_getf 21 2 16), (21, o_iload 22 1), (22, o_iald 23), (23, o_icmp_gt 63 26), (26, o_aload 27 0), (27, o_getf 30 3 1), (30, o_aload 31 0), (31, o_getf 34 3 0), (34, o_getf 37 2 14), (37, o_iload 38 1), (38, o_iald 39), (39, o_iload 40 2), (40, o_callv 2 4 k_X4_firstAbove 43), (43, o_iload 44 2), (44, o_aload 45 0), (45, o_getf 48 3 0), (48, o_iload 49 1), (49, o_iload 50 3), (50, o_iload 52 4), (52, o_callv 3 2 k_X2_taking 55), (55, o_iadd 56), (56, o_icmp_le 63 59), (59, o_const 60 1), (60, o_goto 64), (63, o_const 64 0), (64, o_zret)]
set_option maxRecDepth 20000 in
theorem t_X3_wayGoes : ∀ q ∈ T_X3_wayGoes, zS k_X3_wayGoes q.1 q.2 := by
  unfold T_X3_wayGoes
  refine List.forall_mem_cons.mpr ⟨s_iload_n (j := 2) (by decide +kernel) rfl rfl, ?_⟩
  refine List.forall_mem_cons.mpr ⟨s_aload_n (j := 0) (by decide +kernel) rfl rfl, ?_⟩
  refine List.forall_mem_cons.mpr ⟨s_getf (idx := 15) (C := RX3) (T := TX3) (N := 7) rfl inX3 (by decide) q1_205 (by decide +kernel) rfl, ?_⟩
  refine List.forall_mem_cons.mpr ⟨s_getf (idx := 77) (C := RX2) (T := TX2) (N := 20) rfl inX2 (by decide) q1_93 (by decide +kernel) rfl, ?_⟩
  refine List.forall_mem_cons.mpr ⟨s_iload_n (j := 1) (by decide +kernel) rfl rfl, ?_⟩
  refine List.forall_mem_cons.mpr ⟨s_iald (by decide +kernel) rfl, ?_⟩
  refine List.forall_mem_cons.mpr ⟨s_icmp_lt (off := 53) (by decide +kernel) (by decide) rfl, ?_⟩
  refine List.forall_mem_cons.mpr ⟨s_iload_n (j := 2) (by decide +kernel) rfl rfl, ?_⟩
  refine List.forall_mem_cons.mpr ⟨s_aload_n (j := 0) (by decide +kernel) rfl rfl, ?_⟩
  refine List.forall_mem_cons.mpr ⟨s_getf (idx := 15) (C := RX3) (T := TX3) (N := 7) rfl inX3 (by decide) q1_205 (by decide +kernel) rfl, ?_⟩
  refine List.forall_mem_cons.mpr ⟨s_getf (idx := 80) (C := RX2) (T := TX2) (N := 20) rfl inX2 (by decide) q1_97 (by decide +kernel) rfl, ?_⟩
  refine List.forall_mem_cons.mpr ⟨s_iload_n (j := 1) (by decide +kernel) rfl rfl, ?_⟩
  refine List.forall_mem_cons.mpr ⟨s_iald (by decide +kernel) rfl, ?_⟩
  refine List.forall_mem_cons.mpr ⟨s_icmp_gt (off := 40) (by decide +kernel) (by decide) rfl, ?_⟩
  refine List.forall_mem_cons.mpr ⟨s_aload_n (j := 0) (by decide +kernel) rfl rfl, ?_⟩
  refine List.forall_mem_cons.mpr ⟨s_getf (idx := 19) (C := RX3) (T := TX3) (N := 7) rfl inX3 (by decide) q1_206 (by decide +kernel) rfl, ?_⟩
  refine List.forall_mem_cons.mpr ⟨s_aload_n (j := 0) (by decide +kernel) rfl rfl, ?_⟩
  refine List.forall_mem_cons.mpr ⟨s_getf (idx := 15) (C := RX3) (T := TX3) (N := 7) rfl inX3 (by decide) q1_205 (by decide +kernel) rfl, ?_⟩
  refine List.forall_mem_cons.mpr ⟨s_getf (idx := 83) (C := RX2) (T := TX2) (N := 20) rfl inX2 (by decide) q1_89 (by decide +kernel) rfl, ?_⟩
  refine List.forall_mem_cons.mpr ⟨s_iload_n (j := 1) (by decide +kernel) rfl rfl, ?_⟩
  refine List.forall_mem_cons.mpr ⟨s_iald (by decide +kernel) rfl, ?_⟩
  refine List.forall_mem_cons.mpr ⟨s_iload_n (j := 2) (by decide +kernel) rfl rfl, ?_⟩
  refine List.forall_mem_cons.mpr ⟨s_callv (idx := 49) (k' := k_X4_firstAbove) (T := TX4) (N := 5) rfl q3_33 q3_30 q3_31 q3_32 q1_4 de_X4_firstAbove (by decide) (by decide +kernel) rfl, ?_⟩
  refine List.forall_mem_cons.mpr ⟨s_iload_n (j := 2) (by decide +kernel) rfl rfl, ?_⟩
  refine List.forall_mem_cons.mpr ⟨s_aload_n (j := 0) (by decide +kernel) rfl rfl, ?_⟩
  refine List.forall_mem_cons.mpr ⟨s_getf (idx := 15) (C := RX3) (T := TX3) (N := 7) rfl inX3 (by decide) q1_205 (by decide +kernel) rfl, ?_⟩
  refine List.forall_mem_cons.mpr ⟨s_iload_n (j := 1) (by decide +kernel) rfl rfl, ?_⟩
  refine List.forall_mem_cons.mpr ⟨s_iload_n (j := 3) (by decide +kernel) rfl rfl, ?_⟩
  refine List.forall_mem_cons.mpr ⟨s_iload (by decide +kernel) rfl, ?_⟩
  refine List.forall_mem_cons.mpr ⟨s_callv (idx := 62) (k' := k_X2_taking) (T := TX2) (N := 20) rfl q2_235 q3_34 q2_233 q2_234 q1_3 de_X2_taking (by decide) (by decide +kernel) rfl, ?_⟩
  refine List.forall_mem_cons.mpr ⟨s_iadd (by decide +kernel) rfl, ?_⟩
  refine List.forall_mem_cons.mpr ⟨s_icmp_le (off := 7) (by decide +kernel) (by decide) rfl, ?_⟩
  refine List.forall_mem_cons.mpr ⟨s_iconst (by decide +kernel) rfl, ?_⟩
  refine List.forall_mem_cons.mpr ⟨s_goto (off := 4) (by decide +kernel) (by decide), ?_⟩
  refine List.forall_mem_cons.mpr ⟨s_iconst (by decide +kernel) rfl, ?_⟩
  refine List.forall_mem_cons.mpr ⟨s_zret rfl (by decide +kernel), ?_⟩
  exact fun q hq => absurd hq List.not_mem_nil
def T_X3_shutIn : List (Nat × zO) := [(0, o_aload 1 0), (1, o_getf 4 3 5), (4, o_aload 5 0), (5, o_getf 8 3 1), (8, o_aload 9 0), (9, o_getf 12 3 0), (12, o_getf 15 2 9), (15, o_aload 16 0), (16, o_getf 19 3 4), (19, o_iald 20), (20, o_aload 21 0), (21, o_getf 24 3 5), (24, o_callv 2 4 k_X4_firstAbove 27), (27, o_const 28 1), (28, o_isub 29), (29, o_mmax 32), (32, o_istore 33 2), (33, o_iload 34 2), (34, o_const 37 1439), (37, o_icmp_lt 43 40), (40, o_const 42 (-2)), (42, o_iret), (43, o_const 44 0), (44, o_istore 45 3), (45, o_iload 46 3), (46, o_aload 47 0), (47, o_getf 50 3 0), (50, o_getf 53 2 10), (53, o_icmp_ge 87 56), (56, o_aload 57 0), (57, o_iload 58 3), (58, o_callv 1 3 k_X3_leadsOn 61), (61, o_if_eq 81 64), (64, o_aload 65 0), (65, o_iload 66 3), (66, o_iload 67 2), (67, o_iload 68 1), (68, o_aload 69 0), (69, o_getf 72 3 6), (72, o_callv 4 3 k_X3_wayGoes 75), (75, o_if_eq 81 78), (78, o_const 80 (-2)), (80, o_iret), (81, o_iinc 84 3 1), (84, o_goto 45), (87, o_iload 88 2), (88, o_iret)]
set_option maxRecDepth 20000 in
theorem t_X3_shutIn : ∀ q ∈ T_X3_shutIn, zS k_X3_shutIn q.1 q.2 := by
  unfold T_X3_shutIn
  refine List.forall_mem_cons.mpr ⟨s_aload_n (j := 0) (by decide +kernel) rfl rfl, ?_⟩
  refine List.forall_mem_cons.mpr ⟨s_getf (idx := 30) (C := RX3) (T := TX3) (N := 7) rfl inX3 (by decide) q1_212 (by decide +kernel) rfl, ?_⟩
  refine List.forall_mem_cons.mpr ⟨s_aload_n (j := 0) (by decide +kernel) rfl rfl, ?_⟩
  refine List.forall_mem_cons.mpr ⟨s_getf (idx := 19) (C := RX3) (T := TX3) (N := 7) rfl inX3 (by decide) q1_206 (by decide +kernel) rfl, ?_⟩
  refine List.forall_mem_cons.mpr ⟨s_aload_n (j := 0) (by decide +kernel) rfl rfl, ?_⟩
  refine List.forall_mem_cons.mpr ⟨s_getf (idx := 15) (C := RX3) (T := TX3) (N := 7) rfl inX3 (by decide) q1_205 (by decide +kernel) rfl, ?_⟩
  refine List.forall_mem_cons.mpr ⟨s_getf (idx := 44) (C := RX2) (T := TX2) (N := 20) rfl inX2 (by decide) q1_74 (by decide +kernel) rfl, ?_⟩
  refine List.forall_mem_cons.mpr ⟨s_aload_n (j := 0) (by decide +kernel) rfl rfl, ?_⟩
  refine List.forall_mem_cons.mpr ⟨s_getf (idx := 27) (C := RX3) (T := TX3) (N := 7) rfl inX3 (by decide) q1_210 (by decide +kernel) rfl, ?_⟩
  refine List.forall_mem_cons.mpr ⟨s_iald (by decide +kernel) rfl, ?_⟩
  refine List.forall_mem_cons.mpr ⟨s_aload_n (j := 0) (by decide +kernel) rfl rfl, ?_⟩
  refine List.forall_mem_cons.mpr ⟨s_getf (idx := 30) (C := RX3) (T := TX3) (N := 7) rfl inX3 (by decide) q1_212 (by decide +kernel) rfl, ?_⟩
  refine List.forall_mem_cons.mpr ⟨s_callv (idx := 49) (k' := k_X4_firstAbove) (T := TX4) (N := 5) rfl q3_33 q3_30 q3_31 q3_32 q1_4 de_X4_firstAbove (by decide) (by decide +kernel) rfl, ?_⟩
  refine List.forall_mem_cons.mpr ⟨s_iconst (by decide +kernel) rfl, ?_⟩
  refine List.forall_mem_cons.mpr ⟨s_isub (by decide +kernel) rfl, ?_⟩
  refine List.forall_mem_cons.mpr ⟨s_mmax (idx := 86) q3_205 q2_166b q1_12b qmaxC (by decide +kernel) rfl, ?_⟩
  refine List.forall_mem_cons.mpr ⟨s_istore_n (j := 2) (by decide +kernel) rfl (by decide) rfl, ?_⟩
  refine List.forall_mem_cons.mpr ⟨s_iload_n (j := 2) (by decide +kernel) rfl rfl, ?_⟩
  refine List.forall_mem_cons.mpr ⟨s_sipush (by decide +kernel) (by decide) rfl, ?_⟩
  refine List.forall_mem_cons.mpr ⟨s_icmp_lt (off := 6) (by decide +kernel) (by decide) rfl, ?_⟩
  refine List.forall_mem_cons.mpr ⟨s_bipush (by decide +kernel) (by decide) rfl, ?_⟩
  refine List.forall_mem_cons.mpr ⟨s_iret rfl (by decide +kernel), ?_⟩
  refine List.forall_mem_cons.mpr ⟨s_iconst (by decide +kernel) rfl, ?_⟩
  refine List.forall_mem_cons.mpr ⟨s_istore_n (j := 3) (by decide +kernel) rfl (by decide) rfl, ?_⟩
  refine List.forall_mem_cons.mpr ⟨s_iload_n (j := 3) (by decide +kernel) rfl rfl, ?_⟩
  refine List.forall_mem_cons.mpr ⟨s_aload_n (j := 0) (by decide +kernel) rfl rfl, ?_⟩
  refine List.forall_mem_cons.mpr ⟨s_getf (idx := 15) (C := RX3) (T := TX3) (N := 7) rfl inX3 (by decide) q1_205 (by decide +kernel) rfl, ?_⟩
  refine List.forall_mem_cons.mpr ⟨s_getf (idx := 89) (C := RX2) (T := TX2) (N := 20) rfl inX2 (by decide) q1_80 (by decide +kernel) rfl, ?_⟩
  refine List.forall_mem_cons.mpr ⟨s_icmp_ge (off := 34) (by decide +kernel) (by decide) rfl, ?_⟩
  refine List.forall_mem_cons.mpr ⟨s_aload_n (j := 0) (by decide +kernel) rfl rfl, ?_⟩
  refine List.forall_mem_cons.mpr ⟨s_iload_n (j := 3) (by decide +kernel) rfl rfl, ?_⟩
  refine List.forall_mem_cons.mpr ⟨s_callv (idx := 55) (k' := k_X3_leadsOn) (T := TX3) (N := 7) rfl q3_194 q3_191 q3_193 qs_24 q1_6 de_X3_leadsOn (by decide) (by decide +kernel) rfl, ?_⟩
  refine List.forall_mem_cons.mpr ⟨s_if_eq (off := 20) (by decide +kernel) (by decide) rfl, ?_⟩
  refine List.forall_mem_cons.mpr ⟨s_aload_n (j := 0) (by decide +kernel) rfl rfl, ?_⟩
  refine List.forall_mem_cons.mpr ⟨s_iload_n (j := 3) (by decide +kernel) rfl rfl, ?_⟩
  refine List.forall_mem_cons.mpr ⟨s_iload_n (j := 2) (by decide +kernel) rfl rfl, ?_⟩
  refine List.forall_mem_cons.mpr ⟨s_iload_n (j := 1) (by decide +kernel) rfl rfl, ?_⟩
  refine List.forall_mem_cons.mpr ⟨s_aload_n (j := 0) (by decide +kernel) rfl rfl, ?_⟩
  refine List.forall_mem_cons.mpr ⟨s_getf (idx := 33) (C := RX3) (T := TX3) (N := 7) rfl inX3 (by decide) q1_214 (by decide +kernel) rfl, ?_⟩
  refine List.forall_mem_cons.mpr ⟨s_callv (idx := 58) (k' := k_X3_wayGoes) (T := TX3) (N := 7) rfl q3_29 q3_195 q3_27 q3_28 q1_6 de_X3_wayGoes (by decide) (by decide +kernel) rfl, ?_⟩
  refine List.forall_mem_cons.mpr ⟨s_if_eq (off := 6) (by decide +kernel) (by decide) rfl, ?_⟩
  refine List.forall_mem_cons.mpr ⟨s_bipush (by decide +kernel) (by decide) rfl, ?_⟩
  refine List.forall_mem_cons.mpr ⟨s_iret rfl (by decide +kernel), ?_⟩
  refine List.forall_mem_cons.mpr ⟨s_iinc (by decide +kernel) (by decide) rfl, ?_⟩
  refine List.forall_mem_cons.mpr ⟨s_goto (off := (-39)) (by decide +kernel) (by decide), ?_⟩
  refine List.forall_mem_cons.mpr ⟨s_iload_n (j := 2) (by decide +kernel) rfl rfl, ?_⟩
  refine List.forall_mem_cons.mpr ⟨s_iret rfl (by decide +kernel), ?_⟩
  exact fun q hq => absurd hq List.not_mem_nil
def T_X4_rise : List (Nat × zO) := [(0, o_iload 1 1), (1, o_aload 2 0), (2, o_getf 5 4 3), (5, o_icmp_ne 17 8), (8, o_iload 9 2), (9, o_aload 10 0), (10, o_getf 13 4 4), (13, o_icmp_ne 17 16), (16, o_vret), (17, o_iload 18 1), (18, o_aload 19 0), (19, o_getf 22 4 3), (22, o_icmp_eq 55 25), (25, o_const 26 0), (26, o_istore 27 3), (27, o_iload 28 3), (28, o_const 31 1440), (31, o_icmp_ge 55 34), (34, o_aload 35 0), (35, o_getf 38 4 1), (38, o_iload 39 3), (39, o_aload 40 0), (40, o_getf 43 4 0), (43, o_iload 44 1), (44, o_iload 45 3), (45, o_callv 2 2 k_X2_tideAt 48), (48, o_iast 49), (49, o_iinc 52 3 1), (52, o_goto 27), (55, o_aload 56 0), (56, o_iload 57 1), (57, o_putf 60 4 3), (60, o_aload 61 0), (61, o_iload 62 2), (62, o_putf 65 4 4), (65, o_aload 66 0), (66, o_getf 69 4 2), (69, o_const 72 (-1000)), (72, o_calls 2 k_J7_fill_53178 75), (75, o_const 76 0), (76, o_istore 77 3), (77, o_iload 78 3), (78, o_aload 79 0), (79, o_getf 82 4 0), (82, o_getf 85 2 4), (85, o_icmp_ge 124 88), (88, o_iload 89 2), (89, o_iload 90 3), (90, o_iushr 91), (91, o_const 92 1), (92, o_iand 93), (93, o_if_eq 118 96), (96, o_aload 97 0), (97, o_aload 98 0), (98, o_getf 101 4 0), (101, o_getf 104 2 5), (104, o_iload 105 3), (105, o_iald 106), (106, o_aload 107 0), (107, o_getf 110 4 0), (110, o_getf 113 2 6), (113, o_iload 114 3), (114, o_iald 115), (115, o_callv 2 4 k_X4_raise 118), (118, o_iinc 121 3 1), (121, o_goto 77), (124, o_vret)]
set_option maxRecDepth 20000 in
theorem t_X4_rise : ∀ q ∈ T_X4_rise, zS k_X4_rise q.1 q.2 := by
  unfold T_X4_rise
  refine List.forall_mem_cons.mpr ⟨s_iload_n (j := 1) (by decide +kernel) rfl rfl, ?_⟩
  refine List.forall_mem_cons.mpr ⟨s_aload_n (j := 0) (by decide +kernel) rfl rfl, ?_⟩
  refine List.forall_mem_cons.mpr ⟨s_getf (idx := 18) (C := RX4) (T := TX4) (N := 5) rfl inX4 (by decide) q1_157 (by decide +kernel) rfl, ?_⟩
  refine List.forall_mem_cons.mpr ⟨s_icmp_ne (off := 12) (by decide +kernel) (by decide) rfl, ?_⟩
  refine List.forall_mem_cons.mpr ⟨s_iload_n (j := 2) (by decide +kernel) rfl rfl, ?_⟩
  refine List.forall_mem_cons.mpr ⟨s_aload_n (j := 0) (by decide +kernel) rfl rfl, ?_⟩
  refine List.forall_mem_cons.mpr ⟨s_getf (idx := 26) (C := RX4) (T := TX4) (N := 5) rfl inX4 (by decide) q1_158 (by decide +kernel) rfl, ?_⟩
  refine List.forall_mem_cons.mpr ⟨s_icmp_ne (off := 4) (by decide +kernel) (by decide) rfl, ?_⟩
  refine List.forall_mem_cons.mpr ⟨s_vret rfl (by decide +kernel), ?_⟩
  refine List.forall_mem_cons.mpr ⟨s_iload_n (j := 1) (by decide +kernel) rfl rfl, ?_⟩
  refine List.forall_mem_cons.mpr ⟨s_aload_n (j := 0) (by decide +kernel) rfl rfl, ?_⟩
  refine List.forall_mem_cons.mpr ⟨s_getf (idx := 18) (C := RX4) (T := TX4) (N := 5) rfl inX4 (by decide) q1_157 (by decide +kernel) rfl, ?_⟩
  refine List.forall_mem_cons.mpr ⟨s_icmp_eq (off := 33) (by decide +kernel) (by decide) rfl, ?_⟩
  refine List.forall_mem_cons.mpr ⟨s_iconst (by decide +kernel) rfl, ?_⟩
  refine List.forall_mem_cons.mpr ⟨s_istore_n (j := 3) (by decide +kernel) rfl (by decide) rfl, ?_⟩
  refine List.forall_mem_cons.mpr ⟨s_iload_n (j := 3) (by decide +kernel) rfl rfl, ?_⟩
  refine List.forall_mem_cons.mpr ⟨s_sipush (by decide +kernel) (by decide) rfl, ?_⟩
  refine List.forall_mem_cons.mpr ⟨s_icmp_ge (off := 24) (by decide +kernel) (by decide) rfl, ?_⟩
  refine List.forall_mem_cons.mpr ⟨s_aload_n (j := 0) (by decide +kernel) rfl rfl, ?_⟩
  refine List.forall_mem_cons.mpr ⟨s_getf (idx := 9) (C := RX4) (T := TX4) (N := 5) rfl inX4 (by decide) q1_154 (by decide +kernel) rfl, ?_⟩
  refine List.forall_mem_cons.mpr ⟨s_iload_n (j := 3) (by decide +kernel) rfl rfl, ?_⟩
  refine List.forall_mem_cons.mpr ⟨s_aload_n (j := 0) (by decide +kernel) rfl rfl, ?_⟩
  refine List.forall_mem_cons.mpr ⟨s_getf (idx := 22) (C := RX4) (T := TX4) (N := 5) rfl inX4 (by decide) q1_153 (by decide +kernel) rfl, ?_⟩
  refine List.forall_mem_cons.mpr ⟨s_iload_n (j := 1) (by decide +kernel) rfl rfl, ?_⟩
  refine List.forall_mem_cons.mpr ⟨s_iload_n (j := 3) (by decide +kernel) rfl rfl, ?_⟩
  refine List.forall_mem_cons.mpr ⟨s_callv (idx := 29) (k' := k_X2_tideAt) (T := TX2) (N := 20) rfl q2_171 q3_16 q2_169 q2_170 q1_3 de_X2_tideAt (by decide) (by decide +kernel) rfl, ?_⟩
  refine List.forall_mem_cons.mpr ⟨s_iast (by decide +kernel) rfl, ?_⟩
  refine List.forall_mem_cons.mpr ⟨s_iinc (by decide +kernel) (by decide) rfl, ?_⟩
  refine List.forall_mem_cons.mpr ⟨s_goto (off := (-25)) (by decide +kernel) (by decide), ?_⟩
  refine List.forall_mem_cons.mpr ⟨s_aload_n (j := 0) (by decide +kernel) rfl rfl, ?_⟩
  refine List.forall_mem_cons.mpr ⟨s_iload_n (j := 1) (by decide +kernel) rfl rfl, ?_⟩
  refine List.forall_mem_cons.mpr ⟨s_putf (idx := 18) (C := RX4) (T := TX4) (N := 5) rfl inX4 tyX4_ok nmX4 (by decide) rfl (tyX4_ok 3 (by decide)) (Or.inl ⟨rfl, kdI 4 3 (by decide)⟩) q1_157 (by decide +kernel) rfl, ?_⟩
  refine List.forall_mem_cons.mpr ⟨s_aload_n (j := 0) (by decide +kernel) rfl rfl, ?_⟩
  refine List.forall_mem_cons.mpr ⟨s_iload_n (j := 2) (by decide +kernel) rfl rfl, ?_⟩
  refine List.forall_mem_cons.mpr ⟨s_putf (idx := 26) (C := RX4) (T := TX4) (N := 5) rfl inX4 tyX4_ok nmX4 (by decide) rfl (tyX4_ok 4 (by decide)) (Or.inl ⟨rfl, kdI 4 4 (by decide)⟩) q1_158 (by decide +kernel) rfl, ?_⟩
  refine List.forall_mem_cons.mpr ⟨s_aload_n (j := 0) (by decide +kernel) rfl rfl, ?_⟩
  refine List.forall_mem_cons.mpr ⟨s_getf (idx := 15) (C := RX4) (T := TX4) (N := 5) rfl inX4 (by decide) q1_155 (by decide +kernel) rfl, ?_⟩
  refine List.forall_mem_cons.mpr ⟨s_sipush (by decide +kernel) (by decide) rfl, ?_⟩
  refine List.forall_mem_cons.mpr ⟨s_calls (idx := 35) (k' := k_J7_fill_53178) q3_19 q3_17 q3_18 q1_13 de_J7_fill_53178 (by decide) (by decide +kernel) rfl, ?_⟩
  refine List.forall_mem_cons.mpr ⟨s_iconst (by decide +kernel) rfl, ?_⟩
  refine List.forall_mem_cons.mpr ⟨s_istore_n (j := 3) (by decide +kernel) rfl (by decide) rfl, ?_⟩
  refine List.forall_mem_cons.mpr ⟨s_iload_n (j := 3) (by decide +kernel) rfl rfl, ?_⟩
  refine List.forall_mem_cons.mpr ⟨s_aload_n (j := 0) (by decide +kernel) rfl rfl, ?_⟩
  refine List.forall_mem_cons.mpr ⟨s_getf (idx := 22) (C := RX4) (T := TX4) (N := 5) rfl inX4 (by decide) q1_153 (by decide +kernel) rfl, ?_⟩
  refine List.forall_mem_cons.mpr ⟨s_getf (idx := 41) (C := RX2) (T := TX2) (N := 20) rfl inX2 (by decide) q1_64 (by decide +kernel) rfl, ?_⟩
  refine List.forall_mem_cons.mpr ⟨s_icmp_ge (off := 39) (by decide +kernel) (by decide) rfl, ?_⟩
  refine List.forall_mem_cons.mpr ⟨s_iload_n (j := 2) (by decide +kernel) rfl rfl, ?_⟩
  refine List.forall_mem_cons.mpr ⟨s_iload_n (j := 3) (by decide +kernel) rfl rfl, ?_⟩
  refine List.forall_mem_cons.mpr ⟨s_iushr (by decide +kernel) rfl, ?_⟩
  refine List.forall_mem_cons.mpr ⟨s_iconst (by decide +kernel) rfl, ?_⟩
  refine List.forall_mem_cons.mpr ⟨s_iand (by decide +kernel) rfl, ?_⟩
  refine List.forall_mem_cons.mpr ⟨s_if_eq (off := 25) (by decide +kernel) (by decide) rfl, ?_⟩
  refine List.forall_mem_cons.mpr ⟨s_aload_n (j := 0) (by decide +kernel) rfl rfl, ?_⟩
  refine List.forall_mem_cons.mpr ⟨s_aload_n (j := 0) (by decide +kernel) rfl rfl, ?_⟩
  refine List.forall_mem_cons.mpr ⟨s_getf (idx := 22) (C := RX4) (T := TX4) (N := 5) rfl inX4 (by decide) q1_153 (by decide +kernel) rfl, ?_⟩
  refine List.forall_mem_cons.mpr ⟨s_getf (idx := 44) (C := RX2) (T := TX2) (N := 20) rfl inX2 (by decide) q1_67 (by decide +kernel) rfl, ?_⟩
  refine List.forall_mem_cons.mpr ⟨s_iload_n (j := 3) (by decide +kernel) rfl rfl, ?_⟩
  refine List.forall_mem_cons.mpr ⟨s_iald (by decide +kernel) rfl, ?_⟩
  refine List.forall_mem_cons.mpr ⟨s_aload_n (j := 0) (by decide +kernel) rfl rfl, ?_⟩
  refine List.forall_mem_cons.mpr ⟨s_getf (idx := 22) (C := RX4) (T := TX4) (N := 5) rfl inX4 (by decide) q1_153 (by decide +kernel) rfl, ?_⟩
  refine List.forall_mem_cons.mpr ⟨s_getf (idx := 47) (C := RX2) (T := TX2) (N := 20) rfl inX2 (by decide) q1_69 (by decide +kernel) rfl, ?_⟩
  refine List.forall_mem_cons.mpr ⟨s_iload_n (j := 3) (by decide +kernel) rfl rfl, ?_⟩
  refine List.forall_mem_cons.mpr ⟨s_iald (by decide +kernel) rfl, ?_⟩
  refine List.forall_mem_cons.mpr ⟨s_callv (idx := 50) (k' := k_X4_raise) (T := TX4) (N := 5) rfl q3_23 q3_20 q3_22 qs_10 q1_4 de_X4_raise (by decide) (by decide +kernel) rfl, ?_⟩
  refine List.forall_mem_cons.mpr ⟨s_iinc (by decide +kernel) (by decide) rfl, ?_⟩
  refine List.forall_mem_cons.mpr ⟨s_goto (off := (-44)) (by decide +kernel) (by decide), ?_⟩
  refine List.forall_mem_cons.mpr ⟨s_vret rfl (by decide +kernel), ?_⟩
  exact fun q hq => absurd hq List.not_mem_nil
def T_X4_raise : List (Nat × zO) := [(0, o_const 1 0), (1, o_istore 2 3), (2, o_iload 3 3), (3, o_const 6 1440), (6, o_icmp_ge 54 9), (9, o_const 10 0), (10, o_const 13 1439), (13, o_iload 14 3), (14, o_iload 15 2), (15, o_iadd 16), (16, o_mmin 19), (19, o_mmax 22), (22, o_istore 24 4), (24, o_aload 25 0), (25, o_getf 28 4 2), (28, o_iload 29 3), (29, o_aload 30 0), (30, o_getf 33 4 2), (33, o_iload 34 3), (34, o_iald 35), (35, o_aload 36 0), (36, o_getf 39 4 1), (39, o_iload 41 4), (41, o_iald 42), (42, o_iload 43 1), (43, o_iadd 44), (44, o_mmax 47), (47, o_iast 48), (48, o_iinc 51 3 1), (51, o_goto 2), (54, o_vret)]
set_option maxRecDepth 20000 in
theorem t_X4_raise : ∀ q ∈ T_X4_raise, zS k_X4_raise q.1 q.2 := by
  unfold T_X4_raise
  refine List.forall_mem_cons.mpr ⟨s_iconst (by decide +kernel) rfl, ?_⟩
  refine List.forall_mem_cons.mpr ⟨s_istore_n (j := 3) (by decide +kernel) rfl (by decide) rfl, ?_⟩
  refine List.forall_mem_cons.mpr ⟨s_iload_n (j := 3) (by decide +kernel) rfl rfl, ?_⟩
  refine List.forall_mem_cons.mpr ⟨s_sipush (by decide +kernel) (by decide) rfl, ?_⟩
  refine List.forall_mem_cons.mpr ⟨s_icmp_ge (off := 48) (by decide +kernel) (by decide) rfl, ?_⟩
  refine List.forall_mem_cons.mpr ⟨s_iconst (by decide +kernel) rfl, ?_⟩
  refine List.forall_mem_cons.mpr ⟨s_sipush (by decide +kernel) (by decide) rfl, ?_⟩
  refine List.forall_mem_cons.mpr ⟨s_iload_n (j := 3) (by decide +kernel) rfl rfl, ?_⟩
  refine List.forall_mem_cons.mpr ⟨s_iload_n (j := 2) (by decide +kernel) rfl rfl, ?_⟩
  refine List.forall_mem_cons.mpr ⟨s_iadd (by decide +kernel) rfl, ?_⟩
  refine List.forall_mem_cons.mpr ⟨s_mmin (idx := 54) q3_24 q2_163b q1_12b qminC (by decide +kernel) rfl, ?_⟩
  refine List.forall_mem_cons.mpr ⟨s_mmax (idx := 59) q3_25 q2_166b q1_12b qmaxC (by decide +kernel) rfl, ?_⟩
  refine List.forall_mem_cons.mpr ⟨s_istore (by decide +kernel) (by decide) rfl, ?_⟩
  refine List.forall_mem_cons.mpr ⟨s_aload_n (j := 0) (by decide +kernel) rfl rfl, ?_⟩
  refine List.forall_mem_cons.mpr ⟨s_getf (idx := 15) (C := RX4) (T := TX4) (N := 5) rfl inX4 (by decide) q1_155 (by decide +kernel) rfl, ?_⟩
  refine List.forall_mem_cons.mpr ⟨s_iload_n (j := 3) (by decide +kernel) rfl rfl, ?_⟩
  refine List.forall_mem_cons.mpr ⟨s_aload_n (j := 0) (by decide +kernel) rfl rfl, ?_⟩
  refine List.forall_mem_cons.mpr ⟨s_getf (idx := 15) (C := RX4) (T := TX4) (N := 5) rfl inX4 (by decide) q1_155 (by decide +kernel) rfl, ?_⟩
  refine List.forall_mem_cons.mpr ⟨s_iload_n (j := 3) (by decide +kernel) rfl rfl, ?_⟩
  refine List.forall_mem_cons.mpr ⟨s_iald (by decide +kernel) rfl, ?_⟩
  refine List.forall_mem_cons.mpr ⟨s_aload_n (j := 0) (by decide +kernel) rfl rfl, ?_⟩
  refine List.forall_mem_cons.mpr ⟨s_getf (idx := 9) (C := RX4) (T := TX4) (N := 5) rfl inX4 (by decide) q1_154 (by decide +kernel) rfl, ?_⟩
  refine List.forall_mem_cons.mpr ⟨s_iload (by decide +kernel) rfl, ?_⟩
  refine List.forall_mem_cons.mpr ⟨s_iald (by decide +kernel) rfl, ?_⟩
  refine List.forall_mem_cons.mpr ⟨s_iload_n (j := 1) (by decide +kernel) rfl rfl, ?_⟩
  refine List.forall_mem_cons.mpr ⟨s_iadd (by decide +kernel) rfl, ?_⟩
  refine List.forall_mem_cons.mpr ⟨s_mmax (idx := 59) q3_25 q2_166b q1_12b qmaxC (by decide +kernel) rfl, ?_⟩
  refine List.forall_mem_cons.mpr ⟨s_iast (by decide +kernel) rfl, ?_⟩
  refine List.forall_mem_cons.mpr ⟨s_iinc (by decide +kernel) (by decide) rfl, ?_⟩
  refine List.forall_mem_cons.mpr ⟨s_goto (off := (-49)) (by decide +kernel) (by decide), ?_⟩
  refine List.forall_mem_cons.mpr ⟨s_vret rfl (by decide +kernel), ?_⟩
  exact fun q hq => absurd hq List.not_mem_nil
def T_X4_firstAbove : List (Nat × zO) := [(0, o_iload 1 2), (1, o_istore 2 3), (2, o_iload 3 3), (3, o_const 6 1440), (6, o_icmp_ge 25 9), (9, o_aload 10 0), (10, o_getf 13 4 2), (13, o_iload 14 3), (14, o_iald 15), (15, o_iload 16 1), (16, o_icmp_gt 25 19), (19, o_iinc 22 3 1), (22, o_goto 2), (25, o_iload 26 3), (26, o_iret)]
set_option maxRecDepth 20000 in
theorem t_X4_firstAbove : ∀ q ∈ T_X4_firstAbove, zS k_X4_firstAbove q.1 q.2 := by
  unfold T_X4_firstAbove
  refine List.forall_mem_cons.mpr ⟨s_iload_n (j := 2) (by decide +kernel) rfl rfl, ?_⟩
  refine List.forall_mem_cons.mpr ⟨s_istore_n (j := 3) (by decide +kernel) rfl (by decide) rfl, ?_⟩
  refine List.forall_mem_cons.mpr ⟨s_iload_n (j := 3) (by decide +kernel) rfl rfl, ?_⟩
  refine List.forall_mem_cons.mpr ⟨s_sipush (by decide +kernel) (by decide) rfl, ?_⟩
  refine List.forall_mem_cons.mpr ⟨s_icmp_ge (off := 19) (by decide +kernel) (by decide) rfl, ?_⟩
  refine List.forall_mem_cons.mpr ⟨s_aload_n (j := 0) (by decide +kernel) rfl rfl, ?_⟩
  refine List.forall_mem_cons.mpr ⟨s_getf (idx := 15) (C := RX4) (T := TX4) (N := 5) rfl inX4 (by decide) q1_155 (by decide +kernel) rfl, ?_⟩
  refine List.forall_mem_cons.mpr ⟨s_iload_n (j := 3) (by decide +kernel) rfl rfl, ?_⟩
  refine List.forall_mem_cons.mpr ⟨s_iald (by decide +kernel) rfl, ?_⟩
  refine List.forall_mem_cons.mpr ⟨s_iload_n (j := 1) (by decide +kernel) rfl rfl, ?_⟩
  refine List.forall_mem_cons.mpr ⟨s_icmp_gt (off := 9) (by decide +kernel) (by decide) rfl, ?_⟩
  refine List.forall_mem_cons.mpr ⟨s_iinc (by decide +kernel) (by decide) rfl, ?_⟩
  refine List.forall_mem_cons.mpr ⟨s_goto (off := (-20)) (by decide +kernel) (by decide), ?_⟩
  refine List.forall_mem_cons.mpr ⟨s_iload_n (j := 3) (by decide +kernel) rfl rfl, ?_⟩
  refine List.forall_mem_cons.mpr ⟨s_iret rfl (by decide +kernel), ?_⟩
  exact fun q hq => absurd hq List.not_mem_nil
def T_X5_prepare : List (Nat × zO) := [(0, o_aload 1 0), (1, o_getf 4 5 1), (4, o_iload 5 1), (5, o_const 7 10), (7, o_irem 8), (8, o_iload 9 2), (9, o_callv 2 4 k_X4_rise 12), (12, o_aload 13 0), (13, o_lconst 16 (-1)), (16, o_putf 19 5 6), (19, o_const 20 0), (20, o_istore 21 3), (21, o_iload 22 3), (22, o_aload 23 0), (23, o_getf 26 5 0), (26, o_getf 29 2 10), (29, o_icmp_ge 78 32), (32, o_const 33 0), (33, o_istore 35 4), (35, o_iload 37 4), (37, o_const 38 3), (38, o_icmp_gt 72 41), (41, o_aload 42 0), (42, o_getf 45 5 4), (45, o_const 46 4), (46, o_iload 47 3), (47, o_imul 48), (48, o_iload 50 4), (50, o_iadd 51), (51, o_aload 52 0), (52, o_getf 55 5 0), (55, o_iload 56 3), (56, o_iload 57 1), (57, o_const 59 10), (59, o_idiv 60), (60, o_iload 62 4), (62, o_callv 3 2 k_X2_taking 65), (65, o_iast 66), (66, o_iinc 69 4 1), (69, o_goto 35), (72, o_iinc 75 3 1), (75, o_goto 21), (78, o_vret)]
set_option maxRecDepth 20000 in
theorem t_X5_prepare : ∀ q ∈ T_X5_prepare, zS k_X5_prepare q.1 q.2 := by
  unfold T_X5_prepare
  refine List.forall_mem_cons.mpr ⟨s_aload_n (j := 0) (by decide +kernel) rfl rfl, ?_⟩
  refine List.forall_mem_cons.mpr ⟨s_getf (idx := 29) (C := RX5) (T := TX5) (N := 7) rfl inX5 (by decide) q1_177 (by decide +kernel) rfl, ?_⟩
  refine List.forall_mem_cons.mpr ⟨s_iload_n (j := 1) (by decide +kernel) rfl rfl, ?_⟩
  refine List.forall_mem_cons.mpr ⟨s_bipush (by decide +kernel) (by decide) rfl, ?_⟩
  refine List.forall_mem_cons.mpr ⟨s_irem (by decide +kernel) rfl, ?_⟩
  refine List.forall_mem_cons.mpr ⟨s_iload_n (j := 2) (by decide +kernel) rfl rfl, ?_⟩
  refine List.forall_mem_cons.mpr ⟨s_callv (idx := 33) (k' := k_X4_rise) (T := TX4) (N := 5) rfl q3_15 q3_47 q3_13 q3_14 q1_4 de_X4_rise (by decide) (by decide +kernel) rfl, ?_⟩
  refine List.forall_mem_cons.mpr ⟨s_aload_n (j := 0) (by decide +kernel) rfl rfl, ?_⟩
  refine List.forall_mem_cons.mpr ⟨s_ldc2 (idx := 39) (y := (-1)) (by decide +kernel) q3_48 rfl, ?_⟩
  refine List.forall_mem_cons.mpr ⟨s_putf (idx := 41) (C := RX5) (T := TX5) (N := 7) rfl inX5 tyX5_ok nmX5 (by decide) rfl (tyX5_ok 6 (by decide)) (Or.inr ⟨rfl, kdL 5 6 (by decide)⟩) q1_182 (by decide +kernel) rfl, ?_⟩
  refine List.forall_mem_cons.mpr ⟨s_iconst (by decide +kernel) rfl, ?_⟩
  refine List.forall_mem_cons.mpr ⟨s_istore_n (j := 3) (by decide +kernel) rfl (by decide) rfl, ?_⟩
  refine List.forall_mem_cons.mpr ⟨s_iload_n (j := 3) (by decide +kernel) rfl rfl, ?_⟩
  refine List.forall_mem_cons.mpr ⟨s_aload_n (j := 0) (by decide +kernel) rfl rfl, ?_⟩
  refine List.forall_mem_cons.mpr ⟨s_getf (idx := 25) (C := RX5) (T := TX5) (N := 7) rfl inX5 (by decide) q1_176 (by decide +kernel) rfl, ?_⟩
  refine List.forall_mem_cons.mpr ⟨s_getf (idx := 45) (C := RX2) (T := TX2) (N := 20) rfl inX2 (by decide) q1_77 (by decide +kernel) rfl, ?_⟩
  refine List.forall_mem_cons.mpr ⟨s_icmp_ge (off := 49) (by decide +kernel) (by decide) rfl, ?_⟩
  refine List.forall_mem_cons.mpr ⟨s_iconst (by decide +kernel) rfl, ?_⟩
  refine List.forall_mem_cons.mpr ⟨s_istore (by decide +kernel) (by decide) rfl, ?_⟩
  refine List.forall_mem_cons.mpr ⟨s_iload (by decide +kernel) rfl, ?_⟩
  refine List.forall_mem_cons.mpr ⟨s_iconst (by decide +kernel) rfl, ?_⟩
  refine List.forall_mem_cons.mpr ⟨s_icmp_gt (off := 34) (by decide +kernel) (by decide) rfl, ?_⟩
  refine List.forall_mem_cons.mpr ⟨s_aload_n (j := 0) (by decide +kernel) rfl rfl, ?_⟩
  refine List.forall_mem_cons.mpr ⟨s_getf (idx := 18) (C := RX5) (T := TX5) (N := 7) rfl inX5 (by decide) q1_180 (by decide +kernel) rfl, ?_⟩
  refine List.forall_mem_cons.mpr ⟨s_iconst (by decide +kernel) rfl, ?_⟩
  refine List.forall_mem_cons.mpr ⟨s_iload_n (j := 3) (by decide +kernel) rfl rfl, ?_⟩
  refine List.forall_mem_cons.mpr ⟨s_imul (by decide +kernel) rfl, ?_⟩
  refine List.forall_mem_cons.mpr ⟨s_iload (by decide +kernel) rfl, ?_⟩
  refine List.forall_mem_cons.mpr ⟨s_iadd (by decide +kernel) rfl, ?_⟩
  refine List.forall_mem_cons.mpr ⟨s_aload_n (j := 0) (by decide +kernel) rfl rfl, ?_⟩
  refine List.forall_mem_cons.mpr ⟨s_getf (idx := 25) (C := RX5) (T := TX5) (N := 7) rfl inX5 (by decide) q1_176 (by decide +kernel) rfl, ?_⟩
  refine List.forall_mem_cons.mpr ⟨s_iload_n (j := 3) (by decide +kernel) rfl rfl, ?_⟩
  refine List.forall_mem_cons.mpr ⟨s_iload_n (j := 1) (by decide +kernel) rfl rfl, ?_⟩
  refine List.forall_mem_cons.mpr ⟨s_bipush (by decide +kernel) (by decide) rfl, ?_⟩
  refine List.forall_mem_cons.mpr ⟨s_idiv (by decide +kernel) rfl, ?_⟩
  refine List.forall_mem_cons.mpr ⟨s_iload (by decide +kernel) rfl, ?_⟩
  refine List.forall_mem_cons.mpr ⟨s_callv (idx := 51) (k' := k_X2_taking) (T := TX2) (N := 20) rfl q2_235 q3_49 q2_233 q2_234 q1_3 de_X2_taking (by decide) (by decide +kernel) rfl, ?_⟩
  refine List.forall_mem_cons.mpr ⟨s_iast (by decide +kernel) rfl, ?_⟩
  refine List.forall_mem_cons.mpr ⟨s_iinc (by decide +kernel) (by decide) rfl, ?_⟩
  refine List.forall_mem_cons.mpr ⟨s_goto (off := (-34)) (by decide +kernel) (by decide), ?_⟩
  refine List.forall_mem_cons.mpr ⟨s_iinc (by decide +kernel) (by decide) rfl, ?_⟩
  refine List.forall_mem_cons.mpr ⟨s_goto (off := (-54)) (by decide +kernel) (by decide), ?_⟩
  refine List.forall_mem_cons.mpr ⟨s_vret rfl (by decide +kernel), ?_⟩
  exact fun q hq => absurd hq List.not_mem_nil
def T_X5_barWaiting : List (Nat × zO) := [(0, o_aload 1 0), (1, o_lconst 4 (15)), (4, o_const 5 4), (5, o_iload 6 1), (6, o_imul 7), (7, o_lshl 8), (8, o_lconst 11 (-1)), (11, o_lxor 12), (12, o_putf 15 5 6), (15, o_vret)]
set_option maxRecDepth 20000 in
theorem t_X5_barWaiting : ∀ q ∈ T_X5_barWaiting, zS k_X5_barWaiting q.1 q.2 := by
  unfold T_X5_barWaiting
  refine List.forall_mem_cons.mpr ⟨s_aload_n (j := 0) (by decide +kernel) rfl rfl, ?_⟩
  refine List.forall_mem_cons.mpr ⟨s_ldc2 (idx := 54) (y := (15)) (by decide +kernel) q3_54 rfl, ?_⟩
  refine List.forall_mem_cons.mpr ⟨s_iconst (by decide +kernel) rfl, ?_⟩
  refine List.forall_mem_cons.mpr ⟨s_iload_n (j := 1) (by decide +kernel) rfl rfl, ?_⟩
  refine List.forall_mem_cons.mpr ⟨s_imul (by decide +kernel) rfl, ?_⟩
  refine List.forall_mem_cons.mpr ⟨s_lshl (by decide +kernel) rfl, ?_⟩
  refine List.forall_mem_cons.mpr ⟨s_ldc2 (idx := 39) (y := (-1)) (by decide +kernel) q3_48 rfl, ?_⟩
  refine List.forall_mem_cons.mpr ⟨s_lxor (by decide +kernel) rfl, ?_⟩
  refine List.forall_mem_cons.mpr ⟨s_putf (idx := 41) (C := RX5) (T := TX5) (N := 7) rfl inX5 tyX5_ok nmX5 (by decide) rfl (tyX5_ok 6 (by decide)) (Or.inr ⟨rfl, kdL 5 6 (by decide)⟩) q1_182 (by decide +kernel) rfl, ?_⟩
  refine List.forall_mem_cons.mpr ⟨s_vret rfl (by decide +kernel), ?_⟩
  exact fun q hq => absurd hq List.not_mem_nil
def T_X5_soonest : List (Nat × zO) := [(0, o_aload 1 0), (1, o_aload 2 0), (2, o_getf 5 5 2), (5, o_iload 6 1), (6, o_lconst 9 (15)), (9, o_const 10 4), (10, o_iload 11 2), (11, o_imul 12), (12, o_lshl 13), (13, o_iload 14 3), (14, o_callv 4 5 k_X5_spread 17), (17, o_iret)]
set_option maxRecDepth 20000 in
theorem t_X5_soonest : ∀ q ∈ T_X5_soonest, zS k_X5_soonest q.1 q.2 := by
  unfold T_X5_soonest
  refine List.forall_mem_cons.mpr ⟨s_aload_n (j := 0) (by decide +kernel) rfl rfl, ?_⟩
  refine List.forall_mem_cons.mpr ⟨s_aload_n (j := 0) (by decide +kernel) rfl rfl, ?_⟩
  refine List.forall_mem_cons.mpr ⟨s_getf (idx := 9) (C := RX5) (T := TX5) (N := 7) rfl inX5 (by decide) q1_178 (by decide +kernel) rfl, ?_⟩
  refine List.forall_mem_cons.mpr ⟨s_iload_n (j := 1) (by decide +kernel) rfl rfl, ?_⟩
  refine List.forall_mem_cons.mpr ⟨s_ldc2 (idx := 54) (y := (15)) (by decide +kernel) q3_54 rfl, ?_⟩
  refine List.forall_mem_cons.mpr ⟨s_iconst (by decide +kernel) rfl, ?_⟩
  refine List.forall_mem_cons.mpr ⟨s_iload_n (j := 2) (by decide +kernel) rfl rfl, ?_⟩
  refine List.forall_mem_cons.mpr ⟨s_imul (by decide +kernel) rfl, ?_⟩
  refine List.forall_mem_cons.mpr ⟨s_lshl (by decide +kernel) rfl, ?_⟩
  refine List.forall_mem_cons.mpr ⟨s_iload_n (j := 3) (by decide +kernel) rfl rfl, ?_⟩
  refine List.forall_mem_cons.mpr ⟨s_callv (idx := 56) (k' := k_X5_spread) (T := TX5) (N := 7) rfl q3_58 q3_55 q3_57 qs_12 q1_5 de_X5_spread (by decide) (by decide +kernel) rfl, ?_⟩
  refine List.forall_mem_cons.mpr ⟨s_iret rfl (by decide +kernel), ?_⟩
  exact fun q hq => absurd hq List.not_mem_nil
def T_X5_isThere : List (Nat × zO) := [(0, o_iload 1 2), (1, o_const 4 10000), (4, o_irem 5), (5, o_istore 6 3), (6, o_aload 7 0), (7, o_aload 8 0), (8, o_getf 11 5 2), (11, o_iload 12 1), (12, o_lconst 13 0), (13, o_iload 14 3), (14, o_callv 4 5 k_X5_spread 17), (17, o_pop 18), (18, o_aload 19 0), (19, o_getf 22 5 2), (22, o_iload 23 3), (23, o_lald 24), (24, o_lconst 27 (15)), (27, o_const 28 4), (28, o_iload 29 2), (29, o_const 32 10000), (32, o_idiv 33), (33, o_imul 34), (34, o_lshl 35), (35, o_land 36), (36, o_lconst 37 0), (37, o_lcmp 38), (38, o_if_eq 45 41), (41, o_const 42 1), (42, o_goto 46), (45, o_const 46 0), (46, o_zret)]
set_option maxRecDepth 20000 in
theorem t_X5_isThere : ∀ q ∈ T_X5_isThere, zS k_X5_isThere q.1 q.2 := by
  unfold T_X5_isThere
  refine List.forall_mem_cons.mpr ⟨s_iload_n (j := 2) (by decide +kernel) rfl rfl, ?_⟩
  refine List.forall_mem_cons.mpr ⟨s_sipush (by decide +kernel) (by decide) rfl, ?_⟩
  refine List.forall_mem_cons.mpr ⟨s_irem (by decide +kernel) rfl, ?_⟩
  refine List.forall_mem_cons.mpr ⟨s_istore_n (j := 3) (by decide +kernel) rfl (by decide) rfl, ?_⟩
  refine List.forall_mem_cons.mpr ⟨s_aload_n (j := 0) (by decide +kernel) rfl rfl, ?_⟩
  refine List.forall_mem_cons.mpr ⟨s_aload_n (j := 0) (by decide +kernel) rfl rfl, ?_⟩
  refine List.forall_mem_cons.mpr ⟨s_getf (idx := 9) (C := RX5) (T := TX5) (N := 7) rfl inX5 (by decide) q1_178 (by decide +kernel) rfl, ?_⟩
  refine List.forall_mem_cons.mpr ⟨s_iload_n (j := 1) (by decide +kernel) rfl rfl, ?_⟩
  refine List.forall_mem_cons.mpr ⟨s_lconst (z := 0) (by decide +kernel) (by decide) rfl, ?_⟩
  refine List.forall_mem_cons.mpr ⟨s_iload_n (j := 3) (by decide +kernel) rfl rfl, ?_⟩
  refine List.forall_mem_cons.mpr ⟨s_callv (idx := 56) (k' := k_X5_spread) (T := TX5) (N := 7) rfl q3_58 q3_55 q3_57 qs_12 q1_5 de_X5_spread (by decide) (by decide +kernel) rfl, ?_⟩
  refine List.forall_mem_cons.mpr ⟨s_pop (by decide +kernel) rfl, ?_⟩
  refine List.forall_mem_cons.mpr ⟨s_aload_n (j := 0) (by decide +kernel) rfl rfl, ?_⟩
  refine List.forall_mem_cons.mpr ⟨s_getf (idx := 9) (C := RX5) (T := TX5) (N := 7) rfl inX5 (by decide) q1_178 (by decide +kernel) rfl, ?_⟩
  refine List.forall_mem_cons.mpr ⟨s_iload_n (j := 3) (by decide +kernel) rfl rfl, ?_⟩
  refine List.forall_mem_cons.mpr ⟨s_lald (by decide +kernel) rfl, ?_⟩
  refine List.forall_mem_cons.mpr ⟨s_ldc2 (idx := 54) (y := (15)) (by decide +kernel) q3_54 rfl, ?_⟩
  refine List.forall_mem_cons.mpr ⟨s_iconst (by decide +kernel) rfl, ?_⟩
  refine List.forall_mem_cons.mpr ⟨s_iload_n (j := 2) (by decide +kernel) rfl rfl, ?_⟩
  refine List.forall_mem_cons.mpr ⟨s_sipush (by decide +kernel) (by decide) rfl, ?_⟩
  refine List.forall_mem_cons.mpr ⟨s_idiv (by decide +kernel) rfl, ?_⟩
  refine List.forall_mem_cons.mpr ⟨s_imul (by decide +kernel) rfl, ?_⟩
  refine List.forall_mem_cons.mpr ⟨s_lshl (by decide +kernel) rfl, ?_⟩
  refine List.forall_mem_cons.mpr ⟨s_land (by decide +kernel) rfl, ?_⟩
  refine List.forall_mem_cons.mpr ⟨s_lconst (z := 0) (by decide +kernel) (by decide) rfl, ?_⟩
  refine List.forall_mem_cons.mpr ⟨s_lcmp (by decide +kernel) rfl, ?_⟩
  refine List.forall_mem_cons.mpr ⟨s_if_eq (off := 7) (by decide +kernel) (by decide) rfl, ?_⟩
  refine List.forall_mem_cons.mpr ⟨s_iconst (by decide +kernel) rfl, ?_⟩
  refine List.forall_mem_cons.mpr ⟨s_goto (off := 4) (by decide +kernel) (by decide), ?_⟩
  refine List.forall_mem_cons.mpr ⟨s_iconst (by decide +kernel) rfl, ?_⟩
  refine List.forall_mem_cons.mpr ⟨s_zret rfl (by decide +kernel), ?_⟩
  exact fun q hq => absurd hq List.not_mem_nil
def T_X5_meeting : List (Nat × zO) := [(0, o_aload 1 0), (1, o_aload 2 0), (2, o_getf 5 5 2), (5, o_iload 6 1), (6, o_lconst 7 0), (7, o_const 10 1439), (10, o_callv 4 5 k_X5_spread 13), (13, o_pop 14), (14, o_aload 15 0), (15, o_aload 16 0), (16, o_getf 19 5 3), (19, o_iload 20 2), (20, o_lconst 21 0), (21, o_const 24 1439), (24, o_callv 4 5 k_X5_spread 27), (27, o_pop 28), (28, o_iload 29 1), (29, o_const 32 10000), (32, o_irem 33), (33, o_iload 34 2), (34, o_const 37 10000), (37, o_irem 38), (38, o_mmax 41), (41, o_istore 42 3), (42, o_iload 43 3), (43, o_const 46 1440), (46, o_icmp_ge 123 49), (49, o_const 50 0), (50, o_istore 52 4), (52, o_iload 54 4), (54, o_aload 55 0), (55, o_getf 58 5 0), (58, o_getf 61 2 8), (61, o_icmp_ge 117 64), (64, o_lconst 67 (15)), (67, o_const 68 4), (68, o_iload 70 4), (70, o_imul 71), (71, o_lshl 72), (72, o_lstore 74 5), (74, o_aload 75 0), (75, o_getf 78 5 2), (78, o_iload 79 3), (79, o_lald 80), (80, o_lload 82 5), (82, o_land 83), (83, o_lconst 84 0), (84, o_lcmp 85), (85, o_if_eq 111 88), (88, o_aload 89 0), (89, o_getf 92 5 3), (92, o_iload 93 3), (93, o_lald 94), (94, o_lload 96 5), (96, o_land 97), (97, o_lconst 98 0), (98, o_lcmp 99), (99, o_if_eq 111 102), (102, o_const 105 10000), (105, o_iload 107 4), (107, o_imul 108), (108, o_iload 109 3), (109, o_iadd 110), (110, o_iret), (111, o_iinc 114 4 1), (114, o_goto 52), (117, o_iinc 120 3 1), (120, o_goto 42), (123, o_const 125 (-2)), (125, o_iret)]
set_option maxRecDepth 20000 in
theorem t_X5_meeting : ∀ q ∈ T_X5_meeting, zS k_X5_meeting q.1 q.2 := by
  unfold T_X5_meeting
  refine List.forall_mem_cons.mpr ⟨s_aload_n (j := 0) (by decide +kernel) rfl rfl, ?_⟩
  refine List.forall_mem_cons.mpr ⟨s_aload_n (j := 0) (by decide +kernel) rfl rfl, ?_⟩
  refine List.forall_mem_cons.mpr ⟨s_getf (idx := 9) (C := RX5) (T := TX5) (N := 7) rfl inX5 (by decide) q1_178 (by decide +kernel) rfl, ?_⟩
  refine List.forall_mem_cons.mpr ⟨s_iload_n (j := 1) (by decide +kernel) rfl rfl, ?_⟩
  refine List.forall_mem_cons.mpr ⟨s_lconst (z := 0) (by decide +kernel) (by decide) rfl, ?_⟩
  refine List.forall_mem_cons.mpr ⟨s_sipush (by decide +kernel) (by decide) rfl, ?_⟩
  refine List.forall_mem_cons.mpr ⟨s_callv (idx := 56) (k' := k_X5_spread) (T := TX5) (N := 7) rfl q3_58 q3_55 q3_57 qs_12 q1_5 de_X5_spread (by decide) (by decide +kernel) rfl, ?_⟩
  refine List.forall_mem_cons.mpr ⟨s_pop (by decide +kernel) rfl, ?_⟩
  refine List.forall_mem_cons.mpr ⟨s_aload_n (j := 0) (by decide +kernel) rfl rfl, ?_⟩
  refine List.forall_mem_cons.mpr ⟨s_aload_n (j := 0) (by decide +kernel) rfl rfl, ?_⟩
  refine List.forall_mem_cons.mpr ⟨s_getf (idx := 15) (C := RX5) (T := TX5) (N := 7) rfl inX5 (by decide) q1_179 (by decide +kernel) rfl, ?_⟩
  refine List.forall_mem_cons.mpr ⟨s_iload_n (j := 2) (by decide +kernel) rfl rfl, ?_⟩
  refine List.forall_mem_cons.mpr ⟨s_lconst (z := 0) (by decide +kernel) (by decide) rfl, ?_⟩
  refine List.forall_mem_cons.mpr ⟨s_sipush (by decide +kernel) (by decide) rfl, ?_⟩
  refine List.forall_mem_cons.mpr ⟨s_callv (idx := 56) (k' := k_X5_spread) (T := TX5) (N := 7) rfl q3_58 q3_55 q3_57 qs_12 q1_5 de_X5_spread (by decide) (by decide +kernel) rfl, ?_⟩
  refine List.forall_mem_cons.mpr ⟨s_pop (by decide +kernel) rfl, ?_⟩
  refine List.forall_mem_cons.mpr ⟨s_iload_n (j := 1) (by decide +kernel) rfl rfl, ?_⟩
  refine List.forall_mem_cons.mpr ⟨s_sipush (by decide +kernel) (by decide) rfl, ?_⟩
  refine List.forall_mem_cons.mpr ⟨s_irem (by decide +kernel) rfl, ?_⟩
  refine List.forall_mem_cons.mpr ⟨s_iload_n (j := 2) (by decide +kernel) rfl rfl, ?_⟩
  refine List.forall_mem_cons.mpr ⟨s_sipush (by decide +kernel) (by decide) rfl, ?_⟩
  refine List.forall_mem_cons.mpr ⟨s_irem (by decide +kernel) rfl, ?_⟩
  refine List.forall_mem_cons.mpr ⟨s_mmax (idx := 60) q3_67 q2_166b q1_12b qmaxC (by decide +kernel) rfl, ?_⟩
  refine List.forall_mem_cons.mpr ⟨s_istore_n (j := 3) (by decide +kernel) rfl (by decide) rfl, ?_⟩
  refine List.forall_mem_cons.mpr ⟨s_iload_n (j := 3) (by decide +kernel) rfl rfl, ?_⟩
  refine List.forall_mem_cons.mpr ⟨s_sipush (by decide +kernel) (by decide) rfl, ?_⟩
  refine List.forall_mem_cons.mpr ⟨s_icmp_ge (off := 77) (by decide +kernel) (by decide) rfl, ?_⟩
  refine List.forall_mem_cons.mpr ⟨s_iconst (by decide +kernel) rfl, ?_⟩
  refine List.forall_mem_cons.mpr ⟨s_istore (by decide +kernel) (by decide) rfl, ?_⟩
  refine List.forall_mem_cons.mpr ⟨s_iload (by decide +kernel) rfl, ?_⟩
  refine List.forall_mem_cons.mpr ⟨s_aload_n (j := 0) (by decide +kernel) rfl rfl, ?_⟩
  refine List.forall_mem_cons.mpr ⟨s_getf (idx := 25) (C := RX5) (T := TX5) (N := 7) rfl inX5 (by decide) q1_176 (by decide +kernel) rfl, ?_⟩
  refine List.forall_mem_cons.mpr ⟨s_getf (idx := 66) (C := RX2) (T := TX2) (N := 20) rfl inX2 (by decide) q1_72 (by decide +kernel) rfl, ?_⟩
  refine List.forall_mem_cons.mpr ⟨s_icmp_ge (off := 56) (by decide +kernel) (by decide) rfl, ?_⟩
  refine List.forall_mem_cons.mpr ⟨s_ldc2 (idx := 54) (y := (15)) (by decide +kernel) q3_54 rfl, ?_⟩
  refine List.forall_mem_cons.mpr ⟨s_iconst (by decide +kernel) rfl, ?_⟩
  refine List.forall_mem_cons.mpr ⟨s_iload (by decide +kernel) rfl, ?_⟩
  refine List.forall_mem_cons.mpr ⟨s_imul (by decide +kernel) rfl, ?_⟩
  refine List.forall_mem_cons.mpr ⟨s_lshl (by decide +kernel) rfl, ?_⟩
  refine List.forall_mem_cons.mpr ⟨s_lstore (by decide +kernel) (by decide) rfl, ?_⟩
  refine List.forall_mem_cons.mpr ⟨s_aload_n (j := 0) (by decide +kernel) rfl rfl, ?_⟩
  refine List.forall_mem_cons.mpr ⟨s_getf (idx := 9) (C := RX5) (T := TX5) (N := 7) rfl inX5 (by decide) q1_178 (by decide +kernel) rfl, ?_⟩
  refine List.forall_mem_cons.mpr ⟨s_iload_n (j := 3) (by decide +kernel) rfl rfl, ?_⟩
  refine List.forall_mem_cons.mpr ⟨s_lald (by decide +kernel) rfl, ?_⟩
  refine List.forall_mem_cons.mpr ⟨s_lload (by decide +kernel) rfl, ?_⟩
  refine List.forall_mem_cons.mpr ⟨s_land (by decide +kernel) rfl, ?_⟩
  refine List.forall_mem_cons.mpr ⟨s_lconst (z := 0) (by decide +kernel) (by decide) rfl, ?_⟩
  refine List.forall_mem_cons.mpr ⟨s_lcmp (by decide +kernel) rfl, ?_⟩
  refine List.forall_mem_cons.mpr ⟨s_if_eq (off := 26) (by decide +kernel) (by decide) rfl, ?_⟩
  refine List.forall_mem_cons.mpr ⟨s_aload_n (j := 0) (by decide +kernel) rfl rfl, ?_⟩
  refine List.forall_mem_cons.mpr ⟨s_getf (idx := 15) (C := RX5) (T := TX5) (N := 7) rfl inX5 (by decide) q1_179 (by decide +kernel) rfl, ?_⟩
  refine List.forall_mem_cons.mpr ⟨s_iload_n (j := 3) (by decide +kernel) rfl rfl, ?_⟩
  refine List.forall_mem_cons.mpr ⟨s_lald (by decide +kernel) rfl, ?_⟩
  refine List.forall_mem_cons.mpr ⟨s_lload (by decide +kernel) rfl, ?_⟩
  refine List.forall_mem_cons.mpr ⟨s_land (by decide +kernel) rfl, ?_⟩
  refine List.forall_mem_cons.mpr ⟨s_lconst (z := 0) (by decide +kernel) (by decide) rfl, ?_⟩
  refine List.forall_mem_cons.mpr ⟨s_lcmp (by decide +kernel) rfl, ?_⟩
  refine List.forall_mem_cons.mpr ⟨s_if_eq (off := 12) (by decide +kernel) (by decide) rfl, ?_⟩
  refine List.forall_mem_cons.mpr ⟨s_sipush (by decide +kernel) (by decide) rfl, ?_⟩
  refine List.forall_mem_cons.mpr ⟨s_iload (by decide +kernel) rfl, ?_⟩
  refine List.forall_mem_cons.mpr ⟨s_imul (by decide +kernel) rfl, ?_⟩
  refine List.forall_mem_cons.mpr ⟨s_iload_n (j := 3) (by decide +kernel) rfl rfl, ?_⟩
  refine List.forall_mem_cons.mpr ⟨s_iadd (by decide +kernel) rfl, ?_⟩
  refine List.forall_mem_cons.mpr ⟨s_iret rfl (by decide +kernel), ?_⟩
  refine List.forall_mem_cons.mpr ⟨s_iinc (by decide +kernel) (by decide) rfl, ?_⟩
  refine List.forall_mem_cons.mpr ⟨s_goto (off := (-62)) (by decide +kernel) (by decide), ?_⟩
  refine List.forall_mem_cons.mpr ⟨s_iinc (by decide +kernel) (by decide) rfl, ?_⟩
  refine List.forall_mem_cons.mpr ⟨s_goto (off := (-78)) (by decide +kernel) (by decide), ?_⟩
  refine List.forall_mem_cons.mpr ⟨s_bipush (by decide +kernel) (by decide) rfl, ?_⟩
  refine List.forall_mem_cons.mpr ⟨s_iret rfl (by decide +kernel), ?_⟩
  exact fun q hq => absurd hq List.not_mem_nil
def T_X5_spread : List (Nat × zO) := [(0, o_aload 1 1), (1, o_lconst 2 0), (2, o_calls 2 k_J7_fill_d0a16 5), (5, o_aload 6 0), (6, o_getf 9 5 5), (9, o_const 10 (-1)), (10, o_calls 2 k_J7_fill_53178 13), (13, o_aload 14 1), (14, o_iload 15 2), (15, o_const 18 10000), (18, o_irem 19), (19, o_lconst 20 1), (20, o_const 21 4), (21, o_iload 22 2), (22, o_const 25 10000), (25, o_idiv 26), (26, o_imul 27), (27, o_lshl 28), (28, o_last 29), (29, o_iload 30 2), (30, o_const 33 10000), (33, o_irem 34), (34, o_istore 36 6), (36, o_iload 38 6), (38, o_iload 40 5), (40, o_icmp_gt 130 43), (43, o_aload 44 1), (44, o_iload 46 6), (46, o_lald 47), (47, o_lstore 49 7), (49, o_lload 51 7), (51, o_lload 52 3), (52, o_land 53), (53, o_lconst 54 0), (54, o_lcmp 55), (55, o_if_eq 61 58), (58, o_iload 60 6), (60, o_iret), (61, o_lload 63 7), (63, o_lconst 64 0), (64, o_lcmp 65), (65, o_if_eq 124 68), (68, o_iload 70 6), (70, o_const 73 1439), (73, o_icmp_ge 124 76), (76, o_aload 77 1), (77, o_iload 79 6), (79, o_const 80 1), (80, o_iadd 81), (81, o_dup2 82), (82, o_lald 83), (83, o_lload 85 7), (85, o_aload 86 0), (86, o_iload 88 6), (88, o_callv 1 5 k_X5_waiting 91), (91, o_land 92), (92, o_lor 93), (93, o_last 94), (94, o_const 95 0), (95, o_istore 97 9), (97, o_iload 99 9), (99, o_aload 100 0), (100, o_getf 103 5 0), (103, o_getf 106 2 10), (106, o_icmp_ge 124 109), (109, o_aload 110 0), (110, o_aload 111 1), (111, o_iload 113 6), (113, o_iload 115 9), (115, o_callv 3 5 k_X5_leave 118), (118, o_iinc 121 9 1), (121, o_goto 97), (124, o_iinc 127 6 1), (127, o_goto 36), (130, o_const 132 (-2)), (132, o_iret)]
set_option maxRecDepth 20000 in
theorem t_X5_spread : ∀ q ∈ T_X5_spread, zS k_X5_spread q.1 q.2 := by
  unfold T_X5_spread
  refine List.forall_mem_cons.mpr ⟨s_aload_n (j := 1) (by decide +kernel) rfl rfl, ?_⟩
  refine List.forall_mem_cons.mpr ⟨s_lconst (z := 0) (by decide +kernel) (by decide) rfl, ?_⟩
  refine List.forall_mem_cons.mpr ⟨s_calls (idx := 69) (k' := k_J7_fill_d0a16) q3_61 q3_59 q3_60 q1_13 de_J7_fill_d0a16 (by decide) (by decide +kernel) rfl, ?_⟩
  refine List.forall_mem_cons.mpr ⟨s_aload_n (j := 0) (by decide +kernel) rfl rfl, ?_⟩
  refine List.forall_mem_cons.mpr ⟨s_getf (idx := 22) (C := RX5) (T := TX5) (N := 7) rfl inX5 (by decide) q1_181 (by decide +kernel) rfl, ?_⟩
  refine List.forall_mem_cons.mpr ⟨s_iconst (by decide +kernel) rfl, ?_⟩
  refine List.forall_mem_cons.mpr ⟨s_calls (idx := 75) (k' := k_J7_fill_53178) q3_19 q3_62 q3_18 q1_13 de_J7_fill_53178 (by decide) (by decide +kernel) rfl, ?_⟩
  refine List.forall_mem_cons.mpr ⟨s_aload_n (j := 1) (by decide +kernel) rfl rfl, ?_⟩
  refine List.forall_mem_cons.mpr ⟨s_iload_n (j := 2) (by decide +kernel) rfl rfl, ?_⟩
  refine List.forall_mem_cons.mpr ⟨s_sipush (by decide +kernel) (by decide) rfl, ?_⟩
  refine List.forall_mem_cons.mpr ⟨s_irem (by decide +kernel) rfl, ?_⟩
  refine List.forall_mem_cons.mpr ⟨s_lconst (z := 1) (by decide +kernel) (by decide) rfl, ?_⟩
  refine List.forall_mem_cons.mpr ⟨s_iconst (by decide +kernel) rfl, ?_⟩
  refine List.forall_mem_cons.mpr ⟨s_iload_n (j := 2) (by decide +kernel) rfl rfl, ?_⟩
  refine List.forall_mem_cons.mpr ⟨s_sipush (by decide +kernel) (by decide) rfl, ?_⟩
  refine List.forall_mem_cons.mpr ⟨s_idiv (by decide +kernel) rfl, ?_⟩
  refine List.forall_mem_cons.mpr ⟨s_imul (by decide +kernel) rfl, ?_⟩
  refine List.forall_mem_cons.mpr ⟨s_lshl (by decide +kernel) rfl, ?_⟩
  refine List.forall_mem_cons.mpr ⟨s_last (by decide +kernel) rfl, ?_⟩
  refine List.forall_mem_cons.mpr ⟨s_iload_n (j := 2) (by decide +kernel) rfl rfl, ?_⟩
  refine List.forall_mem_cons.mpr ⟨s_sipush (by decide +kernel) (by decide) rfl, ?_⟩
  refine List.forall_mem_cons.mpr ⟨s_irem (by decide +kernel) rfl, ?_⟩
  refine List.forall_mem_cons.mpr ⟨s_istore (by decide +kernel) (by decide) rfl, ?_⟩
  refine List.forall_mem_cons.mpr ⟨s_iload (by decide +kernel) rfl, ?_⟩
  refine List.forall_mem_cons.mpr ⟨s_iload (by decide +kernel) rfl, ?_⟩
  refine List.forall_mem_cons.mpr ⟨s_icmp_gt (off := 90) (by decide +kernel) (by decide) rfl, ?_⟩
  refine List.forall_mem_cons.mpr ⟨s_aload_n (j := 1) (by decide +kernel) rfl rfl, ?_⟩
  refine List.forall_mem_cons.mpr ⟨s_iload (by decide +kernel) rfl, ?_⟩
  refine List.forall_mem_cons.mpr ⟨s_lald (by decide +kernel) rfl, ?_⟩
  refine List.forall_mem_cons.mpr ⟨s_lstore (by decide +kernel) (by decide) rfl, ?_⟩
  refine List.forall_mem_cons.mpr ⟨s_lload (by decide +kernel) rfl, ?_⟩
  refine List.forall_mem_cons.mpr ⟨s_lload_n (j := 3) (by decide +kernel) rfl rfl, ?_⟩
  refine List.forall_mem_cons.mpr ⟨s_land (by decide +kernel) rfl, ?_⟩
  refine List.forall_mem_cons.mpr ⟨s_lconst (z := 0) (by decide +kernel) (by decide) rfl, ?_⟩
  refine List.forall_mem_cons.mpr ⟨s_lcmp (by decide +kernel) rfl, ?_⟩
  refine List.forall_mem_cons.mpr ⟨s_if_eq (off := 6) (by decide +kernel) (by decide) rfl, ?_⟩
  refine List.forall_mem_cons.mpr ⟨s_iload (by decide +kernel) rfl, ?_⟩
  refine List.forall_mem_cons.mpr ⟨s_iret rfl (by decide +kernel), ?_⟩
  refine List.forall_mem_cons.mpr ⟨s_lload (by decide +kernel) rfl, ?_⟩
  refine List.forall_mem_cons.mpr ⟨s_lconst (z := 0) (by decide +kernel) (by decide) rfl, ?_⟩
  refine List.forall_mem_cons.mpr ⟨s_lcmp (by decide +kernel) rfl, ?_⟩
  refine List.forall_mem_cons.mpr ⟨s_if_eq (off := 59) (by decide +kernel) (by decide) rfl, ?_⟩
  refine List.forall_mem_cons.mpr ⟨s_iload (by decide +kernel) rfl, ?_⟩
  refine List.forall_mem_cons.mpr ⟨s_sipush (by decide +kernel) (by decide) rfl, ?_⟩
  refine List.forall_mem_cons.mpr ⟨s_icmp_ge (off := 51) (by decide +kernel) (by decide) rfl, ?_⟩
  refine List.forall_mem_cons.mpr ⟨s_aload_n (j := 1) (by decide +kernel) rfl rfl, ?_⟩
  refine List.forall_mem_cons.mpr ⟨s_iload (by decide +kernel) rfl, ?_⟩
  refine List.forall_mem_cons.mpr ⟨s_iconst (by decide +kernel) rfl, ?_⟩
  refine List.forall_mem_cons.mpr ⟨s_iadd (by decide +kernel) rfl, ?_⟩
  refine List.forall_mem_cons.mpr ⟨s_dup2 (by decide +kernel) rfl, ?_⟩
  refine List.forall_mem_cons.mpr ⟨s_lald (by decide +kernel) rfl, ?_⟩
  refine List.forall_mem_cons.mpr ⟨s_lload (by decide +kernel) rfl, ?_⟩
  refine List.forall_mem_cons.mpr ⟨s_aload_n (j := 0) (by decide +kernel) rfl rfl, ?_⟩
  refine List.forall_mem_cons.mpr ⟨s_iload (by decide +kernel) rfl, ?_⟩
  refine List.forall_mem_cons.mpr ⟨s_callv (idx := 78) (k' := k_X5_waiting) (T := TX5) (N := 7) rfl q3_66 q3_63 q3_65 qs_13 q1_5 de_X5_waiting (by decide) (by decide +kernel) rfl, ?_⟩
  refine List.forall_mem_cons.mpr ⟨s_land (by decide +kernel) rfl, ?_⟩
  refine List.forall_mem_cons.mpr ⟨s_lor (by decide +kernel) rfl, ?_⟩
  refine List.forall_mem_cons.mpr ⟨s_last (by decide +kernel) rfl, ?_⟩
  refine List.forall_mem_cons.mpr ⟨s_iconst (by decide +kernel) rfl, ?_⟩
  refine List.forall_mem_cons.mpr ⟨s_istore (by decide +kernel) (by decide) rfl, ?_⟩
  refine List.forall_mem_cons.mpr ⟨s_iload (by decide +kernel) rfl, ?_⟩
  refine List.forall_mem_cons.mpr ⟨s_aload_n (j := 0) (by decide +kernel) rfl rfl, ?_⟩
  refine List.forall_mem_cons.mpr ⟨s_getf (idx := 25) (C := RX5) (T := TX5) (N := 7) rfl inX5 (by decide) q1_176 (by decide +kernel) rfl, ?_⟩
  refine List.forall_mem_cons.mpr ⟨s_getf (idx := 45) (C := RX2) (T := TX2) (N := 20) rfl inX2 (by decide) q1_77 (by decide +kernel) rfl, ?_⟩
  refine List.forall_mem_cons.mpr ⟨s_icmp_ge (off := 18) (by decide +kernel) (by decide) rfl, ?_⟩
  refine List.forall_mem_cons.mpr ⟨s_aload_n (j := 0) (by decide +kernel) rfl rfl, ?_⟩
  refine List.forall_mem_cons.mpr ⟨s_aload_n (j := 1) (by decide +kernel) rfl rfl, ?_⟩
  refine List.forall_mem_cons.mpr ⟨s_iload (by decide +kernel) rfl, ?_⟩
  refine List.forall_mem_cons.mpr ⟨s_iload (by decide +kernel) rfl, ?_⟩
  refine List.forall_mem_cons.mpr ⟨s_callv (idx := 82) (k' := k_X5_leave) (T := TX5) (N := 7) rfl q3_71 q3_68 q3_70 qs_14 q1_5 de_X5_leave (by decide) (by decide +kernel) rfl, ?_⟩
  refine List.forall_mem_cons.mpr ⟨s_iinc (by decide +kernel) (by decide) rfl, ?_⟩
  refine List.forall_mem_cons.mpr ⟨s_goto (off := (-24)) (by decide +kernel) (by decide), ?_⟩
  refine List.forall_mem_cons.mpr ⟨s_iinc (by decide +kernel) (by decide) rfl, ?_⟩
  refine List.forall_mem_cons.mpr ⟨s_goto (off := (-91)) (by decide +kernel) (by decide), ?_⟩
  refine List.forall_mem_cons.mpr ⟨s_bipush (by decide +kernel) (by decide) rfl, ?_⟩
  refine List.forall_mem_cons.mpr ⟨s_iret rfl (by decide +kernel), ?_⟩
  exact fun q hq => absurd hq List.not_mem_nil
def T_X5_waiting : List (Nat × zO) := [(0, o_aload 1 0), (1, o_getf 4 5 1), (4, o_getf 7 4 2), (7, o_iload 8 1), (8, o_iald 9), (9, o_aload 10 0), (10, o_getf 13 5 1), (13, o_getf 16 4 2), (16, o_iload 17 1), (17, o_const 18 1), (18, o_iadd 19), (19, o_iald 20), (20, o_mmax 23), (23, o_istore 24 2), (24, o_lconst 25 0), (25, o_lstore 26 3), (26, o_const 27 0), (27, o_istore 29 5), (29, o_iload 31 5), (31, o_aload 32 0), (32, o_getf 35 5 0), (35, o_getf 38 2 8), (38, o_icmp_ge 72 41), (41, o_iload 42 2), (42, o_aload 43 0), (43, o_getf 46 5 0), (46, o_getf 49 2 9), (49, o_iload 51 5), (51, o_iald 52), (52, o_icmp_gt 66 55), (55, o_lload 56 3), (56, o_lconst 59 (15)), (59, o_const 60 4), (60, o_iload 62 5), (62, o_imul 63), (63, o_lshl 64), (64, o_lor 65), (65, o_lstore 66 3), (66, o_iinc 69 5 1), (69, o_goto 29), (72, o_lload 73 3), (73, o_aload 74 0), (74, o_getf 77 5 6), (77, o_land 78), (78, o_lret)]
set_option maxRecDepth 20000 in
theorem t_X5_waiting : ∀ q ∈ T_X5_waiting, zS k_X5_waiting q.1 q.2 := by
  unfold T_X5_waiting
  refine List.forall_mem_cons.mpr ⟨s_aload_n (j := 0) (by decide +kernel) rfl rfl, ?_⟩
  refine List.forall_mem_cons.mpr ⟨s_getf (idx := 29) (C := RX5) (T := TX5) (N := 7) rfl inX5 (by decide) q1_177 (by decide +kernel) rfl, ?_⟩
  refine List.forall_mem_cons.mpr ⟨s_getf (idx := 86) (C := RX4) (T := TX4) (N := 5) rfl inX4 (by decide) q1_156 (by decide +kernel) rfl, ?_⟩
  refine List.forall_mem_cons.mpr ⟨s_iload_n (j := 1) (by decide +kernel) rfl rfl, ?_⟩
  refine List.forall_mem_cons.mpr ⟨s_iald (by decide +kernel) rfl, ?_⟩
  refine List.forall_mem_cons.mpr ⟨s_aload_n (j := 0) (by decide +kernel) rfl rfl, ?_⟩
  refine List.forall_mem_cons.mpr ⟨s_getf (idx := 29) (C := RX5) (T := TX5) (N := 7) rfl inX5 (by decide) q1_177 (by decide +kernel) rfl, ?_⟩
  refine List.forall_mem_cons.mpr ⟨s_getf (idx := 86) (C := RX4) (T := TX4) (N := 5) rfl inX4 (by decide) q1_156 (by decide +kernel) rfl, ?_⟩
  refine List.forall_mem_cons.mpr ⟨s_iload_n (j := 1) (by decide +kernel) rfl rfl, ?_⟩
  refine List.forall_mem_cons.mpr ⟨s_iconst (by decide +kernel) rfl, ?_⟩
  refine List.forall_mem_cons.mpr ⟨s_iadd (by decide +kernel) rfl, ?_⟩
  refine List.forall_mem_cons.mpr ⟨s_iald (by decide +kernel) rfl, ?_⟩
  refine List.forall_mem_cons.mpr ⟨s_mmax (idx := 60) q3_67 q2_166b q1_12b qmaxC (by decide +kernel) rfl, ?_⟩
  refine List.forall_mem_cons.mpr ⟨s_istore_n (j := 2) (by decide +kernel) rfl (by decide) rfl, ?_⟩
  refine List.forall_mem_cons.mpr ⟨s_lconst (z := 0) (by decide +kernel) (by decide) rfl, ?_⟩
  refine List.forall_mem_cons.mpr ⟨s_lstore_n (j := 3) (by decide +kernel) rfl (by decide) rfl, ?_⟩
  refine List.forall_mem_cons.mpr ⟨s_iconst (by decide +kernel) rfl, ?_⟩
  refine List.forall_mem_cons.mpr ⟨s_istore (by decide +kernel) (by decide) rfl, ?_⟩
  refine List.forall_mem_cons.mpr ⟨s_iload (by decide +kernel) rfl, ?_⟩
  refine List.forall_mem_cons.mpr ⟨s_aload_n (j := 0) (by decide +kernel) rfl rfl, ?_⟩
  refine List.forall_mem_cons.mpr ⟨s_getf (idx := 25) (C := RX5) (T := TX5) (N := 7) rfl inX5 (by decide) q1_176 (by decide +kernel) rfl, ?_⟩
  refine List.forall_mem_cons.mpr ⟨s_getf (idx := 66) (C := RX2) (T := TX2) (N := 20) rfl inX2 (by decide) q1_72 (by decide +kernel) rfl, ?_⟩
  refine List.forall_mem_cons.mpr ⟨s_icmp_ge (off := 34) (by decide +kernel) (by decide) rfl, ?_⟩
  refine List.forall_mem_cons.mpr ⟨s_iload_n (j := 2) (by decide +kernel) rfl rfl, ?_⟩
  refine List.forall_mem_cons.mpr ⟨s_aload_n (j := 0) (by decide +kernel) rfl rfl, ?_⟩
  refine List.forall_mem_cons.mpr ⟨s_getf (idx := 25) (C := RX5) (T := TX5) (N := 7) rfl inX5 (by decide) q1_176 (by decide +kernel) rfl, ?_⟩
  refine List.forall_mem_cons.mpr ⟨s_getf (idx := 89) (C := RX2) (T := TX2) (N := 20) rfl inX2 (by decide) q1_76 (by decide +kernel) rfl, ?_⟩
  refine List.forall_mem_cons.mpr ⟨s_iload (by decide +kernel) rfl, ?_⟩
  refine List.forall_mem_cons.mpr ⟨s_iald (by decide +kernel) rfl, ?_⟩
  refine List.forall_mem_cons.mpr ⟨s_icmp_gt (off := 14) (by decide +kernel) (by decide) rfl, ?_⟩
  refine List.forall_mem_cons.mpr ⟨s_lload_n (j := 3) (by decide +kernel) rfl rfl, ?_⟩
  refine List.forall_mem_cons.mpr ⟨s_ldc2 (idx := 54) (y := (15)) (by decide +kernel) q3_54 rfl, ?_⟩
  refine List.forall_mem_cons.mpr ⟨s_iconst (by decide +kernel) rfl, ?_⟩
  refine List.forall_mem_cons.mpr ⟨s_iload (by decide +kernel) rfl, ?_⟩
  refine List.forall_mem_cons.mpr ⟨s_imul (by decide +kernel) rfl, ?_⟩
  refine List.forall_mem_cons.mpr ⟨s_lshl (by decide +kernel) rfl, ?_⟩
  refine List.forall_mem_cons.mpr ⟨s_lor (by decide +kernel) rfl, ?_⟩
  refine List.forall_mem_cons.mpr ⟨s_lstore_n (j := 3) (by decide +kernel) rfl (by decide) rfl, ?_⟩
  refine List.forall_mem_cons.mpr ⟨s_iinc (by decide +kernel) (by decide) rfl, ?_⟩
  refine List.forall_mem_cons.mpr ⟨s_goto (off := (-40)) (by decide +kernel) (by decide), ?_⟩
  refine List.forall_mem_cons.mpr ⟨s_lload_n (j := 3) (by decide +kernel) rfl rfl, ?_⟩
  refine List.forall_mem_cons.mpr ⟨s_aload_n (j := 0) (by decide +kernel) rfl rfl, ?_⟩
  refine List.forall_mem_cons.mpr ⟨s_getf (idx := 41) (C := RX5) (T := TX5) (N := 7) rfl inX5 (by decide) q1_182 (by decide +kernel) rfl, ?_⟩
  refine List.forall_mem_cons.mpr ⟨s_land (by decide +kernel) rfl, ?_⟩
  refine List.forall_mem_cons.mpr ⟨s_lret rfl (by decide +kernel), ?_⟩
  exact fun q hq => absurd hq List.not_mem_nil
def T_X5_leave : List (Nat × zO) := [(0, o_const 1 4), (1, o_aload 2 0), (2, o_getf 5 5 0), (5, o_getf 8 2 11), (8, o_iload 9 3), (9, o_iald 10), (10, o_imul 11), (11, o_istore 13 4), (13, o_const 14 4), (14, o_aload 15 0), (15, o_getf 18 5 0), (18, o_getf 21 2 12), (21, o_iload 22 3), (22, o_iald 23), (23, o_imul 24), (24, o_istore 26 5), (26, o_aload 27 1), (27, o_iload 28 2), (28, o_lald 29), (29, o_iload 31 4), (31, o_lushr 32), (32, o_l2i 33), (33, o_const 35 15), (35, o_iand 36), (36, o_istore 38 6), (38, o_aload 39 1), (39, o_iload 40 2), (40, o_lald 41), (41, o_iload 43 5), (43, o_lushr 44), (44, o_l2i 45), (45, o_const 47 15), (47, o_iand 48), (48, o_istore 50 7), (50, o_iload 52 6), (52, o_iload 54 7), (54, o_ior 55), (55, o_if_eq 84 58), (58, o_iload 59 2), (59, o_aload 60 0), (60, o_getf 63 5 0), (63, o_getf 66 2 15), (66, o_iload 67 3), (67, o_iald 68), (68, o_icmp_lt 84 71), (71, o_iload 72 2), (72, o_aload 73 0), (73, o_getf 76 5 0), (76, o_getf 79 2 16), (79, o_iload 80 3), (80, o_iald 81), (81, o_icmp_le 85 84), (84, o_vret), (85, o_aload 86 0), (86, o_getf 89 5 5), (89, o_iload 90 3), (90, o_iald 91), (91, o_iload 92 2), (92, o_icmp_ge 118 95), (95, o_aload 96 0), (96, o_getf 99 5 5), (99, o_iload 100 3), (100, o_aload 101 0), (101, o_getf 104 5 1), (104, o_aload 105 0), (105, o_getf 108 5 0), (108, o_getf 111 2 14), (111, o_iload 112 3), (112, o_iald 113), (113, o_iload 114 2), (114, o_callv 2 4 k_X4_firstAbove 117), (117, o_iast 118), (118, o_const 119 0), (119, o_istore 121 8), (121, o_iload 123 8), (123, o_const 124 3), (124, o_icmp_gt 212 127), (127, o_iload 128 2), (128, o_aload 129 0), (129, o_getf 132 5 4), (132, o_const 133 4), (133, o_iload 134 3), (134, o_imul 135), (135, o_iload 137 8), (137, o_iadd 138), (138, o_iald 139), (139, o_iadd 140), (140, o_istore 142 9), (142, o_iload 144 9), (144, o_aload 145 0), (145, o_getf 148 5 5), (148, o_iload 149 3), (149, o_iald 150), (150, o_icmp_lt 154 153), (153, o_vret), (154, o_iload 156 8), (156, o_const 157 1), (157, o_iadd 158), (158, o_const 159 3), (159, o_mmin 162), (162, o_istore 164 10), (164, o_aload 165 1), (165, o_iload 167 9), (167, o_dup2 168), (168, o_lald 169), (169, o_iload 171 6), (171, o_iload 173 8), (173, o_iushr 174), (174, o_const 175 1), (175, o_iand 176), (176, o_i2l 177), (177, o_iload 179 5), (179, o_iload 181 10), (181, o_iadd 182), (182, o_lshl 183), (183, o_lor 184), (184, o_last 185), (185, o_aload 186 1), (186, o_iload 188 9), (188, o_dup2 189), (189, o_lald 190), (190, o_iload 192 7), (192, o_iload 194 8), (194, o_iushr 195), (195, o_const 196 1), (196, o_iand 197), (197, o_i2l 198), (198, o_iload 200 4), (200, o_iload 202 10), (202, o_iadd 203), (203, o_lshl 204), (204, o_lor 205), (205, o_last 206), (206, o_iinc 209 8 1), (209, o_goto 121), (212, o_vret)]
set_option maxRecDepth 20000 in
theorem t_X5_leave : ∀ q ∈ T_X5_leave, zS k_X5_leave q.1 q.2 := by
  unfold T_X5_leave
  refine List.forall_mem_cons.mpr ⟨s_iconst (by decide +kernel) rfl, ?_⟩
  refine List.forall_mem_cons.mpr ⟨s_aload_n (j := 0) (by decide +kernel) rfl rfl, ?_⟩
  refine List.forall_mem_cons.mpr ⟨s_getf (idx := 25) (C := RX5) (T := TX5) (N := 7) rfl inX5 (by decide) q1_176 (by decide +kernel) rfl, ?_⟩
  refine List.forall_mem_cons.mpr ⟨s_getf (idx := 92) (C := RX2) (T := TX2) (N := 20) rfl inX2 (by decide) q1_83 (by decide +kernel) rfl, ?_⟩
  refine List.forall_mem_cons.mpr ⟨s_iload_n (j := 3) (by decide +kernel) rfl rfl, ?_⟩
  refine List.forall_mem_cons.mpr ⟨s_iald (by decide +kernel) rfl, ?_⟩
  refine List.forall_mem_cons.mpr ⟨s_imul (by decide +kernel) rfl, ?_⟩
  refine List.forall_mem_cons.mpr ⟨s_istore (by decide +kernel) (by decide) rfl, ?_⟩
  refine List.forall_mem_cons.mpr ⟨s_iconst (by decide +kernel) rfl, ?_⟩
  refine List.forall_mem_cons.mpr ⟨s_aload_n (j := 0) (by decide +kernel) rfl rfl, ?_⟩
  refine List.forall_mem_cons.mpr ⟨s_getf (idx := 25) (C := RX5) (T := TX5) (N := 7) rfl inX5 (by decide) q1_176 (by decide +kernel) rfl, ?_⟩
  refine List.forall_mem_cons.mpr ⟨s_getf (idx := 95) (C := RX2) (T := TX2) (N := 20) rfl inX2 (by decide) q1_86 (by decide +kernel) rfl, ?_⟩
  refine List.forall_mem_cons.mpr ⟨s_iload_n (j := 3) (by decide +kernel) rfl rfl, ?_⟩
  refine List.forall_mem_cons.mpr ⟨s_iald (by decide +kernel) rfl, ?_⟩
  refine List.forall_mem_cons.mpr ⟨s_imul (by decide +kernel) rfl, ?_⟩
  refine List.forall_mem_cons.mpr ⟨s_istore (by decide +kernel) (by decide) rfl, ?_⟩
  refine List.forall_mem_cons.mpr ⟨s_aload_n (j := 1) (by decide +kernel) rfl rfl, ?_⟩
  refine List.forall_mem_cons.mpr ⟨s_iload_n (j := 2) (by decide +kernel) rfl rfl, ?_⟩
  refine List.forall_mem_cons.mpr ⟨s_lald (by decide +kernel) rfl, ?_⟩
  refine List.forall_mem_cons.mpr ⟨s_iload (by decide +kernel) rfl, ?_⟩
  refine List.forall_mem_cons.mpr ⟨s_lushr (by decide +kernel) rfl, ?_⟩
  refine List.forall_mem_cons.mpr ⟨s_l2i (by decide +kernel) rfl, ?_⟩
  refine List.forall_mem_cons.mpr ⟨s_bipush (by decide +kernel) (by decide) rfl, ?_⟩
  refine List.forall_mem_cons.mpr ⟨s_iand (by decide +kernel) rfl, ?_⟩
  refine List.forall_mem_cons.mpr ⟨s_istore (by decide +kernel) (by decide) rfl, ?_⟩
  refine List.forall_mem_cons.mpr ⟨s_aload_n (j := 1) (by decide +kernel) rfl rfl, ?_⟩
  refine List.forall_mem_cons.mpr ⟨s_iload_n (j := 2) (by decide +kernel) rfl rfl, ?_⟩
  refine List.forall_mem_cons.mpr ⟨s_lald (by decide +kernel) rfl, ?_⟩
  refine List.forall_mem_cons.mpr ⟨s_iload (by decide +kernel) rfl, ?_⟩
  refine List.forall_mem_cons.mpr ⟨s_lushr (by decide +kernel) rfl, ?_⟩
  refine List.forall_mem_cons.mpr ⟨s_l2i (by decide +kernel) rfl, ?_⟩
  refine List.forall_mem_cons.mpr ⟨s_bipush (by decide +kernel) (by decide) rfl, ?_⟩
  refine List.forall_mem_cons.mpr ⟨s_iand (by decide +kernel) rfl, ?_⟩
  refine List.forall_mem_cons.mpr ⟨s_istore (by decide +kernel) (by decide) rfl, ?_⟩
  refine List.forall_mem_cons.mpr ⟨s_iload (by decide +kernel) rfl, ?_⟩
  refine List.forall_mem_cons.mpr ⟨s_iload (by decide +kernel) rfl, ?_⟩
  refine List.forall_mem_cons.mpr ⟨s_ior (by decide +kernel) rfl, ?_⟩
  refine List.forall_mem_cons.mpr ⟨s_if_eq (off := 29) (by decide +kernel) (by decide) rfl, ?_⟩
  refine List.forall_mem_cons.mpr ⟨s_iload_n (j := 2) (by decide +kernel) rfl rfl, ?_⟩
  refine List.forall_mem_cons.mpr ⟨s_aload_n (j := 0) (by decide +kernel) rfl rfl, ?_⟩
  refine List.forall_mem_cons.mpr ⟨s_getf (idx := 25) (C := RX5) (T := TX5) (N := 7) rfl inX5 (by decide) q1_176 (by decide +kernel) rfl, ?_⟩
  refine List.forall_mem_cons.mpr ⟨s_getf (idx := 98) (C := RX2) (T := TX2) (N := 20) rfl inX2 (by decide) q1_94 (by decide +kernel) rfl, ?_⟩
  refine List.forall_mem_cons.mpr ⟨s_iload_n (j := 3) (by decide +kernel) rfl rfl, ?_⟩
  refine List.forall_mem_cons.mpr ⟨s_iald (by decide +kernel) rfl, ?_⟩
  refine List.forall_mem_cons.mpr ⟨s_icmp_lt (off := 16) (by decide +kernel) (by decide) rfl, ?_⟩
  refine List.forall_mem_cons.mpr ⟨s_iload_n (j := 2) (by decide +kernel) rfl rfl, ?_⟩
  refine List.forall_mem_cons.mpr ⟨s_aload_n (j := 0) (by decide +kernel) rfl rfl, ?_⟩
  refine List.forall_mem_cons.mpr ⟨s_getf (idx := 25) (C := RX5) (T := TX5) (N := 7) rfl inX5 (by decide) q1_176 (by decide +kernel) rfl, ?_⟩
  refine List.forall_mem_cons.mpr ⟨s_getf (idx := 101) (C := RX2) (T := TX2) (N := 20) rfl inX2 (by decide) q1_99 (by decide +kernel) rfl, ?_⟩
  refine List.forall_mem_cons.mpr ⟨s_iload_n (j := 3) (by decide +kernel) rfl rfl, ?_⟩
  refine List.forall_mem_cons.mpr ⟨s_iald (by decide +kernel) rfl, ?_⟩
  refine List.forall_mem_cons.mpr ⟨s_icmp_le (off := 4) (by decide +kernel) (by decide) rfl, ?_⟩
  refine List.forall_mem_cons.mpr ⟨s_vret rfl (by decide +kernel), ?_⟩
  refine List.forall_mem_cons.mpr ⟨s_aload_n (j := 0) (by decide +kernel) rfl rfl, ?_⟩
  refine List.forall_mem_cons.mpr ⟨s_getf (idx := 22) (C := RX5) (T := TX5) (N := 7) rfl inX5 (by decide) q1_181 (by decide +kernel) rfl, ?_⟩
  refine List.forall_mem_cons.mpr ⟨s_iload_n (j := 3) (by decide +kernel) rfl rfl, ?_⟩
  refine List.forall_mem_cons.mpr ⟨s_iald (by decide +kernel) rfl, ?_⟩
  refine List.forall_mem_cons.mpr ⟨s_iload_n (j := 2) (by decide +kernel) rfl rfl, ?_⟩
  refine List.forall_mem_cons.mpr ⟨s_icmp_ge (off := 26) (by decide +kernel) (by decide) rfl, ?_⟩
  refine List.forall_mem_cons.mpr ⟨s_aload_n (j := 0) (by decide +kernel) rfl rfl, ?_⟩
  refine List.forall_mem_cons.mpr ⟨s_getf (idx := 22) (C := RX5) (T := TX5) (N := 7) rfl inX5 (by decide) q1_181 (by decide +kernel) rfl, ?_⟩
  refine List.forall_mem_cons.mpr ⟨s_iload_n (j := 3) (by decide +kernel) rfl rfl, ?_⟩
  refine List.forall_mem_cons.mpr ⟨s_aload_n (j := 0) (by decide +kernel) rfl rfl, ?_⟩
  refine List.forall_mem_cons.mpr ⟨s_getf (idx := 29) (C := RX5) (T := TX5) (N := 7) rfl inX5 (by decide) q1_177 (by decide +kernel) rfl, ?_⟩
  refine List.forall_mem_cons.mpr ⟨s_aload_n (j := 0) (by decide +kernel) rfl rfl, ?_⟩
  refine List.forall_mem_cons.mpr ⟨s_getf (idx := 25) (C := RX5) (T := TX5) (N := 7) rfl inX5 (by decide) q1_176 (by decide +kernel) rfl, ?_⟩
  refine List.forall_mem_cons.mpr ⟨s_getf (idx := 104) (C := RX2) (T := TX2) (N := 20) rfl inX2 (by decide) q1_90 (by decide +kernel) rfl, ?_⟩
  refine List.forall_mem_cons.mpr ⟨s_iload_n (j := 3) (by decide +kernel) rfl rfl, ?_⟩
  refine List.forall_mem_cons.mpr ⟨s_iald (by decide +kernel) rfl, ?_⟩
  refine List.forall_mem_cons.mpr ⟨s_iload_n (j := 2) (by decide +kernel) rfl rfl, ?_⟩
  refine List.forall_mem_cons.mpr ⟨s_callv (idx := 107) (k' := k_X4_firstAbove) (T := TX4) (N := 5) rfl q3_33 q3_72 q3_31 q3_32 q1_4 de_X4_firstAbove (by decide) (by decide +kernel) rfl, ?_⟩
  refine List.forall_mem_cons.mpr ⟨s_iast (by decide +kernel) rfl, ?_⟩
  refine List.forall_mem_cons.mpr ⟨s_iconst (by decide +kernel) rfl, ?_⟩
  refine List.forall_mem_cons.mpr ⟨s_istore (by decide +kernel) (by decide) rfl, ?_⟩
  refine List.forall_mem_cons.mpr ⟨s_iload (by decide +kernel) rfl, ?_⟩
  refine List.forall_mem_cons.mpr ⟨s_iconst (by decide +kernel) rfl, ?_⟩
  refine List.forall_mem_cons.mpr ⟨s_icmp_gt (off := 88) (by decide +kernel) (by decide) rfl, ?_⟩
  refine List.forall_mem_cons.mpr ⟨s_iload_n (j := 2) (by decide +kernel) rfl rfl, ?_⟩
  refine List.forall_mem_cons.mpr ⟨s_aload_n (j := 0) (by decide +kernel) rfl rfl, ?_⟩
  refine List.forall_mem_cons.mpr ⟨s_getf (idx := 18) (C := RX5) (T := TX5) (N := 7) rfl inX5 (by decide) q1_180 (by decide +kernel) rfl, ?_⟩
  refine List.forall_mem_cons.mpr ⟨s_iconst (by decide +kernel) rfl, ?_⟩
  refine List.forall_mem_cons.mpr ⟨s_iload_n (j := 3) (by decide +kernel) rfl rfl, ?_⟩
  refine List.forall_mem_cons.mpr ⟨s_imul (by decide +kernel) rfl, ?_⟩
  refine List.forall_mem_cons.mpr ⟨s_iload (by decide +kernel) rfl, ?_⟩
  refine List.forall_mem_cons.mpr ⟨s_iadd (by decide +kernel) rfl, ?_⟩
  refine List.forall_mem_cons.mpr ⟨s_iald (by decide +kernel) rfl, ?_⟩
  refine List.forall_mem_cons.mpr ⟨s_iadd (by decide +kernel) rfl, ?_⟩
  refine List.forall_mem_cons.mpr ⟨s_istore (by decide +kernel) (by decide) rfl, ?_⟩
  refine List.forall_mem_cons.mpr ⟨s_iload (by decide +kernel) rfl, ?_⟩
  refine List.forall_mem_cons.mpr ⟨s_aload_n (j := 0) (by decide +kernel) rfl rfl, ?_⟩
  refine List.forall_mem_cons.mpr ⟨s_getf (idx := 22) (C := RX5) (T := TX5) (N := 7) rfl inX5 (by decide) q1_181 (by decide +kernel) rfl, ?_⟩
  refine List.forall_mem_cons.mpr ⟨s_iload_n (j := 3) (by decide +kernel) rfl rfl, ?_⟩
  refine List.forall_mem_cons.mpr ⟨s_iald (by decide +kernel) rfl, ?_⟩
  refine List.forall_mem_cons.mpr ⟨s_icmp_lt (off := 4) (by decide +kernel) (by decide) rfl, ?_⟩
  refine List.forall_mem_cons.mpr ⟨s_vret rfl (by decide +kernel), ?_⟩
  refine List.forall_mem_cons.mpr ⟨s_iload (by decide +kernel) rfl, ?_⟩
  refine List.forall_mem_cons.mpr ⟨s_iconst (by decide +kernel) rfl, ?_⟩
  refine List.forall_mem_cons.mpr ⟨s_iadd (by decide +kernel) rfl, ?_⟩
  refine List.forall_mem_cons.mpr ⟨s_iconst (by decide +kernel) rfl, ?_⟩
  refine List.forall_mem_cons.mpr ⟨s_mmin (idx := 110) q3_73 q2_163b q1_12b qminC (by decide +kernel) rfl, ?_⟩
  refine List.forall_mem_cons.mpr ⟨s_istore (by decide +kernel) (by decide) rfl, ?_⟩
  refine List.forall_mem_cons.mpr ⟨s_aload_n (j := 1) (by decide +kernel) rfl rfl, ?_⟩
  refine List.forall_mem_cons.mpr ⟨s_iload (by decide +kernel) rfl, ?_⟩
  refine List.forall_mem_cons.mpr ⟨s_dup2 (by decide +kernel) rfl, ?_⟩
  refine List.forall_mem_cons.mpr ⟨s_lald (by decide +kernel) rfl, ?_⟩
  refine List.forall_mem_cons.mpr ⟨s_iload (by decide +kernel) rfl, ?_⟩
  refine List.forall_mem_cons.mpr ⟨s_iload (by decide +kernel) rfl, ?_⟩
  refine List.forall_mem_cons.mpr ⟨s_iushr (by decide +kernel) rfl, ?_⟩
  refine List.forall_mem_cons.mpr ⟨s_iconst (by decide +kernel) rfl, ?_⟩
  refine List.forall_mem_cons.mpr ⟨s_iand (by decide +kernel) rfl, ?_⟩
  refine List.forall_mem_cons.mpr ⟨s_i2l (by decide +kernel) rfl, ?_⟩
  refine List.forall_mem_cons.mpr ⟨s_iload (by decide +kernel) rfl, ?_⟩
  refine List.forall_mem_cons.mpr ⟨s_iload (by decide +kernel) rfl, ?_⟩
  refine List.forall_mem_cons.mpr ⟨s_iadd (by decide +kernel) rfl, ?_⟩
  refine List.forall_mem_cons.mpr ⟨s_lshl (by decide +kernel) rfl, ?_⟩
  refine List.forall_mem_cons.mpr ⟨s_lor (by decide +kernel) rfl, ?_⟩
  refine List.forall_mem_cons.mpr ⟨s_last (by decide +kernel) rfl, ?_⟩
  refine List.forall_mem_cons.mpr ⟨s_aload_n (j := 1) (by decide +kernel) rfl rfl, ?_⟩
  refine List.forall_mem_cons.mpr ⟨s_iload (by decide +kernel) rfl, ?_⟩
  refine List.forall_mem_cons.mpr ⟨s_dup2 (by decide +kernel) rfl, ?_⟩
  refine List.forall_mem_cons.mpr ⟨s_lald (by decide +kernel) rfl, ?_⟩
  refine List.forall_mem_cons.mpr ⟨s_iload (by decide +kernel) rfl, ?_⟩
  refine List.forall_mem_cons.mpr ⟨s_iload (by decide +kernel) rfl, ?_⟩
  refine List.forall_mem_cons.mpr ⟨s_iushr (by decide +kernel) rfl, ?_⟩
  refine List.forall_mem_cons.mpr ⟨s_iconst (by decide +kernel) rfl, ?_⟩
  refine List.forall_mem_cons.mpr ⟨s_iand (by decide +kernel) rfl, ?_⟩
  refine List.forall_mem_cons.mpr ⟨s_i2l (by decide +kernel) rfl, ?_⟩
  refine List.forall_mem_cons.mpr ⟨s_iload (by decide +kernel) rfl, ?_⟩
  refine List.forall_mem_cons.mpr ⟨s_iload (by decide +kernel) rfl, ?_⟩
  refine List.forall_mem_cons.mpr ⟨s_iadd (by decide +kernel) rfl, ?_⟩
  refine List.forall_mem_cons.mpr ⟨s_lshl (by decide +kernel) rfl, ?_⟩
  refine List.forall_mem_cons.mpr ⟨s_lor (by decide +kernel) rfl, ?_⟩
  refine List.forall_mem_cons.mpr ⟨s_last (by decide +kernel) rfl, ?_⟩
  refine List.forall_mem_cons.mpr ⟨s_iinc (by decide +kernel) (by decide) rfl, ?_⟩
  refine List.forall_mem_cons.mpr ⟨s_goto (off := (-88)) (by decide +kernel) (by decide), ?_⟩
  refine List.forall_mem_cons.mpr ⟨s_vret rfl (by decide +kernel), ?_⟩
  exact fun q hq => absurd hq List.not_mem_nil
def T_X5_latest : List (Nat × zO) := [(0, o_aload 1 0), (1, o_getf 4 5 5), (4, o_aload 5 0), (5, o_getf 8 5 0), (8, o_getf 11 2 19), (11, o_const 12 1), (12, o_iadd 13), (13, o_calls 2 k_J7_fill_53178 16), (16, o_aload 17 0), (17, o_getf 20 5 0), (20, o_getf 23 2 19), (23, o_istore 24 3), (24, o_iload 25 3), (25, o_aload 26 0), (26, o_getf 29 5 0), (29, o_getf 32 2 18), (32, o_icmp_lt 136 35), (35, o_lconst 38 (15)), (38, o_const 39 4), (39, o_iload 40 2), (40, o_imul 41), (41, o_lshl 42), (42, o_lstore 44 4), (44, o_iload 45 3), (45, o_aload 46 0), (46, o_getf 49 5 0), (49, o_getf 52 2 19), (52, o_icmp_ge 74 55), (55, o_lload 57 4), (57, o_aload 58 0), (58, o_getf 61 5 2), (61, o_iload 62 3), (62, o_const 63 1), (63, o_iadd 64), (64, o_lald 65), (65, o_aload 66 0), (66, o_iload 67 3), (67, o_callv 1 5 k_X5_waiting 70), (70, o_land 71), (71, o_lor 72), (72, o_lstore 74 4), (74, o_const 75 0), (75, o_istore 77 6), (77, o_iload 79 6), (79, o_aload 80 0), (80, o_getf 83 5 0), (83, o_getf 86 2 10), (86, o_icmp_ge 107 89), (89, o_lload 91 4), (91, o_aload 92 0), (92, o_iload 93 3), (93, o_iload 95 6), (95, o_callv 2 5 k_X5_goodToLeave 98), (98, o_lor 99), (99, o_lstore 101 4), (101, o_iinc 104 6 1), (104, o_goto 77), (107, o_aload 108 0), (108, o_getf 111 5 2), (111, o_iload 112 3), (112, o_lload 114 4), (114, o_last 115), (115, o_lload 117 4), (117, o_lconst 118 1), (118, o_const 119 4), (119, o_iload 120 1), (120, o_imul 121), (121, o_lshl 122), (122, o_land 123), (123, o_lconst 124 0), (124, o_lcmp 125), (125, o_if_eq 130 128), (128, o_iload 129 3), (129, o_iret), (130, o_iinc 133 3 (-1)), (133, o_goto 24), (136, o_const 138 (-2)), (138, o_iret)]
set_option maxRecDepth 20000 in
theorem t_X5_latest : ∀ q ∈ T_X5_latest, zS k_X5_latest q.1 q.2 := by
  unfold T_X5_latest
  refine List.forall_mem_cons.mpr ⟨s_aload_n (j := 0) (by decide +kernel) rfl rfl, ?_⟩
  refine List.forall_mem_cons.mpr ⟨s_getf (idx := 22) (C := RX5) (T := TX5) (N := 7) rfl inX5 (by decide) q1_181 (by decide +kernel) rfl, ?_⟩
  refine List.forall_mem_cons.mpr ⟨s_aload_n (j := 0) (by decide +kernel) rfl rfl, ?_⟩
  refine List.forall_mem_cons.mpr ⟨s_getf (idx := 25) (C := RX5) (T := TX5) (N := 7) rfl inX5 (by decide) q1_176 (by decide +kernel) rfl, ?_⟩
  refine List.forall_mem_cons.mpr ⟨s_getf (idx := 113) (C := RX2) (T := TX2) (N := 20) rfl inX2 (by decide) q1_104 (by decide +kernel) rfl, ?_⟩
  refine List.forall_mem_cons.mpr ⟨s_iconst (by decide +kernel) rfl, ?_⟩
  refine List.forall_mem_cons.mpr ⟨s_iadd (by decide +kernel) rfl, ?_⟩
  refine List.forall_mem_cons.mpr ⟨s_calls (idx := 75) (k' := k_J7_fill_53178) q3_19 q3_62 q3_18 q1_13 de_J7_fill_53178 (by decide) (by decide +kernel) rfl, ?_⟩
  refine List.forall_mem_cons.mpr ⟨s_aload_n (j := 0) (by decide +kernel) rfl rfl, ?_⟩
  refine List.forall_mem_cons.mpr ⟨s_getf (idx := 25) (C := RX5) (T := TX5) (N := 7) rfl inX5 (by decide) q1_176 (by decide +kernel) rfl, ?_⟩
  refine List.forall_mem_cons.mpr ⟨s_getf (idx := 113) (C := RX2) (T := TX2) (N := 20) rfl inX2 (by decide) q1_104 (by decide +kernel) rfl, ?_⟩
  refine List.forall_mem_cons.mpr ⟨s_istore_n (j := 3) (by decide +kernel) rfl (by decide) rfl, ?_⟩
  refine List.forall_mem_cons.mpr ⟨s_iload_n (j := 3) (by decide +kernel) rfl rfl, ?_⟩
  refine List.forall_mem_cons.mpr ⟨s_aload_n (j := 0) (by decide +kernel) rfl rfl, ?_⟩
  refine List.forall_mem_cons.mpr ⟨s_getf (idx := 25) (C := RX5) (T := TX5) (N := 7) rfl inX5 (by decide) q1_176 (by decide +kernel) rfl, ?_⟩
  refine List.forall_mem_cons.mpr ⟨s_getf (idx := 116) (C := RX2) (T := TX2) (N := 20) rfl inX2 (by decide) q1_101 (by decide +kernel) rfl, ?_⟩
  refine List.forall_mem_cons.mpr ⟨s_icmp_lt (off := 104) (by decide +kernel) (by decide) rfl, ?_⟩
  refine List.forall_mem_cons.mpr ⟨s_ldc2 (idx := 54) (y := (15)) (by decide +kernel) q3_54 rfl, ?_⟩
  refine List.forall_mem_cons.mpr ⟨s_iconst (by decide +kernel) rfl, ?_⟩
  refine List.forall_mem_cons.mpr ⟨s_iload_n (j := 2) (by decide +kernel) rfl rfl, ?_⟩
  refine List.forall_mem_cons.mpr ⟨s_imul (by decide +kernel) rfl, ?_⟩
  refine List.forall_mem_cons.mpr ⟨s_lshl (by decide +kernel) rfl, ?_⟩
  refine List.forall_mem_cons.mpr ⟨s_lstore (by decide +kernel) (by decide) rfl, ?_⟩
  refine List.forall_mem_cons.mpr ⟨s_iload_n (j := 3) (by decide +kernel) rfl rfl, ?_⟩
  refine List.forall_mem_cons.mpr ⟨s_aload_n (j := 0) (by decide +kernel) rfl rfl, ?_⟩
  refine List.forall_mem_cons.mpr ⟨s_getf (idx := 25) (C := RX5) (T := TX5) (N := 7) rfl inX5 (by decide) q1_176 (by decide +kernel) rfl, ?_⟩
  refine List.forall_mem_cons.mpr ⟨s_getf (idx := 113) (C := RX2) (T := TX2) (N := 20) rfl inX2 (by decide) q1_104 (by decide +kernel) rfl, ?_⟩
  refine List.forall_mem_cons.mpr ⟨s_icmp_ge (off := 22) (by decide +kernel) (by decide) rfl, ?_⟩
  refine List.forall_mem_cons.mpr ⟨s_lload (by decide +kernel) rfl, ?_⟩
  refine List.forall_mem_cons.mpr ⟨s_aload_n (j := 0) (by decide +kernel) rfl rfl, ?_⟩
  refine List.forall_mem_cons.mpr ⟨s_getf (idx := 9) (C := RX5) (T := TX5) (N := 7) rfl inX5 (by decide) q1_178 (by decide +kernel) rfl, ?_⟩
  refine List.forall_mem_cons.mpr ⟨s_iload_n (j := 3) (by decide +kernel) rfl rfl, ?_⟩
  refine List.forall_mem_cons.mpr ⟨s_iconst (by decide +kernel) rfl, ?_⟩
  refine List.forall_mem_cons.mpr ⟨s_iadd (by decide +kernel) rfl, ?_⟩
  refine List.forall_mem_cons.mpr ⟨s_lald (by decide +kernel) rfl, ?_⟩
  refine List.forall_mem_cons.mpr ⟨s_aload_n (j := 0) (by decide +kernel) rfl rfl, ?_⟩
  refine List.forall_mem_cons.mpr ⟨s_iload_n (j := 3) (by decide +kernel) rfl rfl, ?_⟩
  refine List.forall_mem_cons.mpr ⟨s_callv (idx := 78) (k' := k_X5_waiting) (T := TX5) (N := 7) rfl q3_66 q3_63 q3_65 qs_13 q1_5 de_X5_waiting (by decide) (by decide +kernel) rfl, ?_⟩
  refine List.forall_mem_cons.mpr ⟨s_land (by decide +kernel) rfl, ?_⟩
  refine List.forall_mem_cons.mpr ⟨s_lor (by decide +kernel) rfl, ?_⟩
  refine List.forall_mem_cons.mpr ⟨s_lstore (by decide +kernel) (by decide) rfl, ?_⟩
  refine List.forall_mem_cons.mpr ⟨s_iconst (by decide +kernel) rfl, ?_⟩
  refine List.forall_mem_cons.mpr ⟨s_istore (by decide +kernel) (by decide) rfl, ?_⟩
  refine List.forall_mem_cons.mpr ⟨s_iload (by decide +kernel) rfl, ?_⟩
  refine List.forall_mem_cons.mpr ⟨s_aload_n (j := 0) (by decide +kernel) rfl rfl, ?_⟩
  refine List.forall_mem_cons.mpr ⟨s_getf (idx := 25) (C := RX5) (T := TX5) (N := 7) rfl inX5 (by decide) q1_176 (by decide +kernel) rfl, ?_⟩
  refine List.forall_mem_cons.mpr ⟨s_getf (idx := 45) (C := RX2) (T := TX2) (N := 20) rfl inX2 (by decide) q1_77 (by decide +kernel) rfl, ?_⟩
  refine List.forall_mem_cons.mpr ⟨s_icmp_ge (off := 21) (by decide +kernel) (by decide) rfl, ?_⟩
  refine List.forall_mem_cons.mpr ⟨s_lload (by decide +kernel) rfl, ?_⟩
  refine List.forall_mem_cons.mpr ⟨s_aload_n (j := 0) (by decide +kernel) rfl rfl, ?_⟩
  refine List.forall_mem_cons.mpr ⟨s_iload_n (j := 3) (by decide +kernel) rfl rfl, ?_⟩
  refine List.forall_mem_cons.mpr ⟨s_iload (by decide +kernel) rfl, ?_⟩
  refine List.forall_mem_cons.mpr ⟨s_callv (idx := 119) (k' := k_X5_goodToLeave) (T := TX5) (N := 7) rfl q3_85 q3_82 q3_84 qs_15 q1_5 de_X5_goodToLeave (by decide) (by decide +kernel) rfl, ?_⟩
  refine List.forall_mem_cons.mpr ⟨s_lor (by decide +kernel) rfl, ?_⟩
  refine List.forall_mem_cons.mpr ⟨s_lstore (by decide +kernel) (by decide) rfl, ?_⟩
  refine List.forall_mem_cons.mpr ⟨s_iinc (by decide +kernel) (by decide) rfl, ?_⟩
  refine List.forall_mem_cons.mpr ⟨s_goto (off := (-27)) (by decide +kernel) (by decide), ?_⟩
  refine List.forall_mem_cons.mpr ⟨s_aload_n (j := 0) (by decide +kernel) rfl rfl, ?_⟩
  refine List.forall_mem_cons.mpr ⟨s_getf (idx := 9) (C := RX5) (T := TX5) (N := 7) rfl inX5 (by decide) q1_178 (by decide +kernel) rfl, ?_⟩
  refine List.forall_mem_cons.mpr ⟨s_iload_n (j := 3) (by decide +kernel) rfl rfl, ?_⟩
  refine List.forall_mem_cons.mpr ⟨s_lload (by decide +kernel) rfl, ?_⟩
  refine List.forall_mem_cons.mpr ⟨s_last (by decide +kernel) rfl, ?_⟩
  refine List.forall_mem_cons.mpr ⟨s_lload (by decide +kernel) rfl, ?_⟩
  refine List.forall_mem_cons.mpr ⟨s_lconst (z := 1) (by decide +kernel) (by decide) rfl, ?_⟩
  refine List.forall_mem_cons.mpr ⟨s_iconst (by decide +kernel) rfl, ?_⟩
  refine List.forall_mem_cons.mpr ⟨s_iload_n (j := 1) (by decide +kernel) rfl rfl, ?_⟩
  refine List.forall_mem_cons.mpr ⟨s_imul (by decide +kernel) rfl, ?_⟩
  refine List.forall_mem_cons.mpr ⟨s_lshl (by decide +kernel) rfl, ?_⟩
  refine List.forall_mem_cons.mpr ⟨s_land (by decide +kernel) rfl, ?_⟩
  refine List.forall_mem_cons.mpr ⟨s_lconst (z := 0) (by decide +kernel) (by decide) rfl, ?_⟩
  refine List.forall_mem_cons.mpr ⟨s_lcmp (by decide +kernel) rfl, ?_⟩
  refine List.forall_mem_cons.mpr ⟨s_if_eq (off := 5) (by decide +kernel) (by decide) rfl, ?_⟩
  refine List.forall_mem_cons.mpr ⟨s_iload_n (j := 3) (by decide +kernel) rfl rfl, ?_⟩
  refine List.forall_mem_cons.mpr ⟨s_iret rfl (by decide +kernel), ?_⟩
  refine List.forall_mem_cons.mpr ⟨s_iinc (by decide +kernel) (by decide) rfl, ?_⟩
  refine List.forall_mem_cons.mpr ⟨s_goto (off := (-109)) (by decide +kernel) (by decide), ?_⟩
  refine List.forall_mem_cons.mpr ⟨s_bipush (by decide +kernel) (by decide) rfl, ?_⟩
  refine List.forall_mem_cons.mpr ⟨s_iret rfl (by decide +kernel), ?_⟩
  exact fun q hq => absurd hq List.not_mem_nil
def T_X5_goodToLeave : List (Nat × zO) := [(0, o_aload 1 0), (1, o_getf 4 5 1), (4, o_getf 7 4 2), (7, o_iload 8 1), (8, o_iald 9), (9, o_aload 10 0), (10, o_getf 13 5 0), (13, o_getf 16 2 14), (16, o_iload 17 2), (17, o_iald 18), (18, o_icmp_le 28 21), (21, o_aload 22 0), (22, o_getf 25 5 5), (25, o_iload 26 2), (26, o_iload 27 1), (27, o_iast 28), (28, o_iload 29 1), (29, o_aload 30 0), (30, o_getf 33 5 0), (33, o_getf 36 2 15), (36, o_iload 37 2), (37, o_iald 38), (38, o_icmp_lt 54 41), (41, o_iload 42 1), (42, o_aload 43 0), (43, o_getf 46 5 0), (46, o_getf 49 2 16), (49, o_iload 50 2), (50, o_iald 51), (51, o_icmp_le 56 54), (54, o_lconst 55 0), (55, o_lret), (56, o_const 57 4), (57, o_aload 58 0), (58, o_getf 61 5 0), (61, o_getf 64 2 11), (64, o_iload 65 2), (65, o_iald 66), (66, o_imul 67), (67, o_istore 68 3), (68, o_const 69 4), (69, o_aload 70 0), (70, o_getf 73 5 0), (73, o_getf 76 2 12), (76, o_iload 77 2), (77, o_iald 78), (78, o_imul 79), (79, o_istore 81 4), (81, o_lconst 82 0), (82, o_lstore 84 5), (84, o_const 85 0), (85, o_istore 87 7), (87, o_iload 89 7), (89, o_const 90 3), (90, o_icmp_gt 180 93), (93, o_iload 94 1), (94, o_aload 95 0), (95, o_getf 98 5 4), (98, o_const 99 4), (99, o_iload 100 2), (100, o_imul 101), (101, o_iload 103 7), (103, o_iadd 104), (104, o_iald 105), (105, o_iadd 106), (106, o_istore 108 8), (108, o_iload 110 8), (110, o_aload 111 0), (111, o_getf 114 5 5), (114, o_iload 115 2), (115, o_iald 116), (116, o_icmp_lt 122 119), (119, o_lload 121 5), (121, o_lret), (122, o_aload 123 0), (123, o_getf 126 5 2), (126, o_iload 128 8), (128, o_lald 129), (129, o_iload 131 7), (131, o_const 132 1), (132, o_iadd 133), (133, o_const 134 3), (134, o_mmin 137), (137, o_lushr 138), (138, o_lstore 140 9), (140, o_lload 142 5), (142, o_lload 144 9), (144, o_iload 146 4), (146, o_lushr 147), (147, o_lconst 148 1), (148, o_land 149), (149, o_iload 150 3), (150, o_iload 152 7), (152, o_iadd 153), (153, o_lshl 154), (154, o_lor 155), (155, o_lstore 157 5), (157, o_lload 159 5), (159, o_lload 161 9), (161, o_iload 162 3), (162, o_lushr 163), (163, o_lconst 164 1), (164, o_land 165), (165, o_iload 167 4), (167, o_iload 169 7), (169, o_iadd 170), (170, o_lshl 171), (171, o_lor 172), (172, o_lstore 174 5), (174, o_iinc 177 7 1), (177, o_goto 87), (180, o_lload 182 5), (182, o_lret)]
set_option maxRecDepth 20000 in
theorem t_X5_goodToLeave : ∀ q ∈ T_X5_goodToLeave, zS k_X5_goodToLeave q.1 q.2 := by
  unfold T_X5_goodToLeave
  refine List.forall_mem_cons.mpr ⟨s_aload_n (j := 0) (by decide +kernel) rfl rfl, ?_⟩
  refine List.forall_mem_cons.mpr ⟨s_getf (idx := 29) (C := RX5) (T := TX5) (N := 7) rfl inX5 (by decide) q1_177 (by decide +kernel) rfl, ?_⟩
  refine List.forall_mem_cons.mpr ⟨s_getf (idx := 86) (C := RX4) (T := TX4) (N := 5) rfl inX4 (by decide) q1_156 (by decide +kernel) rfl, ?_⟩
  refine List.forall_mem_cons.mpr ⟨s_iload_n (j := 1) (by decide +kernel) rfl rfl, ?_⟩
  refine List.forall_mem_cons.mpr ⟨s_iald (by decide +kernel) rfl, ?_⟩
  refine List.forall_mem_cons.mpr ⟨s_aload_n (j := 0) (by decide +kernel) rfl rfl, ?_⟩
  refine List.forall_mem_cons.mpr ⟨s_getf (idx := 25) (C := RX5) (T := TX5) (N := 7) rfl inX5 (by decide) q1_176 (by decide +kernel) rfl, ?_⟩
  refine List.forall_mem_cons.mpr ⟨s_getf (idx := 104) (C := RX2) (T := TX2) (N := 20) rfl inX2 (by decide) q1_90 (by decide +kernel) rfl, ?_⟩
  refine List.forall_mem_cons.mpr ⟨s_iload_n (j := 2) (by decide +kernel) rfl rfl, ?_⟩
  refine List.forall_mem_cons.mpr ⟨s_iald (by decide +kernel) rfl, ?_⟩
  refine List.forall_mem_cons.mpr ⟨s_icmp_le (off := 10) (by decide +kernel) (by decide) rfl, ?_⟩
  refine List.forall_mem_cons.mpr ⟨s_aload_n (j := 0) (by decide +kernel) rfl rfl, ?_⟩
  refine List.forall_mem_cons.mpr ⟨s_getf (idx := 22) (C := RX5) (T := TX5) (N := 7) rfl inX5 (by decide) q1_181 (by decide +kernel) rfl, ?_⟩
  refine List.forall_mem_cons.mpr ⟨s_iload_n (j := 2) (by decide +kernel) rfl rfl, ?_⟩
  refine List.forall_mem_cons.mpr ⟨s_iload_n (j := 1) (by decide +kernel) rfl rfl, ?_⟩
  refine List.forall_mem_cons.mpr ⟨s_iast (by decide +kernel) rfl, ?_⟩
  refine List.forall_mem_cons.mpr ⟨s_iload_n (j := 1) (by decide +kernel) rfl rfl, ?_⟩
  refine List.forall_mem_cons.mpr ⟨s_aload_n (j := 0) (by decide +kernel) rfl rfl, ?_⟩
  refine List.forall_mem_cons.mpr ⟨s_getf (idx := 25) (C := RX5) (T := TX5) (N := 7) rfl inX5 (by decide) q1_176 (by decide +kernel) rfl, ?_⟩
  refine List.forall_mem_cons.mpr ⟨s_getf (idx := 98) (C := RX2) (T := TX2) (N := 20) rfl inX2 (by decide) q1_94 (by decide +kernel) rfl, ?_⟩
  refine List.forall_mem_cons.mpr ⟨s_iload_n (j := 2) (by decide +kernel) rfl rfl, ?_⟩
  refine List.forall_mem_cons.mpr ⟨s_iald (by decide +kernel) rfl, ?_⟩
  refine List.forall_mem_cons.mpr ⟨s_icmp_lt (off := 16) (by decide +kernel) (by decide) rfl, ?_⟩
  refine List.forall_mem_cons.mpr ⟨s_iload_n (j := 1) (by decide +kernel) rfl rfl, ?_⟩
  refine List.forall_mem_cons.mpr ⟨s_aload_n (j := 0) (by decide +kernel) rfl rfl, ?_⟩
  refine List.forall_mem_cons.mpr ⟨s_getf (idx := 25) (C := RX5) (T := TX5) (N := 7) rfl inX5 (by decide) q1_176 (by decide +kernel) rfl, ?_⟩
  refine List.forall_mem_cons.mpr ⟨s_getf (idx := 101) (C := RX2) (T := TX2) (N := 20) rfl inX2 (by decide) q1_99 (by decide +kernel) rfl, ?_⟩
  refine List.forall_mem_cons.mpr ⟨s_iload_n (j := 2) (by decide +kernel) rfl rfl, ?_⟩
  refine List.forall_mem_cons.mpr ⟨s_iald (by decide +kernel) rfl, ?_⟩
  refine List.forall_mem_cons.mpr ⟨s_icmp_le (off := 5) (by decide +kernel) (by decide) rfl, ?_⟩
  refine List.forall_mem_cons.mpr ⟨s_lconst (z := 0) (by decide +kernel) (by decide) rfl, ?_⟩
  refine List.forall_mem_cons.mpr ⟨s_lret rfl (by decide +kernel), ?_⟩
  refine List.forall_mem_cons.mpr ⟨s_iconst (by decide +kernel) rfl, ?_⟩
  refine List.forall_mem_cons.mpr ⟨s_aload_n (j := 0) (by decide +kernel) rfl rfl, ?_⟩
  refine List.forall_mem_cons.mpr ⟨s_getf (idx := 25) (C := RX5) (T := TX5) (N := 7) rfl inX5 (by decide) q1_176 (by decide +kernel) rfl, ?_⟩
  refine List.forall_mem_cons.mpr ⟨s_getf (idx := 92) (C := RX2) (T := TX2) (N := 20) rfl inX2 (by decide) q1_83 (by decide +kernel) rfl, ?_⟩
  refine List.forall_mem_cons.mpr ⟨s_iload_n (j := 2) (by decide +kernel) rfl rfl, ?_⟩
  refine List.forall_mem_cons.mpr ⟨s_iald (by decide +kernel) rfl, ?_⟩
  refine List.forall_mem_cons.mpr ⟨s_imul (by decide +kernel) rfl, ?_⟩
  refine List.forall_mem_cons.mpr ⟨s_istore_n (j := 3) (by decide +kernel) rfl (by decide) rfl, ?_⟩
  refine List.forall_mem_cons.mpr ⟨s_iconst (by decide +kernel) rfl, ?_⟩
  refine List.forall_mem_cons.mpr ⟨s_aload_n (j := 0) (by decide +kernel) rfl rfl, ?_⟩
  refine List.forall_mem_cons.mpr ⟨s_getf (idx := 25) (C := RX5) (T := TX5) (N := 7) rfl inX5 (by decide) q1_176 (by decide +kernel) rfl, ?_⟩
  refine List.forall_mem_cons.mpr ⟨s_getf (idx := 95) (C := RX2) (T := TX2) (N := 20) rfl inX2 (by decide) q1_86 (by decide +kernel) rfl, ?_⟩
  refine List.forall_mem_cons.mpr ⟨s_iload_n (j := 2) (by decide +kernel) rfl rfl, ?_⟩
  refine List.forall_mem_cons.mpr ⟨s_iald (by decide +kernel) rfl, ?_⟩
  refine List.forall_mem_cons.mpr ⟨s_imul (by decide +kernel) rfl, ?_⟩
  refine List.forall_mem_cons.mpr ⟨s_istore (by decide +kernel) (by decide) rfl, ?_⟩
  refine List.forall_mem_cons.mpr ⟨s_lconst (z := 0) (by decide +kernel) (by decide) rfl, ?_⟩
  refine List.forall_mem_cons.mpr ⟨s_lstore (by decide +kernel) (by decide) rfl, ?_⟩
  refine List.forall_mem_cons.mpr ⟨s_iconst (by decide +kernel) rfl, ?_⟩
  refine List.forall_mem_cons.mpr ⟨s_istore (by decide +kernel) (by decide) rfl, ?_⟩
  refine List.forall_mem_cons.mpr ⟨s_iload (by decide +kernel) rfl, ?_⟩
  refine List.forall_mem_cons.mpr ⟨s_iconst (by decide +kernel) rfl, ?_⟩
  refine List.forall_mem_cons.mpr ⟨s_icmp_gt (off := 90) (by decide +kernel) (by decide) rfl, ?_⟩
  refine List.forall_mem_cons.mpr ⟨s_iload_n (j := 1) (by decide +kernel) rfl rfl, ?_⟩
  refine List.forall_mem_cons.mpr ⟨s_aload_n (j := 0) (by decide +kernel) rfl rfl, ?_⟩
  refine List.forall_mem_cons.mpr ⟨s_getf (idx := 18) (C := RX5) (T := TX5) (N := 7) rfl inX5 (by decide) q1_180 (by decide +kernel) rfl, ?_⟩
  refine List.forall_mem_cons.mpr ⟨s_iconst (by decide +kernel) rfl, ?_⟩
  refine List.forall_mem_cons.mpr ⟨s_iload_n (j := 2) (by decide +kernel) rfl rfl, ?_⟩
  refine List.forall_mem_cons.mpr ⟨s_imul (by decide +kernel) rfl, ?_⟩
  refine List.forall_mem_cons.mpr ⟨s_iload (by decide +kernel) rfl, ?_⟩
  refine List.forall_mem_cons.mpr ⟨s_iadd (by decide +kernel) rfl, ?_⟩
  refine List.forall_mem_cons.mpr ⟨s_iald (by decide +kernel) rfl, ?_⟩
  refine List.forall_mem_cons.mpr ⟨s_iadd (by decide +kernel) rfl, ?_⟩
  refine List.forall_mem_cons.mpr ⟨s_istore (by decide +kernel) (by decide) rfl, ?_⟩
  refine List.forall_mem_cons.mpr ⟨s_iload (by decide +kernel) rfl, ?_⟩
  refine List.forall_mem_cons.mpr ⟨s_aload_n (j := 0) (by decide +kernel) rfl rfl, ?_⟩
  refine List.forall_mem_cons.mpr ⟨s_getf (idx := 22) (C := RX5) (T := TX5) (N := 7) rfl inX5 (by decide) q1_181 (by decide +kernel) rfl, ?_⟩
  refine List.forall_mem_cons.mpr ⟨s_iload_n (j := 2) (by decide +kernel) rfl rfl, ?_⟩
  refine List.forall_mem_cons.mpr ⟨s_iald (by decide +kernel) rfl, ?_⟩
  refine List.forall_mem_cons.mpr ⟨s_icmp_lt (off := 6) (by decide +kernel) (by decide) rfl, ?_⟩
  refine List.forall_mem_cons.mpr ⟨s_lload (by decide +kernel) rfl, ?_⟩
  refine List.forall_mem_cons.mpr ⟨s_lret rfl (by decide +kernel), ?_⟩
  refine List.forall_mem_cons.mpr ⟨s_aload_n (j := 0) (by decide +kernel) rfl rfl, ?_⟩
  refine List.forall_mem_cons.mpr ⟨s_getf (idx := 9) (C := RX5) (T := TX5) (N := 7) rfl inX5 (by decide) q1_178 (by decide +kernel) rfl, ?_⟩
  refine List.forall_mem_cons.mpr ⟨s_iload (by decide +kernel) rfl, ?_⟩
  refine List.forall_mem_cons.mpr ⟨s_lald (by decide +kernel) rfl, ?_⟩
  refine List.forall_mem_cons.mpr ⟨s_iload (by decide +kernel) rfl, ?_⟩
  refine List.forall_mem_cons.mpr ⟨s_iconst (by decide +kernel) rfl, ?_⟩
  refine List.forall_mem_cons.mpr ⟨s_iadd (by decide +kernel) rfl, ?_⟩
  refine List.forall_mem_cons.mpr ⟨s_iconst (by decide +kernel) rfl, ?_⟩
  refine List.forall_mem_cons.mpr ⟨s_mmin (idx := 110) q3_73 q2_163b q1_12b qminC (by decide +kernel) rfl, ?_⟩
  refine List.forall_mem_cons.mpr ⟨s_lushr (by decide +kernel) rfl, ?_⟩
  refine List.forall_mem_cons.mpr ⟨s_lstore (by decide +kernel) (by decide) rfl, ?_⟩
  refine List.forall_mem_cons.mpr ⟨s_lload (by decide +kernel) rfl, ?_⟩
  refine List.forall_mem_cons.mpr ⟨s_lload (by decide +kernel) rfl, ?_⟩
  refine List.forall_mem_cons.mpr ⟨s_iload (by decide +kernel) rfl, ?_⟩
  refine List.forall_mem_cons.mpr ⟨s_lushr (by decide +kernel) rfl, ?_⟩
  refine List.forall_mem_cons.mpr ⟨s_lconst (z := 1) (by decide +kernel) (by decide) rfl, ?_⟩
  refine List.forall_mem_cons.mpr ⟨s_land (by decide +kernel) rfl, ?_⟩
  refine List.forall_mem_cons.mpr ⟨s_iload_n (j := 3) (by decide +kernel) rfl rfl, ?_⟩
  refine List.forall_mem_cons.mpr ⟨s_iload (by decide +kernel) rfl, ?_⟩
  refine List.forall_mem_cons.mpr ⟨s_iadd (by decide +kernel) rfl, ?_⟩
  refine List.forall_mem_cons.mpr ⟨s_lshl (by decide +kernel) rfl, ?_⟩
  refine List.forall_mem_cons.mpr ⟨s_lor (by decide +kernel) rfl, ?_⟩
  refine List.forall_mem_cons.mpr ⟨s_lstore (by decide +kernel) (by decide) rfl, ?_⟩
  refine List.forall_mem_cons.mpr ⟨s_lload (by decide +kernel) rfl, ?_⟩
  refine List.forall_mem_cons.mpr ⟨s_lload (by decide +kernel) rfl, ?_⟩
  refine List.forall_mem_cons.mpr ⟨s_iload_n (j := 3) (by decide +kernel) rfl rfl, ?_⟩
  refine List.forall_mem_cons.mpr ⟨s_lushr (by decide +kernel) rfl, ?_⟩
  refine List.forall_mem_cons.mpr ⟨s_lconst (z := 1) (by decide +kernel) (by decide) rfl, ?_⟩
  refine List.forall_mem_cons.mpr ⟨s_land (by decide +kernel) rfl, ?_⟩
  refine List.forall_mem_cons.mpr ⟨s_iload (by decide +kernel) rfl, ?_⟩
  refine List.forall_mem_cons.mpr ⟨s_iload (by decide +kernel) rfl, ?_⟩
  refine List.forall_mem_cons.mpr ⟨s_iadd (by decide +kernel) rfl, ?_⟩
  refine List.forall_mem_cons.mpr ⟨s_lshl (by decide +kernel) rfl, ?_⟩
  refine List.forall_mem_cons.mpr ⟨s_lor (by decide +kernel) rfl, ?_⟩
  refine List.forall_mem_cons.mpr ⟨s_lstore (by decide +kernel) (by decide) rfl, ?_⟩
  refine List.forall_mem_cons.mpr ⟨s_iinc (by decide +kernel) (by decide) rfl, ?_⟩
  refine List.forall_mem_cons.mpr ⟨s_goto (off := (-90)) (by decide +kernel) (by decide), ?_⟩
  refine List.forall_mem_cons.mpr ⟨s_lload (by decide +kernel) rfl, ?_⟩
  refine List.forall_mem_cons.mpr ⟨s_lret rfl (by decide +kernel), ?_⟩
  exact fun q hq => absurd hq List.not_mem_nil
def T_X6_holdBody : List (Nat × zO) := [(0, o_aload 1 0), (1, o_iload 2 1), (2, o_if_ge 9 5), (5, o_const 6 (-1)), (6, o_goto 10), (9, o_const 10 5), (10, o_putf 13 6 0), (13, o_aload 14 0), (14, o_const 15 0), (15, o_iload 16 1), (16, o_mmax 19), (19, o_putf 22 6 1), (22, o_vret)]
set_option maxRecDepth 20000 in
theorem t_X6_holdBody : ∀ q ∈ T_X6_holdBody, zS k_X6_holdBody q.1 q.2 := by
  unfold T_X6_holdBody
  refine List.forall_mem_cons.mpr ⟨s_aload_n (j := 0) (by decide +kernel) rfl rfl, ?_⟩
  refine List.forall_mem_cons.mpr ⟨s_iload_n (j := 1) (by decide +kernel) rfl rfl, ?_⟩
  refine List.forall_mem_cons.mpr ⟨s_if_ge (off := 7) (by decide +kernel) (by decide) rfl, ?_⟩
  refine List.forall_mem_cons.mpr ⟨s_iconst (by decide +kernel) rfl, ?_⟩
  refine List.forall_mem_cons.mpr ⟨s_goto (off := 4) (by decide +kernel) (by decide), ?_⟩
  refine List.forall_mem_cons.mpr ⟨s_iconst (by decide +kernel) rfl, ?_⟩
  refine List.forall_mem_cons.mpr ⟨s_putf (idx := 11) (C := RX6) (T := TX6) (N := 4) rfl inX6 tyX6_ok nmX6 (by decide) rfl (tyX6_ok 0 (by decide)) (Or.inl ⟨rfl, kdI 6 0 (by decide)⟩) q2_53 (by decide +kernel) rfl, ?_⟩
  refine List.forall_mem_cons.mpr ⟨s_aload_n (j := 0) (by decide +kernel) rfl rfl, ?_⟩
  refine List.forall_mem_cons.mpr ⟨s_iconst (by decide +kernel) rfl, ?_⟩
  refine List.forall_mem_cons.mpr ⟨s_iload_n (j := 1) (by decide +kernel) rfl rfl, ?_⟩
  refine List.forall_mem_cons.mpr ⟨s_mmax (idx := 19) q4_56 q2_166b q1_12b qmaxC (by decide +kernel) rfl, ?_⟩
  refine List.forall_mem_cons.mpr ⟨s_putf (idx := 25) (C := RX6) (T := TX6) (N := 4) rfl inX6 tyX6_ok nmX6 (by decide) rfl (tyX6_ok 1 (by decide)) (Or.inl ⟨rfl, kdI 6 1 (by decide)⟩) q2_55 (by decide +kernel) rfl, ?_⟩
  refine List.forall_mem_cons.mpr ⟨s_vret rfl (by decide +kernel), ?_⟩
  exact fun q hq => absurd hq List.not_mem_nil
def T_X6_holdRow : List (Nat × zO) := [(0, o_aload 1 0), (1, o_iload 2 1), (2, o_putf 5 6 0), (5, o_aload 6 0), (6, o_iload 7 2), (7, o_putf 10 6 3), (10, o_aload 11 0), (11, o_getf 14 6 2), (14, o_lconst 15 0), (15, o_calls 2 k_J7_fill_d0a16 18), (18, o_vret)]
set_option maxRecDepth 20000 in
theorem t_X6_holdRow : ∀ q ∈ T_X6_holdRow, zS k_X6_holdRow q.1 q.2 := by
  unfold T_X6_holdRow
  refine List.forall_mem_cons.mpr ⟨s_aload_n (j := 0) (by decide +kernel) rfl rfl, ?_⟩
  refine List.forall_mem_cons.mpr ⟨s_iload_n (j := 1) (by decide +kernel) rfl rfl, ?_⟩
  refine List.forall_mem_cons.mpr ⟨s_putf (idx := 11) (C := RX6) (T := TX6) (N := 4) rfl inX6 tyX6_ok nmX6 (by decide) rfl (tyX6_ok 0 (by decide)) (Or.inl ⟨rfl, kdI 6 0 (by decide)⟩) q2_53 (by decide +kernel) rfl, ?_⟩
  refine List.forall_mem_cons.mpr ⟨s_aload_n (j := 0) (by decide +kernel) rfl rfl, ?_⟩
  refine List.forall_mem_cons.mpr ⟨s_iload_n (j := 2) (by decide +kernel) rfl rfl, ?_⟩
  refine List.forall_mem_cons.mpr ⟨s_putf (idx := 28) (C := RX6) (T := TX6) (N := 4) rfl inX6 tyX6_ok nmX6 (by decide) rfl (tyX6_ok 3 (by decide)) (Or.inl ⟨rfl, kdI 6 3 (by decide)⟩) q2_59 (by decide +kernel) rfl, ?_⟩
  refine List.forall_mem_cons.mpr ⟨s_aload_n (j := 0) (by decide +kernel) rfl rfl, ?_⟩
  refine List.forall_mem_cons.mpr ⟨s_getf (idx := 15) (C := RX6) (T := TX6) (N := 4) rfl inX6 (by decide) q2_57 (by decide +kernel) rfl, ?_⟩
  refine List.forall_mem_cons.mpr ⟨s_lconst (z := 0) (by decide +kernel) (by decide) rfl, ?_⟩
  refine List.forall_mem_cons.mpr ⟨s_calls (idx := 31) (k' := k_J7_fill_d0a16) q3_61 q4_65 q3_60 q1_13 de_J7_fill_d0a16 (by decide) (by decide +kernel) rfl, ?_⟩
  refine List.forall_mem_cons.mpr ⟨s_vret rfl (by decide +kernel), ?_⟩
  exact fun q hq => absurd hq List.not_mem_nil
def T_X6_has : List (Nat × zO) := [(0, o_iload 1 1), (1, o_if_lt 16 4), (4, o_iload 5 1), (5, o_aload 6 0), (6, o_getf 9 6 3), (9, o_icmp_ge 16 12), (12, o_const 13 1), (13, o_goto 17), (16, o_const 17 0), (17, o_zret)]
set_option maxRecDepth 20000 in
theorem t_X6_has : ∀ q ∈ T_X6_has, zS k_X6_has q.1 q.2 := by
  unfold T_X6_has
  refine List.forall_mem_cons.mpr ⟨s_iload_n (j := 1) (by decide +kernel) rfl rfl, ?_⟩
  refine List.forall_mem_cons.mpr ⟨s_if_lt (off := 15) (by decide +kernel) (by decide) rfl, ?_⟩
  refine List.forall_mem_cons.mpr ⟨s_iload_n (j := 1) (by decide +kernel) rfl rfl, ?_⟩
  refine List.forall_mem_cons.mpr ⟨s_aload_n (j := 0) (by decide +kernel) rfl rfl, ?_⟩
  refine List.forall_mem_cons.mpr ⟨s_getf (idx := 28) (C := RX6) (T := TX6) (N := 4) rfl inX6 (by decide) q2_59 (by decide +kernel) rfl, ?_⟩
  refine List.forall_mem_cons.mpr ⟨s_icmp_ge (off := 7) (by decide +kernel) (by decide) rfl, ?_⟩
  refine List.forall_mem_cons.mpr ⟨s_iconst (by decide +kernel) rfl, ?_⟩
  refine List.forall_mem_cons.mpr ⟨s_goto (off := 4) (by decide +kernel) (by decide), ?_⟩
  refine List.forall_mem_cons.mpr ⟨s_iconst (by decide +kernel) rfl, ?_⟩
  refine List.forall_mem_cons.mpr ⟨s_zret rfl (by decide +kernel), ?_⟩
  exact fun q hq => absurd hq List.not_mem_nil
def T_X6_hasRun : List (Nat × zO) := [(0, o_iload 1 1), (1, o_if_lt 30 4), (4, o_iload 5 2), (5, o_if_lt 30 8), (8, o_iload 9 2), (9, o_aload 10 0), (10, o_getf 13 6 3), (13, o_icmp_gt 30 16), (16, o_iload 17 1), (17, o_aload 18 0), (18, o_getf 21 6 3), (21, o_iload 22 2), (22, o_isub 23), (23, o_icmp_gt 30 26), (26, o_const 27 1), (27, o_goto 31), (30, o_const 31 0), (31, o_zret)]
set_option maxRecDepth 20000 in
theorem t_X6_hasRun : ∀ q ∈ T_X6_hasRun, zS k_X6_hasRun q.1 q.2 := by
  unfold T_X6_hasRun
  refine List.forall_mem_cons.mpr ⟨s_iload_n (j := 1) (by decide +kernel) rfl rfl, ?_⟩
  refine List.forall_mem_cons.mpr ⟨s_if_lt (off := 29) (by decide +kernel) (by decide) rfl, ?_⟩
  refine List.forall_mem_cons.mpr ⟨s_iload_n (j := 2) (by decide +kernel) rfl rfl, ?_⟩
  refine List.forall_mem_cons.mpr ⟨s_if_lt (off := 25) (by decide +kernel) (by decide) rfl, ?_⟩
  refine List.forall_mem_cons.mpr ⟨s_iload_n (j := 2) (by decide +kernel) rfl rfl, ?_⟩
  refine List.forall_mem_cons.mpr ⟨s_aload_n (j := 0) (by decide +kernel) rfl rfl, ?_⟩
  refine List.forall_mem_cons.mpr ⟨s_getf (idx := 28) (C := RX6) (T := TX6) (N := 4) rfl inX6 (by decide) q2_59 (by decide +kernel) rfl, ?_⟩
  refine List.forall_mem_cons.mpr ⟨s_icmp_gt (off := 17) (by decide +kernel) (by decide) rfl, ?_⟩
  refine List.forall_mem_cons.mpr ⟨s_iload_n (j := 1) (by decide +kernel) rfl rfl, ?_⟩
  refine List.forall_mem_cons.mpr ⟨s_aload_n (j := 0) (by decide +kernel) rfl rfl, ?_⟩
  refine List.forall_mem_cons.mpr ⟨s_getf (idx := 28) (C := RX6) (T := TX6) (N := 4) rfl inX6 (by decide) q2_59 (by decide +kernel) rfl, ?_⟩
  refine List.forall_mem_cons.mpr ⟨s_iload_n (j := 2) (by decide +kernel) rfl rfl, ?_⟩
  refine List.forall_mem_cons.mpr ⟨s_isub (by decide +kernel) rfl, ?_⟩
  refine List.forall_mem_cons.mpr ⟨s_icmp_gt (off := 7) (by decide +kernel) (by decide) rfl, ?_⟩
  refine List.forall_mem_cons.mpr ⟨s_iconst (by decide +kernel) rfl, ?_⟩
  refine List.forall_mem_cons.mpr ⟨s_goto (off := 4) (by decide +kernel) (by decide), ?_⟩
  refine List.forall_mem_cons.mpr ⟨s_iconst (by decide +kernel) rfl, ?_⟩
  refine List.forall_mem_cons.mpr ⟨s_zret rfl (by decide +kernel), ?_⟩
  exact fun q hq => absurd hq List.not_mem_nil
def T_X6_kept : List (Nat × zO) := [(0, o_aload 1 0), (1, o_getf 4 6 0), (4, o_tsw 0 4 [40, 45, 50, 66, 54] 66), (40, o_lload 41 1), (41, o_l2i 42), (42, o_i2b 43), (43, o_i2l 44), (44, o_lret), (45, o_lload 46 1), (46, o_l2i 47), (47, o_i2s 48), (48, o_i2l 49), (49, o_lret), (50, o_lload 51 1), (51, o_l2i 52), (52, o_i2l 53), (53, o_lret), (54, o_lload 55 1), (55, o_lconst 56 0), (56, o_lcmp 57), (57, o_if_eq 64 60), (60, o_lconst 61 1), (61, o_goto 65), (64, o_lconst 65 0), (65, o_lret), (66, o_lload 67 1), (67, o_lret)]
set_option maxRecDepth 20000 in
theorem t_X6_kept : ∀ q ∈ T_X6_kept, zS k_X6_kept q.1 q.2 := by
  unfold T_X6_kept
  refine List.forall_mem_cons.mpr ⟨s_aload_n (j := 0) (by decide +kernel) rfl rfl, ?_⟩
  refine List.forall_mem_cons.mpr ⟨s_getf (idx := 11) (C := RX6) (T := TX6) (N := 4) rfl inX6 (by decide) q2_53 (by decide +kernel) rfl, ?_⟩
  refine List.forall_mem_cons.mpr ⟨s_tsw (dfo := 62) (offs := #[36, 41, 46, 62, 50]) (len := 36) (by decide +kernel) (by decide) (by decide) (by decide), ?_⟩
  refine List.forall_mem_cons.mpr ⟨s_lload_n (j := 1) (by decide +kernel) rfl rfl, ?_⟩
  refine List.forall_mem_cons.mpr ⟨s_l2i (by decide +kernel) rfl, ?_⟩
  refine List.forall_mem_cons.mpr ⟨s_i2b (by decide +kernel) rfl, ?_⟩
  refine List.forall_mem_cons.mpr ⟨s_i2l (by decide +kernel) rfl, ?_⟩
  refine List.forall_mem_cons.mpr ⟨s_lret rfl (by decide +kernel), ?_⟩
  refine List.forall_mem_cons.mpr ⟨s_lload_n (j := 1) (by decide +kernel) rfl rfl, ?_⟩
  refine List.forall_mem_cons.mpr ⟨s_l2i (by decide +kernel) rfl, ?_⟩
  refine List.forall_mem_cons.mpr ⟨s_i2s (by decide +kernel) rfl, ?_⟩
  refine List.forall_mem_cons.mpr ⟨s_i2l (by decide +kernel) rfl, ?_⟩
  refine List.forall_mem_cons.mpr ⟨s_lret rfl (by decide +kernel), ?_⟩
  refine List.forall_mem_cons.mpr ⟨s_lload_n (j := 1) (by decide +kernel) rfl rfl, ?_⟩
  refine List.forall_mem_cons.mpr ⟨s_l2i (by decide +kernel) rfl, ?_⟩
  refine List.forall_mem_cons.mpr ⟨s_i2l (by decide +kernel) rfl, ?_⟩
  refine List.forall_mem_cons.mpr ⟨s_lret rfl (by decide +kernel), ?_⟩
  refine List.forall_mem_cons.mpr ⟨s_lload_n (j := 1) (by decide +kernel) rfl rfl, ?_⟩
  refine List.forall_mem_cons.mpr ⟨s_lconst (z := 0) (by decide +kernel) (by decide) rfl, ?_⟩
  refine List.forall_mem_cons.mpr ⟨s_lcmp (by decide +kernel) rfl, ?_⟩
  refine List.forall_mem_cons.mpr ⟨s_if_eq (off := 7) (by decide +kernel) (by decide) rfl, ?_⟩
  refine List.forall_mem_cons.mpr ⟨s_lconst (z := 1) (by decide +kernel) (by decide) rfl, ?_⟩
  refine List.forall_mem_cons.mpr ⟨s_goto (off := 4) (by decide +kernel) (by decide), ?_⟩
  refine List.forall_mem_cons.mpr ⟨s_lconst (z := 0) (by decide +kernel) (by decide) rfl, ?_⟩
  refine List.forall_mem_cons.mpr ⟨s_lret rfl (by decide +kernel), ?_⟩
  refine List.forall_mem_cons.mpr ⟨s_lload_n (j := 1) (by decide +kernel) rfl rfl, ?_⟩
  refine List.forall_mem_cons.mpr ⟨s_lret rfl (by decide +kernel), ?_⟩
  exact fun q hq => absurd hq List.not_mem_nil
def T_X7_add : List (Nat × zO) := [(0, o_aload 1 0), (1, o_getf 4 7 1), (4, o_iload 5 1), (5, o_iadd 6), (6, o_const 8 120), (8, o_icmp_le 13 11), (11, o_const 12 0), (12, o_zret), (13, o_const 14 0), (14, o_istore 15 3), (15, o_iload 16 3), (16, o_iload 17 1), (17, o_icmp_ge 55 20), (20, o_aload 21 0), (21, o_getf 24 7 0), (24, o_aload 25 0), (25, o_getf 28 7 1), (28, o_iload 29 2), (29, o_const 31 8), (31, o_iload 32 3), (32, o_imul 33), (33, o_iushr 34), (34, o_const 37 255), (37, o_iand 38), (38, o_iast 39), (39, o_aload 40 0), (40, o_dup 41), (41, o_getf 44 7 1), (44, o_const 45 1), (45, o_iadd 46), (46, o_putf 49 7 1), (49, o_iinc 52 3 1), (52, o_goto 15), (55, o_const 56 1), (56, o_zret)]
set_option maxRecDepth 20000 in
theorem t_X7_add : ∀ q ∈ T_X7_add, zS k_X7_add q.1 q.2 := by
  unfold T_X7_add
  refine List.forall_mem_cons.mpr ⟨s_aload_n (j := 0) (by decide +kernel) rfl rfl, ?_⟩
  refine List.forall_mem_cons.mpr ⟨s_getf (idx := 21) (C := RX7) (T := TX7) (N := 6) rfl inX7 (by decide) q1_29 (by decide +kernel) rfl, ?_⟩
  refine List.forall_mem_cons.mpr ⟨s_iload_n (j := 1) (by decide +kernel) rfl rfl, ?_⟩
  refine List.forall_mem_cons.mpr ⟨s_iadd (by decide +kernel) rfl, ?_⟩
  refine List.forall_mem_cons.mpr ⟨s_bipush (by decide +kernel) (by decide) rfl, ?_⟩
  refine List.forall_mem_cons.mpr ⟨s_icmp_le (off := 5) (by decide +kernel) (by decide) rfl, ?_⟩
  refine List.forall_mem_cons.mpr ⟨s_iconst (by decide +kernel) rfl, ?_⟩
  refine List.forall_mem_cons.mpr ⟨s_zret rfl (by decide +kernel), ?_⟩
  refine List.forall_mem_cons.mpr ⟨s_iconst (by decide +kernel) rfl, ?_⟩
  refine List.forall_mem_cons.mpr ⟨s_istore_n (j := 3) (by decide +kernel) rfl (by decide) rfl, ?_⟩
  refine List.forall_mem_cons.mpr ⟨s_iload_n (j := 3) (by decide +kernel) rfl rfl, ?_⟩
  refine List.forall_mem_cons.mpr ⟨s_iload_n (j := 1) (by decide +kernel) rfl rfl, ?_⟩
  refine List.forall_mem_cons.mpr ⟨s_icmp_ge (off := 38) (by decide +kernel) (by decide) rfl, ?_⟩
  refine List.forall_mem_cons.mpr ⟨s_aload_n (j := 0) (by decide +kernel) rfl rfl, ?_⟩
  refine List.forall_mem_cons.mpr ⟨s_getf (idx := 9) (C := RX7) (T := TX7) (N := 6) rfl inX7 (by decide) q1_28 (by decide +kernel) rfl, ?_⟩
  refine List.forall_mem_cons.mpr ⟨s_aload_n (j := 0) (by decide +kernel) rfl rfl, ?_⟩
  refine List.forall_mem_cons.mpr ⟨s_getf (idx := 21) (C := RX7) (T := TX7) (N := 6) rfl inX7 (by decide) q1_29 (by decide +kernel) rfl, ?_⟩
  refine List.forall_mem_cons.mpr ⟨s_iload_n (j := 2) (by decide +kernel) rfl rfl, ?_⟩
  refine List.forall_mem_cons.mpr ⟨s_bipush (by decide +kernel) (by decide) rfl, ?_⟩
  refine List.forall_mem_cons.mpr ⟨s_iload_n (j := 3) (by decide +kernel) rfl rfl, ?_⟩
  refine List.forall_mem_cons.mpr ⟨s_imul (by decide +kernel) rfl, ?_⟩
  refine List.forall_mem_cons.mpr ⟨s_iushr (by decide +kernel) rfl, ?_⟩
  refine List.forall_mem_cons.mpr ⟨s_sipush (by decide +kernel) (by decide) rfl, ?_⟩
  refine List.forall_mem_cons.mpr ⟨s_iand (by decide +kernel) rfl, ?_⟩
  refine List.forall_mem_cons.mpr ⟨s_iast (by decide +kernel) rfl, ?_⟩
  refine List.forall_mem_cons.mpr ⟨s_aload_n (j := 0) (by decide +kernel) rfl rfl, ?_⟩
  refine List.forall_mem_cons.mpr ⟨s_dup (by decide +kernel) rfl, ?_⟩
  refine List.forall_mem_cons.mpr ⟨s_getf (idx := 21) (C := RX7) (T := TX7) (N := 6) rfl inX7 (by decide) q1_29 (by decide +kernel) rfl, ?_⟩
  refine List.forall_mem_cons.mpr ⟨s_iconst (by decide +kernel) rfl, ?_⟩
  refine List.forall_mem_cons.mpr ⟨s_iadd (by decide +kernel) rfl, ?_⟩
  refine List.forall_mem_cons.mpr ⟨s_putf (idx := 21) (C := RX7) (T := TX7) (N := 6) rfl inX7 tyX7_ok nmX7 (by decide) rfl (tyX7_ok 1 (by decide)) (Or.inl ⟨rfl, kdI 7 1 (by decide)⟩) q1_29 (by decide +kernel) rfl, ?_⟩
  refine List.forall_mem_cons.mpr ⟨s_iinc (by decide +kernel) (by decide) rfl, ?_⟩
  refine List.forall_mem_cons.mpr ⟨s_goto (off := (-37)) (by decide +kernel) (by decide), ?_⟩
  refine List.forall_mem_cons.mpr ⟨s_iconst (by decide +kernel) rfl, ?_⟩
  refine List.forall_mem_cons.mpr ⟨s_zret rfl (by decide +kernel), ?_⟩
  exact fun q hq => absurd hq List.not_mem_nil
def T_X7_read : List (Nat × zO) := [(0, o_aload 1 0), (1, o_const 2 0), (2, o_putf 5 7 5), (5, o_aload 6 0), (6, o_const 7 0), (7, o_putf 10 7 4), (10, o_const 11 (-1)), (11, o_istore 12 1), (12, o_aload 13 0), (13, o_getf 16 7 4), (16, o_const 18 12), (18, o_icmp_ge 120 21), (21, o_aload 22 0), (22, o_iload 23 1), (23, o_callv 1 7 k_X7_readMinute 26), (26, o_istore 27 2), (27, o_iload 28 2), (28, o_const 29 (-1)), (29, o_icmp_eq 34 32), (32, o_iload 33 2), (33, o_iret), (34, o_aload 35 0), (35, o_callv 0 7 k_X7_readHeight 38), (38, o_istore 39 2), (39, o_iload 40 2), (40, o_const 41 (-1)), (41, o_icmp_eq 46 44), (44, o_iload 45 2), (45, o_iret), (46, o_aload 47 0), (47, o_getf 50 7 2), (50, o_aload 51 0), (51, o_getf 54 7 4), (54, o_iald 55), (55, o_istore 56 1), (56, o_aload 57 0), (57, o_dup 58), (58, o_getf 61 7 4), (61, o_const 62 1), (62, o_iadd 63), (63, o_putf 66 7 4), (66, o_aload 67 0), (67, o_getf 70 7 5), (70, o_aload 71 0), (71, o_getf 74 7 1), (74, o_icmp_lt 79 77), (77, o_const 78 (-1)), (78, o_iret), (79, o_aload 80 0), (80, o_getf 83 7 0), (83, o_aload 84 0), (84, o_getf 87 7 5), (87, o_iald 88), (88, o_const 90 59), (90, o_icmp_ne 102 93), (93, o_aload 94 0), (94, o_getf 97 7 4), (97, o_const 99 12), (99, o_icmp_ne 107 102), (102, o_aload 103 0), (103, o_getf 106 7 5), (106, o_iret), (107, o_aload 108 0), (108, o_dup 109), (109, o_getf 112 7 5), (112, o_const 113 1), (113, o_iadd 114), (114, o_putf 117 7 5), (117, o_goto 12), (120, o_aload 121 0), (121, o_getf 124 7 5), (124, o_iret)]
set_option maxRecDepth 20000 in
theorem t_X7_read : ∀ q ∈ T_X7_read, zS k_X7_read q.1 q.2 := by
  unfold T_X7_read
  refine List.forall_mem_cons.mpr ⟨s_aload_n (j := 0) (by decide +kernel) rfl rfl, ?_⟩
  refine List.forall_mem_cons.mpr ⟨s_iconst (by decide +kernel) rfl, ?_⟩
  refine List.forall_mem_cons.mpr ⟨s_putf (idx := 25) (C := RX7) (T := TX7) (N := 6) rfl inX7 tyX7_ok nmX7 (by decide) rfl (tyX7_ok 5 (by decide)) (Or.inl ⟨rfl, kdI 7 5 (by decide)⟩) q1_37 (by decide +kernel) rfl, ?_⟩
  refine List.forall_mem_cons.mpr ⟨s_aload_n (j := 0) (by decide +kernel) rfl rfl, ?_⟩
  refine List.forall_mem_cons.mpr ⟨s_iconst (by decide +kernel) rfl, ?_⟩
  refine List.forall_mem_cons.mpr ⟨s_putf (idx := 28) (C := RX7) (T := TX7) (N := 6) rfl inX7 tyX7_ok nmX7 (by decide) rfl (tyX7_ok 4 (by decide)) (Or.inl ⟨rfl, kdI 7 4 (by decide)⟩) q1_35 (by decide +kernel) rfl, ?_⟩
  refine List.forall_mem_cons.mpr ⟨s_iconst (by decide +kernel) rfl, ?_⟩
  refine List.forall_mem_cons.mpr ⟨s_istore_n (j := 1) (by decide +kernel) rfl (by decide) rfl, ?_⟩
  refine List.forall_mem_cons.mpr ⟨s_aload_n (j := 0) (by decide +kernel) rfl rfl, ?_⟩
  refine List.forall_mem_cons.mpr ⟨s_getf (idx := 28) (C := RX7) (T := TX7) (N := 6) rfl inX7 (by decide) q1_35 (by decide +kernel) rfl, ?_⟩
  refine List.forall_mem_cons.mpr ⟨s_bipush (by decide +kernel) (by decide) rfl, ?_⟩
  refine List.forall_mem_cons.mpr ⟨s_icmp_ge (off := 102) (by decide +kernel) (by decide) rfl, ?_⟩
  refine List.forall_mem_cons.mpr ⟨s_aload_n (j := 0) (by decide +kernel) rfl rfl, ?_⟩
  refine List.forall_mem_cons.mpr ⟨s_iload_n (j := 1) (by decide +kernel) rfl rfl, ?_⟩
  refine List.forall_mem_cons.mpr ⟨s_callv (idx := 31) (k' := k_X7_readMinute) (T := TX7) (N := 6) rfl q2_119 q2_116 q2_118 qs_0 q1_2 de_X7_readMinute (by decide) (by decide +kernel) rfl, ?_⟩
  refine List.forall_mem_cons.mpr ⟨s_istore_n (j := 2) (by decide +kernel) rfl (by decide) rfl, ?_⟩
  refine List.forall_mem_cons.mpr ⟨s_iload_n (j := 2) (by decide +kernel) rfl rfl, ?_⟩
  refine List.forall_mem_cons.mpr ⟨s_iconst (by decide +kernel) rfl, ?_⟩
  refine List.forall_mem_cons.mpr ⟨s_icmp_eq (off := 5) (by decide +kernel) (by decide) rfl, ?_⟩
  refine List.forall_mem_cons.mpr ⟨s_iload_n (j := 2) (by decide +kernel) rfl rfl, ?_⟩
  refine List.forall_mem_cons.mpr ⟨s_iret rfl (by decide +kernel), ?_⟩
  refine List.forall_mem_cons.mpr ⟨s_aload_n (j := 0) (by decide +kernel) rfl rfl, ?_⟩
  refine List.forall_mem_cons.mpr ⟨s_callv (idx := 35) (k' := k_X7_readHeight) (T := TX7) (N := 6) rfl q2_131 q2_128 q2_130 qs_3 q1_2 de_X7_readHeight (by decide) (by decide +kernel) rfl, ?_⟩
  refine List.forall_mem_cons.mpr ⟨s_istore_n (j := 2) (by decide +kernel) rfl (by decide) rfl, ?_⟩
  refine List.forall_mem_cons.mpr ⟨s_iload_n (j := 2) (by decide +kernel) rfl rfl, ?_⟩
  refine List.forall_mem_cons.mpr ⟨s_iconst (by decide +kernel) rfl, ?_⟩
  refine List.forall_mem_cons.mpr ⟨s_icmp_eq (off := 5) (by decide +kernel) (by decide) rfl, ?_⟩
  refine List.forall_mem_cons.mpr ⟨s_iload_n (j := 2) (by decide +kernel) rfl rfl, ?_⟩
  refine List.forall_mem_cons.mpr ⟨s_iret rfl (by decide +kernel), ?_⟩
  refine List.forall_mem_cons.mpr ⟨s_aload_n (j := 0) (by decide +kernel) rfl rfl, ?_⟩
  refine List.forall_mem_cons.mpr ⟨s_getf (idx := 15) (C := RX7) (T := TX7) (N := 6) rfl inX7 (by decide) q1_31 (by decide +kernel) rfl, ?_⟩
  refine List.forall_mem_cons.mpr ⟨s_aload_n (j := 0) (by decide +kernel) rfl rfl, ?_⟩
  refine List.forall_mem_cons.mpr ⟨s_getf (idx := 28) (C := RX7) (T := TX7) (N := 6) rfl inX7 (by decide) q1_35 (by decide +kernel) rfl, ?_⟩
  refine List.forall_mem_cons.mpr ⟨s_iald (by decide +kernel) rfl, ?_⟩
  refine List.forall_mem_cons.mpr ⟨s_istore_n (j := 1) (by decide +kernel) rfl (by decide) rfl, ?_⟩
  refine List.forall_mem_cons.mpr ⟨s_aload_n (j := 0) (by decide +kernel) rfl rfl, ?_⟩
  refine List.forall_mem_cons.mpr ⟨s_dup (by decide +kernel) rfl, ?_⟩
  refine List.forall_mem_cons.mpr ⟨s_getf (idx := 28) (C := RX7) (T := TX7) (N := 6) rfl inX7 (by decide) q1_35 (by decide +kernel) rfl, ?_⟩
  refine List.forall_mem_cons.mpr ⟨s_iconst (by decide +kernel) rfl, ?_⟩
  refine List.forall_mem_cons.mpr ⟨s_iadd (by decide +kernel) rfl, ?_⟩
  refine List.forall_mem_cons.mpr ⟨s_putf (idx := 28) (C := RX7) (T := TX7) (N := 6) rfl inX7 tyX7_ok nmX7 (by decide) rfl (tyX7_ok 4 (by decide)) (Or.inl ⟨rfl, kdI 7 4 (by decide)⟩) q1_35 (by decide +kernel) rfl, ?_⟩
  refine List.forall_mem_cons.mpr ⟨s_aload_n (j := 0) (by decide +kernel) rfl rfl, ?_⟩
  refine List.forall_mem_cons.mpr ⟨s_getf (idx := 25) (C := RX7) (T := TX7) (N := 6) rfl inX7 (by decide) q1_37 (by decide +kernel) rfl, ?_⟩
  refine List.forall_mem_cons.mpr ⟨s_aload_n (j := 0) (by decide +kernel) rfl rfl, ?_⟩
  refine List.forall_mem_cons.mpr ⟨s_getf (idx := 21) (C := RX7) (T := TX7) (N := 6) rfl inX7 (by decide) q1_29 (by decide +kernel) rfl, ?_⟩
  refine List.forall_mem_cons.mpr ⟨s_icmp_lt (off := 5) (by decide +kernel) (by decide) rfl, ?_⟩
  refine List.forall_mem_cons.mpr ⟨s_iconst (by decide +kernel) rfl, ?_⟩
  refine List.forall_mem_cons.mpr ⟨s_iret rfl (by decide +kernel), ?_⟩
  refine List.forall_mem_cons.mpr ⟨s_aload_n (j := 0) (by decide +kernel) rfl rfl, ?_⟩
  refine List.forall_mem_cons.mpr ⟨s_getf (idx := 9) (C := RX7) (T := TX7) (N := 6) rfl inX7 (by decide) q1_28 (by decide +kernel) rfl, ?_⟩
  refine List.forall_mem_cons.mpr ⟨s_aload_n (j := 0) (by decide +kernel) rfl rfl, ?_⟩
  refine List.forall_mem_cons.mpr ⟨s_getf (idx := 25) (C := RX7) (T := TX7) (N := 6) rfl inX7 (by decide) q1_37 (by decide +kernel) rfl, ?_⟩
  refine List.forall_mem_cons.mpr ⟨s_iald (by decide +kernel) rfl, ?_⟩
  refine List.forall_mem_cons.mpr ⟨s_bipush (by decide +kernel) (by decide) rfl, ?_⟩
  refine List.forall_mem_cons.mpr ⟨s_icmp_ne (off := 12) (by decide +kernel) (by decide) rfl, ?_⟩
  refine List.forall_mem_cons.mpr ⟨s_aload_n (j := 0) (by decide +kernel) rfl rfl, ?_⟩
  refine List.forall_mem_cons.mpr ⟨s_getf (idx := 28) (C := RX7) (T := TX7) (N := 6) rfl inX7 (by decide) q1_35 (by decide +kernel) rfl, ?_⟩
  refine List.forall_mem_cons.mpr ⟨s_bipush (by decide +kernel) (by decide) rfl, ?_⟩
  refine List.forall_mem_cons.mpr ⟨s_icmp_ne (off := 8) (by decide +kernel) (by decide) rfl, ?_⟩
  refine List.forall_mem_cons.mpr ⟨s_aload_n (j := 0) (by decide +kernel) rfl rfl, ?_⟩
  refine List.forall_mem_cons.mpr ⟨s_getf (idx := 25) (C := RX7) (T := TX7) (N := 6) rfl inX7 (by decide) q1_37 (by decide +kernel) rfl, ?_⟩
  refine List.forall_mem_cons.mpr ⟨s_iret rfl (by decide +kernel), ?_⟩
  refine List.forall_mem_cons.mpr ⟨s_aload_n (j := 0) (by decide +kernel) rfl rfl, ?_⟩
  refine List.forall_mem_cons.mpr ⟨s_dup (by decide +kernel) rfl, ?_⟩
  refine List.forall_mem_cons.mpr ⟨s_getf (idx := 25) (C := RX7) (T := TX7) (N := 6) rfl inX7 (by decide) q1_37 (by decide +kernel) rfl, ?_⟩
  refine List.forall_mem_cons.mpr ⟨s_iconst (by decide +kernel) rfl, ?_⟩
  refine List.forall_mem_cons.mpr ⟨s_iadd (by decide +kernel) rfl, ?_⟩
  refine List.forall_mem_cons.mpr ⟨s_putf (idx := 25) (C := RX7) (T := TX7) (N := 6) rfl inX7 tyX7_ok nmX7 (by decide) rfl (tyX7_ok 5 (by decide)) (Or.inl ⟨rfl, kdI 7 5 (by decide)⟩) q1_37 (by decide +kernel) rfl, ?_⟩
  refine List.forall_mem_cons.mpr ⟨s_goto (off := (-105)) (by decide +kernel) (by decide), ?_⟩
  refine List.forall_mem_cons.mpr ⟨s_aload_n (j := 0) (by decide +kernel) rfl rfl, ?_⟩
  refine List.forall_mem_cons.mpr ⟨s_getf (idx := 25) (C := RX7) (T := TX7) (N := 6) rfl inX7 (by decide) q1_37 (by decide +kernel) rfl, ?_⟩
  refine List.forall_mem_cons.mpr ⟨s_iret rfl (by decide +kernel), ?_⟩
  exact fun q hq => absurd hq List.not_mem_nil
def T_X7_readMinute : List (Nat × zO) := [(0, o_aload 1 0), (1, o_getf 4 7 5), (4, o_istore 5 2), (5, o_aload 6 0), (6, o_const 7 4), (7, o_callv 1 7 k_X7_readNumber 10), (10, o_istore 11 3), (11, o_aload 12 0), (12, o_getf 15 7 5), (15, o_iload 16 2), (16, o_icmp_ne 24 19), (19, o_aload 20 0), (20, o_getf 23 7 5), (23, o_iret), (24, o_iload 25 3), (25, o_iload 26 1), (26, o_icmp_le 36 29), (29, o_iload 30 3), (30, o_const 33 1439), (33, o_icmp_le 38 36), (36, o_iload 37 2), (37, o_iret), (38, o_aload 39 0), (39, o_getf 42 7 5), (42, o_aload 43 0), (43, o_getf 46 7 1), (46, o_icmp_ge 63 49), (49, o_aload 50 0), (50, o_getf 53 7 0), (53, o_aload 54 0), (54, o_getf 57 7 5), (57, o_iald 58), (58, o_const 60 58), (60, o_icmp_eq 68 63), (63, o_aload 64 0), (64, o_getf 67 7 5), (67, o_iret), (68, o_aload 69 0), (69, o_dup 70), (70, o_getf 73 7 5), (73, o_const 74 1), (74, o_iadd 75), (75, o_putf 78 7 5), (78, o_aload 79 0), (79, o_getf 82 7 2), (82, o_aload 83 0), (83, o_getf 86 7 4), (86, o_iload 87 3), (87, o_iast 88), (88, o_const 89 (-1)), (89, o_iret)]
set_option maxRecDepth 20000 in
theorem t_X7_readMinute : ∀ q ∈ T_X7_readMinute, zS k_X7_readMinute q.1 q.2 := by
  unfold T_X7_readMinute
  refine List.forall_mem_cons.mpr ⟨s_aload_n (j := 0) (by decide +kernel) rfl rfl, ?_⟩
  refine List.forall_mem_cons.mpr ⟨s_getf (idx := 25) (C := RX7) (T := TX7) (N := 6) rfl inX7 (by decide) q1_37 (by decide +kernel) rfl, ?_⟩
  refine List.forall_mem_cons.mpr ⟨s_istore_n (j := 2) (by decide +kernel) rfl (by decide) rfl, ?_⟩
  refine List.forall_mem_cons.mpr ⟨s_aload_n (j := 0) (by decide +kernel) rfl rfl, ?_⟩
  refine List.forall_mem_cons.mpr ⟨s_iconst (by decide +kernel) rfl, ?_⟩
  refine List.forall_mem_cons.mpr ⟨s_callv (idx := 39) (k' := k_X7_readNumber) (T := TX7) (N := 6) rfl q2_123 q2_120 q2_122 qs_1 q1_2 de_X7_readNumber (by decide) (by decide +kernel) rfl, ?_⟩
  refine List.forall_mem_cons.mpr ⟨s_istore_n (j := 3) (by decide +kernel) rfl (by decide) rfl, ?_⟩
  refine List.forall_mem_cons.mpr ⟨s_aload_n (j := 0) (by decide +kernel) rfl rfl, ?_⟩
  refine List.forall_mem_cons.mpr ⟨s_getf (idx := 25) (C := RX7) (T := TX7) (N := 6) rfl inX7 (by decide) q1_37 (by decide +kernel) rfl, ?_⟩
  refine List.forall_mem_cons.mpr ⟨s_iload_n (j := 2) (by decide +kernel) rfl rfl, ?_⟩
  refine List.forall_mem_cons.mpr ⟨s_icmp_ne (off := 8) (by decide +kernel) (by decide) rfl, ?_⟩
  refine List.forall_mem_cons.mpr ⟨s_aload_n (j := 0) (by decide +kernel) rfl rfl, ?_⟩
  refine List.forall_mem_cons.mpr ⟨s_getf (idx := 25) (C := RX7) (T := TX7) (N := 6) rfl inX7 (by decide) q1_37 (by decide +kernel) rfl, ?_⟩
  refine List.forall_mem_cons.mpr ⟨s_iret rfl (by decide +kernel), ?_⟩
  refine List.forall_mem_cons.mpr ⟨s_iload_n (j := 3) (by decide +kernel) rfl rfl, ?_⟩
  refine List.forall_mem_cons.mpr ⟨s_iload_n (j := 1) (by decide +kernel) rfl rfl, ?_⟩
  refine List.forall_mem_cons.mpr ⟨s_icmp_le (off := 10) (by decide +kernel) (by decide) rfl, ?_⟩
  refine List.forall_mem_cons.mpr ⟨s_iload_n (j := 3) (by decide +kernel) rfl rfl, ?_⟩
  refine List.forall_mem_cons.mpr ⟨s_sipush (by decide +kernel) (by decide) rfl, ?_⟩
  refine List.forall_mem_cons.mpr ⟨s_icmp_le (off := 5) (by decide +kernel) (by decide) rfl, ?_⟩
  refine List.forall_mem_cons.mpr ⟨s_iload_n (j := 2) (by decide +kernel) rfl rfl, ?_⟩
  refine List.forall_mem_cons.mpr ⟨s_iret rfl (by decide +kernel), ?_⟩
  refine List.forall_mem_cons.mpr ⟨s_aload_n (j := 0) (by decide +kernel) rfl rfl, ?_⟩
  refine List.forall_mem_cons.mpr ⟨s_getf (idx := 25) (C := RX7) (T := TX7) (N := 6) rfl inX7 (by decide) q1_37 (by decide +kernel) rfl, ?_⟩
  refine List.forall_mem_cons.mpr ⟨s_aload_n (j := 0) (by decide +kernel) rfl rfl, ?_⟩
  refine List.forall_mem_cons.mpr ⟨s_getf (idx := 21) (C := RX7) (T := TX7) (N := 6) rfl inX7 (by decide) q1_29 (by decide +kernel) rfl, ?_⟩
  refine List.forall_mem_cons.mpr ⟨s_icmp_ge (off := 17) (by decide +kernel) (by decide) rfl, ?_⟩
  refine List.forall_mem_cons.mpr ⟨s_aload_n (j := 0) (by decide +kernel) rfl rfl, ?_⟩
  refine List.forall_mem_cons.mpr ⟨s_getf (idx := 9) (C := RX7) (T := TX7) (N := 6) rfl inX7 (by decide) q1_28 (by decide +kernel) rfl, ?_⟩
  refine List.forall_mem_cons.mpr ⟨s_aload_n (j := 0) (by decide +kernel) rfl rfl, ?_⟩
  refine List.forall_mem_cons.mpr ⟨s_getf (idx := 25) (C := RX7) (T := TX7) (N := 6) rfl inX7 (by decide) q1_37 (by decide +kernel) rfl, ?_⟩
  refine List.forall_mem_cons.mpr ⟨s_iald (by decide +kernel) rfl, ?_⟩
  refine List.forall_mem_cons.mpr ⟨s_bipush (by decide +kernel) (by decide) rfl, ?_⟩
  refine List.forall_mem_cons.mpr ⟨s_icmp_eq (off := 8) (by decide +kernel) (by decide) rfl, ?_⟩
  refine List.forall_mem_cons.mpr ⟨s_aload_n (j := 0) (by decide +kernel) rfl rfl, ?_⟩
  refine List.forall_mem_cons.mpr ⟨s_getf (idx := 25) (C := RX7) (T := TX7) (N := 6) rfl inX7 (by decide) q1_37 (by decide +kernel) rfl, ?_⟩
  refine List.forall_mem_cons.mpr ⟨s_iret rfl (by decide +kernel), ?_⟩
  refine List.forall_mem_cons.mpr ⟨s_aload_n (j := 0) (by decide +kernel) rfl rfl, ?_⟩
  refine List.forall_mem_cons.mpr ⟨s_dup (by decide +kernel) rfl, ?_⟩
  refine List.forall_mem_cons.mpr ⟨s_getf (idx := 25) (C := RX7) (T := TX7) (N := 6) rfl inX7 (by decide) q1_37 (by decide +kernel) rfl, ?_⟩
  refine List.forall_mem_cons.mpr ⟨s_iconst (by decide +kernel) rfl, ?_⟩
  refine List.forall_mem_cons.mpr ⟨s_iadd (by decide +kernel) rfl, ?_⟩
  refine List.forall_mem_cons.mpr ⟨s_putf (idx := 25) (C := RX7) (T := TX7) (N := 6) rfl inX7 tyX7_ok nmX7 (by decide) rfl (tyX7_ok 5 (by decide)) (Or.inl ⟨rfl, kdI 7 5 (by decide)⟩) q1_37 (by decide +kernel) rfl, ?_⟩
  refine List.forall_mem_cons.mpr ⟨s_aload_n (j := 0) (by decide +kernel) rfl rfl, ?_⟩
  refine List.forall_mem_cons.mpr ⟨s_getf (idx := 15) (C := RX7) (T := TX7) (N := 6) rfl inX7 (by decide) q1_31 (by decide +kernel) rfl, ?_⟩
  refine List.forall_mem_cons.mpr ⟨s_aload_n (j := 0) (by decide +kernel) rfl rfl, ?_⟩
  refine List.forall_mem_cons.mpr ⟨s_getf (idx := 28) (C := RX7) (T := TX7) (N := 6) rfl inX7 (by decide) q1_35 (by decide +kernel) rfl, ?_⟩
  refine List.forall_mem_cons.mpr ⟨s_iload_n (j := 3) (by decide +kernel) rfl rfl, ?_⟩
  refine List.forall_mem_cons.mpr ⟨s_iast (by decide +kernel) rfl, ?_⟩
  refine List.forall_mem_cons.mpr ⟨s_iconst (by decide +kernel) rfl, ?_⟩
  refine List.forall_mem_cons.mpr ⟨s_iret rfl (by decide +kernel), ?_⟩
  exact fun q hq => absurd hq List.not_mem_nil
def T_X7_readHeight : List (Nat × zO) := [(0, o_aload 1 0), (1, o_getf 4 7 5), (4, o_istore 5 1), (5, o_aload 6 0), (6, o_getf 9 7 3), (9, o_aload 10 0), (10, o_getf 13 7 4), (13, o_aload 14 0), (14, o_const 15 3), (15, o_callv 1 7 k_X7_readNumber 18), (18, o_iast 19), (19, o_aload 20 0), (20, o_getf 23 7 5), (23, o_iload 24 1), (24, o_icmp_ne 34 27), (27, o_aload 28 0), (28, o_getf 31 7 5), (31, o_goto 35), (34, o_const 35 (-1)), (35, o_iret)]
set_option maxRecDepth 20000 in
theorem t_X7_readHeight : ∀ q ∈ T_X7_readHeight, zS k_X7_readHeight q.1 q.2 := by
  unfold T_X7_readHeight
  refine List.forall_mem_cons.mpr ⟨s_aload_n (j := 0) (by decide +kernel) rfl rfl, ?_⟩
  refine List.forall_mem_cons.mpr ⟨s_getf (idx := 25) (C := RX7) (T := TX7) (N := 6) rfl inX7 (by decide) q1_37 (by decide +kernel) rfl, ?_⟩
  refine List.forall_mem_cons.mpr ⟨s_istore_n (j := 1) (by decide +kernel) rfl (by decide) rfl, ?_⟩
  refine List.forall_mem_cons.mpr ⟨s_aload_n (j := 0) (by decide +kernel) rfl rfl, ?_⟩
  refine List.forall_mem_cons.mpr ⟨s_getf (idx := 18) (C := RX7) (T := TX7) (N := 6) rfl inX7 (by decide) q1_33 (by decide +kernel) rfl, ?_⟩
  refine List.forall_mem_cons.mpr ⟨s_aload_n (j := 0) (by decide +kernel) rfl rfl, ?_⟩
  refine List.forall_mem_cons.mpr ⟨s_getf (idx := 28) (C := RX7) (T := TX7) (N := 6) rfl inX7 (by decide) q1_35 (by decide +kernel) rfl, ?_⟩
  refine List.forall_mem_cons.mpr ⟨s_aload_n (j := 0) (by decide +kernel) rfl rfl, ?_⟩
  refine List.forall_mem_cons.mpr ⟨s_iconst (by decide +kernel) rfl, ?_⟩
  refine List.forall_mem_cons.mpr ⟨s_callv (idx := 39) (k' := k_X7_readNumber) (T := TX7) (N := 6) rfl q2_123 q2_120 q2_122 qs_1 q1_2 de_X7_readNumber (by decide) (by decide +kernel) rfl, ?_⟩
  refine List.forall_mem_cons.mpr ⟨s_iast (by decide +kernel) rfl, ?_⟩
  refine List.forall_mem_cons.mpr ⟨s_aload_n (j := 0) (by decide +kernel) rfl rfl, ?_⟩
  refine List.forall_mem_cons.mpr ⟨s_getf (idx := 25) (C := RX7) (T := TX7) (N := 6) rfl inX7 (by decide) q1_37 (by decide +kernel) rfl, ?_⟩
  refine List.forall_mem_cons.mpr ⟨s_iload_n (j := 1) (by decide +kernel) rfl rfl, ?_⟩
  refine List.forall_mem_cons.mpr ⟨s_icmp_ne (off := 10) (by decide +kernel) (by decide) rfl, ?_⟩
  refine List.forall_mem_cons.mpr ⟨s_aload_n (j := 0) (by decide +kernel) rfl rfl, ?_⟩
  refine List.forall_mem_cons.mpr ⟨s_getf (idx := 25) (C := RX7) (T := TX7) (N := 6) rfl inX7 (by decide) q1_37 (by decide +kernel) rfl, ?_⟩
  refine List.forall_mem_cons.mpr ⟨s_goto (off := 4) (by decide +kernel) (by decide), ?_⟩
  refine List.forall_mem_cons.mpr ⟨s_iconst (by decide +kernel) rfl, ?_⟩
  refine List.forall_mem_cons.mpr ⟨s_iret rfl (by decide +kernel), ?_⟩
  exact fun q hq => absurd hq List.not_mem_nil
def T_X7_readNumber : List (Nat × zO) := [(0, o_const 1 0), (1, o_istore 2 2), (2, o_const 3 0), (3, o_istore 4 3), (4, o_iload 5 3), (5, o_iload 6 1), (6, o_icmp_ge 50 9), (9, o_aload 10 0), (10, o_callv 0 7 k_X7_digitIsNext 13), (13, o_if_eq 50 16), (16, o_iload 17 2), (17, o_const 19 10), (19, o_imul 20), (20, o_aload 21 0), (21, o_getf 24 7 0), (24, o_aload 25 0), (25, o_getf 28 7 5), (28, o_iald 29), (29, o_iadd 30), (30, o_const 32 48), (32, o_isub 33), (33, o_istore 34 2), (34, o_aload 35 0), (35, o_dup 36), (36, o_getf 39 7 5), (39, o_const 40 1), (40, o_iadd 41), (41, o_putf 44 7 5), (44, o_iinc 47 3 1), (47, o_goto 4), (50, o_iload 51 2), (51, o_iret)]
set_option maxRecDepth 20000 in
theorem t_X7_readNumber : ∀ q ∈ T_X7_readNumber, zS k_X7_readNumber q.1 q.2 := by
  unfold T_X7_readNumber
  refine List.forall_mem_cons.mpr ⟨s_iconst (by decide +kernel) rfl, ?_⟩
  refine List.forall_mem_cons.mpr ⟨s_istore_n (j := 2) (by decide +kernel) rfl (by decide) rfl, ?_⟩
  refine List.forall_mem_cons.mpr ⟨s_iconst (by decide +kernel) rfl, ?_⟩
  refine List.forall_mem_cons.mpr ⟨s_istore_n (j := 3) (by decide +kernel) rfl (by decide) rfl, ?_⟩
  refine List.forall_mem_cons.mpr ⟨s_iload_n (j := 3) (by decide +kernel) rfl rfl, ?_⟩
  refine List.forall_mem_cons.mpr ⟨s_iload_n (j := 1) (by decide +kernel) rfl rfl, ?_⟩
  refine List.forall_mem_cons.mpr ⟨s_icmp_ge (off := 44) (by decide +kernel) (by decide) rfl, ?_⟩
  refine List.forall_mem_cons.mpr ⟨s_aload_n (j := 0) (by decide +kernel) rfl rfl, ?_⟩
  refine List.forall_mem_cons.mpr ⟨s_callv (idx := 42) (k' := k_X7_digitIsNext) (T := TX7) (N := 6) rfl q2_127 q2_124 q2_126 qs_2 q1_2 de_X7_digitIsNext (by decide) (by decide +kernel) rfl, ?_⟩
  refine List.forall_mem_cons.mpr ⟨s_if_eq (off := 37) (by decide +kernel) (by decide) rfl, ?_⟩
  refine List.forall_mem_cons.mpr ⟨s_iload_n (j := 2) (by decide +kernel) rfl rfl, ?_⟩
  refine List.forall_mem_cons.mpr ⟨s_bipush (by decide +kernel) (by decide) rfl, ?_⟩
  refine List.forall_mem_cons.mpr ⟨s_imul (by decide +kernel) rfl, ?_⟩
  refine List.forall_mem_cons.mpr ⟨s_aload_n (j := 0) (by decide +kernel) rfl rfl, ?_⟩
  refine List.forall_mem_cons.mpr ⟨s_getf (idx := 9) (C := RX7) (T := TX7) (N := 6) rfl inX7 (by decide) q1_28 (by decide +kernel) rfl, ?_⟩
  refine List.forall_mem_cons.mpr ⟨s_aload_n (j := 0) (by decide +kernel) rfl rfl, ?_⟩
  refine List.forall_mem_cons.mpr ⟨s_getf (idx := 25) (C := RX7) (T := TX7) (N := 6) rfl inX7 (by decide) q1_37 (by decide +kernel) rfl, ?_⟩
  refine List.forall_mem_cons.mpr ⟨s_iald (by decide +kernel) rfl, ?_⟩
  refine List.forall_mem_cons.mpr ⟨s_iadd (by decide +kernel) rfl, ?_⟩
  refine List.forall_mem_cons.mpr ⟨s_bipush (by decide +kernel) (by decide) rfl, ?_⟩
  refine List.forall_mem_cons.mpr ⟨s_isub (by decide +kernel) rfl, ?_⟩
  refine List.forall_mem_cons.mpr ⟨s_istore_n (j := 2) (by decide +kernel) rfl (by decide) rfl, ?_⟩
  refine List.forall_mem_cons.mpr ⟨s_aload_n (j := 0) (by decide +kernel) rfl rfl, ?_⟩
  refine List.forall_mem_cons.mpr ⟨s_dup (by decide +kernel) rfl, ?_⟩
  refine List.forall_mem_cons.mpr ⟨s_getf (idx := 25) (C := RX7) (T := TX7) (N := 6) rfl inX7 (by decide) q1_37 (by decide +kernel) rfl, ?_⟩
  refine List.forall_mem_cons.mpr ⟨s_iconst (by decide +kernel) rfl, ?_⟩
  refine List.forall_mem_cons.mpr ⟨s_iadd (by decide +kernel) rfl, ?_⟩
  refine List.forall_mem_cons.mpr ⟨s_putf (idx := 25) (C := RX7) (T := TX7) (N := 6) rfl inX7 tyX7_ok nmX7 (by decide) rfl (tyX7_ok 5 (by decide)) (Or.inl ⟨rfl, kdI 7 5 (by decide)⟩) q1_37 (by decide +kernel) rfl, ?_⟩
  refine List.forall_mem_cons.mpr ⟨s_iinc (by decide +kernel) (by decide) rfl, ?_⟩
  refine List.forall_mem_cons.mpr ⟨s_goto (off := (-43)) (by decide +kernel) (by decide), ?_⟩
  refine List.forall_mem_cons.mpr ⟨s_iload_n (j := 2) (by decide +kernel) rfl rfl, ?_⟩
  refine List.forall_mem_cons.mpr ⟨s_iret rfl (by decide +kernel), ?_⟩
  exact fun q hq => absurd hq List.not_mem_nil
def T_X7_digitIsNext : List (Nat × zO) := [(0, o_aload 1 0), (1, o_getf 4 7 5), (4, o_aload 5 0), (5, o_getf 8 7 1), (8, o_icmp_ge 43 11), (11, o_aload 12 0), (12, o_getf 15 7 0), (15, o_aload 16 0), (16, o_getf 19 7 5), (19, o_iald 20), (20, o_const 22 48), (22, o_icmp_lt 43 25), (25, o_aload 26 0), (26, o_getf 29 7 0), (29, o_aload 30 0), (30, o_getf 33 7 5), (33, o_iald 34), (34, o_const 36 57), (36, o_icmp_gt 43 39), (39, o_const 40 1), (40, o_goto 44), (43, o_const 44 0), (44, o_zret)]
set_option maxRecDepth 20000 in
theorem t_X7_digitIsNext : ∀ q ∈ T_X7_digitIsNext, zS k_X7_digitIsNext q.1 q.2 := by
  unfold T_X7_digitIsNext
  refine List.forall_mem_cons.mpr ⟨s_aload_n (j := 0) (by decide +kernel) rfl rfl, ?_⟩
  refine List.forall_mem_cons.mpr ⟨s_getf (idx := 25) (C := RX7) (T := TX7) (N := 6) rfl inX7 (by decide) q1_37 (by decide +kernel) rfl, ?_⟩
  refine List.forall_mem_cons.mpr ⟨s_aload_n (j := 0) (by decide +kernel) rfl rfl, ?_⟩
  refine List.forall_mem_cons.mpr ⟨s_getf (idx := 21) (C := RX7) (T := TX7) (N := 6) rfl inX7 (by decide) q1_29 (by decide +kernel) rfl, ?_⟩
  refine List.forall_mem_cons.mpr ⟨s_icmp_ge (off := 35) (by decide +kernel) (by decide) rfl, ?_⟩
  refine List.forall_mem_cons.mpr ⟨s_aload_n (j := 0) (by decide +kernel) rfl rfl, ?_⟩
  refine List.forall_mem_cons.mpr ⟨s_getf (idx := 9) (C := RX7) (T := TX7) (N := 6) rfl inX7 (by decide) q1_28 (by decide +kernel) rfl, ?_⟩
  refine List.forall_mem_cons.mpr ⟨s_aload_n (j := 0) (by decide +kernel) rfl rfl, ?_⟩
  refine List.forall_mem_cons.mpr ⟨s_getf (idx := 25) (C := RX7) (T := TX7) (N := 6) rfl inX7 (by decide) q1_37 (by decide +kernel) rfl, ?_⟩
  refine List.forall_mem_cons.mpr ⟨s_iald (by decide +kernel) rfl, ?_⟩
  refine List.forall_mem_cons.mpr ⟨s_bipush (by decide +kernel) (by decide) rfl, ?_⟩
  refine List.forall_mem_cons.mpr ⟨s_icmp_lt (off := 21) (by decide +kernel) (by decide) rfl, ?_⟩
  refine List.forall_mem_cons.mpr ⟨s_aload_n (j := 0) (by decide +kernel) rfl rfl, ?_⟩
  refine List.forall_mem_cons.mpr ⟨s_getf (idx := 9) (C := RX7) (T := TX7) (N := 6) rfl inX7 (by decide) q1_28 (by decide +kernel) rfl, ?_⟩
  refine List.forall_mem_cons.mpr ⟨s_aload_n (j := 0) (by decide +kernel) rfl rfl, ?_⟩
  refine List.forall_mem_cons.mpr ⟨s_getf (idx := 25) (C := RX7) (T := TX7) (N := 6) rfl inX7 (by decide) q1_37 (by decide +kernel) rfl, ?_⟩
  refine List.forall_mem_cons.mpr ⟨s_iald (by decide +kernel) rfl, ?_⟩
  refine List.forall_mem_cons.mpr ⟨s_bipush (by decide +kernel) (by decide) rfl, ?_⟩
  refine List.forall_mem_cons.mpr ⟨s_icmp_gt (off := 7) (by decide +kernel) (by decide) rfl, ?_⟩
  refine List.forall_mem_cons.mpr ⟨s_iconst (by decide +kernel) rfl, ?_⟩
  refine List.forall_mem_cons.mpr ⟨s_goto (off := 4) (by decide +kernel) (by decide), ?_⟩
  refine List.forall_mem_cons.mpr ⟨s_iconst (by decide +kernel) rfl, ?_⟩
  refine List.forall_mem_cons.mpr ⟨s_zret rfl (by decide +kernel), ?_⟩
  exact fun q hq => absurd hq List.not_mem_nil
def T_J7_fill_d0a16 : List (Nat × zO) := [(0, o_const 1 0), (1, o_istore 2 3), (2, o_aload 3 0), (3, o_alen 4), (4, o_istore 6 4), (6, o_iload 7 3), (7, o_iload 9 4), (9, o_icmp_ge 22 12), (12, o_aload 13 0), (13, o_iload 14 3), (14, o_lload 15 1), (15, o_last 16), (16, o_iinc 19 3 1), (19, o_goto 6), (22, o_vret)]
set_option maxRecDepth 20000 in
theorem t_J7_fill_d0a16 : ∀ q ∈ T_J7_fill_d0a16, zS k_J7_fill_d0a16 q.1 q.2 := by
  unfold T_J7_fill_d0a16
  refine List.forall_mem_cons.mpr ⟨s_iconst (by decide +kernel) rfl, ?_⟩
  refine List.forall_mem_cons.mpr ⟨s_istore_n (j := 3) (by decide +kernel) rfl (by decide) rfl, ?_⟩
  refine List.forall_mem_cons.mpr ⟨s_aload_n (j := 0) (by decide +kernel) rfl rfl, ?_⟩
  refine List.forall_mem_cons.mpr ⟨s_alen (by decide +kernel) rfl, ?_⟩
  refine List.forall_mem_cons.mpr ⟨s_istore (by decide +kernel) (by decide) rfl, ?_⟩
  refine List.forall_mem_cons.mpr ⟨s_iload_n (j := 3) (by decide +kernel) rfl rfl, ?_⟩
  refine List.forall_mem_cons.mpr ⟨s_iload (by decide +kernel) rfl, ?_⟩
  refine List.forall_mem_cons.mpr ⟨s_icmp_ge (off := 13) (by decide +kernel) (by decide) rfl, ?_⟩
  refine List.forall_mem_cons.mpr ⟨s_aload_n (j := 0) (by decide +kernel) rfl rfl, ?_⟩
  refine List.forall_mem_cons.mpr ⟨s_iload_n (j := 3) (by decide +kernel) rfl rfl, ?_⟩
  refine List.forall_mem_cons.mpr ⟨s_lload_n (j := 1) (by decide +kernel) rfl rfl, ?_⟩
  refine List.forall_mem_cons.mpr ⟨s_last (by decide +kernel) rfl, ?_⟩
  refine List.forall_mem_cons.mpr ⟨s_iinc (by decide +kernel) (by decide) rfl, ?_⟩
  refine List.forall_mem_cons.mpr ⟨s_goto (off := (-13)) (by decide +kernel) (by decide), ?_⟩
  refine List.forall_mem_cons.mpr ⟨s_vret rfl (by decide +kernel), ?_⟩
  exact fun q hq => absurd hq List.not_mem_nil
def T_J7_fill_53178 : List (Nat × zO) := [(0, o_const 1 0), (1, o_istore 2 2), (2, o_aload 3 0), (3, o_alen 4), (4, o_istore 5 3), (5, o_iload 6 2), (6, o_iload 7 3), (7, o_icmp_ge 20 10), (10, o_aload 11 0), (11, o_iload 12 2), (12, o_iload 13 1), (13, o_iast 14), (14, o_iinc 17 2 1), (17, o_goto 5), (20, o_vret)]
set_option maxRecDepth 20000 in
theorem t_J7_fill_53178 : ∀ q ∈ T_J7_fill_53178, zS k_J7_fill_53178 q.1 q.2 := by
  unfold T_J7_fill_53178
  refine List.forall_mem_cons.mpr ⟨s_iconst (by decide +kernel) rfl, ?_⟩
  refine List.forall_mem_cons.mpr ⟨s_istore_n (j := 2) (by decide +kernel) rfl (by decide) rfl, ?_⟩
  refine List.forall_mem_cons.mpr ⟨s_aload_n (j := 0) (by decide +kernel) rfl rfl, ?_⟩
  refine List.forall_mem_cons.mpr ⟨s_alen (by decide +kernel) rfl, ?_⟩
  refine List.forall_mem_cons.mpr ⟨s_istore_n (j := 3) (by decide +kernel) rfl (by decide) rfl, ?_⟩
  refine List.forall_mem_cons.mpr ⟨s_iload_n (j := 2) (by decide +kernel) rfl rfl, ?_⟩
  refine List.forall_mem_cons.mpr ⟨s_iload_n (j := 3) (by decide +kernel) rfl rfl, ?_⟩
  refine List.forall_mem_cons.mpr ⟨s_icmp_ge (off := 13) (by decide +kernel) (by decide) rfl, ?_⟩
  refine List.forall_mem_cons.mpr ⟨s_aload_n (j := 0) (by decide +kernel) rfl rfl, ?_⟩
  refine List.forall_mem_cons.mpr ⟨s_iload_n (j := 2) (by decide +kernel) rfl rfl, ?_⟩
  refine List.forall_mem_cons.mpr ⟨s_iload_n (j := 1) (by decide +kernel) rfl rfl, ?_⟩
  refine List.forall_mem_cons.mpr ⟨s_iast (by decide +kernel) rfl, ?_⟩
  refine List.forall_mem_cons.mpr ⟨s_iinc (by decide +kernel) (by decide) rfl, ?_⟩
  refine List.forall_mem_cons.mpr ⟨s_goto (off := (-12)) (by decide +kernel) (by decide), ?_⟩
  refine List.forall_mem_cons.mpr ⟨s_vret rfl (by decide +kernel), ?_⟩
  exact fun q hq => absurd hq List.not_mem_nil
end
