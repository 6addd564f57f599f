section
-- ===== PART A: goes FIRST, ahead of the names: the tables' words, and 'selects' of the private methods out of them =====
/-- a private method of a class that the tables say can be made, by its rows of tables_1 -/
def lw_okq (q : MethodName × Nat) : Prop := (q.1.cls ≠ "java/lang/invoke/MethodHandle" ∧ q.1.cls ≠ "java/lang/invoke/VarHandle") ∧ Cond.instantiable q.1.cls q.2 ∈ tables_1 ∧ Cond.privateMethod q.1 ∈ tables_1 ∧ Cond.instanceMethod q.1 ∈ tables_1
theorem lw_p0 : lw_okq (⟨"HumanSteps$Grid", "layLines", "()V"⟩, 9) := ⟨⟨by decide +kernel, by decide +kernel⟩, List.mem_of_getElem? (i := 36) (by decide +kernel), List.mem_of_getElem? (i := 42) (by decide +kernel), List.mem_of_getElem? (i := 43) (by decide +kernel)⟩
theorem lw_p1 : lw_okq (⟨"HumanSteps$Grid", "lay", "(IIII)V"⟩, 9) := ⟨⟨by decide +kernel, by decide +kernel⟩, List.mem_of_getElem? (i := 36) (by decide +kernel), List.mem_of_getElem? (i := 46) (by decide +kernel), List.mem_of_getElem? (i := 47) (by decide +kernel)⟩
theorem lw_p2 : lw_okq (⟨"HumanSteps$Grid", "layBoxes", "(II)V"⟩, 9) := ⟨⟨by decide +kernel, by decide +kernel⟩, List.mem_of_getElem? (i := 36) (by decide +kernel), List.mem_of_getElem? (i := 50) (by decide +kernel), List.mem_of_getElem? (i := 51) (by decide +kernel)⟩
theorem lw_p3 : lw_okq (⟨"HumanSteps$Grid", "fill", "()V"⟩, 9) := ⟨⟨by decide +kernel, by decide +kernel⟩, List.mem_of_getElem? (i := 36) (by decide +kernel), List.mem_of_getElem? (i := 54) (by decide +kernel), List.mem_of_getElem? (i := 55) (by decide +kernel)⟩
theorem lw_p4 : lw_okq (⟨"HumanSteps$Sets", "gather", "(III)V"⟩, 4) := ⟨⟨by decide +kernel, by decide +kernel⟩, List.mem_of_getElem? (i := 137) (by decide +kernel), List.mem_of_getElem? (i := 143) (by decide +kernel), List.mem_of_getElem? (i := 144) (by decide +kernel)⟩
theorem lw_p5 : lw_okq (⟨"HumanSteps$Seeker", "last", "()Z"⟩, 6) := ⟨⟨by decide +kernel, by decide +kernel⟩, List.mem_of_getElem? (i := 30) (by decide +kernel), List.mem_of_getElem? (i := 259) (by decide +kernel), List.mem_of_getElem? (i := 260) (by decide +kernel)⟩
theorem lw_p6 : lw_okq (⟨"HumanSteps$Seeker", "onlyPlace", "(I)Z"⟩, 6) := ⟨⟨by decide +kernel, by decide +kernel⟩, List.mem_of_getElem? (i := 30) (by decide +kernel), List.mem_of_getElem? (i := 293) (by decide +kernel), List.mem_of_getElem? (i := 294) (by decide +kernel)⟩
theorem lw_p7 : lw_okq (⟨"HumanSteps$Seeker", "isOpenIn", "(II)Z"⟩, 6) := ⟨⟨by decide +kernel, by decide +kernel⟩, List.mem_of_getElem? (i := 30) (by decide +kernel), List.mem_of_getElem? (i := 301) (by decide +kernel), List.mem_of_getElem? (i := 302) (by decide +kernel)⟩
theorem lw_p8 : lw_okq (⟨"HumanSteps$Seeker", "becauseOf", "(II)V"⟩, 6) := ⟨⟨by decide +kernel, by decide +kernel⟩, List.mem_of_getElem? (i := 30) (by decide +kernel), List.mem_of_getElem? (i := 309) (by decide +kernel), List.mem_of_getElem? (i := 310) (by decide +kernel)⟩
theorem lw_p9 : lw_okq (⟨"HumanSteps$Seeker", "pointing", "()Z"⟩, 6) := ⟨⟨by decide +kernel, by decide +kernel⟩, List.mem_of_getElem? (i := 30) (by decide +kernel), List.mem_of_getElem? (i := 313) (by decide +kernel), List.mem_of_getElem? (i := 314) (by decide +kernel)⟩
theorem lw_p10 : lw_okq (⟨"HumanSteps$Seeker", "confined", "(III)Z"⟩, 6) := ⟨⟨by decide +kernel, by decide +kernel⟩, List.mem_of_getElem? (i := 30) (by decide +kernel), List.mem_of_getElem? (i := 317) (by decide +kernel), List.mem_of_getElem? (i := 318) (by decide +kernel)⟩
theorem lw_p11 : lw_okq (⟨"HumanSteps$Seeker", "sharedHouse", "(III)I"⟩, 6) := ⟨⟨by decide +kernel, by decide +kernel⟩, List.mem_of_getElem? (i := 30) (by decide +kernel), List.mem_of_getElem? (i := 321) (by decide +kernel), List.mem_of_getElem? (i := 322) (by decide +kernel)⟩
theorem lw_p12 : lw_okq (⟨"HumanSteps$Seeker", "takesSome", "()Z"⟩, 6) := ⟨⟨by decide +kernel, by decide +kernel⟩, List.mem_of_getElem? (i := 30) (by decide +kernel), List.mem_of_getElem? (i := 334) (by decide +kernel), List.mem_of_getElem? (i := 335) (by decide +kernel)⟩
theorem lw_p13 : lw_okq (⟨"HumanSteps$Seeker", "claiming", "()Z"⟩, 6) := ⟨⟨by decide +kernel, by decide +kernel⟩, List.mem_of_getElem? (i := 30) (by decide +kernel), List.mem_of_getElem? (i := 338) (by decide +kernel), List.mem_of_getElem? (i := 339) (by decide +kernel)⟩
theorem lw_p14 : lw_okq (⟨"HumanSteps$Seeker", "nakedSet", "(I)Z"⟩, 6) := ⟨⟨by decide +kernel, by decide +kernel⟩, List.mem_of_getElem? (i := 30) (by decide +kernel), List.mem_of_getElem? (i := 342) (by decide +kernel), List.mem_of_getElem? (i := 343) (by decide +kernel)⟩
theorem lw_p15 : lw_okq (⟨"HumanSteps$Seeker", "fitItems", "(I)I"⟩, 6) := ⟨⟨by decide +kernel, by decide +kernel⟩, List.mem_of_getElem? (i := 30) (by decide +kernel), List.mem_of_getElem? (i := 346) (by decide +kernel), List.mem_of_getElem? (i := 347) (by decide +kernel)⟩
def lw_privs_1 : List (MethodName × Nat) := [(⟨"HumanSteps$Grid", "layLines", "()V"⟩, 9), (⟨"HumanSteps$Grid", "lay", "(IIII)V"⟩, 9), (⟨"HumanSteps$Grid", "layBoxes", "(II)V"⟩, 9), (⟨"HumanSteps$Grid", "fill", "()V"⟩, 9), (⟨"HumanSteps$Sets", "gather", "(III)V"⟩, 4), (⟨"HumanSteps$Seeker", "last", "()Z"⟩, 6), (⟨"HumanSteps$Seeker", "onlyPlace", "(I)Z"⟩, 6), (⟨"HumanSteps$Seeker", "isOpenIn", "(II)Z"⟩, 6), (⟨"HumanSteps$Seeker", "becauseOf", "(II)V"⟩, 6), (⟨"HumanSteps$Seeker", "pointing", "()Z"⟩, 6), (⟨"HumanSteps$Seeker", "confined", "(III)Z"⟩, 6), (⟨"HumanSteps$Seeker", "sharedHouse", "(III)I"⟩, 6), (⟨"HumanSteps$Seeker", "takesSome", "()Z"⟩, 6), (⟨"HumanSteps$Seeker", "claiming", "()Z"⟩, 6), (⟨"HumanSteps$Seeker", "nakedSet", "(I)Z"⟩, 6), (⟨"HumanSteps$Seeker", "fitItems", "(I)I"⟩, 6)]
theorem lw_r1 : ∀ q ∈ lw_privs_1, lw_okq q := List.forall_mem_cons.mpr ⟨lw_p0, List.forall_mem_cons.mpr ⟨lw_p1, List.forall_mem_cons.mpr ⟨lw_p2, List.forall_mem_cons.mpr ⟨lw_p3, List.forall_mem_cons.mpr ⟨lw_p4, List.forall_mem_cons.mpr ⟨lw_p5, List.forall_mem_cons.mpr ⟨lw_p6, List.forall_mem_cons.mpr ⟨lw_p7, List.forall_mem_cons.mpr ⟨lw_p8, List.forall_mem_cons.mpr ⟨lw_p9, List.forall_mem_cons.mpr ⟨lw_p10, List.forall_mem_cons.mpr ⟨lw_p11, List.forall_mem_cons.mpr ⟨lw_p12, List.forall_mem_cons.mpr ⟨lw_p13, List.forall_mem_cons.mpr ⟨lw_p14, List.forall_mem_cons.mpr ⟨lw_p15, fun _ h => absurd h List.not_mem_nil⟩⟩⟩⟩⟩⟩⟩⟩⟩⟩⟩⟩⟩⟩⟩⟩
theorem lw_p16 : lw_okq (⟨"HumanSteps$Seeker", "isCovered", "(III)Z"⟩, 6) := ⟨⟨by decide +kernel, by decide +kernel⟩, List.mem_of_getElem? (i := 30) (by decide +kernel), List.mem_of_getElem? (i := 362) (by decide +kernel), List.mem_of_getElem? (i := 363) (by decide +kernel)⟩
theorem lw_p17 : lw_okq (⟨"HumanSteps$Seeker", "unionOf", "(I)I"⟩, 6) := ⟨⟨by decide +kernel, by decide +kernel⟩, List.mem_of_getElem? (i := 30) (by decide +kernel), List.mem_of_getElem? (i := 366) (by decide +kernel), List.mem_of_getElem? (i := 367) (by decide +kernel)⟩
theorem lw_p18 : lw_okq (⟨"HumanSteps$Seeker", "strikePlaces", "(III)V"⟩, 6) := ⟨⟨by decide +kernel, by decide +kernel⟩, List.mem_of_getElem? (i := 30) (by decide +kernel), List.mem_of_getElem? (i := 370) (by decide +kernel), List.mem_of_getElem? (i := 371) (by decide +kernel)⟩
theorem lw_p19 : lw_okq (⟨"HumanSteps$Seeker", "hiddenSet", "(I)Z"⟩, 6) := ⟨⟨by decide +kernel, by decide +kernel⟩, List.mem_of_getElem? (i := 30) (by decide +kernel), List.mem_of_getElem? (i := 374) (by decide +kernel), List.mem_of_getElem? (i := 375) (by decide +kernel)⟩
theorem lw_p20 : lw_okq (⟨"HumanSteps$Seeker", "crossing", "(II)Z"⟩, 6) := ⟨⟨by decide +kernel, by decide +kernel⟩, List.mem_of_getElem? (i := 30) (by decide +kernel), List.mem_of_getElem? (i := 378) (by decide +kernel), List.mem_of_getElem? (i := 379) (by decide +kernel)⟩
theorem lw_p21 : lw_okq (⟨"HumanSteps$Seeker", "crossingAt", "(III)Z"⟩, 6) := ⟨⟨by decide +kernel, by decide +kernel⟩, List.mem_of_getElem? (i := 30) (by decide +kernel), List.mem_of_getElem? (i := 382) (by decide +kernel), List.mem_of_getElem? (i := 383) (by decide +kernel)⟩
theorem lw_p22 : lw_okq (⟨"HumanSteps$Seeker", "wing", "(I)Z"⟩, 6) := ⟨⟨by decide +kernel, by decide +kernel⟩, List.mem_of_getElem? (i := 30) (by decide +kernel), List.mem_of_getElem? (i := 386) (by decide +kernel), List.mem_of_getElem? (i := 387) (by decide +kernel)⟩
theorem lw_p23 : lw_okq (⟨"HumanSteps$Seeker", "isWingtip", "(II)Z"⟩, 6) := ⟨⟨by decide +kernel, by decide +kernel⟩, List.mem_of_getElem? (i := 30) (by decide +kernel), List.mem_of_getElem? (i := 390) (by decide +kernel), List.mem_of_getElem? (i := 391) (by decide +kernel)⟩
theorem lw_p24 : lw_okq (⟨"HumanSteps$Seeker", "wingAt", "(IIII)Z"⟩, 6) := ⟨⟨by decide +kernel, by decide +kernel⟩, List.mem_of_getElem? (i := 30) (by decide +kernel), List.mem_of_getElem? (i := 394) (by decide +kernel), List.mem_of_getElem? (i := 395) (by decide +kernel)⟩
theorem lw_p25 : lw_okq (⟨"HumanSteps$Colours", "join", "(LHumanSteps$Grid;II)V"⟩, 3) := ⟨⟨by decide +kernel, by decide +kernel⟩, List.mem_of_getElem? (i := 160) (by decide +kernel), List.mem_of_getElem? (i := 402) (by decide +kernel), List.mem_of_getElem? (i := 403) (by decide +kernel)⟩
theorem lw_p26 : lw_okq (⟨"HumanSteps$Colours", "colour", "(II)V"⟩, 3) := ⟨⟨by decide +kernel, by decide +kernel⟩, List.mem_of_getElem? (i := 160) (by decide +kernel), List.mem_of_getElem? (i := 406) (by decide +kernel), List.mem_of_getElem? (i := 407) (by decide +kernel)⟩
theorem lw_p27 : lw_okq (⟨"HumanSteps$Colours", "linkedCell", "(LHumanSteps$Grid;III)I"⟩, 3) := ⟨⟨by decide +kernel, by decide +kernel⟩, List.mem_of_getElem? (i := 160) (by decide +kernel), List.mem_of_getElem? (i := 410) (by decide +kernel), List.mem_of_getElem? (i := 411) (by decide +kernel)⟩
theorem lw_p28 : lw_okq (⟨"HumanSteps$Colours", "takes", "(LHumanSteps$Grid;LHumanSteps$Finding;I)Z"⟩, 3) := ⟨⟨by decide +kernel, by decide +kernel⟩, List.mem_of_getElem? (i := 160) (by decide +kernel), List.mem_of_getElem? (i := 419) (by decide +kernel), List.mem_of_getElem? (i := 420) (by decide +kernel)⟩
theorem lw_p29 : lw_okq (⟨"HumanSteps$Colours", "clash", "(LHumanSteps$Grid;I)Z"⟩, 3) := ⟨⟨by decide +kernel, by decide +kernel⟩, List.mem_of_getElem? (i := 160) (by decide +kernel), List.mem_of_getElem? (i := 423) (by decide +kernel), List.mem_of_getElem? (i := 424) (by decide +kernel)⟩
theorem lw_p30 : lw_okq (⟨"HumanSteps$Colours", "strikeColour", "(LHumanSteps$Finding;II)V"⟩, 3) := ⟨⟨by decide +kernel, by decide +kernel⟩, List.mem_of_getElem? (i := 160) (by decide +kernel), List.mem_of_getElem? (i := 428) (by decide +kernel), List.mem_of_getElem? (i := 429) (by decide +kernel)⟩
theorem lw_p31 : lw_okq (⟨"HumanSteps$Colours", "strikeOthers", "(LHumanSteps$Grid;LHumanSteps$Finding;I)V"⟩, 3) := ⟨⟨by decide +kernel, by decide +kernel⟩, List.mem_of_getElem? (i := 160) (by decide +kernel), List.mem_of_getElem? (i := 433) (by decide +kernel), List.mem_of_getElem? (i := 434) (by decide +kernel)⟩
def lw_privs_2 : List (MethodName × Nat) := [(⟨"HumanSteps$Seeker", "isCovered", "(III)Z"⟩, 6), (⟨"HumanSteps$Seeker", "unionOf", "(I)I"⟩, 6), (⟨"HumanSteps$Seeker", "strikePlaces", "(III)V"⟩, 6), (⟨"HumanSteps$Seeker", "hiddenSet", "(I)Z"⟩, 6), (⟨"HumanSteps$Seeker", "crossing", "(II)Z"⟩, 6), (⟨"HumanSteps$Seeker", "crossingAt", "(III)Z"⟩, 6), (⟨"HumanSteps$Seeker", "wing", "(I)Z"⟩, 6), (⟨"HumanSteps$Seeker", "isWingtip", "(II)Z"⟩, 6), (⟨"HumanSteps$Seeker", "wingAt", "(IIII)Z"⟩, 6), (⟨"HumanSteps$Colours", "join", "(LHumanSteps$Grid;II)V"⟩, 3), (⟨"HumanSteps$Colours", "colour", "(II)V"⟩, 3), (⟨"HumanSteps$Colours", "linkedCell", "(LHumanSteps$Grid;III)I"⟩, 3), (⟨"HumanSteps$Colours", "takes", "(LHumanSteps$Grid;LHumanSteps$Finding;I)Z"⟩, 3), (⟨"HumanSteps$Colours", "clash", "(LHumanSteps$Grid;I)Z"⟩, 3), (⟨"HumanSteps$Colours", "strikeColour", "(LHumanSteps$Finding;II)V"⟩, 3), (⟨"HumanSteps$Colours", "strikeOthers", "(LHumanSteps$Grid;LHumanSteps$Finding;I)V"⟩, 3)]
theorem lw_r2 : ∀ q ∈ lw_privs_2, lw_okq q := List.forall_mem_cons.mpr ⟨lw_p16, List.forall_mem_cons.mpr ⟨lw_p17, List.forall_mem_cons.mpr ⟨lw_p18, List.forall_mem_cons.mpr ⟨lw_p19, List.forall_mem_cons.mpr ⟨lw_p20, List.forall_mem_cons.mpr ⟨lw_p21, List.forall_mem_cons.mpr ⟨lw_p22, List.forall_mem_cons.mpr ⟨lw_p23, List.forall_mem_cons.mpr ⟨lw_p24, List.forall_mem_cons.mpr ⟨lw_p25, List.forall_mem_cons.mpr ⟨lw_p26, List.forall_mem_cons.mpr ⟨lw_p27, List.forall_mem_cons.mpr ⟨lw_p28, List.forall_mem_cons.mpr ⟨lw_p29, List.forall_mem_cons.mpr ⟨lw_p30, List.forall_mem_cons.mpr ⟨lw_p31, fun _ h => absurd h List.not_mem_nil⟩⟩⟩⟩⟩⟩⟩⟩⟩⟩⟩⟩⟩⟩⟩⟩
theorem lw_p32 : lw_okq (⟨"HumanSteps$Colours", "leaveBehind", "()V"⟩, 3) := ⟨⟨by decide +kernel, by decide +kernel⟩, List.mem_of_getElem? (i := 160) (by decide +kernel), List.mem_of_getElem? (i := 438) (by decide +kernel), List.mem_of_getElem? (i := 439) (by decide +kernel)⟩
theorem lw_p33 : lw_okq (⟨"HumanSteps$Seeker", "onlyOneAnswer", "()Z"⟩, 6) := ⟨⟨by decide +kernel, by decide +kernel⟩, List.mem_of_getElem? (i := 30) (by decide +kernel), List.mem_of_getElem? (i := 442) (by decide +kernel), List.mem_of_getElem? (i := 443) (by decide +kernel)⟩
theorem lw_p34 : lw_okq (⟨"HumanSteps$Seeker", "rectangleAt", "(IIII)Z"⟩, 6) := ⟨⟨by decide +kernel, by decide +kernel⟩, List.mem_of_getElem? (i := 30) (by decide +kernel), List.mem_of_getElem? (i := 446) (by decide +kernel), List.mem_of_getElem? (i := 447) (by decide +kernel)⟩
theorem lw_p35 : lw_okq (⟨"HumanSteps$Seeker", "isInTwoBoxes", "(III)Z"⟩, 6) := ⟨⟨by decide +kernel, by decide +kernel⟩, List.mem_of_getElem? (i := 30) (by decide +kernel), List.mem_of_getElem? (i := 450) (by decide +kernel), List.mem_of_getElem? (i := 451) (by decide +kernel)⟩
theorem lw_p36 : lw_okq (⟨"HumanSteps$Seeker", "fourth", "(IIII)Z"⟩, 6) := ⟨⟨by decide +kernel, by decide +kernel⟩, List.mem_of_getElem? (i := 30) (by decide +kernel), List.mem_of_getElem? (i := 454) (by decide +kernel), List.mem_of_getElem? (i := 455) (by decide +kernel)⟩
theorem lw_p37 : lw_okq (⟨"HumanSteps", "performFound", "()V"⟩, 6) := ⟨⟨by decide +kernel, by decide +kernel⟩, List.mem_of_getElem? (i := 22) (by decide +kernel), List.mem_of_getElem? (i := 482) (by decide +kernel), List.mem_of_getElem? (i := 483) (by decide +kernel)⟩
theorem lw_p38 : lw_okq (⟨"HumanSteps", "carryOut", "()V"⟩, 6) := ⟨⟨by decide +kernel, by decide +kernel⟩, List.mem_of_getElem? (i := 22) (by decide +kernel), List.mem_of_getElem? (i := 486) (by decide +kernel), List.mem_of_getElem? (i := 487) (by decide +kernel)⟩
theorem lw_p39 : lw_okq (⟨"HumanSteps", "allTimes", "()I"⟩, 6) := ⟨⟨by decide +kernel, by decide +kernel⟩, List.mem_of_getElem? (i := 22) (by decide +kernel), List.mem_of_getElem? (i := 540) (by decide +kernel), List.mem_of_getElem? (i := 541) (by decide +kernel)⟩
theorem lw_p40 : lw_okq (⟨"HumanSteps", "letterOfCell", "(II)I"⟩, 6) := ⟨⟨by decide +kernel, by decide +kernel⟩, List.mem_of_getElem? (i := 22) (by decide +kernel), List.mem_of_getElem? (i := 598) (by decide +kernel), List.mem_of_getElem? (i := 599) (by decide +kernel)⟩
theorem lw_p41 : lw_okq (⟨"HumanSteps", "checkCell", "(I)V"⟩, 6) := ⟨⟨by decide +kernel, by decide +kernel⟩, List.mem_of_getElem? (i := 22) (by decide +kernel), List.mem_of_getElem? (i := 622) (by decide +kernel), List.mem_of_getElem? (i := 623) (by decide +kernel)⟩
theorem lw_p42 : lw_okq (⟨"java/lang/Throwable", "fillInStackTrace", "(I)Ljava/lang/Throwable;"⟩, 6) := ⟨⟨by decide +kernel, by decide +kernel⟩, List.mem_of_getElem? (i := 665) (by decide +kernel), List.mem_of_getElem? (i := 663) (by decide +kernel), List.mem_of_getElem? (i := 664) (by decide +kernel)⟩
theorem lw_p43 : lw_okq (⟨"HumanSteps", "checkSymbol", "(I)V"⟩, 6) := ⟨⟨by decide +kernel, by decide +kernel⟩, List.mem_of_getElem? (i := 22) (by decide +kernel), List.mem_of_getElem? (i := 698) (by decide +kernel), List.mem_of_getElem? (i := 699) (by decide +kernel)⟩
theorem lw_p44 : lw_okq (⟨"HumanSteps", "isOpenCandidate", "(II)Z"⟩, 6) := ⟨⟨by decide +kernel, by decide +kernel⟩, List.mem_of_getElem? (i := 22) (by decide +kernel), List.mem_of_getElem? (i := 718) (by decide +kernel), List.mem_of_getElem? (i := 719) (by decide +kernel)⟩
theorem lw_p45 : lw_okq (⟨"HumanSteps", "forgetSteps", "()V"⟩, 6) := ⟨⟨by decide +kernel, by decide +kernel⟩, List.mem_of_getElem? (i := 22) (by decide +kernel), List.mem_of_getElem? (i := 724) (by decide +kernel), List.mem_of_getElem? (i := 725) (by decide +kernel)⟩
theorem lw_p46 : lw_okq (⟨"HumanSteps", "checkStep", "(I)V"⟩, 6) := ⟨⟨by decide +kernel, by decide +kernel⟩, List.mem_of_getElem? (i := 22) (by decide +kernel), List.mem_of_getElem? (i := 746) (by decide +kernel), List.mem_of_getElem? (i := 747) (by decide +kernel)⟩
theorem lw_p47 : lw_okq (⟨"HumanStepsModel", "cells", "()I"⟩, 23) := ⟨⟨by decide +kernel, by decide +kernel⟩, List.mem_of_getElem? (i := 772) (by decide +kernel), List.mem_of_getElem? (i := 779) (by decide +kernel), List.mem_of_getElem? (i := 780) (by decide +kernel)⟩
def lw_privs_3 : List (MethodName × Nat) := [(⟨"HumanSteps$Colours", "leaveBehind", "()V"⟩, 3), (⟨"HumanSteps$Seeker", "onlyOneAnswer", "()Z"⟩, 6), (⟨"HumanSteps$Seeker", "rectangleAt", "(IIII)Z"⟩, 6), (⟨"HumanSteps$Seeker", "isInTwoBoxes", "(III)Z"⟩, 6), (⟨"HumanSteps$Seeker", "fourth", "(IIII)Z"⟩, 6), (⟨"HumanSteps", "performFound", "()V"⟩, 6), (⟨"HumanSteps", "carryOut", "()V"⟩, 6), (⟨"HumanSteps", "allTimes", "()I"⟩, 6), (⟨"HumanSteps", "letterOfCell", "(II)I"⟩, 6), (⟨"HumanSteps", "checkCell", "(I)V"⟩, 6), (⟨"java/lang/Throwable", "fillInStackTrace", "(I)Ljava/lang/Throwable;"⟩, 6), (⟨"HumanSteps", "checkSymbol", "(I)V"⟩, 6), (⟨"HumanSteps", "isOpenCandidate", "(II)Z"⟩, 6), (⟨"HumanSteps", "forgetSteps", "()V"⟩, 6), (⟨"HumanSteps", "checkStep", "(I)V"⟩, 6), (⟨"HumanStepsModel", "cells", "()I"⟩, 23)]
theorem lw_r3 : ∀ q ∈ lw_privs_3, lw_okq q := List.forall_mem_cons.mpr ⟨lw_p32, List.forall_mem_cons.mpr ⟨lw_p33, List.forall_mem_cons.mpr ⟨lw_p34, List.forall_mem_cons.mpr ⟨lw_p35, List.forall_mem_cons.mpr ⟨lw_p36, List.forall_mem_cons.mpr ⟨lw_p37, List.forall_mem_cons.mpr ⟨lw_p38, List.forall_mem_cons.mpr ⟨lw_p39, List.forall_mem_cons.mpr ⟨lw_p40, List.forall_mem_cons.mpr ⟨lw_p41, List.forall_mem_cons.mpr ⟨lw_p42, List.forall_mem_cons.mpr ⟨lw_p43, List.forall_mem_cons.mpr ⟨lw_p44, List.forall_mem_cons.mpr ⟨lw_p45, List.forall_mem_cons.mpr ⟨lw_p46, List.forall_mem_cons.mpr ⟨lw_p47, fun _ h => absurd h List.not_mem_nil⟩⟩⟩⟩⟩⟩⟩⟩⟩⟩⟩⟩⟩⟩⟩⟩
theorem lw_p48 : lw_okq (⟨"HumanStepsModel", "isCell", "(I)Z"⟩, 23) := ⟨⟨by decide +kernel, by decide +kernel⟩, List.mem_of_getElem? (i := 772) (by decide +kernel), List.mem_of_getElem? (i := 861) (by decide +kernel), List.mem_of_getElem? (i := 862) (by decide +kernel)⟩
theorem lw_p49 : lw_okq (⟨"HumanStepsModel", "fails", "(IZ)Z"⟩, 23) := ⟨⟨by decide +kernel, by decide +kernel⟩, List.mem_of_getElem? (i := 772) (by decide +kernel), List.mem_of_getElem? (i := 865) (by decide +kernel), List.mem_of_getElem? (i := 866) (by decide +kernel)⟩
theorem lw_p50 : lw_okq (⟨"HumanStepsModel", "isSymbol", "(I)Z"⟩, 23) := ⟨⟨by decide +kernel, by decide +kernel⟩, List.mem_of_getElem? (i := 772) (by decide +kernel), List.mem_of_getElem? (i := 869) (by decide +kernel), List.mem_of_getElem? (i := 870) (by decide +kernel)⟩
theorem lw_p51 : lw_okq (⟨"HumanStepsModel", "has", "(II)Z"⟩, 23) := ⟨⟨by decide +kernel, by decide +kernel⟩, List.mem_of_getElem? (i := 772) (by decide +kernel), List.mem_of_getElem? (i := 873) (by decide +kernel), List.mem_of_getElem? (i := 874) (by decide +kernel)⟩
theorem lw_p52 : lw_okq (⟨"HumanStepsModel", "put", "(II)V"⟩, 23) := ⟨⟨by decide +kernel, by decide +kernel⟩, List.mem_of_getElem? (i := 772) (by decide +kernel), List.mem_of_getElem? (i := 877) (by decide +kernel), List.mem_of_getElem? (i := 878) (by decide +kernel)⟩
theorem lw_p53 : lw_okq (⟨"HumanStepsModel", "sees", "(II)Z"⟩, 23) := ⟨⟨by decide +kernel, by decide +kernel⟩, List.mem_of_getElem? (i := 772) (by decide +kernel), List.mem_of_getElem? (i := 881) (by decide +kernel), List.mem_of_getElem? (i := 882) (by decide +kernel)⟩
theorem lw_p54 : lw_okq (⟨"HumanStepsModel", "boxOf", "(I)I"⟩, 23) := ⟨⟨by decide +kernel, by decide +kernel⟩, List.mem_of_getElem? (i := 772) (by decide +kernel), List.mem_of_getElem? (i := 885) (by decide +kernel), List.mem_of_getElem? (i := 886) (by decide +kernel)⟩
theorem lw_p55 : lw_okq (⟨"HumanStepsModel", "changed", "()V"⟩, 23) := ⟨⟨by decide +kernel, by decide +kernel⟩, List.mem_of_getElem? (i := 772) (by decide +kernel), List.mem_of_getElem? (i := 889) (by decide +kernel), List.mem_of_getElem? (i := 890) (by decide +kernel)⟩
theorem lw_p56 : lw_okq (⟨"HumanStepsModel", "search", "()I"⟩, 23) := ⟨⟨by decide +kernel, by decide +kernel⟩, List.mem_of_getElem? (i := 772) (by decide +kernel), List.mem_of_getElem? (i := 905) (by decide +kernel), List.mem_of_getElem? (i := 906) (by decide +kernel)⟩
theorem lw_p57 : lw_okq (⟨"HumanStepsModel", "isBroken", "()Z"⟩, 23) := ⟨⟨by decide +kernel, by decide +kernel⟩, List.mem_of_getElem? (i := 772) (by decide +kernel), List.mem_of_getElem? (i := 909) (by decide +kernel), List.mem_of_getElem? (i := 910) (by decide +kernel)⟩
theorem lw_p58 : lw_okq (⟨"HumanStepsModel", "places", "(II)I"⟩, 23) := ⟨⟨by decide +kernel, by decide +kernel⟩, List.mem_of_getElem? (i := 772) (by decide +kernel), List.mem_of_getElem? (i := 913) (by decide +kernel), List.mem_of_getElem? (i := 914) (by decide +kernel)⟩
theorem lw_p59 : lw_okq (⟨"HumanStepsModel", "at", "(II)I"⟩, 23) := ⟨⟨by decide +kernel, by decide +kernel⟩, List.mem_of_getElem? (i := 772) (by decide +kernel), List.mem_of_getElem? (i := 917) (by decide +kernel), List.mem_of_getElem? (i := 918) (by decide +kernel)⟩
theorem lw_p60 : lw_okq (⟨"HumanStepsModel", "look", "(I)Z"⟩, 23) := ⟨⟨by decide +kernel, by decide +kernel⟩, List.mem_of_getElem? (i := 772) (by decide +kernel), List.mem_of_getElem? (i := 921) (by decide +kernel), List.mem_of_getElem? (i := 922) (by decide +kernel)⟩
theorem lw_p61 : lw_okq (⟨"HumanStepsModel", "none", "()V"⟩, 23) := ⟨⟨by decide +kernel, by decide +kernel⟩, List.mem_of_getElem? (i := 772) (by decide +kernel), List.mem_of_getElem? (i := 925) (by decide +kernel), List.mem_of_getElem? (i := 926) (by decide +kernel)⟩
theorem lw_p62 : lw_okq (⟨"HumanStepsModel", "last", "()Z"⟩, 23) := ⟨⟨by decide +kernel, by decide +kernel⟩, List.mem_of_getElem? (i := 772) (by decide +kernel), List.mem_of_getElem? (i := 929) (by decide +kernel), List.mem_of_getElem? (i := 930) (by decide +kernel)⟩
theorem lw_p63 : lw_okq (⟨"HumanStepsModel", "sets", "(II)Z"⟩, 23) := ⟨⟨by decide +kernel, by decide +kernel⟩, List.mem_of_getElem? (i := 772) (by decide +kernel), List.mem_of_getElem? (i := 939) (by decide +kernel), List.mem_of_getElem? (i := 940) (by decide +kernel)⟩
def lw_privs_4 : List (MethodName × Nat) := [(⟨"HumanStepsModel", "isCell", "(I)Z"⟩, 23), (⟨"HumanStepsModel", "fails", "(IZ)Z"⟩, 23), (⟨"HumanStepsModel", "isSymbol", "(I)Z"⟩, 23), (⟨"HumanStepsModel", "has", "(II)Z"⟩, 23), (⟨"HumanStepsModel", "put", "(II)V"⟩, 23), (⟨"HumanStepsModel", "sees", "(II)Z"⟩, 23), (⟨"HumanStepsModel", "boxOf", "(I)I"⟩, 23), (⟨"HumanStepsModel", "changed", "()V"⟩, 23), (⟨"HumanStepsModel", "search", "()I"⟩, 23), (⟨"HumanStepsModel", "isBroken", "()Z"⟩, 23), (⟨"HumanStepsModel", "places", "(II)I"⟩, 23), (⟨"HumanStepsModel", "at", "(II)I"⟩, 23), (⟨"HumanStepsModel", "look", "(I)Z"⟩, 23), (⟨"HumanStepsModel", "none", "()V"⟩, 23), (⟨"HumanStepsModel", "last", "()Z"⟩, 23), (⟨"HumanStepsModel", "sets", "(II)Z"⟩, 23)]
theorem lw_r4 : ∀ q ∈ lw_privs_4, lw_okq q := List.forall_mem_cons.mpr ⟨lw_p48, List.forall_mem_cons.mpr ⟨lw_p49, List.forall_mem_cons.mpr ⟨lw_p50, List.forall_mem_cons.mpr ⟨lw_p51, List.forall_mem_cons.mpr ⟨lw_p52, List.forall_mem_cons.mpr ⟨lw_p53, List.forall_mem_cons.mpr ⟨lw_p54, List.forall_mem_cons.mpr ⟨lw_p55, List.forall_mem_cons.mpr ⟨lw_p56, List.forall_mem_cons.mpr ⟨lw_p57, List.forall_mem_cons.mpr ⟨lw_p58, List.forall_mem_cons.mpr ⟨lw_p59, List.forall_mem_cons.mpr ⟨lw_p60, List.forall_mem_cons.mpr ⟨lw_p61, List.forall_mem_cons.mpr ⟨lw_p62, List.forall_mem_cons.mpr ⟨lw_p63, fun _ h => absurd h List.not_mem_nil⟩⟩⟩⟩⟩⟩⟩⟩⟩⟩⟩⟩⟩⟩⟩⟩
theorem lw_p64 : lw_okq (⟨"HumanStepsModel", "leaves", "(II)V"⟩, 23) := ⟨⟨by decide +kernel, by decide +kernel⟩, List.mem_of_getElem? (i := 772) (by decide +kernel), List.mem_of_getElem? (i := 943) (by decide +kernel), List.mem_of_getElem? (i := 944) (by decide +kernel)⟩
theorem lw_p65 : lw_okq (⟨"HumanStepsModel", "only", "(I)Z"⟩, 23) := ⟨⟨by decide +kernel, by decide +kernel⟩, List.mem_of_getElem? (i := 772) (by decide +kernel), List.mem_of_getElem? (i := 947) (by decide +kernel), List.mem_of_getElem? (i := 948) (by decide +kernel)⟩
theorem lw_p66 : lw_okq (⟨"HumanStepsModel", "pointing", "()Z"⟩, 23) := ⟨⟨by decide +kernel, by decide +kernel⟩, List.mem_of_getElem? (i := 772) (by decide +kernel), List.mem_of_getElem? (i := 951) (by decide +kernel), List.mem_of_getElem? (i := 952) (by decide +kernel)⟩
theorem lw_p67 : lw_okq (⟨"HumanStepsModel", "common", "(III)I"⟩, 23) := ⟨⟨by decide +kernel, by decide +kernel⟩, List.mem_of_getElem? (i := 772) (by decide +kernel), List.mem_of_getElem? (i := 955) (by decide +kernel), List.mem_of_getElem? (i := 956) (by decide +kernel)⟩
theorem lw_p68 : lw_okq (⟨"HumanStepsModel", "isIn", "(II)Z"⟩, 23) := ⟨⟨by decide +kernel, by decide +kernel⟩, List.mem_of_getElem? (i := 772) (by decide +kernel), List.mem_of_getElem? (i := 959) (by decide +kernel), List.mem_of_getElem? (i := 960) (by decide +kernel)⟩
theorem lw_p69 : lw_okq (⟨"HumanStepsModel", "crosses", "(III)Z"⟩, 23) := ⟨⟨by decide +kernel, by decide +kernel⟩, List.mem_of_getElem? (i := 772) (by decide +kernel), List.mem_of_getElem? (i := 963) (by decide +kernel), List.mem_of_getElem? (i := 964) (by decide +kernel)⟩
theorem lw_p70 : lw_okq (⟨"HumanStepsModel", "takes", "()Z"⟩, 23) := ⟨⟨by decide +kernel, by decide +kernel⟩, List.mem_of_getElem? (i := 772) (by decide +kernel), List.mem_of_getElem? (i := 967) (by decide +kernel), List.mem_of_getElem? (i := 968) (by decide +kernel)⟩
theorem lw_p71 : lw_okq (⟨"HumanStepsModel", "claiming", "()Z"⟩, 23) := ⟨⟨by decide +kernel, by decide +kernel⟩, List.mem_of_getElem? (i := 772) (by decide +kernel), List.mem_of_getElem? (i := 971) (by decide +kernel), List.mem_of_getElem? (i := 972) (by decide +kernel)⟩
theorem lw_p72 : lw_okq (⟨"HumanStepsModel", "naked", "(I)Z"⟩, 23) := ⟨⟨by decide +kernel, by decide +kernel⟩, List.mem_of_getElem? (i := 772) (by decide +kernel), List.mem_of_getElem? (i := 975) (by decide +kernel), List.mem_of_getElem? (i := 976) (by decide +kernel)⟩
theorem lw_p73 : lw_okq (⟨"HumanStepsModel", "first", "(I)V"⟩, 23) := ⟨⟨by decide +kernel, by decide +kernel⟩, List.mem_of_getElem? (i := 772) (by decide +kernel), List.mem_of_getElem? (i := 979) (by decide +kernel), List.mem_of_getElem? (i := 980) (by decide +kernel)⟩
theorem lw_p74 : lw_okq (⟨"HumanStepsModel", "isPicked", "(II)Z"⟩, 23) := ⟨⟨by decide +kernel, by decide +kernel⟩, List.mem_of_getElem? (i := 772) (by decide +kernel), List.mem_of_getElem? (i := 983) (by decide +kernel), List.mem_of_getElem? (i := 984) (by decide +kernel)⟩
theorem lw_p75 : lw_okq (⟨"HumanStepsModel", "next", "(I)Z"⟩, 23) := ⟨⟨by decide +kernel, by decide +kernel⟩, List.mem_of_getElem? (i := 772) (by decide +kernel), List.mem_of_getElem? (i := 987) (by decide +kernel), List.mem_of_getElem? (i := 988) (by decide +kernel)⟩
theorem lw_p76 : lw_okq (⟨"HumanStepsModel", "hidden", "(I)Z"⟩, 23) := ⟨⟨by decide +kernel, by decide +kernel⟩, List.mem_of_getElem? (i := 772) (by decide +kernel), List.mem_of_getElem? (i := 991) (by decide +kernel), List.mem_of_getElem? (i := 992) (by decide +kernel)⟩
theorem lw_p77 : lw_okq (⟨"HumanStepsModel", "isOpenIn", "(II)Z"⟩, 23) := ⟨⟨by decide +kernel, by decide +kernel⟩, List.mem_of_getElem? (i := 772) (by decide +kernel), List.mem_of_getElem? (i := 995) (by decide +kernel), List.mem_of_getElem? (i := 996) (by decide +kernel)⟩
theorem lw_p78 : lw_okq (⟨"HumanStepsModel", "fish", "(II)Z"⟩, 23) := ⟨⟨by decide +kernel, by decide +kernel⟩, List.mem_of_getElem? (i := 772) (by decide +kernel), List.mem_of_getElem? (i := 999) (by decide +kernel), List.mem_of_getElem? (i := 1000) (by decide +kernel)⟩
theorem lw_p79 : lw_okq (⟨"HumanStepsModel", "wing", "(Z)Z"⟩, 23) := ⟨⟨by decide +kernel, by decide +kernel⟩, List.mem_of_getElem? (i := 772) (by decide +kernel), List.mem_of_getElem? (i := 1003) (by decide +kernel), List.mem_of_getElem? (i := 1004) (by decide +kernel)⟩
def lw_privs_5 : List (MethodName × Nat) := [(⟨"HumanStepsModel", "leaves", "(II)V"⟩, 23), (⟨"HumanStepsModel", "only", "(I)Z"⟩, 23), (⟨"HumanStepsModel", "pointing", "()Z"⟩, 23), (⟨"HumanStepsModel", "common", "(III)I"⟩, 23), (⟨"HumanStepsModel", "isIn", "(II)Z"⟩, 23), (⟨"HumanStepsModel", "crosses", "(III)Z"⟩, 23), (⟨"HumanStepsModel", "takes", "()Z"⟩, 23), (⟨"HumanStepsModel", "claiming", "()Z"⟩, 23), (⟨"HumanStepsModel", "naked", "(I)Z"⟩, 23), (⟨"HumanStepsModel", "first", "(I)V"⟩, 23), (⟨"HumanStepsModel", "isPicked", "(II)Z"⟩, 23), (⟨"HumanStepsModel", "next", "(I)Z"⟩, 23), (⟨"HumanStepsModel", "hidden", "(I)Z"⟩, 23), (⟨"HumanStepsModel", "isOpenIn", "(II)Z"⟩, 23), (⟨"HumanStepsModel", "fish", "(II)Z"⟩, 23), (⟨"HumanStepsModel", "wing", "(Z)Z"⟩, 23)]
theorem lw_r5 : ∀ q ∈ lw_privs_5, lw_okq q := List.forall_mem_cons.mpr ⟨lw_p64, List.forall_mem_cons.mpr ⟨lw_p65, List.forall_mem_cons.mpr ⟨lw_p66, List.forall_mem_cons.mpr ⟨lw_p67, List.forall_mem_cons.mpr ⟨lw_p68, List.forall_mem_cons.mpr ⟨lw_p69, List.forall_mem_cons.mpr ⟨lw_p70, List.forall_mem_cons.mpr ⟨lw_p71, List.forall_mem_cons.mpr ⟨lw_p72, List.forall_mem_cons.mpr ⟨lw_p73, List.forall_mem_cons.mpr ⟨lw_p74, List.forall_mem_cons.mpr ⟨lw_p75, List.forall_mem_cons.mpr ⟨lw_p76, List.forall_mem_cons.mpr ⟨lw_p77, List.forall_mem_cons.mpr ⟨lw_p78, List.forall_mem_cons.mpr ⟨lw_p79, fun _ h => absurd h List.not_mem_nil⟩⟩⟩⟩⟩⟩⟩⟩⟩⟩⟩⟩⟩⟩⟩⟩
theorem lw_p80 : lw_okq (⟨"HumanStepsModel", "isWing", "(IIIZ)Z"⟩, 23) := ⟨⟨by decide +kernel, by decide +kernel⟩, List.mem_of_getElem? (i := 772) (by decide +kernel), List.mem_of_getElem? (i := 1007) (by decide +kernel), List.mem_of_getElem? (i := 1008) (by decide +kernel)⟩
theorem lw_p81 : lw_okq (⟨"HumanStepsModel", "colours", "()Z"⟩, 23) := ⟨⟨by decide +kernel, by decide +kernel⟩, List.mem_of_getElem? (i := 772) (by decide +kernel), List.mem_of_getElem? (i := 1011) (by decide +kernel), List.mem_of_getElem? (i := 1012) (by decide +kernel)⟩
theorem lw_p82 : lw_okq (⟨"HumanStepsModel", "colour", "(II)V"⟩, 23) := ⟨⟨by decide +kernel, by decide +kernel⟩, List.mem_of_getElem? (i := 772) (by decide +kernel), List.mem_of_getElem? (i := 1015) (by decide +kernel), List.mem_of_getElem? (i := 1016) (by decide +kernel)⟩
theorem lw_p83 : lw_okq (⟨"HumanStepsModel", "isLinked", "(III)Z"⟩, 23) := ⟨⟨by decide +kernel, by decide +kernel⟩, List.mem_of_getElem? (i := 772) (by decide +kernel), List.mem_of_getElem? (i := 1019) (by decide +kernel), List.mem_of_getElem? (i := 1020) (by decide +kernel)⟩
theorem lw_p84 : lw_okq (⟨"HumanStepsModel", "clash", "(Z)Z"⟩, 23) := ⟨⟨by decide +kernel, by decide +kernel⟩, List.mem_of_getElem? (i := 772) (by decide +kernel), List.mem_of_getElem? (i := 1023) (by decide +kernel), List.mem_of_getElem? (i := 1024) (by decide +kernel)⟩
theorem lw_p85 : lw_okq (⟨"HumanStepsModel", "seesOne", "(IZ)Z"⟩, 23) := ⟨⟨by decide +kernel, by decide +kernel⟩, List.mem_of_getElem? (i := 772) (by decide +kernel), List.mem_of_getElem? (i := 1027) (by decide +kernel), List.mem_of_getElem? (i := 1028) (by decide +kernel)⟩
theorem lw_p86 : lw_okq (⟨"HumanStepsModel", "rectangle", "()Z"⟩, 23) := ⟨⟨by decide +kernel, by decide +kernel⟩, List.mem_of_getElem? (i := 772) (by decide +kernel), List.mem_of_getElem? (i := 1031) (by decide +kernel), List.mem_of_getElem? (i := 1032) (by decide +kernel)⟩
theorem lw_p87 : lw_okq (⟨"HumanStepsModel", "corners", "(IIII)Z"⟩, 23) := ⟨⟨by decide +kernel, by decide +kernel⟩, List.mem_of_getElem? (i := 772) (by decide +kernel), List.mem_of_getElem? (i := 1035) (by decide +kernel), List.mem_of_getElem? (i := 1036) (by decide +kernel)⟩
theorem lw_p88 : lw_okq (⟨"HumanStepsModel", "reasonMany", "()I"⟩, 23) := ⟨⟨by decide +kernel, by decide +kernel⟩, List.mem_of_getElem? (i := 772) (by decide +kernel), List.mem_of_getElem? (i := 1043) (by decide +kernel), List.mem_of_getElem? (i := 1044) (by decide +kernel)⟩
theorem lw_p89 : lw_okq (⟨"HumanStepsModel", "goMany", "()I"⟩, 23) := ⟨⟨by decide +kernel, by decide +kernel⟩, List.mem_of_getElem? (i := 772) (by decide +kernel), List.mem_of_getElem? (i := 1047) (by decide +kernel), List.mem_of_getElem? (i := 1048) (by decide +kernel)⟩
theorem lw_p90 : lw_okq (⟨"HumanStepsModel", "reasonAt", "(I)I"⟩, 23) := ⟨⟨by decide +kernel, by decide +kernel⟩, List.mem_of_getElem? (i := 772) (by decide +kernel), List.mem_of_getElem? (i := 1055) (by decide +kernel), List.mem_of_getElem? (i := 1056) (by decide +kernel)⟩
theorem lw_p91 : lw_okq (⟨"HumanStepsModel", "act", "()V"⟩, 23) := ⟨⟨by decide +kernel, by decide +kernel⟩, List.mem_of_getElem? (i := 772) (by decide +kernel), List.mem_of_getElem? (i := 1067) (by decide +kernel), List.mem_of_getElem? (i := 1068) (by decide +kernel)⟩
def lw_privs_6 : List (MethodName × Nat) := [(⟨"HumanStepsModel", "isWing", "(IIIZ)Z"⟩, 23), (⟨"HumanStepsModel", "colours", "()Z"⟩, 23), (⟨"HumanStepsModel", "colour", "(II)V"⟩, 23), (⟨"HumanStepsModel", "isLinked", "(III)Z"⟩, 23), (⟨"HumanStepsModel", "clash", "(Z)Z"⟩, 23), (⟨"HumanStepsModel", "seesOne", "(IZ)Z"⟩, 23), (⟨"HumanStepsModel", "rectangle", "()Z"⟩, 23), (⟨"HumanStepsModel", "corners", "(IIII)Z"⟩, 23), (⟨"HumanStepsModel", "reasonMany", "()I"⟩, 23), (⟨"HumanStepsModel", "goMany", "()I"⟩, 23), (⟨"HumanStepsModel", "reasonAt", "(I)I"⟩, 23), (⟨"HumanStepsModel", "act", "()V"⟩, 23)]
theorem lw_r6 : ∀ q ∈ lw_privs_6, lw_okq q := List.forall_mem_cons.mpr ⟨lw_p80, List.forall_mem_cons.mpr ⟨lw_p81, List.forall_mem_cons.mpr ⟨lw_p82, List.forall_mem_cons.mpr ⟨lw_p83, List.forall_mem_cons.mpr ⟨lw_p84, List.forall_mem_cons.mpr ⟨lw_p85, List.forall_mem_cons.mpr ⟨lw_p86, List.forall_mem_cons.mpr ⟨lw_p87, List.forall_mem_cons.mpr ⟨lw_p88, List.forall_mem_cons.mpr ⟨lw_p89, List.forall_mem_cons.mpr ⟨lw_p90, List.forall_mem_cons.mpr ⟨lw_p91, fun _ h => absurd h List.not_mem_nil⟩⟩⟩⟩⟩⟩⟩⟩⟩⟩⟩⟩
def lw_privs : List (MethodName × Nat) := lw_privs_1 ++ (lw_privs_2 ++ (lw_privs_3 ++ (lw_privs_4 ++ (lw_privs_5 ++ (lw_privs_6)))))
def lw_tbl : List Cond := k2_sels lw_privs ++ tables_1
theorem lw_privs_ok : ∀ q ∈ lw_privs, lw_okq q := by
  show ∀ q ∈ lw_privs_1 ++ (lw_privs_2 ++ (lw_privs_3 ++ (lw_privs_4 ++ (lw_privs_5 ++ (lw_privs_6))))), lw_okq q
  exact List.forall_mem_append.mpr ⟨lw_r1, List.forall_mem_append.mpr ⟨lw_r2, List.forall_mem_append.mpr ⟨lw_r3, List.forall_mem_append.mpr ⟨lw_r4, List.forall_mem_append.mpr ⟨lw_r5, lw_r6⟩⟩⟩⟩⟩
end
section
/-! ===== BEGIN words of one list among another's, by their places ===== -/
theorem goodIn_r {big : List Cond} (ws : List Cond) (ps : List Nat) (hp : ws = ps.filterMap (fun i => big[i]?)) (h : ws.all goodWord = true) : GoodIn big ws := by
  intro w hw
  have h1 := List.all_eq_true.mp h w hw
  rw [hp] at hw
  obtain ⟨i, -, hi⟩ := List.mem_filterMap.mp hw
  have hm : w ∈ big := by first | exact List.mem_of_getElem? hi | exact List.getElem?_mem hi
  exact ⟨hm, good_of_word h1⟩
theorem goodIn_app {big a b : List Cond} (ha : GoodIn big a) (hb : GoodIn big b) : GoodIn big (a ++ b) := fun w h => (List.mem_append.mp h).elim (ha w) (hb w)
theorem goodIn_ca {big a b : List Cond} {c : Cond} (ha : GoodIn big (c :: a)) (hb : GoodIn big b) : GoodIn big (c :: (a ++ b)) := fun w h => (List.mem_cons.mp h).elim (fun e => ha w (List.mem_cons.mpr (Or.inl e))) (fun h => (List.mem_append.mp h).elim (fun h => ha w (List.mem_cons.mpr (Or.inr h))) (hb w))
theorem goodIn_sub {big ws : List Cond} (hm : ∀ w ∈ ws, w ∈ big) (h : ws.all goodWord = true) : GoodIn big ws := fun w hw => ⟨hm w hw, good_of_word (List.all_eq_true.mp h w hw)⟩
/-! ===== END ===== -/

/-! ===== BEGIN exceptions that leave a method, and their catching by the caller (launches without stack traces) ===== -/
section VXA
/-! The laws vx_back, vx_callV, vx_callS, vx_callSW, vx_throw0, vx_throwS follow proofs of the library, with one case more: JvmDerived/Free/Laws.lean (Back.of_free), Shelf42/LK1.lean (callV, callS), Shelf/KitTraced.lean (throwNew0V, throwNewS). -/

/-- where a method has thrown q: the class by its name, the cell, what was written, the world -/
def vx_T (XC : String → State → State → Prop) (st : State) (q : Addr) (t : State) (mc ms : Nat) (free : Addr → Prop) : Prop :=
  ∃ (E : String) (ce : Cell) (L : List Loc), XC E st t ∧ t.heap[q]? = some ce ∧ ce.vm = .none ∧ st.vm.findClass E = some ce.cls ∧ st.WarmedH t.vm ∧ st.sameButNew ({ t with vm := st.vm } : State) L mc ms ∧ ∀ z ∈ L, free z.base
def vx_Q (Qc : Array Value → State → Outcome → State → Prop) (XC : String → State → State → Prop) (mc ms : Nat) (free : Addr → Prop) : Array Value → State → Outcome → State → Prop := fun a st o t =>
  (Qc a st o t ∧ ∃ L, FrameEnd st o t L mc ms ∧ ∀ q ∈ L, free q.base) ∨ ∃ q, o = .threw q ∧ vx_T XC st q t mc ms free
/-- a callee that returns or throws -/
def vx_Met (l : Launch) (y : MethodName) (ws : List Cond) (rm : Room) (Pc : Array Value → State → Prop) (Qc : Array Value → State → Outcome → State → Prop) (XC : String → State → State → Prop) (mc ms : Nat) (free : Addr → Prop) : Prop :=
  MetFree l y (headSpec ws rm) Pc (fun _ _ _ _ _ => True) (vx_Q Qc XC mc ms free)
def vx_Post (XC : String → State → State → Prop) (mc ms : Nat) (free : Addr → Prop) : Pt → Array Value → Addr → Pt → Prop := fun A a q B =>
  ∃ (g : JFrame) (mk : MethodId) (t : State) (L : List Loc) (E : String) (ce : Cell), B.U.heap = t.heap ∧ B.U.vm = t.vm ∧ XC E (A.U.calling g mk a) t ∧ t.heap[q]? = some ce ∧ ce.vm = .none ∧ A.U.vm.findClass E = some ce.cls ∧ B.locs = A.locs ++ L ∧ (∀ z ∈ L, free z.base) ∧ B.cells = A.cells + mc ∧ B.slots = A.slots + ms
def vx_Back (l : Launch) (R : Room) (p : Program) (e : Env) (below : List Frame) (s : State) (sargs : Array Value) (y : MethodName) (len W9 : Nat)
    (Pre : Pt → Array Value → Prop) (Post : Pt → Array Value → Option Value → Pt → Prop) (PostX : Pt → Array Value → Addr → Pt → Prop) : Prop :=
  ∀ (m : MethodId) (meth : Method) (c : Code) (A : Pt) (g : JFrame) (ig : Instr) (mk : MethodId) (a : Array Value),
    Stand p l e R s m sargs below meth c A.U A.locs A.cells A.slots → g.method = m → g.locals.size = c.maxLocals → decode c.code g.pc = .ok (ig, len) →
    2 * g.monitorRoom + (g.stack.map fun v => v.category).sum ≤ W9 → A.U.methodNamed? y = some mk → Pre A a →
    (∃ (v : Option Value) (B : Pt), Stand p l e R s m sargs below meth c B.U B.locs B.cells B.slots ∧ Post A a v B ∧
      Steps p.tables e below (doInvoke e (A.U.setTop g) [] mk a).1 (B.U.setTop { g with pc := g.pc + len, stack := v.toList ++ g.stack })) ∨
    (∃ (q : Addr) (B : Pt), Stand p l e R s m sargs below meth c B.U B.locs B.cells B.slots ∧ PostX A a q B ∧
      Steps p.tables e below (doInvoke e (A.U.setTop g) [] mk a).1 ((B.U.setTop g).pushFrame (.throwing q)))
section Payer
variable {l : Launch} {R : Room} {p : Program} {e : Env} {below : List Frame} {s : State} {sargs : Array Value} {y : MethodName} {len W9 : Nat}
theorem vx_back {ws : List Cond} {rm : Room} {Pc : Array Value → State → Prop} {Qc : Array Value → State → Outcome → State → Prop} {XC : String → State → State → Prop} {mc ms : Nat} {free : Addr → Prop} {bytes : ByteArray} {maxL : Nat} {ret : Option FieldType}
    (hM : vx_Met l y ws rm Pc Qc XC mc ms free) (hblind : FrameBlind Pc) (hrc : rm.cells = mc) (hrs : rm.slots = ms)
    (hframes : rm.frames + 1 ≤ R.frames) (hlocals : W9 + (maxL + 11) + rm.locals ≤ R.locals)
    (hws : ∀ w ∈ ws, ∀ a' U, s.WarmedH U.vm → w.before a' U = true) (hcode : Cond.code y bytes maxL ret ∈ ws) (hinit : ∀ a' U, s.WarmedH U.vm → (Cond.initialized y.cls).before a' U = true) :
    vx_Back l R p e below s sargs y len W9 (PreOf R mc ms Pc) (PostOf Qc mc ms free) (vx_Post XC mc ms free) := by
  intro m meth c A g ig mk a X hg hsize hdg hW hn hp
  have h1 : (headSpec ws rm).pre.before a A.U = true := atoms_intro fun w hw => hws w hw _ _ X.warmed
  have h2 : (Cond.code y bytes maxL ret).before a A.U = true := hws _ hcode _ _ X.warmed
  have h3 : (Cond.initialized y.cls).before a A.U = true := hinit _ _ X.warmed
  have h4 : A.cells + (headSpec ws rm).room.cells ≤ R.cells := by rw [show (headSpec ws rm).room.cells = mc from hrc]; exact hp.1
  have h5 : A.slots + (headSpec ws rm).room.slots ≤ R.slots := by rw [show (headSpec ws rm).room.slots = ms from hrs]; exact hp.2.1
  have hPc : Pc a (A.U.calling g mk a) := hblind _ _ _ _ hp.2.2
  obtain ⟨U, Ls, c0, s0⟩ := A
  dsimp only [Pt.U, Pt.locs, Pt.cells, Pt.slots] at h1 h2 h3 h4 h5 X hn hPc ⊢
  obtain ⟨methY, cY, hmY, hcY, -, hlY, -, -, -, -⟩ := Cond.code_spec hn h2
  obtain ⟨kY, hkY, -⟩ := className_of_methodNamed hn
  have hinitY : kY.init = .initialized := Cond.initialized_spec (findClass_of_methodNamed hn) hkY h3
  have h : At U g.method c below := by rw [hg]; exact X.here
  have hlocals9 : W9 + (maxL + 11) + (headSpec ws rm).room.locals ≤ R.locals := hlocals
  have happ : (headSpec ws rm).appliesLoose y e.platform (U.calling g mk a) = true :=
    Spec.appliesLoose_calling (g := g) h hdg hn hkY hinitY
      (X.room_calling (g := g) (R' := (headSpec ws rm).room) hsize hmY hcY hframes (by rw [hlY]; omega) h4 h5) h1
  obtain ⟨mid, hmid⟩ := h.above
  have hfr : (U.setTop g).frames = (.java g :: mid) ++ below := by rw [State.frames_setTop' g h.top, hmid]; rfl
  obtain ⟨o, s₂, hsteps, -, hend, hq⟩ := Steps.callFree hM p X.admits X.cas X.clock (acts := []) hfr happ hPc trivial
  have hq' : vx_Q Qc XC mc ms free a (U.calling g mk a) o s₂ := hq
  rw [State.frames_setTop' g h.top] at hend
  obtain ⟨g₀, hg0⟩ := Option.isSome_iff_exists.mp h.top
  obtain ⟨r, hr⟩ := State.topJava?_eq_some.mp hg0
  have hr' : (({ U with heap := s₂.heap, slotsUsed := s₂.slotsUsed } : State).setVm s₂.vm).frames = .java g₀ :: r := hr
  rcases hq' with ⟨hqc, L, hfe, hL⟩ | ⟨q, rfl, E, ce, L, hx, hce, hcv, hcl, hW₂, hsm, hL⟩
  · obtain ⟨⟨v, rfl⟩, hW₂, e2, q2, q3, q4, q5, q6⟩ := id hfe
    have e3 : s₂ = ({ (U.calling g mk a).setFrames s₂.frames with heap := s₂.heap, slotsUsed := s₂.slotsUsed } : State).setVm s₂.vm := by
      have : s₂ = ({ s₂ with vm := (U.calling g mk a).vm } : State).setVm s₂.vm := rfl
      rw [e2] at this
      exact this
    obtain ⟨c₂, i₂, len₂, hc₂, hd₂, hf₂⟩ := hend
    have hW' : U.WarmedH s₂.vm := hW₂
    have hcc : c₂ = c := by
      have h1 : s₂.code? g.method = U.code? g.method := by
        rw [State.code?_eq, State.code?_eq, hW'.alike.method?]
      exact Option.some.inj (hc₂.symm.trans (h1.trans h.code))
    subst hcc
    have hlen : len₂ = len := by rw [hdg] at hd₂; cases hd₂; rfl
    subst hlen
    have hs₂ : s₂ = (({ U with heap := s₂.heap, slotsUsed := s₂.slotsUsed } : State).setVm s₂.vm).setTop { g with pc := g.pc + len₂, stack := v.toList ++ g.stack } := by
      refine e3.trans ?_
      rw [hf₂, State.calling_eq h.top, State.setFrames_setFrames, State.setTop_of_frames _ hr', hr]
      rfl
    have hsame : U.sameButNew ({ U with heap := s₂.heap, slotsUsed := s₂.slotsUsed } : State) L mc ms := by
      refine ⟨?_, q2, q3, q4, q5, q6⟩
      obtain ⟨t, ht, -⟩ := State.frames_cons hr
      show ({ U with heap := s₂.heap, slotsUsed := s₂.slotsUsed } : State) = { U.setFrames U.frames with heap := s₂.heap, slotsUsed := s₂.slotsUsed }
      rw [State.setFrames_self ht]
    subst hg
    refine Or.inl ⟨v, ⟨(({ U with heap := s₂.heap, slotsUsed := s₂.slotsUsed } : State).setVm s₂.vm), Ls ++ L, c0 + mc, s0 + ms⟩,
      ⟨X.admits, X.cas, X.clock, X.frames, X.room, X.hears, X.method, X.code, (X.here.setHeapUsed s₂.heap s₂.slotsUsed).setVm hW'.alike, X.tail, State.WarmedH.trans X.warmed hW', X.limits, X.bytes, X.same.trans (hsame.setVm s.vm)⟩,
      ⟨g, mk, s₂, L, rfl, rfl, hqc, rfl, hL, rfl, rfl⟩, ?_⟩
    show Steps p.tables e below _ ((({ U with heap := s₂.heap, slotsUsed := s₂.slotsUsed } : State).setVm s₂.vm).setTop { g with pc := g.pc + len₂, stack := v.toList ++ g.stack })
    rw [← hs₂]
    exact hsteps
  · obtain ⟨e2, q2, q3, q4, q5, q6⟩ := id hsm
    have e3 : s₂ = ({ (U.calling g mk a).setFrames s₂.frames with heap := s₂.heap, slotsUsed := s₂.slotsUsed } : State).setVm s₂.vm := by
      have : s₂ = ({ s₂ with vm := (U.calling g mk a).vm } : State).setVm s₂.vm := rfl
      rw [e2] at this
      exact this
    have hf₂ : s₂.frames = .throwing q :: .java g :: U.frames.tail := hend
    have hW' : U.WarmedH s₂.vm := hW₂
    have hs₂ : s₂ = ((({ U with heap := s₂.heap, slotsUsed := s₂.slotsUsed } : State).setVm s₂.vm).setTop g).pushFrame (.throwing q) := by
      refine e3.trans ?_
      rw [hf₂, State.calling_eq h.top, State.setFrames_setFrames, State.pushFrame, State.frames_setTop _ hr', State.setTop_of_frames _ hr', State.setFrames_setFrames, hr]
      rfl
    have hsame : U.sameButNew ({ U with heap := s₂.heap, slotsUsed := s₂.slotsUsed } : State) L mc ms := by
      refine ⟨?_, q2, q3, q4, q5, q6⟩
      obtain ⟨t, ht, -⟩ := State.frames_cons hr
      show ({ U with heap := s₂.heap, slotsUsed := s₂.slotsUsed } : State) = { U.setFrames U.frames with heap := s₂.heap, slotsUsed := s₂.slotsUsed }
      rw [State.setFrames_self ht]
    subst hg
    refine Or.inr ⟨q, ⟨(({ U with heap := s₂.heap, slotsUsed := s₂.slotsUsed } : State).setVm s₂.vm), Ls ++ L, c0 + mc, s0 + ms⟩,
      ⟨X.admits, X.cas, X.clock, X.frames, X.room, X.hears, X.method, X.code, (X.here.setHeapUsed s₂.heap s₂.slotsUsed).setVm hW'.alike, X.tail, State.WarmedH.trans X.warmed hW', X.limits, X.bytes, X.same.trans (hsame.setVm s.vm)⟩,
      ⟨g, mk, s₂, L, E, ce, rfl, rfl, hx, hce, hcv, hcl, rfl, hL, rfl, rfl⟩, ?_⟩
    show Steps p.tables e below _ (((({ U with heap := s₂.heap, slotsUsed := s₂.slotsUsed } : State).setVm s₂.vm).setTop g).pushFrame (.throwing q))
    rw [← hs₂]
    exact hsteps
end Payer
section Calls
variable {p : Program} {l : Launch} {e : Env} {R : Room} {s : State} {m : MethodId} {args : Array Value} {below : List Frame} {meth : Method} {c : Code} {T : State} {locs : List Loc} {cells slots : Nat}
theorem vx_callV (X : Stand p l e R s m args below meth c T locs cells slots) (hexec : p.tables.exec = Jvm.exec) {own C : String} {index : Nat} {y : MethodName} {bytes : ByteArray} {maxL : Nat} {ret : Option FieldType}
    (hown : s.vm.findClass own = some m.cls) (hlink : (Cond.methodLink own index y).before args s = true) (hinst : (Cond.instanceMethod y).before args s = true) (hsel : (Cond.selects C y y).before args s = true)
    (hcode : (Cond.code y bytes maxL ret).before args s = true) (hy : y.cls ≠ "java/lang/invoke/MethodHandle" ∧ y.cls ≠ "java/lang/invoke/VarHandle")
    {W9 : Nat} {Pre : Pt → Array Value → Prop} {Post : Pt → Array Value → Option Value → Pt → Prop} {PostX : Pt → Array Value → Addr → Pt → Prop} (hK : vx_Back l R p e below s args y 3 W9 Pre Post PostX)
    {b : Addr} {cellB : Cell} (hcell : T.heap[b]? = some cellB) (hobj : cellB.vm.isStatics = false) (hcls : s.vm.findClass C = some cellB.cls)
    {g : JFrame} (hg : g.method = m) (hsize : g.locals.size = c.maxLocals) {argsL rest : List Value} (hlen : ∀ sig, parseMethodDescriptor y.desc = some sig → argsL.length = sig.parameters.length)
    (hstack : g.stack = argsL.reverse ++ .ref b :: rest) (hW : 2 * g.monitorRoom + (rest.map fun v => v.category).sum ≤ W9) (hdg : decode c.code g.pc = .ok (.invokevirtual index, 3))
    (hpre : ∀ vm₁, s.WarmedH vm₁ → Pre ⟨T.setVm vm₁, locs, cells, slots⟩ (Value.ref b :: argsL).toArray) :
    (∃ (v : Option Value) (vm₁ : Vm) (B : Pt), s.WarmedH vm₁ ∧ Stand p l e R s m args below meth c B.U B.locs B.cells B.slots ∧ Post ⟨T.setVm vm₁, locs, cells, slots⟩ (Value.ref b :: argsL).toArray v B ∧
      ∀ target, Steps p.tables e below (B.U.setTop { g with pc := g.pc + 3, stack := v.toList ++ rest }) target → Steps p.tables e below (T.setTop g) target) ∨
    (∃ (q : Addr) (vm₁ : Vm) (B : Pt), s.WarmedH vm₁ ∧ Stand p l e R s m args below meth c B.U B.locs B.cells B.slots ∧ PostX ⟨T.setVm vm₁, locs, cells, slots⟩ (Value.ref b :: argsL).toArray q B ∧
      Steps p.tables e below (T.setTop g) ((B.U.setTop { g with stack := rest }).pushFrame (.throwing q))) := by
  obtain ⟨mk, methM, hnamed, hmethM, hstM, habM⟩ := Cond.instanceMethod_spec hinst
  obtain ⟨methM', cM, hmethM', -, -, -, -, -, -, hsigM⟩ := Cond.code_spec hnamed hcode
  cases hmethM.symm.trans hmethM'
  obtain ⟨c2, r2, m2, q1, q2, q3, q4, kP, hkP, hkPi⟩ := Cond.selects_spec hsel
  cases hcls.symm.trans q1
  cases (State.methodFound?_of_named hnamed hy).symm.trans q2
  cases hnamed.symm.trans q3
  have hselP : selectMethod e.platform s.vm cellB.cls mk = .method mk := by rw [Launch.admits_selectMethod X.admits]; exact q4
  obtain ⟨vm₁, X₁, hstep₁⟩ := X.invokevirtual hexec hown hlink hnamed hmethM hstM hkP hkPi hy (a := b) (cell := cellB) hcell
    (fun z h => by rw [h] at hobj; cases hobj) hselP hmethM habM hkP hkPi (g := g) hg (argsL := argsL) (rest := rest) (hlen _ hsigM) hstack hdg
  rcases hK m meth c ⟨T.setVm vm₁, locs, cells, slots⟩ { g with stack := rest } (.invokevirtual index) mk (Value.ref b :: argsL).toArray X₁ hg hsize hdg hW (X₁.named hnamed) (hpre vm₁ X₁.warmed) with ⟨v, B, X', hpost, hsteps⟩ | ⟨q, B, X', hpost, hsteps⟩
  · exact Or.inl ⟨v, vm₁, B, X₁.warmed, X', hpost, fun target h => hstep₁ _ fun acts => by rw [doInvoke_state]; exact hsteps.trans h⟩
  · exact Or.inr ⟨q, vm₁, B, X₁.warmed, X', hpost, hstep₁ _ fun acts => by rw [doInvoke_state]; exact hsteps⟩
theorem vx_callS (X : Stand p l e R s m args below meth c T locs cells slots) (hexec : p.tables.exec = Jvm.exec) {own : String} {index : Nat} {y : MethodName} {bytes : ByteArray} {maxL : Nat} {ret : Option FieldType}
    (hown : s.vm.findClass own = some m.cls) (hlink : (Cond.methodLink own index y).before args s = true) (hstat : (Cond.static y).before args s = true) (hinit : (Cond.initialized y.cls).before args s = true)
    (hcode : (Cond.code y bytes maxL ret).before args s = true) (hy : y.cls ≠ "java/lang/invoke/MethodHandle" ∧ y.cls ≠ "java/lang/invoke/VarHandle")
    {W9 : Nat} {Pre : Pt → Array Value → Prop} {Post : Pt → Array Value → Option Value → Pt → Prop} {PostX : Pt → Array Value → Addr → Pt → Prop} (hK : vx_Back l R p e below s args y 3 W9 Pre Post PostX)
    {g : JFrame} (hg : g.method = m) (hsize : g.locals.size = c.maxLocals) {argsL rest : List Value} (hlen : ∀ sig, parseMethodDescriptor y.desc = some sig → argsL.length = sig.parameters.length)
    (hstack : g.stack = argsL.reverse ++ rest) (hW : 2 * g.monitorRoom + (rest.map fun v => v.category).sum ≤ W9) (hdg : decode c.code g.pc = .ok (.invokestatic index, 3))
    (hpre : ∀ vm₁, s.WarmedH vm₁ → Pre ⟨T.setVm vm₁, locs, cells, slots⟩ argsL.toArray) :
    (∃ (v : Option Value) (vm₁ : Vm) (B : Pt), s.WarmedH vm₁ ∧ Stand p l e R s m args below meth c B.U B.locs B.cells B.slots ∧ Post ⟨T.setVm vm₁, locs, cells, slots⟩ argsL.toArray v B ∧
      ∀ target, Steps p.tables e below (B.U.setTop { g with pc := g.pc + 3, stack := v.toList ++ rest }) target → Steps p.tables e below (T.setTop g) target) ∨
    (∃ (q : Addr) (vm₁ : Vm) (B : Pt), s.WarmedH vm₁ ∧ Stand p l e R s m args below meth c B.U B.locs B.cells B.slots ∧ PostX ⟨T.setVm vm₁, locs, cells, slots⟩ argsL.toArray q B ∧
      Steps p.tables e below (T.setTop g) ((B.U.setTop { g with stack := rest }).pushFrame (.throwing q))) := by
  obtain ⟨mk, hnamed⟩ := Cond.code_named hcode
  obtain ⟨methM, cM, hmethM, -, -, -, -, -, -, hsigM⟩ := Cond.code_spec hnamed hcode
  have hstatic : methM.isStatic = true := Cond.static_spec hnamed hmethM hstat
  obtain ⟨kP, hkP, -⟩ := className_of_methodNamed hnamed
  have hinitP : kP.init = .initialized := Cond.initialized_spec (findClass_of_methodNamed hnamed) hkP hinit
  obtain ⟨vm₁, X₁, hstep₁⟩ := X.invokestatic hexec hown hlink hnamed hmethM hstatic hkP hinitP hy (g := g) hg (argsL := argsL) (rest := rest) (hlen _ hsigM) hstack hdg
  rcases hK m meth c ⟨T.setVm vm₁, locs, cells, slots⟩ { g with stack := rest } (.invokestatic index) mk argsL.toArray X₁ hg hsize hdg hW (X₁.named hnamed) (hpre vm₁ X₁.warmed) with ⟨v, B, X', hpost, hsteps⟩ | ⟨q, B, X', hpost, hsteps⟩
  · exact Or.inl ⟨v, vm₁, B, X₁.warmed, X', hpost, fun target h => hstep₁ _ fun acts => by rw [doInvoke_state]; exact hsteps.trans h⟩
  · exact Or.inr ⟨q, vm₁, B, X₁.warmed, X', hpost, hstep₁ _ fun acts => by rw [doInvoke_state]; exact hsteps⟩
end Calls
theorem vx_cls {s : State} {T : State} {vm₁ : Vm} {E : String} {k : ClassId} (hW : s.WarmedH vm₁) (h : (T.setVm vm₁).vm.findClass E = some k) : s.vm.findClass E = some k := by
  have h1 : vm₁.findClass E = some k := h
  rw [hW.alike.findClass] at h1
  exact h1
/-- the method's frame g, with q thrown over it -/
def vx_W (p : Program) (l : Launch) (e : Env) (R : Room) (s : State) (m : MethodId) (args : Array Value) (below : List Frame) (meth : Method) (c : Code) (H : Heap) (locs : List Loc) (cells slots : Nat) (Q : State → Prop) (g : JFrame) (q : Addr) : Prop :=
  ∀ T : State, T.heap = H → Stand p l e R s m args below meth c T locs cells slots → ∃ t, Steps p.tables e below ((T.setTop g).pushFrame (.throwing q)) t ∧ Q t
def vx_Run (p : Program) (l : Launch) (e : Env) (R : Room) (s : State) (m : MethodId) (args : Array Value) (below : List Frame) (meth : Method) (c : Code) (H : Heap) (locs : List Loc) (cells slots mc ms : Nat) (g : JFrame) (rest : List Value) (Qa : State → Outcome → State → Prop) (XC : String → State → State → Prop) (free : Addr → Prop) : Prop :=
  ∀ T : State, T.heap = H → Stand p l e R s m args below meth c T locs cells slots →
    (∃ (v : Option Value) (st₀ t T' : State) (L : List Loc), st₀.heap = H ∧ Stand p l e R s m args below meth c T' (locs ++ L) (cells + mc) (slots + ms) ∧ (∀ q ∈ L, free q.base) ∧ T'.heap = t.heap ∧ T'.vm = t.vm ∧ Qa st₀ (.returned v) t ∧
      Goes p e below T g T' { g with pc := g.pc + 3, stack := v.toList ++ rest }) ∨
    (∃ (q : Addr) (st₀ t T' : State) (L : List Loc) (E : String) (ce : Cell), st₀.heap = H ∧ Stand p l e R s m args below meth c T' (locs ++ L) (cells + mc) (slots + ms) ∧ (∀ z ∈ L, free z.base) ∧ T'.heap = t.heap ∧ T'.vm = t.vm ∧ XC E st₀ t ∧ t.heap[q]? = some ce ∧ ce.vm = .none ∧ s.vm.findClass E = some ce.cls ∧
      Steps p.tables e below (T.setTop g) ((T'.setTop { g with stack := rest }).pushFrame (.throwing q)))
def vx_X {S : Type} (px : S → Prop) (B : String → S → State → Prop) (A : Nat → Prop) : String → State → State → Prop := fun E st t => ∃ u : S, px u ∧ B E u t ∧ va_F A st t
section Runs
variable {p : Program} {l : Launch} {e : Env} {R : Room} {s : State} {m : MethodId} {args : Array Value} {below : List Frame} {meth : Method} {c : Code} {H : Heap} {locs : List Loc} {cells slots : Nat}
variable {y : MethodName} {bytes cc : ByteArray} {maxL nL mc ms n index : Nat} {ret : Option FieldType} {ws : List Cond} {rm : Room} {Pc : Array Value → State → Prop} {Qc : Array Value → State → Outcome → State → Prop} {XC : String → State → State → Prop} {free : Addr → Prop} {Ts : List Cond} {own C : String} {b : Addr} {As rest : List Value} {g : JFrame}
theorem vx_callBack (cb : CallB R s args own index y bytes maxL ret ws rm mc ms n) (hM : vx_Met l y ws rm Pc Qc XC mc ms free) (hbl : FrameBlind Pc) : vx_Back l R p e below s args y 3 8 (PreOf R mc ms Pc) (PostOf Qc mc ms free) (vx_Post XC mc ms free) := by
  obtain ⟨hrc, hrs, hfr, hlo, hws, hcw, -, hini, -⟩ := cb
  exact vx_back (bytes := bytes) (maxL := maxL) (ret := ret) hM hbl hrc hrs hfr hlo hws hcw (fun a' U hW => word_at hW (Or.inl (by first | rfl | simp [Cond.onTables, Cond.keeps, Cond.steady])) hini)
theorem vx_runV (S : CallFix p m c cc nL s args Ts own) (hM : vx_Met l y ws rm Pc Qc XC mc ms free) (cw : CallW R s args own C index y bytes maxL ret ws rm mc ms n) (hp : PreV s H C b Pc As)
    (hg : g.method = m) (hn : As.length = n) (hsize : g.locals.size = nL) (hstack : g.stack = As.reverse ++ .ref b :: rest) (hW : 2 * g.monitorRoom + (rest.map fun v => v.category).sum ≤ 8) (hdg : decode cc g.pc = .ok (.invokevirtual index, 3)) (hf : cells + mc ≤ R.cells ∧ slots + ms ≤ R.slots) :
    vx_Run p l e R s m args below meth c H locs cells slots mc ms g rest (Qc (Value.ref b :: As).toArray) XC free := by
  have hK : vx_Back l R p e below s args y 3 8 (PreOf R mc ms Pc) (PostOf Qc mc ms free) (vx_Post XC mc ms free) := vx_callBack cw.1 hM hp.1
  obtain ⟨⟨-, -, -, -, -, -, hcode, -, hy, hlen, hl⟩, hin, hse⟩ := cw
  obtain ⟨hx, hb, hml, ho, -⟩ := S
  obtain ⟨-, ⟨cellB, hcB, hoB, hclB⟩, hPc⟩ := hp
  intro T hT X
  rcases vx_callV X hx (C := C) (bytes := bytes) (maxL := maxL) (ret := ret) ho hl hin hse hcode hy hK (by rw [hT]; exact hcB) hoB hclB hg (hsize.trans hml.symm) (argsL := As) (rest := rest) (fun sig h => hn.trans (hlen sig h)) hstack hW (by rw [hb]; exact hdg)
    (fun vm₁ hW₁ => ⟨hf.1, hf.2, hPc (T.setVm vm₁) hT hW₁⟩) with ⟨v, vm₁, ⟨U', l2, c2, s2⟩, hW₁, X', ⟨g', mk, t, L, e1, e2, hq, h1, hL, h2, h3⟩, st⟩ | ⟨q, vm₁, ⟨U', l2, c2, s2⟩, hW₁, X', ⟨g', mk, t, L, E, ce, e1, e2, hq, hce, hcv, hcl, h1, hL, h2, h3⟩, st⟩
  · dsimp only [Pt.U, Pt.locs, Pt.cells, Pt.slots] at X' e1 e2 h1 h2 h3 st
    subst h1; subst h2; subst h3
    exact Or.inl ⟨v, (T.setVm vm₁).calling g' mk (Value.ref b :: As).toArray, t, U', L, hT, X', hL, e1, e2, hq, st⟩
  · dsimp only [Pt.U, Pt.locs, Pt.cells, Pt.slots] at X' e1 e2 h1 h2 h3 st hcl
    subst h1; subst h2; subst h3
    exact Or.inr ⟨q, (T.setVm vm₁).calling g' mk (Value.ref b :: As).toArray, t, U', L, E, ce, hT, X', hL, e1, e2, hq, hce, hcv, vx_cls hW₁ hcl, st⟩
theorem vx_runS (S : CallFix p m c cc nL s args Ts own) (hM : vx_Met l y ws rm Pc Qc XC mc ms free) (cw : CallB R s args own index y bytes maxL ret ws rm mc ms n ∧ (Cond.static y).before args s = true) (hp : PreS s H Pc As)
    (hg : g.method = m) (hn : As.length = n) (hsize : g.locals.size = nL) (hstack : g.stack = As.reverse ++ rest) (hW : 2 * g.monitorRoom + (rest.map fun v => v.category).sum ≤ 8) (hdg : decode cc g.pc = .ok (.invokestatic index, 3)) (hf : cells + mc ≤ R.cells ∧ slots + ms ≤ R.slots) :
    vx_Run p l e R s m args below meth c H locs cells slots mc ms g rest (Qc As.toArray) XC free := by
  have hK : vx_Back l R p e below s args y 3 8 (PreOf R mc ms Pc) (PostOf Qc mc ms free) (vx_Post XC mc ms free) := vx_callBack cw.1 hM hp.1
  obtain ⟨⟨-, -, -, -, -, -, hcode, hini, hy, hlen, hl⟩, hstt⟩ := cw
  obtain ⟨hx, hb, hml, ho, -⟩ := S
  intro T hT X
  rcases vx_callS X hx (bytes := bytes) (maxL := maxL) (ret := ret) ho hl hstt hini hcode hy hK hg (hsize.trans hml.symm) (argsL := As) (rest := rest) (fun sig h => hn.trans (hlen sig h)) hstack hW (by rw [hb]; exact hdg)
    (fun vm₁ hW₁ => ⟨hf.1, hf.2, hp.2 (T.setVm vm₁) hT hW₁⟩) with ⟨v, vm₁, ⟨U', l2, c2, s2⟩, hW₁, X', ⟨g', mk, t, L, e1, e2, hq, h1, hL, h2, h3⟩, st⟩ | ⟨q, vm₁, ⟨U', l2, c2, s2⟩, hW₁, X', ⟨g', mk, t, L, E, ce, e1, e2, hq, hce, hcv, hcl, h1, hL, h2, h3⟩, st⟩
  · dsimp only [Pt.U, Pt.locs, Pt.cells, Pt.slots] at X' e1 e2 h1 h2 h3 st
    subst h1; subst h2; subst h3
    exact Or.inl ⟨v, (T.setVm vm₁).calling g' mk As.toArray, t, U', L, hT, X', hL, e1, e2, hq, st⟩
  · dsimp only [Pt.U, Pt.locs, Pt.cells, Pt.slots] at X' e1 e2 h1 h2 h3 st hcl
    subst h1; subst h2; subst h3
    exact Or.inr ⟨q, (T.setVm vm₁).calling g' mk As.toArray, t, U', L, E, ce, hT, X', hL, e1, e2, hq, hce, hcv, vx_cls hW₁ hcl, st⟩
end Runs
section Rows
variable {p : Program} {l : Launch} {e : Env} {R : Room} {s : State} {m : MethodId} {args : Array Value} {below : List Frame} {meth : Method} {c : Code} {H : Heap} {locs : List Loc} {cells slots : Nat} {Q : State → Prop}
variable {mc ms : Nat} {free : Addr → Prop} {A0 A1 : Nat → Prop} {H0 : Heap} {a : Array Value} {pc : Nat} {ls : Array Slot} {st0 rest : List Value}
theorem vx_keep {st₀ t T' : State} {L : List Loc} (h0 : st₀.heap = H) (e1 : T'.heap = t.heap) (hS : va_S A0 H0 H locs) (hA : ∀ q, q < H.size → A1 q → A0 q) (hf : ∀ q, free q → A0 q) (hL : ∀ q ∈ L, free q.base) (hF : va_F A1 st₀ t) :
    H.size ≤ T'.heap.size ∧ (∀ q : Nat, q < H.size → ¬ A1 q → T'.heap[q]? = H[q]?) ∧ va_S A0 H0 T'.heap (locs ++ L) := by
  obtain ⟨hz, hk⟩ := hF
  rw [h0] at hz hk
  exact ⟨by rw [e1]; exact hz, fun q h1 h2 => by rw [e1]; exact hk q h1 h2,
    ⟨Nat.le_trans hS.1 (by rw [e1]; exact hz), fun q h1 h2 => by rw [e1, hk q (Nat.lt_of_lt_of_le h1 hS.1) (fun z => h2 (hA q (Nat.lt_of_lt_of_le h1 hS.1) z))]; exact hS.2.1 q h1 h2, fun q hq => by
      rcases List.mem_append.mp hq with h | h
      · exact hS.2.2 q h
      · exact hf _ (hL q h)⟩⟩
theorem vx_calli {S SX : Type} {post : Int32 → S → Prop} {px : SX → Prop} {B : S → State → Prop} {BX : String → SX → State → Prop} {AX : Nat → Prop} (hr : vx_Run p l e R s m args below meth c H locs cells slots mc ms (F0 m pc ls st0) rest (va_Qi post B A1 a) (vx_X px BX AX) free) (hS : va_S A0 H0 H locs) (hA : ∀ q, q < H.size → A1 q → A0 q) (hf : ∀ q, free q → A0 q) (hAX : ∀ q, q < H.size → AX q → A0 q)
    (kx : ∀ (E : String) (ce : Cell) (q9 : Addr) (u : SX) (t : State) (H1 : Heap) (locs1 : List Loc), t.heap = H1 → s.vm.Alike t.vm → px u → BX E u t → H.size ≤ H1.size → (∀ q : Nat, q < H.size → ¬ AX q → H1[q]? = H[q]?) → va_S A0 H0 H1 locs1 → H1[q9]? = some ce → ce.vm = .none → s.vm.findClass E = some ce.cls → vx_W p l e R s m args below meth c H1 locs1 (cells + mc) (slots + ms) Q (F0 m pc ls rest) q9)
    (kk : ∀ (r : Int32) (u : S) (t : State) (H1 : Heap) (locs1 : List Loc), t.heap = H1 → s.vm.Alike t.vm → post r u → B u t → H.size ≤ H1.size → (∀ q : Nat, q < H.size → ¬ A1 q → H1[q]? = H[q]?) → va_S A0 H0 H1 locs1 → W p l e R s m args below meth c H1 locs1 (cells + mc) (slots + ms) Q (F0 m (pc + 3) ls (.int r :: rest))) : W p l e R s m args below meth c H locs cells slots Q (F0 m pc ls st0) := by
  intro T hT X
  rcases hr T hT X with ⟨v, st₀, t, T', L, h0, X', hL, e1, e2, ⟨⟨r, u, hv, hp, hb⟩, hF⟩, st⟩ | ⟨q, st₀, t, T', L, E, ce, h0, X', hL, e1, e2, ⟨u, hp, hb, hF⟩, hce, hcv, hcl, st⟩
  · cases hv
    obtain ⟨k1, k2, k3⟩ := vx_keep h0 e1 hS hA hf hL hF
    obtain ⟨t2, a1, b1⟩ := kk r u t T'.heap (locs ++ L) e1.symm (by rw [← e2]; exact X'.warmed.alike) hp hb k1 k2 k3 T' rfl X'
    exact ⟨t2, st t2 a1, b1⟩
  · obtain ⟨k1, k2, k3⟩ := vx_keep h0 e1 hS hAX hf hL hF
    obtain ⟨t2, a1, b1⟩ := kx E ce q u t T'.heap (locs ++ L) e1.symm (by rw [← e2]; exact X'.warmed.alike) hp hb k1 k2 k3 (by rw [e1]; exact hce) hcv hcl T' rfl X'
    exact ⟨t2, st.trans a1, b1⟩
theorem vx_calll {S SX : Type} {post : Int64 → S → Prop} {px : SX → Prop} {B : S → State → Prop} {BX : String → SX → State → Prop} {AX : Nat → Prop} (hr : vx_Run p l e R s m args below meth c H locs cells slots mc ms (F0 m pc ls st0) rest (va_Ql post B A1 a) (vx_X px BX AX) free) (hS : va_S A0 H0 H locs) (hA : ∀ q, q < H.size → A1 q → A0 q) (hf : ∀ q, free q → A0 q) (hAX : ∀ q, q < H.size → AX q → A0 q)
    (kx : ∀ (E : String) (ce : Cell) (q9 : Addr) (u : SX) (t : State) (H1 : Heap) (locs1 : List Loc), t.heap = H1 → s.vm.Alike t.vm → px u → BX E u t → H.size ≤ H1.size → (∀ q : Nat, q < H.size → ¬ AX q → H1[q]? = H[q]?) → va_S A0 H0 H1 locs1 → H1[q9]? = some ce → ce.vm = .none → s.vm.findClass E = some ce.cls → vx_W p l e R s m args below meth c H1 locs1 (cells + mc) (slots + ms) Q (F0 m pc ls rest) q9)
    (kk : ∀ (r : Int64) (u : S) (t : State) (H1 : Heap) (locs1 : List Loc), t.heap = H1 → s.vm.Alike t.vm → post r u → B u t → H.size ≤ H1.size → (∀ q : Nat, q < H.size → ¬ A1 q → H1[q]? = H[q]?) → va_S A0 H0 H1 locs1 → W p l e R s m args below meth c H1 locs1 (cells + mc) (slots + ms) Q (F0 m (pc + 3) ls (.long r :: rest))) : W p l e R s m args below meth c H locs cells slots Q (F0 m pc ls st0) := by
  intro T hT X
  rcases hr T hT X with ⟨v, st₀, t, T', L, h0, X', hL, e1, e2, ⟨⟨r, u, hv, hp, hb⟩, hF⟩, st⟩ | ⟨q, st₀, t, T', L, E, ce, h0, X', hL, e1, e2, ⟨u, hp, hb, hF⟩, hce, hcv, hcl, st⟩
  · cases hv
    obtain ⟨k1, k2, k3⟩ := vx_keep h0 e1 hS hA hf hL hF
    obtain ⟨t2, a1, b1⟩ := kk r u t T'.heap (locs ++ L) e1.symm (by rw [← e2]; exact X'.warmed.alike) hp hb k1 k2 k3 T' rfl X'
    exact ⟨t2, st t2 a1, b1⟩
  · obtain ⟨k1, k2, k3⟩ := vx_keep h0 e1 hS hAX hf hL hF
    obtain ⟨t2, a1, b1⟩ := kx E ce q u t T'.heap (locs ++ L) e1.symm (by rw [← e2]; exact X'.warmed.alike) hp hb k1 k2 k3 (by rw [e1]; exact hce) hcv hcl T' rfl X'
    exact ⟨t2, st.trans a1, b1⟩
theorem vx_callf {S SX : Type} {post : UInt32 → S → Prop} {px : SX → Prop} {B : S → State → Prop} {BX : String → SX → State → Prop} {AX : Nat → Prop} (hr : vx_Run p l e R s m args below meth c H locs cells slots mc ms (F0 m pc ls st0) rest (va_Qf post B A1 a) (vx_X px BX AX) free) (hS : va_S A0 H0 H locs) (hA : ∀ q, q < H.size → A1 q → A0 q) (hf : ∀ q, free q → A0 q) (hAX : ∀ q, q < H.size → AX q → A0 q)
    (kx : ∀ (E : String) (ce : Cell) (q9 : Addr) (u : SX) (t : State) (H1 : Heap) (locs1 : List Loc), t.heap = H1 → s.vm.Alike t.vm → px u → BX E u t → H.size ≤ H1.size → (∀ q : Nat, q < H.size → ¬ AX q → H1[q]? = H[q]?) → va_S A0 H0 H1 locs1 → H1[q9]? = some ce → ce.vm = .none → s.vm.findClass E = some ce.cls → vx_W p l e R s m args below meth c H1 locs1 (cells + mc) (slots + ms) Q (F0 m pc ls rest) q9)
    (kk : ∀ (r : UInt32) (u : S) (t : State) (H1 : Heap) (locs1 : List Loc), t.heap = H1 → s.vm.Alike t.vm → post r u → B u t → H.size ≤ H1.size → (∀ q : Nat, q < H.size → ¬ A1 q → H1[q]? = H[q]?) → va_S A0 H0 H1 locs1 → W p l e R s m args below meth c H1 locs1 (cells + mc) (slots + ms) Q (F0 m (pc + 3) ls (.float r :: rest))) : W p l e R s m args below meth c H locs cells slots Q (F0 m pc ls st0) := by
  intro T hT X
  rcases hr T hT X with ⟨v, st₀, t, T', L, h0, X', hL, e1, e2, ⟨⟨r, u, hv, hp, hb⟩, hF⟩, st⟩ | ⟨q, st₀, t, T', L, E, ce, h0, X', hL, e1, e2, ⟨u, hp, hb, hF⟩, hce, hcv, hcl, st⟩
  · cases hv
    obtain ⟨k1, k2, k3⟩ := vx_keep h0 e1 hS hA hf hL hF
    obtain ⟨t2, a1, b1⟩ := kk r u t T'.heap (locs ++ L) e1.symm (by rw [← e2]; exact X'.warmed.alike) hp hb k1 k2 k3 T' rfl X'
    exact ⟨t2, st t2 a1, b1⟩
  · obtain ⟨k1, k2, k3⟩ := vx_keep h0 e1 hS hAX hf hL hF
    obtain ⟨t2, a1, b1⟩ := kx E ce q u t T'.heap (locs ++ L) e1.symm (by rw [← e2]; exact X'.warmed.alike) hp hb k1 k2 k3 (by rw [e1]; exact hce) hcv hcl T' rfl X'
    exact ⟨t2, st.trans a1, b1⟩
theorem vx_calld {S SX : Type} {post : UInt64 → S → Prop} {px : SX → Prop} {B : S → State → Prop} {BX : String → SX → State → Prop} {AX : Nat → Prop} (hr : vx_Run p l e R s m args below meth c H locs cells slots mc ms (F0 m pc ls st0) rest (va_Qd post B A1 a) (vx_X px BX AX) free) (hS : va_S A0 H0 H locs) (hA : ∀ q, q < H.size → A1 q → A0 q) (hf : ∀ q, free q → A0 q) (hAX : ∀ q, q < H.size → AX q → A0 q)
    (kx : ∀ (E : String) (ce : Cell) (q9 : Addr) (u : SX) (t : State) (H1 : Heap) (locs1 : List Loc), t.heap = H1 → s.vm.Alike t.vm → px u → BX E u t → H.size ≤ H1.size → (∀ q : Nat, q < H.size → ¬ AX q → H1[q]? = H[q]?) → va_S A0 H0 H1 locs1 → H1[q9]? = some ce → ce.vm = .none → s.vm.findClass E = some ce.cls → vx_W p l e R s m args below meth c H1 locs1 (cells + mc) (slots + ms) Q (F0 m pc ls rest) q9)
    (kk : ∀ (r : UInt64) (u : S) (t : State) (H1 : Heap) (locs1 : List Loc), t.heap = H1 → s.vm.Alike t.vm → post r u → B u t → H.size ≤ H1.size → (∀ q : Nat, q < H.size → ¬ A1 q → H1[q]? = H[q]?) → va_S A0 H0 H1 locs1 → W p l e R s m args below meth c H1 locs1 (cells + mc) (slots + ms) Q (F0 m (pc + 3) ls (.double r :: rest))) : W p l e R s m args below meth c H locs cells slots Q (F0 m pc ls st0) := by
  intro T hT X
  rcases hr T hT X with ⟨v, st₀, t, T', L, h0, X', hL, e1, e2, ⟨⟨r, u, hv, hp, hb⟩, hF⟩, st⟩ | ⟨q, st₀, t, T', L, E, ce, h0, X', hL, e1, e2, ⟨u, hp, hb, hF⟩, hce, hcv, hcl, st⟩
  · cases hv
    obtain ⟨k1, k2, k3⟩ := vx_keep h0 e1 hS hA hf hL hF
    obtain ⟨t2, a1, b1⟩ := kk r u t T'.heap (locs ++ L) e1.symm (by rw [← e2]; exact X'.warmed.alike) hp hb k1 k2 k3 T' rfl X'
    exact ⟨t2, st t2 a1, b1⟩
  · obtain ⟨k1, k2, k3⟩ := vx_keep h0 e1 hS hAX hf hL hF
    obtain ⟨t2, a1, b1⟩ := kx E ce q u t T'.heap (locs ++ L) e1.symm (by rw [← e2]; exact X'.warmed.alike) hp hb k1 k2 k3 (by rw [e1]; exact hce) hcv hcl T' rfl X'
    exact ⟨t2, st.trans a1, b1⟩
theorem vx_callv {S SX : Type} {post : S → Prop} {px : SX → Prop} {B : S → State → Prop} {BX : String → SX → State → Prop} {AX : Nat → Prop} (hr : vx_Run p l e R s m args below meth c H locs cells slots mc ms (F0 m pc ls st0) rest (va_Qv post B A1 a) (vx_X px BX AX) free) (hS : va_S A0 H0 H locs) (hA : ∀ q, q < H.size → A1 q → A0 q) (hf : ∀ q, free q → A0 q) (hAX : ∀ q, q < H.size → AX q → A0 q)
    (kx : ∀ (E : String) (ce : Cell) (q9 : Addr) (u : SX) (t : State) (H1 : Heap) (locs1 : List Loc), t.heap = H1 → s.vm.Alike t.vm → px u → BX E u t → H.size ≤ H1.size → (∀ q : Nat, q < H.size → ¬ AX q → H1[q]? = H[q]?) → va_S A0 H0 H1 locs1 → H1[q9]? = some ce → ce.vm = .none → s.vm.findClass E = some ce.cls → vx_W p l e R s m args below meth c H1 locs1 (cells + mc) (slots + ms) Q (F0 m pc ls rest) q9)
    (kk : ∀ (u : S) (t : State) (H1 : Heap) (locs1 : List Loc), t.heap = H1 → s.vm.Alike t.vm → post u → B u t → H.size ≤ H1.size → (∀ q : Nat, q < H.size → ¬ A1 q → H1[q]? = H[q]?) → va_S A0 H0 H1 locs1 → W p l e R s m args below meth c H1 locs1 (cells + mc) (slots + ms) Q (F0 m (pc + 3) ls (rest))) : W p l e R s m args below meth c H locs cells slots Q (F0 m pc ls st0) := by
  intro T hT X
  rcases hr T hT X with ⟨v, st₀, t, T', L, h0, X', hL, e1, e2, ⟨⟨u, hv, hp, hb⟩, hF⟩, st⟩ | ⟨q, st₀, t, T', L, E, ce, h0, X', hL, e1, e2, ⟨u, hp, hb, hF⟩, hce, hcv, hcl, st⟩
  · cases hv
    obtain ⟨k1, k2, k3⟩ := vx_keep h0 e1 hS hA hf hL hF
    obtain ⟨t2, a1, b1⟩ := kk u t T'.heap (locs ++ L) e1.symm (by rw [← e2]; exact X'.warmed.alike) hp hb k1 k2 k3 T' rfl X'
    exact ⟨t2, st t2 a1, b1⟩
  · obtain ⟨k1, k2, k3⟩ := vx_keep h0 e1 hS hAX hf hL hF
    obtain ⟨t2, a1, b1⟩ := kx E ce q u t T'.heap (locs ++ L) e1.symm (by rw [← e2]; exact X'.warmed.alike) hp hb k1 k2 k3 (by rw [e1]; exact hce) hcv hcl T' rfl X'
    exact ⟨t2, st.trans a1, b1⟩
end Rows
section Ends
variable {p : Program} {l : Launch} {e : Env} {R : Room} {s : State} {m : MethodId} {args : Array Value} {below : List Frame} {meth : Method} {c : Code} {H : Heap} {locs : List Loc} {cells slots : Nat} {Q : State → Prop}
variable {mc ms : Nat} {free : Addr → Prop} {A0 A1 : Nat → Prop} {H0 : Heap} {a : Array Value} {ls : Array Slot} {st0 rest : List Value}
variable {Qc : Array Value → State → Outcome → State → Prop} {XC : String → State → State → Prop}
/-- what a body that may throw owes at its end -/
def vx_MQ (below : List Frame) (Qc : Array Value → State → Outcome → State → Prop) (XC : String → State → State → Prop) (a : Array Value) (s : State) (mc ms : Nat) (free : Addr → Prop) : State → Prop := fun t =>
  ∃ o, t.status = .running ∧ Ended t below o ∧ vx_Q Qc XC mc ms free a s o t
theorem vx_ret {g : JFrame} {mc ms : Nat} (k : W p l e R s m args below meth c H locs cells slots (MQ below Qc args s mc ms free) g) : W p l e R s m args below meth c H locs cells slots (vx_MQ below Qc XC args s mc ms free) g := by
  intro T hT X
  obtain ⟨t, a1, o, b1, b2, b3, b4⟩ := k T hT X
  exact ⟨t, a1, o, b1, b2, Or.inl ⟨b3, b4⟩⟩
/-- not caught here: it goes on to the caller -/
theorem vx_widen {g : JFrame} {q : Addr} {k n : Nat} (h1 : cells ≤ k) (h2 : slots ≤ n) (kk : vx_W p l e R s m args below meth c H locs k n Q g q) : vx_W p l e R s m args below meth c H locs cells slots Q g q := fun T hT X => kk T hT (stand_widen X h1 h2)
theorem vx_out {pc : Nat} {E : String} {ce : Cell} {q : Addr} {mc ms : Nat} (hout : ∀ x ∈ c.exceptionTable.toList, covers x pc = false) (hlocks : meth.locks = false) (hcell : H[q]? = some ce) (hv : ce.vm = .none) (hcl : s.vm.findClass E = some ce.cls)
    (hx : ∀ t : State, t.heap = H → s.vm.Alike t.vm → XC E s t) (hf : ∀ z ∈ locs, free z.base) (hc : cells ≤ mc) (hs : slots ≤ ms) :
    vx_W p l e R s m args below meth c H locs cells slots (vx_MQ below Qc XC args s mc ms free) (F0 m pc ls rest) q := by
  intro T hT X
  obtain ⟨st1, hrun, hend, hW, hsm⟩ := X.leaveThrown q (g := F0 m pc ls rest) rfl rfl rfl hout hlocks
  have hcell9 : (T.setFrames (.throwing q :: below)).heap[q]? = some ce := by
    show T.heap[q]? = some ce
    rw [hT]; exact hcell
  exact ⟨_, st1, .threw q, hrun, hend, Or.inr ⟨q, rfl, E, ce, locs, hx _ hT hW.alike, hcell9, hv, hcl, hW, hsm.mono hc hs, hf⟩⟩
theorem vx_frame {U : State} {k n : Nat} (h : s.sameButNew ({ U with vm := s.vm } : State) locs k n) : s.heap.size ≤ U.heap.size ∧ ∀ q : Nat, q < s.heap.size → (∀ z ∈ locs, z.base ≠ q) → U.heap[q]? = s.heap[q]? := by
  obtain ⟨-, h2, -, -, -, h6⟩ := h
  refine ⟨h2, fun q hq hz => ?_⟩
  obtain ⟨c9, e1, e2, e3, e4⟩ := h6 q _ (Array.getElem?_eq_getElem hq)
  have hs : c9.slots = (s.heap[q]).slots := Array.ext_getElem? fun i => e4 i fun hm => hz _ hm rfl
  have h9 : c9 = s.heap[q] := by
    rw [hs] at e2
    exact e2
  have e5 : U.heap[q]? = some c9 := e1
  rw [e5, h9, Array.getElem?_eq_getElem hq]
end Ends
section Bodies
variable {l : Launch}
theorem vx_ofW {y : MethodName} {ws ws' : List Cond} {rm : Room} {Pc : Array Value → State → Prop} {Qc : Array Value → State → Outcome → State → Prop} {XC : String → State → State → Prop} {mc ms : Nat} {free : Addr → Prop} {cc : ByteArray} {maxL : Nat} {ret : Option FieldType}
    (hy : plainName y.cls = true) (hw : ws = Cond.code y cc maxL ret :: ws')
    (body : ∀ p e s m args below meth c s₁, BodyLoose p l y (headSpec ws rm) cc maxL ret e s m args below meth c s₁ → c.maxLocals = maxL → (∀ x ∈ c.exceptionTable.toList, False) → Pc args s →
      W p l e (headSpec ws rm).room s m args below meth c s.heap [] 0 0 (vx_MQ below Qc XC args s mc ms free) (entryFrame m args maxL)) : vx_Met l y ws rm Pc Qc XC mc ms free := by
  refine MetFree.of_bodyS (code := cc) (maxLocals := maxL) (ret := ret) hy ?_ ?_
  · intro args s m h hn
    obtain ⟨meth, c, h1, h2, h3, h4, h5, h6, -, -⟩ := Cond.code_spec hn (atoms_spec (ws := ws) h _ (by rw [hw]; exact List.mem_cons_self))
    exact ⟨meth, c, h1, h2, h3, h4, h5, h6⟩
  · intro p e s m args below meth c s₁ B hml hP _
    have hh0 : s₁.heap = s.heap := by rw [B.state]; rfl
    have ht : ∀ x ∈ c.exceptionTable.toList, False := by
      obtain ⟨meth9, c9, h1, h2, -, -, -, -, h7, -⟩ := Cond.code_spec B.named (atoms_spec (ws := ws) B.pre _ (by rw [hw]; exact List.mem_cons_self))
      cases Option.some.inj (h1.symm.trans B.method)
      cases Option.some.inj (h2.symm.trans (Stand.of_body B).code)
      intro x hx
      rw [Array.isEmpty_iff.mp h7] at hx
      cases hx
    obtain ⟨t, a1, o, b1, b2, b3⟩ := body p e s m args below meth c s₁ B hml ht hP s₁ hh0 (Stand.of_body B)
    exact ⟨t, o, a1, b1, b2, b3⟩
/-- the table of a body with handlers -/
theorem vx_table {p : Program} {x y : MethodName} {S : Spec} {cc bytes : ByteArray} {maxL maxL' : Nat} {ret ret' : Option FieldType} {e : Env} {s s₁ : State} {m : MethodId} {args : Array Value} {below : List Frame} {meth : Method} {c : Code} {hh : List (Nat × Nat × Nat × Nat)}
    (B : BodyLoose p l y S cc maxL ret e s m args below meth c s₁) (h : (Cond.codeWith y bytes maxL' ret' hh).before args s = true) : c.exceptionTable.toList = tableOf hh := by
  obtain ⟨m9, meth9, c9, hn9, h1, h2, -, -, h6, -⟩ := Cond.codeWith_spec h
  cases Option.some.inj (hn9.symm.trans B.named)
  cases Option.some.inj (h1.symm.trans B.method)
  cases Option.some.inj (h2.symm.trans (Stand.of_body B).code)
  rw [← h6, table_eq]
end Bodies
end VXA
/-! ===== BEGIN a static call of a method with an exception table ===== -/
section VXS
variable {p : Program} {l : Launch} {e : Env} {R : Room} {s : State} {m : MethodId} {args : Array Value} {below : List Frame} {meth : Method} {c : Code} {T : State} {H : Heap} {locs : List Loc} {cells slots : Nat}
abbrev vx_CSW (R : Room) (s : State) (args : Array Value) (own : String) (index : Nat) (y : MethodName) (bytes : ByteArray) (maxL : Nat) (ret : Option FieldType) (hh : List (Nat × Nat × Nat × Nat)) (ws : List Cond) (rm : Room) (mc ms n : Nat) : Prop :=
  (rm.cells = mc ∧ rm.slots = ms ∧ rm.frames + 1 ≤ R.frames ∧ 8 + (maxL + 11) + rm.locals ≤ R.locals ∧ (∀ w ∈ ws, ∀ (a' : Array Value) (U : State), s.WarmedH U.vm → w.before a' U = true) ∧ Cond.codeWith y bytes maxL ret hh ∈ ws) ∧
  (Cond.codeWith y bytes maxL ret hh).before args s = true ∧ (Cond.initialized y.cls).before args s = true ∧ (y.cls ≠ "java/lang/invoke/MethodHandle" ∧ y.cls ≠ "java/lang/invoke/VarHandle") ∧
  (∀ sig, parseMethodDescriptor y.desc = some sig → n = sig.parameters.length) ∧ (Cond.methodLink own index y).before args s = true ∧ (Cond.static y).before args s = true
theorem vx_cwSW {own : String} {index maxL mc ms : Nat} {y : MethodName} {bytes : ByteArray} {ret : Option FieldType} {hh : List (Nat × Nat × Nat × Nat)} {Ts ws ws' : List Cond} {rm : Room} (n : Nat) (ht : ∀ w ∈ Ts, w.before args s = true) (hT : GoodIn Ts (va_wsS own index y ws)) (hw : ws = Cond.codeWith y bytes maxL ret hh :: ws') (hrc : rm.cells = mc) (hrs : rm.slots = ms)
    (hd : y.cls ≠ "java/lang/invoke/MethodHandle" ∧ y.cls ≠ "java/lang/invoke/VarHandle" ∧ (parseMethodDescriptor y.desc).map (fun d => d.parameters.length) = some n) (hR : rm.frames + 1 ≤ R.frames ∧ 8 + (maxL + 11) + rm.locals ≤ R.locals) :
    vx_CSW R s args own index y bytes maxL ret hh ws rm mc ms n := by
  have ok : ∀ w ∈ va_wsS own index y ws, w.before args s = true := fun w h => ht w (hT w h).1
  have hG : GoodIn Ts ws := fun w h => hT w (by unfold va_wsS; exact List.mem_append_right _ h)
  have hc : Cond.codeWith y bytes maxL ret hh ∈ ws := by rw [hw]; exact List.mem_cons_self
  refine ⟨⟨hrc, hrs, hR.1, hR.2, pay_in ht hG, hc⟩, ht _ (hG _ hc).1, ok _ (by simp [va_wsS]), ⟨hd.1, hd.2.1⟩, fun sig h => ?_, ok _ (by simp [va_wsS]), ok _ (by simp [va_wsS])⟩
  have h2 := hd.2.2
  rw [h] at h2
  exact (Option.some.inj h2).symm
theorem vx_callSW (X : Stand p l e R s m args below meth c T locs cells slots) (hexec : p.tables.exec = Jvm.exec) {own : String} {index : Nat} {y : MethodName} {bytes : ByteArray} {maxL : Nat} {ret : Option FieldType} {hh : List (Nat × Nat × Nat × Nat)}
    (hown : s.vm.findClass own = some m.cls) (hlink : (Cond.methodLink own index y).before args s = true) (hstat : (Cond.static y).before args s = true) (hinit : (Cond.initialized y.cls).before args s = true)
    (hcode : (Cond.codeWith y bytes maxL ret hh).before args s = true) (hy : y.cls ≠ "java/lang/invoke/MethodHandle" ∧ y.cls ≠ "java/lang/invoke/VarHandle")
    {W9 : Nat} {Pre : Pt → Array Value → Prop} {Post : Pt → Array Value → Option Value → Pt → Prop} (hK : Back l R p e below s args y 3 W9 Pre Post)
    {g : JFrame} (hg : g.method = m) (hsize : g.locals.size = c.maxLocals) {argsL rest : List Value} (hlen : ∀ sig, parseMethodDescriptor y.desc = some sig → argsL.length = sig.parameters.length)
    (hstack : g.stack = argsL.reverse ++ rest) (hW : 2 * g.monitorRoom + (rest.map fun v => v.category).sum ≤ W9) (hdg : decode c.code g.pc = .ok (.invokestatic index, 3))
    (hpre : ∀ vm₁, s.WarmedH vm₁ → Pre ⟨T.setVm vm₁, locs, cells, slots⟩ argsL.toArray) :
    ∃ (v : Option Value) (vm₁ : Vm) (B : Pt), s.WarmedH vm₁ ∧ Stand p l e R s m args below meth c B.U B.locs B.cells B.slots ∧ Post ⟨T.setVm vm₁, locs, cells, slots⟩ argsL.toArray v B ∧
      ∀ target, Steps p.tables e below (B.U.setTop { g with pc := g.pc + 3, stack := v.toList ++ rest }) target → Steps p.tables e below (T.setTop g) target := by
  obtain ⟨mk, methM, cM, hnamed, hmethM, -, -, -, -, -, -, hsigM⟩ := Cond.codeWith_spec hcode
  have hstatic : methM.isStatic = true := Cond.static_spec hnamed hmethM hstat
  obtain ⟨kP, hkP, -⟩ := className_of_methodNamed hnamed
  have hinitP : kP.init = .initialized := Cond.initialized_spec (findClass_of_methodNamed hnamed) hkP hinit
  obtain ⟨vm₁, X₁, hstep₁⟩ := X.invokestatic hexec hown hlink hnamed hmethM hstatic hkP hinitP hy (g := g) hg (argsL := argsL) (rest := rest) (hlen _ hsigM) hstack hdg
  obtain ⟨v, B, X', hpost, hsteps⟩ := hK m meth c ⟨T.setVm vm₁, locs, cells, slots⟩ { g with stack := rest } (.invokestatic index) mk argsL.toArray X₁ hg hsize hdg hW (X₁.named hnamed) (hpre vm₁ X₁.warmed)
  exact ⟨v, vm₁, B, X₁.warmed, X', hpost, fun target h => hstep₁ _ fun acts => by rw [doInvoke_state]; exact hsteps.trans h⟩
theorem vx_runSW {y : MethodName} {bytes cc : ByteArray} {maxL nL mc ms n index : Nat} {ret : Option FieldType} {hh : List (Nat × Nat × Nat × Nat)} {ws : List Cond} {rm : Room} {Pc : Array Value → State → Prop} {Qc : Array Value → State → Outcome → State → Prop} {free : Addr → Prop} {Ts : List Cond} {own : String} {As rest : List Value} {g : JFrame}
    (S : CallFix p m c cc nL s args Ts own) (hM : Met l y ws rm Pc Qc mc ms free) (cw : vx_CSW R s args own index y bytes maxL ret hh ws rm mc ms n) (hp : PreS s H Pc As)
    (hg : g.method = m) (hn : As.length = n) (hsize : g.locals.size = nL) (hstack : g.stack = As.reverse ++ rest) (hW : 2 * g.monitorRoom + (rest.map fun v => v.category).sum ≤ 8) (hdg : decode cc g.pc = .ok (.invokestatic index, 3)) (hf : cells + mc ≤ R.cells ∧ slots + ms ≤ R.slots) :
    va_Run p l e R s m args below meth c H locs cells slots mc ms g rest (Qc As.toArray) (free) := by
  obtain ⟨⟨hrc, hrs, hfr, hlo, hws, hcw⟩, hcode, hini, hy, hlen, hl, hstt⟩ := cw
  have hK : Back l R p e below s args y 3 8 (PreOf R mc ms Pc) (PostOf Qc mc ms free) := va_backW (hh := hh) (bytes := bytes) (maxL := maxL) (ret := ret) hM hp.1 hrc hrs hfr hlo hws hcw (fun a' U hW => word_at hW (Or.inl (by first | rfl | simp [Cond.onTables, Cond.keeps, Cond.steady])) hini)
  obtain ⟨hx, hb, hml, ho, -⟩ := S
  intro T hT X
  obtain ⟨v, vm₁, ⟨U', l2, c2, s2⟩, hW₁, X', ⟨g', mk, t, L, e1, e2, hq, h1, hL, h2, h3⟩, st⟩ := vx_callSW X hx (hh := hh) (bytes := bytes) (maxL := maxL) (ret := ret) ho hl hstt hini hcode hy hK hg (hsize.trans hml.symm) (argsL := As) (rest := rest) (fun sig h => hn.trans (hlen sig h)) hstack hW (by rw [hb]; exact hdg)
    (fun vm₁ hW₁ => ⟨hf.1, hf.2, hp.2 (T.setVm vm₁) hT hW₁⟩)
  dsimp only [Pt.U, Pt.locs, Pt.cells, Pt.slots] at X' e1 e2 h1 h2 h3 st
  subst h1; subst h2; subst h3
  exact ⟨v, (T.setVm vm₁).calling g' mk As.toArray, t, U', L, hT, X', hL, e1, e2, hq, st⟩
end VXS
theorem vx_ofWH {l : Launch} {y : MethodName} {ws ws' : List Cond} {rm : Room} {Pc : Array Value → State → Prop} {Qc : Array Value → State → Outcome → State → Prop} {XC : String → State → State → Prop} {mc ms : Nat} {free : Addr → Prop} {cc : ByteArray} {maxL : Nat} {ret : Option FieldType} {hh : List (Nat × Nat × Nat × Nat)}
    (hy : plainName y.cls = true) (hw : ws = Cond.codeWith y cc maxL ret hh :: ws')
    (body : ∀ p e s m args below meth c s₁, BodyLoose p l y (headSpec ws rm) cc maxL ret e s m args below meth c s₁ → c.maxLocals = maxL → Pc args s →
      W p l e (headSpec ws rm).room s m args below meth c s.heap [] 0 0 (vx_MQ below Qc XC args s mc ms free) (entryFrame m args maxL)) : vx_Met l y ws rm Pc Qc XC mc ms free := by
  refine MetFree.of_bodyS (code := cc) (maxLocals := maxL) (ret := ret) hy ?_ ?_
  · intro args s m h hn
    obtain ⟨m9, meth, c, hn9, h1, h2, h3, h4, -, h5, h6, -⟩ := Cond.codeWith_spec (atoms_spec (ws := ws) h _ (by rw [hw]; exact List.mem_cons_self))
    cases hn.symm.trans hn9
    exact ⟨meth, c, h1, h2, h3, h4, h5, h6⟩
  · intro p e s m args below meth c s₁ B hml hP _
    have hh0 : s₁.heap = s.heap := by rw [B.state]; rfl
    obtain ⟨t, a1, o, b1, b2, b3⟩ := body p e s m args below meth c s₁ B hml hP s₁ hh0 (Stand.of_body B)
    exact ⟨t, o, a1, b1, b2, b3⟩
end
section
/-! ===== BEGIN printed: names, fields, word lists, decode rows ===== -/
def RX0 : String := "HumanSteps$Colours"
def TX0 : u_T := fun k => match k with
  | 0 => ("HumanSteps$Colours", "marks", "[I", true)
  | 1 => ("HumanSteps$Colours", "joined", "[I", true)
  | _ => ("HumanSteps$Colours", "size", "I", false)
def tyX0 : Nat → FieldType := fun k => match k with
  | 0 => .array .int
  | 1 => .array .int
  | _ => .int
abbrev wsX00 : List Cond := u_ws RX0 TX0 3
theorem nmX0 : ∀ a, a < 3 → ∀ b, b < 3 → a ≠ b → (TX0 a).2.1 ≠ (TX0 b).2.1 := by decide +kernel
theorem tyX0_ok : ∀ k, k < 3 → parseFieldDescriptor (TX0 k).2.2.1 = some (tyX0 k) := by decide +kernel
abbrev cX0_init : ByteArray := prog_2_method_1_code
def yX0_init : MethodName := ⟨RX0, "<init>", "(I)V"⟩
abbrev cX0_look : ByteArray := prog_2_method_2_code
def yX0_look : MethodName := ⟨RX0, "look", "(LHumanSteps$Grid;LHumanSteps$Finding;)Z"⟩
abbrev cX0_join : ByteArray := prog_2_method_3_code
def yX0_join : MethodName := ⟨RX0, "join", "(LHumanSteps$Grid;II)V"⟩
abbrev cX0_colour : ByteArray := prog_2_method_4_code
def yX0_colour : MethodName := ⟨RX0, "colour", "(II)V"⟩
abbrev cX0_linkedCell : ByteArray := prog_2_method_5_code
def yX0_linkedCell : MethodName := ⟨RX0, "linkedCell", "(LHumanSteps$Grid;III)I"⟩
abbrev cX0_takes : ByteArray := prog_2_method_6_code
def yX0_takes : MethodName := ⟨RX0, "takes", "(LHumanSteps$Grid;LHumanSteps$Finding;I)Z"⟩
abbrev cX0_clash : ByteArray := prog_2_method_7_code
def yX0_clash : MethodName := ⟨RX0, "clash", "(LHumanSteps$Grid;I)Z"⟩
abbrev cX0_strikeColour : ByteArray := prog_2_method_8_code
def yX0_strikeColour : MethodName := ⟨RX0, "strikeColour", "(LHumanSteps$Finding;II)V"⟩
abbrev cX0_strikeOthers : ByteArray := prog_2_method_9_code
def yX0_strikeOthers : MethodName := ⟨RX0, "strikeOthers", "(LHumanSteps$Grid;LHumanSteps$Finding;I)V"⟩
abbrev cX0_leaveBehind : ByteArray := prog_2_method_10_code
def yX0_leaveBehind : MethodName := ⟨RX0, "leaveBehind", "()V"⟩
def RX1 : String := "HumanSteps$Finding"
def TX1 : u_T := fun k => match k with
  | 0 => ("HumanSteps$Finding", "going", "[I", true)
  | 1 => ("HumanSteps$Finding", "reason", "[I", true)
  | 2 => ("HumanSteps$Finding", "step", "I", false)
  | 3 => ("HumanSteps$Finding", "cell", "I", false)
  | 4 => ("HumanSteps$Finding", "symbol", "I", false)
  | 5 => ("HumanSteps$Finding", "goers", "I", false)
  | _ => ("HumanSteps$Finding", "reasons", "I", false)
def tyX1 : Nat → FieldType := fun k => match k with
  | 0 => .array .int
  | 1 => .array .int
  | 2 => .int
  | 3 => .int
  | 4 => .int
  | 5 => .int
  | _ => .int
abbrev wsX10 : List Cond := u_ws RX1 TX1 7
theorem nmX1 : ∀ a, a < 7 → ∀ b, b < 7 → a ≠ b → (TX1 a).2.1 ≠ (TX1 b).2.1 := by decide +kernel
theorem tyX1_ok : ∀ k, k < 7 → parseFieldDescriptor (TX1 k).2.2.1 = some (tyX1 k) := by decide +kernel
abbrev cX1_init : ByteArray := prog_3_method_1_code
def yX1_init : MethodName := ⟨RX1, "<init>", "(I)V"⟩
abbrev cX1_clear : ByteArray := prog_3_method_2_code
def yX1_clear : MethodName := ⟨RX1, "clear", "()V"⟩
abbrev cX1_strike : ByteArray := prog_3_method_3_code
def yX1_strike : MethodName := ⟨RX1, "strike", "(II)V"⟩
abbrev cX1_because : ByteArray := prog_3_method_4_code
def yX1_because : MethodName := ⟨RX1, "because", "(I)V"⟩
abbrev cX1_goer : ByteArray := prog_3_method_5_code
def yX1_goer : MethodName := ⟨RX1, "goer", "(II)I"⟩
abbrev cX1_nthBit : ByteArray := prog_3_method_6_code
def yX1_nthBit : MethodName := ⟨RX1, "nthBit", "(II)I"⟩
def RX2 : String := "HumanSteps$Grid"
def TX2 : u_T := fun k => match k with
  | 0 => ("HumanSteps$Grid", "n", "I", true)
  | 1 => ("HumanSteps$Grid", "cells", "I", true)
  | 2 => ("HumanSteps$Grid", "houses", "I", true)
  | 3 => ("HumanSteps$Grid", "candidates", "[I", true)
  | 4 => ("HumanSteps$Grid", "value", "[I", true)
  | 5 => ("HumanSteps$Grid", "cellAt", "[I", true)
  | 6 => ("HumanSteps$Grid", "houseOf", "[I", true)
  | 7 => ("HumanSteps$Grid", "placeOf", "[I", true)
  | _ => ("HumanSteps$Grid", "placeBits", "[I", true)
def tyX2 : Nat → FieldType := fun k => match k with
  | 0 => .int
  | 1 => .int
  | 2 => .int
  | 3 => .array .int
  | 4 => .array .int
  | 5 => .array .int
  | 6 => .array .int
  | 7 => .array .int
  | _ => .array .int
abbrev wsX20 : List Cond := u_ws RX2 TX2 9
theorem nmX2 : ∀ a, a < 9 → ∀ b, b < 9 → a ≠ b → (TX2 a).2.1 ≠ (TX2 b).2.1 := by decide +kernel
theorem tyX2_ok : ∀ k, k < 9 → parseFieldDescriptor (TX2 k).2.2.1 = some (tyX2 k) := by decide +kernel
abbrev cX2_init : ByteArray := prog_4_method_1_code
def yX2_init : MethodName := ⟨RX2, "<init>", "(I)V"⟩
abbrev cX2_layLines : ByteArray := prog_4_method_2_code
def yX2_layLines : MethodName := ⟨RX2, "layLines", "()V"⟩
abbrev cX2_layBoxes : ByteArray := prog_4_method_3_code
def yX2_layBoxes : MethodName := ⟨RX2, "layBoxes", "(II)V"⟩
abbrev cX2_lay : ByteArray := prog_4_method_4_code
def yX2_lay : MethodName := ⟨RX2, "lay", "(IIII)V"⟩
abbrev cX2_fill : ByteArray := prog_4_method_5_code
def yX2_fill : MethodName := ⟨RX2, "fill", "()V"⟩
abbrev cX2_cell : ByteArray := prog_4_method_6_code
def yX2_cell : MethodName := ⟨RX2, "cell", "(II)I"⟩
abbrev cX2_house : ByteArray := prog_4_method_7_code
def yX2_house : MethodName := ⟨RX2, "house", "(II)I"⟩
abbrev cX2_rowOf : ByteArray := prog_4_method_8_code
def yX2_rowOf : MethodName := ⟨RX2, "rowOf", "(I)I"⟩
abbrev cX2_columnOf : ByteArray := prog_4_method_9_code
def yX2_columnOf : MethodName := ⟨RX2, "columnOf", "(I)I"⟩
abbrev cX2_places : ByteArray := prog_4_method_10_code
def yX2_places : MethodName := ⟨RX2, "places", "(II)I"⟩
abbrev cX2_isOpen : ByteArray := prog_4_method_11_code
def yX2_isOpen : MethodName := ⟨RX2, "isOpen", "(I)Z"⟩
abbrev cX2_isIn : ByteArray := prog_4_method_12_code
def yX2_isIn : MethodName := ⟨RX2, "isIn", "(II)Z"⟩
abbrev cX2_see : ByteArray := prog_4_method_13_code
def yX2_see : MethodName := ⟨RX2, "see", "(II)Z"⟩
abbrev cX2_drop : ByteArray := prog_4_method_14_code
def yX2_drop : MethodName := ⟨RX2, "drop", "(II)V"⟩
abbrev cX2_giveBack : ByteArray := prog_4_method_15_code
def yX2_giveBack : MethodName := ⟨RX2, "giveBack", "(II)V"⟩
abbrev cX2_isBroken : ByteArray := prog_4_method_16_code
def yX2_isBroken : MethodName := ⟨RX2, "isBroken", "()Z"⟩
abbrev cX2_openCells : ByteArray := prog_4_method_17_code
def yX2_openCells : MethodName := ⟨RX2, "openCells", "()I"⟩
abbrev cX2_openCandidates : ByteArray := prog_4_method_18_code
def yX2_openCandidates : MethodName := ⟨RX2, "openCandidates", "()I"⟩
def RX3 : String := "HumanSteps$History"
def TX3 : u_T := fun k => match k with
  | 0 => ("HumanSteps$History", "gone", "[I", true)
  | 1 => ("HumanSteps$History", "steps", "[I", true)
  | 2 => ("HumanSteps$History", "setCells", "[I", true)
  | 3 => ("HumanSteps$History", "ends", "[I", true)
  | 4 => ("HumanSteps$History", "size", "I", false)
  | _ => ("HumanSteps$History", "depth", "I", false)
def tyX3 : Nat → FieldType := fun k => match k with
  | 0 => .array .int
  | 1 => .array .int
  | 2 => .array .int
  | 3 => .array .int
  | 4 => .int
  | _ => .int
abbrev wsX30 : List Cond := u_ws RX3 TX3 6
theorem nmX3 : ∀ a, a < 6 → ∀ b, b < 6 → a ≠ b → (TX3 a).2.1 ≠ (TX3 b).2.1 := by decide +kernel
theorem tyX3_ok : ∀ k, k < 6 → parseFieldDescriptor (TX3 k).2.2.1 = some (tyX3 k) := by decide +kernel
abbrev cX3_init : ByteArray := prog_5_method_1_code
def yX3_init : MethodName := ⟨RX3, "<init>", "(I)V"⟩
abbrev cX3_mostSteps : ByteArray := prog_5_method_2_code
def yX3_mostSteps : MethodName := ⟨RX3, "mostSteps", "()I"⟩
abbrev cX3_clear : ByteArray := prog_5_method_3_code
def yX3_clear : MethodName := ⟨RX3, "clear", "()V"⟩
abbrev cX3_note : ByteArray := prog_5_method_4_code
def yX3_note : MethodName := ⟨RX3, "note", "(II)V"⟩
abbrev cX3_close : ByteArray := prog_5_method_5_code
def yX3_close : MethodName := ⟨RX3, "close", "(II)V"⟩
abbrev cX3_takeBack : ByteArray := prog_5_method_6_code
def yX3_takeBack : MethodName := ⟨RX3, "takeBack", "(LHumanSteps$Grid;)I"⟩
def RX4 : String := "HumanSteps$Name"
def TX4 : u_T := fun k => match k with
  | _ => ("", "", "", false)
def tyX4 : Nat → FieldType := fun k => match k with
  | _ => .int
abbrev wsX40 : List Cond := u_ws RX4 TX4 0
theorem nmX4 : ∀ a, a < 0 → ∀ b, b < 0 → a ≠ b → (TX4 a).2.1 ≠ (TX4 b).2.1 := by decide +kernel
theorem tyX4_ok : ∀ k, k < 0 → parseFieldDescriptor (TX4 k).2.2.1 = some (tyX4 k) := by decide +kernel
def RX5 : String := "HumanSteps$Seeker"
def TX5 : u_T := fun k => match k with
  | 0 => ("HumanSteps$Seeker", "grid", "LHumanSteps$Grid;", true)
  | 1 => ("HumanSteps$Seeker", "finding", "LHumanSteps$Finding;", true)
  | 2 => ("HumanSteps$Seeker", "n", "I", true)
  | 3 => ("HumanSteps$Seeker", "sets", "LHumanSteps$Sets;", true)
  | 4 => ("HumanSteps$Seeker", "colours", "LHumanSteps$Colours;", true)
  | _ => ("HumanSteps$Seeker", "masks", "[I", true)
def tyX5 : Nat → FieldType := fun k => match k with
  | 0 => .object "HumanSteps$Grid"
  | 1 => .object "HumanSteps$Finding"
  | 2 => .int
  | 3 => .object "HumanSteps$Sets"
  | 4 => .object "HumanSteps$Colours"
  | _ => .array .int
abbrev wsX50 : List Cond := u_ws RX5 TX5 6
theorem nmX5 : ∀ a, a < 6 → ∀ b, b < 6 → a ≠ b → (TX5 a).2.1 ≠ (TX5 b).2.1 := by decide +kernel
theorem tyX5_ok : ∀ k, k < 6 → parseFieldDescriptor (TX5 k).2.2.1 = some (tyX5 k) := by decide +kernel
abbrev cX5_init : ByteArray := prog_7_method_1_code
def yX5_init : MethodName := ⟨RX5, "<init>", "(I)V"⟩
abbrev cX5_seek : ByteArray := prog_7_method_2_code
def yX5_seek : MethodName := ⟨RX5, "seek", "(I)Z"⟩
abbrev cX5_settle : ByteArray := prog_7_method_3_code
def yX5_settle : MethodName := ⟨RX5, "settle", "(II)V"⟩
abbrev cX5_strikePlaces : ByteArray := prog_7_method_4_code
def yX5_strikePlaces : MethodName := ⟨RX5, "strikePlaces", "(III)V"⟩
abbrev cX5_takesSome : ByteArray := prog_7_method_5_code
def yX5_takesSome : MethodName := ⟨RX5, "takesSome", "()Z"⟩
abbrev cX5_becauseOf : ByteArray := prog_7_method_6_code
def yX5_becauseOf : MethodName := ⟨RX5, "becauseOf", "(II)V"⟩
abbrev cX5_last : ByteArray := prog_7_method_7_code
def yX5_last : MethodName := ⟨RX5, "last", "()Z"⟩
abbrev cX5_onlyPlace : ByteArray := prog_7_method_8_code
def yX5_onlyPlace : MethodName := ⟨RX5, "onlyPlace", "(I)Z"⟩
abbrev cX5_isOpenIn : ByteArray := prog_7_method_9_code
def yX5_isOpenIn : MethodName := ⟨RX5, "isOpenIn", "(II)Z"⟩
abbrev cX5_pointing : ByteArray := prog_7_method_10_code
def yX5_pointing : MethodName := ⟨RX5, "pointing", "()Z"⟩
abbrev cX5_claiming : ByteArray := prog_7_method_11_code
def yX5_claiming : MethodName := ⟨RX5, "claiming", "()Z"⟩
abbrev cX5_confined : ByteArray := prog_7_method_12_code
def yX5_confined : MethodName := ⟨RX5, "confined", "(III)Z"⟩
abbrev cX5_sharedHouse : ByteArray := prog_7_method_13_code
def yX5_sharedHouse : MethodName := ⟨RX5, "sharedHouse", "(III)I"⟩
abbrev cX5_nakedSet : ByteArray := prog_7_method_14_code
def yX5_nakedSet : MethodName := ⟨RX5, "nakedSet", "(I)Z"⟩
abbrev cX5_hiddenSet : ByteArray := prog_7_method_15_code
def yX5_hiddenSet : MethodName := ⟨RX5, "hiddenSet", "(I)Z"⟩
abbrev cX5_crossing : ByteArray := prog_7_method_16_code
def yX5_crossing : MethodName := ⟨RX5, "crossing", "(II)Z"⟩
abbrev cX5_crossingAt : ByteArray := prog_7_method_17_code
def yX5_crossingAt : MethodName := ⟨RX5, "crossingAt", "(III)Z"⟩
abbrev cX5_fitItems : ByteArray := prog_7_method_18_code
def yX5_fitItems : MethodName := ⟨RX5, "fitItems", "(I)I"⟩
abbrev cX5_isCovered : ByteArray := prog_7_method_19_code
def yX5_isCovered : MethodName := ⟨RX5, "isCovered", "(III)Z"⟩
abbrev cX5_unionOf : ByteArray := prog_7_method_20_code
def yX5_unionOf : MethodName := ⟨RX5, "unionOf", "(I)I"⟩
abbrev cX5_wing : ByteArray := prog_7_method_21_code
def yX5_wing : MethodName := ⟨RX5, "wing", "(I)Z"⟩
abbrev cX5_isWingtip : ByteArray := prog_7_method_22_code
def yX5_isWingtip : MethodName := ⟨RX5, "isWingtip", "(II)Z"⟩
abbrev cX5_wingAt : ByteArray := prog_7_method_23_code
def yX5_wingAt : MethodName := ⟨RX5, "wingAt", "(IIII)Z"⟩
abbrev cX5_onlyOneAnswer : ByteArray := prog_7_method_24_code
def yX5_onlyOneAnswer : MethodName := ⟨RX5, "onlyOneAnswer", "()Z"⟩
abbrev cX5_rectangleAt : ByteArray := prog_7_method_25_code
def yX5_rectangleAt : MethodName := ⟨RX5, "rectangleAt", "(IIII)Z"⟩
abbrev cX5_isInTwoBoxes : ByteArray := prog_7_method_26_code
def yX5_isInTwoBoxes : MethodName := ⟨RX5, "isInTwoBoxes", "(III)Z"⟩
abbrev cX5_fourth : ByteArray := prog_7_method_27_code
def yX5_fourth : MethodName := ⟨RX5, "fourth", "(IIII)Z"⟩
def RX6 : String := "HumanSteps$Sets"
def TX6 : u_T := fun k => match k with
  | 0 => ("HumanSteps$Sets", "n", "I", true)
  | 1 => ("HumanSteps$Sets", "bits", "[I", true)
  | 2 => ("HumanSteps$Sets", "starts", "[I", true)
  | _ => ("HumanSteps$Sets", "size", "I", false)
def tyX6 : Nat → FieldType := fun k => match k with
  | 0 => .int
  | 1 => .array .int
  | 2 => .array .int
  | _ => .int
abbrev wsX60 : List Cond := u_ws RX6 TX6 4
theorem nmX6 : ∀ a, a < 4 → ∀ b, b < 4 → a ≠ b → (TX6 a).2.1 ≠ (TX6 b).2.1 := by decide +kernel
theorem tyX6_ok : ∀ k, k < 4 → parseFieldDescriptor (TX6 k).2.2.1 = some (tyX6 k) := by decide +kernel
abbrev cX6_init : ByteArray := prog_8_method_1_code
def yX6_init : MethodName := ⟨RX6, "<init>", "(I)V"⟩
abbrev cX6_gather : ByteArray := prog_8_method_2_code
def yX6_gather : MethodName := ⟨RX6, "gather", "(III)V"⟩
abbrev cX6_start : ByteArray := prog_8_method_3_code
def yX6_start : MethodName := ⟨RX6, "start", "(I)I"⟩
abbrev cX6_end : ByteArray := prog_8_method_4_code
def yX6_end : MethodName := ⟨RX6, "end", "(I)I"⟩
abbrev cX6_get : ByteArray := prog_8_method_5_code
def yX6_get : MethodName := ⟨RX6, "get", "(I)I"⟩
def RX7 : String := "HumanSteps"
def TX7 : u_T := fun k => match k with
  | 0 => ("HumanSteps", "seeker", "LHumanSteps$Seeker;", true)
  | 1 => ("HumanSteps", "grid", "LHumanSteps$Grid;", true)
  | 2 => ("HumanSteps", "finding", "LHumanSteps$Finding;", true)
  | 3 => ("HumanSteps", "history", "LHumanSteps$History;", true)
  | 4 => ("HumanSteps", "switchedOn", "[Z", true)
  | _ => ("HumanSteps", "times", "[I", true)
def tyX7 : Nat → FieldType := fun k => match k with
  | 0 => .object "HumanSteps$Seeker"
  | 1 => .object "HumanSteps$Grid"
  | 2 => .object "HumanSteps$Finding"
  | 3 => .object "HumanSteps$History"
  | 4 => .array .boolean
  | _ => .array .int
abbrev wsX70 : List Cond := u_ws RX7 TX7 6
theorem nmX7 : ∀ a, a < 6 → ∀ b, b < 6 → a ≠ b → (TX7 a).2.1 ≠ (TX7 b).2.1 := by decide +kernel
theorem tyX7_ok : ∀ k, k < 6 → parseFieldDescriptor (TX7 k).2.2.1 = some (tyX7 k) := by decide +kernel
abbrev cX7_init : ByteArray := prog_1_method_1_code
def yX7_init : MethodName := ⟨RX7, "<init>", "(I)V"⟩
abbrev cX7_set : ByteArray := prog_1_method_2_code
def yX7_set : MethodName := ⟨RX7, "set", "(II)Z"⟩
abbrev cX7_take : ByteArray := prog_1_method_3_code
def yX7_take : MethodName := ⟨RX7, "take", "(II)Z"⟩
abbrev cX7_enable : ByteArray := prog_1_method_4_code
def yX7_enable : MethodName := ⟨RX7, "enable", "(IZ)Z"⟩
abbrev cX7_find : ByteArray := prog_1_method_5_code
def yX7_find : MethodName := ⟨RX7, "find", "()I"⟩
abbrev cX7_found : ByteArray := prog_1_method_6_code
def yX7_found : MethodName := ⟨RX7, "found", "(I)I"⟩
abbrev cX7_reason : ByteArray := prog_1_method_7_code
def yX7_reason : MethodName := ⟨RX7, "reason", "(I)I"⟩
abbrev cX7_goes : ByteArray := prog_1_method_8_code
def yX7_goes : MethodName := ⟨RX7, "goes", "(I)I"⟩
abbrev cX7_apply : ByteArray := prog_1_method_9_code
def yX7_apply : MethodName := ⟨RX7, "apply", "()Z"⟩
abbrev cX7_solve : ByteArray := prog_1_method_10_code
def yX7_solve : MethodName := ⟨RX7, "solve", "(I)I"⟩
abbrev cX7_undo : ByteArray := prog_1_method_11_code
def yX7_undo : MethodName := ⟨RX7, "undo", "()I"⟩
abbrev cX7_done : ByteArray := prog_1_method_12_code
def yX7_done : MethodName := ⟨RX7, "done", "(I)I"⟩
abbrev cX7_candidates : ByteArray := prog_1_method_13_code
def yX7_candidates : MethodName := ⟨RX7, "candidates", "(I)I"⟩
abbrev cX7_value : ByteArray := prog_1_method_14_code
def yX7_value : MethodName := ⟨RX7, "value", "(I)I"⟩
abbrev cX7_state : ByteArray := prog_1_method_15_code
def yX7_state : MethodName := ⟨RX7, "state", "(I)I"⟩
abbrev cX7_words : ByteArray := prog_1_method_16_code
def yX7_words : MethodName := ⟨RX7, "words", "(II)I"⟩
abbrev cX7_letterOfCell : ByteArray := prog_1_method_17_code
def yX7_letterOfCell : MethodName := ⟨RX7, "letterOfCell", "(II)I"⟩
abbrev cX7_performFound : ByteArray := prog_1_method_18_code
def yX7_performFound : MethodName := ⟨RX7, "performFound", "()V"⟩
abbrev cX7_carryOut : ByteArray := prog_1_method_19_code
def yX7_carryOut : MethodName := ⟨RX7, "carryOut", "()V"⟩
abbrev cX7_forgetSteps : ByteArray := prog_1_method_20_code
def yX7_forgetSteps : MethodName := ⟨RX7, "forgetSteps", "()V"⟩
abbrev cX7_isOpenCandidate : ByteArray := prog_1_method_21_code
def yX7_isOpenCandidate : MethodName := ⟨RX7, "isOpenCandidate", "(II)Z"⟩
abbrev cX7_allTimes : ByteArray := prog_1_method_22_code
def yX7_allTimes : MethodName := ⟨RX7, "allTimes", "()I"⟩
abbrev cX7_checkCell : ByteArray := prog_1_method_23_code
def yX7_checkCell : MethodName := ⟨RX7, "checkCell", "(I)V"⟩
abbrev cX7_checkSymbol : ByteArray := prog_1_method_24_code
def yX7_checkSymbol : MethodName := ⟨RX7, "checkSymbol", "(I)V"⟩
abbrev cX7_checkStep : ByteArray := prog_1_method_25_code
def yX7_checkStep : MethodName := ⟨RX7, "checkStep", "(I)V"⟩
abbrev cX7_leastBit : ByteArray := prog_1_method_26_code
def yX7_leastBit : MethodName := ⟨RX7, "leastBit", "(I)I"⟩
def RX8 : String := "HumanStepsModel"
def TX8 : u_T := fun k => match k with
  | 0 => ("HumanStepsModel", "thrown", "I", false)
  | 1 => ("HumanStepsModel", "n", "I", true)
  | 2 => ("HumanStepsModel", "wide", "I", true)
  | 3 => ("HumanStepsModel", "high", "I", true)
  | 4 => ("HumanStepsModel", "cand", "[I", true)
  | 5 => ("HumanStepsModel", "value", "[I", true)
  | 6 => ("HumanStepsModel", "isOff", "[Z", true)
  | 7 => ("HumanStepsModel", "dones", "[I", true)
  | 8 => ("HumanStepsModel", "step", "I", false)
  | 9 => ("HumanStepsModel", "isReason", "[Z", true)
  | 10 => ("HumanStepsModel", "go", "[I", true)
  | 11 => ("HumanStepsModel", "setCell", "I", false)
  | 12 => ("HumanStepsModel", "setSymbol", "I", false)
  | 13 => ("HumanStepsModel", "listed", "I", false)
  | 14 => ("HumanStepsModel", "list", "[I", true)
  | 15 => ("HumanStepsModel", "pick", "[I", true)
  | 16 => ("HumanStepsModel", "deep", "I", false)
  | 17 => ("HumanStepsModel", "keptCand", "[I", true)
  | 18 => ("HumanStepsModel", "keptValue", "[I", true)
  | 19 => ("HumanStepsModel", "keptStep", "[I", true)
  | 20 => ("HumanStepsModel", "joined", "[Z", true)
  | 21 => ("HumanStepsModel", "light", "[Z", true)
  | _ => ("HumanStepsModel", "dark", "[Z", true)
def tyX8 : Nat → FieldType := fun k => match k with
  | 0 => .int
  | 1 => .int
  | 2 => .int
  | 3 => .int
  | 4 => .array .int
  | 5 => .array .int
  | 6 => .array .boolean
  | 7 => .array .int
  | 8 => .int
  | 9 => .array .boolean
  | 10 => .array .int
  | 11 => .int
  | 12 => .int
  | 13 => .int
  | 14 => .array .int
  | 15 => .array .int
  | 16 => .int
  | 17 => .array .int
  | 18 => .array .int
  | 19 => .array .int
  | 20 => .array .boolean
  | 21 => .array .boolean
  | _ => .array .boolean
abbrev wsX80 : List Cond := u_ws RX8 TX8 23
theorem nmX8 : ∀ a, a < 23 → ∀ b, b < 23 → a ≠ b → (TX8 a).2.1 ≠ (TX8 b).2.1 := by decide +kernel
theorem tyX8_ok : ∀ k, k < 23 → parseFieldDescriptor (TX8 k).2.2.1 = some (tyX8 k) := by decide +kernel
abbrev cX8_init : ByteArray := prog_10_method_1_code
def yX8_init : MethodName := ⟨RX8, "<init>", "(I)V"⟩
abbrev cX8_thrown : ByteArray := prog_10_method_2_code
def yX8_thrown : MethodName := ⟨RX8, "thrown", "()I"⟩
abbrev cX8_fails : ByteArray := prog_10_method_3_code
def yX8_fails : MethodName := ⟨RX8, "fails", "(IZ)Z"⟩
abbrev cX8_cells : ByteArray := prog_10_method_4_code
def yX8_cells : MethodName := ⟨RX8, "cells", "()I"⟩
abbrev cX8_isCell : ByteArray := prog_10_method_5_code
def yX8_isCell : MethodName := ⟨RX8, "isCell", "(I)Z"⟩
abbrev cX8_isSymbol : ByteArray := prog_10_method_6_code
def yX8_isSymbol : MethodName := ⟨RX8, "isSymbol", "(I)Z"⟩
abbrev cX8_boxOf : ByteArray := prog_10_method_7_code
def yX8_boxOf : MethodName := ⟨RX8, "boxOf", "(I)I"⟩
abbrev cX8_isIn : ByteArray := prog_10_method_8_code
def yX8_isIn : MethodName := ⟨RX8, "isIn", "(II)Z"⟩
abbrev cX8_at : ByteArray := prog_10_method_9_code
def yX8_at : MethodName := ⟨RX8, "at", "(II)I"⟩
abbrev cX8_sees : ByteArray := prog_10_method_10_code
def yX8_sees : MethodName := ⟨RX8, "sees", "(II)Z"⟩
abbrev cX8_has : ByteArray := prog_10_method_11_code
def yX8_has : MethodName := ⟨RX8, "has", "(II)Z"⟩
abbrev cX8_countOf : ByteArray := prog_10_method_12_code
def yX8_countOf : MethodName := ⟨RX8, "countOf", "(I)I"⟩
abbrev cX8_places : ByteArray := prog_10_method_13_code
def yX8_places : MethodName := ⟨RX8, "places", "(II)I"⟩
abbrev cX8_isBroken : ByteArray := prog_10_method_14_code
def yX8_isBroken : MethodName := ⟨RX8, "isBroken", "()Z"⟩
abbrev cX8_put : ByteArray := prog_10_method_15_code
def yX8_put : MethodName := ⟨RX8, "put", "(II)V"⟩
abbrev cX8_changed : ByteArray := prog_10_method_16_code
def yX8_changed : MethodName := ⟨RX8, "changed", "()V"⟩
abbrev cX8_set : ByteArray := prog_10_method_17_code
def yX8_set : MethodName := ⟨RX8, "set", "(II)Z"⟩
abbrev cX8_take : ByteArray := prog_10_method_18_code
def yX8_take : MethodName := ⟨RX8, "take", "(II)Z"⟩
abbrev cX8_enable : ByteArray := prog_10_method_19_code
def yX8_enable : MethodName := ⟨RX8, "enable", "(IZ)Z"⟩
abbrev cX8_none : ByteArray := prog_10_method_20_code
def yX8_none : MethodName := ⟨RX8, "none", "()V"⟩
abbrev cX8_leaves : ByteArray := prog_10_method_21_code
def yX8_leaves : MethodName := ⟨RX8, "leaves", "(II)V"⟩
abbrev cX8_takes : ByteArray := prog_10_method_22_code
def yX8_takes : MethodName := ⟨RX8, "takes", "()Z"⟩
abbrev cX8_sets : ByteArray := prog_10_method_23_code
def yX8_sets : MethodName := ⟨RX8, "sets", "(II)Z"⟩
abbrev cX8_first : ByteArray := prog_10_method_24_code
def yX8_first : MethodName := ⟨RX8, "first", "(I)V"⟩
abbrev cX8_next : ByteArray := prog_10_method_25_code
def yX8_next : MethodName := ⟨RX8, "next", "(I)Z"⟩
abbrev cX8_isPicked : ByteArray := prog_10_method_26_code
def yX8_isPicked : MethodName := ⟨RX8, "isPicked", "(II)Z"⟩
abbrev cX8_last : ByteArray := prog_10_method_27_code
def yX8_last : MethodName := ⟨RX8, "last", "()Z"⟩
abbrev cX8_lowest : ByteArray := prog_10_method_28_code
def yX8_lowest : MethodName := ⟨RX8, "lowest", "(I)I"⟩
abbrev cX8_only : ByteArray := prog_10_method_29_code
def yX8_only : MethodName := ⟨RX8, "only", "(I)Z"⟩
abbrev cX8_common : ByteArray := prog_10_method_30_code
def yX8_common : MethodName := ⟨RX8, "common", "(III)I"⟩
abbrev cX8_crosses : ByteArray := prog_10_method_31_code
def yX8_crosses : MethodName := ⟨RX8, "crosses", "(III)Z"⟩
abbrev cX8_pointing : ByteArray := prog_10_method_32_code
def yX8_pointing : MethodName := ⟨RX8, "pointing", "()Z"⟩
abbrev cX8_claiming : ByteArray := prog_10_method_33_code
def yX8_claiming : MethodName := ⟨RX8, "claiming", "()Z"⟩
abbrev cX8_naked : ByteArray := prog_10_method_34_code
def yX8_naked : MethodName := ⟨RX8, "naked", "(I)Z"⟩
abbrev cX8_isOpenIn : ByteArray := prog_10_method_35_code
def yX8_isOpenIn : MethodName := ⟨RX8, "isOpenIn", "(II)Z"⟩
abbrev cX8_hidden : ByteArray := prog_10_method_36_code
def yX8_hidden : MethodName := ⟨RX8, "hidden", "(I)Z"⟩
abbrev cX8_fish : ByteArray := prog_10_method_37_code
def yX8_fish : MethodName := ⟨RX8, "fish", "(II)Z"⟩
abbrev cX8_wing : ByteArray := prog_10_method_38_code
def yX8_wing : MethodName := ⟨RX8, "wing", "(Z)Z"⟩
abbrev cX8_isWing : ByteArray := prog_10_method_39_code
def yX8_isWing : MethodName := ⟨RX8, "isWing", "(IIIZ)Z"⟩
abbrev cX8_isLinked : ByteArray := prog_10_method_40_code
def yX8_isLinked : MethodName := ⟨RX8, "isLinked", "(III)Z"⟩
abbrev cX8_colour : ByteArray := prog_10_method_41_code
def yX8_colour : MethodName := ⟨RX8, "colour", "(II)V"⟩
abbrev cX8_clash : ByteArray := prog_10_method_42_code
def yX8_clash : MethodName := ⟨RX8, "clash", "(Z)Z"⟩
abbrev cX8_seesOne : ByteArray := prog_10_method_43_code
def yX8_seesOne : MethodName := ⟨RX8, "seesOne", "(IZ)Z"⟩
abbrev cX8_colours : ByteArray := prog_10_method_44_code
def yX8_colours : MethodName := ⟨RX8, "colours", "()Z"⟩
abbrev cX8_corners : ByteArray := prog_10_method_45_code
def yX8_corners : MethodName := ⟨RX8, "corners", "(IIII)Z"⟩
abbrev cX8_rectangle : ByteArray := prog_10_method_46_code
def yX8_rectangle : MethodName := ⟨RX8, "rectangle", "()Z"⟩
abbrev cX8_look : ByteArray := prog_10_method_47_code
def yX8_look : MethodName := ⟨RX8, "look", "(I)Z"⟩
abbrev cX8_search : ByteArray := prog_10_method_48_code
def yX8_search : MethodName := ⟨RX8, "search", "()I"⟩
abbrev cX8_find : ByteArray := prog_10_method_49_code
def yX8_find : MethodName := ⟨RX8, "find", "()I"⟩
abbrev cX8_goMany : ByteArray := prog_10_method_50_code
def yX8_goMany : MethodName := ⟨RX8, "goMany", "()I"⟩
abbrev cX8_reasonMany : ByteArray := prog_10_method_51_code
def yX8_reasonMany : MethodName := ⟨RX8, "reasonMany", "()I"⟩
abbrev cX8_found : ByteArray := prog_10_method_52_code
def yX8_found : MethodName := ⟨RX8, "found", "(I)I"⟩
abbrev cX8_reasonAt : ByteArray := prog_10_method_53_code
def yX8_reasonAt : MethodName := ⟨RX8, "reasonAt", "(I)I"⟩
abbrev cX8_reason : ByteArray := prog_10_method_54_code
def yX8_reason : MethodName := ⟨RX8, "reason", "(I)I"⟩
abbrev cX8_goes : ByteArray := prog_10_method_55_code
def yX8_goes : MethodName := ⟨RX8, "goes", "(I)I"⟩
abbrev cX8_act : ByteArray := prog_10_method_56_code
def yX8_act : MethodName := ⟨RX8, "act", "()V"⟩
abbrev cX8_apply : ByteArray := prog_10_method_57_code
def yX8_apply : MethodName := ⟨RX8, "apply", "()Z"⟩
abbrev cX8_solve : ByteArray := prog_10_method_58_code
def yX8_solve : MethodName := ⟨RX8, "solve", "(I)I"⟩
abbrev cX8_undo : ByteArray := prog_10_method_59_code
def yX8_undo : MethodName := ⟨RX8, "undo", "()I"⟩
abbrev cX8_done : ByteArray := prog_10_method_60_code
def yX8_done : MethodName := ⟨RX8, "done", "(I)I"⟩
abbrev cX8_candidates : ByteArray := prog_10_method_61_code
def yX8_candidates : MethodName := ⟨RX8, "candidates", "(I)I"⟩
abbrev cX8_value : ByteArray := prog_10_method_62_code
def yX8_value : MethodName := ⟨RX8, "value", "(I)I"⟩
abbrev cX8_state : ByteArray := prog_10_method_63_code
def yX8_state : MethodName := ⟨RX8, "state", "(I)I"⟩
abbrev cX8_part : ByteArray := prog_10_method_64_code
def yX8_part : MethodName := ⟨RX8, "part", "(I)J"⟩
abbrev cX8_nameByte : ByteArray := prog_10_method_65_code
def yX8_nameByte : MethodName := ⟨RX8, "nameByte", "(III)I"⟩
abbrev cX8_words : ByteArray := prog_10_method_66_code
def yX8_words : MethodName := ⟨RX8, "words", "(II)I"⟩
def RJx00060 : String := "java/lang/ArrayIndexOutOfBoundsException"
def TJx00060 : u_T := fun k => match k with
  | 0 => ("java/lang/Throwable", "cause", "Ljava/lang/Throwable;", false)
  | 1 => ("java/lang/Throwable", "stackTrace", "[Ljava/lang/StackTraceElement;", false)
  | 2 => ("java/lang/Throwable", "suppressedExceptions", "Ljava/util/List;", false)
  | 3 => ("java/lang/Throwable", "detailMessage", "Ljava/lang/String;", false)
  | 4 => ("java/lang/Throwable", "backtrace", "Ljava/lang/Object;", false)
  | _ => ("java/lang/Throwable", "depth", "I", false)
def tyJx00060 : Nat → FieldType := fun k => match k with
  | 0 => .object "java/lang/Throwable"
  | 1 => .array (.object "java/lang/StackTraceElement")
  | 2 => .object "java/util/List"
  | 3 => .object "java/lang/String"
  | 4 => .object "java/lang/Object"
  | _ => .int
abbrev wsJx000600 : List Cond := u_ws RJx00060 TJx00060 6
theorem nmJx00060 : ∀ a, a < 6 → ∀ b, b < 6 → a ≠ b → (TJx00060 a).2.1 ≠ (TJx00060 b).2.1 := by decide +kernel
theorem tyJx00060_ok : ∀ k, k < 6 → parseFieldDescriptor (TJx00060 k).2.2.1 = some (tyJx00060 k) := by decide +kernel
abbrev cJx00060_init_a7421 : ByteArray := prog_11_method_2_code
def yJx00060_init_a7421 : MethodName := ⟨RJx00060, "<init>", "(Ljava/lang/String;)V"⟩
def RJx29ce0 : String := "java/lang/Enum"
def TJx29ce0 : u_T := fun k => match k with
  | _ => ("", "", "", false)
def tyJx29ce0 : Nat → FieldType := fun k => match k with
  | _ => .int
abbrev wsJx29ce00 : List Cond := u_ws RJx29ce0 TJx29ce0 0
theorem nmJx29ce0 : ∀ a, a < 0 → ∀ b, b < 0 → a ≠ b → (TJx29ce0 a).2.1 ≠ (TJx29ce0 b).2.1 := by decide +kernel
theorem tyJx29ce0_ok : ∀ k, k < 0 → parseFieldDescriptor (TJx29ce0 k).2.2.1 = some (tyJx29ce0 k) := by decide +kernel
def RJ6 : String := "java/lang/Integer"
def TJ6 : u_T := fun k => match k with
  | _ => ("", "", "", false)
def tyJ6 : Nat → FieldType := fun k => match k with
  | _ => .int
abbrev wsJ60 : List Cond := u_ws RJ6 TJ6 0
theorem nmJ6 : ∀ a, a < 0 → ∀ b, b < 0 → a ≠ b → (TJ6 a).2.1 ≠ (TJ6 b).2.1 := by decide +kernel
theorem tyJ6_ok : ∀ k, k < 0 → parseFieldDescriptor (TJ6 k).2.2.1 = some (tyJ6 k) := by decide +kernel
abbrev cJ6_bitCount_0f7a4 : ByteArray := prog_16_method_49_code
def yJ6_bitCount_0f7a4 : MethodName := ⟨RJ6, "bitCount", "(I)I"⟩
def RJ9 : String := "java/lang/Math"
def TJ9 : u_T := fun k => match k with
  | _ => ("", "", "", false)
def tyJ9 : Nat → FieldType := fun k => match k with
  | _ => .int
abbrev wsJ90 : List Cond := u_ws RJ9 TJ9 0
theorem nmJ9 : ∀ a, a < 0 → ∀ b, b < 0 → a ≠ b → (TJ9 a).2.1 ≠ (TJ9 b).2.1 := by decide +kernel
theorem tyJ9_ok : ∀ k, k < 0 → parseFieldDescriptor (TJ9 k).2.2.1 = some (tyJ9 k) := by decide +kernel
abbrev cJ9_min_7cf53 : ByteArray := prog_17_method_69_code
def yJ9_min_7cf53 : MethodName := ⟨RJ9, "min", "(II)I"⟩
def RJ0 : String := "java/lang/String"
def TJ0 : u_T := fun k => match k with
  | _ => ("", "", "", false)
def tyJ0 : Nat → FieldType := fun k => match k with
  | _ => .int
abbrev wsJ00 : List Cond := u_ws RJ0 TJ0 0
theorem nmJ0 : ∀ a, a < 0 → ∀ b, b < 0 → a ≠ b → (TJ0 a).2.1 ≠ (TJ0 b).2.1 := by decide +kernel
theorem tyJ0_ok : ∀ k, k < 0 → parseFieldDescriptor (TJ0 k).2.2.1 = some (tyJ0 k) := by decide +kernel
abbrev cJ0_length_8abf5 : ByteArray := prog_19_method_54_code
def yJ0_length_8abf5 : MethodName := ⟨RJ0, "length", "()I"⟩
abbrev cJ0_charAt_5068e : ByteArray := prog_19_method_56_code
def yJ0_charAt_5068e : MethodName := ⟨RJ0, "charAt", "(I)C"⟩
abbrev cJ0_coder_7d493 : ByteArray := prog_19_method_152_code
def yJ0_coder_7d493 : MethodName := ⟨RJ0, "coder", "()B"⟩
abbrev cJ0_isLatin1_aae02 : ByteArray := prog_19_method_154_code
def yJ0_isLatin1_aae02 : MethodName := ⟨RJ0, "isLatin1", "()Z"⟩
abbrev cJ0_checkIndex_df160 : ByteArray := prog_19_method_155_code
def yJ0_checkIndex_df160 : MethodName := ⟨RJ0, "checkIndex", "(II)V"⟩
def RJ1 : String := "java/lang/StringLatin1"
def TJ1 : u_T := fun k => match k with
  | _ => ("", "", "", false)
def tyJ1 : Nat → FieldType := fun k => match k with
  | _ => .int
abbrev wsJ10 : List Cond := u_ws RJ1 TJ1 0
theorem nmJ1 : ∀ a, a < 0 → ∀ b, b < 0 → a ≠ b → (TJ1 a).2.1 ≠ (TJ1 b).2.1 := by decide +kernel
theorem tyJ1_ok : ∀ k, k < 0 → parseFieldDescriptor (TJ1 k).2.2.1 = some (tyJ1 k) := by decide +kernel
abbrev cJ1_charAt_3b067 : ByteArray := prog_20_method_2_code
def yJ1_charAt_3b067 : MethodName := ⟨RJ1, "charAt", "([BI)C"⟩
def RJ2 : String := "java/lang/StringUTF16"
def TJ2 : u_T := fun k => match k with
  | _ => ("", "", "", false)
def tyJ2 : Nat → FieldType := fun k => match k with
  | _ => .int
abbrev wsJ20 : List Cond := u_ws RJ2 TJ2 0
theorem nmJ2 : ∀ a, a < 0 → ∀ b, b < 0 → a ≠ b → (TJ2 a).2.1 ≠ (TJ2 b).2.1 := by decide +kernel
theorem tyJ2_ok : ∀ k, k < 0 → parseFieldDescriptor (TJ2 k).2.2.1 = some (tyJ2 k) := by decide +kernel
abbrev cJ2_getChar_3b067 : ByteArray := prog_21_method_5_code
def yJ2_getChar_3b067 : MethodName := ⟨RJ2, "getChar", "([BI)C"⟩
abbrev cJ2_length_9d52b : ByteArray := prog_21_method_6_code
def yJ2_length_9d52b : MethodName := ⟨RJ2, "length", "([B)I"⟩
abbrev cJ2_charAt_3b067 : ByteArray := prog_21_method_83_code
def yJ2_charAt_3b067 : MethodName := ⟨RJ2, "charAt", "([BI)C"⟩
abbrev cJ2_checkIndex_2214a : ByteArray := prog_21_method_91_code
def yJ2_checkIndex_2214a : MethodName := ⟨RJ2, "checkIndex", "(I[B)V"⟩
def RJ3 : String := "jdk/internal/util/Preconditions"
def TJ3 : u_T := fun k => match k with
  | _ => ("", "", "", false)
def tyJ3 : Nat → FieldType := fun k => match k with
  | _ => .int
abbrev wsJ30 : List Cond := u_ws RJ3 TJ3 0
theorem nmJ3 : ∀ a, a < 0 → ∀ b, b < 0 → a ≠ b → (TJ3 a).2.1 ≠ (TJ3 b).2.1 := by decide +kernel
theorem tyJ3_ok : ∀ k, k < 0 → parseFieldDescriptor (TJ3 k).2.2.1 = some (tyJ3 k) := by decide +kernel
abbrev cJ3_checkIndex_8e157 : ByteArray := prog_23_method_11_code
def yJ3_checkIndex_8e157 : MethodName := ⟨RJ3, "checkIndex", "(IILjava/util/function/BiFunction;)I"⟩
def RL : String := "HumanStepsLaw"
abbrev cL_cell : ByteArray := method_2_code
def yL_cell : MethodName := ⟨RL, "cell", "([II)I"⟩
abbrev cL_set : ByteArray := method_3_code
def yL_set : MethodName := ⟨RL, "set", "(LHumanSteps;II[J)I"⟩
abbrev cL_take : ByteArray := method_4_code
def yL_take : MethodName := ⟨RL, "take", "(LHumanSteps;II[J)I"⟩
abbrev cL_enable : ByteArray := method_5_code
def yL_enable : MethodName := ⟨RL, "enable", "(LHumanSteps;IZ[J)I"⟩
abbrev cL_done : ByteArray := method_6_code
def yL_done : MethodName := ⟨RL, "done", "(LHumanSteps;I[J)I"⟩
abbrev cL_candidates : ByteArray := method_7_code
def yL_candidates : MethodName := ⟨RL, "candidates", "(LHumanSteps;I[J)I"⟩
abbrev cL_value : ByteArray := method_8_code
def yL_value : MethodName := ⟨RL, "value", "(LHumanSteps;I[J)I"⟩
abbrev cL_law : ByteArray := code
def yL_law : MethodName := ⟨RL, "law", "([I)Z"⟩
def wsX0_init : List Cond := .code yX0_init cX0_init 2 none :: ([.methodLink RX0 5 objectInit, .instanceMethod objectInit, .code objectInit ⟨#[0xb1]⟩ 1 none, .arrayClass .int, .fieldLink RX0 11 "HumanSteps$Colours" "marks" "[I", .fieldLink RX0 15 "HumanSteps$Colours" "joined" "[I"] ++ wsX00)
def wsX0_colour : List Cond := .code yX0_colour cX0_colour 3 none :: ([.fieldLink RX0 11 "HumanSteps$Colours" "marks" "[I", .fieldLink RX0 31 "HumanSteps$Colours" "size" "I", .fieldLink RX0 15 "HumanSteps$Colours" "joined" "[I"] ++ wsX00)
def wsX2_house : List Cond := .code yX2_house cX2_house 3 (some .int) :: ([.fieldLink RX2 31 "HumanSteps$Grid" "houseOf" "[I"] ++ wsX20)
def wsX2_places : List Cond := .code yX2_places cX2_places 3 (some .int) :: ([.fieldLink RX2 37 "HumanSteps$Grid" "placeBits" "[I", .fieldLink RX2 9 "HumanSteps$Grid" "n" "I"] ++ wsX20)
abbrev vwCl : List vw_C := [(RJx00060, TJx00060, 6), (RX0, TX0, 3), (RX1, TX1, 7), (RX2, TX2, 9), (RX3, TX3, 6), (RX5, TX5, 6), (RX6, TX6, 4), (RX7, TX7, 6), (RX8, TX8, 23)]
end
section
/-! ===== THE SMALL MACHINE: places for addresses, one heap of cells; its steps as conditions on what comes next ===== -/
abbrev x_C : Type := (FieldType × vp_A) ⊕ (Nat × List Value)
/-- the cells by their places, how many cells and slots may still be made -/
abbrev x_H : Type := List x_C × Nat × Nat
abbrev x_L : Type := List (Option Value)
abbrev x_O : Type := Option Value ⊕ String
/-- the script's place: no cell of the heap, and never written -/
abbrev x_SP : Nat := 1000000
/-- an instruction, its length, where it jumps -/
abbrev x_I : Type := Instr × Nat × Nat
def x_lk {α : Type} : List (Nat × α) → Nat → Option α
  | [], _ => none
  | (k, a) :: r, n => if n = k then some a else x_lk r n
theorem x_lk_mem {α : Type} : ∀ {l : List (Nat × α)} {n : Nat} {a : α}, x_lk l n = some a → (n, a) ∈ l
  | [], _, _, h => by cases h
  | (k, b) :: r, n, a, h => by
    unfold x_lk at h
    by_cases hk : n = k
    · rw [if_pos hk] at h
      cases h
      rw [hk]
      exact List.mem_cons_self
    · rw [if_neg hk] at h
      exact List.mem_cons_of_mem _ (x_lk_mem h)
def x_ic (c : Jvm.ClassFile.Cond) (x y : Int32) : Prop := match c with
  | .eq => x = y
  | .ne => x ≠ y
  | .lt => x < y
  | .ge => y ≤ x
  | .gt => y < x
  | .le => x ≤ y
/-- two ints in, one out -/
def x_op2 (i : Instr) (x y : Int32) : Option Int32 := match i with
  | .iadd => some (x + y)
  | .isub => some (x - y)
  | .imul => some (x * y)
  | .iand => some (x &&& y)
  | .ior => some (x ||| y)
  | .ixor => some (x ^^^ y)
  | .ishl => some (x <<< (y &&& 31))
  | .ishr => some (x >>> (y &&& 31))
  | .iushr => some ((x.toUInt32 >>> (y.toUInt32 &&& Int32.toUInt32 31)).toInt32)
  | _ => none
def x_ldi (L : x_L) (k : Nat) (K : Int32 → Prop) : Prop := match L[k]? with
  | some (some (.int x)) => K x
  | _ => False
def x_lda (L : x_L) (k : Nat) (K : Nat → Prop) : Prop := match L[k]? with
  | some (some (.ref x)) => K x
  | _ => False
/-- the array of ints (or of booleans) at a place -/
def x_ai (X : x_H) (a : Nat) (K : FieldType → Nat → (Nat → Int32) → Prop) : Prop := match X.1[a]? with
  | some (.inl (ty, n, .inl f)) => K ty n f
  | _ => False
def x_al (X : x_H) (a : Nat) (K : Nat → (Nat → Int64) → Prop) : Prop := match X.1[a]? with
  | some (.inl (.long, n, .inr (.inl f))) => K n f
  | _ => False
def x_ob (X : x_H) (a : Nat) (K : Nat → List Value → Prop) : Prop := match X.1[a]? with
  | some (.inr (ci, fs)) => K ci fs
  | _ => False
def x_s1 (st : List Value) (K : Int32 → List Value → Prop) : Prop := match st with
  | .int x :: r => K x r
  | _ => False
def x_s2 (st : List Value) (K : Int32 → Int32 → List Value → Prop) : Prop := match st with
  | .int y :: .int x :: r => K x y r
  | _ => False
def x_sr (st : List Value) (K : Nat → List Value → Prop) : Prop := match st with
  | .ref a :: r => K a r
  | _ => False
def x_sir (st : List Value) (K : Nat → Int32 → List Value → Prop) : Prop := match st with
  | .int i :: .ref a :: r => K a i r
  | _ => False
def x_siir (st : List Value) (K : Nat → Int32 → Int32 → List Value → Prop) : Prop := match st with
  | .int x :: .int i :: .ref a :: r => K a i x r
  | _ => False
def x_slir (st : List Value) (K : Nat → Int32 → Int64 → List Value → Prop) : Prop := match st with
  | .long x :: .int i :: .ref a :: r => K a i x r
  | _ => False
def x_sl1 (st : List Value) (K : Int64 → List Value → Prop) : Prop := match st with
  | .long x :: r => K x r
  | _ => False
def x_sl2 (st : List Value) (K : Int64 → Int64 → List Value → Prop) : Prop := match st with
  | .long y :: .long x :: r => K x y r
  | _ => False
def x_sil (st : List Value) (K : Int64 → Int32 → List Value → Prop) : Prop := match st with
  | .int y :: .long x :: r => K x y r
  | _ => False
def x_svr (st : List Value) (K : Nat → Value → List Value → Prop) : Prop := match st with
  | v :: .ref a :: r => K a v r
  | _ => False
/-- what a field may hold -/
def x_fit (ty : FieldType) (v : Value) : Prop := match ty, v with
  | .int, .int _ => True
  | .array _, .ref _ => True
  | .object _, .ref _ => True
  | _, _ => False
/-- a method: its class' name, its name, its bytes, its locals, what it returns, its instructions; by the pool: its fields (class, number, type; 0 read alone, 1 written too, 2 written in a constructor alone), its virtual calls (which method, how many arguments, the receiver's class; the cells and slots that it may make), its static calls (likewise; 0, or 1 for a nest mate's), its constructors' calls (none: Object's), what it makes (class, first values), what it throws; where it catches (by pc and class: some none: nowhere; some (pc, local): there), its constants, its exception table -/
abbrev x_M : Type := String × MethodName × ByteArray × Nat × Option FieldType × (Nat → Option x_I) × (Nat → Option (Nat × Nat × FieldType × Nat)) × (Nat → Option (Nat × Nat × Nat × Nat × Nat)) × (Nat → Option (Nat × Nat × Nat × Nat × Nat)) × (Nat → Option (Option (Nat × Nat × Nat × Nat))) × (Nat → Option (Nat × List Value)) × (Nat → Option String) × (Nat → String → Option (Option (Nat × Nat))) × (Nat → Option Value) × List (Nat × Nat × Nat × Nat)
abbrev x_M.own (M : x_M) : String := M.1
abbrev x_M.nam (M : x_M) : MethodName := M.2.1
abbrev x_M.cod (M : x_M) : ByteArray := M.2.2.1
abbrev x_M.maxl (M : x_M) : Nat := M.2.2.2.1
abbrev x_M.ret (M : x_M) : Option FieldType := M.2.2.2.2.1
abbrev x_M.tab (M : x_M) : Nat → Option x_I := M.2.2.2.2.2.1
abbrev x_M.fld (M : x_M) : Nat → Option (Nat × Nat × FieldType × Nat) := M.2.2.2.2.2.2.1
abbrev x_M.cal (M : x_M) : Nat → Option (Nat × Nat × Nat × Nat × Nat) := M.2.2.2.2.2.2.2.1
abbrev x_M.cas (M : x_M) : Nat → Option (Nat × Nat × Nat × Nat × Nat) := M.2.2.2.2.2.2.2.2.1
abbrev x_M.spc (M : x_M) : Nat → Option (Option (Nat × Nat × Nat × Nat)) := M.2.2.2.2.2.2.2.2.2.1
abbrev x_M.nwc (M : x_M) : Nat → Option (Nat × List Value) := M.2.2.2.2.2.2.2.2.2.2.1
abbrev x_M.thr (M : x_M) : Nat → Option String := M.2.2.2.2.2.2.2.2.2.2.2.1
abbrev x_M.exc (M : x_M) : Nat → String → Option (Option (Nat × Nat)) := M.2.2.2.2.2.2.2.2.2.2.2.2.1
abbrev x_M.cst (M : x_M) : Nat → Option Value := M.2.2.2.2.2.2.2.2.2.2.2.2.2.1
abbrev x_M.hnd (M : x_M) : List (Nat × Nat × Nat × Nat) := M.2.2.2.2.2.2.2.2.2.2.2.2.2.2
/-- the references of a value lie below n -/
def x_vok (n : Nat) (v : Value) : Prop := match v with
  | .ref k => k < n ∨ k = x_SP
  | _ => True
def x_lok (n : Nat) : x_L → Prop
  | [] => True
  | none :: L => x_lok n L
  | some v :: L => x_vok n v ∧ x_lok n L
def x_sok (n : Nat) : List Value → Prop
  | [] => True
  | v :: L => x_vok n v ∧ x_sok n L
def x_hok (n : Nat) : List x_C → Prop
  | [] => True
  | .inl _ :: X => x_hok n X
  | .inr (_, fs) :: X => x_sok n fs ∧ x_hok n X
/-- a cell may be made: the frame and the heap name what is there -/
def x_aok (L : x_L) (st : List Value) (X : List x_C) : Prop := X.length < x_SP ∧ x_lok X.length L ∧ x_sok X.length st ∧ x_hok X.length X
/-- a call may make so much; where it makes something, the frame that waits names what is there -/
def x_bok (bc bs : Nat) (L : x_L) (st : List Value) (X : x_H) : Prop := (st.map fun v => v.category).sum ≤ 8 ∧ match bc with
  | 0 => bs = 0
  | _ + 1 => bc ≤ X.2.1 ∧ bs ≤ X.2.2 ∧ x_lok X.1.length L ∧ x_sok X.1.length st
/-- a reference -/
def x_isr (v : Option Value) : Prop := match v with
  | some (.ref _) => True
  | _ => False
/-- an object of that class -/
def x_rcv (v : Option Value) (X : x_H) (ci : Nat) : Prop := match v with
  | some (.ref a) => x_ob X a fun cj _ => cj = ci
  | _ => False
/-- what an int method may answer -/
def x_ret (M : x_M) (x : Int32) : Prop := match M.ret with
  | some ty => narrow ty (.int x) = .int x
  | none => False
/-- one instruction: K is what must hold behind it -/
def x_go (sc : Nat × (Nat → Int32)) (M : x_M) (C : Nat → List Value → x_H → (x_O → x_H → Prop) → Prop) (Q : x_O → x_H → Prop) (K : Nat → x_L → List Value → x_H → Prop) (i : Instr) (tg : Nat) (pc : Nat) (L : x_L) (st : List Value) (X : x_H) : Prop := match i with
  | .iconst n => K (pc + 1) L (.int (Int32.ofInt n) :: st) X
  | .bipush n => K (pc + 2) L (.int (Int8.ofInt n).toInt32 :: st) X
  | .sipush n => K (pc + 3) L (.int (Int16.ofInt n).toInt32 :: st) X
  | .lconst n => K (pc + 1) L (.long (Int64.ofNat (n : Nat)) :: st) X
  | .iload k => x_ldi L k fun x => K (pc + 2) L (.int x :: st) X
  | .iload_n k => x_ldi L k fun x => K (pc + 1) L (.int x :: st) X
  | .aload k => x_lda L k fun x => K (pc + 2) L (.ref x :: st) X
  | .aload_n k => x_lda L k fun x => K (pc + 1) L (.ref x :: st) X
  | .istore k => k < L.length ∧ x_s1 st fun x r => K (pc + 2) (L.set k (some (.int x))) r X
  | .istore_n k => (k : Nat) < L.length ∧ x_s1 st fun x r => K (pc + 1) (L.set k (some (.int x))) r X
  | .astore k => k < L.length ∧ x_sr st fun x r => K (pc + 2) (L.set k (some (.ref x))) r X
  | .astore_n k => (k : Nat) < L.length ∧ x_sr st fun x r => K (pc + 1) (L.set k (some (.ref x))) r X
  | .iinc k n => k < L.length ∧ x_ldi L k fun x => K (pc + 3) (L.set k (some (.int (x + Int32.ofInt n)))) st X
  | .iadd => x_s2 st fun x y r => K (pc + 1) L (.int (x + y) :: r) X
  | .isub => x_s2 st fun x y r => K (pc + 1) L (.int (x - y) :: r) X
  | .imul => x_s2 st fun x y r => K (pc + 1) L (.int (x * y) :: r) X
  | .iand => x_s2 st fun x y r => K (pc + 1) L (.int (x &&& y) :: r) X
  | .ior => x_s2 st fun x y r => K (pc + 1) L (.int (x ||| y) :: r) X
  | .ixor => x_s2 st fun x y r => K (pc + 1) L (.int (x ^^^ y) :: r) X
  | .ishl => x_s2 st fun x y r => K (pc + 1) L (.int (x <<< (y &&& 31)) :: r) X
  | .ishr => x_s2 st fun x y r => K (pc + 1) L (.int (x >>> (y &&& 31)) :: r) X
  | .iushr => x_s2 st fun x y r => K (pc + 1) L (.int ((x.toUInt32 >>> (y.toUInt32 &&& Int32.toUInt32 31)).toInt32) :: r) X
  | .idiv => x_s2 st fun x y r => ¬ y = 0 ∧ K (pc + 1) L (.int (x / y) :: r) X
  | .irem => x_s2 st fun x y r => ¬ y = 0 ∧ K (pc + 1) L (.int (x - x / y * y) :: r) X
  | .dup => match st with
    | v :: r => v.category = 1 ∧ K (pc + 1) L (v :: v :: r) X
    | [] => False
  | .dup2 => x_sir st fun a x r => K (pc + 1) L (.int x :: .ref a :: .int x :: .ref a :: r) X
  | .i2l => x_s1 st fun x r => K (pc + 1) L (.long x.toInt64 :: r) X
  | .l2i => x_sl1 st fun x r => K (pc + 1) L (.int x.toInt32 :: r) X
  | .i2c => x_s1 st fun x r => K (pc + 1) L (.int (x.toUInt32 % 65536).toInt32 :: r) X
  | .lshr => x_sil st fun x y r => K (pc + 1) L (.long (x >>> (y.toInt64 &&& 63)) :: r) X
  | .lcmp => x_sl2 st fun x y r => K (pc + 1) L (.int (lg_cmp x y) :: r) X
  | .goto _ => K tg L st X
  | .ifCond c _ => x_s1 st fun x r => (x_ic c x 0 → K tg L r X) ∧ (¬ x_ic c x 0 → K (pc + 3) L r X)
  | .if_icmp c _ => x_s2 st fun x y r => (x_ic c x y → K tg L r X) ∧ (¬ x_ic c x y → K (pc + 3) L r X)
  | .ldc ix => match M.cst ix with
    | some (.int v) => K (pc + 2) L (.int v :: st) X
    | _ => False
  | .ldc_w ix => match M.cst ix with
    | some (.int v) => K (pc + 3) L (.int v :: st) X
    | _ => False
  | .ldc2_w ix => match M.cst ix with
    | some (.long v) => K (pc + 3) L (.long v :: st) X
    | _ => False
  | .arraylength => x_sr st fun a r => if a = x_SP then K (pc + 1) L (.int (Int32.ofNat sc.1) :: r) X else x_ai X a fun ty n _ => (ty = .int ∨ ty = .boolean) ∧ K (pc + 1) L (.int (Int32.ofNat n) :: r) X
  | .iaload => x_sir st fun a j r => if a = x_SP then vp_in j sc.1 ∧ K (pc + 1) L (.int (sc.2 j.toNatClampNeg) :: r) X else x_ai X a fun ty n f => ty = .int ∧ vp_in j n ∧ K (pc + 1) L (.int (f j.toNatClampNeg) :: r) X
  | .baload => x_sir st fun a j r => x_ai X a fun ty n f => ty = .boolean ∧ vp_in j n ∧ K (pc + 1) L (.int (f j.toNatClampNeg) :: r) X
  | .laload => x_sir st fun a j r => x_al X a fun n f => vp_in j n ∧ K (pc + 1) L (.long (f j.toNatClampNeg) :: r) X
  | .iastore => x_siir st fun a j v r => x_ai X a fun ty n f => ty = .int ∧ vp_in j n ∧ K (pc + 1) L r (X.1.set a (.inl (.int, n, .inl (upd f j.toNatClampNeg v))), X.2)
  | .bastore => x_siir st fun a j v r => x_ai X a fun ty n f => ty = .boolean ∧ vp_in j n ∧ K (pc + 1) L r (X.1.set a (.inl (.boolean, n, .inl (upd f j.toNatClampNeg (vp_nar .boolean v)))), X.2)
  | .lastore => x_slir st fun a j v r => x_al X a fun n f => vp_in j n ∧ K (pc + 1) L r (X.1.set a (.inl (.long, n, .inr (.inl (vp_updL f j.toNatClampNeg v)))), X.2)
  | .getfield ix => match M.fld ix with
    | some (ci, k, _, _) => x_sr st fun a r => x_ob X a fun cj fs => cj = ci ∧ match fs[k]? with
      | some v => K (pc + 3) L (v :: r) X
      | none => False
    | none => False
  | .putfield ix => match M.fld ix with
    | some (ci, k, ty, w + 1) => x_svr st fun a v r => x_ob X a fun cj fs => cj = ci ∧ k < fs.length ∧ x_fit ty v ∧ K (pc + 3) L r (X.1.set a (.inr (ci, fs.set k v)), X.2)
    | _ => False
  | .invokevirtual ix => match M.cal ix with
    | some (mj, n, ci, bc, bs) => x_rcv st[n]? X ci ∧ x_bok bc bs L (st.drop (n + 1)) X ∧ C mj (st.take (n + 1)).reverse (X.1, bc, bs) fun o Y => match o with
      | .inl v => K (pc + 3) L (v.toList ++ st.drop (n + 1)) (Y.1, X.2.1 - bc, X.2.2 - bs)
      | .inr E => match M.exc pc E with
        | some none => Q (.inr E) (Y.1, X.2.1 - bc, X.2.2 - bs)
        | some (some (h, k)) => k < L.length ∧ K h (L.set k none) [] (Y.1, X.2.1 - bc, X.2.2 - bs)
        | none => False
    | none => False
  | .invokestatic ix => match M.cas ix with
    | some (mj, n, _, bc, bs) => n ≤ st.length ∧ x_bok bc bs L (st.drop n) X ∧ C mj (st.take n).reverse (X.1, bc, bs) fun o Y => match o with
      | .inl v => K (pc + 3) L (v.toList ++ st.drop n) (Y.1, X.2.1 - bc, X.2.2 - bs)
      | .inr _ => False
    | none => False
  | .invokespecial ix => match M.spc ix with
    | some none => x_sr st fun _ r => (r.map fun v => v.category).sum ≤ 8 ∧ K (pc + 3) L r X
    | some (some (mj, n, bc, bs)) => x_isr st[n]? ∧ x_bok bc bs L (st.drop (n + 1)) X ∧ C mj (st.take (n + 1)).reverse (X.1, bc, bs) fun o Y => match o with
      | .inl v => v = none ∧ K (pc + 3) L (st.drop (n + 1)) (Y.1, X.2.1 - bc, X.2.2 - bs)
      | .inr _ => False
    | none => False
  | .new ix => match M.nwc ix with
    | some (ci, fs) => (1 ≤ X.2.1 ∧ fs.length ≤ X.2.2 ∧ x_aok L st X.1) ∧ K (pc + 3) L (.ref X.1.length :: st) (X.1 ++ [.inr (ci, fs)], X.2.1 - 1, X.2.2 - fs.length)
    | none => match M.thr ix with
      | some E => (1 ≤ X.2.1 ∧ 6 ≤ X.2.2) ∧ Q (.inr E) (X.1, X.2.1 - 1, X.2.2 - 6)
      | none => False
  | .newarray at9 => x_s1 st fun n r => (¬ n < 0 ∧ n.toNatClampNeg ≤ 1000000 ∧ 1 ≤ X.2.1 ∧ n.toNatClampNeg ≤ X.2.2 ∧ x_aok L r X.1) ∧ match at9 with
    | .int => K (pc + 2) L (.ref X.1.length :: r) (X.1 ++ [.inl (.int, n.toNatClampNeg, .inl (fun _ => 0))], X.2.1 - 1, X.2.2 - n.toNatClampNeg)
    | .boolean => K (pc + 2) L (.ref X.1.length :: r) (X.1 ++ [.inl (.boolean, n.toNatClampNeg, .inl (fun _ => 0))], X.2.1 - 1, X.2.2 - n.toNatClampNeg)
    | .long => K (pc + 2) L (.ref X.1.length :: r) (X.1 ++ [.inl (.long, n.toNatClampNeg, .inr (.inl (fun _ => 0)))], X.2.1 - 1, X.2.2 - n.toNatClampNeg)
    | _ => False
  | .tableswitch dd lo hi offs => x_s1 st fun x r => (∀ (j : Nat) (o : Int), offs[j]? = some o → x.toInt = lo + j → K ((pc : Int) + o).toNat L r X) ∧ ((x.toInt < lo ∨ hi < x.toInt) → K ((pc : Int) + dd).toNat L r X)
  | .ireturn => x_s1 st fun x r => (r = [] ∧ x_ret M x) ∧ Q (.inl (some (.int x))) X
  | .lreturn => x_sl1 st fun x r => (r = [] ∧ M.ret = some .long) ∧ Q (.inl (some (.long x))) X
  | .return_ => (st = [] ∧ M.ret = none) ∧ Q (.inl none) X
  | _ => False
def x_st (sc : Nat × (Nat → Int32)) (M : x_M) (C : Nat → List Value → x_H → (x_O → x_H → Prop) → Prop) (Q : x_O → x_H → Prop) (K : Nat → x_L → List Value → x_H → Prop) (pc : Nat) (L : x_L) (st : List Value) (X : x_H) : Prop := match M.tab pc with
  | some (i, _, tg) => x_go sc M C Q K i tg pc L st X
  | none => False
/-- the least condition that is closed under the steps -/
def x_W (sc : Nat × (Nat → Int32)) (M : x_M) (C : Nat → List Value → x_H → (x_O → x_H → Prop) → Prop) (Q : x_O → x_H → Prop) (pc : Nat) (L : x_L) (st : List Value) (X : x_H) : Prop :=
  ∀ P : Nat → x_L → List Value → x_H → Prop, (∀ pc L st X, x_st sc M C Q P pc L st X → P pc L st X) → P pc L st X
end
section
/-! ===== the steps grow with what must hold behind them ===== -/
theorem x_ldi.mono {L : x_L} {k : Nat} {K K' : Int32 → Prop} (h : x_ldi L k K) (hk : ∀ x, K x → K' x) : x_ldi L k K' := by
  unfold x_ldi at *; split at h
  · exact hk _ h
  · exact h.elim
theorem x_lda.mono {L : x_L} {k : Nat} {K K' : Nat → Prop} (h : x_lda L k K) (hk : ∀ x, K x → K' x) : x_lda L k K' := by
  unfold x_lda at *; split at h
  · exact hk _ h
  · exact h.elim
theorem x_ai.mono {X : x_H} {a : Nat} {K K' : FieldType → Nat → (Nat → Int32) → Prop} (h : x_ai X a K) (hk : ∀ x y z, K x y z → K' x y z) : x_ai X a K' := by
  unfold x_ai at *; split at h
  · exact hk _ _ _ h
  · exact h.elim
theorem x_al.mono {X : x_H} {a : Nat} {K K' : Nat → (Nat → Int64) → Prop} (h : x_al X a K) (hk : ∀ y z, K y z → K' y z) : x_al X a K' := by
  unfold x_al at *; split at h
  · exact hk _ _ h
  · exact h.elim
theorem x_ob.mono {X : x_H} {a : Nat} {K K' : Nat → List Value → Prop} (h : x_ob X a K) (hk : ∀ y z, K y z → K' y z) : x_ob X a K' := by
  unfold x_ob at *; split at h
  · exact hk _ _ h
  · exact h.elim
theorem x_s1.mono {st : List Value} {K K' : Int32 → List Value → Prop} (h : x_s1 st K) (hk : ∀ x r, K x r → K' x r) : x_s1 st K' := by
  unfold x_s1 at *; split at h
  · exact hk _ _ h
  · exact h.elim
theorem x_s2.mono {st : List Value} {K K' : Int32 → Int32 → List Value → Prop} (h : x_s2 st K) (hk : ∀ x y r, K x y r → K' x y r) : x_s2 st K' := by
  unfold x_s2 at *; split at h
  · exact hk _ _ _ h
  · exact h.elim
theorem x_sr.mono {st : List Value} {K K' : Nat → List Value → Prop} (h : x_sr st K) (hk : ∀ x r, K x r → K' x r) : x_sr st K' := by
  unfold x_sr at *; split at h
  · exact hk _ _ h
  · exact h.elim
theorem x_sir.mono {st : List Value} {K K' : Nat → Int32 → List Value → Prop} (h : x_sir st K) (hk : ∀ x y r, K x y r → K' x y r) : x_sir st K' := by
  unfold x_sir at *; split at h
  · exact hk _ _ _ h
  · exact h.elim
theorem x_siir.mono {st : List Value} {K K' : Nat → Int32 → Int32 → List Value → Prop} (h : x_siir st K) (hk : ∀ x y z r, K x y z r → K' x y z r) : x_siir st K' := by
  unfold x_siir at *; split at h
  · exact hk _ _ _ _ h
  · exact h.elim
theorem x_slir.mono {st : List Value} {K K' : Nat → Int32 → Int64 → List Value → Prop} (h : x_slir st K) (hk : ∀ x y z r, K x y z r → K' x y z r) : x_slir st K' := by
  unfold x_slir at *; split at h
  · exact hk _ _ _ _ h
  · exact h.elim
theorem x_sl1.mono {st : List Value} {K K' : Int64 → List Value → Prop} (h : x_sl1 st K) (hk : ∀ x r, K x r → K' x r) : x_sl1 st K' := by
  unfold x_sl1 at *; split at h
  · exact hk _ _ h
  · exact h.elim
theorem x_sl2.mono {st : List Value} {K K' : Int64 → Int64 → List Value → Prop} (h : x_sl2 st K) (hk : ∀ x y r, K x y r → K' x y r) : x_sl2 st K' := by
  unfold x_sl2 at *; split at h
  · exact hk _ _ _ h
  · exact h.elim
theorem x_sil.mono {st : List Value} {K K' : Int64 → Int32 → List Value → Prop} (h : x_sil st K) (hk : ∀ x y r, K x y r → K' x y r) : x_sil st K' := by
  unfold x_sil at *; split at h
  · exact hk _ _ _ h
  · exact h.elim
theorem x_svr.mono {st : List Value} {K K' : Nat → Value → List Value → Prop} (h : x_svr st K) (hk : ∀ x y r, K x y r → K' x y r) : x_svr st K' := by
  unfold x_svr at *; split at h
  · exact hk _ _ _ h
  · exact h.elim
def x_Cm (C : Nat → List Value → x_H → (x_O → x_H → Prop) → Prop) : Prop := ∀ mj av X Q Q', (∀ o Y, Q o Y → Q' o Y) → C mj av X Q → C mj av X Q'
theorem x_go.mono {sc : Nat × (Nat → Int32)} {M : x_M} {C : Nat → List Value → x_H → (x_O → x_H → Prop) → Prop} (hC : x_Cm C) {Q Q' : x_O → x_H → Prop} {K K' : Nat → x_L → List Value → x_H → Prop} {i : Instr} {tg pc : Nat} {L : x_L} {st : List Value} {X : x_H}
    (hQ : ∀ o Y, Q o Y → Q' o Y) (hK : ∀ pc L st X, K pc L st X → K' pc L st X) (h : x_go sc M C Q K i tg pc L st X) : x_go sc M C Q' K' i tg pc L st X := by
  cases i
  case dup =>
    simp only [x_go] at h ⊢
    split at h
    · exact ⟨h.1, hK _ _ _ _ h.2⟩
    · exact h.elim
  case arraylength =>
    refine x_sr.mono h fun a r h => ?_
    split at h
    · rename_i ha; rw [if_pos ha]; exact hK _ _ _ _ h
    · rename_i ha; rw [if_neg ha]; exact x_ai.mono h fun _ _ _ h => ⟨h.1, hK _ _ _ _ h.2⟩
  case iaload =>
    refine x_sir.mono h fun a j r h => ?_
    split at h
    · rename_i ha; rw [if_pos ha]; exact ⟨h.1, hK _ _ _ _ h.2⟩
    · rename_i ha; rw [if_neg ha]; exact x_ai.mono h fun _ _ _ h => ⟨h.1, h.2.1, hK _ _ _ _ h.2.2⟩
  case getfield ix =>
    simp only [x_go] at h ⊢
    split at h
    · refine x_sr.mono h fun _ _ h => x_ob.mono h fun _ _ h => ⟨h.1, ?_⟩
      have h2 := h.2
      split at h2
      · exact hK _ _ _ _ h2
      · exact h2.elim
    · exact h.elim
  case putfield ix =>
    simp only [x_go] at h ⊢
    split at h
    · exact x_svr.mono h fun _ _ _ h => x_ob.mono h fun _ _ h => ⟨h.1, h.2.1, h.2.2.1, hK _ _ _ _ h.2.2.2⟩
    · exact h.elim
  case invokevirtual ix =>
    simp only [x_go] at h ⊢
    split at h
    · refine ⟨h.1, h.2.1, hC _ _ _ _ _ (fun o Y h => ?_) h.2.2⟩
      cases o with
      | inl v => exact hK _ _ _ _ h
      | inr E =>
        dsimp only at h ⊢
        split at h
        · exact hQ _ _ h
        · exact ⟨h.1, hK _ _ _ _ h.2⟩
        · exact h
    · exact h.elim
  case invokestatic ix =>
    simp only [x_go] at h ⊢
    split at h
    · refine ⟨h.1, h.2.1, hC _ _ _ _ _ (fun o Y h => ?_) h.2.2⟩
      cases o with
      | inl v => exact hK _ _ _ _ h
      | inr E => exact h
    · exact h.elim
  case invokespecial ix =>
    simp only [x_go] at h ⊢
    split at h
    · exact x_sr.mono h fun _ _ h => ⟨h.1, hK _ _ _ _ h.2⟩
    · refine ⟨h.1, h.2.1, hC _ _ _ _ _ (fun o Y h => ?_) h.2.2⟩
      cases o with
      | inl v => exact ⟨h.1, hK _ _ _ _ h.2⟩
      | inr E => exact h
    · exact h.elim
  case new ix =>
    simp only [x_go] at h ⊢
    split at h
    · exact ⟨h.1, hK _ _ _ _ h.2⟩
    · split at h
      · exact ⟨h.1, hQ _ _ h.2⟩
      · exact h
  case newarray a9 =>
    refine x_s1.mono h fun n r h => ⟨h.1, ?_⟩
    have h2 := h.2
    cases a9 <;> first | exact hK _ _ _ _ h2 | exact h2
  case tableswitch d lo hi offs => exact x_s1.mono h fun x r h => ⟨fun j o h1 h2 => hK _ _ _ _ (h.1 j o h1 h2), fun h1 => hK _ _ _ _ (h.2 h1)⟩
  all_goals first
    | exact h.elim
    | exact hK _ _ _ _ h
    | exact x_ldi.mono h fun _ h => hK _ _ _ _ h
    | exact x_lda.mono h fun _ h => hK _ _ _ _ h
    | exact ⟨h.1, x_s1.mono h.2 fun _ _ h => hK _ _ _ _ h⟩
    | exact ⟨h.1, x_sr.mono h.2 fun _ _ h => hK _ _ _ _ h⟩
    | exact ⟨h.1, x_ldi.mono h.2 fun _ h => hK _ _ _ _ h⟩
    | exact x_s2.mono h fun _ _ _ h => hK _ _ _ _ h
    | exact x_s2.mono h fun _ _ _ h => ⟨h.1, hK _ _ _ _ h.2⟩
    | exact x_s1.mono h fun _ _ h => hK _ _ _ _ h
    | exact x_sir.mono h fun _ _ _ h => hK _ _ _ _ h
    | exact x_sl1.mono h fun _ _ h => hK _ _ _ _ h
    | exact x_sil.mono h fun _ _ _ h => hK _ _ _ _ h
    | exact x_sl2.mono h fun _ _ _ h => hK _ _ _ _ h
    | exact x_s1.mono h fun _ _ h => ⟨fun c => hK _ _ _ _ (h.1 c), fun c => hK _ _ _ _ (h.2 c)⟩
    | exact x_s2.mono h fun _ _ _ h => ⟨fun c => hK _ _ _ _ (h.1 c), fun c => hK _ _ _ _ (h.2 c)⟩
    | exact x_sir.mono h fun _ _ _ h => x_ai.mono h fun _ _ _ h => ⟨h.1, h.2.1, hK _ _ _ _ h.2.2⟩
    | exact x_sir.mono h fun _ _ _ h => x_al.mono h fun _ _ h => ⟨h.1, hK _ _ _ _ h.2⟩
    | exact x_siir.mono h fun _ _ _ _ h => x_ai.mono h fun _ _ _ h => ⟨h.1, h.2.1, hK _ _ _ _ h.2.2⟩
    | exact x_slir.mono h fun _ _ _ _ h => x_al.mono h fun _ _ h => ⟨h.1, hK _ _ _ _ h.2⟩
    | exact x_s1.mono h fun _ _ h => ⟨h.1, hQ _ _ h.2⟩
    | exact x_sl1.mono h fun _ _ h => ⟨h.1, hQ _ _ h.2⟩
    | exact ⟨h.1, hQ _ _ h.2⟩
    | (simp only [x_go] at h ⊢
       split at h
       · exact hK _ _ _ _ h
       · exact h.elim)
theorem x_st.mono {sc : Nat × (Nat → Int32)} {M : x_M} {C : Nat → List Value → x_H → (x_O → x_H → Prop) → Prop} (hC : x_Cm C) {Q Q' : x_O → x_H → Prop} {K K' : Nat → x_L → List Value → x_H → Prop} {pc : Nat} {L : x_L} {st : List Value} {X : x_H}
    (hQ : ∀ o Y, Q o Y → Q' o Y) (hK : ∀ pc L st X, K pc L st X → K' pc L st X) (h : x_st sc M C Q K pc L st X) : x_st sc M C Q' K' pc L st X := by
  unfold x_st at *
  split at h
  · exact x_go.mono hC hQ hK h
  · exact h.elim
/-- a step -/
theorem x_W.s {sc : Nat × (Nat → Int32)} {M : x_M} {C : Nat → List Value → x_H → (x_O → x_H → Prop) → Prop} (hC : x_Cm C) {Q : x_O → x_H → Prop} {pc : Nat} {L : x_L} {st : List Value} {X : x_H} (h : x_st sc M C Q (x_W sc M C Q) pc L st X) : x_W sc M C Q pc L st X :=
  fun P hP => hP pc L st X (x_st.mono hC (fun _ _ h => h) (fun _ _ _ _ h => h P hP) h)
theorem x_W.mono {sc : Nat × (Nat → Int32)} {M : x_M} {C : Nat → List Value → x_H → (x_O → x_H → Prop) → Prop} (hC : x_Cm C) {Q Q' : x_O → x_H → Prop} (hQ : ∀ o Y, Q o Y → Q' o Y) {pc : Nat} {L : x_L} {st : List Value} {X : x_H} (h : x_W sc M C Q pc L st X) : x_W sc M C Q' pc L st X :=
  fun P hP => h P fun pc L st X h => hP pc L st X (x_st.mono hC hQ (fun _ _ _ _ h => h) h)
end
section
/-! ===== the small machine's heap in the great one ===== -/
def x_T : List Cond := lw_tbl.filter goodWord
theorem x_T_good {w : Cond} (h : w ∈ x_T) : goodWord w = true := (List.mem_filter.mp h).2
theorem x_T_in {big : List Cond} (hb : ∀ w ∈ x_T, w ∈ big) {ws : List Cond} (h : ∀ w ∈ ws, w ∈ x_T) : GoodIn big ws := fun w hw => ⟨hb w (h w hw), good_of_word (x_T_good (h w hw))⟩
def x_rv (ad : Nat → Nat) (v : Value) : Value := match v with
  | .ref k => .ref (ad k)
  | v => v
theorem x_rv_cat (ad : Nat → Nat) (v : Value) : (x_rv ad v).category = v.category := by cases v <;> rfl
/-- the places below n, and the script's, keep their addresses -/
def x_agr (n : Nat) (ad ad' : Nat → Nat) : Prop := (∀ k, k < n → ad' k = ad k) ∧ ad' x_SP = ad x_SP
theorem x_rv_ok {ad ad' : Nat → Nat} {n : Nat} (h : x_agr n ad ad') {v : Value} (hv : x_vok n v) : x_rv ad' v = x_rv ad v := by
  cases v with
  | ref k =>
    rcases hv with hv | rfl
    · exact congrArg Value.ref (h.1 k hv)
    · exact congrArg Value.ref h.2
  | _ => rfl
def x_cz (ad : Nat → Nat) (cO : FieldType → ClassId) (c : x_C) : va_E := match c with
  | .inl (ty, a) => .inl (cO ty, a)
  | .inr (ci, fs) => .inr (ci, fs.map (x_rv ad))
def x_wk (ad : Nat → Nat) (cO : FieldType → ClassId) : Nat → List x_C → va_W
  | _, [] => []
  | k, c :: X => (ad k, x_cz ad cO c) :: x_wk ad cO (k + 1) X
theorem x_wk_at (ad : Nat → Nat) (cO : FieldType → ClassId) : ∀ (k : Nat) (X : List x_C) (i : Nat), (x_wk ad cO k X)[i]? = X[i]?.map (fun c => (ad (k + i), x_cz ad cO c))
  | _, [], _ => by simp [x_wk]
  | k, c :: X, 0 => by simp [x_wk]
  | k, c :: X, i + 1 => by
    have h := x_wk_at ad cO (k + 1) X i
    simp only [x_wk, List.getElem?_cons_succ]
    rw [h, show k + 1 + i = k + (i + 1) by omega]
theorem x_wk_set (ad : Nat → Nat) (cO : FieldType → ClassId) (c : x_C) : ∀ (k : Nat) (X : List x_C) (i : Nat), x_wk ad cO k (X.set i c) = (x_wk ad cO k X).set i (ad (k + i), x_cz ad cO c)
  | _, [], _ => by simp [x_wk]
  | k, b :: X, 0 => by simp [x_wk]
  | k, b :: X, i + 1 => by
    simp only [x_wk, List.set_cons_succ]
    rw [x_wk_set ad cO c (k + 1) X i, show k + 1 + i = k + (i + 1) by omega]
theorem x_at0 {ad : Nat → Nat} {cO : FieldType → ClassId} {X : List x_C} {a : Nat} {c : x_C} (h : X[a]? = some c) : (x_wk ad cO 0 X)[a]? = some (ad a, x_cz ad cO c) := by
  rw [x_wk_at, h, Nat.zero_add]; rfl
theorem x_set0 {ad : Nat → Nat} {cO : FieldType → ClassId} {X : List x_C} {a : Nat} {c : x_C} : x_wk ad cO 0 (X.set a c) = (x_wk ad cO 0 X).set a (ad a, x_cz ad cO c) := by
  rw [x_wk_set, Nat.zero_add]
/-- the locals as the kit lists them -/
def x_ll (ad : Nat → Nat) : Nat → x_L → List (Nat × Value)
  | _, [] => []
  | k, none :: L => x_ll ad (k + 1) L
  | k, some v :: L => (k, x_rv ad v) :: x_ll ad (k + 1) L
theorem x_ll_mem (ad : Nat → Nat) : ∀ (k : Nat) (L : x_L) (q : Nat × Value), q ∈ x_ll ad k L ↔ ∃ (j : Nat) (v : Value), L[j]? = some (some v) ∧ q = (k + j, x_rv ad v)
  | k, [], q => by simp [x_ll]
  | k, none :: L, q => by
    rw [x_ll, x_ll_mem ad (k + 1) L q]
    constructor
    · rintro ⟨j, v, h, rfl⟩
      exact ⟨j + 1, v, by simpa using h, by rw [show k + 1 + j = k + (j + 1) by omega]⟩
    · rintro ⟨j, v, h, rfl⟩
      cases j with
      | zero => simp at h
      | succ j => exact ⟨j, v, by simpa using h, by rw [show k + 1 + j = k + (j + 1) by omega]⟩
  | k, some w :: L, q => by
    rw [x_ll, List.mem_cons, x_ll_mem ad (k + 1) L q]
    constructor
    · rintro (rfl | ⟨j, v, h, rfl⟩)
      · exact ⟨0, w, by simp, by simp⟩
      · exact ⟨j + 1, v, by simpa using h, by rw [show k + 1 + j = k + (j + 1) by omega]⟩
    · rintro ⟨j, v, h, rfl⟩
      cases j with
      | zero =>
        have h1 : w = v := by simpa using h
        subst h1
        exact Or.inl rfl
      | succ j => exact Or.inr ⟨j, v, by simpa using h, by rw [show k + 1 + j = k + (j + 1) by omega]⟩
/-- the locals: known ones are of one word -/
def x_lv (ad : Nat → Nat) (L : x_L) (ls : Array Slot) (nL : Nat) : Prop := L.length = nL ∧ lv_has ls nL (x_ll ad 0 L) ∧ ∀ (j : Nat) (v : Value), L[j]? = some (some v) → v.category = 1
theorem x_lv.at {ad : Nat → Nat} {L : x_L} {ls : Array Slot} {nL k : Nat} {v : Value} (h : x_lv ad L ls nL) (hk : L[k]? = some (some v)) : ls[k]? = some (.val (x_rv ad v)) :=
  h.2.1.2.2 (k, x_rv ad v) ((x_ll_mem ad 0 L _).mpr ⟨k, v, hk, by rw [Nat.zero_add]⟩)
theorem x_lv.set {ad : Nat → Nat} {L : x_L} {ls ls' : Array Slot} {nL k : Nat} {v : Value} (h : x_lv ad L ls nL) (hv : v.category = 1)
    (h' : lv_has ls' nL ((k, x_rv ad v) :: (x_ll ad 0 L).filter (fun q => !(q.1 == k) && !(q.1 + 1 == k && q.2.category == 2)))) : x_lv ad (L.set k (some v)) ls' nL := by
  obtain ⟨h1, h2, h3⟩ := h
  have hc : ∀ (j : Nat) (w : Value), (L.set k (some v))[j]? = some (some w) → (j = k ∧ w = v) ∨ (j ≠ k ∧ L[j]? = some (some w)) := by
    intro j w hj
    by_cases hjk : j = k
    · subst hjk
      by_cases hl : j < L.length
      · rw [List.getElem?_set_self hl] at hj
        exact Or.inl ⟨rfl, (Option.some.inj (Option.some.inj hj)).symm⟩
      · rw [List.getElem?_eq_none (by rw [List.length_set]; omega)] at hj
        cases hj
    · rw [List.getElem?_set_ne (Ne.symm hjk)] at hj
      exact Or.inr ⟨hjk, hj⟩
  refine ⟨by rw [List.length_set]; exact h1, ⟨h'.1, h'.2.1, fun q hq => ?_⟩, fun j w hj => ?_⟩
  · obtain ⟨j, w, hj, rfl⟩ := (x_ll_mem ad 0 _ q).mp hq
    rw [Nat.zero_add]
    rcases hc j w hj with ⟨rfl, rfl⟩ | ⟨hne, hj⟩
    · exact h'.2.2 _ List.mem_cons_self
    · refine h'.2.2 (j, x_rv ad w) (List.mem_cons_of_mem _ (List.mem_filter.mpr ⟨(x_ll_mem ad 0 L _).mpr ⟨j, w, hj, by rw [Nat.zero_add]⟩, ?_⟩))
      have hw := h3 j w hj
      have h4 : (x_rv ad w).category = 1 := by rw [x_rv_cat]; exact hw
      simp [hne, h4]
  · rcases hc j w hj with ⟨rfl, rfl⟩ | ⟨hne, hj⟩
    · exact hv
    · exact h3 j w hj
theorem x_lok_at {n : Nat} : ∀ {L : x_L}, x_lok n L → ∀ (j : Nat) (v : Value), L[j]? = some (some v) → x_vok n v
  | [], _, j, v, h => by simp at h
  | none :: L, hL, j, v, h => by
    cases j with
    | zero => simp at h
    | succ j => exact x_lok_at (L := L) hL j v (by simpa using h)
  | some w :: L, hL, j, v, h => by
    cases j with
    | zero =>
      have h1 : w = v := by simpa using h
      subst h1
      exact hL.1
    | succ j => exact x_lok_at (L := L) hL.2 j v (by simpa using h)
theorem x_lv.move {ad ad' : Nat → Nat} {n : Nat} (hn : x_agr n ad ad') {L : x_L} {ls : Array Slot} {nL : Nat} (hL : x_lok n L) (h : x_lv ad L ls nL) : x_lv ad' L ls nL := by
  refine ⟨h.1, ⟨h.2.1.1, h.2.1.2.1, fun q hq => ?_⟩, h.2.2⟩
  obtain ⟨j, v, hj, rfl⟩ := (x_ll_mem ad' 0 L q).mp hq
  rw [Nat.zero_add, x_rv_ok hn (x_lok_at hL j v hj)]
  exact h.at hj
theorem x_st_move {ad ad' : Nat → Nat} {n : Nat} (hn : x_agr n ad ad') : ∀ {st : List Value}, x_sok n st → st.map (x_rv ad') = st.map (x_rv ad)
  | [], _ => rfl
  | v :: st, h => by rw [List.map_cons, List.map_cons, x_rv_ok hn h.1, x_st_move hn h.2]
theorem x_lv.unset {ad : Nat → Nat} {L : x_L} {ls ls' : Array Slot} {nL k : Nat} {w : Value} (h : x_lv ad L ls nL)
    (h' : lv_has ls' nL ((k, w) :: (x_ll ad 0 L).filter (fun q => !(q.1 == k) && !(q.1 + 1 == k && q.2.category == 2)))) : x_lv ad (L.set k none) ls' nL := by
  obtain ⟨h1, h2, h3⟩ := h
  have hc : ∀ (j : Nat) (w : Value), (L.set k none)[j]? = some (some w) → j ≠ k ∧ L[j]? = some (some w) := by
    intro j w hj
    by_cases hjk : j = k
    · subst hjk
      by_cases hl : j < L.length
      · rw [List.getElem?_set_self hl] at hj
        cases hj
      · rw [List.getElem?_eq_none (by rw [List.length_set]; omega)] at hj
        cases hj
    · rw [List.getElem?_set_ne (Ne.symm hjk)] at hj
      exact ⟨hjk, hj⟩
  refine ⟨by rw [List.length_set]; exact h1, ⟨h'.1, h'.2.1, fun q hq => ?_⟩, fun j w hj => h3 j w (hc j w hj).2⟩
  obtain ⟨j, w, hj, rfl⟩ := (x_ll_mem ad 0 _ q).mp hq
  rw [Nat.zero_add]
  obtain ⟨hne, hj⟩ := hc j w hj
  refine h'.2.2 (j, x_rv ad w) (List.mem_cons_of_mem _ (List.mem_filter.mpr ⟨(x_ll_mem ad 0 L _).mpr ⟨j, w, hj, by rw [Nat.zero_add]⟩, ?_⟩))
  have hw := h3 j w hj
  have h4 : (x_rv ad w).category = 1 := by rw [x_rv_cat]; exact hw
  simp [hne, h4]
theorem x_wk_app (ad : Nat → Nat) (cO : FieldType → ClassId) (c : x_C) : ∀ (k : Nat) (X : List x_C), x_wk ad cO k (X ++ [c]) = x_wk ad cO k X ++ [(ad (k + X.length), x_cz ad cO c)]
  | k, [] => rfl
  | k, b :: X => by
    simp only [List.cons_append, x_wk]
    rw [x_wk_app ad cO c (k + 1) X, List.length_cons, show k + 1 + X.length = k + (X.length + 1) by omega]
theorem x_wk_move {ad ad' : Nat → Nat} {n : Nat} (hn : x_agr n ad ad') (cO : FieldType → ClassId) : ∀ (X : List x_C) (k : Nat), k + X.length ≤ n → x_hok n X → x_wk ad' cO k X = x_wk ad cO k X
  | [], _, _, _ => rfl
  | .inl (ty, a) :: X, k, h, ho => by
    have h0 := hn.1 k (by simp only [List.length_cons] at h; omega)
    simp only [x_wk, x_cz]
    rw [h0, x_wk_move hn cO X (k + 1) (by simp only [List.length_cons] at h; omega) ho]
  | .inr (ci, fs) :: X, k, h, ho => by
    have h0 := hn.1 k (by simp only [List.length_cons] at h; omega)
    simp only [x_wk, x_cz]
    rw [h0, x_st_move hn ho.1, x_wk_move hn cO X (k + 1) (by simp only [List.length_cons] at h; omega) ho.2]
/-- one more place -/
def x_adn (ad : Nat → Nat) (n q : Nat) : Nat → Nat := fun k => if k = n then q else ad k
theorem x_adn_agr (ad : Nat → Nat) {n q : Nat} (h : n < x_SP) : x_agr n ad (x_adn ad n q) := ⟨fun k hk => if_neg (by omega), if_neg (by omega)⟩
theorem x_adn_new (ad : Nat → Nat) (n q : Nat) : x_adn ad n q n = q := if_pos rfl
theorem x_wk_new {ad : Nat → Nat} {cO : FieldType → ClassId} {X : List x_C} {L : x_L} {st : List Value} (h : x_aok L st X) (q : Nat) (c : x_C) (hc : x_cz (x_adn ad X.length q) cO c = x_cz ad cO c) : x_wk (x_adn ad X.length q) cO 0 (X ++ [c]) = x_wk ad cO 0 X ++ [(q, x_cz ad cO c)] := by
  rw [x_wk_app, x_wk_move (x_adn_agr ad h.1) cO X 0 (by omega) h.2.2.2, Nat.zero_add, x_adn_new, hc]
def x_ty (cO : FieldType → ClassId) : List (ClassId × FieldType) := [(cO .int, .int), (cO .boolean, .boolean), (cO .long, .long)]
/-- what the start gives beside the world, and keeps -/
def x_EnOK (En : (Nat → Prop) → State → Heap → Prop) : Prop :=
  (∀ A u U H, u.vm = U.vm → En A u H → En A U H) ∧ (∀ A s U H, s.WarmedH U.vm → En A s H → En A U H) ∧
  (∀ A U H H', H.size ≤ H'.size → (∀ q : Nat, q < H.size → ¬ A q → H'[q]? = H[q]?) → En A U H → En A U H') ∧ (∀ A B U H, (∀ q, B q → A q) → En A U H → En B U H)
/-- a method's start, in the small machine's words -/
def x_Pre (D : va_G) (cO : FieldType → ClassId) (En : (Nat → Prop) → State → Heap → Prop) (ad : Nat → Nat) (X : List x_C) (av : List Value) (sz : Nat) : Array Value → State → Prop :=
  va_Pc (av.map (x_rv ad)) (fun U => U.heap.size = sz ∧ va_P D vwCl (x_wk ad cO 0 X) U.heap ∧ va_K D vwCl (x_ty cO) U ∧ va_D (fun _ => True) (x_wk ad cO 0 X) ∧ En (va_A (x_wk ad cO 0 X) sz) U U.heap)
/-- how the places go on: those that were there keep their addresses, and without new cells all is as it was -/
def x_ext (X : List x_C) (bc : Nat) (ad : Nat → Nat) (Y : List x_C) (ad' : Nat → Nat) : Prop := X.length ≤ Y.length ∧ x_agr X.length ad ad' ∧ (bc = 0 → ad' = ad)
/-- the world behind it -/
def x_B (D : va_G) (cO : FieldType → ClassId) (A : Nat → Prop) (ad' : Nat → Nat) (Y : List x_C) (t : State) : Prop := va_P D vwCl (x_wk ad' cO 0 Y) t.heap ∧ va_K D vwCl (x_ty cO) t ∧ va_D A (x_wk ad' cO 0 Y)
/-- a method's end -/
def x_Post (D : va_G) (cO : FieldType → ClassId) (ad : Nat → Nat) (X : List x_C) (sz bc : Nat) (Q : x_O → x_H → Prop) : Array Value → State → Outcome → State → Prop := fun _ st oc t =>
  (∃ (v : Option Value) (Y : x_H) (ad' : Nat → Nat), oc = .returned (v.map (x_rv ad')) ∧ Q (.inl v) Y ∧ x_ext X bc ad Y.1 ad' ∧ x_B D cO (va_A (x_wk ad cO 0 X) sz) ad' Y.1 t) ∧ va_F (va_A (x_wk ad cO 0 X) sz) st t
/-- a method's end where it throws -/
def x_PostX (D : va_G) (cO : FieldType → ClassId) (ad : Nat → Nat) (X : List x_C) (sz bc : Nat) (Q : x_O → x_H → Prop) : String → State → State → Prop := fun E st t =>
  (∃ (Y : x_H) (ad' : Nat → Nat), Q (.inr E) Y ∧ x_ext X bc ad Y.1 ad' ∧ x_B D cO (va_A (x_wk ad cO 0 X) sz) ad' Y.1 t) ∧ va_F (va_A (x_wk ad cO 0 X) sz) st t
/-- a contract where nothing is thrown -/
theorem x_toMet {l : Launch} {y : MethodName} {ws : List Cond} {rm : Room} {Pc : Array Value → State → Prop} {Qc : Array Value → State → Outcome → State → Prop} {XC : String → State → State → Prop} {mc ms : Nat} {free : Addr → Prop} (h : vx_Met l y ws rm Pc Qc XC mc ms free) (hx : ∀ E st t, ¬ XC E st t) : Met l y ws rm Pc Qc mc ms free := by
  refine MetFree.mono h (fun _ _ h => h) (fun _ _ _ _ _ h => h) (fun a s o s' _ hq => ?_)
  rcases hq with hq | ⟨q, -, E, ce, L, h1, -⟩
  · exact hq
  · exact absurd h1 (hx _ _ _)
end
section
theorem x_ldi.inv {L : x_L} {k : Nat} {K : Int32 → Prop} (h : x_ldi L k K) : ∃ x, L[k]? = some (some (.int x)) ∧ K x := by
  unfold x_ldi at h; split at h
  · exact ⟨_, by assumption, h⟩
  · exact h.elim
theorem x_lda.inv {L : x_L} {k : Nat} {K : Nat → Prop} (h : x_lda L k K) : ∃ x, L[k]? = some (some (.ref x)) ∧ K x := by
  unfold x_lda at h; split at h
  · exact ⟨_, by assumption, h⟩
  · exact h.elim
theorem x_ai.inv {X : x_H} {a : Nat} {K : FieldType → Nat → (Nat → Int32) → Prop} (h : x_ai X a K) : ∃ ty n f, X.1[a]? = some (.inl (ty, n, .inl f)) ∧ K ty n f := by
  unfold x_ai at h; split at h
  · exact ⟨_, _, _, by assumption, h⟩
  · exact h.elim
theorem x_al.inv {X : x_H} {a : Nat} {K : Nat → (Nat → Int64) → Prop} (h : x_al X a K) : ∃ n f, X.1[a]? = some (.inl (.long, n, .inr (.inl f))) ∧ K n f := by
  unfold x_al at h; split at h
  · exact ⟨_, _, by assumption, h⟩
  · exact h.elim
theorem x_ob.inv {X : x_H} {a : Nat} {K : Nat → List Value → Prop} (h : x_ob X a K) : ∃ ci fs, X.1[a]? = some (.inr (ci, fs)) ∧ K ci fs := by
  unfold x_ob at h; split at h
  · exact ⟨_, _, by assumption, h⟩
  · exact h.elim
theorem x_s1.inv {st : List Value} {K : Int32 → List Value → Prop} (h : x_s1 st K) : ∃ x r, st = .int x :: r ∧ K x r := by
  unfold x_s1 at h; split at h
  · exact ⟨_, _, rfl, h⟩
  · exact h.elim
theorem x_s2.inv {st : List Value} {K : Int32 → Int32 → List Value → Prop} (h : x_s2 st K) : ∃ x y r, st = .int y :: .int x :: r ∧ K x y r := by
  unfold x_s2 at h; split at h
  · exact ⟨_, _, _, rfl, h⟩
  · exact h.elim
theorem x_sr.inv {st : List Value} {K : Nat → List Value → Prop} (h : x_sr st K) : ∃ x r, st = .ref x :: r ∧ K x r := by
  unfold x_sr at h; split at h
  · exact ⟨_, _, rfl, h⟩
  · exact h.elim
theorem x_sir.inv {st : List Value} {K : Nat → Int32 → List Value → Prop} (h : x_sir st K) : ∃ a i r, st = .int i :: .ref a :: r ∧ K a i r := by
  unfold x_sir at h; split at h
  · exact ⟨_, _, _, rfl, h⟩
  · exact h.elim
theorem x_siir.inv {st : List Value} {K : Nat → Int32 → Int32 → List Value → Prop} (h : x_siir st K) : ∃ a i x r, st = .int x :: .int i :: .ref a :: r ∧ K a i x r := by
  unfold x_siir at h; split at h
  · exact ⟨_, _, _, _, rfl, h⟩
  · exact h.elim
theorem x_slir.inv {st : List Value} {K : Nat → Int32 → Int64 → List Value → Prop} (h : x_slir st K) : ∃ a i x r, st = .long x :: .int i :: .ref a :: r ∧ K a i x r := by
  unfold x_slir at h; split at h
  · exact ⟨_, _, _, _, rfl, h⟩
  · exact h.elim
theorem x_sl1.inv {st : List Value} {K : Int64 → List Value → Prop} (h : x_sl1 st K) : ∃ x r, st = .long x :: r ∧ K x r := by
  unfold x_sl1 at h; split at h
  · exact ⟨_, _, rfl, h⟩
  · exact h.elim
theorem x_sl2.inv {st : List Value} {K : Int64 → Int64 → List Value → Prop} (h : x_sl2 st K) : ∃ x y r, st = .long y :: .long x :: r ∧ K x y r := by
  unfold x_sl2 at h; split at h
  · exact ⟨_, _, _, rfl, h⟩
  · exact h.elim
theorem x_sil.inv {st : List Value} {K : Int64 → Int32 → List Value → Prop} (h : x_sil st K) : ∃ x y r, st = .int y :: .long x :: r ∧ K x y r := by
  unfold x_sil at h; split at h
  · exact ⟨_, _, _, rfl, h⟩
  · exact h.elim
theorem x_svr.inv {st : List Value} {K : Nat → Value → List Value → Prop} (h : x_svr st K) : ∃ a v r, st = v :: .ref a :: r ∧ K a v r := by
  unfold x_svr at h; split at h
  · exact ⟨_, _, _, rfl, h⟩
  · exact h.elim
/-- how long an instruction is -/
def x_len (i : Instr) (n : Nat) : Nat := match i with
  | .bipush _ | .iload _ | .aload _ | .istore _ | .astore _ | .ldc _ | .newarray _ => 2
  | .sipush _ | .iinc _ _ | .goto _ | .ifCond _ _ | .if_icmp _ _ | .ldc_w _ | .ldc2_w _ | .getfield _ | .putfield _ | .invokevirtual _ | .invokestatic _ | .invokespecial _ | .new _ | .getstatic _ => 3
  | .tableswitch _ _ _ _ => n
  | _ => 1
def x_jmp (pc : Nat) (i : Instr) (tg : Nat) : Prop := match i with
  | .goto o | .ifCond _ o | .if_icmp _ o => (pc : Int) + o = (tg : Int)
  | .tableswitch dd lo hi offs => 0 ≤ (pc : Int) + dd ∧ (∀ o ∈ offs.toList, 0 ≤ (pc : Int) + o) ∧ lo + offs.size = hi + 1
  | _ => True
/-- words for all methods -/
def x_Gw : Prop := Cond.instanceMethod objectInit ∈ x_T ∧ Cond.code objectInit ⟨#[0xb1]⟩ 1 none ∈ x_T ∧ Cond.arrayClass .int ∈ x_T ∧ Cond.arrayClass .boolean ∈ x_T ∧ Cond.arrayClass .long ∈ x_T
/-- a method's tables are those of its bytes and of the words -/
def x_Tb (M : x_M) : Prop :=
  (∀ pc i len tg, M.tab pc = some (i, len, tg) → decode M.cod pc = .ok (i, x_len i len) ∧ x_jmp pc i tg) ∧
  (∀ ix ci k ty w, M.fld ix = some (ci, k, ty, w) → ∃ (C : String) (T : u_T) (N : Nat) (ty0 : Nat → FieldType), vwCl[ci]? = some (C, T, N) ∧ k < N ∧ (∀ w ∈ u_ws C T N, w ∈ x_T) ∧ Cond.fieldLink M.own ix (T k).1 (T k).2.1 (T k).2.2.1 ∈ x_T ∧
    (∀ k, k < N → parseFieldDescriptor (T k).2.2.1 = some (ty0 k)) ∧ (∀ a, a < N → ∀ b, b < N → a ≠ b → (T a).2.1 ≠ (T b).2.1) ∧ (w = 0 ∨ parseFieldDescriptor (T k).2.2.1 = some ty ∧ ((w = 1 ∧ (T k).2.2.2 = false) ∨ ((T k).2.2.2 = true ∧ M.nam.name = "<init>" ∧ (T k).1 = M.own)))) ∧
  (∀ ix v, M.cst ix = some (.int v) → Cond.constant M.own ix v ∈ x_T) ∧ (∀ ix v, M.cst ix = some (.long v) → Cond.constantLong M.own ix v ∈ x_T) ∧
  (∀ ix ci fs, M.nwc ix = some (ci, fs) → ∃ (C : String) (T : u_T) (N : Nat) (ty0 : Nat → FieldType), vwCl[ci]? = some (C, T, N) ∧ (∀ w ∈ u_ws C T N, w ∈ x_T) ∧ (∀ k, k < N → parseFieldDescriptor (T k).2.2.1 = some (ty0 k)) ∧ Cond.classLink M.own ix C ∈ x_T ∧ Cond.instantiable C N ∈ x_T ∧ Cond.initialized C ∈ x_T ∧ (∀ j, j < N → defaultValue (ty0 j) = vp_V fs j) ∧ fs.length = N ∧ ∀ ad, fs.map (x_rv ad) = fs) ∧
  (∀ ix, M.spc ix = some none → Cond.methodLink M.own ix objectInit ∈ x_T)
theorem x_fit_ok {ty : FieldType} {v : Value} (ad : Nat → Nat) (h : x_fit ty v) : narrow ty (x_rv ad v) = x_rv ad v ∧ fits ty (x_rv ad v) = true := by
  unfold x_fit at h
  split at h
  · exact ⟨rfl, rfl⟩
  · exact ⟨rfl, rfl⟩
  · exact ⟨rfl, rfl⟩
  · exact h.elim
section XS
variable {p : Program} {l : Launch} {e : Env} {R : Room} {s : State} {m : MethodId} {args : Array Value} {below : List Frame} {meth : Method} {c : Code} {QQ : State → Prop}
variable {M : x_M} {C : Nat → List Value → x_H → (x_O → x_H → Prop) → Prop} {Q : x_O → x_H → Prop} {D : va_G} {cO : FieldType → ClassId} {En : (Nat → Prop) → State → Heap → Prop} {A : Nat → Prop} {X0 : List x_C} {ad0 : Nat → Nat} {mcT msT : Nat}
/-- the frame stands so in the great machine -/
def x_R (D : va_G) (cO : FieldType → ClassId) (A : Nat → Prop) (s : State) (nL : Nat) (X0 : List x_C) (ad0 : Nat → Nat) (mcT msT : Nat) (L : x_L) (X : x_H) (ad : Nat → Nat) (H : Heap) (locs : List Loc) (cells slots : Nat) (ls : Array Slot) : Prop :=
  cells + X.2.1 ≤ mcT ∧ slots + X.2.2 ≤ msT ∧ va_P D vwCl (x_wk ad cO 0 X.1) H ∧ va_D A (x_wk ad cO 0 X.1) ∧ va_S A s.heap H locs ∧ x_lv ad L ls nL ∧ x_ext X0 mcT ad0 X.1 ad
def x_P (p : Program) (l : Launch) (e : Env) (R : Room) (s : State) (m : MethodId) (args : Array Value) (below : List Frame) (meth : Method) (c : Code) (QQ : State → Prop) (D : va_G) (cO : FieldType → ClassId) (A : Nat → Prop) (nL : Nat) (X0 : List x_C) (ad0 : Nat → Nat) (mcT msT : Nat) : Nat → x_L → List Value → x_H → Prop := fun pc L st X =>
  ∀ (ad : Nat → Nat) (H : Heap) (locs : List Loc) (cells slots : Nat) (ls : Array Slot), x_R D cO A s nL X0 ad0 mcT msT L X ad H locs cells slots ls → W p l e R s m args below meth c H locs cells slots QQ (F0 m pc ls (st.map (x_rv ad)))
/-- likewise, with something thrown over it -/
def x_PX (p : Program) (l : Launch) (e : Env) (R : Room) (s : State) (m : MethodId) (args : Array Value) (below : List Frame) (meth : Method) (c : Code) (QQ : State → Prop) (D : va_G) (cO : FieldType → ClassId) (A : Nat → Prop) (nL : Nat) (X0 : List x_C) (ad0 : Nat → Nat) (mcT msT : Nat) (E : String) : Nat → x_L → List Value → x_H → Prop := fun pc L st X =>
  ∀ (ad : Nat → Nat) (H : Heap) (locs : List Loc) (cells slots : Nat) (ls : Array Slot) (q : Addr) (ce : Cell), x_R D cO A s nL X0 ad0 mcT msT L X ad H locs cells slots ls → H[q]? = some ce → ce.vm = .none → s.vm.findClass E = some ce.cls → vx_W p l e R s m args below meth c H locs cells slots QQ (F0 m pc ls (st.map (x_rv ad))) q
def x_Ctx (p : Program) (R : Room) (s : State) (m : MethodId) (args : Array Value) (meth : Method) (c : Code) (M : x_M) (D : va_G) (cO : FieldType → ClassId) (En : (Nat → Prop) → State → Heap → Prop) (A : Nat → Prop) (mcT msT : Nat) : Prop :=
  p.tables.exec = Jvm.exec ∧ c.code = M.cod ∧ c.maxLocals = M.maxl ∧ s.vm.findClass M.own = some m.cls ∧ (∀ w ∈ x_T, w.before args s = true) ∧ va_K D vwCl (x_ty cO) s ∧ (∀ q : Nat, s.heap.size ≤ q → A q) ∧ En A s s.heap ∧ mcT ≤ R.cells ∧ msT ≤ R.slots ∧ meth.name = M.nam.name ∧ 1 ≤ R.frames ∧ 40 ≤ R.locals
/-- what a call needs: its words, and the callee's contract -/
def x_CV (l : Launch) (R : Room) (s : State) (args : Array Value) (M : x_M) (C : Nat → List Value → x_H → (x_O → x_H → Prop) → Prop) (D : va_G) (cO : FieldType → ClassId) (En : (Nat → Prop) → State → Heap → Prop) (b : Nat) : Prop :=
  ∀ ix mj n ci bc bs, M.cal ix = some (mj, n, ci, bc, bs) → ∃ (y : MethodName) (bytes : ByteArray) (maxL : Nat) (ret : Option FieldType) (ws : List Cond) (rm : Room) (cq : vw_C), vwCl[ci]? = some cq ∧ CallW R s args M.own cq.1 ix y bytes maxL ret ws rm bc bs n ∧
    ∀ ad X av Qm sz, ad x_SP = b → C mj av (X, bc, bs) Qm → vx_Met l y ws rm (x_Pre D cO En ad X av sz) (x_Post D cO ad X sz bc Qm) (x_PostX D cO ad X sz bc Qm) bc bs (va_A (x_wk ad cO 0 X) sz)
def x_CS (l : Launch) (R : Room) (s : State) (args : Array Value) (M : x_M) (C : Nat → List Value → x_H → (x_O → x_H → Prop) → Prop) (D : va_G) (cO : FieldType → ClassId) (En : (Nat → Prop) → State → Heap → Prop) (b : Nat) : Prop :=
  ∀ ix mj n k bc bs, M.cas ix = some (mj, n, k, bc, bs) → ∃ (y : MethodName) (bytes : ByteArray) (maxL : Nat) (ret : Option FieldType) (ws : List Cond) (rm : Room), ((CallB R s args M.own ix y bytes maxL ret ws rm bc bs n ∧ (Cond.static y).before args s = true) ∨ (∃ host, va_CN R s args M.own ix y host bytes maxL ret ws rm bc bs n ∧ (Cond.static y).before args s = true ∧ True) ∨ ∃ hh, vx_CSW R s args M.own ix y bytes maxL ret hh ws rm bc bs n) ∧
    ∀ ad X av Qm sz, ad x_SP = b → (∀ E Y, ¬ Qm (.inr E) Y) → C mj av (X, bc, bs) Qm → Met l y ws rm (x_Pre D cO En ad X av sz) (x_Post D cO ad X sz bc Qm) bc bs (va_A (x_wk ad cO 0 X) sz)
def x_CI (l : Launch) (R : Room) (s : State) (args : Array Value) (M : x_M) (C : Nat → List Value → x_H → (x_O → x_H → Prop) → Prop) (D : va_G) (cO : FieldType → ClassId) (En : (Nat → Prop) → State → Heap → Prop) (b : Nat) : Prop :=
  ∀ ix mj n bc bs, M.spc ix = some (some (mj, n, bc, bs)) → ∃ (y : MethodName) (bytes : ByteArray) (maxL : Nat) (ws : List Cond) (rm : Room), (CallB R s args M.own ix y bytes maxL none ws rm bc bs n ∧ y.name = "<init>" ∧ (Cond.instanceMethod y).before args s = true) ∧
    ∀ ad X av Qm sz, ad x_SP = b → (∀ E Y, ¬ Qm (.inr E) Y) → C mj av (X, bc, bs) Qm → Met l y ws rm (x_Pre D cO En ad X av sz) (x_Post D cO ad X sz bc Qm) bc bs (va_A (x_wk ad cO 0 X) sz)
/-- behind a call: the frame over the callee's world -/
theorem x_back {n : Nat} {L : x_L} {rest : List Value} {X Y : x_H} {ad ad' : Nat → Nat} {H : Heap} {locs Lc : List Loc} {cells slots bc bs : Nat} {ls : Array Slot} {st₀ t T' : State}
    (hR : x_R D cO A s n X0 ad0 mcT msT L X ad H locs cells slots ls) (hA : ∀ q : Nat, s.heap.size ≤ q → A q) (hb : x_bok bc bs L rest X)
    (h0 : st₀.heap = H) (hL : ∀ q ∈ Lc, va_A (x_wk ad cO 0 X.1) H.size q.base) (e1 : T'.heap = t.heap) (hx : x_ext X.1 bc ad Y.1 ad') (hB : x_B D cO (va_A (x_wk ad cO 0 X.1) H.size) ad' Y.1 t) (hF : va_F (va_A (x_wk ad cO 0 X.1) H.size) st₀ t) :
    x_R D cO A s n X0 ad0 mcT msT L (Y.1, X.2.1 - bc, X.2.2 - bs) ad' T'.heap (locs ++ Lc) (cells + bc) (slots + bs) ls ∧ rest.map (x_rv ad') = rest.map (x_rv ad) := by
  obtain ⟨hc, hs, hP, hD, hS, hl, hE⟩ := hR
  have hin : ∀ q, va_A (x_wk ad cO 0 X.1) H.size q → A q := by
    intro q hq
    rcases hq with ⟨k, e9, hk⟩ | hq
    · exact hD.2 k _ hk
    · exact hA q (Nat.le_trans hS.1 hq)
  obtain ⟨hP1, hK1, hD1⟩ := hB
  obtain ⟨hz, hk⟩ := hF
  rw [h0] at hz hk
  have hS' : va_S A s.heap T'.heap (locs ++ Lc) := ⟨Nat.le_trans hS.1 (by rw [e1]; exact hz), fun q h1 h2 => by rw [e1, hk q (Nat.lt_of_lt_of_le h1 hS.1) (fun z => h2 (hin q z))]; exact hS.2.1 q h1 h2, fun q hq => by
    rcases List.mem_append.mp hq with h | h
    · exact hS.2.2 q h
    · exact hin _ (hL q h)⟩
  have hbc : bc ≤ X.2.1 ∧ bs ≤ X.2.2 ∧ x_lv ad' L ls n ∧ rest.map (x_rv ad') = rest.map (x_rv ad) ∧ x_ext X0 mcT ad0 Y.1 ad' := by
    cases bc with
    | zero =>
      have h1 : bs = 0 := hb.2
      have h2 := hx.2.2 rfl
      subst h2
      exact ⟨Nat.zero_le _, by omega, hl, rfl, ⟨Nat.le_trans hE.1 hx.1, hE.2.1, hE.2.2⟩⟩
    | succ b =>
      obtain ⟨-, h1, h2, h3, h4⟩ := hb
      refine ⟨h1, h2, hl.move hx.2.1 h3, x_st_move hx.2.1 h4, ⟨Nat.le_trans hE.1 hx.1, ⟨fun k hk9 => ?_, hx.2.1.2.trans hE.2.1.2⟩, fun h9 => ?_⟩⟩
      · rw [hx.2.1.1 k (Nat.lt_of_lt_of_le hk9 hE.1)]
        exact hE.2.1.1 k hk9
      · omega
  obtain ⟨b1, b2, b4, b5, b6⟩ := hbc
  exact ⟨⟨by show cells + bc + (X.2.1 - bc) ≤ mcT; omega, by show slots + bs + (X.2.2 - bs) ≤ msT; omega, by rw [e1]; exact hP1, hD1.weaken (fun k q _ h => hin q.1 h), hS', b4, b6⟩, b5⟩
/-- a call has run: the frame goes on over the callee's world -/
theorem x_called {n : Nat} {pc : Nat} {L : x_L} {rest st0 : List Value} {X : x_H} {ad : Nat → Nat} {H : Heap} {locs : List Loc} {cells slots bc bs : Nat} {ls : Array Slot} {Qm : x_O → x_H → Prop} {av : Array Value}
    (hR : x_R D cO A s n X0 ad0 mcT msT L X ad H locs cells slots ls) (hA : ∀ q : Nat, s.heap.size ≤ q → A q) (hb : x_bok bc bs L rest X)
    (hr : va_Run p l e R s m args below meth c H locs cells slots bc bs (F0 m pc ls st0) (rest.map (x_rv ad)) (x_Post D cO ad X.1 H.size bc Qm av) (va_A (x_wk ad cO 0 X.1) H.size))
    (kk : ∀ (v : Option Value) (Y : x_H), Qm (.inl v) Y → x_P p l e R s m args below meth c QQ D cO A n X0 ad0 mcT msT (pc + 3) L (v.toList ++ rest) (Y.1, X.2.1 - bc, X.2.2 - bs)) :
    W p l e R s m args below meth c H locs cells slots QQ (F0 m pc ls st0) := by
  intro T hT St
  obtain ⟨v, st₀, t, T', Lc, h0, St', hL, e1, e2, ⟨⟨v', Y, ad', hv, hQ, hx, hB⟩, hF⟩, stp⟩ := hr T hT St
  cases hv
  obtain ⟨hR', b5⟩ := x_back hR hA hb h0 hL e1 hx hB hF
  obtain ⟨t2, a1, b9⟩ := kk v' Y hQ ad' T'.heap (locs ++ Lc) (cells + bc) (slots + bs) ls hR' T' rfl St'
  refine ⟨t2, stp t2 ?_, b9⟩
  have hst : (v'.toList ++ rest).map (x_rv ad') = (v'.map (x_rv ad')).toList ++ rest.map (x_rv ad) := by
    rw [List.map_append, b5]
    cases v' <;> rfl
  rw [hst] at a1
  exact a1
/-- a call has run, or has thrown -/
theorem x_calledX {n : Nat} {pc : Nat} {L : x_L} {rest st0 : List Value} {X : x_H} {ad : Nat → Nat} {H : Heap} {locs : List Loc} {cells slots bc bs : Nat} {ls : Array Slot} {Qm : x_O → x_H → Prop} {av : Array Value}
    (hR : x_R D cO A s n X0 ad0 mcT msT L X ad H locs cells slots ls) (hA : ∀ q : Nat, s.heap.size ≤ q → A q) (hb : x_bok bc bs L rest X)
    (hr : vx_Run p l e R s m args below meth c H locs cells slots bc bs (F0 m pc ls st0) (rest.map (x_rv ad)) (x_Post D cO ad X.1 H.size bc Qm av) (x_PostX D cO ad X.1 H.size bc Qm) (va_A (x_wk ad cO 0 X.1) H.size))
    (kk : ∀ (v : Option Value) (Y : x_H), Qm (.inl v) Y → x_P p l e R s m args below meth c QQ D cO A n X0 ad0 mcT msT (pc + 3) L (v.toList ++ rest) (Y.1, X.2.1 - bc, X.2.2 - bs))
    (kx : ∀ (E : String) (Y : x_H), Qm (.inr E) Y → x_PX p l e R s m args below meth c QQ D cO A n X0 ad0 mcT msT E pc L rest (Y.1, X.2.1 - bc, X.2.2 - bs)) :
    W p l e R s m args below meth c H locs cells slots QQ (F0 m pc ls st0) := by
  intro T hT St
  rcases hr T hT St with ⟨v, st₀, t, T', Lc, h0, St', hL, e1, e2, ⟨⟨v', Y, ad', hv, hQ, hx, hB⟩, hF⟩, stp⟩ | ⟨q, st₀, t, T', Lc, E, ce, h0, St', hL, e1, e2, ⟨⟨Y, ad', hQ, hx, hB⟩, hF⟩, hce, hcv, hcl, stp⟩
  · cases hv
    obtain ⟨hR', b5⟩ := x_back hR hA hb h0 hL e1 hx hB hF
    obtain ⟨t2, a1, b9⟩ := kk v' Y hQ ad' T'.heap (locs ++ Lc) (cells + bc) (slots + bs) ls hR' T' rfl St'
    refine ⟨t2, stp t2 ?_, b9⟩
    have hst : (v'.toList ++ rest).map (x_rv ad') = (v'.map (x_rv ad')).toList ++ rest.map (x_rv ad) := by
      rw [List.map_append, b5]
      cases v' <;> rfl
    rw [hst] at a1
    exact a1
  · obtain ⟨hR', b5⟩ := x_back hR hA hb h0 hL e1 hx hB hF
    obtain ⟨t2, a1, b9⟩ := kx E Y hQ ad' T'.heap (locs ++ Lc) (cells + bc) (slots + bs) ls q ce hR' (by rw [e1]; exact hce) hcv hcl T' rfl St'
    rw [b5] at a1
    exact ⟨t2, stp.trans a1, b9⟩
end XS
end
section
/-! ===== a step of the small machine is a step of the great one ===== -/
section XT
variable {p : Program} {l : Launch} {e : Env} {R : Room} {s : State} {m : MethodId} {args : Array Value} {below : List Frame} {meth : Method} {c : Code} {QQ : State → Prop}
variable {M : x_M} {C : Nat → List Value → x_H → (x_O → x_H → Prop) → Prop} {Q : x_O → x_H → Prop} {D : va_G} {cO : FieldType → ClassId} {En : (Nat → Prop) → State → Heap → Prop} {A : Nat → Prop} {X0 : List x_C} {ad0 : Nat → Nat} {mcT msT : Nat}
/-- a method's ends -/
def x_Ends (p : Program) (l : Launch) (e : Env) (R : Room) (s : State) (m : MethodId) (args : Array Value) (below : List Frame) (meth : Method) (c : Code) (QQ : State → Prop) (M : x_M) (Q : x_O → x_H → Prop) (D : va_G) (cO : FieldType → ClassId) (A : Nat → Prop) (X0 : List x_C) (ad0 : Nat → Nat) (mcT msT : Nat) : Prop :=
  ∀ (v : Option Value) (pc : Nat) (L : x_L) (X : x_H), Q (.inl v) X →
    ((∃ x, v = some (.int x) ∧ decode M.cod pc = .ok (.ireturn, 1) ∧ x_ret M x) ∨ (∃ x, v = some (.long x) ∧ decode M.cod pc = .ok (.lreturn, 1) ∧ M.ret = some .long) ∨ (v = none ∧ decode M.cod pc = .ok (.return_, 1) ∧ M.ret = none)) →
    x_P p l e R s m args below meth c QQ D cO A M.maxl X0 ad0 mcT msT pc L v.toList X
/-- nothing catches it here -/
def x_EndX (p : Program) (l : Launch) (e : Env) (R : Room) (s : State) (m : MethodId) (args : Array Value) (below : List Frame) (meth : Method) (c : Code) (QQ : State → Prop) (M : x_M) (Q : x_O → x_H → Prop) (D : va_G) (cO : FieldType → ClassId) (A : Nat → Prop) (X0 : List x_C) (ad0 : Nat → Nat) (mcT msT : Nat) : Prop :=
  ∀ (E : String) (pc : Nat) (L : x_L) (st : List Value) (X : x_H), M.exc pc E = some none → Q (.inr E) X → x_PX p l e R s m args below meth c QQ D cO A M.maxl X0 ad0 mcT msT E pc L st X
/-- caught: the handler's first instruction stores it -/
def x_Hnd (p : Program) (l : Launch) (e : Env) (R : Room) (s : State) (m : MethodId) (args : Array Value) (below : List Frame) (meth : Method) (c : Code) (QQ : State → Prop) (M : x_M) : Prop :=
  ∀ (E : String) (pc h k : Nat), M.exc pc E = some (some (h, k)) → ∃ hp, ((decode M.cod hp = .ok (.astore k, 2) ∧ h = hp + 2) ∨ ∃ kk : Fin 4, decode M.cod hp = .ok (.astore_n kk, 1) ∧ (kk : Nat) = k ∧ h = hp + 1) ∧
    ∀ (H : Heap) (locs : List Loc) (cells slots : Nat) (ls : Array Slot) (rest : List Value) (q : Addr) (ce : Cell), H[q]? = some ce → ce.vm = .none → s.vm.findClass E = some ce.cls → W p l e R s m args below meth c H locs cells slots QQ (F0 m hp ls [.ref q]) → vx_W p l e R s m args below meth c H locs cells slots QQ (F0 m pc ls rest) q
/-- it throws -/
def x_Thr (p : Program) (l : Launch) (e : Env) (R : Room) (s : State) (m : MethodId) (args : Array Value) (below : List Frame) (meth : Method) (c : Code) (QQ : State → Prop) (M : x_M) (Q : x_O → x_H → Prop) (D : va_G) (cO : FieldType → ClassId) (A : Nat → Prop) (X0 : List x_C) (ad0 : Nat → Nat) (mcT msT : Nat) : Prop :=
  ∀ (pc ix len tg : Nat) (E : String) (L : x_L) (st : List Value) (X : x_H), M.tab pc = some (.new ix, len, tg) → M.thr ix = some E → 1 ≤ X.2.1 → 6 ≤ X.2.2 → Q (.inr E) (X.1, X.2.1 - 1, X.2.2 - 6) → x_P p l e R s m args below meth c QQ D cO A M.maxl X0 ad0 mcT msT pc L st X
theorem x_setR {nL : Nat} {L : x_L} {X : x_H} {ad : Nat → Nat} {H H1 : Heap} {locs locs1 : List Loc} {cells slots : Nat} {ls : Array Slot} {a : Nat} {b : x_C}
    (hR : x_R D cO A s nL X0 ad0 mcT msT L X ad H locs cells slots ls) (hP : va_P D vwCl ((x_wk ad cO 0 X.1).set a (ad a, x_cz ad cO b)) H1) (hD : va_D A ((x_wk ad cO 0 X.1).set a (ad a, x_cz ad cO b))) (hS : va_S A s.heap H1 locs1) :
    x_R D cO A s nL X0 ad0 mcT msT L (X.1.set a b, X.2) ad H1 locs1 cells slots ls := by
  obtain ⟨h1, h2, -, -, -, h6, h7⟩ := hR
  refine ⟨h1, h2, ?_, ?_, hS, h6, ?_⟩
  · show va_P D vwCl (x_wk ad cO 0 (X.1.set a b)) H1
    rw [x_set0]; exact hP
  · show va_D A (x_wk ad cO 0 (X.1.set a b))
    rw [x_set0]; exact hD
  · show x_ext X0 mcT ad0 (X.1.set a b) ad
    exact ⟨by rw [List.length_set]; exact h7.1, h7.2.1, h7.2.2⟩
theorem x_locR {nL : Nat} {L L' : x_L} {X : x_H} {ad : Nat → Nat} {H : Heap} {locs : List Loc} {cells slots : Nat} {ls ls' : Array Slot}
    (hR : x_R D cO A s nL X0 ad0 mcT msT L X ad H locs cells slots ls) (h : x_lv ad L' ls' nL) : x_R D cO A s nL X0 ad0 mcT msT L' X ad H locs cells slots ls' := by
  obtain ⟨h1, h2, h3, h4, h5, -, h7⟩ := hR
  exact ⟨h1, h2, h3, h4, h5, h, h7⟩
theorem x_blind (hEn : x_EnOK En) {ad : Nat → Nat} {X : List x_C} {av : List Value} {sz : Nat} : FrameBlind (x_Pre D cO En ad X av sz) := by
  intro a U g mk q
  obtain ⟨q0, q1, qP, qK, qD, qE⟩ := q
  exact ⟨q0, q1, qP, va_K.moved (u := U) (U := U.calling g mk a) (Vm.Alike.refl U.vm) qK, qD, hEn.1 _ U _ _ rfl qE⟩
theorem x_preAt (hEn : x_EnOK En) {nL : Nat} {L : x_L} {X : x_H} {ad : Nat → Nat} {H : Heap} {locs : List Loc} {cells slots : Nat} {ls : Array Slot} {av : List Value}
    (hX : x_Ctx p R s m args meth c M D cO En A mcT msT) (hR : x_R D cO A s nL X0 ad0 mcT msT L X ad H locs cells slots ls) : ∀ U : State, U.heap = H → s.WarmedH U.vm → x_Pre D cO En ad X.1 av H.size (av.map (x_rv ad)).toArray U := by
  obtain ⟨-, -, hP, hD, hS, -, -⟩ := hR
  obtain ⟨-, -, -, -, -, hK, hA, hE, -⟩ := hX
  intro U hU hW
  refine ⟨rfl, by rw [hU], by rw [hU]; exact hP, va_K.moved hW.alike hK, hD.weaken (fun _ _ _ _ => trivial), ?_⟩
  rw [hU]
  refine hEn.2.1 _ s _ _ hW (hEn.2.2.2 A _ _ _ (fun q hq => ?_) (hEn.2.2.1 A _ _ _ hS.1 hS.2.1 hE))
  rcases hq with ⟨k, e9, hk⟩ | hq
  · exact hD.2 k _ hk
  · exact hA q (Nat.le_trans hS.1 hq)
theorem x_rcv.inv {v : Option Value} {X : x_H} {ci : Nat} (h : x_rcv v X ci) : ∃ a fs, v = some (.ref a) ∧ X.1[a]? = some (.inr (ci, fs)) := by
  unfold x_rcv at h
  split at h
  · obtain ⟨cj, fs, h1, rfl⟩ := x_ob.inv h
    exact ⟨_, fs, rfl, h1⟩
  · exact h.elim
theorem x_split {st : List Value} {n : Nat} {w : Value} (h : st[n]? = some w) : st = st.take n ++ w :: st.drop (n + 1) ∧ (st.take (n + 1)).reverse = w :: (st.take n).reverse := by
  obtain ⟨hl, he⟩ := List.getElem?_eq_some_iff.mp h
  have h1 : st.take (n + 1) = st.take n ++ [w] := by
    rw [List.take_succ, h]; rfl
  refine ⟨?_, by rw [h1, List.reverse_append]; rfl⟩
  conv => lhs; rw [← List.take_append_drop (n + 1) st, h1, List.append_assoc]
  rfl
theorem x_cats (ad : Nat → Nat) (st : List Value) : ((st.map (x_rv ad)).map fun v => v.category) = st.map fun v => v.category := by
  rw [List.map_map]
  exact List.map_congr_left (fun v _ => x_rv_cat ad v)
theorem x_bok.le {bc bs : Nat} {L : x_L} {st : List Value} {X : x_H} (h : x_bok bc bs L st X) : bc ≤ X.2.1 ∧ bs ≤ X.2.2 := by
  cases bc with
  | zero => have h1 : bs = 0 := h.2; omega
  | succ b => exact ⟨h.2.1, h.2.2.1⟩
theorem x_ext_new {X0 X : List x_C} {bc : Nat} {ad0 ad : Nat → Nat} {q : Nat} {c9 : x_C} (h : x_ext X0 bc ad0 X ad) (hl : X.length < x_SP) (hb : bc ≠ 0) : x_ext X0 bc ad0 (X ++ [c9]) (x_adn ad X.length q) := by
  have hag := x_adn_agr ad (q := q) hl
  refine ⟨by rw [List.length_append]; exact Nat.le_trans h.1 (Nat.le_add_right _ _), ⟨fun k hk => (hag.1 k (Nat.lt_of_lt_of_le hk h.1)).trans (h.2.1.1 k hk), hag.2.trans h.2.1.2⟩, fun z => absurd z hb⟩
set_option maxHeartbeats 4000000 in
theorem x_snd {sc : Nat × (Nat → Int32)} {b0 : Nat} (hEn : x_EnOK En) (hG : x_Gw) (hT : x_Tb M) (hX : x_Ctx p R s m args meth c M D cO En A mcT msT) (hb0 : ad0 x_SP = b0) (hsc : va_X b0 sc.1 sc.2 s s.heap ∧ b0 < s.heap.size ∧ ¬ A b0) (hV : x_CV l R s args M C D cO En b0) (hSt : x_CS l R s args M C D cO En b0) (hI : x_CI l R s args M C D cO En b0) (hZ : x_Ends p l e R s m args below meth c QQ M Q D cO A X0 ad0 mcT msT) (hZX : x_EndX p l e R s m args below meth c QQ M Q D cO A X0 ad0 mcT msT) (hH : x_Hnd p l e R s m args below meth c QQ M) (hThr : x_Thr p l e R s m args below meth c QQ M Q D cO A X0 ad0 mcT msT) :
    ∀ pc L st X, x_st sc M C Q (x_P p l e R s m args below meth c QQ D cO A M.maxl X0 ad0 mcT msT) pc L st X → x_P p l e R s m args below meth c QQ D cO A M.maxl X0 ad0 mcT msT pc L st X := by
  intro pc L st X h ad H locs cells slots ls hR
  have hX0 := hX
  obtain ⟨hx, hb, hml, hown, hts, hK, hA, hE, hmc, hms, hnm, hfr, hlc⟩ := hX
  have hR0 := hR
  obtain ⟨hc, hs, hP, hD, hS, hl, hx0⟩ := hR
  unfold x_st at h
  split at h
  case h_2 => exact h.elim
  case h_1 i len tg htab =>
  obtain ⟨hd, hj⟩ := hT.1 pc i len tg htab
  have hln : L.length = M.maxl := hl.1
  have hsz : ls.size = M.maxl := hl.2.1.1
  have hsp : ad x_SP = b0 := hx0.2.1.2.trans hb0
  cases i
  case iconst n => exact lv_iconst hx hb hd rfl (h ad H locs cells slots ls hR0)
  case bipush n => exact lv_bipush hx hb hd rfl (h ad H locs cells slots ls hR0)
  case sipush n => exact lv_sipush hx hb hd rfl (h ad H locs cells slots ls hR0)
  case lconst n => exact lv_lconst hx hb hd rfl (h ad H locs cells slots ls hR0)
  case iload k =>
    obtain ⟨x, h1, h⟩ := x_ldi.inv h
    exact lv_iload hx hb hd (hl.at h1) (h ad H locs cells slots ls hR0)
  case iload_n k =>
    obtain ⟨x, h1, h⟩ := x_ldi.inv h
    exact lv_iload_n hx hb hd rfl (hl.at h1) (h ad H locs cells slots ls hR0)
  case aload k =>
    obtain ⟨x, h1, h⟩ := x_lda.inv h
    exact lv_aload hx hb hd (hl.at h1) (h ad H locs cells slots ls hR0)
  case aload_n k =>
    obtain ⟨x, h1, h⟩ := x_lda.inv h
    exact lv_aload_n hx hb hd rfl (hl.at h1) (h ad H locs cells slots ls hR0)
  case istore k =>
    obtain ⟨h1, h⟩ := h
    obtain ⟨x, r, rfl, h⟩ := x_s1.inv h
    exact lv_istore hx hb hd hl.2.1 (by omega) rfl (fun ls' h' => h ad H locs cells slots ls' (x_locR hR0 (hl.set rfl h')))
  case istore_n k =>
    obtain ⟨h1, h⟩ := h
    obtain ⟨x, r, rfl, h⟩ := x_s1.inv h
    exact lv_istore_n hx hb hd rfl hl.2.1 (by omega) rfl (fun ls' h' => h ad H locs cells slots ls' (x_locR hR0 (hl.set rfl h')))
  case astore k =>
    obtain ⟨h1, h⟩ := h
    obtain ⟨x, r, rfl, h⟩ := x_sr.inv h
    exact lv_astore hx hb hd hl.2.1 (by omega) rfl (fun ls' h' => h ad H locs cells slots ls' (x_locR hR0 (hl.set (v := .ref x) rfl h')))
  case astore_n k =>
    obtain ⟨h1, h⟩ := h
    obtain ⟨x, r, rfl, h⟩ := x_sr.inv h
    exact lv_astore_n hx hb hd rfl hl.2.1 (by omega) rfl (fun ls' h' => h ad H locs cells slots ls' (x_locR hR0 (hl.set (v := .ref x) rfl h')))
  case iinc k n =>
    obtain ⟨h1, h⟩ := h
    obtain ⟨x, h2, h⟩ := x_ldi.inv h
    obtain ⟨k9, hk9⟩ := List.getElem?_of_mem ((x_ll_mem ad 0 L (k, x_rv ad (.int x))).mpr ⟨k, _, h2, by rw [Nat.zero_add]⟩)
    exact lv_iinc hx hb hd hl.2.1 hk9 rfl (by omega) rfl (fun ls' h' => h ad H locs cells slots ls' (x_locR hR0 (hl.set (v := .int _) rfl h')))
  case iadd =>
    obtain ⟨x, y, r, rfl, h⟩ := x_s2.inv h
    exact lv_iadd hx hb hd (h ad H locs cells slots ls hR0)
  case isub =>
    obtain ⟨x, y, r, rfl, h⟩ := x_s2.inv h
    exact lv_isub hx hb hd (h ad H locs cells slots ls hR0)
  case imul =>
    obtain ⟨x, y, r, rfl, h⟩ := x_s2.inv h
    exact lv_imul hx hb hd (h ad H locs cells slots ls hR0)
  case iand =>
    obtain ⟨x, y, r, rfl, h⟩ := x_s2.inv h
    exact lv_iand hx hb hd (h ad H locs cells slots ls hR0)
  case ior =>
    obtain ⟨x, y, r, rfl, h⟩ := x_s2.inv h
    exact lv_ior hx hb hd (h ad H locs cells slots ls hR0)
  case ixor =>
    obtain ⟨x, y, r, rfl, h⟩ := x_s2.inv h
    exact lv_ixor hx hb hd (h ad H locs cells slots ls hR0)
  case ishl =>
    obtain ⟨x, y, r, rfl, h⟩ := x_s2.inv h
    exact lv_ishl hx hb hd (h ad H locs cells slots ls hR0)
  case ishr =>
    obtain ⟨x, y, r, rfl, h⟩ := x_s2.inv h
    exact lv_ishr hx hb hd (h ad H locs cells slots ls hR0)
  case iushr =>
    obtain ⟨x, y, r, rfl, h⟩ := x_s2.inv h
    exact lv_iushr hx hb hd rfl (h ad H locs cells slots ls hR0)
  case idiv =>
    obtain ⟨x, y, r, rfl, hn, h⟩ := x_s2.inv h
    exact lv_idiv hx hb hd hn (h ad H locs cells slots ls hR0)
  case irem =>
    obtain ⟨x, y, r, rfl, hn, h⟩ := x_s2.inv h
    exact lv_irem hx hb hd hn (h ad H locs cells slots ls hR0)
  case dup =>
    simp only [x_go] at h
    split at h
    · exact lv_dup hx hb hd (by rw [x_rv_cat]; exact h.1) (h.2 ad H locs cells slots ls hR0)
    · exact h.elim
  case dup2 =>
    obtain ⟨a, x, r, rfl, h⟩ := x_sir.inv h
    exact lv_dup2_11 hx hb hd rfl rfl (h ad H locs cells slots ls hR0)
  case i2l =>
    obtain ⟨x, r, rfl, h⟩ := x_s1.inv h
    exact lv_i2l hx hb hd rfl (h ad H locs cells slots ls hR0)
  case l2i =>
    obtain ⟨x, r, rfl, h⟩ := x_sl1.inv h
    exact lv_l2i hx hb hd rfl (h ad H locs cells slots ls hR0)
  case i2c =>
    obtain ⟨x, r, rfl, h⟩ := x_s1.inv h
    exact lv_i2c hx hb hd rfl (h ad H locs cells slots ls hR0)
  case lshr =>
    obtain ⟨x, y, r, rfl, h⟩ := x_sil.inv h
    exact lv_lshr hx hb hd rfl (h ad H locs cells slots ls hR0)
  case lcmp =>
    obtain ⟨x, y, r, rfl, h⟩ := x_sl2.inv h
    exact W.lcmp hx hb hd (h ad H locs cells slots ls hR0)
  case goto o => exact lv_goto hx hb hd hj (h ad H locs cells slots ls hR0)
  case ifCond c9 o =>
    obtain ⟨x, r, rfl, h1, h2⟩ := x_s1.inv h
    cases c9
    · exact lv_if_eq hx hb hd hj (fun q => h1 q ad H locs cells slots ls hR0) (fun q => h2 q ad H locs cells slots ls hR0)
    · exact lv_if_ne hx hb hd hj (fun q => h1 q ad H locs cells slots ls hR0) (fun q => h2 (fun z => z q) ad H locs cells slots ls hR0)
    · exact lv_if_lt hx hb hd hj (fun q => h1 q ad H locs cells slots ls hR0) (fun q => h2 q ad H locs cells slots ls hR0)
    · exact lv_if_ge hx hb hd hj (fun q => h1 q ad H locs cells slots ls hR0) (fun q => h2 q ad H locs cells slots ls hR0)
    · exact lv_if_gt hx hb hd hj (fun q => h1 q ad H locs cells slots ls hR0) (fun q => h2 q ad H locs cells slots ls hR0)
    · exact lv_if_le hx hb hd hj (fun q => h1 q ad H locs cells slots ls hR0) (fun q => h2 q ad H locs cells slots ls hR0)
  case if_icmp c9 o =>
    obtain ⟨x, y, r, rfl, h1, h2⟩ := x_s2.inv h
    cases c9
    · exact lv_icmp_eq hx hb hd hj (fun q => h1 q ad H locs cells slots ls hR0) (fun q => h2 q ad H locs cells slots ls hR0)
    · exact lv_icmp_ne hx hb hd hj (fun q => h1 q ad H locs cells slots ls hR0) (fun q => h2 (fun z => z q) ad H locs cells slots ls hR0)
    · exact lv_icmp_lt hx hb hd hj (fun q => h1 q ad H locs cells slots ls hR0) (fun q => h2 q ad H locs cells slots ls hR0)
    · exact lv_icmp_ge hx hb hd hj (fun q => h1 q ad H locs cells slots ls hR0) (fun q => h2 q ad H locs cells slots ls hR0)
    · exact lv_icmp_gt hx hb hd hj (fun q => h1 q ad H locs cells slots ls hR0) (fun q => h2 q ad H locs cells slots ls hR0)
    · exact lv_icmp_le hx hb hd hj (fun q => h1 q ad H locs cells slots ls hR0) (fun q => h2 q ad H locs cells slots ls hR0)
  case ldc ix =>
    simp only [x_go] at h
    split at h
    · rename_i v hv
      exact lv_ldc hx hb hown (hts _ (hT.2.2.1 ix v hv)) hd (h ad H locs cells slots ls hR0)
    · exact h.elim
  case ldc_w ix =>
    simp only [x_go] at h
    split at h
    · rename_i v hv
      exact lv_ldcw hx hb hown (hts _ (hT.2.2.1 ix v hv)) hd (h ad H locs cells slots ls hR0)
    · exact h.elim
  case ldc2_w ix =>
    simp only [x_go] at h
    split at h
    · rename_i v hv
      exact lv_ldc2 hx hb hown (hts _ (hT.2.2.2.1 ix v hv)) hd (h ad H locs cells slots ls hR0)
    · exact h.elim
  case arraylength =>
    obtain ⟨a, r, rfl, hu⟩ := x_sr.inv h
    by_cases hsp9 : a = x_SP
    · rw [if_pos hsp9] at hu
      subst hsp9
      exact va_slen (b := ad x_SP) hx hb (hsp ▸ hsc.1) (hsp ▸ hsc.2.1) (hsp ▸ hsc.2.2) hS hd (hu ad H locs cells slots ls hR0)
    rw [if_neg hsp9] at hu
    obtain ⟨ty, n, f, ha, hty, hw⟩ := x_ai.inv hu
    rcases hty with rfl | rfl
    · exact va_alen hx hb hK hP a 0 (x_at0 ha) rfl rfl hd (hw ad H locs cells slots ls hR0)
    · exact va_alen hx hb hK hP a 1 (x_at0 ha) rfl rfl hd (hw ad H locs cells slots ls hR0)
  case iaload =>
    obtain ⟨a, j, r, rfl, hu⟩ := x_sir.inv h
    by_cases hsp9 : a = x_SP
    · rw [if_pos hsp9] at hu
      subst hsp9
      exact va_sld (b := ad x_SP) hx hb (hsp ▸ hsc.1) (hsp ▸ hsc.2.1) (hsp ▸ hsc.2.2) hS hu.1 hd (hu.2 ad H locs cells slots ls hR0)
    rw [if_neg hsp9] at hu
    obtain ⟨ty, n, f, ha, rfl, hi, hw⟩ := x_ai.inv hu
    exact va_iald hx hb hK hP a 0 (x_at0 ha) rfl hi hd (hw ad H locs cells slots ls hR0)
  case baload =>
    obtain ⟨a, j, r, rfl, h⟩ := x_sir.inv h
    obtain ⟨ty, n, f, ha, rfl, hi, h⟩ := x_ai.inv h
    exact va_zald hx hb hK hP a 1 (x_at0 ha) rfl hi hd (h ad H locs cells slots ls hR0)
  case laload =>
    obtain ⟨a, j, r, rfl, h⟩ := x_sir.inv h
    obtain ⟨n, f, ha, hi, h⟩ := x_al.inv h
    exact va_lald hx hb hK hP a 2 (x_at0 ha) rfl hi hd (h ad H locs cells slots ls hR0)
  case iastore =>
    obtain ⟨a, j, v, r, rfl, h⟩ := x_siir.inv h
    obtain ⟨ty, n, f, ha, rfl, hi, h⟩ := x_ai.inv h
    exact va_iast hx hb hK hP hD hS a 0 (x_at0 ha) rfl hi hd (fun H1 locs1 hP1 hD1 hS1 => h ad H1 locs1 cells slots ls (x_setR hR0 hP1 hD1 hS1))
  case bastore =>
    obtain ⟨a, j, v, r, rfl, h⟩ := x_siir.inv h
    obtain ⟨ty, n, f, ha, rfl, hi, h⟩ := x_ai.inv h
    exact va_zast hx hb hK hP hD hS a 1 (x_at0 ha) rfl hi hd (fun H1 locs1 hP1 hD1 hS1 => h ad H1 locs1 cells slots ls (x_setR hR0 hP1 hD1 hS1))
  case lastore =>
    obtain ⟨a, j, v, r, rfl, h⟩ := x_slir.inv h
    obtain ⟨n, f, ha, hi, h⟩ := x_al.inv h
    exact va_last hx hb hK hP hD hS a 2 (x_at0 ha) rfl hi hd (fun H1 locs1 hP1 hD1 hS1 => h ad H1 locs1 cells slots ls (x_setR hR0 hP1 hD1 hS1))
  case getfield ix =>
    simp only [x_go] at h
    split at h
    · rename_i ci k ty w9 hf
      obtain ⟨a, r, rfl, hu⟩ := x_sr.inv h
      obtain ⟨cj, fs, ha, rfl, hw⟩ := x_ob.inv hu
      split at hw
      · rename_i v hv
        obtain ⟨C9, T9, N9, ty0, g1, g2, g3, g4, -⟩ := hT.2.1 ix _ k ty w9 hf
        exact va_get hx hb hts g3 hown hK hP a (x_at0 ha) g1 k g2 (hts _ g4) (fun _ q => q) (v := x_rv ad v) (by rw [List.getElem?_map, hv]; rfl) hd (hw ad H locs cells slots ls hR0)
      · exact hw.elim
    · exact h.elim
  case putfield ix =>
    simp only [x_go] at h
    split at h
    · rename_i ci k ty w9 hf
      obtain ⟨a, v, r, rfl, hu⟩ := x_svr.inv h
      obtain ⟨cj, fs, ha, rfl, hk, hfit, hw⟩ := x_ob.inv hu
      obtain ⟨C9, T9, N9, ty0, g1, g2, g3, g4, g5, g6, g7⟩ := hT.2.1 ix _ k ty _ hf
      obtain ⟨n1, n2⟩ := x_fit_ok ad hfit
      have kk : ∀ (H1 : Heap) (locs1 : List Loc), va_P D vwCl ((x_wk ad cO 0 X.1).set a (ad a, .inr (cj, (fs.map (x_rv ad)).set k (x_rv ad v)))) H1 → va_D A ((x_wk ad cO 0 X.1).set a (ad a, .inr (cj, (fs.map (x_rv ad)).set k (x_rv ad v)))) → va_S A s.heap H1 locs1 → W p l e R s m args below meth c H1 locs1 cells slots QQ (F0 m (pc + 3) ls (r.map (x_rv ad))) := by
        intro H1 locs1 hP1 hD1 hS1
        refine hw ad H1 locs1 cells slots ls (x_setR hR0 (b := .inr (cj, fs.set k v)) ?_ ?_ hS1)
        · simp only [x_cz, List.map_set]; exact hP1
        · simp only [x_cz, List.map_set]; exact hD1
      rcases g7 with g7 | ⟨g8, ⟨-, g9⟩ | ⟨g9, g10, g11⟩⟩
      · omega
      · exact va_put hx hb hts g3 ty0 g5 g6 hown hK hP hD hS a (x_at0 ha) g1 k g2 (hts _ g4) (fun _ q => q) g9 g8 n1 n2 (by rw [List.length_map]; exact hk) hd kk
      · exact va_putF hx hb hts g3 ty0 g5 g6 hown hK hP hD hS a (x_at0 ha) g1 k g2 (hts _ g4) (fun _ q => q) g9 (hnm.trans g10) g11 g8 n1 n2 (by rw [List.length_map]; exact hk) hd kk
    · exact h.elim
  case invokevirtual ix =>
    simp only [x_go] at h
    split at h
    · rename_i mj n ci bc bs hcal
      obtain ⟨hrc, hbk, hw⟩ := h
      obtain ⟨y, bytes, maxL, ret, ws, rm, cq, g1, g2, g3⟩ := hV ix mj n ci bc bs hcal
      obtain ⟨a, fs, ha, hob⟩ := hrc.inv
      obtain ⟨e1, e2⟩ := x_split ha
      have hM := g3 ad X.1 _ _ H.size hsp hw
      rw [e2] at hM
      have hb8 := hbk.le
      refine x_calledX hR0 hA hbk (vx_runV (b := ad a) (As := (st.take n).reverse.map (x_rv ad)) ⟨hx, hb, hml, hown, hts⟩ hM g2 ⟨x_blind hEn, va_recv hK hP g1 (x_at0 hob), x_preAt hEn hX0 hR0 (av := .ref a :: (st.take n).reverse)⟩ rfl ?_ hsz ?_ (lv_room (by rw [x_cats]; exact hbk.1)) hd ⟨by omega, by omega⟩) (fun v Y hq => hq) (fun E Y hq => ?_)
      · rw [List.length_map, List.length_reverse, List.length_take]
        have := (List.getElem?_eq_some_iff.mp ha).1
        omega
      · show st.map (x_rv ad) = _
        rw [← List.map_reverse, List.reverse_reverse]
        conv => lhs; rw [e1]
        rw [List.map_append]
        rfl
      · dsimp only at hq
        split at hq
        · rename_i hex
          exact hZX E pc L _ _ hex hq
        · rename_i h9 k9 hex
          obtain ⟨hk9, hq⟩ := hq
          obtain ⟨hp, hdec, hcat⟩ := hH E pc h9 k9 hex
          intro ad2 H2 locs2 cells2 slots2 ls2 q ce hR2 c1 c2 c3
          refine hcat H2 locs2 cells2 slots2 ls2 _ q ce c1 c2 c3 ?_
          have hl2 : x_lv ad2 L ls2 M.maxl := hR2.2.2.2.2.2.1
          rcases hdec with ⟨d1, rfl⟩ | ⟨kk, d1, rfl, rfl⟩
          · exact lv_astore hx hb d1 hl2.2.1 (by omega) rfl (fun ls' h' => hq ad2 H2 locs2 cells2 slots2 ls' (x_locR hR2 (hl2.unset h')))
          · exact lv_astore_n hx hb d1 rfl hl2.2.1 (by omega) rfl (fun ls' h' => hq ad2 H2 locs2 cells2 slots2 ls' (x_locR hR2 (hl2.unset h')))
        · exact hq.elim
    · exact h.elim
  case invokestatic ix =>
    simp only [x_go] at h
    split at h
    · rename_i mj n k bc bs hcal
      obtain ⟨hrc, hbk, hw⟩ := h
      obtain ⟨y, bytes, maxL, ret, ws, rm, g1, g3⟩ := hSt ix mj n k bc bs hcal
      have hM := g3 ad X.1 _ _ H.size hsp (fun _ _ h => h) hw
      have hb8 := hbk.le
      have hlen : ((st.take n).reverse.map (x_rv ad)).length = n := by
        rw [List.length_map, List.length_reverse, List.length_take]
        omega
      have hstk : (F0 m pc ls (st.map (x_rv ad))).stack = ((st.take n).reverse.map (x_rv ad)).reverse ++ (st.drop n).map (x_rv ad) := by
        show st.map (x_rv ad) = _
        rw [← List.map_reverse, List.reverse_reverse, ← List.map_append, List.take_append_drop]
      rcases g1 with g1 | ⟨host, g1⟩ | ⟨hh, g1⟩
      · exact x_called hR0 hA hbk (va_runS (As := (st.take n).reverse.map (x_rv ad)) ⟨hx, hb, hml, hown, hts⟩ hM g1 ⟨x_blind hEn, x_preAt hEn hX0 hR0 (av := (st.take n).reverse)⟩ rfl hlen hsz hstk (lv_room (by rw [x_cats]; exact hbk.1)) hd ⟨by omega, by omega⟩) (fun v Y hq => hq)
      · exact x_called hR0 hA hbk (va_runSN (As := (st.take n).reverse.map (x_rv ad)) ⟨hx, hb, hml, hown, hts⟩ hM g1 ⟨x_blind hEn, x_preAt hEn hX0 hR0 (av := (st.take n).reverse)⟩ rfl hlen hsz hstk (lv_room (by rw [x_cats]; exact hbk.1)) hd ⟨by omega, by omega⟩) (fun v Y hq => hq)
      · exact x_called hR0 hA hbk (vx_runSW (As := (st.take n).reverse.map (x_rv ad)) ⟨hx, hb, hml, hown, hts⟩ hM g1 ⟨x_blind hEn, x_preAt hEn hX0 hR0 (av := (st.take n).reverse)⟩ rfl hlen hsz hstk (lv_room (by rw [x_cats]; exact hbk.1)) hd ⟨by omega, by omega⟩) (fun v Y hq => hq)
    · exact h.elim
  case invokespecial ix =>
    simp only [x_go] at h
    split at h
    · rename_i hsp2
      obtain ⟨a, r, rfl, hr8, hw⟩ := x_sr.inv h
      refine W.objInit hx hb hown (hts _ (hT.2.2.2.2.2 ix hsp2)) (hts _ hG.1) (hts _ hG.2.1) rfl (by rw [hml]; exact hsz) rfl hd hfr ?_ (hw ad H locs cells slots ls hR0)
      have h8 : 2 * (F0 m pc ls (List.map (x_rv ad) (Value.ref a :: r))).monitorRoom + ((r.map (x_rv ad)).map fun v => v.category).sum ≤ 8 := lv_room (by rw [x_cats]; exact hr8)
      omega
    · rename_i mj n bc bs hspc
      obtain ⟨hlt, hbk, hw⟩ := h
      obtain ⟨y, bytes, maxL, ws, rm, g1, g3⟩ := hI ix mj n bc bs hspc
      obtain ⟨a, ha⟩ : ∃ a, st[n]? = some (.ref a) := by
        unfold x_isr at hlt
        split at hlt
        · exact ⟨_, by assumption⟩
        · exact hlt.elim
      obtain ⟨e1, e2⟩ := x_split ha
      have hM := g3 ad X.1 _ _ H.size hsp (fun _ _ h => h) hw
      rw [e2] at hM
      have hb8 := hbk.le
      refine x_called hR0 hA hbk (va_runI (b := ad a) (As := (st.take n).reverse.map (x_rv ad)) ⟨hx, hb, hml, hown, hts⟩ hM g1 ⟨x_blind hEn, x_preAt hEn hX0 hR0 (av := .ref a :: (st.take n).reverse)⟩ rfl ?_ hsz ?_ (lv_room (by rw [x_cats]; exact hbk.1)) hd ⟨by omega, by omega⟩) (fun v Y hq => ?_)
      · rw [List.length_map, List.length_reverse, List.length_take]
        have := (List.getElem?_eq_some_iff.mp ha).1
        omega
      · show st.map (x_rv ad) = _
        rw [← List.map_reverse, List.reverse_reverse]
        conv => lhs; rw [e1]
        rw [List.map_append]
        rfl
      · obtain ⟨rfl, hq⟩ := hq
        exact hq
    · exact h.elim
  case new ix =>
    simp only [x_go] at h
    split at h
    · rename_i ci fs hnw
      obtain ⟨⟨hc1, hs1, hao⟩, hw⟩ := h
      obtain ⟨C9, T9, N9, ty0, g1, g2, g3, g4, g5, g6, g7, g8, g9⟩ := hT.2.2.2.2.1 ix ci fs hnw
      refine va_new hx hb hts g2 ty0 g3 hown (hts _ g4) (hts _ g5) (hts _ g6) hK hP hD hS hA g1 g7 (by omega) (by omega) hd (fun q H1 hP1 hD1 hS1 => ?_)
      have hwk := x_wk_new (ad := ad) (cO := cO) hao q (.inr (ci, fs)) (by simp only [x_cz, g9])
      have hag := x_adn_agr ad (q := q) hao.1
      have hz : x_cz ad cO (.inr (ci, fs)) = .inr (ci, fs) := by simp only [x_cz, g9]
      have hw2 := hw (x_adn ad X.1.length q) H1 locs (cells + 1) (slots + N9) ls ⟨by show cells + 1 + (X.2.1 - 1) ≤ mcT; omega, by show slots + N9 + (X.2.2 - fs.length) ≤ msT; omega, by show va_P D vwCl (x_wk _ cO 0 (X.1 ++ [_])) H1; rw [hwk, hz]; exact hP1, by show va_D A (x_wk _ cO 0 (X.1 ++ [_])); rw [hwk, hz]; exact hD1, hS1, hl.move hag hao.2.1, x_ext_new hx0 hao.1 (by omega)⟩
      rw [List.map_cons, x_st_move hag hao.2.2.1] at hw2
      simp only [x_rv, x_adn_new] at hw2
      exact hw2
    · split at h
      · rename_i E hE9
        exact hThr pc ix len tg E L st X htab hE9 h.1.1 h.1.2 h.2 ad H locs cells slots ls hR0
      · exact h.elim
  case newarray at9 =>
    obtain ⟨n, r, rfl, ⟨hn0, hnM, hc1, hs1, hao⟩, hw⟩ := x_s1.inv h
    have key : ∀ (ty : FieldType) (a0 : vp_A) (t0 : Nat), newarray.typeOf at9 = ty → (x_ty cO)[t0]? = some (cO ty, ty) → (∀ cA : ClassId, vp_cell cA a0 = arrV cA n.toNatClampNeg (fun _ => defaultValue ty)) → Cond.arrayClass ty ∈ x_T → n.toNatClampNeg * componentBytes ty ≤ 536870912 → (∀ cA cB : ClassId, va_RA s cA ty → va_RA s cB ty → cA = cB) →
        x_P p l e R s m args below meth c QQ D cO A M.maxl X0 ad0 mcT msT (pc + 2) L (.ref X.1.length :: r) (X.1 ++ [.inl (ty, a0)], X.2.1 - 1, X.2.2 - n.toNatClampNeg) → W p l e R s m args below meth c H locs cells slots QQ (F0 m pc ls (List.map (x_rv ad) (Value.int n :: r))) := by
      intro ty a0 t0 hty ht0 ha0 hwd hby hun hw
      refine va_newa hx hb (hty ▸ hts _ hwd) hty hK hP hD hS hA ha0 hn0 rfl hby (by omega) (by omega) hd (fun q cA H1 hK1 hP1 hD1 hS1 => ?_)
      have hcA : cA = cO ty := hun _ _ (hK1.2 (x_ty cO).length (cA, ty) (by rw [List.getElem?_append_right (Nat.le_refl _), Nat.sub_self]; rfl)).2 (hK.2 t0 _ ht0).2
      subst hcA
      have hwk := x_wk_new (ad := ad) (cO := cO) hao q (.inl (ty, a0)) rfl
      have hag := x_adn_agr ad (q := q) hao.1
      have hw2 := hw (x_adn ad X.1.length q) H1 locs (cells + 1) (slots + n.toNatClampNeg) ls ⟨by show cells + 1 + (X.2.1 - 1) ≤ mcT; omega, by show slots + n.toNatClampNeg + (X.2.2 - n.toNatClampNeg) ≤ msT; omega, by show va_P D vwCl (x_wk _ cO 0 (X.1 ++ [_])) H1; rw [hwk]; exact hP1, by show va_D A (x_wk _ cO 0 (X.1 ++ [_])); rw [hwk]; exact hD1, hS1, hl.move hag hao.2.1, x_ext_new hx0 hao.1 (by omega)⟩
      rw [List.map_cons, x_st_move hag hao.2.2.1] at hw2
      simp only [x_rv, x_adn_new] at hw2
      exact hw2
    cases at9
    case int => exact key .int (n.toNatClampNeg, .inl (fun _ => 0)) 0 rfl rfl (fun cA => rfl) hG.2.2.1 (by simp only [componentBytes]; omega) (fun a b h1 h2 => Option.some.inj (h1.symm.trans h2)) hw
    case boolean => exact key .boolean (n.toNatClampNeg, .inl (fun _ => 0)) 1 rfl rfl (fun cA => rfl) hG.2.2.2.1 (by simp only [componentBytes]; omega) (fun a b h1 h2 => Option.some.inj (h1.symm.trans h2)) hw
    case long => exact key .long (n.toNatClampNeg, .inr (.inl (fun _ => 0))) 2 rfl rfl (fun cA => rfl) hG.2.2.2.2 (by simp only [componentBytes]; omega) (fun a b h1 h2 => Option.some.inj (h1.symm.trans h2)) hw
    all_goals exact hw.elim
  case tableswitch dd lo hi offs =>
    obtain ⟨x, r, rfl, h1, h2⟩ := x_s1.inv h
    obtain ⟨j1, j2, j3⟩ := hj
    by_cases hout : x.toInt < lo ∨ hi < x.toInt
    · exact lv_tableOut hx hb hd hout (by omega) (h2 hout ad H locs cells slots ls hR0)
    · have hlo : ¬ x.toInt < lo := fun z => hout (Or.inl z)
      have hhi : ¬ hi < x.toInt := fun z => hout (Or.inr z)
      have hlt : (x.toInt - lo).toNat < offs.size := by omega
      have ho : offs[(x.toInt - lo).toNat]? = some offs[(x.toInt - lo).toNat] := Array.getElem?_eq_getElem hlt
      have hpos := j2 _ (Array.getElem_mem_toList hlt)
      exact lv_tableIn hx hb hd hlo hhi ho (by omega) (h1 _ _ ho (by omega) ad H locs cells slots ls hR0)
  case ireturn =>
    obtain ⟨x, r, rfl, ⟨rfl, h1⟩, h2⟩ := x_s1.inv h
    exact hZ _ pc L X h2 (Or.inl ⟨x, rfl, hd, h1⟩) ad H locs cells slots ls hR0
  case lreturn =>
    obtain ⟨x, r, rfl, ⟨rfl, h1⟩, h2⟩ := x_sl1.inv h
    exact hZ _ pc L X h2 (Or.inr (Or.inl ⟨x, rfl, hd, h1⟩)) ad H locs cells slots ls hR0
  case return_ =>
    obtain ⟨⟨rfl, h1⟩, h2⟩ := h
    exact hZ _ pc L X h2 (Or.inr (Or.inr ⟨rfl, hd, h1⟩)) ad H locs cells slots ls hR0
  all_goals exact h.elim
end XT
end
section
/-! ===== a run of the small machine is a method's contract ===== -/
def x_rm (d bc bs : Nat) : Room := { frames := d, cells := bc, slots := bs, locals := 40 * d }
def x_ent (M : x_M) (av : List Value) : x_L := av.map some ++ List.replicate (M.maxl - av.length) none
def x_c1 : List Value → Prop
  | [] => True
  | v :: l => v.category = 1 ∧ x_c1 l
/-- methods by their numbers; d frames deep -/
def x_run (sc : Nat × (Nat → Int32)) (MM : Nat → Option x_M) : Nat → Nat → List Value → x_H → (x_O → x_H → Prop) → Prop
  | 0, _, _, _, _ => False
  | d + 1, mj, av, X, Q => match MM mj with
    | some M => av.length ≤ M.maxl ∧ x_c1 av ∧ x_W sc M (x_run sc MM d) Q 0 (x_ent M av) [] X
    | none => False
theorem x_run_mono (sc : Nat × (Nat → Int32)) (MM : Nat → Option x_M) : ∀ d, x_Cm (x_run sc MM d)
  | 0 => fun _ _ _ _ _ _ h => h
  | d + 1 => fun mj av X Q Q' hQ h => by
    unfold x_run at *
    split at h
    · exact ⟨h.1, h.2.1, x_W.mono (x_run_mono sc MM d) hQ h.2.2⟩
    · exact h
theorem x_ll_none (ad : Nat → Nat) : ∀ (n k : Nat), x_ll ad k (List.replicate n none) = []
  | 0, _ => rfl
  | n + 1, k => by rw [List.replicate_succ]; exact x_ll_none ad n (k + 1)
theorem x_ll_args (ad : Nat → Nat) (n : Nat) : ∀ (av : List Value) (k : Nat), x_c1 av → x_ll ad k (av.map some ++ List.replicate n none) = lv_args k (av.map (x_rv ad))
  | [], k, _ => x_ll_none ad n k
  | v :: av, k, h => by
    have h1 : ¬ (x_rv ad v).category = 2 := by rw [x_rv_cat, h.1]; decide
    simp only [List.map_cons, List.cons_append, x_ll, lv_args, if_neg h1]
    rw [x_ll_args ad n av (k + 1) h.2]
theorem x_sl (ad : Nat → Nat) : ∀ (av : List Value), x_c1 av → (lg_sl (av.map (x_rv ad))).length = av.length
  | [], _ => rfl
  | v :: av, h => by
    have h1 : ¬ (x_rv ad v).category = 2 := by rw [x_rv_cat, h.1]; decide
    have h2 := x_sl ad av h.2
    simp only [lg_sl] at h2 ⊢
    simp [h1, h2]
theorem x_c1_at : ∀ {av : List Value}, x_c1 av → ∀ (j : Nat) (v : Value), av[j]? = some v → v.category = 1
  | [], _, j, v, h => by simp at h
  | w :: av, hc, 0, v, h => by
    have h1 : w = v := by simpa using h
    rw [← h1]; exact hc.1
  | w :: av, hc, j + 1, v, h => x_c1_at hc.2 j v (by simpa using h)
theorem x_entry (ad : Nat → Nat) (M : x_M) (m : MethodId) {av : List Value} (hc : x_c1 av) (hl : av.length ≤ M.maxl) : ∃ ls, entryFrame m (av.map (x_rv ad)).toArray M.maxl = F0 m 0 ls [] ∧ x_lv ad (x_ent M av) ls M.maxl := by
  refine ⟨_, lg_entry_eq m _ _, ?_, ?_, ?_⟩
  · rw [x_ent, List.length_append, List.length_map, List.length_replicate]; omega
  · rw [x_ent, x_ll_args ad _ av 0 hc]
    exact lv_entry _ (by rw [x_sl ad av hc]; exact hl)
  · intro j v hj
    rw [x_ent] at hj
    by_cases hlt : j < av.length
    · rw [List.getElem?_append_left (by rw [List.length_map]; exact hlt), List.getElem?_map] at hj
      cases h9 : av[j]? with
      | none => rw [h9] at hj; cases hj
      | some w =>
        rw [h9] at hj
        have h8 : w = v := by simpa using hj
        rw [← h8]
        exact x_c1_at hc j w h9
    · rw [List.getElem?_append_right (by rw [List.length_map]; omega)] at hj
      rw [List.getElem?_replicate] at hj
      split at hj <;> cases hj
/-- a method's own word -/
def x_kw (M : x_M) : Cond := match M.hnd with
  | [] => Cond.code M.nam M.cod M.maxl M.ret
  | h :: r => Cond.codeWith M.nam M.cod M.maxl M.ret (h :: r)
def x_ws (M : x_M) : List Cond := x_kw M :: x_T
def x_nmh (y : MethodName) : Prop := y.cls ≠ "java/lang/invoke/MethodHandle" ∧ y.cls ≠ "java/lang/invoke/VarHandle"
/-- the calls of a method, by the words -/
def x_Tc (MM : Nat → Option x_M) (En : (Nat → Prop) → State → Heap → Prop) (M : x_M) : Prop :=
  (∀ ix mj n ci bc bs, M.cal ix = some (mj, n, ci, bc, bs) → ∃ (M' : x_M) (cq : vw_C), MM mj = some M' ∧ M'.hnd = [] ∧ vwCl[ci]? = some cq ∧ M'.nam.cls = cq.1 ∧ Cond.methodLink M.own ix M'.nam ∈ x_T ∧ Cond.instanceMethod M'.nam ∈ x_T ∧ Cond.selects cq.1 M'.nam M'.nam ∈ x_T ∧ Cond.initialized cq.1 ∈ x_T ∧ (parseMethodDescriptor M'.nam.desc).map (fun d => d.parameters.length) = some n) ∧
  (∀ ix mj n k bc bs, M.cas ix = some (mj, n, k, bc, bs) → ∃ (M' : x_M), MM mj = some M' ∧ ((k = 0 ∧ Cond.methodLink M.own ix M'.nam ∈ x_T) ∨ (M'.hnd = [] ∧ ∃ host, ∀ A U H, En A U H → va_Nw (.methodLinkNest M.own ix M'.nam host) U)) ∧ Cond.static M'.nam ∈ x_T ∧ Cond.initialized M'.nam.cls ∈ x_T ∧ (parseMethodDescriptor M'.nam.desc).map (fun d => d.parameters.length) = some n) ∧
  (∀ ix mj n bc bs, M.spc ix = some (some (mj, n, bc, bs)) → ∃ (M' : x_M), MM mj = some M' ∧ M'.hnd = [] ∧ M'.ret = none ∧ M'.nam.name = "<init>" ∧ Cond.methodLink M.own ix M'.nam ∈ x_T ∧ Cond.instanceMethod M'.nam ∈ x_T ∧ Cond.initialized M'.nam.cls ∈ x_T ∧ (parseMethodDescriptor M'.nam.desc).map (fun d => d.parameters.length) = some n)
def x_All (MM : Nat → Option x_M) (En : (Nat → Prop) → State → Heap → Prop) : Prop :=
  ∀ mj M, MM mj = some M → x_Tb M ∧ x_Tc MM En M ∧ plainName M.nam.cls = true ∧ M.nam.cls = M.own ∧ x_kw M ∈ x_T ∧ x_nmh M.nam ∧ M.maxl ≤ 20
/-- handlers do as their table says -/
def x_HandOK (l : Launch) (M : x_M) : Prop := ∀ (p : Program) (e : Env) (R : Room) (s : State) (m : MethodId) (args : Array Value) (below : List Frame) (meth : Method) (c : Code) (QQ : State → Prop), p.tables.exec = Jvm.exec → s.vm.findClass M.own = some m.cls → (∀ w ∈ x_T, w.before args s = true) → (M.hnd = [] → ∀ x ∈ c.exceptionTable.toList, False) → ((Cond.codeWith M.nam M.cod M.maxl M.ret M.hnd).before args s = true ∨ M.hnd = []) → (∀ hh, (Cond.codeWith M.nam M.cod M.maxl M.ret hh).before args s = true → c.exceptionTable.toList = tableOf hh) →
  x_Hnd p l e R s m args below meth c QQ M ∧ ∀ pc E, M.exc pc E = some none → ∀ x ∈ c.exceptionTable.toList, covers x pc = false
/-- throws do as they should -/
def x_ThrOK (l : Launch) (En : (Nat → Prop) → State → Heap → Prop) (M : x_M) : Prop := ∀ (D : va_G) (cO : FieldType → ClassId) (p : Program) (e : Env) (R : Room) (s : State) (m : MethodId) (args : Array Value) (below : List Frame) (meth : Method) (c : Code) (ad : Nat → Nat) (X : List x_C) (A : Nat → Prop) (bc bs : Nat) (Q : x_O → x_H → Prop), va_A (x_wk ad cO 0 X) s.heap.size = A → x_Ctx p R s m args meth c M D cO En A bc bs → meth.locks = false → (∀ x ∈ c.exceptionTable.toList, False) →
  x_Thr p l e R s m args below meth c (vx_MQ below (x_Post D cO ad X s.heap.size bc Q) (x_PostX D cO ad X s.heap.size bc Q) args s bc bs A) M Q D cO A X ad bc bs
set_option maxHeartbeats 1000000 in
theorem x_met (l : Launch) {sc : Nat × (Nat → Int32)} {b0 : Nat} {D : va_G} {cO : FieldType → ClassId} {En : (Nat → Prop) → State → Heap → Prop} (hEn : x_EnOK En) (hScr : ∀ A U H, En A U H → va_X b0 sc.1 sc.2 U H ∧ b0 < H.size ∧ ¬ A b0) (hG : x_Gw) {MM : Nat → Option x_M} (hMM : x_All MM En) (hHd : ∀ mj M, MM mj = some M → x_HandOK l M) (hTh : ∀ mj M, MM mj = some M → (∀ ix, M.thr ix = none) ∨ (M.hnd = [] ∧ x_ThrOK l En M)) :
    ∀ (d mj : Nat) (M : x_M), MM mj = some M → ∀ (ad : Nat → Nat) (X : List x_C) (av : List Value) (bc bs sz : Nat) (Q : x_O → x_H → Prop), ad x_SP = b0 → x_run sc MM d mj av (X, bc, bs) Q → vx_Met l M.nam (x_ws M) (x_rm d bc bs) (x_Pre D cO En ad X av sz) (x_Post D cO ad X sz bc Q) (x_PostX D cO ad X sz bc Q) bc bs (va_A (x_wk ad cO 0 X) sz) := by
  intro d
  induction d with
  | zero => intro mj M hM ad X av bc bs sz Q _ h; exact h.elim
  | succ d ih =>
    intro mj M hM ad X av bc bs sz Q hsp h
    unfold x_run at h
    rw [hM] at h
    obtain ⟨hal, hac, hW⟩ := h
    obtain ⟨hTb, hTc, hpn, hcl, hcd, hmh, hml20⟩ := hMM mj M hM
    have body : ∀ p e s m args below meth c s₁, BodyLoose p l M.nam (headSpec (x_ws M) (x_rm (d + 1) bc bs)) M.cod M.maxl M.ret e s m args below meth c s₁ → c.maxLocals = M.maxl → (M.hnd = [] → ∀ x ∈ c.exceptionTable.toList, False) → x_Pre D cO En ad X av sz args s →
        W p l e (headSpec (x_ws M) (x_rm (d + 1) bc bs)).room s m args below meth c s.heap [] 0 0 (vx_MQ below (x_Post D cO ad X sz bc Q) (x_PostX D cO ad X sz bc Q) args s bc bs (va_A (x_wk ad cO 0 X) sz)) (entryFrame m args M.maxl) := by
      intro p e s m args below meth c s₁ B hml hnt hv
      obtain ⟨rfl, hsz, hP, hK, hD0, hE⟩ := hv
      have hts0 : ∀ w ∈ x_ws M, w.before (av.map (x_rv ad)).toArray s = true := atoms_spec (ws := x_ws M) B.pre
      have hts : ∀ w ∈ x_T, w.before (av.map (x_rv ad)).toArray s = true := fun w hw => hts0 w (List.mem_cons_of_mem _ hw)
      have hown : s.vm.findClass M.own = some m.cls := by rw [← hcl]; exact findClass_of_methodNamed B.named
      subst hsz
      have hD := hD0.self (sz := s.heap.size)
      generalize hAe : va_A (x_wk ad cO 0 X) s.heap.size = A at hD hE ⊢
      have hA : ∀ q : Nat, s.heap.size ≤ q → A q := fun q h => by rw [← hAe]; exact Or.inr h
      have hS : va_S A s.heap s.heap [] := va_S.rf
      obtain ⟨ls, hent, hlv⟩ := x_entry ad M m hac hal
      rw [hent]
      have hGood : ∀ ws : List Cond, (∀ w ∈ ws, w ∈ x_T) → GoodIn x_T ws := fun ws h => x_T_in (fun w hw => hw) h
      have hnm : meth.name = M.nam.name := (name_of_methodNamed B.named B.method).1
      have hx : x_Ctx p (headSpec (x_ws M) (x_rm (d + 1) bc bs)).room s m (av.map (x_rv ad)).toArray meth c M D cO En A bc bs := ⟨B.exec, B.bytes, hml, hown, hts, hK, hA, hE, Nat.le_refl _, Nat.le_refl _, hnm, Nat.le_add_left 1 d, by show 40 ≤ 40 * (d + 1); omega⟩
      have hwsT : ∀ mj2 M', MM mj2 = some M' → ∀ w ∈ x_ws M', w ∈ x_T := by
        intro mj2 M' g1 w hw
        obtain ⟨-, -, -, -, k5, k6, k7⟩ := hMM mj2 M' g1
        rcases List.mem_cons.mp hw with rfl | hw
        · exact k5
        · exact hw
      have hroom : ∀ mj2 M' bc2 bs2, MM mj2 = some M' → (x_rm d bc2 bs2).frames + 1 ≤ (headSpec (x_ws M) (x_rm (d + 1) bc bs)).room.frames ∧ 8 + (M'.maxl + 11) + (x_rm d bc2 bs2).locals ≤ (headSpec (x_ws M) (x_rm (d + 1) bc bs)).room.locals := by
        intro mj2 M' bc2 bs2 g1
        obtain ⟨-, -, -, -, k5, k6, k7⟩ := hMM mj2 M' g1
        refine ⟨Nat.le_refl _, ?_⟩
        show 8 + (M'.maxl + 11) + 40 * d ≤ 40 * (d + 1)
        omega
      have hV : x_CV l (headSpec (x_ws M) (x_rm (d + 1) bc bs)).room s (av.map (x_rv ad)).toArray M (x_run sc MM d) D cO En b0 := by
        intro ix mj2 n ci bc2 bs2 hcal
        obtain ⟨M', cq, g1, g0, g2, g3, g4, g5, g6, g7, g8⟩ := hTc.1 ix mj2 n ci bc2 bs2 hcal
        obtain ⟨-, -, -, -, k5, k6, k7⟩ := hMM mj2 M' g1
        refine ⟨M'.nam, M'.cod, M'.maxl, M'.ret, x_ws M', x_rm d bc2 bs2, cq, g2, cwV n hts (hGood _ ?_) (ws' := x_T) (by simp only [x_ws, x_kw, g0]) rfl rfl ⟨g3, k6.1, k6.2, g8⟩ (hroom mj2 M' bc2 bs2 g1), fun ad2 X2 av2 Qm sz2 hs2 hr => ih mj2 M' g1 ad2 X2 av2 bc2 bs2 sz2 Qm hs2 hr⟩
        intro w hw
        rcases List.mem_append.mp hw with hw | hw
        · simp only [List.mem_cons, List.not_mem_nil, or_false] at hw
          rcases hw with rfl | rfl | rfl | rfl
          · exact g4
          · exact g5
          · exact g6
          · exact g7
        · exact hwsT mj2 M' g1 w hw
      have hCS : x_CS l (headSpec (x_ws M) (x_rm (d + 1) bc bs)).room s (av.map (x_rv ad)).toArray M (x_run sc MM d) D cO En b0 := by
        intro ix mj2 n k bc2 bs2 hcal
        obtain ⟨M', g1, g4, g5, g6, g8⟩ := hTc.2.1 ix mj2 n k bc2 bs2 hcal
        obtain ⟨-, -, -, -, k5, k6, k7⟩ := hMM mj2 M' g1
        refine ⟨M'.nam, M'.cod, M'.maxl, M'.ret, x_ws M', x_rm d bc2 bs2, ?_, fun ad2 X2 av2 Qm sz2 hs2 hno hr => x_toMet (ih mj2 M' g1 ad2 X2 av2 bc2 bs2 sz2 Qm hs2 hr) (fun E st t hq => by obtain ⟨⟨Y, ad', h1, -⟩, -⟩ := hq; exact hno E Y h1)⟩
        rcases g4 with ⟨rfl, g4⟩ | ⟨g0, host, g4⟩
        · have hin : ∀ w ∈ va_wsS M.own ix M'.nam (x_ws M'), w ∈ x_T := by
            intro w hw
            rcases List.mem_append.mp hw with hw | hw
            · simp only [List.mem_cons, List.not_mem_nil, or_false] at hw
              rcases hw with rfl | rfl | rfl
              · exact g4
              · exact g5
              · exact g6
            · exact hwsT mj2 M' g1 w hw
          cases hh : M'.hnd with
          | nil => exact Or.inl (va_cwS n hts (hGood _ hin) (ws' := x_T) (by simp only [x_ws, x_kw, hh]) rfl rfl ⟨k6.1, k6.2, g8⟩ (hroom mj2 M' bc2 bs2 g1))
          | cons h9 r9 => exact Or.inr (Or.inr ⟨h9 :: r9, vx_cwSW n hts (hGood _ hin) (ws' := x_T) (by simp only [x_ws, x_kw, hh]) rfl rfl ⟨k6.1, k6.2, g8⟩ (hroom mj2 M' bc2 bs2 g1)⟩)
        · exact Or.inr (Or.inl ⟨host, va_cnB n hts (hGood _ (hwsT mj2 M' g1)) (ws' := x_T) (by simp only [x_ws, x_kw, g0]) rfl rfl (g4 A s _ hE) (hts _ g6) ⟨k6.1, k6.2, g8⟩ (hroom mj2 M' bc2 bs2 g1), hts _ g5, trivial⟩)
      have hI : x_CI l (headSpec (x_ws M) (x_rm (d + 1) bc bs)).room s (av.map (x_rv ad)).toArray M (x_run sc MM d) D cO En b0 := by
        intro ix mj2 n bc2 bs2 hspc
        obtain ⟨M', g1, g0, g2, g3, g4, g5, g6, g8⟩ := hTc.2.2 ix mj2 n bc2 bs2 hspc
        obtain ⟨-, -, -, -, k5, k6, k7⟩ := hMM mj2 M' g1
        exact ⟨M'.nam, M'.cod, M'.maxl, x_ws M', x_rm d bc2 bs2, cwI n hts (hGood _ (hwsT mj2 M' g1)) (ws' := x_T) (by simp only [x_ws, x_kw, g0, g2]) rfl rfl (hts _ g6) (hts _ g4) (hts _ g5) g3 ⟨k6.1, k6.2, g8⟩ (hroom mj2 M' bc2 bs2 g1), fun ad2 X2 av2 Qm sz2 hs2 hno hr => x_toMet (ih mj2 M' g1 ad2 X2 av2 bc2 bs2 sz2 Qm hs2 hr) (fun E st t hq => by obtain ⟨⟨Y, ad', h1, -⟩, -⟩ := hq; exact hno E Y h1)⟩
      have hlocks : meth.locks = false := B.notSynchronized
      have hZ : x_Ends p l e (headSpec (x_ws M) (x_rm (d + 1) bc bs)).room s m (av.map (x_rv ad)).toArray below meth c (vx_MQ below (x_Post D cO ad X s.heap.size bc Q) (x_PostX D cO ad X s.heap.size bc Q) (av.map (x_rv ad)).toArray s bc bs A) M Q D cO A X ad bc bs := by
        intro v pc L Y hQ hv ad' H locs cells slots ls' hR
        obtain ⟨h1, h2, h3, h4, h5, h6, h7⟩ := hR
        have hpost : ∀ t : State, t.heap = H → s.WarmedH t.vm → x_Post D cO ad X s.heap.size bc Q (av.map (x_rv ad)).toArray s (.returned (v.map (x_rv ad'))) t := by
          intro t ht hWt
          refine ⟨⟨v, Y, ad', rfl, hQ, h7, ?_, va_K.moved hWt.alike hK, ?_⟩, ?_⟩
          · rw [ht]; exact h3
          · rw [hAe]; exact h4
          · rw [hAe]; exact h5.F ht
        have hr := B.returns
        refine W.widen (k := bc) (n := bs) (by omega) (by omega) (vx_ret ?_)
        rcases hv with ⟨x, rfl, hd, hx⟩ | ⟨x, rfl, hd, hx⟩ | ⟨rfl, hd, hx⟩
        · unfold x_ret at hx
          split at hx
          · rename_i ty hty
            exact W.zret B.exec B.bytes (hr.trans hty) hx hpost h5.2.2 hd hlocks
          · exact hx.elim
        · exact W.lret B.exec B.bytes (hr.trans hx) hpost h5.2.2 hd hlocks
        · exact W.vret B.exec B.bytes (hr.trans hx) hpost h5.2.2 hd hlocks
      have hHX := hHd mj M hM p e (headSpec (x_ws M) (x_rm (d + 1) bc bs)).room s m (av.map (x_rv ad)).toArray below meth c (vx_MQ below (x_Post D cO ad X s.heap.size bc Q) (x_PostX D cO ad X s.heap.size bc Q) (av.map (x_rv ad)).toArray s bc bs A) B.exec hown hts hnt (by
          have h9 := hts0 _ List.mem_cons_self
          unfold x_kw at h9
          split at h9
          · exact Or.inr (by assumption)
          · rename_i h8 r8 he
            rw [he]; exact Or.inl h9) (fun hh h9 => vx_table (x := M.nam) B h9)
      have hZX : x_EndX p l e (headSpec (x_ws M) (x_rm (d + 1) bc bs)).room s m (av.map (x_rv ad)).toArray below meth c (vx_MQ below (x_Post D cO ad X s.heap.size bc Q) (x_PostX D cO ad X s.heap.size bc Q) (av.map (x_rv ad)).toArray s bc bs A) M Q D cO A X ad bc bs := by
        intro E pc L st Y hex hQ ad' H locs cells slots ls' q ce hR c1 c2 c3
        obtain ⟨h1, h2, h3, h4, h5, h6, h7⟩ := hR
        refine vx_out (hHX.2 pc E hex) hlocks c1 c2 c3 (fun t ht hWt => ⟨⟨Y, ad', hQ, h7, ?_, va_K.moved hWt hK, ?_⟩, ?_⟩) h5.2.2 (by omega) (by omega)
        · rw [ht]; exact h3
        · rw [hAe]; exact h4
        · rw [hAe]; exact h5.F ht
      have hThr : x_Thr p l e (headSpec (x_ws M) (x_rm (d + 1) bc bs)).room s m (av.map (x_rv ad)).toArray below meth c (vx_MQ below (x_Post D cO ad X s.heap.size bc Q) (x_PostX D cO ad X s.heap.size bc Q) (av.map (x_rv ad)).toArray s bc bs A) M Q D cO A X ad bc bs := by
        rcases hTh mj M hM with h9 | ⟨h8, h9⟩
        · intro pc ix len tg E L st Y _ h3
          rw [h9 ix] at h3
          cases h3
        · exact h9 D cO p e _ s m _ below meth c ad X A bc bs Q hAe hx hlocks (hnt h8)
      have hPP := hW (x_P p l e (headSpec (x_ws M) (x_rm (d + 1) bc bs)).room s m (av.map (x_rv ad)).toArray below meth c (vx_MQ below (x_Post D cO ad X s.heap.size bc Q) (x_PostX D cO ad X s.heap.size bc Q) (av.map (x_rv ad)).toArray s bc bs A) D cO A M.maxl X ad bc bs) (x_snd hEn hG hTb hx hsp (hScr A s _ hE) hV hCS hI hZ hZX hHX.1 hThr)
      exact hPP ad s.heap [] 0 0 ls ⟨by show 0 + bc ≤ bc; omega, by show 0 + bs ≤ bs; omega, hP, hD, hS, hlv, ⟨Nat.le_refl _, ⟨fun _ _ => rfl, rfl⟩, fun _ => rfl⟩⟩
    cases hh : M.hnd with
    | nil =>
      refine vx_ofW (cc := M.cod) (maxL := M.maxl) (ret := M.ret) (ws' := x_T) hpn (by simp only [x_ws, x_kw, hh]) ?_
      intro p e s m args below meth c s₁ B hml hnt hv
      exact body p e s m args below meth c s₁ B hml (fun _ => hnt) hv
    | cons h9 r9 =>
      refine vx_ofWH (cc := M.cod) (maxL := M.maxl) (ret := M.ret) (hh := h9 :: r9) (ws' := x_T) hpn (by simp only [x_ws, x_kw, hh]) ?_
      intro p e s m args below meth c s₁ B hml hv
      exact body p e s m args below meth c s₁ B hml (fun h => by rw [hh] at h; cases h) hv
end
