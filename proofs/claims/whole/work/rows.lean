section
-- ===== PART A: goes FIRST, ahead of the names: the tables' words, and 'selects' of the private methods out of them =====
/-- a private method of a class that the tables say can be made, by its rows of tables_1 -/
def lw_okq (q : MethodName × Nat) : Prop := (q.1.cls ≠ "java/lang/invoke/MethodHandle" ∧ q.1.cls ≠ "java/lang/invoke/VarHandle") ∧ Cond.instantiable q.1.cls q.2 ∈ tables_1 ∧ Cond.privateMethod q.1 ∈ tables_1 ∧ Cond.instanceMethod q.1 ∈ tables_1
theorem lw_p0 : lw_okq (⟨"HumanSteps$Grid", "layLines", "()V"⟩, 9) := ⟨⟨by decide +kernel, by decide +kernel⟩, List.mem_of_getElem? (i := 36) (by decide +kernel), List.mem_of_getElem? (i := 42) (by decide +kernel), List.mem_of_getElem? (i := 43) (by decide +kernel)⟩
theorem lw_p1 : lw_okq (⟨"HumanSteps$Grid", "lay", "(IIII)V"⟩, 9) := ⟨⟨by decide +kernel, by decide +kernel⟩, List.mem_of_getElem? (i := 36) (by decide +kernel), List.mem_of_getElem? (i := 46) (by decide +kernel), List.mem_of_getElem? (i := 47) (by decide +kernel)⟩
theorem lw_p2 : lw_okq (⟨"HumanSteps$Grid", "layBoxes", "(II)V"⟩, 9) := ⟨⟨by decide +kernel, by decide +kernel⟩, List.mem_of_getElem? (i := 36) (by decide +kernel), List.mem_of_getElem? (i := 50) (by decide +kernel), List.mem_of_getElem? (i := 51) (by decide +kernel)⟩
theorem lw_p3 : lw_okq (⟨"HumanSteps$Grid", "fill", "()V"⟩, 9) := ⟨⟨by decide +kernel, by decide +kernel⟩, List.mem_of_getElem? (i := 36) (by decide +kernel), List.mem_of_getElem? (i := 54) (by decide +kernel), List.mem_of_getElem? (i := 55) (by decide +kernel)⟩
theorem lw_p4 : lw_okq (⟨"HumanSteps$Sets", "gather", "(III)V"⟩, 4) := ⟨⟨by decide +kernel, by decide +kernel⟩, List.mem_of_getElem? (i := 137) (by decide +kernel), List.mem_of_getElem? (i := 143) (by decide +kernel), List.mem_of_getElem? (i := 144) (by decide +kernel)⟩
theorem lw_p5 : lw_okq (⟨"HumanSteps$Seeker", "last", "()Z"⟩, 6) := ⟨⟨by decide +kernel, by decide +kernel⟩, List.mem_of_getElem? (i := 30) (by decide +kernel), List.mem_of_getElem? (i := 259) (by decide +kernel), List.mem_of_getElem? (i := 260) (by decide +kernel)⟩
theorem lw_p6 : lw_okq (⟨"HumanSteps$Seeker", "onlyPlace", "(I)Z"⟩, 6) := ⟨⟨by decide +kernel, by decide +kernel⟩, List.mem_of_getElem? (i := 30) (by decide +kernel), List.mem_of_getElem? (i := 293) (by decide +kernel), List.mem_of_getElem? (i := 294) (by decide +kernel)⟩
theorem lw_p7 : lw_okq (⟨"HumanSteps$Seeker", "isOpenIn", "(II)Z"⟩, 6) := ⟨⟨by decide +kernel, by decide +kernel⟩, List.mem_of_getElem? (i := 30) (by decide +kernel), List.mem_of_getElem? (i := 301) (by decide +kernel), List.mem_of_getElem? (i := 302) (by decide +kernel)⟩
theorem lw_p8 : lw_okq (⟨"HumanSteps$Seeker", "becauseOf", "(II)V"⟩, 6) := ⟨⟨by decide +kernel, by decide +kernel⟩, List.mem_of_getElem? (i := 30) (by decide +kernel), List.mem_of_getElem? (i := 309) (by decide +kernel), List.mem_of_getElem? (i := 310) (by decide +kernel)⟩
theorem lw_p9 : lw_okq (⟨"HumanSteps$Seeker", "pointing", "()Z"⟩, 6) := ⟨⟨by decide +kernel, by decide +kernel⟩, List.mem_of_getElem? (i := 30) (by decide +kernel), List.mem_of_getElem? (i := 313) (by decide +kernel), List.mem_of_getElem? (i := 314) (by decide +kernel)⟩
theorem lw_p10 : lw_okq (⟨"HumanSteps$Seeker", "confined", "(III)Z"⟩, 6) := ⟨⟨by decide +kernel, by decide +kernel⟩, List.mem_of_getElem? (i := 30) (by decide +kernel), List.mem_of_getElem? (i := 317) (by decide +kernel), List.mem_of_getElem? (i := 318) (by decide +kernel)⟩
theorem lw_p11 : lw_okq (⟨"HumanSteps$Seeker", "sharedHouse", "(III)I"⟩, 6) := ⟨⟨by decide +kernel, by decide +kernel⟩, List.mem_of_getElem? (i := 30) (by decide +kernel), List.mem_of_getElem? (i := 321) (by decide +kernel), List.mem_of_getElem? (i := 322) (by decide +kernel)⟩
theorem lw_p12 : lw_okq (⟨"HumanSteps$Seeker", "takesSome", "()Z"⟩, 6) := ⟨⟨by decide +kernel, by decide +kernel⟩, List.mem_of_getElem? (i := 30) (by decide +kernel), List.mem_of_getElem? (i := 334) (by decide +kernel), List.mem_of_getElem? (i := 335) (by decide +kernel)⟩
theorem lw_p13 : lw_okq (⟨"HumanSteps$Seeker", "claiming", "()Z"⟩, 6) := ⟨⟨by decide +kernel, by decide +kernel⟩, List.mem_of_getElem? (i := 30) (by decide +kernel), List.mem_of_getElem? (i := 338) (by decide +kernel), List.mem_of_getElem? (i := 339) (by decide +kernel)⟩
theorem lw_p14 : lw_okq (⟨"HumanSteps$Seeker", "nakedSet", "(I)Z"⟩, 6) := ⟨⟨by decide +kernel, by decide +kernel⟩, List.mem_of_getElem? (i := 30) (by decide +kernel), List.mem_of_getElem? (i := 342) (by decide +kernel), List.mem_of_getElem? (i := 343) (by decide +kernel)⟩
theorem lw_p15 : lw_okq (⟨"HumanSteps$Seeker", "fitItems", "(I)I"⟩, 6) := ⟨⟨by decide +kernel, by decide +kernel⟩, List.mem_of_getElem? (i := 30) (by decide +kernel), List.mem_of_getElem? (i := 346) (by decide +kernel), List.mem_of_getElem? (i := 347) (by decide +kernel)⟩
def lw_privs_1 : List (MethodName × Nat) := [(⟨"HumanSteps$Grid", "layLines", "()V"⟩, 9), (⟨"HumanSteps$Grid", "lay", "(IIII)V"⟩, 9), (⟨"HumanSteps$Grid", "layBoxes", "(II)V"⟩, 9), (⟨"HumanSteps$Grid", "fill", "()V"⟩, 9), (⟨"HumanSteps$Sets", "gather", "(III)V"⟩, 4), (⟨"HumanSteps$Seeker", "last", "()Z"⟩, 6), (⟨"HumanSteps$Seeker", "onlyPlace", "(I)Z"⟩, 6), (⟨"HumanSteps$Seeker", "isOpenIn", "(II)Z"⟩, 6), (⟨"HumanSteps$Seeker", "becauseOf", "(II)V"⟩, 6), (⟨"HumanSteps$Seeker", "pointing", "()Z"⟩, 6), (⟨"HumanSteps$Seeker", "confined", "(III)Z"⟩, 6), (⟨"HumanSteps$Seeker", "sharedHouse", "(III)I"⟩, 6), (⟨"HumanSteps$Seeker", "takesSome", "()Z"⟩, 6), (⟨"HumanSteps$Seeker", "claiming", "()Z"⟩, 6), (⟨"HumanSteps$Seeker", "nakedSet", "(I)Z"⟩, 6), (⟨"HumanSteps$Seeker", "fitItems", "(I)I"⟩, 6)]
theorem lw_r1 : ∀ q ∈ lw_privs_1, lw_okq q := List.forall_mem_cons.mpr ⟨lw_p0, List.forall_mem_cons.mpr ⟨lw_p1, List.forall_mem_cons.mpr ⟨lw_p2, List.forall_mem_cons.mpr ⟨lw_p3, List.forall_mem_cons.mpr ⟨lw_p4, List.forall_mem_cons.mpr ⟨lw_p5, List.forall_mem_cons.mpr ⟨lw_p6, List.forall_mem_cons.mpr ⟨lw_p7, List.forall_mem_cons.mpr ⟨lw_p8, List.forall_mem_cons.mpr ⟨lw_p9, List.forall_mem_cons.mpr ⟨lw_p10, List.forall_mem_cons.mpr ⟨lw_p11, List.forall_mem_cons.mpr ⟨lw_p12, List.forall_mem_cons.mpr ⟨lw_p13, List.forall_mem_cons.mpr ⟨lw_p14, List.forall_mem_cons.mpr ⟨lw_p15, fun _ h => absurd h List.not_mem_nil⟩⟩⟩⟩⟩⟩⟩⟩⟩⟩⟩⟩⟩⟩⟩⟩
theorem lw_p16 : lw_okq (⟨"HumanSteps$Seeker", "isCovered", "(III)Z"⟩, 6) := ⟨⟨by decide +kernel, by decide +kernel⟩, List.mem_of_getElem? (i := 30) (by decide +kernel), List.mem_of_getElem? (i := 362) (by decide +kernel), List.mem_of_getElem? (i := 363) (by decide +kernel)⟩
theorem lw_p17 : lw_okq (⟨"HumanSteps$Seeker", "unionOf", "(I)I"⟩, 6) := ⟨⟨by decide +kernel, by decide +kernel⟩, List.mem_of_getElem? (i := 30) (by decide +kernel), List.mem_of_getElem? (i := 366) (by decide +kernel), List.mem_of_getElem? (i := 367) (by decide +kernel)⟩
theorem lw_p18 : lw_okq (⟨"HumanSteps$Seeker", "strikePlaces", "(III)V"⟩, 6) := ⟨⟨by decide +kernel, by decide +kernel⟩, List.mem_of_getElem? (i := 30) (by decide +kernel), List.mem_of_getElem? (i := 370) (by decide +kernel), List.mem_of_getElem? (i := 371) (by decide +kernel)⟩
theorem lw_p19 : lw_okq (⟨"HumanSteps$Seeker", "hiddenSet", "(I)Z"⟩, 6) := ⟨⟨by decide +kernel, by decide +kernel⟩, List.mem_of_getElem? (i := 30) (by decide +kernel), List.mem_of_getElem? (i := 374) (by decide +kernel), List.mem_of_getElem? (i := 375) (by decide +kernel)⟩
theorem lw_p20 : lw_okq (⟨"HumanSteps$Seeker", "crossing", "(II)Z"⟩, 6) := ⟨⟨by decide +kernel, by decide +kernel⟩, List.mem_of_getElem? (i := 30) (by decide +kernel), List.mem_of_getElem? (i := 378) (by decide +kernel), List.mem_of_getElem? (i := 379) (by decide +kernel)⟩
theorem lw_p21 : lw_okq (⟨"HumanSteps$Seeker", "crossingAt", "(III)Z"⟩, 6) := ⟨⟨by decide +kernel, by decide +kernel⟩, List.mem_of_getElem? (i := 30) (by decide +kernel), List.mem_of_getElem? (i := 382) (by decide +kernel), List.mem_of_getElem? (i := 383) (by decide +kernel)⟩
theorem lw_p22 : lw_okq (⟨"HumanSteps$Seeker", "wing", "(I)Z"⟩, 6) := ⟨⟨by decide +kernel, by decide +kernel⟩, List.mem_of_getElem? (i := 30) (by decide +kernel), List.mem_of_getElem? (i := 386) (by decide +kernel), List.mem_of_getElem? (i := 387) (by decide +kernel)⟩
theorem lw_p23 : lw_okq (⟨"HumanSteps$Seeker", "isWingtip", "(II)Z"⟩, 6) := ⟨⟨by decide +kernel, by decide +kernel⟩, List.mem_of_getElem? (i := 30) (by decide +kernel), List.mem_of_getElem? (i := 390) (by decide +kernel), List.mem_of_getElem? (i := 391) (by decide +kernel)⟩
theorem lw_p24 : lw_okq (⟨"HumanSteps$Seeker", "wingAt", "(IIII)Z"⟩, 6) := ⟨⟨by decide +kernel, by decide +kernel⟩, List.mem_of_getElem? (i := 30) (by decide +kernel), List.mem_of_getElem? (i := 394) (by decide +kernel), List.mem_of_getElem? (i := 395) (by decide +kernel)⟩
theorem lw_p25 : lw_okq (⟨"HumanSteps$Colours", "join", "(LHumanSteps$Grid;II)V"⟩, 3) := ⟨⟨by decide +kernel, by decide +kernel⟩, List.mem_of_getElem? (i := 160) (by decide +kernel), List.mem_of_getElem? (i := 402) (by decide +kernel), List.mem_of_getElem? (i := 403) (by decide +kernel)⟩
theorem lw_p26 : lw_okq (⟨"HumanSteps$Colours", "colour", "(II)V"⟩, 3) := ⟨⟨by decide +kernel, by decide +kernel⟩, List.mem_of_getElem? (i := 160) (by decide +kernel), List.mem_of_getElem? (i := 406) (by decide +kernel), List.mem_of_getElem? (i := 407) (by decide +kernel)⟩
theorem lw_p27 : lw_okq (⟨"HumanSteps$Colours", "linkedCell", "(LHumanSteps$Grid;III)I"⟩, 3) := ⟨⟨by decide +kernel, by decide +kernel⟩, List.mem_of_getElem? (i := 160) (by decide +kernel), List.mem_of_getElem? (i := 410) (by decide +kernel), List.mem_of_getElem? (i := 411) (by decide +kernel)⟩
theorem lw_p28 : lw_okq (⟨"HumanSteps$Colours", "takes", "(LHumanSteps$Grid;LHumanSteps$Finding;I)Z"⟩, 3) := ⟨⟨by decide +kernel, by decide +kernel⟩, List.mem_of_getElem? (i := 160) (by decide +kernel), List.mem_of_getElem? (i := 419) (by decide +kernel), List.mem_of_getElem? (i := 420) (by decide +kernel)⟩
theorem lw_p29 : lw_okq (⟨"HumanSteps$Colours", "clash", "(LHumanSteps$Grid;I)Z"⟩, 3) := ⟨⟨by decide +kernel, by decide +kernel⟩, List.mem_of_getElem? (i := 160) (by decide +kernel), List.mem_of_getElem? (i := 423) (by decide +kernel), List.mem_of_getElem? (i := 424) (by decide +kernel)⟩
theorem lw_p30 : lw_okq (⟨"HumanSteps$Colours", "strikeColour", "(LHumanSteps$Finding;II)V"⟩, 3) := ⟨⟨by decide +kernel, by decide +kernel⟩, List.mem_of_getElem? (i := 160) (by decide +kernel), List.mem_of_getElem? (i := 428) (by decide +kernel), List.mem_of_getElem? (i := 429) (by decide +kernel)⟩
theorem lw_p31 : lw_okq (⟨"HumanSteps$Colours", "strikeOthers", "(LHumanSteps$Grid;LHumanSteps$Finding;I)V"⟩, 3) := ⟨⟨by decide +kernel, by decide +kernel⟩, List.mem_of_getElem? (i := 160) (by decide +kernel), List.mem_of_getElem? (i := 433) (by decide +kernel), List.mem_of_getElem? (i := 434) (by decide +kernel)⟩
def lw_privs_2 : List (MethodName × Nat) := [(⟨"HumanSteps$Seeker", "isCovered", "(III)Z"⟩, 6), (⟨"HumanSteps$Seeker", "unionOf", "(I)I"⟩, 6), (⟨"HumanSteps$Seeker", "strikePlaces", "(III)V"⟩, 6), (⟨"HumanSteps$Seeker", "hiddenSet", "(I)Z"⟩, 6), (⟨"HumanSteps$Seeker", "crossing", "(II)Z"⟩, 6), (⟨"HumanSteps$Seeker", "crossingAt", "(III)Z"⟩, 6), (⟨"HumanSteps$Seeker", "wing", "(I)Z"⟩, 6), (⟨"HumanSteps$Seeker", "isWingtip", "(II)Z"⟩, 6), (⟨"HumanSteps$Seeker", "wingAt", "(IIII)Z"⟩, 6), (⟨"HumanSteps$Colours", "join", "(LHumanSteps$Grid;II)V"⟩, 3), (⟨"HumanSteps$Colours", "colour", "(II)V"⟩, 3), (⟨"HumanSteps$Colours", "linkedCell", "(LHumanSteps$Grid;III)I"⟩, 3), (⟨"HumanSteps$Colours", "takes", "(LHumanSteps$Grid;LHumanSteps$Finding;I)Z"⟩, 3), (⟨"HumanSteps$Colours", "clash", "(LHumanSteps$Grid;I)Z"⟩, 3), (⟨"HumanSteps$Colours", "strikeColour", "(LHumanSteps$Finding;II)V"⟩, 3), (⟨"HumanSteps$Colours", "strikeOthers", "(LHumanSteps$Grid;LHumanSteps$Finding;I)V"⟩, 3)]
theorem lw_r2 : ∀ q ∈ lw_privs_2, lw_okq q := List.forall_mem_cons.mpr ⟨lw_p16, List.forall_mem_cons.mpr ⟨lw_p17, List.forall_mem_cons.mpr ⟨lw_p18, List.forall_mem_cons.mpr ⟨lw_p19, List.forall_mem_cons.mpr ⟨lw_p20, List.forall_mem_cons.mpr ⟨lw_p21, List.forall_mem_cons.mpr ⟨lw_p22, List.forall_mem_cons.mpr ⟨lw_p23, List.forall_mem_cons.mpr ⟨lw_p24, List.forall_mem_cons.mpr ⟨lw_p25, List.forall_mem_cons.mpr ⟨lw_p26, List.forall_mem_cons.mpr ⟨lw_p27, List.forall_mem_cons.mpr ⟨lw_p28, List.forall_mem_cons.mpr ⟨lw_p29, List.forall_mem_cons.mpr ⟨lw_p30, List.forall_mem_cons.mpr ⟨lw_p31, fun _ h => absurd h List.not_mem_nil⟩⟩⟩⟩⟩⟩⟩⟩⟩⟩⟩⟩⟩⟩⟩⟩
theorem lw_p32 : lw_okq (⟨"HumanSteps$Colours", "leaveBehind", "()V"⟩, 3) := ⟨⟨by decide +kernel, by decide +kernel⟩, List.mem_of_getElem? (i := 160) (by decide +kernel), List.mem_of_getElem? (i := 438) (by decide +kernel), List.mem_of_getElem? (i := 439) (by decide +kernel)⟩
theorem lw_p33 : lw_okq (⟨"HumanSteps$Seeker", "onlyOneAnswer", "()Z"⟩, 6) := ⟨⟨by decide +kernel, by decide +kernel⟩, List.mem_of_getElem? (i := 30) (by decide +kernel), List.mem_of_getElem? (i := 442) (by decide +kernel), List.mem_of_getElem? (i := 443) (by decide +kernel)⟩
theorem lw_p34 : lw_okq (⟨"HumanSteps$Seeker", "rectangleAt", "(IIII)Z"⟩, 6) := ⟨⟨by decide +kernel, by decide +kernel⟩, List.mem_of_getElem? (i := 30) (by decide +kernel), List.mem_of_getElem? (i := 446) (by decide +kernel), List.mem_of_getElem? (i := 447) (by decide +kernel)⟩
theorem lw_p35 : lw_okq (⟨"HumanSteps$Seeker", "isInTwoBoxes", "(III)Z"⟩, 6) := ⟨⟨by decide +kernel, by decide +kernel⟩, List.mem_of_getElem? (i := 30) (by decide +kernel), List.mem_of_getElem? (i := 450) (by decide +kernel), List.mem_of_getElem? (i := 451) (by decide +kernel)⟩
theorem lw_p36 : lw_okq (⟨"HumanSteps$Seeker", "fourth", "(IIII)Z"⟩, 6) := ⟨⟨by decide +kernel, by decide +kernel⟩, List.mem_of_getElem? (i := 30) (by decide +kernel), List.mem_of_getElem? (i := 454) (by decide +kernel), List.mem_of_getElem? (i := 455) (by decide +kernel)⟩
theorem lw_p37 : lw_okq (⟨"HumanSteps", "performFound", "()V"⟩, 6) := ⟨⟨by decide +kernel, by decide +kernel⟩, List.mem_of_getElem? (i := 22) (by decide +kernel), List.mem_of_getElem? (i := 482) (by decide +kernel), List.mem_of_getElem? (i := 483) (by decide +kernel)⟩
theorem lw_p38 : lw_okq (⟨"HumanSteps", "carryOut", "()V"⟩, 6) := ⟨⟨by decide +kernel, by decide +kernel⟩, List.mem_of_getElem? (i := 22) (by decide +kernel), List.mem_of_getElem? (i := 486) (by decide +kernel), List.mem_of_getElem? (i := 487) (by decide +kernel)⟩
theorem lw_p39 : lw_okq (⟨"HumanSteps", "allTimes", "()I"⟩, 6) := ⟨⟨by decide +kernel, by decide +kernel⟩, List.mem_of_getElem? (i := 22) (by decide +kernel), List.mem_of_getElem? (i := 540) (by decide +kernel), List.mem_of_getElem? (i := 541) (by decide +kernel)⟩
theorem lw_p40 : lw_okq (⟨"HumanSteps", "letterOfCell", "(II)I"⟩, 6) := ⟨⟨by decide +kernel, by decide +kernel⟩, List.mem_of_getElem? (i := 22) (by decide +kernel), List.mem_of_getElem? (i := 598) (by decide +kernel), List.mem_of_getElem? (i := 599) (by decide +kernel)⟩
theorem lw_p41 : lw_okq (⟨"HumanSteps", "checkCell", "(I)V"⟩, 6) := ⟨⟨by decide +kernel, by decide +kernel⟩, List.mem_of_getElem? (i := 22) (by decide +kernel), List.mem_of_getElem? (i := 622) (by decide +kernel), List.mem_of_getElem? (i := 623) (by decide +kernel)⟩
theorem lw_p42 : lw_okq (⟨"java/lang/Throwable", "fillInStackTrace", "(I)Ljava/lang/Throwable;"⟩, 6) := ⟨⟨by decide +kernel, by decide +kernel⟩, List.mem_of_getElem? (i := 665) (by decide +kernel), List.mem_of_getElem? (i := 663) (by decide +kernel), List.mem_of_getElem? (i := 664) (by decide +kernel)⟩
theorem lw_p43 : lw_okq (⟨"HumanSteps", "checkSymbol", "(I)V"⟩, 6) := ⟨⟨by decide +kernel, by decide +kernel⟩, List.mem_of_getElem? (i := 22) (by decide +kernel), List.mem_of_getElem? (i := 698) (by decide +kernel), List.mem_of_getElem? (i := 699) (by decide +kernel)⟩
theorem lw_p44 : lw_okq (⟨"HumanSteps", "isOpenCandidate", "(II)Z"⟩, 6) := ⟨⟨by decide +kernel, by decide +kernel⟩, List.mem_of_getElem? (i := 22) (by decide +kernel), List.mem_of_getElem? (i := 718) (by decide +kernel), List.mem_of_getElem? (i := 719) (by decide +kernel)⟩
theorem lw_p45 : lw_okq (⟨"HumanSteps", "forgetSteps", "()V"⟩, 6) := ⟨⟨by decide +kernel, by decide +kernel⟩, List.mem_of_getElem? (i := 22) (by decide +kernel), List.mem_of_getElem? (i := 724) (by decide +kernel), List.mem_of_getElem? (i := 725) (by decide +kernel)⟩
theorem lw_p46 : lw_okq (⟨"HumanSteps", "checkStep", "(I)V"⟩, 6) := ⟨⟨by decide +kernel, by decide +kernel⟩, List.mem_of_getElem? (i := 22) (by decide +kernel), List.mem_of_getElem? (i := 746) (by decide +kernel), List.mem_of_getElem? (i := 747) (by decide +kernel)⟩
theorem lw_p47 : lw_okq (⟨"HumanStepsModel", "cells", "()I"⟩, 23) := ⟨⟨by decide +kernel, by decide +kernel⟩, List.mem_of_getElem? (i := 772) (by decide +kernel), List.mem_of_getElem? (i := 779) (by decide +kernel), List.mem_of_getElem? (i := 780) (by decide +kernel)⟩
def lw_privs_3 : List (MethodName × Nat) := [(⟨"HumanSteps$Colours", "leaveBehind", "()V"⟩, 3), (⟨"HumanSteps$Seeker", "onlyOneAnswer", "()Z"⟩, 6), (⟨"HumanSteps$Seeker", "rectangleAt", "(IIII)Z"⟩, 6), (⟨"HumanSteps$Seeker", "isInTwoBoxes", "(III)Z"⟩, 6), (⟨"HumanSteps$Seeker", "fourth", "(IIII)Z"⟩, 6), (⟨"HumanSteps", "performFound", "()V"⟩, 6), (⟨"HumanSteps", "carryOut", "()V"⟩, 6), (⟨"HumanSteps", "allTimes", "()I"⟩, 6), (⟨"HumanSteps", "letterOfCell", "(II)I"⟩, 6), (⟨"HumanSteps", "checkCell", "(I)V"⟩, 6), (⟨"java/lang/Throwable", "fillInStackTrace", "(I)Ljava/lang/Throwable;"⟩, 6), (⟨"HumanSteps", "checkSymbol", "(I)V"⟩, 6), (⟨"HumanSteps", "isOpenCandidate", "(II)Z"⟩, 6), (⟨"HumanSteps", "forgetSteps", "()V"⟩, 6), (⟨"HumanSteps", "checkStep", "(I)V"⟩, 6), (⟨"HumanStepsModel", "cells", "()I"⟩, 23)]
theorem lw_r3 : ∀ q ∈ lw_privs_3, lw_okq q := List.forall_mem_cons.mpr ⟨lw_p32, List.forall_mem_cons.mpr ⟨lw_p33, List.forall_mem_cons.mpr ⟨lw_p34, List.forall_mem_cons.mpr ⟨lw_p35, List.forall_mem_cons.mpr ⟨lw_p36, List.forall_mem_cons.mpr ⟨lw_p37, List.forall_mem_cons.mpr ⟨lw_p38, List.forall_mem_cons.mpr ⟨lw_p39, List.forall_mem_cons.mpr ⟨lw_p40, List.forall_mem_cons.mpr ⟨lw_p41, List.forall_mem_cons.mpr ⟨lw_p42, List.forall_mem_cons.mpr ⟨lw_p43, List.forall_mem_cons.mpr ⟨lw_p44, List.forall_mem_cons.mpr ⟨lw_p45, List.forall_mem_cons.mpr ⟨lw_p46, List.forall_mem_cons.mpr ⟨lw_p47, fun _ h => absurd h List.not_mem_nil⟩⟩⟩⟩⟩⟩⟩⟩⟩⟩⟩⟩⟩⟩⟩⟩
theorem lw_p48 : lw_okq (⟨"HumanStepsModel", "isCell", "(I)Z"⟩, 23) := ⟨⟨by decide +kernel, by decide +kernel⟩, List.mem_of_getElem? (i := 772) (by decide +kernel), List.mem_of_getElem? (i := 861) (by decide +kernel), List.mem_of_getElem? (i := 862) (by decide +kernel)⟩
theorem lw_p49 : lw_okq (⟨"HumanStepsModel", "fails", "(IZ)Z"⟩, 23) := ⟨⟨by decide +kernel, by decide +kernel⟩, List.mem_of_getElem? (i := 772) (by decide +kernel), List.mem_of_getElem? (i := 865) (by decide +kernel), List.mem_of_getElem? (i := 866) (by decide +kernel)⟩
theorem lw_p50 : lw_okq (⟨"HumanStepsModel", "isSymbol", "(I)Z"⟩, 23) := ⟨⟨by decide +kernel, by decide +kernel⟩, List.mem_of_getElem? (i := 772) (by decide +kernel), List.mem_of_getElem? (i := 869) (by decide +kernel), List.mem_of_getElem? (i := 870) (by decide +kernel)⟩
theorem lw_p51 : lw_okq (⟨"HumanStepsModel", "has", "(II)Z"⟩, 23) := ⟨⟨by decide +kernel, by decide +kernel⟩, List.mem_of_getElem? (i := 772) (by decide +kernel), List.mem_of_getElem? (i := 873) (by decide +kernel), List.mem_of_getElem? (i := 874) (by decide +kernel)⟩
theorem lw_p52 : lw_okq (⟨"HumanStepsModel", "put", "(II)V"⟩, 23) := ⟨⟨by decide +kernel, by decide +kernel⟩, List.mem_of_getElem? (i := 772) (by decide +kernel), List.mem_of_getElem? (i := 877) (by decide +kernel), List.mem_of_getElem? (i := 878) (by decide +kernel)⟩
theorem lw_p53 : lw_okq (⟨"HumanStepsModel", "sees", "(II)Z"⟩, 23) := ⟨⟨by decide +kernel, by decide +kernel⟩, List.mem_of_getElem? (i := 772) (by decide +kernel), List.mem_of_getElem? (i := 881) (by decide +kernel), List.mem_of_getElem? (i := 882) (by decide +kernel)⟩
theorem lw_p54 : lw_okq (⟨"HumanStepsModel", "boxOf", "(I)I"⟩, 23) := ⟨⟨by decide +kernel, by decide +kernel⟩, List.mem_of_getElem? (i := 772) (by decide +kernel), List.mem_of_getElem? (i := 885) (by decide +kernel), List.mem_of_getElem? (i := 886) (by decide +kernel)⟩
theorem lw_p55 : lw_okq (⟨"HumanStepsModel", "changed", "()V"⟩, 23) := ⟨⟨by decide +kernel, by decide +kernel⟩, List.mem_of_getElem? (i := 772) (by decide +kernel), List.mem_of_getElem? (i := 889) (by decide +kernel), List.mem_of_getElem? (i := 890) (by decide +kernel)⟩
theorem lw_p56 : lw_okq (⟨"HumanStepsModel", "search", "()I"⟩, 23) := ⟨⟨by decide +kernel, by decide +kernel⟩, List.mem_of_getElem? (i := 772) (by decide +kernel), List.mem_of_getElem? (i := 905) (by decide +kernel), List.mem_of_getElem? (i := 906) (by decide +kernel)⟩
theorem lw_p57 : lw_okq (⟨"HumanStepsModel", "isBroken", "()Z"⟩, 23) := ⟨⟨by decide +kernel, by decide +kernel⟩, List.mem_of_getElem? (i := 772) (by decide +kernel), List.mem_of_getElem? (i := 909) (by decide +kernel), List.mem_of_getElem? (i := 910) (by decide +kernel)⟩
theorem lw_p58 : lw_okq (⟨"HumanStepsModel", "places", "(II)I"⟩, 23) := ⟨⟨by decide +kernel, by decide +kernel⟩, List.mem_of_getElem? (i := 772) (by decide +kernel), List.mem_of_getElem? (i := 913) (by decide +kernel), List.mem_of_getElem? (i := 914) (by decide +kernel)⟩
theorem lw_p59 : lw_okq (⟨"HumanStepsModel", "at", "(II)I"⟩, 23) := ⟨⟨by decide +kernel, by decide +kernel⟩, List.mem_of_getElem? (i := 772) (by decide +kernel), List.mem_of_getElem? (i := 917) (by decide +kernel), List.mem_of_getElem? (i := 918) (by decide +kernel)⟩
theorem lw_p60 : lw_okq (⟨"HumanStepsModel", "look", "(I)Z"⟩, 23) := ⟨⟨by decide +kernel, by decide +kernel⟩, List.mem_of_getElem? (i := 772) (by decide +kernel), List.mem_of_getElem? (i := 921) (by decide +kernel), List.mem_of_getElem? (i := 922) (by decide +kernel)⟩
theorem lw_p61 : lw_okq (⟨"HumanStepsModel", "none", "()V"⟩, 23) := ⟨⟨by decide +kernel, by decide +kernel⟩, List.mem_of_getElem? (i := 772) (by decide +kernel), List.mem_of_getElem? (i := 925) (by decide +kernel), List.mem_of_getElem? (i := 926) (by decide +kernel)⟩
theorem lw_p62 : lw_okq (⟨"HumanStepsModel", "last", "()Z"⟩, 23) := ⟨⟨by decide +kernel, by decide +kernel⟩, List.mem_of_getElem? (i := 772) (by decide +kernel), List.mem_of_getElem? (i := 929) (by decide +kernel), List.mem_of_getElem? (i := 930) (by decide +kernel)⟩
theorem lw_p63 : lw_okq (⟨"HumanStepsModel", "sets", "(II)Z"⟩, 23) := ⟨⟨by decide +kernel, by decide +kernel⟩, List.mem_of_getElem? (i := 772) (by decide +kernel), List.mem_of_getElem? (i := 939) (by decide +kernel), List.mem_of_getElem? (i := 940) (by decide +kernel)⟩
def lw_privs_4 : List (MethodName × Nat) := [(⟨"HumanStepsModel", "isCell", "(I)Z"⟩, 23), (⟨"HumanStepsModel", "fails", "(IZ)Z"⟩, 23), (⟨"HumanStepsModel", "isSymbol", "(I)Z"⟩, 23), (⟨"HumanStepsModel", "has", "(II)Z"⟩, 23), (⟨"HumanStepsModel", "put", "(II)V"⟩, 23), (⟨"HumanStepsModel", "sees", "(II)Z"⟩, 23), (⟨"HumanStepsModel", "boxOf", "(I)I"⟩, 23), (⟨"HumanStepsModel", "changed", "()V"⟩, 23), (⟨"HumanStepsModel", "search", "()I"⟩, 23), (⟨"HumanStepsModel", "isBroken", "()Z"⟩, 23), (⟨"HumanStepsModel", "places", "(II)I"⟩, 23), (⟨"HumanStepsModel", "at", "(II)I"⟩, 23), (⟨"HumanStepsModel", "look", "(I)Z"⟩, 23), (⟨"HumanStepsModel", "none", "()V"⟩, 23), (⟨"HumanStepsModel", "last", "()Z"⟩, 23), (⟨"HumanStepsModel", "sets", "(II)Z"⟩, 23)]
theorem lw_r4 : ∀ q ∈ lw_privs_4, lw_okq q := List.forall_mem_cons.mpr ⟨lw_p48, List.forall_mem_cons.mpr ⟨lw_p49, List.forall_mem_cons.mpr ⟨lw_p50, List.forall_mem_cons.mpr ⟨lw_p51, List.forall_mem_cons.mpr ⟨lw_p52, List.forall_mem_cons.mpr ⟨lw_p53, List.forall_mem_cons.mpr ⟨lw_p54, List.forall_mem_cons.mpr ⟨lw_p55, List.forall_mem_cons.mpr ⟨lw_p56, List.forall_mem_cons.mpr ⟨lw_p57, List.forall_mem_cons.mpr ⟨lw_p58, List.forall_mem_cons.mpr ⟨lw_p59, List.forall_mem_cons.mpr ⟨lw_p60, List.forall_mem_cons.mpr ⟨lw_p61, List.forall_mem_cons.mpr ⟨lw_p62, List.forall_mem_cons.mpr ⟨lw_p63, fun _ h => absurd h List.not_mem_nil⟩⟩⟩⟩⟩⟩⟩⟩⟩⟩⟩⟩⟩⟩⟩⟩
theorem lw_p64 : lw_okq (⟨"HumanStepsModel", "leaves", "(II)V"⟩, 23) := ⟨⟨by decide +kernel, by decide +kernel⟩, List.mem_of_getElem? (i := 772) (by decide +kernel), List.mem_of_getElem? (i := 943) (by decide +kernel), List.mem_of_getElem? (i := 944) (by decide +kernel)⟩
theorem lw_p65 : lw_okq (⟨"HumanStepsModel", "only", "(I)Z"⟩, 23) := ⟨⟨by decide +kernel, by decide +kernel⟩, List.mem_of_getElem? (i := 772) (by decide +kernel), List.mem_of_getElem? (i := 947) (by decide +kernel), List.mem_of_getElem? (i := 948) (by decide +kernel)⟩
theorem lw_p66 : lw_okq (⟨"HumanStepsModel", "pointing", "()Z"⟩, 23) := ⟨⟨by decide +kernel, by decide +kernel⟩, List.mem_of_getElem? (i := 772) (by decide +kernel), List.mem_of_getElem? (i := 951) (by decide +kernel), List.mem_of_getElem? (i := 952) (by decide +kernel)⟩
theorem lw_p67 : lw_okq (⟨"HumanStepsModel", "common", "(III)I"⟩, 23) := ⟨⟨by decide +kernel, by decide +kernel⟩, List.mem_of_getElem? (i := 772) (by decide +kernel), List.mem_of_getElem? (i := 955) (by decide +kernel), List.mem_of_getElem? (i := 956) (by decide +kernel)⟩
theorem lw_p68 : lw_okq (⟨"HumanStepsModel", "isIn", "(II)Z"⟩, 23) := ⟨⟨by decide +kernel, by decide +kernel⟩, List.mem_of_getElem? (i := 772) (by decide +kernel), List.mem_of_getElem? (i := 959) (by decide +kernel), List.mem_of_getElem? (i := 960) (by decide +kernel)⟩
theorem lw_p69 : lw_okq (⟨"HumanStepsModel", "crosses", "(III)Z"⟩, 23) := ⟨⟨by decide +kernel, by decide +kernel⟩, List.mem_of_getElem? (i := 772) (by decide +kernel), List.mem_of_getElem? (i := 963) (by decide +kernel), List.mem_of_getElem? (i := 964) (by decide +kernel)⟩
theorem lw_p70 : lw_okq (⟨"HumanStepsModel", "takes", "()Z"⟩, 23) := ⟨⟨by decide +kernel, by decide +kernel⟩, List.mem_of_getElem? (i := 772) (by decide +kernel), List.mem_of_getElem? (i := 967) (by decide +kernel), List.mem_of_getElem? (i := 968) (by decide +kernel)⟩
theorem lw_p71 : lw_okq (⟨"HumanStepsModel", "claiming", "()Z"⟩, 23) := ⟨⟨by decide +kernel, by decide +kernel⟩, List.mem_of_getElem? (i := 772) (by decide +kernel), List.mem_of_getElem? (i := 971) (by decide +kernel), List.mem_of_getElem? (i := 972) (by decide +kernel)⟩
theorem lw_p72 : lw_okq (⟨"HumanStepsModel", "naked", "(I)Z"⟩, 23) := ⟨⟨by decide +kernel, by decide +kernel⟩, List.mem_of_getElem? (i := 772) (by decide +kernel), List.mem_of_getElem? (i := 975) (by decide +kernel), List.mem_of_getElem? (i := 976) (by decide +kernel)⟩
theorem lw_p73 : lw_okq (⟨"HumanStepsModel", "first", "(I)V"⟩, 23) := ⟨⟨by decide +kernel, by decide +kernel⟩, List.mem_of_getElem? (i := 772) (by decide +kernel), List.mem_of_getElem? (i := 979) (by decide +kernel), List.mem_of_getElem? (i := 980) (by decide +kernel)⟩
theorem lw_p74 : lw_okq (⟨"HumanStepsModel", "isPicked", "(II)Z"⟩, 23) := ⟨⟨by decide +kernel, by decide +kernel⟩, List.mem_of_getElem? (i := 772) (by decide +kernel), List.mem_of_getElem? (i := 983) (by decide +kernel), List.mem_of_getElem? (i := 984) (by decide +kernel)⟩
theorem lw_p75 : lw_okq (⟨"HumanStepsModel", "next", "(I)Z"⟩, 23) := ⟨⟨by decide +kernel, by decide +kernel⟩, List.mem_of_getElem? (i := 772) (by decide +kernel), List.mem_of_getElem? (i := 987) (by decide +kernel), List.mem_of_getElem? (i := 988) (by decide +kernel)⟩
theorem lw_p76 : lw_okq (⟨"HumanStepsModel", "hidden", "(I)Z"⟩, 23) := ⟨⟨by decide +kernel, by decide +kernel⟩, List.mem_of_getElem? (i := 772) (by decide +kernel), List.mem_of_getElem? (i := 991) (by decide +kernel), List.mem_of_getElem? (i := 992) (by decide +kernel)⟩
theorem lw_p77 : lw_okq (⟨"HumanStepsModel", "isOpenIn", "(II)Z"⟩, 23) := ⟨⟨by decide +kernel, by decide +kernel⟩, List.mem_of_getElem? (i := 772) (by decide +kernel), List.mem_of_getElem? (i := 995) (by decide +kernel), List.mem_of_getElem? (i := 996) (by decide +kernel)⟩
theorem lw_p78 : lw_okq (⟨"HumanStepsModel", "fish", "(II)Z"⟩, 23) := ⟨⟨by decide +kernel, by decide +kernel⟩, List.mem_of_getElem? (i := 772) (by decide +kernel), List.mem_of_getElem? (i := 999) (by decide +kernel), List.mem_of_getElem? (i := 1000) (by decide +kernel)⟩
theorem lw_p79 : lw_okq (⟨"HumanStepsModel", "wing", "(Z)Z"⟩, 23) := ⟨⟨by decide +kernel, by decide +kernel⟩, List.mem_of_getElem? (i := 772) (by decide +kernel), List.mem_of_getElem? (i := 1003) (by decide +kernel), List.mem_of_getElem? (i := 1004) (by decide +kernel)⟩
def lw_privs_5 : List (MethodName × Nat) := [(⟨"HumanStepsModel", "leaves", "(II)V"⟩, 23), (⟨"HumanStepsModel", "only", "(I)Z"⟩, 23), (⟨"HumanStepsModel", "pointing", "()Z"⟩, 23), (⟨"HumanStepsModel", "common", "(III)I"⟩, 23), (⟨"HumanStepsModel", "isIn", "(II)Z"⟩, 23), (⟨"HumanStepsModel", "crosses", "(III)Z"⟩, 23), (⟨"HumanStepsModel", "takes", "()Z"⟩, 23), (⟨"HumanStepsModel", "claiming", "()Z"⟩, 23), (⟨"HumanStepsModel", "naked", "(I)Z"⟩, 23), (⟨"HumanStepsModel", "first", "(I)V"⟩, 23), (⟨"HumanStepsModel", "isPicked", "(II)Z"⟩, 23), (⟨"HumanStepsModel", "next", "(I)Z"⟩, 23), (⟨"HumanStepsModel", "hidden", "(I)Z"⟩, 23), (⟨"HumanStepsModel", "isOpenIn", "(II)Z"⟩, 23), (⟨"HumanStepsModel", "fish", "(II)Z"⟩, 23), (⟨"HumanStepsModel", "wing", "(Z)Z"⟩, 23)]
theorem lw_r5 : ∀ q ∈ lw_privs_5, lw_okq q := List.forall_mem_cons.mpr ⟨lw_p64, List.forall_mem_cons.mpr ⟨lw_p65, List.forall_mem_cons.mpr ⟨lw_p66, List.forall_mem_cons.mpr ⟨lw_p67, List.forall_mem_cons.mpr ⟨lw_p68, List.forall_mem_cons.mpr ⟨lw_p69, List.forall_mem_cons.mpr ⟨lw_p70, List.forall_mem_cons.mpr ⟨lw_p71, List.forall_mem_cons.mpr ⟨lw_p72, List.forall_mem_cons.mpr ⟨lw_p73, List.forall_mem_cons.mpr ⟨lw_p74, List.forall_mem_cons.mpr ⟨lw_p75, List.forall_mem_cons.mpr ⟨lw_p76, List.forall_mem_cons.mpr ⟨lw_p77, List.forall_mem_cons.mpr ⟨lw_p78, List.forall_mem_cons.mpr ⟨lw_p79, fun _ h => absurd h List.not_mem_nil⟩⟩⟩⟩⟩⟩⟩⟩⟩⟩⟩⟩⟩⟩⟩⟩
theorem lw_p80 : lw_okq (⟨"HumanStepsModel", "isWing", "(IIIZ)Z"⟩, 23) := ⟨⟨by decide +kernel, by decide +kernel⟩, List.mem_of_getElem? (i := 772) (by decide +kernel), List.mem_of_getElem? (i := 1007) (by decide +kernel), List.mem_of_getElem? (i := 1008) (by decide +kernel)⟩
theorem lw_p81 : lw_okq (⟨"HumanStepsModel", "colours", "()Z"⟩, 23) := ⟨⟨by decide +kernel, by decide +kernel⟩, List.mem_of_getElem? (i := 772) (by decide +kernel), List.mem_of_getElem? (i := 1011) (by decide +kernel), List.mem_of_getElem? (i := 1012) (by decide +kernel)⟩
theorem lw_p82 : lw_okq (⟨"HumanStepsModel", "colour", "(II)V"⟩, 23) := ⟨⟨by decide +kernel, by decide +kernel⟩, List.mem_of_getElem? (i := 772) (by decide +kernel), List.mem_of_getElem? (i := 1015) (by decide +kernel), List.mem_of_getElem? (i := 1016) (by decide +kernel)⟩
theorem lw_p83 : lw_okq (⟨"HumanStepsModel", "isLinked", "(III)Z"⟩, 23) := ⟨⟨by decide +kernel, by decide +kernel⟩, List.mem_of_getElem? (i := 772) (by decide +kernel), List.mem_of_getElem? (i := 1019) (by decide +kernel), List.mem_of_getElem? (i := 1020) (by decide +kernel)⟩
theorem lw_p84 : lw_okq (⟨"HumanStepsModel", "clash", "(Z)Z"⟩, 23) := ⟨⟨by decide +kernel, by decide +kernel⟩, List.mem_of_getElem? (i := 772) (by decide +kernel), List.mem_of_getElem? (i := 1023) (by decide +kernel), List.mem_of_getElem? (i := 1024) (by decide +kernel)⟩
theorem lw_p85 : lw_okq (⟨"HumanStepsModel", "seesOne", "(IZ)Z"⟩, 23) := ⟨⟨by decide +kernel, by decide +kernel⟩, List.mem_of_getElem? (i := 772) (by decide +kernel), List.mem_of_getElem? (i := 1027) (by decide +kernel), List.mem_of_getElem? (i := 1028) (by decide +kernel)⟩
theorem lw_p86 : lw_okq (⟨"HumanStepsModel", "rectangle", "()Z"⟩, 23) := ⟨⟨by decide +kernel, by decide +kernel⟩, List.mem_of_getElem? (i := 772) (by decide +kernel), List.mem_of_getElem? (i := 1031) (by decide +kernel), List.mem_of_getElem? (i := 1032) (by decide +kernel)⟩
theorem lw_p87 : lw_okq (⟨"HumanStepsModel", "corners", "(IIII)Z"⟩, 23) := ⟨⟨by decide +kernel, by decide +kernel⟩, List.mem_of_getElem? (i := 772) (by decide +kernel), List.mem_of_getElem? (i := 1035) (by decide +kernel), List.mem_of_getElem? (i := 1036) (by decide +kernel)⟩
theorem lw_p88 : lw_okq (⟨"HumanStepsModel", "reasonMany", "()I"⟩, 23) := ⟨⟨by decide +kernel, by decide +kernel⟩, List.mem_of_getElem? (i := 772) (by decide +kernel), List.mem_of_getElem? (i := 1043) (by decide +kernel), List.mem_of_getElem? (i := 1044) (by decide +kernel)⟩
theorem lw_p89 : lw_okq (⟨"HumanStepsModel", "goMany", "()I"⟩, 23) := ⟨⟨by decide +kernel, by decide +kernel⟩, List.mem_of_getElem? (i := 772) (by decide +kernel), List.mem_of_getElem? (i := 1047) (by decide +kernel), List.mem_of_getElem? (i := 1048) (by decide +kernel)⟩
theorem lw_p90 : lw_okq (⟨"HumanStepsModel", "reasonAt", "(I)I"⟩, 23) := ⟨⟨by decide +kernel, by decide +kernel⟩, List.mem_of_getElem? (i := 772) (by decide +kernel), List.mem_of_getElem? (i := 1055) (by decide +kernel), List.mem_of_getElem? (i := 1056) (by decide +kernel)⟩
theorem lw_p91 : lw_okq (⟨"HumanStepsModel", "act", "()V"⟩, 23) := ⟨⟨by decide +kernel, by decide +kernel⟩, List.mem_of_getElem? (i := 772) (by decide +kernel), List.mem_of_getElem? (i := 1067) (by decide +kernel), List.mem_of_getElem? (i := 1068) (by decide +kernel)⟩
def lw_privs_6 : List (MethodName × Nat) := [(⟨"HumanStepsModel", "isWing", "(IIIZ)Z"⟩, 23), (⟨"HumanStepsModel", "colours", "()Z"⟩, 23), (⟨"HumanStepsModel", "colour", "(II)V"⟩, 23), (⟨"HumanStepsModel", "isLinked", "(III)Z"⟩, 23), (⟨"HumanStepsModel", "clash", "(Z)Z"⟩, 23), (⟨"HumanStepsModel", "seesOne", "(IZ)Z"⟩, 23), (⟨"HumanStepsModel", "rectangle", "()Z"⟩, 23), (⟨"HumanStepsModel", "corners", "(IIII)Z"⟩, 23), (⟨"HumanStepsModel", "reasonMany", "()I"⟩, 23), (⟨"HumanStepsModel", "goMany", "()I"⟩, 23), (⟨"HumanStepsModel", "reasonAt", "(I)I"⟩, 23), (⟨"HumanStepsModel", "act", "()V"⟩, 23)]
theorem lw_r6 : ∀ q ∈ lw_privs_6, lw_okq q := List.forall_mem_cons.mpr ⟨lw_p80, List.forall_mem_cons.mpr ⟨lw_p81, List.forall_mem_cons.mpr ⟨lw_p82, List.forall_mem_cons.mpr ⟨lw_p83, List.forall_mem_cons.mpr ⟨lw_p84, List.forall_mem_cons.mpr ⟨lw_p85, List.forall_mem_cons.mpr ⟨lw_p86, List.forall_mem_cons.mpr ⟨lw_p87, List.forall_mem_cons.mpr ⟨lw_p88, List.forall_mem_cons.mpr ⟨lw_p89, List.forall_mem_cons.mpr ⟨lw_p90, List.forall_mem_cons.mpr ⟨lw_p91, fun _ h => absurd h List.not_mem_nil⟩⟩⟩⟩⟩⟩⟩⟩⟩⟩⟩⟩
def lw_privs : List (MethodName × Nat) := lw_privs_1 ++ (lw_privs_2 ++ (lw_privs_3 ++ (lw_privs_4 ++ (lw_privs_5 ++ (lw_privs_6)))))
def lw_tbl : List Cond := k2_sels lw_privs ++ tables_1
theorem lw_privs_ok : ∀ q ∈ lw_privs, lw_okq q := by
  show ∀ q ∈ lw_privs_1 ++ (lw_privs_2 ++ (lw_privs_3 ++ (lw_privs_4 ++ (lw_privs_5 ++ (lw_privs_6))))), lw_okq q
  exact List.forall_mem_append.mpr ⟨lw_r1, List.forall_mem_append.mpr ⟨lw_r2, List.forall_mem_append.mpr ⟨lw_r3, List.forall_mem_append.mpr ⟨lw_r4, List.forall_mem_append.mpr ⟨lw_r5, lw_r6⟩⟩⟩⟩⟩
end
section
/-! ===== BEGIN words of one list among another's, by their places ===== -/
theorem goodIn_r {big : List Cond} (ws : List Cond) (ps : List Nat) (hp : ws = ps.filterMap (fun i => big[i]?)) (h : ws.all goodWord = true) : GoodIn big ws := by
  intro w hw
  have h1 := List.all_eq_true.mp h w hw
  rw [hp] at hw
  obtain ⟨i, -, hi⟩ := List.mem_filterMap.mp hw
  have hm : w ∈ big := by first | exact List.mem_of_getElem? hi | exact List.getElem?_mem hi
  exact ⟨hm, good_of_word h1⟩
theorem goodIn_app {big a b : List Cond} (ha : GoodIn big a) (hb : GoodIn big b) : GoodIn big (a ++ b) := fun w h => (List.mem_append.mp h).elim (ha w) (hb w)
theorem goodIn_ca {big a b : List Cond} {c : Cond} (ha : GoodIn big (c :: a)) (hb : GoodIn big b) : GoodIn big (c :: (a ++ b)) := fun w h => (List.mem_cons.mp h).elim (fun e => ha w (List.mem_cons.mpr (Or.inl e))) (fun h => (List.mem_append.mp h).elim (fun h => ha w (List.mem_cons.mpr (Or.inr h))) (hb w))
theorem goodIn_sub {big ws : List Cond} (hm : ∀ w ∈ ws, w ∈ big) (h : ws.all goodWord = true) : GoodIn big ws := fun w hw => ⟨hm w hw, good_of_word (List.all_eq_true.mp h w hw)⟩
/-! ===== END ===== -/

/-! ===== BEGIN exceptions that leave a method, and their catching by the caller (launches without stack traces) ===== -/
section VXA
/-! The laws vx_back, vx_callV, vx_callS, vx_callSW, vx_throw0, vx_throwS follow proofs of the library, with one case more: JvmDerived/Free/Laws.lean (Back.of_free), Shelf42/LK1.lean (callV, callS), Shelf/KitTraced.lean (throwNew0V, throwNewS). -/

/-- where a method has thrown q: the class by its name, the cell, what was written, the world -/
def vx_T (XC : String → State → State → Prop) (st : State) (q : Addr) (t : State) (mc ms : Nat) (free : Addr → Prop) : Prop :=
  ∃ (E : String) (ce : Cell) (L : List Loc), XC E st t ∧ t.heap[q]? = some ce ∧ ce.vm = .none ∧ st.vm.findClass E = some ce.cls ∧ st.WarmedH t.vm ∧ st.sameButNew ({ t with vm := st.vm } : State) L mc ms ∧ ∀ z ∈ L, free z.base
def vx_Q (Qc : Array Value → State → Outcome → State → Prop) (XC : String → State → State → Prop) (mc ms : Nat) (free : Addr → Prop) : Array Value → State → Outcome → State → Prop := fun a st o t =>
  (Qc a st o t ∧ ∃ L, FrameEnd st o t L mc ms ∧ ∀ q ∈ L, free q.base) ∨ ∃ q, o = .threw q ∧ vx_T XC st q t mc ms free
/-- a callee that returns or throws -/
def vx_Met (l : Launch) (y : MethodName) (ws : List Cond) (rm : Room) (Pc : Array Value → State → Prop) (Qc : Array Value → State → Outcome → State → Prop) (XC : String → State → State → Prop) (mc ms : Nat) (free : Addr → Prop) : Prop :=
  MetFree l y (headSpec ws rm) Pc (fun _ _ _ _ _ => True) (vx_Q Qc XC mc ms free)
def vx_Post (XC : String → State → State → Prop) (mc ms : Nat) (free : Addr → Prop) : Pt → Array Value → Addr → Pt → Prop := fun A a q B =>
  ∃ (g : JFrame) (mk : MethodId) (t : State) (L : List Loc) (E : String) (ce : Cell), B.U.heap = t.heap ∧ B.U.vm = t.vm ∧ XC E (A.U.calling g mk a) t ∧ t.heap[q]? = some ce ∧ ce.vm = .none ∧ A.U.vm.findClass E = some ce.cls ∧ B.locs = A.locs ++ L ∧ (∀ z ∈ L, free z.base) ∧ B.cells = A.cells + mc ∧ B.slots = A.slots + ms
def vx_Back (l : Launch) (R : Room) (p : Program) (e : Env) (below : List Frame) (s : State) (sargs : Array Value) (y : MethodName) (len W9 : Nat)
    (Pre : Pt → Array Value → Prop) (Post : Pt → Array Value → Option Value → Pt → Prop) (PostX : Pt → Array Value → Addr → Pt → Prop) : Prop :=
  ∀ (m : MethodId) (meth : Method) (c : Code) (A : Pt) (g : JFrame) (ig : Instr) (mk : MethodId) (a : Array Value),
    Stand p l e R s m sargs below meth c A.U A.locs A.cells A.slots → g.method = m → g.locals.size = c.maxLocals → decode c.code g.pc = .ok (ig, len) →
    2 * g.monitorRoom + (g.stack.map fun v => v.category).sum ≤ W9 → A.U.methodNamed? y = some mk → Pre A a →
    (∃ (v : Option Value) (B : Pt), Stand p l e R s m sargs below meth c B.U B.locs B.cells B.slots ∧ Post A a v B ∧
      Steps p.tables e below (doInvoke e (A.U.setTop g) [] mk a).1 (B.U.setTop { g with pc := g.pc + len, stack := v.toList ++ g.stack })) ∨
    (∃ (q : Addr) (B : Pt), Stand p l e R s m sargs below meth c B.U B.locs B.cells B.slots ∧ PostX A a q B ∧
      Steps p.tables e below (doInvoke e (A.U.setTop g) [] mk a).1 ((B.U.setTop g).pushFrame (.throwing q)))
section Payer
variable {l : Launch} {R : Room} {p : Program} {e : Env} {below : List Frame} {s : State} {sargs : Array Value} {y : MethodName} {len W9 : Nat}
theorem vx_back {ws : List Cond} {rm : Room} {Pc : Array Value → State → Prop} {Qc : Array Value → State → Outcome → State → Prop} {XC : String → State → State → Prop} {mc ms : Nat} {free : Addr → Prop} {bytes : ByteArray} {maxL : Nat} {ret : Option FieldType}
    (hM : vx_Met l y ws rm Pc Qc XC mc ms free) (hblind : FrameBlind Pc) (hrc : rm.cells = mc) (hrs : rm.slots = ms)
    (hframes : rm.frames + 1 ≤ R.frames) (hlocals : W9 + (maxL + 11) + rm.locals ≤ R.locals)
    (hws : ∀ w ∈ ws, ∀ a' U, s.WarmedH U.vm → w.before a' U = true) (hcode : Cond.code y bytes maxL ret ∈ ws) (hinit : ∀ a' U, s.WarmedH U.vm → (Cond.initialized y.cls).before a' U = true) :
    vx_Back l R p e below s sargs y len W9 (PreOf R mc ms Pc) (PostOf Qc mc ms free) (vx_Post XC mc ms free) := by
  intro m meth c A g ig mk a X hg hsize hdg hW hn hp
  have h1 : (headSpec ws rm).pre.before a A.U = true := atoms_intro fun w hw => hws w hw _ _ X.warmed
  have h2 : (Cond.code y bytes maxL ret).before a A.U = true := hws _ hcode _ _ X.warmed
  have h3 : (Cond.initialized y.cls).before a A.U = true := hinit _ _ X.warmed
  have h4 : A.cells + (headSpec ws rm).room.cells ≤ R.cells := by rw [show (headSpec ws rm).room.cells = mc from hrc]; exact hp.1
  have h5 : A.slots + (headSpec ws rm).room.slots ≤ R.slots := by rw [show (headSpec ws rm).room.slots = ms from hrs]; exact hp.2.1
  have hPc : Pc a (A.U.calling g mk a) := hblind _ _ _ _ hp.2.2
  obtain ⟨U, Ls, c0, s0⟩ := A
  dsimp only [Pt.U, Pt.locs, Pt.cells, Pt.slots] at h1 h2 h3 h4 h5 X hn hPc ⊢
  obtain ⟨methY, cY, hmY, hcY, -, hlY, -, -, -, -⟩ := Cond.code_spec hn h2
  obtain ⟨kY, hkY, -⟩ := className_of_methodNamed hn
  have hinitY : kY.init = .initialized := Cond.initialized_spec (findClass_of_methodNamed hn) hkY h3
  have h : At U g.method c below := by rw [hg]; exact X.here
  have hlocals9 : W9 + (maxL + 11) + (headSpec ws rm).room.locals ≤ R.locals := hlocals
  have happ : (headSpec ws rm).appliesLoose y e.platform (U.calling g mk a) = true :=
    Spec.appliesLoose_calling (g := g) h hdg hn hkY hinitY
      (X.room_calling (g := g) (R' := (headSpec ws rm).room) hsize hmY hcY hframes (by rw [hlY]; omega) h4 h5) h1
  obtain ⟨mid, hmid⟩ := h.above
  have hfr : (U.setTop g).frames = (.java g :: mid) ++ below := by rw [State.frames_setTop' g h.top, hmid]; rfl
  obtain ⟨o, s₂, hsteps, -, hend, hq⟩ := Steps.callFree hM p X.admits X.cas X.clock (acts := []) hfr happ hPc trivial
  have hq' : vx_Q Qc XC mc ms free a (U.calling g mk a) o s₂ := hq
  rw [State.frames_setTop' g h.top] at hend
  obtain ⟨g₀, hg0⟩ := Option.isSome_iff_exists.mp h.top
  obtain ⟨r, hr⟩ := State.topJava?_eq_some.mp hg0
  have hr' : (({ U with heap := s₂.heap, slotsUsed := s₂.slotsUsed } : State).setVm s₂.vm).frames = .java g₀ :: r := hr
  rcases hq' with ⟨hqc, L, hfe, hL⟩ | ⟨q, rfl, E, ce, L, hx, hce, hcv, hcl, hW₂, hsm, hL⟩
  · obtain ⟨⟨v, rfl⟩, hW₂, e2, q2, q3, q4, q5, q6⟩ := id hfe
    have e3 : s₂ = ({ (U.calling g mk a).setFrames s₂.frames with heap := s₂.heap, slotsUsed := s₂.slotsUsed } : State).setVm s₂.vm := by
      have : s₂ = ({ s₂ with vm := (U.calling g mk a).vm } : State).setVm s₂.vm := rfl
      rw [e2] at this
      exact this
    obtain ⟨c₂, i₂, len₂, hc₂, hd₂, hf₂⟩ := hend
    have hW' : U.WarmedH s₂.vm := hW₂
    have hcc : c₂ = c := by
      have h1 : s₂.code? g.method = U.code? g.method := by
        rw [State.code?_eq, State.code?_eq, hW'.alike.method?]
      exact Option.some.inj (hc₂.symm.trans (h1.trans h.code))
    subst hcc
    have hlen : len₂ = len := by rw [hdg] at hd₂; cases hd₂; rfl
    subst hlen
    have hs₂ : s₂ = (({ U with heap := s₂.heap, slotsUsed := s₂.slotsUsed } : State).setVm s₂.vm).setTop { g with pc := g.pc + len₂, stack := v.toList ++ g.stack } := by
      refine e3.trans ?_
      rw [hf₂, State.calling_eq h.top, State.setFrames_setFrames, State.setTop_of_frames _ hr', hr]
      rfl
    have hsame : U.sameButNew ({ U with heap := s₂.heap, slotsUsed := s₂.slotsUsed } : State) L mc ms := by
      refine ⟨?_, q2, q3, q4, q5, q6⟩
      obtain ⟨t, ht, -⟩ := State.frames_cons hr
      show ({ U with heap := s₂.heap, slotsUsed := s₂.slotsUsed } : State) = { U.setFrames U.frames with heap := s₂.heap, slotsUsed := s₂.slotsUsed }
      rw [State.setFrames_self ht]
    subst hg
    refine Or.inl ⟨v, ⟨(({ U with heap := s₂.heap, slotsUsed := s₂.slotsUsed } : State).setVm s₂.vm), Ls ++ L, c0 + mc, s0 + ms⟩,
      ⟨X.admits, X.cas, X.clock, X.frames, X.room, X.hears, X.method, X.code, (X.here.setHeapUsed s₂.heap s₂.slotsUsed).setVm hW'.alike, X.tail, State.WarmedH.trans X.warmed hW', X.limits, X.bytes, X.same.trans (hsame.setVm s.vm)⟩,
      ⟨g, mk, s₂, L, rfl, rfl, hqc, rfl, hL, rfl, rfl⟩, ?_⟩
    show Steps p.tables e below _ ((({ U with heap := s₂.heap, slotsUsed := s₂.slotsUsed } : State).setVm s₂.vm).setTop { g with pc := g.pc + len₂, stack := v.toList ++ g.stack })
    rw [← hs₂]
    exact hsteps
  · obtain ⟨e2, q2, q3, q4, q5, q6⟩ := id hsm
    have e3 : s₂ = ({ (U.calling g mk a).setFrames s₂.frames with heap := s₂.heap, slotsUsed := s₂.slotsUsed } : State).setVm s₂.vm := by
      have : s₂ = ({ s₂ with vm := (U.calling g mk a).vm } : State).setVm s₂.vm := rfl
      rw [e2] at this
      exact this
    have hf₂ : s₂.frames = .throwing q :: .java g :: U.frames.tail := hend
    have hW' : U.WarmedH s₂.vm := hW₂
    have hs₂ : s₂ = ((({ U with heap := s₂.heap, slotsUsed := s₂.slotsUsed } : State).setVm s₂.vm).setTop g).pushFrame (.throwing q) := by
      refine e3.trans ?_
      rw [hf₂, State.calling_eq h.top, State.setFrames_setFrames, State.pushFrame, State.frames_setTop _ hr', State.setTop_of_frames _ hr', State.setFrames_setFrames, hr]
      rfl
    have hsame : U.sameButNew ({ U with heap := s₂.heap, slotsUsed := s₂.slotsUsed } : State) L mc ms := by
      refine ⟨?_, q2, q3, q4, q5, q6⟩
      obtain ⟨t, ht, -⟩ := State.frames_cons hr
      show ({ U with heap := s₂.heap, slotsUsed := s₂.slotsUsed } : State) = { U.setFrames U.frames with heap := s₂.heap, slotsUsed := s₂.slotsUsed }
      rw [State.setFrames_self ht]
    subst hg
    refine Or.inr ⟨q, ⟨(({ U with heap := s₂.heap, slotsUsed := s₂.slotsUsed } : State).setVm s₂.vm), Ls ++ L, c0 + mc, s0 + ms⟩,
      ⟨X.admits, X.cas, X.clock, X.frames, X.room, X.hears, X.method, X.code, (X.here.setHeapUsed s₂.heap s₂.slotsUsed).setVm hW'.alike, X.tail, State.WarmedH.trans X.warmed hW', X.limits, X.bytes, X.same.trans (hsame.setVm s.vm)⟩,
      ⟨g, mk, s₂, L, E, ce, rfl, rfl, hx, hce, hcv, hcl, rfl, hL, rfl, rfl⟩, ?_⟩
    show Steps p.tables e below _ (((({ U with heap := s₂.heap, slotsUsed := s₂.slotsUsed } : State).setVm s₂.vm).setTop g).pushFrame (.throwing q))
    rw [← hs₂]
    exact hsteps
end Payer
section Calls
variable {p : Program} {l : Launch} {e : Env} {R : Room} {s : State} {m : MethodId} {args : Array Value} {below : List Frame} {meth : Method} {c : Code} {T : State} {locs : List Loc} {cells slots : Nat}
theorem vx_callV (X : Stand p l e R s m args below meth c T locs cells slots) (hexec : p.tables.exec = Jvm.exec) {own C : String} {index : Nat} {y : MethodName} {bytes : ByteArray} {maxL : Nat} {ret : Option FieldType}
    (hown : s.vm.findClass own = some m.cls) (hlink : (Cond.methodLink own index y).before args s = true) (hinst : (Cond.instanceMethod y).before args s = true) (hsel : (Cond.selects C y y).before args s = true)
    (hcode : (Cond.code y bytes maxL ret).before args s = true) (hy : y.cls ≠ "java/lang/invoke/MethodHandle" ∧ y.cls ≠ "java/lang/invoke/VarHandle")
    {W9 : Nat} {Pre : Pt → Array Value → Prop} {Post : Pt → Array Value → Option Value → Pt → Prop} {PostX : Pt → Array Value → Addr → Pt → Prop} (hK : vx_Back l R p e below s args y 3 W9 Pre Post PostX)
    {b : Addr} {cellB : Cell} (hcell : T.heap[b]? = some cellB) (hobj : cellB.vm.isStatics = false) (hcls : s.vm.findClass C = some cellB.cls)
    {g : JFrame} (hg : g.method = m) (hsize : g.locals.size = c.maxLocals) {argsL rest : List Value} (hlen : ∀ sig, parseMethodDescriptor y.desc = some sig → argsL.length = sig.parameters.length)
    (hstack : g.stack = argsL.reverse ++ .ref b :: rest) (hW : 2 * g.monitorRoom + (rest.map fun v => v.category).sum ≤ W9) (hdg : decode c.code g.pc = .ok (.invokevirtual index, 3))
    (hpre : ∀ vm₁, s.WarmedH vm₁ → Pre ⟨T.setVm vm₁, locs, cells, slots⟩ (Value.ref b :: argsL).toArray) :
    (∃ (v : Option Value) (vm₁ : Vm) (B : Pt), s.WarmedH vm₁ ∧ Stand p l e R s m args below meth c B.U B.locs B.cells B.slots ∧ Post ⟨T.setVm vm₁, locs, cells, slots⟩ (Value.ref b :: argsL).toArray v B ∧
      ∀ target, Steps p.tables e below (B.U.setTop { g with pc := g.pc + 3, stack := v.toList ++ rest }) target → Steps p.tables e below (T.setTop g) target) ∨
    (∃ (q : Addr) (vm₁ : Vm) (B : Pt), s.WarmedH vm₁ ∧ Stand p l e R s m args below meth c B.U B.locs B.cells B.slots ∧ PostX ⟨T.setVm vm₁, locs, cells, slots⟩ (Value.ref b :: argsL).toArray q B ∧
      Steps p.tables e below (T.setTop g) ((B.U.setTop { g with stack := rest }).pushFrame (.throwing q))) := by
  obtain ⟨mk, methM, hnamed, hmethM, hstM, habM⟩ := Cond.instanceMethod_spec hinst
  obtain ⟨methM', cM, hmethM', -, -, -, -, -, -, hsigM⟩ := Cond.code_spec hnamed hcode
  cases hmethM.symm.trans hmethM'
  obtain ⟨c2, r2, m2, q1, q2, q3, q4, kP, hkP, hkPi⟩ := Cond.selects_spec hsel
  cases hcls.symm.trans q1
  cases (State.methodFound?_of_named hnamed hy).symm.trans q2
  cases hnamed.symm.trans q3
  have hselP : selectMethod e.platform s.vm cellB.cls mk = .method mk := by rw [Launch.admits_selectMethod X.admits]; exact q4
  obtain ⟨vm₁, X₁, hstep₁⟩ := X.invokevirtual hexec hown hlink hnamed hmethM hstM hkP hkPi hy (a := b) (cell := cellB) hcell
    (fun z h => by rw [h] at hobj; cases hobj) hselP hmethM habM hkP hkPi (g := g) hg (argsL := argsL) (rest := rest) (hlen _ hsigM) hstack hdg
  rcases hK m meth c ⟨T.setVm vm₁, locs, cells, slots⟩ { g with stack := rest } (.invokevirtual index) mk (Value.ref b :: argsL).toArray X₁ hg hsize hdg hW (X₁.named hnamed) (hpre vm₁ X₁.warmed) with ⟨v, B, X', hpost, hsteps⟩ | ⟨q, B, X', hpost, hsteps⟩
  · exact Or.inl ⟨v, vm₁, B, X₁.warmed, X', hpost, fun target h => hstep₁ _ fun acts => by rw [doInvoke_state]; exact hsteps.trans h⟩
  · exact Or.inr ⟨q, vm₁, B, X₁.warmed, X', hpost, hstep₁ _ fun acts => by rw [doInvoke_state]; exact hsteps⟩
theorem vx_callS (X : Stand p l e R s m args below meth c T locs cells slots) (hexec : p.tables.exec = Jvm.exec) {own : String} {index : Nat} {y : MethodName} {bytes : ByteArray} {maxL : Nat} {ret : Option FieldType}
    (hown : s.vm.findClass own = some m.cls) (hlink : (Cond.methodLink own index y).before args s = true) (hstat : (Cond.static y).before args s = true) (hinit : (Cond.initialized y.cls).before args s = true)
    (hcode : (Cond.code y bytes maxL ret).before args s = true) (hy : y.cls ≠ "java/lang/invoke/MethodHandle" ∧ y.cls ≠ "java/lang/invoke/VarHandle")
    {W9 : Nat} {Pre : Pt → Array Value → Prop} {Post : Pt → Array Value → Option Value → Pt → Prop} {PostX : Pt → Array Value → Addr → Pt → Prop} (hK : vx_Back l R p e below s args y 3 W9 Pre Post PostX)
    {g : JFrame} (hg : g.method = m) (hsize : g.locals.size = c.maxLocals) {argsL rest : List Value} (hlen : ∀ sig, parseMethodDescriptor y.desc = some sig → argsL.length = sig.parameters.length)
    (hstack : g.stack = argsL.reverse ++ rest) (hW : 2 * g.monitorRoom + (rest.map fun v => v.category).sum ≤ W9) (hdg : decode c.code g.pc = .ok (.invokestatic index, 3))
    (hpre : ∀ vm₁, s.WarmedH vm₁ → Pre ⟨T.setVm vm₁, locs, cells, slots⟩ argsL.toArray) :
    (∃ (v : Option Value) (vm₁ : Vm) (B : Pt), s.WarmedH vm₁ ∧ Stand p l e R s m args below meth c B.U B.locs B.cells B.slots ∧ Post ⟨T.setVm vm₁, locs, cells, slots⟩ argsL.toArray v B ∧
      ∀ target, Steps p.tables e below (B.U.setTop { g with pc := g.pc + 3, stack := v.toList ++ rest }) target → Steps p.tables e below (T.setTop g) target) ∨
    (∃ (q : Addr) (vm₁ : Vm) (B : Pt), s.WarmedH vm₁ ∧ Stand p l e R s m args below meth c B.U B.locs B.cells B.slots ∧ PostX ⟨T.setVm vm₁, locs, cells, slots⟩ argsL.toArray q B ∧
      Steps p.tables e below (T.setTop g) ((B.U.setTop { g with stack := rest }).pushFrame (.throwing q))) := by
  obtain ⟨mk, hnamed⟩ := Cond.code_named hcode
  obtain ⟨methM, cM, hmethM, -, -, -, -, -, -, hsigM⟩ := Cond.code_spec hnamed hcode
  have hstatic : methM.isStatic = true := Cond.static_spec hnamed hmethM hstat
  obtain ⟨kP, hkP, -⟩ := className_of_methodNamed hnamed
  have hinitP : kP.init = .initialized := Cond.initialized_spec (findClass_of_methodNamed hnamed) hkP hinit
  obtain ⟨vm₁, X₁, hstep₁⟩ := X.invokestatic hexec hown hlink hnamed hmethM hstatic hkP hinitP hy (g := g) hg (argsL := argsL) (rest := rest) (hlen _ hsigM) hstack hdg
  rcases hK m meth c ⟨T.setVm vm₁, locs, cells, slots⟩ { g with stack := rest } (.invokestatic index) mk argsL.toArray X₁ hg hsize hdg hW (X₁.named hnamed) (hpre vm₁ X₁.warmed) with ⟨v, B, X', hpost, hsteps⟩ | ⟨q, B, X', hpost, hsteps⟩
  · exact Or.inl ⟨v, vm₁, B, X₁.warmed, X', hpost, fun target h => hstep₁ _ fun acts => by rw [doInvoke_state]; exact hsteps.trans h⟩
  · exact Or.inr ⟨q, vm₁, B, X₁.warmed, X', hpost, hstep₁ _ fun acts => by rw [doInvoke_state]; exact hsteps⟩
end Calls
theorem vx_cls {s : State} {T : State} {vm₁ : Vm} {E : String} {k : ClassId} (hW : s.WarmedH vm₁) (h : (T.setVm vm₁).vm.findClass E = some k) : s.vm.findClass E = some k := by
  have h1 : vm₁.findClass E = some k := h
  rw [hW.alike.findClass] at h1
  exact h1
/-- the method's frame g, with q thrown over it -/
def vx_W (p : Program) (l : Launch) (e : Env) (R : Room) (s : State) (m : MethodId) (args : Array Value) (below : List Frame) (meth : Method) (c : Code) (H : Heap) (locs : List Loc) (cells slots : Nat) (Q : State → Prop) (g : JFrame) (q : Addr) : Prop :=
  ∀ T : State, T.heap = H → Stand p l e R s m args below meth c T locs cells slots → ∃ t, Steps p.tables e below ((T.setTop g).pushFrame (.throwing q)) t ∧ Q t
def vx_Run (p : Program) (l : Launch) (e : Env) (R : Room) (s : State) (m : MethodId) (args : Array Value) (below : List Frame) (meth : Method) (c : Code) (H : Heap) (locs : List Loc) (cells slots mc ms : Nat) (g : JFrame) (rest : List Value) (Qa : State → Outcome → State → Prop) (XC : String → State → State → Prop) (free : Addr → Prop) : Prop :=
  ∀ T : State, T.heap = H → Stand p l e R s m args below meth c T locs cells slots →
    (∃ (v : Option Value) (st₀ t T' : State) (L : List Loc), st₀.heap = H ∧ Stand p l e R s m args below meth c T' (locs ++ L) (cells + mc) (slots + ms) ∧ (∀ q ∈ L, free q.base) ∧ T'.heap = t.heap ∧ T'.vm = t.vm ∧ Qa st₀ (.returned v) t ∧
      Goes p e below T g T' { g with pc := g.pc + 3, stack := v.toList ++ rest }) ∨
    (∃ (q : Addr) (st₀ t T' : State) (L : List Loc) (E : String) (ce : Cell), st₀.heap = H ∧ Stand p l e R s m args below meth c T' (locs ++ L) (cells + mc) (slots + ms) ∧ (∀ z ∈ L, free z.base) ∧ T'.heap = t.heap ∧ T'.vm = t.vm ∧ XC E st₀ t ∧ t.heap[q]? = some ce ∧ ce.vm = .none ∧ s.vm.findClass E = some ce.cls ∧
      Steps p.tables e below (T.setTop g) ((T'.setTop { g with stack := rest }).pushFrame (.throwing q)))
def vx_X {S : Type} (px : S → Prop) (B : String → S → State → Prop) (A : Nat → Prop) : String → State → State → Prop := fun E st t => ∃ u : S, px u ∧ B E u t ∧ va_F A st t
section Runs
variable {p : Program} {l : Launch} {e : Env} {R : Room} {s : State} {m : MethodId} {args : Array Value} {below : List Frame} {meth : Method} {c : Code} {H : Heap} {locs : List Loc} {cells slots : Nat}
variable {y : MethodName} {bytes cc : ByteArray} {maxL nL mc ms n index : Nat} {ret : Option FieldType} {ws : List Cond} {rm : Room} {Pc : Array Value → State → Prop} {Qc : Array Value → State → Outcome → State → Prop} {XC : String → State → State → Prop} {free : Addr → Prop} {Ts : List Cond} {own C : String} {b : Addr} {As rest : List Value} {g : JFrame}
theorem vx_callBack (cb : CallB R s args own index y bytes maxL ret ws rm mc ms n) (hM : vx_Met l y ws rm Pc Qc XC mc ms free) (hbl : FrameBlind Pc) : vx_Back l R p e below s args y 3 8 (PreOf R mc ms Pc) (PostOf Qc mc ms free) (vx_Post XC mc ms free) := by
  obtain ⟨hrc, hrs, hfr, hlo, hws, hcw, -, hini, -⟩ := cb
  exact vx_back (bytes := bytes) (maxL := maxL) (ret := ret) hM hbl hrc hrs hfr hlo hws hcw (fun a' U hW => word_at hW (Or.inl (by first | rfl | simp [Cond.onTables, Cond.keeps, Cond.steady])) hini)
theorem vx_runV (S : CallFix p m c cc nL s args Ts own) (hM : vx_Met l y ws rm Pc Qc XC mc ms free) (cw : CallW R s args own C index y bytes maxL ret ws rm mc ms n) (hp : PreV s H C b Pc As)
    (hg : g.method = m) (hn : As.length = n) (hsize : g.locals.size = nL) (hstack : g.stack = As.reverse ++ .ref b :: rest) (hW : 2 * g.monitorRoom + (rest.map fun v => v.category).sum ≤ 8) (hdg : decode cc g.pc = .ok (.invokevirtual index, 3)) (hf : cells + mc ≤ R.cells ∧ slots + ms ≤ R.slots) :
    vx_Run p l e R s m args below meth c H locs cells slots mc ms g rest (Qc (Value.ref b :: As).toArray) XC free := by
  have hK : vx_Back l R p e below s args y 3 8 (PreOf R mc ms Pc) (PostOf Qc mc ms free) (vx_Post XC mc ms free) := vx_callBack cw.1 hM hp.1
  obtain ⟨⟨-, -, -, -, -, -, hcode, -, hy, hlen, hl⟩, hin, hse⟩ := cw
  obtain ⟨hx, hb, hml, ho, -⟩ := S
  obtain ⟨-, ⟨cellB, hcB, hoB, hclB⟩, hPc⟩ := hp
  intro T hT X
  rcases vx_callV X hx (C := C) (bytes := bytes) (maxL := maxL) (ret := ret) ho hl hin hse hcode hy hK (by rw [hT]; exact hcB) hoB hclB hg (hsize.trans hml.symm) (argsL := As) (rest := rest) (fun sig h => hn.trans (hlen sig h)) hstack hW (by rw [hb]; exact hdg)
    (fun vm₁ hW₁ => ⟨hf.1, hf.2, hPc (T.setVm vm₁) hT hW₁⟩) with ⟨v, vm₁, ⟨U', l2, c2, s2⟩, hW₁, X', ⟨g', mk, t, L, e1, e2, hq, h1, hL, h2, h3⟩, st⟩ | ⟨q, vm₁, ⟨U', l2, c2, s2⟩, hW₁, X', ⟨g', mk, t, L, E, ce, e1, e2, hq, hce, hcv, hcl, h1, hL, h2, h3⟩, st⟩
  · dsimp only [Pt.U, Pt.locs, Pt.cells, Pt.slots] at X' e1 e2 h1 h2 h3 st
    subst h1; subst h2; subst h3
    exact Or.inl ⟨v, (T.setVm vm₁).calling g' mk (Value.ref b :: As).toArray, t, U', L, hT, X', hL, e1, e2, hq, st⟩
  · dsimp only [Pt.U, Pt.locs, Pt.cells, Pt.slots] at X' e1 e2 h1 h2 h3 st hcl
    subst h1; subst h2; subst h3
    exact Or.inr ⟨q, (T.setVm vm₁).calling g' mk (Value.ref b :: As).toArray, t, U', L, E, ce, hT, X', hL, e1, e2, hq, hce, hcv, vx_cls hW₁ hcl, st⟩
theorem vx_runS (S : CallFix p m c cc nL s args Ts own) (hM : vx_Met l y ws rm Pc Qc XC mc ms free) (cw : CallB R s args own index y bytes maxL ret ws rm mc ms n ∧ (Cond.static y).before args s = true) (hp : PreS s H Pc As)
    (hg : g.method = m) (hn : As.length = n) (hsize : g.locals.size = nL) (hstack : g.stack = As.reverse ++ rest) (hW : 2 * g.monitorRoom + (rest.map fun v => v.category).sum ≤ 8) (hdg : decode cc g.pc = .ok (.invokestatic index, 3)) (hf : cells + mc ≤ R.cells ∧ slots + ms ≤ R.slots) :
    vx_Run p l e R s m args below meth c H locs cells slots mc ms g rest (Qc As.toArray) XC free := by
  have hK : vx_Back l R p e below s args y 3 8 (PreOf R mc ms Pc) (PostOf Qc mc ms free) (vx_Post XC mc ms free) := vx_callBack cw.1 hM hp.1
  obtain ⟨⟨-, -, -, -, -, -, hcode, hini, hy, hlen, hl⟩, hstt⟩ := cw
  obtain ⟨hx, hb, hml, ho, -⟩ := S
  intro T hT X
  rcases vx_callS X hx (bytes := bytes) (maxL := maxL) (ret := ret) ho hl hstt hini hcode hy hK hg (hsize.trans hml.symm) (argsL := As) (rest := rest) (fun sig h => hn.trans (hlen sig h)) hstack hW (by rw [hb]; exact hdg)
    (fun vm₁ hW₁ => ⟨hf.1, hf.2, hp.2 (T.setVm vm₁) hT hW₁⟩) with ⟨v, vm₁, ⟨U', l2, c2, s2⟩, hW₁, X', ⟨g', mk, t, L, e1, e2, hq, h1, hL, h2, h3⟩, st⟩ | ⟨q, vm₁, ⟨U', l2, c2, s2⟩, hW₁, X', ⟨g', mk, t, L, E, ce, e1, e2, hq, hce, hcv, hcl, h1, hL, h2, h3⟩, st⟩
  · dsimp only [Pt.U, Pt.locs, Pt.cells, Pt.slots] at X' e1 e2 h1 h2 h3 st
    subst h1; subst h2; subst h3
    exact Or.inl ⟨v, (T.setVm vm₁).calling g' mk As.toArray, t, U', L, hT, X', hL, e1, e2, hq, st⟩
  · dsimp only [Pt.U, Pt.locs, Pt.cells, Pt.slots] at X' e1 e2 h1 h2 h3 st hcl
    subst h1; subst h2; subst h3
    exact Or.inr ⟨q, (T.setVm vm₁).calling g' mk As.toArray, t, U', L, E, ce, hT, X', hL, e1, e2, hq, hce, hcv, vx_cls hW₁ hcl, st⟩
end Runs
section Rows
variable {p : Program} {l : Launch} {e : Env} {R : Room} {s : State} {m : MethodId} {args : Array Value} {below : List Frame} {meth : Method} {c : Code} {H : Heap} {locs : List Loc} {cells slots : Nat} {Q : State → Prop}
variable {mc ms : Nat} {free : Addr → Prop} {A0 A1 : Nat → Prop} {H0 : Heap} {a : Array Value} {pc : Nat} {ls : Array Slot} {st0 rest : List Value}
theorem vx_keep {st₀ t T' : State} {L : List Loc} (h0 : st₀.heap = H) (e1 : T'.heap = t.heap) (hS : va_S A0 H0 H locs) (hA : ∀ q, q < H.size → A1 q → A0 q) (hf : ∀ q, free q → A0 q) (hL : ∀ q ∈ L, free q.base) (hF : va_F A1 st₀ t) :
    H.size ≤ T'.heap.size ∧ (∀ q : Nat, q < H.size → ¬ A1 q → T'.heap[q]? = H[q]?) ∧ va_S A0 H0 T'.heap (locs ++ L) := by
  obtain ⟨hz, hk⟩ := hF
  rw [h0] at hz hk
  exact ⟨by rw [e1]; exact hz, fun q h1 h2 => by rw [e1]; exact hk q h1 h2,
    ⟨Nat.le_trans hS.1 (by rw [e1]; exact hz), fun q h1 h2 => by rw [e1, hk q (Nat.lt_of_lt_of_le h1 hS.1) (fun z => h2 (hA q (Nat.lt_of_lt_of_le h1 hS.1) z))]; exact hS.2.1 q h1 h2, fun q hq => by
      rcases List.mem_append.mp hq with h | h
      · exact hS.2.2 q h
      · exact hf _ (hL q h)⟩⟩
theorem vx_calli {S SX : Type} {post : Int32 → S → Prop} {px : SX → Prop} {B : S → State → Prop} {BX : String → SX → State → Prop} {AX : Nat → Prop} (hr : vx_Run p l e R s m args below meth c H locs cells slots mc ms (F0 m pc ls st0) rest (va_Qi post B A1 a) (vx_X px BX AX) free) (hS : va_S A0 H0 H locs) (hA : ∀ q, q < H.size → A1 q → A0 q) (hf : ∀ q, free q → A0 q) (hAX : ∀ q, q < H.size → AX q → A0 q)
    (kx : ∀ (E : String) (ce : Cell) (q9 : Addr) (u : SX) (t : State) (H1 : Heap) (locs1 : List Loc), t.heap = H1 → s.vm.Alike t.vm → px u → BX E u t → H.size ≤ H1.size → (∀ q : Nat, q < H.size → ¬ AX q → H1[q]? = H[q]?) → va_S A0 H0 H1 locs1 → H1[q9]? = some ce → ce.vm = .none → s.vm.findClass E = some ce.cls → vx_W p l e R s m args below meth c H1 locs1 (cells + mc) (slots + ms) Q (F0 m pc ls rest) q9)
    (kk : ∀ (r : Int32) (u : S) (t : State) (H1 : Heap) (locs1 : List Loc), t.heap = H1 → s.vm.Alike t.vm → post r u → B u t → H.size ≤ H1.size → (∀ q : Nat, q < H.size → ¬ A1 q → H1[q]? = H[q]?) → va_S A0 H0 H1 locs1 → W p l e R s m args below meth c H1 locs1 (cells + mc) (slots + ms) Q (F0 m (pc + 3) ls (.int r :: rest))) : W p l e R s m args below meth c H locs cells slots Q (F0 m pc ls st0) := by
  intro T hT X
  rcases hr T hT X with ⟨v, st₀, t, T', L, h0, X', hL, e1, e2, ⟨⟨r, u, hv, hp, hb⟩, hF⟩, st⟩ | ⟨q, st₀, t, T', L, E, ce, h0, X', hL, e1, e2, ⟨u, hp, hb, hF⟩, hce, hcv, hcl, st⟩
  · cases hv
    obtain ⟨k1, k2, k3⟩ := vx_keep h0 e1 hS hA hf hL hF
    obtain ⟨t2, a1, b1⟩ := kk r u t T'.heap (locs ++ L) e1.symm (by rw [← e2]; exact X'.warmed.alike) hp hb k1 k2 k3 T' rfl X'
    exact ⟨t2, st t2 a1, b1⟩
  · obtain ⟨k1, k2, k3⟩ := vx_keep h0 e1 hS hAX hf hL hF
    obtain ⟨t2, a1, b1⟩ := kx E ce q u t T'.heap (locs ++ L) e1.symm (by rw [← e2]; exact X'.warmed.alike) hp hb k1 k2 k3 (by rw [e1]; exact hce) hcv hcl T' rfl X'
    exact ⟨t2, st.trans a1, b1⟩
theorem vx_calll {S SX : Type} {post : Int64 → S → Prop} {px : SX → Prop} {B : S → State → Prop} {BX : String → SX → State → Prop} {AX : Nat → Prop} (hr : vx_Run p l e R s m args below meth c H locs cells slots mc ms (F0 m pc ls st0) rest (va_Ql post B A1 a) (vx_X px BX AX) free) (hS : va_S A0 H0 H locs) (hA : ∀ q, q < H.size → A1 q → A0 q) (hf : ∀ q, free q → A0 q) (hAX : ∀ q, q < H.size → AX q → A0 q)
    (kx : ∀ (E : String) (ce : Cell) (q9 : Addr) (u : SX) (t : State) (H1 : Heap) (locs1 : List Loc), t.heap = H1 → s.vm.Alike t.vm → px u → BX E u t → H.size ≤ H1.size → (∀ q : Nat, q < H.size → ¬ AX q → H1[q]? = H[q]?) → va_S A0 H0 H1 locs1 → H1[q9]? = some ce → ce.vm = .none → s.vm.findClass E = some ce.cls → vx_W p l e R s m args below meth c H1 locs1 (cells + mc) (slots + ms) Q (F0 m pc ls rest) q9)
    (kk : ∀ (r : Int64) (u : S) (t : State) (H1 : Heap) (locs1 : List Loc), t.heap = H1 → s.vm.Alike t.vm → post r u → B u t → H.size ≤ H1.size → (∀ q : Nat, q < H.size → ¬ A1 q → H1[q]? = H[q]?) → va_S A0 H0 H1 locs1 → W p l e R s m args below meth c H1 locs1 (cells + mc) (slots + ms) Q (F0 m (pc + 3) ls (.long r :: rest))) : W p l e R s m args below meth c H locs cells slots Q (F0 m pc ls st0) := by
  intro T hT X
  rcases hr T hT X with ⟨v, st₀, t, T', L, h0, X', hL, e1, e2, ⟨⟨r, u, hv, hp, hb⟩, hF⟩, st⟩ | ⟨q, st₀, t, T', L, E, ce, h0, X', hL, e1, e2, ⟨u, hp, hb, hF⟩, hce, hcv, hcl, st⟩
  · cases hv
    obtain ⟨k1, k2, k3⟩ := vx_keep h0 e1 hS hA hf hL hF
    obtain ⟨t2, a1, b1⟩ := kk r u t T'.heap (locs ++ L) e1.symm (by rw [← e2]; exact X'.warmed.alike) hp hb k1 k2 k3 T' rfl X'
    exact ⟨t2, st t2 a1, b1⟩
  · obtain ⟨k1, k2, k3⟩ := vx_keep h0 e1 hS hAX hf hL hF
    obtain ⟨t2, a1, b1⟩ := kx E ce q u t T'.heap (locs ++ L) e1.symm (by rw [← e2]; exact X'.warmed.alike) hp hb k1 k2 k3 (by rw [e1]; exact hce) hcv hcl T' rfl X'
    exact ⟨t2, st.trans a1, b1⟩
theorem vx_callf {S SX : Type} {post : UInt32 → S → Prop} {px : SX → Prop} {B : S → State → Prop} {BX : String → SX → State → Prop} {AX : Nat → Prop} (hr : vx_Run p l e R s m args below meth c H locs cells slots mc ms (F0 m pc ls st0) rest (va_Qf post B A1 a) (vx_X px BX AX) free) (hS : va_S A0 H0 H locs) (hA : ∀ q, q < H.size → A1 q → A0 q) (hf : ∀ q, free q → A0 q) (hAX : ∀ q, q < H.size → AX q → A0 q)
    (kx : ∀ (E : String) (ce : Cell) (q9 : Addr) (u : SX) (t : State) (H1 : Heap) (locs1 : List Loc), t.heap = H1 → s.vm.Alike t.vm → px u → BX E u t → H.size ≤ H1.size → (∀ q : Nat, q < H.size → ¬ AX q → H1[q]? = H[q]?) → va_S A0 H0 H1 locs1 → H1[q9]? = some ce → ce.vm = .none → s.vm.findClass E = some ce.cls → vx_W p l e R s m args below meth c H1 locs1 (cells + mc) (slots + ms) Q (F0 m pc ls rest) q9)
    (kk : ∀ (r : UInt32) (u : S) (t : State) (H1 : Heap) (locs1 : List Loc), t.heap = H1 → s.vm.Alike t.vm → post r u → B u t → H.size ≤ H1.size → (∀ q : Nat, q < H.size → ¬ A1 q → H1[q]? = H[q]?) → va_S A0 H0 H1 locs1 → W p l e R s m args below meth c H1 locs1 (cells + mc) (slots + ms) Q (F0 m (pc + 3) ls (.float r :: rest))) : W p l e R s m args below meth c H locs cells slots Q (F0 m pc ls st0) := by
  intro T hT X
  rcases hr T hT X with ⟨v, st₀, t, T', L, h0, X', hL, e1, e2, ⟨⟨r, u, hv, hp, hb⟩, hF⟩, st⟩ | ⟨q, st₀, t, T', L, E, ce, h0, X', hL, e1, e2, ⟨u, hp, hb, hF⟩, hce, hcv, hcl, st⟩
  · cases hv
    obtain ⟨k1, k2, k3⟩ := vx_keep h0 e1 hS hA hf hL hF
    obtain ⟨t2, a1, b1⟩ := kk r u t T'.heap (locs ++ L) e1.symm (by rw [← e2]; exact X'.warmed.alike) hp hb k1 k2 k3 T' rfl X'
    exact ⟨t2, st t2 a1, b1⟩
  · obtain ⟨k1, k2, k3⟩ := vx_keep h0 e1 hS hAX hf hL hF
    obtain ⟨t2, a1, b1⟩ := kx E ce q u t T'.heap (locs ++ L) e1.symm (by rw [← e2]; exact X'.warmed.alike) hp hb k1 k2 k3 (by rw [e1]; exact hce) hcv hcl T' rfl X'
    exact ⟨t2, st.trans a1, b1⟩
theorem vx_calld {S SX : Type} {post : UInt64 → S → Prop} {px : SX → Prop} {B : S → State → Prop} {BX : String → SX → State → Prop} {AX : Nat → Prop} (hr : vx_Run p l e R s m args below meth c H locs cells slots mc ms (F0 m pc ls st0) rest (va_Qd post B A1 a) (vx_X px BX AX) free) (hS : va_S A0 H0 H locs) (hA : ∀ q, q < H.size → A1 q → A0 q) (hf : ∀ q, free q → A0 q) (hAX : ∀ q, q < H.size → AX q → A0 q)
    (kx : ∀ (E : String) (ce : Cell) (q9 : Addr) (u : SX) (t : State) (H1 : Heap) (locs1 : List Loc), t.heap = H1 → s.vm.Alike t.vm → px u → BX E u t → H.size ≤ H1.size → (∀ q : Nat, q < H.size → ¬ AX q → H1[q]? = H[q]?) → va_S A0 H0 H1 locs1 → H1[q9]? = some ce → ce.vm = .none → s.vm.findClass E = some ce.cls → vx_W p l e R s m args below meth c H1 locs1 (cells + mc) (slots + ms) Q (F0 m pc ls rest) q9)
    (kk : ∀ (r : UInt64) (u : S) (t : State) (H1 : Heap) (locs1 : List Loc), t.heap = H1 → s.vm.Alike t.vm → post r u → B u t → H.size ≤ H1.size → (∀ q : Nat, q < H.size → ¬ A1 q → H1[q]? = H[q]?) → va_S A0 H0 H1 locs1 → W p l e R s m args below meth c H1 locs1 (cells + mc) (slots + ms) Q (F0 m (pc + 3) ls (.double r :: rest))) : W p l e R s m args below meth c H locs cells slots Q (F0 m pc ls st0) := by
  intro T hT X
  rcases hr T hT X with ⟨v, st₀, t, T', L, h0, X', hL, e1, e2, ⟨⟨r, u, hv, hp, hb⟩, hF⟩, st⟩ | ⟨q, st₀, t, T', L, E, ce, h0, X', hL, e1, e2, ⟨u, hp, hb, hF⟩, hce, hcv, hcl, st⟩
  · cases hv
    obtain ⟨k1, k2, k3⟩ := vx_keep h0 e1 hS hA hf hL hF
    obtain ⟨t2, a1, b1⟩ := kk r u t T'.heap (locs ++ L) e1.symm (by rw [← e2]; exact X'.warmed.alike) hp hb k1 k2 k3 T' rfl X'
    exact ⟨t2, st t2 a1, b1⟩
  · obtain ⟨k1, k2, k3⟩ := vx_keep h0 e1 hS hAX hf hL hF
    obtain ⟨t2, a1, b1⟩ := kx E ce q u t T'.heap (locs ++ L) e1.symm (by rw [← e2]; exact X'.warmed.alike) hp hb k1 k2 k3 (by rw [e1]; exact hce) hcv hcl T' rfl X'
    exact ⟨t2, st.trans a1, b1⟩
theorem vx_callv {S SX : Type} {post : S → Prop} {px : SX → Prop} {B : S → State → Prop} {BX : String → SX → State → Prop} {AX : Nat → Prop} (hr : vx_Run p l e R s m args below meth c H locs cells slots mc ms (F0 m pc ls st0) rest (va_Qv post B A1 a) (vx_X px BX AX) free) (hS : va_S A0 H0 H locs) (hA : ∀ q, q < H.size → A1 q → A0 q) (hf : ∀ q, free q → A0 q) (hAX : ∀ q, q < H.size → AX q → A0 q)
    (kx : ∀ (E : String) (ce : Cell) (q9 : Addr) (u : SX) (t : State) (H1 : Heap) (locs1 : List Loc), t.heap = H1 → s.vm.Alike t.vm → px u → BX E u t → H.size ≤ H1.size → (∀ q : Nat, q < H.size → ¬ AX q → H1[q]? = H[q]?) → va_S A0 H0 H1 locs1 → H1[q9]? = some ce → ce.vm = .none → s.vm.findClass E = some ce.cls → vx_W p l e R s m args below meth c H1 locs1 (cells + mc) (slots + ms) Q (F0 m pc ls rest) q9)
    (kk : ∀ (u : S) (t : State) (H1 : Heap) (locs1 : List Loc), t.heap = H1 → s.vm.Alike t.vm → post u → B u t → H.size ≤ H1.size → (∀ q : Nat, q < H.size → ¬ A1 q → H1[q]? = H[q]?) → va_S A0 H0 H1 locs1 → W p l e R s m args below meth c H1 locs1 (cells + mc) (slots + ms) Q (F0 m (pc + 3) ls (rest))) : W p l e R s m args below meth c H locs cells slots Q (F0 m pc ls st0) := by
  intro T hT X
  rcases hr T hT X with ⟨v, st₀, t, T', L, h0, X', hL, e1, e2, ⟨⟨u, hv, hp, hb⟩, hF⟩, st⟩ | ⟨q, st₀, t, T', L, E, ce, h0, X', hL, e1, e2, ⟨u, hp, hb, hF⟩, hce, hcv, hcl, st⟩
  · cases hv
    obtain ⟨k1, k2, k3⟩ := vx_keep h0 e1 hS hA hf hL hF
    obtain ⟨t2, a1, b1⟩ := kk u t T'.heap (locs ++ L) e1.symm (by rw [← e2]; exact X'.warmed.alike) hp hb k1 k2 k3 T' rfl X'
    exact ⟨t2, st t2 a1, b1⟩
  · obtain ⟨k1, k2, k3⟩ := vx_keep h0 e1 hS hAX hf hL hF
    obtain ⟨t2, a1, b1⟩ := kx E ce q u t T'.heap (locs ++ L) e1.symm (by rw [← e2]; exact X'.warmed.alike) hp hb k1 k2 k3 (by rw [e1]; exact hce) hcv hcl T' rfl X'
    exact ⟨t2, st.trans a1, b1⟩
end Rows
section Ends
variable {p : Program} {l : Launch} {e : Env} {R : Room} {s : State} {m : MethodId} {args : Array Value} {below : List Frame} {meth : Method} {c : Code} {H : Heap} {locs : List Loc} {cells slots : Nat} {Q : State → Prop}
variable {mc ms : Nat} {free : Addr → Prop} {A0 A1 : Nat → Prop} {H0 : Heap} {a : Array Value} {ls : Array Slot} {st0 rest : List Value}
variable {Qc : Array Value → State → Outcome → State → Prop} {XC : String → State → State → Prop}
/-- what a body that may throw owes at its end -/
def vx_MQ (below : List Frame) (Qc : Array Value → State → Outcome → State → Prop) (XC : String → State → State → Prop) (a : Array Value) (s : State) (mc ms : Nat) (free : Addr → Prop) : State → Prop := fun t =>
  ∃ o, t.status = .running ∧ Ended t below o ∧ vx_Q Qc XC mc ms free a s o t
theorem vx_ret {g : JFrame} {mc ms : Nat} (k : W p l e R s m args below meth c H locs cells slots (MQ below Qc args s mc ms free) g) : W p l e R s m args below meth c H locs cells slots (vx_MQ below Qc XC args s mc ms free) g := by
  intro T hT X
  obtain ⟨t, a1, o, b1, b2, b3, b4⟩ := k T hT X
  exact ⟨t, a1, o, b1, b2, Or.inl ⟨b3, b4⟩⟩
/-- not caught here: it goes on to the caller -/
theorem vx_widen {g : JFrame} {q : Addr} {k n : Nat} (h1 : cells ≤ k) (h2 : slots ≤ n) (kk : vx_W p l e R s m args below meth c H locs k n Q g q) : vx_W p l e R s m args below meth c H locs cells slots Q g q := fun T hT X => kk T hT (stand_widen X h1 h2)
theorem vx_out {pc : Nat} {E : String} {ce : Cell} {q : Addr} {mc ms : Nat} (hout : ∀ x ∈ c.exceptionTable.toList, covers x pc = false) (hlocks : meth.locks = false) (hcell : H[q]? = some ce) (hv : ce.vm = .none) (hcl : s.vm.findClass E = some ce.cls)
    (hx : ∀ t : State, t.heap = H → s.vm.Alike t.vm → XC E s t) (hf : ∀ z ∈ locs, free z.base) (hc : cells ≤ mc) (hs : slots ≤ ms) :
    vx_W p l e R s m args below meth c H locs cells slots (vx_MQ below Qc XC args s mc ms free) (F0 m pc ls rest) q := by
  intro T hT X
  obtain ⟨st1, hrun, hend, hW, hsm⟩ := X.leaveThrown q (g := F0 m pc ls rest) rfl rfl rfl hout hlocks
  have hcell9 : (T.setFrames (.throwing q :: below)).heap[q]? = some ce := by
    show T.heap[q]? = some ce
    rw [hT]; exact hcell
  exact ⟨_, st1, .threw q, hrun, hend, Or.inr ⟨q, rfl, E, ce, locs, hx _ hT hW.alike, hcell9, hv, hcl, hW, hsm.mono hc hs, hf⟩⟩
theorem vx_frame {U : State} {k n : Nat} (h : s.sameButNew ({ U with vm := s.vm } : State) locs k n) : s.heap.size ≤ U.heap.size ∧ ∀ q : Nat, q < s.heap.size → (∀ z ∈ locs, z.base ≠ q) → U.heap[q]? = s.heap[q]? := by
  obtain ⟨-, h2, -, -, -, h6⟩ := h
  refine ⟨h2, fun q hq hz => ?_⟩
  obtain ⟨c9, e1, e2, e3, e4⟩ := h6 q _ (Array.getElem?_eq_getElem hq)
  have hs : c9.slots = (s.heap[q]).slots := Array.ext_getElem? fun i => e4 i fun hm => hz _ hm rfl
  have h9 : c9 = s.heap[q] := by
    rw [hs] at e2
    exact e2
  have e5 : U.heap[q]? = some c9 := e1
  rw [e5, h9, Array.getElem?_eq_getElem hq]
end Ends
section Bodies
variable {l : Launch}
theorem vx_ofW {y : MethodName} {ws ws' : List Cond} {rm : Room} {Pc : Array Value → State → Prop} {Qc : Array Value → State → Outcome → State → Prop} {XC : String → State → State → Prop} {mc ms : Nat} {free : Addr → Prop} {cc : ByteArray} {maxL : Nat} {ret : Option FieldType}
    (hy : plainName y.cls = true) (hw : ws = Cond.code y cc maxL ret :: ws')
    (body : ∀ p e s m args below meth c s₁, BodyLoose p l y (headSpec ws rm) cc maxL ret e s m args below meth c s₁ → c.maxLocals = maxL → (∀ x ∈ c.exceptionTable.toList, False) → Pc args s →
      W p l e (headSpec ws rm).room s m args below meth c s.heap [] 0 0 (vx_MQ below Qc XC args s mc ms free) (entryFrame m args maxL)) : vx_Met l y ws rm Pc Qc XC mc ms free := by
  refine MetFree.of_bodyS (code := cc) (maxLocals := maxL) (ret := ret) hy ?_ ?_
  · intro args s m h hn
    obtain ⟨meth, c, h1, h2, h3, h4, h5, h6, -, -⟩ := Cond.code_spec hn (atoms_spec (ws := ws) h _ (by rw [hw]; exact List.mem_cons_self))
    exact ⟨meth, c, h1, h2, h3, h4, h5, h6⟩
  · intro p e s m args below meth c s₁ B hml hP _
    have hh0 : s₁.heap = s.heap := by rw [B.state]; rfl
    have ht : ∀ x ∈ c.exceptionTable.toList, False := by
      obtain ⟨meth9, c9, h1, h2, -, -, -, -, h7, -⟩ := Cond.code_spec B.named (atoms_spec (ws := ws) B.pre _ (by rw [hw]; exact List.mem_cons_self))
      cases Option.some.inj (h1.symm.trans B.method)
      cases Option.some.inj (h2.symm.trans (Stand.of_body B).code)
      intro x hx
      rw [Array.isEmpty_iff.mp h7] at hx
      cases hx
    obtain ⟨t, a1, o, b1, b2, b3⟩ := body p e s m args below meth c s₁ B hml ht hP s₁ hh0 (Stand.of_body B)
    exact ⟨t, o, a1, b1, b2, b3⟩
/-- the table of a body with handlers -/
theorem vx_table {p : Program} {x y : MethodName} {S : Spec} {cc bytes : ByteArray} {maxL maxL' : Nat} {ret ret' : Option FieldType} {e : Env} {s s₁ : State} {m : MethodId} {args : Array Value} {below : List Frame} {meth : Method} {c : Code} {hh : List (Nat × Nat × Nat × Nat)}
    (B : BodyLoose p l y S cc maxL ret e s m args below meth c s₁) (h : (Cond.codeWith y bytes maxL' ret' hh).before args s = true) : c.exceptionTable.toList = tableOf hh := by
  obtain ⟨m9, meth9, c9, hn9, h1, h2, -, -, h6, -⟩ := Cond.codeWith_spec h
  cases Option.some.inj (hn9.symm.trans B.named)
  cases Option.some.inj (h1.symm.trans B.method)
  cases Option.some.inj (h2.symm.trans (Stand.of_body B).code)
  rw [← h6, table_eq]
end Bodies
end VXA
/-! ===== BEGIN a static call of a method with an exception table ===== -/
section VXS
variable {p : Program} {l : Launch} {e : Env} {R : Room} {s : State} {m : MethodId} {args : Array Value} {below : List Frame} {meth : Method} {c : Code} {T : State} {H : Heap} {locs : List Loc} {cells slots : Nat}
abbrev vx_CSW (R : Room) (s : State) (args : Array Value) (own : String) (index : Nat) (y : MethodName) (bytes : ByteArray) (maxL : Nat) (ret : Option FieldType) (hh : List (Nat × Nat × Nat × Nat)) (ws : List Cond) (rm : Room) (mc ms n : Nat) : Prop :=
  (rm.cells = mc ∧ rm.slots = ms ∧ rm.frames + 1 ≤ R.frames ∧ 8 + (maxL + 11) + rm.locals ≤ R.locals ∧ (∀ w ∈ ws, ∀ (a' : Array Value) (U : State), s.WarmedH U.vm → w.before a' U = true) ∧ Cond.codeWith y bytes maxL ret hh ∈ ws) ∧
  (Cond.codeWith y bytes maxL ret hh).before args s = true ∧ (Cond.initialized y.cls).before args s = true ∧ (y.cls ≠ "java/lang/invoke/MethodHandle" ∧ y.cls ≠ "java/lang/invoke/VarHandle") ∧
  (∀ sig, parseMethodDescriptor y.desc = some sig → n = sig.parameters.length) ∧ (Cond.methodLink own index y).before args s = true ∧ (Cond.static y).before args s = true
theorem vx_cwSW {own : String} {index maxL mc ms : Nat} {y : MethodName} {bytes : ByteArray} {ret : Option FieldType} {hh : List (Nat × Nat × Nat × Nat)} {Ts ws ws' : List Cond} {rm : Room} (n : Nat) (ht : ∀ w ∈ Ts, w.before args s = true) (hT : GoodIn Ts (va_wsS own index y ws)) (hw : ws = Cond.codeWith y bytes maxL ret hh :: ws') (hrc : rm.cells = mc) (hrs : rm.slots = ms)
    (hd : y.cls ≠ "java/lang/invoke/MethodHandle" ∧ y.cls ≠ "java/lang/invoke/VarHandle" ∧ (parseMethodDescriptor y.desc).map (fun d => d.parameters.length) = some n) (hR : rm.frames + 1 ≤ R.frames ∧ 8 + (maxL + 11) + rm.locals ≤ R.locals) :
    vx_CSW R s args own index y bytes maxL ret hh ws rm mc ms n := by
  have ok : ∀ w ∈ va_wsS own index y ws, w.before args s = true := fun w h => ht w (hT w h).1
  have hG : GoodIn Ts ws := fun w h => hT w (by unfold va_wsS; exact List.mem_append_right _ h)
  have hc : Cond.codeWith y bytes maxL ret hh ∈ ws := by rw [hw]; exact List.mem_cons_self
  refine ⟨⟨hrc, hrs, hR.1, hR.2, pay_in ht hG, hc⟩, ht _ (hG _ hc).1, ok _ (by simp [va_wsS]), ⟨hd.1, hd.2.1⟩, fun sig h => ?_, ok _ (by simp [va_wsS]), ok _ (by simp [va_wsS])⟩
  have h2 := hd.2.2
  rw [h] at h2
  exact (Option.some.inj h2).symm
theorem vx_callSW (X : Stand p l e R s m args below meth c T locs cells slots) (hexec : p.tables.exec = Jvm.exec) {own : String} {index : Nat} {y : MethodName} {bytes : ByteArray} {maxL : Nat} {ret : Option FieldType} {hh : List (Nat × Nat × Nat × Nat)}
    (hown : s.vm.findClass own = some m.cls) (hlink : (Cond.methodLink own index y).before args s = true) (hstat : (Cond.static y).before args s = true) (hinit : (Cond.initialized y.cls).before args s = true)
    (hcode : (Cond.codeWith y bytes maxL ret hh).before args s = true) (hy : y.cls ≠ "java/lang/invoke/MethodHandle" ∧ y.cls ≠ "java/lang/invoke/VarHandle")
    {W9 : Nat} {Pre : Pt → Array Value → Prop} {Post : Pt → Array Value → Option Value → Pt → Prop} (hK : Back l R p e below s args y 3 W9 Pre Post)
    {g : JFrame} (hg : g.method = m) (hsize : g.locals.size = c.maxLocals) {argsL rest : List Value} (hlen : ∀ sig, parseMethodDescriptor y.desc = some sig → argsL.length = sig.parameters.length)
    (hstack : g.stack = argsL.reverse ++ rest) (hW : 2 * g.monitorRoom + (rest.map fun v => v.category).sum ≤ W9) (hdg : decode c.code g.pc = .ok (.invokestatic index, 3))
    (hpre : ∀ vm₁, s.WarmedH vm₁ → Pre ⟨T.setVm vm₁, locs, cells, slots⟩ argsL.toArray) :
    ∃ (v : Option Value) (vm₁ : Vm) (B : Pt), s.WarmedH vm₁ ∧ Stand p l e R s m args below meth c B.U B.locs B.cells B.slots ∧ Post ⟨T.setVm vm₁, locs, cells, slots⟩ argsL.toArray v B ∧
      ∀ target, Steps p.tables e below (B.U.setTop { g with pc := g.pc + 3, stack := v.toList ++ rest }) target → Steps p.tables e below (T.setTop g) target := by
  obtain ⟨mk, methM, cM, hnamed, hmethM, -, -, -, -, -, -, hsigM⟩ := Cond.codeWith_spec hcode
  have hstatic : methM.isStatic = true := Cond.static_spec hnamed hmethM hstat
  obtain ⟨kP, hkP, -⟩ := className_of_methodNamed hnamed
  have hinitP : kP.init = .initialized := Cond.initialized_spec (findClass_of_methodNamed hnamed) hkP hinit
  obtain ⟨vm₁, X₁, hstep₁⟩ := X.invokestatic hexec hown hlink hnamed hmethM hstatic hkP hinitP hy (g := g) hg (argsL := argsL) (rest := rest) (hlen _ hsigM) hstack hdg
  obtain ⟨v, B, X', hpost, hsteps⟩ := hK m meth c ⟨T.setVm vm₁, locs, cells, slots⟩ { g with stack := rest } (.invokestatic index) mk argsL.toArray X₁ hg hsize hdg hW (X₁.named hnamed) (hpre vm₁ X₁.warmed)
  exact ⟨v, vm₁, B, X₁.warmed, X', hpost, fun target h => hstep₁ _ fun acts => by rw [doInvoke_state]; exact hsteps.trans h⟩
theorem vx_runSW {y : MethodName} {bytes cc : ByteArray} {maxL nL mc ms n index : Nat} {ret : Option FieldType} {hh : List (Nat × Nat × Nat × Nat)} {ws : List Cond} {rm : Room} {Pc : Array Value → State → Prop} {Qc : Array Value → State → Outcome → State → Prop} {free : Addr → Prop} {Ts : List Cond} {own : String} {As rest : List Value} {g : JFrame}
    (S : CallFix p m c cc nL s args Ts own) (hM : Met l y ws rm Pc Qc mc ms free) (cw : vx_CSW R s args own index y bytes maxL ret hh ws rm mc ms n) (hp : PreS s H Pc As)
    (hg : g.method = m) (hn : As.length = n) (hsize : g.locals.size = nL) (hstack : g.stack = As.reverse ++ rest) (hW : 2 * g.monitorRoom + (rest.map fun v => v.category).sum ≤ 8) (hdg : decode cc g.pc = .ok (.invokestatic index, 3)) (hf : cells + mc ≤ R.cells ∧ slots + ms ≤ R.slots) :
    va_Run p l e R s m args below meth c H locs cells slots mc ms g rest (Qc As.toArray) (free) := by
  obtain ⟨⟨hrc, hrs, hfr, hlo, hws, hcw⟩, hcode, hini, hy, hlen, hl, hstt⟩ := cw
  have hK : Back l R p e below s args y 3 8 (PreOf R mc ms Pc) (PostOf Qc mc ms free) := va_backW (hh := hh) (bytes := bytes) (maxL := maxL) (ret := ret) hM hp.1 hrc hrs hfr hlo hws hcw (fun a' U hW => word_at hW (Or.inl (by first | rfl | simp [Cond.onTables, Cond.keeps, Cond.steady])) hini)
  obtain ⟨hx, hb, hml, ho, -⟩ := S
  intro T hT X
  obtain ⟨v, vm₁, ⟨U', l2, c2, s2⟩, hW₁, X', ⟨g', mk, t, L, e1, e2, hq, h1, hL, h2, h3⟩, st⟩ := vx_callSW X hx (hh := hh) (bytes := bytes) (maxL := maxL) (ret := ret) ho hl hstt hini hcode hy hK hg (hsize.trans hml.symm) (argsL := As) (rest := rest) (fun sig h => hn.trans (hlen sig h)) hstack hW (by rw [hb]; exact hdg)
    (fun vm₁ hW₁ => ⟨hf.1, hf.2, hp.2 (T.setVm vm₁) hT hW₁⟩)
  dsimp only [Pt.U, Pt.locs, Pt.cells, Pt.slots] at X' e1 e2 h1 h2 h3 st
  subst h1; subst h2; subst h3
  exact ⟨v, (T.setVm vm₁).calling g' mk As.toArray, t, U', L, hT, X', hL, e1, e2, hq, st⟩
end VXS
theorem vx_ofWH {l : Launch} {y : MethodName} {ws ws' : List Cond} {rm : Room} {Pc : Array Value → State → Prop} {Qc : Array Value → State → Outcome → State → Prop} {XC : String → State → State → Prop} {mc ms : Nat} {free : Addr → Prop} {cc : ByteArray} {maxL : Nat} {ret : Option FieldType} {hh : List (Nat × Nat × Nat × Nat)}
    (hy : plainName y.cls = true) (hw : ws = Cond.codeWith y cc maxL ret hh :: ws')
    (body : ∀ p e s m args below meth c s₁, BodyLoose p l y (headSpec ws rm) cc maxL ret e s m args below meth c s₁ → c.maxLocals = maxL → Pc args s →
      W p l e (headSpec ws rm).room s m args below meth c s.heap [] 0 0 (vx_MQ below Qc XC args s mc ms free) (entryFrame m args maxL)) : vx_Met l y ws rm Pc Qc XC mc ms free := by
  refine MetFree.of_bodyS (code := cc) (maxLocals := maxL) (ret := ret) hy ?_ ?_
  · intro args s m h hn
    obtain ⟨m9, meth, c, hn9, h1, h2, h3, h4, -, h5, h6, -⟩ := Cond.codeWith_spec (atoms_spec (ws := ws) h _ (by rw [hw]; exact List.mem_cons_self))
    cases hn.symm.trans hn9
    exact ⟨meth, c, h1, h2, h3, h4, h5, h6⟩
  · intro p e s m args below meth c s₁ B hml hP _
    have hh0 : s₁.heap = s.heap := by rw [B.state]; rfl
    obtain ⟨t, a1, o, b1, b2, b3⟩ := body p e s m args below meth c s₁ B hml hP s₁ hh0 (Stand.of_body B)
    exact ⟨t, o, a1, b1, b2, b3⟩
end
section
/-! ===== BEGIN printed: names, fields, word lists, decode rows ===== -/
def RX0 : String := "HumanSteps$Colours"
def TX0 : u_T := fun k => match k with
  | 0 => ("HumanSteps$Colours", "marks", "[I", true)
  | 1 => ("HumanSteps$Colours", "joined", "[I", true)
  | _ => ("HumanSteps$Colours", "size", "I", false)
def tyX0 : Nat → FieldType := fun k => match k with
  | 0 => .array .int
  | 1 => .array .int
  | _ => .int
abbrev wsX00 : List Cond := u_ws RX0 TX0 3
theorem nmX0 : ∀ a, a < 3 → ∀ b, b < 3 → a ≠ b → (TX0 a).2.1 ≠ (TX0 b).2.1 := by decide +kernel
theorem tyX0_ok : ∀ k, k < 3 → parseFieldDescriptor (TX0 k).2.2.1 = some (tyX0 k) := by decide +kernel
abbrev cX0_init : ByteArray := prog_2_method_1_code
def yX0_init : MethodName := ⟨RX0, "<init>", "(I)V"⟩
abbrev cX0_look : ByteArray := prog_2_method_2_code
def yX0_look : MethodName := ⟨RX0, "look", "(LHumanSteps$Grid;LHumanSteps$Finding;)Z"⟩
abbrev cX0_join : ByteArray := prog_2_method_3_code
def yX0_join : MethodName := ⟨RX0, "join", "(LHumanSteps$Grid;II)V"⟩
abbrev cX0_colour : ByteArray := prog_2_method_4_code
def yX0_colour : MethodName := ⟨RX0, "colour", "(II)V"⟩
abbrev cX0_linkedCell : ByteArray := prog_2_method_5_code
def yX0_linkedCell : MethodName := ⟨RX0, "linkedCell", "(LHumanSteps$Grid;III)I"⟩
abbrev cX0_takes : ByteArray := prog_2_method_6_code
def yX0_takes : MethodName := ⟨RX0, "takes", "(LHumanSteps$Grid;LHumanSteps$Finding;I)Z"⟩
abbrev cX0_clash : ByteArray := prog_2_method_7_code
def yX0_clash : MethodName := ⟨RX0, "clash", "(LHumanSteps$Grid;I)Z"⟩
abbrev cX0_strikeColour : ByteArray := prog_2_method_8_code
def yX0_strikeColour : MethodName := ⟨RX0, "strikeColour", "(LHumanSteps$Finding;II)V"⟩
abbrev cX0_strikeOthers : ByteArray := prog_2_method_9_code
def yX0_strikeOthers : MethodName := ⟨RX0, "strikeOthers", "(LHumanSteps$Grid;LHumanSteps$Finding;I)V"⟩
abbrev cX0_leaveBehind : ByteArray := prog_2_method_10_code
def yX0_leaveBehind : MethodName := ⟨RX0, "leaveBehind", "()V"⟩
def RX1 : String := "HumanSteps$Finding"
def TX1 : u_T := fun k => match k with
  | 0 => ("HumanSteps$Finding", "going", "[I", true)
  | 1 => ("HumanSteps$Finding", "reason", "[I", true)
  | 2 => ("HumanSteps$Finding", "step", "I", false)
  | 3 => ("HumanSteps$Finding", "cell", "I", false)
  | 4 => ("HumanSteps$Finding", "symbol", "I", false)
  | 5 => ("HumanSteps$Finding", "goers", "I", false)
  | _ => ("HumanSteps$Finding", "reasons", "I", false)
def tyX1 : Nat → FieldType := fun k => match k with
  | 0 => .array .int
  | 1 => .array .int
  | 2 => .int
  | 3 => .int
  | 4 => .int
  | 5 => .int
  | _ => .int
abbrev wsX10 : List Cond := u_ws RX1 TX1 7
theorem nmX1 : ∀ a, a < 7 → ∀ b, b < 7 → a ≠ b → (TX1 a).2.1 ≠ (TX1 b).2.1 := by decide +kernel
theorem tyX1_ok : ∀ k, k < 7 → parseFieldDescriptor (TX1 k).2.2.1 = some (tyX1 k) := by decide +kernel
abbrev cX1_init : ByteArray := prog_3_method_1_code
def yX1_init : MethodName := ⟨RX1, "<init>", "(I)V"⟩
abbrev cX1_clear : ByteArray := prog_3_method_2_code
def yX1_clear : MethodName := ⟨RX1, "clear", "()V"⟩
abbrev cX1_strike : ByteArray := prog_3_method_3_code
def yX1_strike : MethodName := ⟨RX1, "strike", "(II)V"⟩
abbrev cX1_because : ByteArray := prog_3_method_4_code
def yX1_because : MethodName := ⟨RX1, "because", "(I)V"⟩
abbrev cX1_goer : ByteArray := prog_3_method_5_code
def yX1_goer : MethodName := ⟨RX1, "goer", "(II)I"⟩
abbrev cX1_nthBit : ByteArray := prog_3_method_6_code
def yX1_nthBit : MethodName := ⟨RX1, "nthBit", "(II)I"⟩
def RX2 : String := "HumanSteps$Grid"
def TX2 : u_T := fun k => match k with
  | 0 => ("HumanSteps$Grid", "n", "I", true)
  | 1 => ("HumanSteps$Grid", "cells", "I", true)
  | 2 => ("HumanSteps$Grid", "houses", "I", true)
  | 3 => ("HumanSteps$Grid", "candidates", "[I", true)
  | 4 => ("HumanSteps$Grid", "value", "[I", true)
  | 5 => ("HumanSteps$Grid", "cellAt", "[I", true)
  | 6 => ("HumanSteps$Grid", "houseOf", "[I", true)
  | 7 => ("HumanSteps$Grid", "placeOf", "[I", true)
  | _ => ("HumanSteps$Grid", "placeBits", "[I", true)
def tyX2 : Nat → FieldType := fun k => match k with
  | 0 => .int
  | 1 => .int
  | 2 => .int
  | 3 => .array .int
  | 4 => .array .int
  | 5 => .array .int
  | 6 => .array .int
  | 7 => .array .int
  | _ => .array .int
abbrev wsX20 : List Cond := u_ws RX2 TX2 9
theorem nmX2 : ∀ a, a < 9 → ∀ b, b < 9 → a ≠ b → (TX2 a).2.1 ≠ (TX2 b).2.1 := by decide +kernel
theorem tyX2_ok : ∀ k, k < 9 → parseFieldDescriptor (TX2 k).2.2.1 = some (tyX2 k) := by decide +kernel
abbrev cX2_init : ByteArray := prog_4_method_1_code
def yX2_init : MethodName := ⟨RX2, "<init>", "(I)V"⟩
abbrev cX2_layLines : ByteArray := prog_4_method_2_code
def yX2_layLines : MethodName := ⟨RX2, "layLines", "()V"⟩
abbrev cX2_layBoxes : ByteArray := prog_4_method_3_code
def yX2_layBoxes : MethodName := ⟨RX2, "layBoxes", "(II)V"⟩
abbrev cX2_lay : ByteArray := prog_4_method_4_code
def yX2_lay : MethodName := ⟨RX2, "lay", "(IIII)V"⟩
abbrev cX2_fill : ByteArray := prog_4_method_5_code
def yX2_fill : MethodName := ⟨RX2, "fill", "()V"⟩
abbrev cX2_cell : ByteArray := prog_4_method_6_code
def yX2_cell : MethodName := ⟨RX2, "cell", "(II)I"⟩
abbrev cX2_house : ByteArray := prog_4_method_7_code
def yX2_house : MethodName := ⟨RX2, "house", "(II)I"⟩
abbrev cX2_rowOf : ByteArray := prog_4_method_8_code
def yX2_rowOf : MethodName := ⟨RX2, "rowOf", "(I)I"⟩
abbrev cX2_columnOf : ByteArray := prog_4_method_9_code
def yX2_columnOf : MethodName := ⟨RX2, "columnOf", "(I)I"⟩
abbrev cX2_places : ByteArray := prog_4_method_10_code
def yX2_places : MethodName := ⟨RX2, "places", "(II)I"⟩
abbrev cX2_isOpen : ByteArray := prog_4_method_11_code
def yX2_isOpen : MethodName := ⟨RX2, "isOpen", "(I)Z"⟩
abbrev cX2_isIn : ByteArray := prog_4_method_12_code
def yX2_isIn : MethodName := ⟨RX2, "isIn", "(II)Z"⟩
abbrev cX2_see : ByteArray := prog_4_method_13_code
def yX2_see : MethodName := ⟨RX2, "see", "(II)Z"⟩
abbrev cX2_drop : ByteArray := prog_4_method_14_code
def yX2_drop : MethodName := ⟨RX2, "drop", "(II)V"⟩
abbrev cX2_giveBack : ByteArray := prog_4_method_15_code
def yX2_giveBack : MethodName := ⟨RX2, "giveBack", "(II)V"⟩
abbrev cX2_isBroken : ByteArray := prog_4_method_16_code
def yX2_isBroken : MethodName := ⟨RX2, "isBroken", "()Z"⟩
abbrev cX2_openCells : ByteArray := prog_4_method_17_code
def yX2_openCells : MethodName := ⟨RX2, "openCells", "()I"⟩
abbrev cX2_openCandidates : ByteArray := prog_4_method_18_code
def yX2_openCandidates : MethodName := ⟨RX2, "openCandidates", "()I"⟩
def RX3 : String := "HumanSteps$History"
def TX3 : u_T := fun k => match k with
  | 0 => ("HumanSteps$History", "gone", "[I", true)
  | 1 => ("HumanSteps$History", "steps", "[I", true)
  | 2 => ("HumanSteps$History", "setCells", "[I", true)
  | 3 => ("HumanSteps$History", "ends", "[I", true)
  | 4 => ("HumanSteps$History", "size", "I", false)
  | _ => ("HumanSteps$History", "depth", "I", false)
def tyX3 : Nat → FieldType := fun k => match k with
  | 0 => .array .int
  | 1 => .array .int
  | 2 => .array .int
  | 3 => .array .int
  | 4 => .int
  | _ => .int
abbrev wsX30 : List Cond := u_ws RX3 TX3 6
theorem nmX3 : ∀ a, a < 6 → ∀ b, b < 6 → a ≠ b → (TX3 a).2.1 ≠ (TX3 b).2.1 := by decide +kernel
theorem tyX3_ok : ∀ k, k < 6 → parseFieldDescriptor (TX3 k).2.2.1 = some (tyX3 k) := by decide +kernel
abbrev cX3_init : ByteArray := prog_5_method_1_code
def yX3_init : MethodName := ⟨RX3, "<init>", "(I)V"⟩
abbrev cX3_mostSteps : ByteArray := prog_5_method_2_code
def yX3_mostSteps : MethodName := ⟨RX3, "mostSteps", "()I"⟩
abbrev cX3_clear : ByteArray := prog_5_method_3_code
def yX3_clear : MethodName := ⟨RX3, "clear", "()V"⟩
abbrev cX3_note : ByteArray := prog_5_method_4_code
def yX3_note : MethodName := ⟨RX3, "note", "(II)V"⟩
abbrev cX3_close : ByteArray := prog_5_method_5_code
def yX3_close : MethodName := ⟨RX3, "close", "(II)V"⟩
abbrev cX3_takeBack : ByteArray := prog_5_method_6_code
def yX3_takeBack : MethodName := ⟨RX3, "takeBack", "(LHumanSteps$Grid;)I"⟩
def RX4 : String := "HumanSteps$Name"
def TX4 : u_T := fun k => match k with
  | _ => ("", "", "", false)
def tyX4 : Nat → FieldType := fun k => match k with
  | _ => .int
abbrev wsX40 : List Cond := u_ws RX4 TX4 0
theorem nmX4 : ∀ a, a < 0 → ∀ b, b < 0 → a ≠ b → (TX4 a).2.1 ≠ (TX4 b).2.1 := by decide +kernel
theorem tyX4_ok : ∀ k, k < 0 → parseFieldDescriptor (TX4 k).2.2.1 = some (tyX4 k) := by decide +kernel
def RX5 : String := "HumanSteps$Seeker"
def TX5 : u_T := fun k => match k with
  | 0 => ("HumanSteps$Seeker", "grid", "LHumanSteps$Grid;", true)
  | 1 => ("HumanSteps$Seeker", "finding", "LHumanSteps$Finding;", true)
  | 2 => ("HumanSteps$Seeker", "n", "I", true)
  | 3 => ("HumanSteps$Seeker", "sets", "LHumanSteps$Sets;", true)
  | 4 => ("HumanSteps$Seeker", "colours", "LHumanSteps$Colours;", true)
  | _ => ("HumanSteps$Seeker", "masks", "[I", true)
def tyX5 : Nat → FieldType := fun k => match k with
  | 0 => .object "HumanSteps$Grid"
  | 1 => .object "HumanSteps$Finding"
  | 2 => .int
  | 3 => .object "HumanSteps$Sets"
  | 4 => .object "HumanSteps$Colours"
  | _ => .array .int
abbrev wsX50 : List Cond := u_ws RX5 TX5 6
theorem nmX5 : ∀ a, a < 6 → ∀ b, b < 6 → a ≠ b → (TX5 a).2.1 ≠ (TX5 b).2.1 := by decide +kernel
theorem tyX5_ok : ∀ k, k < 6 → parseFieldDescriptor (TX5 k).2.2.1 = some (tyX5 k) := by decide +kernel
abbrev cX5_init : ByteArray := prog_7_method_1_code
def yX5_init : MethodName := ⟨RX5, "<init>", "(I)V"⟩
abbrev cX5_seek : ByteArray := prog_7_method_2_code
def yX5_seek : MethodName := ⟨RX5, "seek", "(I)Z"⟩
abbrev cX5_settle : ByteArray := prog_7_method_3_code
def yX5_settle : MethodName := ⟨RX5, "settle", "(II)V"⟩
abbrev cX5_strikePlaces : ByteArray := prog_7_method_4_code
def yX5_strikePlaces : MethodName := ⟨RX5, "strikePlaces", "(III)V"⟩
abbrev cX5_takesSome : ByteArray := prog_7_method_5_code
def yX5_takesSome : MethodName := ⟨RX5, "takesSome", "()Z"⟩
abbrev cX5_becauseOf : ByteArray := prog_7_method_6_code
def yX5_becauseOf : MethodName := ⟨RX5, "becauseOf", "(II)V"⟩
abbrev cX5_last : ByteArray := prog_7_method_7_code
def yX5_last : MethodName := ⟨RX5, "last", "()Z"⟩
abbrev cX5_onlyPlace : ByteArray := prog_7_method_8_code
def yX5_onlyPlace : MethodName := ⟨RX5, "onlyPlace", "(I)Z"⟩
abbrev cX5_isOpenIn : ByteArray := prog_7_method_9_code
def yX5_isOpenIn : MethodName := ⟨RX5, "isOpenIn", "(II)Z"⟩
abbrev cX5_pointing : ByteArray := prog_7_method_10_code
def yX5_pointing : MethodName := ⟨RX5, "pointing", "()Z"⟩
abbrev cX5_claiming : ByteArray := prog_7_method_11_code
def yX5_claiming : MethodName := ⟨RX5, "claiming", "()Z"⟩
abbrev cX5_confined : ByteArray := prog_7_method_12_code
def yX5_confined : MethodName := ⟨RX5, "confined", "(III)Z"⟩
abbrev cX5_sharedHouse : ByteArray := prog_7_method_13_code
def yX5_sharedHouse : MethodName := ⟨RX5, "sharedHouse", "(III)I"⟩
abbrev cX5_nakedSet : ByteArray := prog_7_method_14_code
def yX5_nakedSet : MethodName := ⟨RX5, "nakedSet", "(I)Z"⟩
abbrev cX5_hiddenSet : ByteArray := prog_7_method_15_code
def yX5_hiddenSet : MethodName := ⟨RX5, "hiddenSet", "(I)Z"⟩
abbrev cX5_crossing : ByteArray := prog_7_method_16_code
def yX5_crossing : MethodName := ⟨RX5, "crossing", "(II)Z"⟩
abbrev cX5_crossingAt : ByteArray := prog_7_method_17_code
def yX5_crossingAt : MethodName := ⟨RX5, "crossingAt", "(III)Z"⟩
abbrev cX5_fitItems : ByteArray := prog_7_method_18_code
def yX5_fitItems : MethodName := ⟨RX5, "fitItems", "(I)I"⟩
abbrev cX5_isCovered : ByteArray := prog_7_method_19_code
def yX5_isCovered : MethodName := ⟨RX5, "isCovered", "(III)Z"⟩
abbrev cX5_unionOf : ByteArray := prog_7_method_20_code
def yX5_unionOf : MethodName := ⟨RX5, "unionOf", "(I)I"⟩
abbrev cX5_wing : ByteArray := prog_7_method_21_code
def yX5_wing : MethodName := ⟨RX5, "wing", "(I)Z"⟩
abbrev cX5_isWingtip : ByteArray := prog_7_method_22_code
def yX5_isWingtip : MethodName := ⟨RX5, "isWingtip", "(II)Z"⟩
abbrev cX5_wingAt : ByteArray := prog_7_method_23_code
def yX5_wingAt : MethodName := ⟨RX5, "wingAt", "(IIII)Z"⟩
abbrev cX5_onlyOneAnswer : ByteArray := prog_7_method_24_code
def yX5_onlyOneAnswer : MethodName := ⟨RX5, "onlyOneAnswer", "()Z"⟩
abbrev cX5_rectangleAt : ByteArray := prog_7_method_25_code
def yX5_rectangleAt : MethodName := ⟨RX5, "rectangleAt", "(IIII)Z"⟩
abbrev cX5_isInTwoBoxes : ByteArray := prog_7_method_26_code
def yX5_isInTwoBoxes : MethodName := ⟨RX5, "isInTwoBoxes", "(III)Z"⟩
abbrev cX5_fourth : ByteArray := prog_7_method_27_code
def yX5_fourth : MethodName := ⟨RX5, "fourth", "(IIII)Z"⟩
def RX6 : String := "HumanSteps$Sets"
def TX6 : u_T := fun k => match k with
  | 0 => ("HumanSteps$Sets", "n", "I", true)
  | 1 => ("HumanSteps$Sets", "bits", "[I", true)
  | 2 => ("HumanSteps$Sets", "starts", "[I", true)
  | _ => ("HumanSteps$Sets", "size", "I", false)
def tyX6 : Nat → FieldType := fun k => match k with
  | 0 => .int
  | 1 => .array .int
  | 2 => .array .int
  | _ => .int
abbrev wsX60 : List Cond := u_ws RX6 TX6 4
theorem nmX6 : ∀ a, a < 4 → ∀ b, b < 4 → a ≠ b → (TX6 a).2.1 ≠ (TX6 b).2.1 := by decide +kernel
theorem tyX6_ok : ∀ k, k < 4 → parseFieldDescriptor (TX6 k).2.2.1 = some (tyX6 k) := by decide +kernel
abbrev cX6_init : ByteArray := prog_8_method_1_code
def yX6_init : MethodName := ⟨RX6, "<init>", "(I)V"⟩
abbrev cX6_gather : ByteArray := prog_8_method_2_code
def yX6_gather : MethodName := ⟨RX6, "gather", "(III)V"⟩
abbrev cX6_start : ByteArray := prog_8_method_3_code
def yX6_start : MethodName := ⟨RX6, "start", "(I)I"⟩
abbrev cX6_end : ByteArray := prog_8_method_4_code
def yX6_end : MethodName := ⟨RX6, "end", "(I)I"⟩
abbrev cX6_get : ByteArray := prog_8_method_5_code
def yX6_get : MethodName := ⟨RX6, "get", "(I)I"⟩
def RX7 : String := "HumanSteps"
def TX7 : u_T := fun k => match k with
  | 0 => ("HumanSteps", "seeker", "LHumanSteps$Seeker;", true)
  | 1 => ("HumanSteps", "grid", "LHumanSteps$Grid;", true)
  | 2 => ("HumanSteps", "finding", "LHumanSteps$Finding;", true)
  | 3 => ("HumanSteps", "history", "LHumanSteps$History;", true)
  | 4 => ("HumanSteps", "switchedOn", "[Z", true)
  | _ => ("HumanSteps", "times", "[I", true)
def tyX7 : Nat → FieldType := fun k => match k with
  | 0 => .object "HumanSteps$Seeker"
  | 1 => .object "HumanSteps$Grid"
  | 2 => .object "HumanSteps$Finding"
  | 3 => .object "HumanSteps$History"
  | 4 => .array .boolean
  | _ => .array .int
abbrev wsX70 : List Cond := u_ws RX7 TX7 6
theorem nmX7 : ∀ a, a < 6 → ∀ b, b < 6 → a ≠ b → (TX7 a).2.1 ≠ (TX7 b).2.1 := by decide +kernel
theorem tyX7_ok : ∀ k, k < 6 → parseFieldDescriptor (TX7 k).2.2.1 = some (tyX7 k) := by decide +kernel
abbrev cX7_init : ByteArray := prog_1_method_1_code
def yX7_init : MethodName := ⟨RX7, "<init>", "(I)V"⟩
abbrev cX7_set : ByteArray := prog_1_method_2_code
def yX7_set : MethodName := ⟨RX7, "set", "(II)Z"⟩
abbrev cX7_take : ByteArray := prog_1_method_3_code
def yX7_take : MethodName := ⟨RX7, "take", "(II)Z"⟩
abbrev cX7_enable : ByteArray := prog_1_method_4_code
def yX7_enable : MethodName := ⟨RX7, "enable", "(IZ)Z"⟩
abbrev cX7_find : ByteArray := prog_1_method_5_code
def yX7_find : MethodName := ⟨RX7, "find", "()I"⟩
abbrev cX7_found : ByteArray := prog_1_method_6_code
def yX7_found : MethodName := ⟨RX7, "found", "(I)I"⟩
abbrev cX7_reason : ByteArray := prog_1_method_7_code
def yX7_reason : MethodName := ⟨RX7, "reason", "(I)I"⟩
abbrev cX7_goes : ByteArray := prog_1_method_8_code
def yX7_goes : MethodName := ⟨RX7, "goes", "(I)I"⟩
abbrev cX7_apply : ByteArray := prog_1_method_9_code
def yX7_apply : MethodName := ⟨RX7, "apply", "()Z"⟩
abbrev cX7_solve : ByteArray := prog_1_method_10_code
def yX7_solve : MethodName := ⟨RX7, "solve", "(I)I"⟩
abbrev cX7_undo : ByteArray := prog_1_method_11_code
def yX7_undo : MethodName := ⟨RX7, "undo", "()I"⟩
abbrev cX7_done : ByteArray := prog_1_method_12_code
def yX7_done : MethodName := ⟨RX7, "done", "(I)I"⟩
abbrev cX7_candidates : ByteArray := prog_1_method_13_code
def yX7_candidates : MethodName := ⟨RX7, "candidates", "(I)I"⟩
abbrev cX7_value : ByteArray := prog_1_method_14_code
def yX7_value : MethodName := ⟨RX7, "value", "(I)I"⟩
abbrev cX7_state : ByteArray := prog_1_method_15_code
def yX7_state : MethodName := ⟨RX7, "state", "(I)I"⟩
abbrev cX7_words : ByteArray := prog_1_method_16_code
def yX7_words : MethodName := ⟨RX7, "words", "(II)I"⟩
abbrev cX7_letterOfCell : ByteArray := prog_1_method_17_code
def yX7_letterOfCell : MethodName := ⟨RX7, "letterOfCell", "(II)I"⟩
abbrev cX7_performFound : ByteArray := prog_1_method_18_code
def yX7_performFound : MethodName := ⟨RX7, "performFound", "()V"⟩
abbrev cX7_carryOut : ByteArray := prog_1_method_19_code
def yX7_carryOut : MethodName := ⟨RX7, "carryOut", "()V"⟩
abbrev cX7_forgetSteps : ByteArray := prog_1_method_20_code
def yX7_forgetSteps : MethodName := ⟨RX7, "forgetSteps", "()V"⟩
abbrev cX7_isOpenCandidate : ByteArray := prog_1_method_21_code
def yX7_isOpenCandidate : MethodName := ⟨RX7, "isOpenCandidate", "(II)Z"⟩
abbrev cX7_allTimes : ByteArray := prog_1_method_22_code
def yX7_allTimes : MethodName := ⟨RX7, "allTimes", "()I"⟩
abbrev cX7_checkCell : ByteArray := prog_1_method_23_code
def yX7_checkCell : MethodName := ⟨RX7, "checkCell", "(I)V"⟩
abbrev cX7_checkSymbol : ByteArray := prog_1_method_24_code
def yX7_checkSymbol : MethodName := ⟨RX7, "checkSymbol", "(I)V"⟩
abbrev cX7_checkStep : ByteArray := prog_1_method_25_code
def yX7_checkStep : MethodName := ⟨RX7, "checkStep", "(I)V"⟩
abbrev cX7_leastBit : ByteArray := prog_1_method_26_code
def yX7_leastBit : MethodName := ⟨RX7, "leastBit", "(I)I"⟩
def RX8 : String := "HumanStepsModel"
def TX8 : u_T := fun k => match k with
  | 0 => ("HumanStepsModel", "thrown", "I", false)
  | 1 => ("HumanStepsModel", "n", "I", true)
  | 2 => ("HumanStepsModel", "wide", "I", true)
  | 3 => ("HumanStepsModel", "high", "I", true)
  | 4 => ("HumanStepsModel", "cand", "[I", true)
  | 5 => ("HumanStepsModel", "value", "[I", true)
  | 6 => ("HumanStepsModel", "isOff", "[Z", true)
  | 7 => ("HumanStepsModel", "dones", "[I", true)
  | 8 => ("HumanStepsModel", "step", "I", false)
  | 9 => ("HumanStepsModel", "isReason", "[Z", true)
  | 10 => ("HumanStepsModel", "go", "[I", true)
  | 11 => ("HumanStepsModel", "setCell", "I", false)
  | 12 => ("HumanStepsModel", "setSymbol", "I", false)
  | 13 => ("HumanStepsModel", "listed", "I", false)
  | 14 => ("HumanStepsModel", "list", "[I", true)
  | 15 => ("HumanStepsModel", "pick", "[I", true)
  | 16 => ("HumanStepsModel", "deep", "I", false)
  | 17 => ("HumanStepsModel", "keptCand", "[I", true)
  | 18 => ("HumanStepsModel", "keptValue", "[I", true)
  | 19 => ("HumanStepsModel", "keptStep", "[I", true)
  | 20 => ("HumanStepsModel", "joined", "[Z", true)
  | 21 => ("HumanStepsModel", "light", "[Z", true)
  | _ => ("HumanStepsModel", "dark", "[Z", true)
def tyX8 : Nat → FieldType := fun k => match k with
  | 0 => .int
  | 1 => .int
  | 2 => .int
  | 3 => .int
  | 4 => .array .int
  | 5 => .array .int
  | 6 => .array .boolean
  | 7 => .array .int
  | 8 => .int
  | 9 => .array .boolean
  | 10 => .array .int
  | 11 => .int
  | 12 => .int
  | 13 => .int
  | 14 => .array .int
  | 15 => .array .int
  | 16 => .int
  | 17 => .array .int
  | 18 => .array .int
  | 19 => .array .int
  | 20 => .array .boolean
  | 21 => .array .boolean
  | _ => .array .boolean
abbrev wsX80 : List Cond := u_ws RX8 TX8 23
theorem nmX8 : ∀ a, a < 23 → ∀ b, b < 23 → a ≠ b → (TX8 a).2.1 ≠ (TX8 b).2.1 := by decide +kernel
theorem tyX8_ok : ∀ k, k < 23 → parseFieldDescriptor (TX8 k).2.2.1 = some (tyX8 k) := by decide +kernel
abbrev cX8_init : ByteArray := prog_10_method_1_code
def yX8_init : MethodName := ⟨RX8, "<init>", "(I)V"⟩
abbrev cX8_thrown : ByteArray := prog_10_method_2_code
def yX8_thrown : MethodName := ⟨RX8, "thrown", "()I"⟩
abbrev cX8_fails : ByteArray := prog_10_method_3_code
def yX8_fails : MethodName := ⟨RX8, "fails", "(IZ)Z"⟩
abbrev cX8_cells : ByteArray := prog_10_method_4_code
def yX8_cells : MethodName := ⟨RX8, "cells", "()I"⟩
abbrev cX8_isCell : ByteArray := prog_10_method_5_code
def yX8_isCell : MethodName := ⟨RX8, "isCell", "(I)Z"⟩
abbrev cX8_isSymbol : ByteArray := prog_10_method_6_code
def yX8_isSymbol : MethodName := ⟨RX8, "isSymbol", "(I)Z"⟩
abbrev cX8_boxOf : ByteArray := prog_10_method_7_code
def yX8_boxOf : MethodName := ⟨RX8, "boxOf", "(I)I"⟩
abbrev cX8_isIn : ByteArray := prog_10_method_8_code
def yX8_isIn : MethodName := ⟨RX8, "isIn", "(II)Z"⟩
abbrev cX8_at : ByteArray := prog_10_method_9_code
def yX8_at : MethodName := ⟨RX8, "at", "(II)I"⟩
abbrev cX8_sees : ByteArray := prog_10_method_10_code
def yX8_sees : MethodName := ⟨RX8, "sees", "(II)Z"⟩
abbrev cX8_has : ByteArray := prog_10_method_11_code
def yX8_has : MethodName := ⟨RX8, "has", "(II)Z"⟩
abbrev cX8_countOf : ByteArray := prog_10_method_12_code
def yX8_countOf : MethodName := ⟨RX8, "countOf", "(I)I"⟩
abbrev cX8_places : ByteArray := prog_10_method_13_code
def yX8_places : MethodName := ⟨RX8, "places", "(II)I"⟩
abbrev cX8_isBroken : ByteArray := prog_10_method_14_code
def yX8_isBroken : MethodName := ⟨RX8, "isBroken", "()Z"⟩
abbrev cX8_put : ByteArray := prog_10_method_15_code
def yX8_put : MethodName := ⟨RX8, "put", "(II)V"⟩
abbrev cX8_changed : ByteArray := prog_10_method_16_code
def yX8_changed : MethodName := ⟨RX8, "changed", "()V"⟩
abbrev cX8_set : ByteArray := prog_10_method_17_code
def yX8_set : MethodName := ⟨RX8, "set", "(II)Z"⟩
abbrev cX8_take : ByteArray := prog_10_method_18_code
def yX8_take : MethodName := ⟨RX8, "take", "(II)Z"⟩
abbrev cX8_enable : ByteArray := prog_10_method_19_code
def yX8_enable : MethodName := ⟨RX8, "enable", "(IZ)Z"⟩
abbrev cX8_none : ByteArray := prog_10_method_20_code
def yX8_none : MethodName := ⟨RX8, "none", "()V"⟩
abbrev cX8_leaves : ByteArray := prog_10_method_21_code
def yX8_leaves : MethodName := ⟨RX8, "leaves", "(II)V"⟩
abbrev cX8_takes : ByteArray := prog_10_method_22_code
def yX8_takes : MethodName := ⟨RX8, "takes", "()Z"⟩
abbrev cX8_sets : ByteArray := prog_10_method_23_code
def yX8_sets : MethodName := ⟨RX8, "sets", "(II)Z"⟩
abbrev cX8_first : ByteArray := prog_10_method_24_code
def yX8_first : MethodName := ⟨RX8, "first", "(I)V"⟩
abbrev cX8_next : ByteArray := prog_10_method_25_code
def yX8_next : MethodName := ⟨RX8, "next", "(I)Z"⟩
abbrev cX8_isPicked : ByteArray := prog_10_method_26_code
def yX8_isPicked : MethodName := ⟨RX8, "isPicked", "(II)Z"⟩
abbrev cX8_last : ByteArray := prog_10_method_27_code
def yX8_last : MethodName := ⟨RX8, "last", "()Z"⟩
abbrev cX8_lowest : ByteArray := prog_10_method_28_code
def yX8_lowest : MethodName := ⟨RX8, "lowest", "(I)I"⟩
abbrev cX8_only : ByteArray := prog_10_method_29_code
def yX8_only : MethodName := ⟨RX8, "only", "(I)Z"⟩
abbrev cX8_common : ByteArray := prog_10_method_30_code
def yX8_common : MethodName := ⟨RX8, "common", "(III)I"⟩
abbrev cX8_crosses : ByteArray := prog_10_method_31_code
def yX8_crosses : MethodName := ⟨RX8, "crosses", "(III)Z"⟩
abbrev cX8_pointing : ByteArray := prog_10_method_32_code
def yX8_pointing : MethodName := ⟨RX8, "pointing", "()Z"⟩
abbrev cX8_claiming : ByteArray := prog_10_method_33_code
def yX8_claiming : MethodName := ⟨RX8, "claiming", "()Z"⟩
abbrev cX8_naked : ByteArray := prog_10_method_34_code
def yX8_naked : MethodName := ⟨RX8, "naked", "(I)Z"⟩
abbrev cX8_isOpenIn : ByteArray := prog_10_method_35_code
def yX8_isOpenIn : MethodName := ⟨RX8, "isOpenIn", "(II)Z"⟩
abbrev cX8_hidden : ByteArray := prog_10_method_36_code
def yX8_hidden : MethodName := ⟨RX8, "hidden", "(I)Z"⟩
abbrev cX8_fish : ByteArray := prog_10_method_37_code
def yX8_fish : MethodName := ⟨RX8, "fish", "(II)Z"⟩
abbrev cX8_wing : ByteArray := prog_10_method_38_code
def yX8_wing : MethodName := ⟨RX8, "wing", "(Z)Z"⟩
abbrev cX8_isWing : ByteArray := prog_10_method_39_code
def yX8_isWing : MethodName := ⟨RX8, "isWing", "(IIIZ)Z"⟩
abbrev cX8_isLinked : ByteArray := prog_10_method_40_code
def yX8_isLinked : MethodName := ⟨RX8, "isLinked", "(III)Z"⟩
abbrev cX8_colour : ByteArray := prog_10_method_41_code
def yX8_colour : MethodName := ⟨RX8, "colour", "(II)V"⟩
abbrev cX8_clash : ByteArray := prog_10_method_42_code
def yX8_clash : MethodName := ⟨RX8, "clash", "(Z)Z"⟩
abbrev cX8_seesOne : ByteArray := prog_10_method_43_code
def yX8_seesOne : MethodName := ⟨RX8, "seesOne", "(IZ)Z"⟩
abbrev cX8_colours : ByteArray := prog_10_method_44_code
def yX8_colours : MethodName := ⟨RX8, "colours", "()Z"⟩
abbrev cX8_corners : ByteArray := prog_10_method_45_code
def yX8_corners : MethodName := ⟨RX8, "corners", "(IIII)Z"⟩
abbrev cX8_rectangle : ByteArray := prog_10_method_46_code
def yX8_rectangle : MethodName := ⟨RX8, "rectangle", "()Z"⟩
abbrev cX8_look : ByteArray := prog_10_method_47_code
def yX8_look : MethodName := ⟨RX8, "look", "(I)Z"⟩
abbrev cX8_search : ByteArray := prog_10_method_48_code
def yX8_search : MethodName := ⟨RX8, "search", "()I"⟩
abbrev cX8_find : ByteArray := prog_10_method_49_code
def yX8_find : MethodName := ⟨RX8, "find", "()I"⟩
abbrev cX8_goMany : ByteArray := prog_10_method_50_code
def yX8_goMany : MethodName := ⟨RX8, "goMany", "()I"⟩
abbrev cX8_reasonMany : ByteArray := prog_10_method_51_code
def yX8_reasonMany : MethodName := ⟨RX8, "reasonMany", "()I"⟩
abbrev cX8_found : ByteArray := prog_10_method_52_code
def yX8_found : MethodName := ⟨RX8, "found", "(I)I"⟩
abbrev cX8_reasonAt : ByteArray := prog_10_method_53_code
def yX8_reasonAt : MethodName := ⟨RX8, "reasonAt", "(I)I"⟩
abbrev cX8_reason : ByteArray := prog_10_method_54_code
def yX8_reason : MethodName := ⟨RX8, "reason", "(I)I"⟩
abbrev cX8_goes : ByteArray := prog_10_method_55_code
def yX8_goes : MethodName := ⟨RX8, "goes", "(I)I"⟩
abbrev cX8_act : ByteArray := prog_10_method_56_code
def yX8_act : MethodName := ⟨RX8, "act", "()V"⟩
abbrev cX8_apply : ByteArray := prog_10_method_57_code
def yX8_apply : MethodName := ⟨RX8, "apply", "()Z"⟩
abbrev cX8_solve : ByteArray := prog_10_method_58_code
def yX8_solve : MethodName := ⟨RX8, "solve", "(I)I"⟩
abbrev cX8_undo : ByteArray := prog_10_method_59_code
def yX8_undo : MethodName := ⟨RX8, "undo", "()I"⟩
abbrev cX8_done : ByteArray := prog_10_method_60_code
def yX8_done : MethodName := ⟨RX8, "done", "(I)I"⟩
abbrev cX8_candidates : ByteArray := prog_10_method_61_code
def yX8_candidates : MethodName := ⟨RX8, "candidates", "(I)I"⟩
abbrev cX8_value : ByteArray := prog_10_method_62_code
def yX8_value : MethodName := ⟨RX8, "value", "(I)I"⟩
abbrev cX8_state : ByteArray := prog_10_method_63_code
def yX8_state : MethodName := ⟨RX8, "state", "(I)I"⟩
abbrev cX8_part : ByteArray := prog_10_method_64_code
def yX8_part : MethodName := ⟨RX8, "part", "(I)J"⟩
abbrev cX8_nameByte : ByteArray := prog_10_method_65_code
def yX8_nameByte : MethodName := ⟨RX8, "nameByte", "(III)I"⟩
abbrev cX8_words : ByteArray := prog_10_method_66_code
def yX8_words : MethodName := ⟨RX8, "words", "(II)I"⟩
def RJx00060 : String := "java/lang/ArrayIndexOutOfBoundsException"
def TJx00060 : u_T := fun k => match k with
  | 0 => ("java/lang/Throwable", "cause", "Ljava/lang/Throwable;", false)
  | 1 => ("java/lang/Throwable", "stackTrace", "[Ljava/lang/StackTraceElement;", false)
  | 2 => ("java/lang/Throwable", "suppressedExceptions", "Ljava/util/List;", false)
  | 3 => ("java/lang/Throwable", "detailMessage", "Ljava/lang/String;", false)
  | 4 => ("java/lang/Throwable", "backtrace", "Ljava/lang/Object;", false)
  | _ => ("java/lang/Throwable", "depth", "I", false)
def tyJx00060 : Nat → FieldType := fun k => match k with
  | 0 => .object "java/lang/Throwable"
  | 1 => .array (.object "java/lang/StackTraceElement")
  | 2 => .object "java/util/List"
  | 3 => .object "java/lang/String"
  | 4 => .object "java/lang/Object"
  | _ => .int
abbrev wsJx000600 : List Cond := u_ws RJx00060 TJx00060 6
theorem nmJx00060 : ∀ a, a < 6 → ∀ b, b < 6 → a ≠ b → (TJx00060 a).2.1 ≠ (TJx00060 b).2.1 := by decide +kernel
theorem tyJx00060_ok : ∀ k, k < 6 → parseFieldDescriptor (TJx00060 k).2.2.1 = some (tyJx00060 k) := by decide +kernel
abbrev cJx00060_init_a7421 : ByteArray := prog_11_method_2_code
def yJx00060_init_a7421 : MethodName := ⟨RJx00060, "<init>", "(Ljava/lang/String;)V"⟩
def RJx29ce0 : String := "java/lang/Enum"
def TJx29ce0 : u_T := fun k => match k with
  | _ => ("", "", "", false)
def tyJx29ce0 : Nat → FieldType := fun k => match k with
  | _ => .int
abbrev wsJx29ce00 : List Cond := u_ws RJx29ce0 TJx29ce0 0
theorem nmJx29ce0 : ∀ a, a < 0 → ∀ b, b < 0 → a ≠ b → (TJx29ce0 a).2.1 ≠ (TJx29ce0 b).2.1 := by decide +kernel
theorem tyJx29ce0_ok : ∀ k, k < 0 → parseFieldDescriptor (TJx29ce0 k).2.2.1 = some (tyJx29ce0 k) := by decide +kernel
def RJ6 : String := "java/lang/Integer"
def TJ6 : u_T := fun k => match k with
  | _ => ("", "", "", false)
def tyJ6 : Nat → FieldType := fun k => match k with
  | _ => .int
abbrev wsJ60 : List Cond := u_ws RJ6 TJ6 0
theorem nmJ6 : ∀ a, a < 0 → ∀ b, b < 0 → a ≠ b → (TJ6 a).2.1 ≠ (TJ6 b).2.1 := by decide +kernel
theorem tyJ6_ok : ∀ k, k < 0 → parseFieldDescriptor (TJ6 k).2.2.1 = some (tyJ6 k) := by decide +kernel
abbrev cJ6_bitCount_0f7a4 : ByteArray := prog_16_method_49_code
def yJ6_bitCount_0f7a4 : MethodName := ⟨RJ6, "bitCount", "(I)I"⟩
def RJ9 : String := "java/lang/Math"
def TJ9 : u_T := fun k => match k with
  | _ => ("", "", "", false)
def tyJ9 : Nat → FieldType := fun k => match k with
  | _ => .int
abbrev wsJ90 : List Cond := u_ws RJ9 TJ9 0
theorem nmJ9 : ∀ a, a < 0 → ∀ b, b < 0 → a ≠ b → (TJ9 a).2.1 ≠ (TJ9 b).2.1 := by decide +kernel
theorem tyJ9_ok : ∀ k, k < 0 → parseFieldDescriptor (TJ9 k).2.2.1 = some (tyJ9 k) := by decide +kernel
abbrev cJ9_min_7cf53 : ByteArray := prog_17_method_69_code
def yJ9_min_7cf53 : MethodName := ⟨RJ9, "min", "(II)I"⟩
def RJ0 : String := "java/lang/String"
def TJ0 : u_T := fun k => match k with
  | _ => ("", "", "", false)
def tyJ0 : Nat → FieldType := fun k => match k with
  | _ => .int
abbrev wsJ00 : List Cond := u_ws RJ0 TJ0 0
theorem nmJ0 : ∀ a, a < 0 → ∀ b, b < 0 → a ≠ b → (TJ0 a).2.1 ≠ (TJ0 b).2.1 := by decide +kernel
theorem tyJ0_ok : ∀ k, k < 0 → parseFieldDescriptor (TJ0 k).2.2.1 = some (tyJ0 k) := by decide +kernel
abbrev cJ0_length_8abf5 : ByteArray := prog_19_method_54_code
def yJ0_length_8abf5 : MethodName := ⟨RJ0, "length", "()I"⟩
abbrev cJ0_charAt_5068e : ByteArray := prog_19_method_56_code
def yJ0_charAt_5068e : MethodName := ⟨RJ0, "charAt", "(I)C"⟩
abbrev cJ0_coder_7d493 : ByteArray := prog_19_method_152_code
def yJ0_coder_7d493 : MethodName := ⟨RJ0, "coder", "()B"⟩
abbrev cJ0_isLatin1_aae02 : ByteArray := prog_19_method_154_code
def yJ0_isLatin1_aae02 : MethodName := ⟨RJ0, "isLatin1", "()Z"⟩
abbrev cJ0_checkIndex_df160 : ByteArray := prog_19_method_155_code
def yJ0_checkIndex_df160 : MethodName := ⟨RJ0, "checkIndex", "(II)V"⟩
def RJ1 : String := "java/lang/StringLatin1"
def TJ1 : u_T := fun k => match k with
  | _ => ("", "", "", false)
def tyJ1 : Nat → FieldType := fun k => match k with
  | _ => .int
abbrev wsJ10 : List Cond := u_ws RJ1 TJ1 0
theorem nmJ1 : ∀ a, a < 0 → ∀ b, b < 0 → a ≠ b → (TJ1 a).2.1 ≠ (TJ1 b).2.1 := by decide +kernel
theorem tyJ1_ok : ∀ k, k < 0 → parseFieldDescriptor (TJ1 k).2.2.1 = some (tyJ1 k) := by decide +kernel
abbrev cJ1_charAt_3b067 : ByteArray := prog_20_method_2_code
def yJ1_charAt_3b067 : MethodName := ⟨RJ1, "charAt", "([BI)C"⟩
def RJ2 : String := "java/lang/StringUTF16"
def TJ2 : u_T := fun k => match k with
  | _ => ("", "", "", false)
def tyJ2 : Nat → FieldType := fun k => match k with
  | _ => .int
abbrev wsJ20 : List Cond := u_ws RJ2 TJ2 0
theorem nmJ2 : ∀ a, a < 0 → ∀ b, b < 0 → a ≠ b → (TJ2 a).2.1 ≠ (TJ2 b).2.1 := by decide +kernel
theorem tyJ2_ok : ∀ k, k < 0 → parseFieldDescriptor (TJ2 k).2.2.1 = some (tyJ2 k) := by decide +kernel
abbrev cJ2_getChar_3b067 : ByteArray := prog_21_method_5_code
def yJ2_getChar_3b067 : MethodName := ⟨RJ2, "getChar", "([BI)C"⟩
abbrev cJ2_length_9d52b : ByteArray := prog_21_method_6_code
def yJ2_length_9d52b : MethodName := ⟨RJ2, "length", "([B)I"⟩
abbrev cJ2_charAt_3b067 : ByteArray := prog_21_method_83_code
def yJ2_charAt_3b067 : MethodName := ⟨RJ2, "charAt", "([BI)C"⟩
abbrev cJ2_checkIndex_2214a : ByteArray := prog_21_method_91_code
def yJ2_checkIndex_2214a : MethodName := ⟨RJ2, "checkIndex", "(I[B)V"⟩
def RJ3 : String := "jdk/internal/util/Preconditions"
def TJ3 : u_T := fun k => match k with
  | _ => ("", "", "", false)
def tyJ3 : Nat → FieldType := fun k => match k with
  | _ => .int
abbrev wsJ30 : List Cond := u_ws RJ3 TJ3 0
theorem nmJ3 : ∀ a, a < 0 → ∀ b, b < 0 → a ≠ b → (TJ3 a).2.1 ≠ (TJ3 b).2.1 := by decide +kernel
theorem tyJ3_ok : ∀ k, k < 0 → parseFieldDescriptor (TJ3 k).2.2.1 = some (tyJ3 k) := by decide +kernel
abbrev cJ3_checkIndex_8e157 : ByteArray := prog_23_method_11_code
def yJ3_checkIndex_8e157 : MethodName := ⟨RJ3, "checkIndex", "(IILjava/util/function/BiFunction;)I"⟩
def RL : String := "HumanStepsLaw"
abbrev cL_cell : ByteArray := method_2_code
def yL_cell : MethodName := ⟨RL, "cell", "([II)I"⟩
abbrev cL_set : ByteArray := method_3_code
def yL_set : MethodName := ⟨RL, "set", "(LHumanSteps;II[J)I"⟩
abbrev cL_take : ByteArray := method_4_code
def yL_take : MethodName := ⟨RL, "take", "(LHumanSteps;II[J)I"⟩
abbrev cL_enable : ByteArray := method_5_code
def yL_enable : MethodName := ⟨RL, "enable", "(LHumanSteps;IZ[J)I"⟩
abbrev cL_done : ByteArray := method_6_code
def yL_done : MethodName := ⟨RL, "done", "(LHumanSteps;I[J)I"⟩
abbrev cL_candidates : ByteArray := method_7_code
def yL_candidates : MethodName := ⟨RL, "candidates", "(LHumanSteps;I[J)I"⟩
abbrev cL_value : ByteArray := method_8_code
def yL_value : MethodName := ⟨RL, "value", "(LHumanSteps;I[J)I"⟩
abbrev cL_law : ByteArray := code
def yL_law : MethodName := ⟨RL, "law", "([I)Z"⟩
def wsX0_init : List Cond := .code yX0_init cX0_init 2 none :: ([.methodLink RX0 5 objectInit, .instanceMethod objectInit, .code objectInit ⟨#[0xb1]⟩ 1 none, .arrayClass .int, .fieldLink RX0 11 "HumanSteps$Colours" "marks" "[I", .fieldLink RX0 15 "HumanSteps$Colours" "joined" "[I"] ++ wsX00)
def wsX0_colour : List Cond := .code yX0_colour cX0_colour 3 none :: ([.fieldLink RX0 11 "HumanSteps$Colours" "marks" "[I", .fieldLink RX0 31 "HumanSteps$Colours" "size" "I", .fieldLink RX0 15 "HumanSteps$Colours" "joined" "[I"] ++ wsX00)
def wsX2_house : List Cond := .code yX2_house cX2_house 3 (some .int) :: ([.fieldLink RX2 31 "HumanSteps$Grid" "houseOf" "[I"] ++ wsX20)
def wsX2_places : List Cond := .code yX2_places cX2_places 3 (some .int) :: ([.fieldLink RX2 37 "HumanSteps$Grid" "placeBits" "[I", .fieldLink RX2 9 "HumanSteps$Grid" "n" "I"] ++ wsX20)
abbrev vwCl : List vw_C := [(RJx00060, TJx00060, 6), (RX0, TX0, 3), (RX1, TX1, 7), (RX2, TX2, 9), (RX3, TX3, 6), (RX5, TX5, 6), (RX6, TX6, 4), (RX7, TX7, 6), (RX8, TX8, 23)]
end
section
/-! ===== THE SMALL MACHINE: places for addresses, one heap of cells; its steps as conditions on what comes next ===== -/
abbrev x_C : Type := (FieldType × vp_A) ⊕ (Nat × List Value)
/-- the cells by their places, how many cells and slots may still be made -/
abbrev x_H : Type := List x_C × Nat × Nat
abbrev x_L : Type := List (Option Value)
abbrev x_O : Type := Option Value ⊕ String
/-- the script's place: no cell of the heap, and never written -/
abbrev x_SP : Nat := 1000000
/-- an instruction, its length, where it jumps -/
abbrev x_I : Type := Instr × Nat × Nat
def x_lk {α : Type} : List (Nat × α) → Nat → Option α
  | [], _ => none
  | (k, a) :: r, n => if n = k then some a else x_lk r n
theorem x_lk_mem {α : Type} : ∀ {l : List (Nat × α)} {n : Nat} {a : α}, x_lk l n = some a → (n, a) ∈ l
  | [], _, _, h => by cases h
  | (k, b) :: r, n, a, h => by
    unfold x_lk at h
    by_cases hk : n = k
    · rw [if_pos hk] at h
      cases h
      rw [hk]
      exact List.mem_cons_self
    · rw [if_neg hk] at h
      exact List.mem_cons_of_mem _ (x_lk_mem h)
def x_ic (c : Jvm.ClassFile.Cond) (x y : Int32) : Prop := match c with
  | .eq => x = y
  | .ne => x ≠ y
  | .lt => x < y
  | .ge => y ≤ x
  | .gt => y < x
  | .le => x ≤ y
/-- two ints in, one out -/
def x_op2 (i : Instr) (x y : Int32) : Option Int32 := match i with
  | .iadd => some (x + y)
  | .isub => some (x - y)
  | .imul => some (x * y)
  | .iand => some (x &&& y)
  | .ior => some (x ||| y)
  | .ixor => some (x ^^^ y)
  | .ishl => some (x <<< (y &&& 31))
  | .ishr => some (x >>> (y &&& 31))
  | .iushr => some ((x.toUInt32 >>> (y.toUInt32 &&& Int32.toUInt32 31)).toInt32)
  | _ => none
/-- a condition that is decided on the spot -/
def x_if (c : Prop) [Decidable c] (K : Prop) : Prop := if c then K else False
def x_ldi (L : x_L) (k : Nat) (K : Int32 → Prop) : Prop := match L[k]? with
  | some (some (.int x)) => K x
  | _ => False
def x_lda (L : x_L) (k : Nat) (K : Nat → Prop) : Prop := match L[k]? with
  | some (some (.ref x)) => K x
  | _ => False
/-- the array of ints (or of booleans) at a place -/
def x_ai (X : x_H) (a : Nat) (K : FieldType → Nat → (Nat → Int32) → Prop) : Prop := match X.1[a]? with
  | some (.inl (ty, n, .inl f)) => K ty n f
  | _ => False
def x_al (X : x_H) (a : Nat) (K : Nat → (Nat → Int64) → Prop) : Prop := match X.1[a]? with
  | some (.inl (.long, n, .inr (.inl f))) => K n f
  | _ => False
def x_ob (X : x_H) (a : Nat) (K : Nat → List Value → Prop) : Prop := match X.1[a]? with
  | some (.inr (ci, fs)) => K ci fs
  | _ => False
def x_s1 (st : List Value) (K : Int32 → List Value → Prop) : Prop := match st with
  | .int x :: r => K x r
  | _ => False
def x_s2 (st : List Value) (K : Int32 → Int32 → List Value → Prop) : Prop := match st with
  | .int y :: .int x :: r => K x y r
  | _ => False
def x_sr (st : List Value) (K : Nat → List Value → Prop) : Prop := match st with
  | .ref a :: r => K a r
  | _ => False
def x_sir (st : List Value) (K : Nat → Int32 → List Value → Prop) : Prop := match st with
  | .int i :: .ref a :: r => K a i r
  | _ => False
def x_siir (st : List Value) (K : Nat → Int32 → Int32 → List Value → Prop) : Prop := match st with
  | .int x :: .int i :: .ref a :: r => K a i x r
  | _ => False
def x_slir (st : List Value) (K : Nat → Int32 → Int64 → List Value → Prop) : Prop := match st with
  | .long x :: .int i :: .ref a :: r => K a i x r
  | _ => False
def x_sl1 (st : List Value) (K : Int64 → List Value → Prop) : Prop := match st with
  | .long x :: r => K x r
  | _ => False
def x_sl2 (st : List Value) (K : Int64 → Int64 → List Value → Prop) : Prop := match st with
  | .long y :: .long x :: r => K x y r
  | _ => False
def x_sil (st : List Value) (K : Int64 → Int32 → List Value → Prop) : Prop := match st with
  | .int y :: .long x :: r => K x y r
  | _ => False
def x_svr (st : List Value) (K : Nat → Value → List Value → Prop) : Prop := match st with
  | v :: .ref a :: r => K a v r
  | _ => False
/-- what a field may hold -/
def x_fit (ty : FieldType) (v : Value) : Bool := match ty, v with
  | .int, .int _ => true
  | .array _, .ref _ => true
  | .object _, .ref _ => true
  | _, _ => false
/-- a method: its class' name, its name, its bytes, its locals, what it returns, its instructions; by the pool: its fields (class, number, type; 0 read alone, 1 written too, 2 written in a constructor alone), its virtual calls (which method, how many arguments, the receiver's class; the cells and slots that it may make), its static calls (likewise; 0, 1 for a nest mate's, 2 for Math.min), its constructors' calls (none: Object's), what it makes (class, first values), what it throws; where it catches (by pc and class: some none: nowhere; some (pc, local): there), its constants, its exception table -/
abbrev x_M : Type := String × MethodName × ByteArray × Nat × Option FieldType × (Nat → Option x_I) × (Nat → Option (Nat × Nat × FieldType × Nat)) × (Nat → Option (Nat × Nat × Nat × Nat × Nat)) × (Nat → Option (Nat × Nat × Nat × Nat × Nat)) × (Nat → Option (Option (Nat × Nat × Nat × Nat))) × (Nat → Option (Nat × List Value)) × (Nat → Option String) × (Nat → String → Option (Option (Nat × Nat))) × (Nat → Option Value) × List (Nat × Nat × Nat × Nat)
abbrev x_M.own (M : x_M) : String := M.1
abbrev x_M.nam (M : x_M) : MethodName := M.2.1
abbrev x_M.cod (M : x_M) : ByteArray := M.2.2.1
abbrev x_M.maxl (M : x_M) : Nat := M.2.2.2.1
abbrev x_M.ret (M : x_M) : Option FieldType := M.2.2.2.2.1
abbrev x_M.tab (M : x_M) : Nat → Option x_I := M.2.2.2.2.2.1
abbrev x_M.fld (M : x_M) : Nat → Option (Nat × Nat × FieldType × Nat) := M.2.2.2.2.2.2.1
abbrev x_M.cal (M : x_M) : Nat → Option (Nat × Nat × Nat × Nat × Nat) := M.2.2.2.2.2.2.2.1
abbrev x_M.cas (M : x_M) : Nat → Option (Nat × Nat × Nat × Nat × Nat) := M.2.2.2.2.2.2.2.2.1
abbrev x_M.spc (M : x_M) : Nat → Option (Option (Nat × Nat × Nat × Nat)) := M.2.2.2.2.2.2.2.2.2.1
abbrev x_M.nwc (M : x_M) : Nat → Option (Nat × List Value) := M.2.2.2.2.2.2.2.2.2.2.1
abbrev x_M.thr (M : x_M) : Nat → Option String := M.2.2.2.2.2.2.2.2.2.2.2.1
abbrev x_M.exc (M : x_M) : Nat → String → Option (Option (Nat × Nat)) := M.2.2.2.2.2.2.2.2.2.2.2.2.1
abbrev x_M.cst (M : x_M) : Nat → Option Value := M.2.2.2.2.2.2.2.2.2.2.2.2.2.1
abbrev x_M.hnd (M : x_M) : List (Nat × Nat × Nat × Nat) := M.2.2.2.2.2.2.2.2.2.2.2.2.2.2
/-- the references of a value lie below n -/
def x_vok (n : Nat) (v : Value) : Prop := match v with
  | .ref k => k < n ∨ k = x_SP
  | _ => True
def x_lok (n : Nat) : x_L → Prop
  | [] => True
  | none :: L => x_lok n L
  | some v :: L => x_vok n v ∧ x_lok n L
def x_sok (n : Nat) : List Value → Prop
  | [] => True
  | v :: L => x_vok n v ∧ x_sok n L
def x_hok (n : Nat) : List x_C → Prop
  | [] => True
  | .inl _ :: X => x_hok n X
  | .inr (_, fs) :: X => x_sok n fs ∧ x_hok n X
/-- a cell may be made: the frame and the heap name what is there -/
def x_aok (L : x_L) (st : List Value) (X : List x_C) : Prop := X.length < x_SP ∧ x_lok X.length L ∧ x_sok X.length st ∧ x_hok X.length X
/-- a call may make so much; where it makes something, the frame that waits names what is there -/
def x_bok (bc bs : Nat) (L : x_L) (st : List Value) (X : x_H) (K : Prop) : Prop := x_if ((st.map fun v => v.category).sum ≤ 8) (match bc with
  | 0 => x_if (bs = 0) K
  | b + 1 => (b + 1 ≤ X.2.1 ∧ bs ≤ X.2.2 ∧ x_lok X.1.length L ∧ x_sok X.1.length st) ∧ K)
/-- a reference -/
def x_isr (v : Option Value) (K : Prop) : Prop := match v with
  | some (.ref _) => K
  | _ => False
/-- an object of that class -/
def x_rcv (v : Option Value) (X : x_H) (ci : Nat) (K : Prop) : Prop := match v with
  | some (.ref a) => x_ob X a fun cj _ => x_if (cj = ci) K
  | _ => False
/-- what an int method may answer -/
def x_ret (rt : Option FieldType) (x : Int32) (K : Prop) : Prop := match rt with
  | some .int => K
  | some ty => narrow ty (.int x) = .int x ∧ K
  | none => False
/-- one instruction: K is what must hold behind it -/
def x_go (sc : Nat × (Nat → Int32)) (M : x_M) (C : Nat → List Value → x_H → (x_O → x_H → Prop) → Prop) (Q : x_O → x_H → Prop) (K : Nat → x_L → List Value → x_H → Prop) (i : Instr) (tg : Nat) (pc : Nat) (L : x_L) (st : List Value) (X : x_H) : Prop := match i with
  | .iconst n => K (pc + 1) L (.int (Int32.ofInt n) :: st) X
  | .bipush n => K (pc + 2) L (.int (Int8.ofInt n).toInt32 :: st) X
  | .sipush n => K (pc + 3) L (.int (Int16.ofInt n).toInt32 :: st) X
  | .lconst n => K (pc + 1) L (.long (Int64.ofNat (n : Nat)) :: st) X
  | .iload k => x_ldi L k fun x => K (pc + 2) L (.int x :: st) X
  | .iload_n k => x_ldi L k fun x => K (pc + 1) L (.int x :: st) X
  | .aload k => x_lda L k fun x => K (pc + 2) L (.ref x :: st) X
  | .aload_n k => x_lda L k fun x => K (pc + 1) L (.ref x :: st) X
  | .istore k => x_if (k < L.length) (x_s1 st fun x r => K (pc + 2) (L.set k (some (.int x))) r X)
  | .istore_n k => x_if ((k : Nat) < L.length) (x_s1 st fun x r => K (pc + 1) (L.set k (some (.int x))) r X)
  | .astore k => x_if (k < L.length) (x_sr st fun x r => K (pc + 2) (L.set k (some (.ref x))) r X)
  | .astore_n k => x_if ((k : Nat) < L.length) (x_sr st fun x r => K (pc + 1) (L.set k (some (.ref x))) r X)
  | .iinc k n => x_if (k < L.length) (x_ldi L k fun x => K (pc + 3) (L.set k (some (.int (x + Int32.ofInt n)))) st X)
  | .iadd => x_s2 st fun x y r => K (pc + 1) L (.int (x + y) :: r) X
  | .isub => x_s2 st fun x y r => K (pc + 1) L (.int (x - y) :: r) X
  | .imul => x_s2 st fun x y r => K (pc + 1) L (.int (x * y) :: r) X
  | .iand => x_s2 st fun x y r => K (pc + 1) L (.int (x &&& y) :: r) X
  | .ior => x_s2 st fun x y r => K (pc + 1) L (.int (x ||| y) :: r) X
  | .ixor => x_s2 st fun x y r => K (pc + 1) L (.int (x ^^^ y) :: r) X
  | .ishl => x_s2 st fun x y r => K (pc + 1) L (.int (x <<< (y &&& 31)) :: r) X
  | .ishr => x_s2 st fun x y r => K (pc + 1) L (.int (x >>> (y &&& 31)) :: r) X
  | .iushr => x_s2 st fun x y r => K (pc + 1) L (.int ((x.toUInt32 >>> (y.toUInt32 &&& Int32.toUInt32 31)).toInt32) :: r) X
  | .idiv => x_s2 st fun x y r => ¬ y = 0 ∧ K (pc + 1) L (.int (x / y) :: r) X
  | .irem => x_s2 st fun x y r => ¬ y = 0 ∧ K (pc + 1) L (.int (x - x / y * y) :: r) X
  | .dup => match st with
    | v :: r => x_if (v.category = 1) (K (pc + 1) L (v :: v :: r) X)
    | [] => False
  | .dup2 => x_sir st fun a x r => K (pc + 1) L (.int x :: .ref a :: .int x :: .ref a :: r) X
  | .i2l => x_s1 st fun x r => K (pc + 1) L (.long x.toInt64 :: r) X
  | .l2i => x_sl1 st fun x r => K (pc + 1) L (.int x.toInt32 :: r) X
  | .i2c => x_s1 st fun x r => K (pc + 1) L (.int (x.toUInt32 % 65536).toInt32 :: r) X
  | .lshr => x_sil st fun x y r => K (pc + 1) L (.long (x >>> (y.toInt64 &&& 63)) :: r) X
  | .lcmp => x_sl2 st fun x y r => K (pc + 1) L (.int (lg_cmp x y) :: r) X
  | .goto _ => K tg L st X
  | .ifCond c _ => x_s1 st fun x r => (x_ic c x 0 → K tg L r X) ∧ (¬ x_ic c x 0 → K (pc + 3) L r X)
  | .if_icmp c _ => x_s2 st fun x y r => (x_ic c x y → K tg L r X) ∧ (¬ x_ic c x y → K (pc + 3) L r X)
  | .ldc ix => match M.cst ix with
    | some (.int v) => K (pc + 2) L (.int v :: st) X
    | _ => False
  | .ldc_w ix => match M.cst ix with
    | some (.int v) => K (pc + 3) L (.int v :: st) X
    | _ => False
  | .ldc2_w ix => match M.cst ix with
    | some (.long v) => K (pc + 3) L (.long v :: st) X
    | _ => False
  | .arraylength => x_sr st fun a r => if a = x_SP then K (pc + 1) L (.int (Int32.ofNat sc.1) :: r) X else x_ai X a fun ty n _ => x_if (ty = .int ∨ ty = .boolean) (K (pc + 1) L (.int (Int32.ofNat n) :: r) X)
  | .iaload => x_sir st fun a j r => if a = x_SP then vp_in j sc.1 ∧ K (pc + 1) L (.int (sc.2 j.toNatClampNeg) :: r) X else x_ai X a fun ty n f => x_if (ty = .int) (vp_in j n ∧ K (pc + 1) L (.int (f j.toNatClampNeg) :: r) X)
  | .baload => x_sir st fun a j r => x_ai X a fun ty n f => x_if (ty = .boolean) (vp_in j n ∧ K (pc + 1) L (.int (f j.toNatClampNeg) :: r) X)
  | .laload => x_sir st fun a j r => x_al X a fun n f => vp_in j n ∧ K (pc + 1) L (.long (f j.toNatClampNeg) :: r) X
  | .iastore => x_siir st fun a j v r => x_ai X a fun ty n f => x_if (ty = .int) (vp_in j n ∧ K (pc + 1) L r (X.1.set a (.inl (.int, n, .inl (upd f j.toNatClampNeg v))), X.2))
  | .bastore => x_siir st fun a j v r => x_ai X a fun ty n f => x_if (ty = .boolean) (vp_in j n ∧ K (pc + 1) L r (X.1.set a (.inl (.boolean, n, .inl (upd f j.toNatClampNeg (vp_nar .boolean v)))), X.2))
  | .lastore => x_slir st fun a j v r => x_al X a fun n f => vp_in j n ∧ K (pc + 1) L r (X.1.set a (.inl (.long, n, .inr (.inl (vp_updL f j.toNatClampNeg v)))), X.2)
  | .getfield ix => match M.fld ix with
    | some (ci, k, _, _) => x_sr st fun a r => x_ob X a fun cj fs => x_if (cj = ci) (match fs[k]? with
      | some v => K (pc + 3) L (v :: r) X
      | none => False)
    | none => False
  | .putfield ix => match M.fld ix with
    | some (ci, k, ty, w + 1) => x_svr st fun a v r => x_ob X a fun cj fs => x_if (cj = ci ∧ k < fs.length ∧ x_fit ty v = true) (K (pc + 3) L r (X.1.set a (.inr (ci, fs.set k v)), X.2))
    | _ => False
  | .invokevirtual ix => match M.cal ix with
    | some (mj, n, ci, bc, bs) => x_rcv st[n]? X ci (x_bok bc bs L (st.drop (n + 1)) X (C mj (st.take (n + 1)).reverse (X.1, bc, bs) fun o Y => match o with
      | .inl v => K (pc + 3) L (v.toList ++ st.drop (n + 1)) (Y.1, X.2.1 - bc, X.2.2 - bs)
      | .inr E => match M.exc pc E with
        | some none => Q (.inr E) (Y.1, X.2.1 - bc, X.2.2 - bs)
        | some (some (h, k)) => x_if (k < L.length) (K h (L.set k none) [] (Y.1, X.2.1 - bc, X.2.2 - bs))
        | none => False))
    | none => False
  | .invokestatic ix => match M.cas ix with
    | some (_, _, 2, _, _) => x_s2 st fun x y r => x_if ((r.map fun v => v.category).sum ≤ 8) (K (pc + 3) L (.int (if y < x then y else x) :: r) X)
    | some (mj, n, _, bc, bs) => x_if (n ≤ st.length) (x_bok bc bs L (st.drop n) X (C mj (st.take n).reverse (X.1, bc, bs) fun o Y => match o with
      | .inl v => K (pc + 3) L (v.toList ++ st.drop n) (Y.1, X.2.1 - bc, X.2.2 - bs)
      | .inr _ => False))
    | none => False
  | .invokespecial ix => match M.spc ix with
    | some none => x_sr st fun _ r => x_if ((r.map fun v => v.category).sum ≤ 8) (K (pc + 3) L r X)
    | some (some (mj, n, bc, bs)) => x_isr st[n]? (x_bok bc bs L (st.drop (n + 1)) X (C mj (st.take (n + 1)).reverse (X.1, bc, bs) fun o Y => match o with
      | .inl none => K (pc + 3) L (st.drop (n + 1)) (Y.1, X.2.1 - bc, X.2.2 - bs)
      | _ => False))
    | none => False
  | .new ix => match M.nwc ix with
    | some (ci, fs) => (1 ≤ X.2.1 ∧ fs.length ≤ X.2.2 ∧ x_aok L st X.1) ∧ K (pc + 3) L (.ref X.1.length :: st) (X.1 ++ [.inr (ci, fs)], X.2.1 - 1, X.2.2 - fs.length)
    | none => match M.thr ix with
      | some E => (1 ≤ X.2.1 ∧ 6 ≤ X.2.2) ∧ Q (.inr E) (X.1, X.2.1 - 1, X.2.2 - 6)
      | none => False
  | .newarray at9 => x_s1 st fun n r => (¬ n < 0 ∧ n.toNatClampNeg ≤ 1000000 ∧ 1 ≤ X.2.1 ∧ n.toNatClampNeg ≤ X.2.2 ∧ x_aok L r X.1) ∧ match at9 with
    | .int => K (pc + 2) L (.ref X.1.length :: r) (X.1 ++ [.inl (.int, n.toNatClampNeg, .inl (fun _ => 0))], X.2.1 - 1, X.2.2 - n.toNatClampNeg)
    | .boolean => K (pc + 2) L (.ref X.1.length :: r) (X.1 ++ [.inl (.boolean, n.toNatClampNeg, .inl (fun _ => 0))], X.2.1 - 1, X.2.2 - n.toNatClampNeg)
    | .long => K (pc + 2) L (.ref X.1.length :: r) (X.1 ++ [.inl (.long, n.toNatClampNeg, .inr (.inl (fun _ => 0)))], X.2.1 - 1, X.2.2 - n.toNatClampNeg)
    | _ => False
  | .tableswitch dd lo hi offs => x_s1 st fun x r => (∀ (j : Nat) (o : Int), offs[j]? = some o → x.toInt = lo + j → K ((pc : Int) + o).toNat L r X) ∧ ((x.toInt < lo ∨ hi < x.toInt) → K ((pc : Int) + dd).toNat L r X)
  | .ireturn => x_s1 st fun x r => x_if (r = []) (x_ret M.ret x (Q (.inl (some (.int x))) X))
  | .lreturn => x_sl1 st fun x r => x_if (r = [] ∧ M.ret = some .long) (Q (.inl (some (.long x))) X)
  | .return_ => x_if (st = [] ∧ M.ret = none) (Q (.inl none) X)
  | _ => False
def x_st (sc : Nat × (Nat → Int32)) (M : x_M) (C : Nat → List Value → x_H → (x_O → x_H → Prop) → Prop) (Q : x_O → x_H → Prop) (K : Nat → x_L → List Value → x_H → Prop) (pc : Nat) (L : x_L) (st : List Value) (X : x_H) : Prop := match M.tab pc with
  | some (i, _, tg) => x_go sc M C Q K i tg pc L st X
  | none => False
/-- the least condition that is closed under the steps -/
def x_W (sc : Nat × (Nat → Int32)) (M : x_M) (C : Nat → List Value → x_H → (x_O → x_H → Prop) → Prop) (Q : x_O → x_H → Prop) (pc : Nat) (L : x_L) (st : List Value) (X : x_H) : Prop :=
  ∀ P : Nat → x_L → List Value → x_H → Prop, (∀ pc L st X, x_st sc M C Q P pc L st X → P pc L st X) → P pc L st X
end
section
/-! ===== the steps grow with what must hold behind them ===== -/
theorem x_if.mono {c : Prop} {hd : Decidable c} {K K' : Prop} (h : x_if c K) (hk : K → K') : x_if c K' := by
  unfold x_if at *; split at h
  · rename_i hc; rw [if_pos hc]; exact hk h
  · exact h.elim
theorem x_bok.mono {bc bs : Nat} {L : x_L} {st : List Value} {X : x_H} {K K' : Prop} (h : x_bok bc bs L st X K) (hk : K → K') : x_bok bc bs L st X K' := by
  refine x_if.mono h fun h => ?_
  cases bc with
  | zero => exact x_if.mono h hk
  | succ b => exact ⟨h.1, hk h.2⟩
theorem x_rcv.mono {v : Option Value} {X : x_H} {ci : Nat} {K K' : Prop} (h : x_rcv v X ci K) (hk : K → K') : x_rcv v X ci K' := by
  unfold x_rcv at *; split at h
  · unfold x_ob at *; split at h
    · exact x_if.mono h hk
    · exact h.elim
  · exact h.elim
theorem x_isr.mono {v : Option Value} {K K' : Prop} (h : x_isr v K) (hk : K → K') : x_isr v K' := by
  unfold x_isr at *; split at h
  · exact hk h
  · exact h.elim
theorem x_ret.mono {rt : Option FieldType} {x : Int32} {K K' : Prop} (h : x_ret rt x K) (hk : K → K') : x_ret rt x K' := by
  unfold x_ret at *; split at h
  · exact hk h
  · exact ⟨h.1, hk h.2⟩
  · exact h.elim
theorem x_ldi.mono {L : x_L} {k : Nat} {K K' : Int32 → Prop} (h : x_ldi L k K) (hk : ∀ x, K x → K' x) : x_ldi L k K' := by
  unfold x_ldi at *; split at h
  · exact hk _ h
  · exact h.elim
theorem x_lda.mono {L : x_L} {k : Nat} {K K' : Nat → Prop} (h : x_lda L k K) (hk : ∀ x, K x → K' x) : x_lda L k K' := by
  unfold x_lda at *; split at h
  · exact hk _ h
  · exact h.elim
theorem x_ai.mono {X : x_H} {a : Nat} {K K' : FieldType → Nat → (Nat → Int32) → Prop} (h : x_ai X a K) (hk : ∀ x y z, K x y z → K' x y z) : x_ai X a K' := by
  unfold x_ai at *; split at h
  · exact hk _ _ _ h
  · exact h.elim
theorem x_al.mono {X : x_H} {a : Nat} {K K' : Nat → (Nat → Int64) → Prop} (h : x_al X a K) (hk : ∀ y z, K y z → K' y z) : x_al X a K' := by
  unfold x_al at *; split at h
  · exact hk _ _ h
  · exact h.elim
theorem x_ob.mono {X : x_H} {a : Nat} {K K' : Nat → List Value → Prop} (h : x_ob X a K) (hk : ∀ y z, K y z → K' y z) : x_ob X a K' := by
  unfold x_ob at *; split at h
  · exact hk _ _ h
  · exact h.elim
theorem x_s1.mono {st : List Value} {K K' : Int32 → List Value → Prop} (h : x_s1 st K) (hk : ∀ x r, K x r → K' x r) : x_s1 st K' := by
  unfold x_s1 at *; split at h
  · exact hk _ _ h
  · exact h.elim
theorem x_s2.mono {st : List Value} {K K' : Int32 → Int32 → List Value → Prop} (h : x_s2 st K) (hk : ∀ x y r, K x y r → K' x y r) : x_s2 st K' := by
  unfold x_s2 at *; split at h
  · exact hk _ _ _ h
  · exact h.elim
theorem x_sr.mono {st : List Value} {K K' : Nat → List Value → Prop} (h : x_sr st K) (hk : ∀ x r, K x r → K' x r) : x_sr st K' := by
  unfold x_sr at *; split at h
  · exact hk _ _ h
  · exact h.elim
theorem x_sir.mono {st : List Value} {K K' : Nat → Int32 → List Value → Prop} (h : x_sir st K) (hk : ∀ x y r, K x y r → K' x y r) : x_sir st K' := by
  unfold x_sir at *; split at h
  · exact hk _ _ _ h
  · exact h.elim
theorem x_siir.mono {st : List Value} {K K' : Nat → Int32 → Int32 → List Value → Prop} (h : x_siir st K) (hk : ∀ x y z r, K x y z r → K' x y z r) : x_siir st K' := by
  unfold x_siir at *; split at h
  · exact hk _ _ _ _ h
  · exact h.elim
theorem x_slir.mono {st : List Value} {K K' : Nat → Int32 → Int64 → List Value → Prop} (h : x_slir st K) (hk : ∀ x y z r, K x y z r → K' x y z r) : x_slir st K' := by
  unfold x_slir at *; split at h
  · exact hk _ _ _ _ h
  · exact h.elim
theorem x_sl1.mono {st : List Value} {K K' : Int64 → List Value → Prop} (h : x_sl1 st K) (hk : ∀ x r, K x r → K' x r) : x_sl1 st K' := by
  unfold x_sl1 at *; split at h
  · exact hk _ _ h
  · exact h.elim
theorem x_sl2.mono {st : List Value} {K K' : Int64 → Int64 → List Value → Prop} (h : x_sl2 st K) (hk : ∀ x y r, K x y r → K' x y r) : x_sl2 st K' := by
  unfold x_sl2 at *; split at h
  · exact hk _ _ _ h
  · exact h.elim
theorem x_sil.mono {st : List Value} {K K' : Int64 → Int32 → List Value → Prop} (h : x_sil st K) (hk : ∀ x y r, K x y r → K' x y r) : x_sil st K' := by
  unfold x_sil at *; split at h
  · exact hk _ _ _ h
  · exact h.elim
theorem x_svr.mono {st : List Value} {K K' : Nat → Value → List Value → Prop} (h : x_svr st K) (hk : ∀ x y r, K x y r → K' x y r) : x_svr st K' := by
  unfold x_svr at *; split at h
  · exact hk _ _ _ h
  · exact h.elim
def x_Cm (C : Nat → List Value → x_H → (x_O → x_H → Prop) → Prop) : Prop := ∀ mj av X Q Q', (∀ o Y, Q o Y → Q' o Y) → C mj av X Q → C mj av X Q'
theorem x_go.mono {sc : Nat × (Nat → Int32)} {M : x_M} {C : Nat → List Value → x_H → (x_O → x_H → Prop) → Prop} (hC : x_Cm C) {Q Q' : x_O → x_H → Prop} {K K' : Nat → x_L → List Value → x_H → Prop} {i : Instr} {tg pc : Nat} {L : x_L} {st : List Value} {X : x_H}
    (hQ : ∀ o Y, Q o Y → Q' o Y) (hK : ∀ pc L st X, K pc L st X → K' pc L st X) (h : x_go sc M C Q K i tg pc L st X) : x_go sc M C Q' K' i tg pc L st X := by
  cases i
  case dup =>
    simp only [x_go] at h ⊢
    split at h
    · exact x_if.mono h fun h => hK _ _ _ _ h
    · exact h.elim
  case arraylength =>
    refine x_sr.mono h fun a r h => ?_
    split at h
    · rename_i ha; rw [if_pos ha]; exact hK _ _ _ _ h
    · rename_i ha; rw [if_neg ha]; exact x_ai.mono h fun _ _ _ h => x_if.mono h fun h => hK _ _ _ _ h
  case iaload =>
    refine x_sir.mono h fun a j r h => ?_
    split at h
    · rename_i ha; rw [if_pos ha]; exact ⟨h.1, hK _ _ _ _ h.2⟩
    · rename_i ha; rw [if_neg ha]; exact x_ai.mono h fun _ _ _ h => x_if.mono h fun h => ⟨h.1, hK _ _ _ _ h.2⟩
  case getfield ix =>
    simp only [x_go] at h ⊢
    split at h
    · refine x_sr.mono h fun _ _ h => x_ob.mono h fun _ _ h => x_if.mono h fun h => ?_
      split at h
      · exact hK _ _ _ _ h
      · exact h.elim
    · exact h.elim
  case putfield ix =>
    simp only [x_go] at h ⊢
    split at h
    · exact x_svr.mono h fun _ _ _ h => x_ob.mono h fun _ _ h => x_if.mono h fun h => hK _ _ _ _ h
    · exact h.elim
  case invokevirtual ix =>
    simp only [x_go] at h ⊢
    split at h
    · refine x_rcv.mono h fun h => x_bok.mono h fun h => hC _ _ _ _ _ (fun o Y h => ?_) h
      cases o with
      | inl v => exact hK _ _ _ _ h
      | inr E =>
        dsimp only at h ⊢
        split at h
        · exact hQ _ _ h
        · exact x_if.mono h fun h => hK _ _ _ _ h
        · exact h
    · exact h.elim
  case invokestatic ix =>
    simp only [x_go] at h ⊢
    split at h
    · exact x_s2.mono h fun _ _ _ h => x_if.mono h fun h => hK _ _ _ _ h
    · refine x_if.mono h fun h => x_bok.mono h fun h => hC _ _ _ _ _ (fun o Y h => ?_) h
      cases o with
      | inl v => exact hK _ _ _ _ h
      | inr E => exact h
    · exact h.elim
  case invokespecial ix =>
    simp only [x_go] at h ⊢
    split at h
    · exact x_sr.mono h fun _ _ h => x_if.mono h fun h => hK _ _ _ _ h
    · refine x_isr.mono h fun h => x_bok.mono h fun h => hC _ _ _ _ _ (fun o Y h => ?_) h
      split at h
      · exact hK _ _ _ _ h
      · exact h.elim
    · exact h.elim
  case new ix =>
    simp only [x_go] at h ⊢
    split at h
    · exact ⟨h.1, hK _ _ _ _ h.2⟩
    · split at h
      · exact ⟨h.1, hQ _ _ h.2⟩
      · exact h
  case newarray a9 =>
    refine x_s1.mono h fun n r h => ⟨h.1, ?_⟩
    have h2 := h.2
    cases a9 <;> first | exact hK _ _ _ _ h2 | exact h2
  case tableswitch d lo hi offs => exact x_s1.mono h fun x r h => ⟨fun j o h1 h2 => hK _ _ _ _ (h.1 j o h1 h2), fun h1 => hK _ _ _ _ (h.2 h1)⟩
  case ireturn => exact x_s1.mono h fun _ _ h => x_if.mono h fun h => x_ret.mono h fun h => hQ _ _ h
  case lreturn => exact x_sl1.mono h fun _ _ h => x_if.mono h fun h => hQ _ _ h
  case return_ => exact x_if.mono h fun h => hQ _ _ h
  all_goals first
    | exact h.elim
    | exact hK _ _ _ _ h
    | exact x_ldi.mono h fun _ h => hK _ _ _ _ h
    | exact x_lda.mono h fun _ h => hK _ _ _ _ h
    | exact x_if.mono h fun h => x_s1.mono h fun _ _ h => hK _ _ _ _ h
    | exact x_if.mono h fun h => x_sr.mono h fun _ _ h => hK _ _ _ _ h
    | exact x_if.mono h fun h => x_ldi.mono h fun _ h => hK _ _ _ _ h
    | exact x_s2.mono h fun _ _ _ h => hK _ _ _ _ h
    | exact x_s2.mono h fun _ _ _ h => ⟨h.1, hK _ _ _ _ h.2⟩
    | exact x_s1.mono h fun _ _ h => hK _ _ _ _ h
    | exact x_sir.mono h fun _ _ _ h => hK _ _ _ _ h
    | exact x_sl1.mono h fun _ _ h => hK _ _ _ _ h
    | exact x_sil.mono h fun _ _ _ h => hK _ _ _ _ h
    | exact x_sl2.mono h fun _ _ _ h => hK _ _ _ _ h
    | exact x_s1.mono h fun _ _ h => ⟨fun c => hK _ _ _ _ (h.1 c), fun c => hK _ _ _ _ (h.2 c)⟩
    | exact x_s2.mono h fun _ _ _ h => ⟨fun c => hK _ _ _ _ (h.1 c), fun c => hK _ _ _ _ (h.2 c)⟩
    | exact x_sir.mono h fun _ _ _ h => x_ai.mono h fun _ _ _ h => x_if.mono h fun h => ⟨h.1, hK _ _ _ _ h.2⟩
    | exact x_sir.mono h fun _ _ _ h => x_al.mono h fun _ _ h => ⟨h.1, hK _ _ _ _ h.2⟩
    | exact x_siir.mono h fun _ _ _ _ h => x_ai.mono h fun _ _ _ h => x_if.mono h fun h => ⟨h.1, hK _ _ _ _ h.2⟩
    | exact x_slir.mono h fun _ _ _ _ h => x_al.mono h fun _ _ h => ⟨h.1, hK _ _ _ _ h.2⟩
    | (simp only [x_go] at h ⊢
       split at h
       · exact hK _ _ _ _ h
       · exact h.elim)
theorem x_st.mono {sc : Nat × (Nat → Int32)} {M : x_M} {C : Nat → List Value → x_H → (x_O → x_H → Prop) → Prop} (hC : x_Cm C) {Q Q' : x_O → x_H → Prop} {K K' : Nat → x_L → List Value → x_H → Prop} {pc : Nat} {L : x_L} {st : List Value} {X : x_H}
    (hQ : ∀ o Y, Q o Y → Q' o Y) (hK : ∀ pc L st X, K pc L st X → K' pc L st X) (h : x_st sc M C Q K pc L st X) : x_st sc M C Q' K' pc L st X := by
  unfold x_st at *
  split at h
  · exact x_go.mono hC hQ hK h
  · exact h.elim
/-- a step -/
theorem x_W.s {sc : Nat × (Nat → Int32)} {M : x_M} {C : Nat → List Value → x_H → (x_O → x_H → Prop) → Prop} (hC : x_Cm C) {Q : x_O → x_H → Prop} {pc : Nat} {L : x_L} {st : List Value} {X : x_H} (h : x_st sc M C Q (x_W sc M C Q) pc L st X) : x_W sc M C Q pc L st X :=
  fun P hP => hP pc L st X (x_st.mono hC (fun _ _ h => h) (fun _ _ _ _ h => h P hP) h)
theorem x_W.mono {sc : Nat × (Nat → Int32)} {M : x_M} {C : Nat → List Value → x_H → (x_O → x_H → Prop) → Prop} (hC : x_Cm C) {Q Q' : x_O → x_H → Prop} (hQ : ∀ o Y, Q o Y → Q' o Y) {pc : Nat} {L : x_L} {st : List Value} {X : x_H} (h : x_W sc M C Q pc L st X) : x_W sc M C Q' pc L st X :=
  fun P hP => h P fun pc L st X h => hP pc L st X (x_st.mono hC hQ (fun _ _ _ _ h => h) h)
end
section
/-! ===== the small machine's heap in the great one ===== -/
def x_T : List Cond := lw_tbl.filter goodWord
theorem x_T_good {w : Cond} (h : w ∈ x_T) : goodWord w = true := (List.mem_filter.mp h).2
theorem x_T_in {big : List Cond} (hb : ∀ w ∈ x_T, w ∈ big) {ws : List Cond} (h : ∀ w ∈ ws, w ∈ x_T) : GoodIn big ws := fun w hw => ⟨hb w (h w hw), good_of_word (x_T_good (h w hw))⟩
def x_rv (ad : Nat → Nat) (v : Value) : Value := match v with
  | .ref k => .ref (ad k)
  | v => v
theorem x_rv_cat (ad : Nat → Nat) (v : Value) : (x_rv ad v).category = v.category := by cases v <;> rfl
/-- the places below n, and the script's, keep their addresses -/
def x_agr (n : Nat) (ad ad' : Nat → Nat) : Prop := (∀ k, k < n → ad' k = ad k) ∧ ad' x_SP = ad x_SP
theorem x_rv_ok {ad ad' : Nat → Nat} {n : Nat} (h : x_agr n ad ad') {v : Value} (hv : x_vok n v) : x_rv ad' v = x_rv ad v := by
  cases v with
  | ref k =>
    rcases hv with hv | rfl
    · exact congrArg Value.ref (h.1 k hv)
    · exact congrArg Value.ref h.2
  | _ => rfl
def x_cz (ad : Nat → Nat) (cO : FieldType → ClassId) (c : x_C) : va_E := match c with
  | .inl (ty, a) => .inl (cO ty, a)
  | .inr (ci, fs) => .inr (ci, fs.map (x_rv ad))
def x_wk (ad : Nat → Nat) (cO : FieldType → ClassId) : Nat → List x_C → va_W
  | _, [] => []
  | k, c :: X => (ad k, x_cz ad cO c) :: x_wk ad cO (k + 1) X
theorem x_wk_at (ad : Nat → Nat) (cO : FieldType → ClassId) : ∀ (k : Nat) (X : List x_C) (i : Nat), (x_wk ad cO k X)[i]? = X[i]?.map (fun c => (ad (k + i), x_cz ad cO c))
  | _, [], _ => by simp [x_wk]
  | k, c :: X, 0 => by simp [x_wk]
  | k, c :: X, i + 1 => by
    have h := x_wk_at ad cO (k + 1) X i
    simp only [x_wk, List.getElem?_cons_succ]
    rw [h, show k + 1 + i = k + (i + 1) by omega]
theorem x_wk_set (ad : Nat → Nat) (cO : FieldType → ClassId) (c : x_C) : ∀ (k : Nat) (X : List x_C) (i : Nat), x_wk ad cO k (X.set i c) = (x_wk ad cO k X).set i (ad (k + i), x_cz ad cO c)
  | _, [], _ => by simp [x_wk]
  | k, b :: X, 0 => by simp [x_wk]
  | k, b :: X, i + 1 => by
    simp only [x_wk, List.set_cons_succ]
    rw [x_wk_set ad cO c (k + 1) X i, show k + 1 + i = k + (i + 1) by omega]
theorem x_at0 {ad : Nat → Nat} {cO : FieldType → ClassId} {X : List x_C} {a : Nat} {c : x_C} (h : X[a]? = some c) : (x_wk ad cO 0 X)[a]? = some (ad a, x_cz ad cO c) := by
  rw [x_wk_at, h, Nat.zero_add]; rfl
theorem x_set0 {ad : Nat → Nat} {cO : FieldType → ClassId} {X : List x_C} {a : Nat} {c : x_C} : x_wk ad cO 0 (X.set a c) = (x_wk ad cO 0 X).set a (ad a, x_cz ad cO c) := by
  rw [x_wk_set, Nat.zero_add]
/-- the locals as the kit lists them -/
def x_ll (ad : Nat → Nat) : Nat → x_L → List (Nat × Value)
  | _, [] => []
  | k, none :: L => x_ll ad (k + 1) L
  | k, some v :: L => (k, x_rv ad v) :: x_ll ad (k + 1) L
theorem x_ll_mem (ad : Nat → Nat) : ∀ (k : Nat) (L : x_L) (q : Nat × Value), q ∈ x_ll ad k L ↔ ∃ (j : Nat) (v : Value), L[j]? = some (some v) ∧ q = (k + j, x_rv ad v)
  | k, [], q => by simp [x_ll]
  | k, none :: L, q => by
    rw [x_ll, x_ll_mem ad (k + 1) L q]
    constructor
    · rintro ⟨j, v, h, rfl⟩
      exact ⟨j + 1, v, by simpa using h, by rw [show k + 1 + j = k + (j + 1) by omega]⟩
    · rintro ⟨j, v, h, rfl⟩
      cases j with
      | zero => simp at h
      | succ j => exact ⟨j, v, by simpa using h, by rw [show k + 1 + j = k + (j + 1) by omega]⟩
  | k, some w :: L, q => by
    rw [x_ll, List.mem_cons, x_ll_mem ad (k + 1) L q]
    constructor
    · rintro (rfl | ⟨j, v, h, rfl⟩)
      · exact ⟨0, w, by simp, by simp⟩
      · exact ⟨j + 1, v, by simpa using h, by rw [show k + 1 + j = k + (j + 1) by omega]⟩
    · rintro ⟨j, v, h, rfl⟩
      cases j with
      | zero =>
        have h1 : w = v := by simpa using h
        subst h1
        exact Or.inl rfl
      | succ j => exact Or.inr ⟨j, v, by simpa using h, by rw [show k + 1 + j = k + (j + 1) by omega]⟩
/-- the locals: known ones are of one word -/
def x_lv (ad : Nat → Nat) (L : x_L) (ls : Array Slot) (nL : Nat) : Prop := L.length = nL ∧ lv_has ls nL (x_ll ad 0 L) ∧ ∀ (j : Nat) (v : Value), L[j]? = some (some v) → v.category = 1
theorem x_lv.at {ad : Nat → Nat} {L : x_L} {ls : Array Slot} {nL k : Nat} {v : Value} (h : x_lv ad L ls nL) (hk : L[k]? = some (some v)) : ls[k]? = some (.val (x_rv ad v)) :=
  h.2.1.2.2 (k, x_rv ad v) ((x_ll_mem ad 0 L _).mpr ⟨k, v, hk, by rw [Nat.zero_add]⟩)
theorem x_lv.set {ad : Nat → Nat} {L : x_L} {ls ls' : Array Slot} {nL k : Nat} {v : Value} (h : x_lv ad L ls nL) (hv : v.category = 1)
    (h' : lv_has ls' nL ((k, x_rv ad v) :: (x_ll ad 0 L).filter (fun q => !(q.1 == k) && !(q.1 + 1 == k && q.2.category == 2)))) : x_lv ad (L.set k (some v)) ls' nL := by
  obtain ⟨h1, h2, h3⟩ := h
  have hc : ∀ (j : Nat) (w : Value), (L.set k (some v))[j]? = some (some w) → (j = k ∧ w = v) ∨ (j ≠ k ∧ L[j]? = some (some w)) := by
    intro j w hj
    by_cases hjk : j = k
    · subst hjk
      by_cases hl : j < L.length
      · rw [List.getElem?_set_self hl] at hj
        exact Or.inl ⟨rfl, (Option.some.inj (Option.some.inj hj)).symm⟩
      · rw [List.getElem?_eq_none (by rw [List.length_set]; omega)] at hj
        cases hj
    · rw [List.getElem?_set_ne (Ne.symm hjk)] at hj
      exact Or.inr ⟨hjk, hj⟩
  refine ⟨by rw [List.length_set]; exact h1, ⟨h'.1, h'.2.1, fun q hq => ?_⟩, fun j w hj => ?_⟩
  · obtain ⟨j, w, hj, rfl⟩ := (x_ll_mem ad 0 _ q).mp hq
    rw [Nat.zero_add]
    rcases hc j w hj with ⟨rfl, rfl⟩ | ⟨hne, hj⟩
    · exact h'.2.2 _ List.mem_cons_self
    · refine h'.2.2 (j, x_rv ad w) (List.mem_cons_of_mem _ (List.mem_filter.mpr ⟨(x_ll_mem ad 0 L _).mpr ⟨j, w, hj, by rw [Nat.zero_add]⟩, ?_⟩))
      have hw := h3 j w hj
      have h4 : (x_rv ad w).category = 1 := by rw [x_rv_cat]; exact hw
      simp [hne, h4]
  · rcases hc j w hj with ⟨rfl, rfl⟩ | ⟨hne, hj⟩
    · exact hv
    · exact h3 j w hj
theorem x_lok_at {n : Nat} : ∀ {L : x_L}, x_lok n L → ∀ (j : Nat) (v : Value), L[j]? = some (some v) → x_vok n v
  | [], _, j, v, h => by simp at h
  | none :: L, hL, j, v, h => by
    cases j with
    | zero => simp at h
    | succ j => exact x_lok_at (L := L) hL j v (by simpa using h)
  | some w :: L, hL, j, v, h => by
    cases j with
    | zero =>
      have h1 : w = v := by simpa using h
      subst h1
      exact hL.1
    | succ j => exact x_lok_at (L := L) hL.2 j v (by simpa using h)
theorem x_lv.move {ad ad' : Nat → Nat} {n : Nat} (hn : x_agr n ad ad') {L : x_L} {ls : Array Slot} {nL : Nat} (hL : x_lok n L) (h : x_lv ad L ls nL) : x_lv ad' L ls nL := by
  refine ⟨h.1, ⟨h.2.1.1, h.2.1.2.1, fun q hq => ?_⟩, h.2.2⟩
  obtain ⟨j, v, hj, rfl⟩ := (x_ll_mem ad' 0 L q).mp hq
  rw [Nat.zero_add, x_rv_ok hn (x_lok_at hL j v hj)]
  exact h.at hj
theorem x_st_move {ad ad' : Nat → Nat} {n : Nat} (hn : x_agr n ad ad') : ∀ {st : List Value}, x_sok n st → st.map (x_rv ad') = st.map (x_rv ad)
  | [], _ => rfl
  | v :: st, h => by rw [List.map_cons, List.map_cons, x_rv_ok hn h.1, x_st_move hn h.2]
theorem x_lv.unset {ad : Nat → Nat} {L : x_L} {ls ls' : Array Slot} {nL k : Nat} {w : Value} (h : x_lv ad L ls nL)
    (h' : lv_has ls' nL ((k, w) :: (x_ll ad 0 L).filter (fun q => !(q.1 == k) && !(q.1 + 1 == k && q.2.category == 2)))) : x_lv ad (L.set k none) ls' nL := by
  obtain ⟨h1, h2, h3⟩ := h
  have hc : ∀ (j : Nat) (w : Value), (L.set k none)[j]? = some (some w) → j ≠ k ∧ L[j]? = some (some w) := by
    intro j w hj
    by_cases hjk : j = k
    · subst hjk
      by_cases hl : j < L.length
      · rw [List.getElem?_set_self hl] at hj
        cases hj
      · rw [List.getElem?_eq_none (by rw [List.length_set]; omega)] at hj
        cases hj
    · rw [List.getElem?_set_ne (Ne.symm hjk)] at hj
      exact ⟨hjk, hj⟩
  refine ⟨by rw [List.length_set]; exact h1, ⟨h'.1, h'.2.1, fun q hq => ?_⟩, fun j w hj => h3 j w (hc j w hj).2⟩
  obtain ⟨j, w, hj, rfl⟩ := (x_ll_mem ad 0 _ q).mp hq
  rw [Nat.zero_add]
  obtain ⟨hne, hj⟩ := hc j w hj
  refine h'.2.2 (j, x_rv ad w) (List.mem_cons_of_mem _ (List.mem_filter.mpr ⟨(x_ll_mem ad 0 L _).mpr ⟨j, w, hj, by rw [Nat.zero_add]⟩, ?_⟩))
  have hw := h3 j w hj
  have h4 : (x_rv ad w).category = 1 := by rw [x_rv_cat]; exact hw
  simp [hne, h4]
theorem x_wk_app (ad : Nat → Nat) (cO : FieldType → ClassId) (c : x_C) : ∀ (k : Nat) (X : List x_C), x_wk ad cO k (X ++ [c]) = x_wk ad cO k X ++ [(ad (k + X.length), x_cz ad cO c)]
  | k, [] => rfl
  | k, b :: X => by
    simp only [List.cons_append, x_wk]
    rw [x_wk_app ad cO c (k + 1) X, List.length_cons, show k + 1 + X.length = k + (X.length + 1) by omega]
theorem x_wk_move {ad ad' : Nat → Nat} {n : Nat} (hn : x_agr n ad ad') (cO : FieldType → ClassId) : ∀ (X : List x_C) (k : Nat), k + X.length ≤ n → x_hok n X → x_wk ad' cO k X = x_wk ad cO k X
  | [], _, _, _ => rfl
  | .inl (ty, a) :: X, k, h, ho => by
    have h0 := hn.1 k (by simp only [List.length_cons] at h; omega)
    simp only [x_wk, x_cz]
    rw [h0, x_wk_move hn cO X (k + 1) (by simp only [List.length_cons] at h; omega) ho]
  | .inr (ci, fs) :: X, k, h, ho => by
    have h0 := hn.1 k (by simp only [List.length_cons] at h; omega)
    simp only [x_wk, x_cz]
    rw [h0, x_st_move hn ho.1, x_wk_move hn cO X (k + 1) (by simp only [List.length_cons] at h; omega) ho.2]
/-- one more place -/
def x_adn (ad : Nat → Nat) (n q : Nat) : Nat → Nat := fun k => if k = n then q else ad k
theorem x_adn_agr (ad : Nat → Nat) {n q : Nat} (h : n < x_SP) : x_agr n ad (x_adn ad n q) := ⟨fun k hk => if_neg (by omega), if_neg (by omega)⟩
theorem x_adn_new (ad : Nat → Nat) (n q : Nat) : x_adn ad n q n = q := if_pos rfl
theorem x_wk_new {ad : Nat → Nat} {cO : FieldType → ClassId} {X : List x_C} {L : x_L} {st : List Value} (h : x_aok L st X) (q : Nat) (c : x_C) (hc : x_cz (x_adn ad X.length q) cO c = x_cz ad cO c) : x_wk (x_adn ad X.length q) cO 0 (X ++ [c]) = x_wk ad cO 0 X ++ [(q, x_cz ad cO c)] := by
  rw [x_wk_app, x_wk_move (x_adn_agr ad h.1) cO X 0 (by omega) h.2.2.2, Nat.zero_add, x_adn_new, hc]
def x_ty (cO : FieldType → ClassId) : List (ClassId × FieldType) := [(cO .int, .int), (cO .boolean, .boolean), (cO .long, .long)]
/-- what the start gives beside the world, and keeps -/
def x_EnOK (En : (Nat → Prop) → State → Heap → Prop) : Prop :=
  (∀ A u U H, u.vm = U.vm → En A u H → En A U H) ∧ (∀ A s U H, s.WarmedH U.vm → En A s H → En A U H) ∧
  (∀ A U H H', H.size ≤ H'.size → (∀ q : Nat, q < H.size → ¬ A q → H'[q]? = H[q]?) → En A U H → En A U H') ∧ (∀ A B U H, (∀ q, B q → A q) → En A U H → En B U H)
/-- a method's start, in the small machine's words -/
def x_Pre (D : va_G) (cO : FieldType → ClassId) (En : (Nat → Prop) → State → Heap → Prop) (ad : Nat → Nat) (X : List x_C) (av : List Value) (sz : Nat) : Array Value → State → Prop :=
  va_Pc (av.map (x_rv ad)) (fun U => U.heap.size = sz ∧ va_P D vwCl (x_wk ad cO 0 X) U.heap ∧ va_K D vwCl (x_ty cO) U ∧ va_D (fun _ => True) (x_wk ad cO 0 X) ∧ En (va_A (x_wk ad cO 0 X) sz) U U.heap)
/-- how the places go on: those that were there keep their addresses, and without new cells all is as it was -/
def x_ext (X : List x_C) (bc : Nat) (ad : Nat → Nat) (Y : List x_C) (ad' : Nat → Nat) : Prop := X.length ≤ Y.length ∧ x_agr X.length ad ad' ∧ (bc = 0 → ad' = ad)
/-- the world behind it -/
def x_B (D : va_G) (cO : FieldType → ClassId) (A : Nat → Prop) (ad' : Nat → Nat) (Y : List x_C) (t : State) : Prop := va_P D vwCl (x_wk ad' cO 0 Y) t.heap ∧ va_K D vwCl (x_ty cO) t ∧ va_D A (x_wk ad' cO 0 Y)
/-- a method's end -/
def x_Post (D : va_G) (cO : FieldType → ClassId) (ad : Nat → Nat) (X : List x_C) (sz bc : Nat) (Q : x_O → x_H → Prop) : Array Value → State → Outcome → State → Prop := fun _ st oc t =>
  (∃ (v : Option Value) (Y : x_H) (ad' : Nat → Nat), oc = .returned (v.map (x_rv ad')) ∧ Q (.inl v) Y ∧ x_ext X bc ad Y.1 ad' ∧ x_B D cO (va_A (x_wk ad cO 0 X) sz) ad' Y.1 t) ∧ va_F (va_A (x_wk ad cO 0 X) sz) st t
/-- a method's end where it throws -/
def x_PostX (D : va_G) (cO : FieldType → ClassId) (ad : Nat → Nat) (X : List x_C) (sz bc : Nat) (Q : x_O → x_H → Prop) : String → State → State → Prop := fun E st t =>
  (∃ (Y : x_H) (ad' : Nat → Nat), Q (.inr E) Y ∧ x_ext X bc ad Y.1 ad' ∧ x_B D cO (va_A (x_wk ad cO 0 X) sz) ad' Y.1 t) ∧ va_F (va_A (x_wk ad cO 0 X) sz) st t
/-- a contract where nothing is thrown -/
theorem x_toMet {l : Launch} {y : MethodName} {ws : List Cond} {rm : Room} {Pc : Array Value → State → Prop} {Qc : Array Value → State → Outcome → State → Prop} {XC : String → State → State → Prop} {mc ms : Nat} {free : Addr → Prop} (h : vx_Met l y ws rm Pc Qc XC mc ms free) (hx : ∀ E st t, ¬ XC E st t) : Met l y ws rm Pc Qc mc ms free := by
  refine MetFree.mono h (fun _ _ h => h) (fun _ _ _ _ _ h => h) (fun a s o s' _ hq => ?_)
  rcases hq with hq | ⟨q, -, E, ce, L, h1, -⟩
  · exact hq
  · exact absurd h1 (hx _ _ _)
end
section
theorem x_if.inv {c : Prop} {hd : Decidable c} {K : Prop} (h : x_if c K) : c ∧ K := by
  unfold x_if at h; split at h
  · exact ⟨by assumption, h⟩
  · exact h.elim
theorem x_bok.inv {bc bs : Nat} {L : x_L} {st : List Value} {X : x_H} {K : Prop} (h : x_bok bc bs L st X K) : ((st.map fun v => v.category).sum ≤ 8 ∧ ((bc = 0 ∧ bs = 0) ∨ (bc ≤ X.2.1 ∧ bs ≤ X.2.2 ∧ x_lok X.1.length L ∧ x_sok X.1.length st))) ∧ K := by
  obtain ⟨h1, h⟩ := x_if.inv h
  cases bc with
  | zero => obtain ⟨h2, h⟩ := x_if.inv h; exact ⟨⟨h1, Or.inl ⟨rfl, h2⟩⟩, h⟩
  | succ b => exact ⟨⟨h1, Or.inr h.1⟩, h.2⟩
theorem x_isr.inv {v : Option Value} {K : Prop} (h : x_isr v K) : (∃ a, v = some (.ref a)) ∧ K := by
  unfold x_isr at h; split at h
  · exact ⟨⟨_, rfl⟩, h⟩
  · exact h.elim
theorem x_ret.inv {rt : Option FieldType} {x : Int32} {K : Prop} (h : x_ret rt x K) : (∃ ty, rt = some ty ∧ narrow ty (.int x) = .int x) ∧ K := by
  unfold x_ret at h; split at h
  · exact ⟨⟨_, rfl, rfl⟩, h⟩
  · exact ⟨⟨_, rfl, h.1⟩, h.2⟩
  · exact h.elim
theorem x_ldi.inv {L : x_L} {k : Nat} {K : Int32 → Prop} (h : x_ldi L k K) : ∃ x, L[k]? = some (some (.int x)) ∧ K x := by
  unfold x_ldi at h; split at h
  · exact ⟨_, by assumption, h⟩
  · exact h.elim
theorem x_lda.inv {L : x_L} {k : Nat} {K : Nat → Prop} (h : x_lda L k K) : ∃ x, L[k]? = some (some (.ref x)) ∧ K x := by
  unfold x_lda at h; split at h
  · exact ⟨_, by assumption, h⟩
  · exact h.elim
theorem x_ai.inv {X : x_H} {a : Nat} {K : FieldType → Nat → (Nat → Int32) → Prop} (h : x_ai X a K) : ∃ ty n f, X.1[a]? = some (.inl (ty, n, .inl f)) ∧ K ty n f := by
  unfold x_ai at h; split at h
  · exact ⟨_, _, _, by assumption, h⟩
  · exact h.elim
theorem x_al.inv {X : x_H} {a : Nat} {K : Nat → (Nat → Int64) → Prop} (h : x_al X a K) : ∃ n f, X.1[a]? = some (.inl (.long, n, .inr (.inl f))) ∧ K n f := by
  unfold x_al at h; split at h
  · exact ⟨_, _, by assumption, h⟩
  · exact h.elim
theorem x_ob.inv {X : x_H} {a : Nat} {K : Nat → List Value → Prop} (h : x_ob X a K) : ∃ ci fs, X.1[a]? = some (.inr (ci, fs)) ∧ K ci fs := by
  unfold x_ob at h; split at h
  · exact ⟨_, _, by assumption, h⟩
  · exact h.elim
theorem x_s1.inv {st : List Value} {K : Int32 → List Value → Prop} (h : x_s1 st K) : ∃ x r, st = .int x :: r ∧ K x r := by
  unfold x_s1 at h; split at h
  · exact ⟨_, _, rfl, h⟩
  · exact h.elim
theorem x_s2.inv {st : List Value} {K : Int32 → Int32 → List Value → Prop} (h : x_s2 st K) : ∃ x y r, st = .int y :: .int x :: r ∧ K x y r := by
  unfold x_s2 at h; split at h
  · exact ⟨_, _, _, rfl, h⟩
  · exact h.elim
theorem x_sr.inv {st : List Value} {K : Nat → List Value → Prop} (h : x_sr st K) : ∃ x r, st = .ref x :: r ∧ K x r := by
  unfold x_sr at h; split at h
  · exact ⟨_, _, rfl, h⟩
  · exact h.elim
theorem x_sir.inv {st : List Value} {K : Nat → Int32 → List Value → Prop} (h : x_sir st K) : ∃ a i r, st = .int i :: .ref a :: r ∧ K a i r := by
  unfold x_sir at h; split at h
  · exact ⟨_, _, _, rfl, h⟩
  · exact h.elim
theorem x_siir.inv {st : List Value} {K : Nat → Int32 → Int32 → List Value → Prop} (h : x_siir st K) : ∃ a i x r, st = .int x :: .int i :: .ref a :: r ∧ K a i x r := by
  unfold x_siir at h; split at h
  · exact ⟨_, _, _, _, rfl, h⟩
  · exact h.elim
theorem x_slir.inv {st : List Value} {K : Nat → Int32 → Int64 → List Value → Prop} (h : x_slir st K) : ∃ a i x r, st = .long x :: .int i :: .ref a :: r ∧ K a i x r := by
  unfold x_slir at h; split at h
  · exact ⟨_, _, _, _, rfl, h⟩
  · exact h.elim
theorem x_sl1.inv {st : List Value} {K : Int64 → List Value → Prop} (h : x_sl1 st K) : ∃ x r, st = .long x :: r ∧ K x r := by
  unfold x_sl1 at h; split at h
  · exact ⟨_, _, rfl, h⟩
  · exact h.elim
theorem x_sl2.inv {st : List Value} {K : Int64 → Int64 → List Value → Prop} (h : x_sl2 st K) : ∃ x y r, st = .long y :: .long x :: r ∧ K x y r := by
  unfold x_sl2 at h; split at h
  · exact ⟨_, _, _, rfl, h⟩
  · exact h.elim
theorem x_sil.inv {st : List Value} {K : Int64 → Int32 → List Value → Prop} (h : x_sil st K) : ∃ x y r, st = .int y :: .long x :: r ∧ K x y r := by
  unfold x_sil at h; split at h
  · exact ⟨_, _, _, rfl, h⟩
  · exact h.elim
theorem x_svr.inv {st : List Value} {K : Nat → Value → List Value → Prop} (h : x_svr st K) : ∃ a v r, st = v :: .ref a :: r ∧ K a v r := by
  unfold x_svr at h; split at h
  · exact ⟨_, _, _, rfl, h⟩
  · exact h.elim
/-- how long an instruction is -/
def x_len (i : Instr) (n : Nat) : Nat := match i with
  | .bipush _ | .iload _ | .aload _ | .istore _ | .astore _ | .ldc _ | .newarray _ => 2
  | .sipush _ | .iinc _ _ | .goto _ | .ifCond _ _ | .if_icmp _ _ | .ldc_w _ | .ldc2_w _ | .getfield _ | .putfield _ | .invokevirtual _ | .invokestatic _ | .invokespecial _ | .new _ | .getstatic _ => 3
  | .tableswitch _ _ _ _ => n
  | _ => 1
def x_jmp (pc : Nat) (i : Instr) (tg : Nat) : Prop := match i with
  | .goto o | .ifCond _ o | .if_icmp _ o => (pc : Int) + o = (tg : Int)
  | .tableswitch dd lo hi offs => 0 ≤ (pc : Int) + dd ∧ (∀ o ∈ offs.toList, 0 ≤ (pc : Int) + o) ∧ lo + offs.size = hi + 1
  | _ => True
/-- words for all methods -/
def x_Gw : Prop := Cond.instanceMethod objectInit ∈ x_T ∧ Cond.code objectInit ⟨#[0xb1]⟩ 1 none ∈ x_T ∧ Cond.arrayClass .int ∈ x_T ∧ Cond.arrayClass .boolean ∈ x_T ∧ Cond.arrayClass .long ∈ x_T
/-- a method's tables are those of its bytes and of the words -/
def x_Tb (M : x_M) : Prop :=
  (∀ pc i len tg, M.tab pc = some (i, len, tg) → decode M.cod pc = .ok (i, x_len i len) ∧ x_jmp pc i tg) ∧
  (∀ ix ci k ty w, M.fld ix = some (ci, k, ty, w) → ∃ (C : String) (T : u_T) (N : Nat) (ty0 : Nat → FieldType), vwCl[ci]? = some (C, T, N) ∧ k < N ∧ (∀ w ∈ u_ws C T N, w ∈ x_T) ∧ Cond.fieldLink M.own ix (T k).1 (T k).2.1 (T k).2.2.1 ∈ x_T ∧
    (∀ k, k < N → parseFieldDescriptor (T k).2.2.1 = some (ty0 k)) ∧ (∀ a, a < N → ∀ b, b < N → a ≠ b → (T a).2.1 ≠ (T b).2.1) ∧ (w = 0 ∨ parseFieldDescriptor (T k).2.2.1 = some ty ∧ ((w = 1 ∧ (T k).2.2.2 = false) ∨ ((T k).2.2.2 = true ∧ M.nam.name = "<init>" ∧ (T k).1 = M.own)))) ∧
  (∀ ix v, M.cst ix = some (.int v) → Cond.constant M.own ix v ∈ x_T) ∧ (∀ ix v, M.cst ix = some (.long v) → Cond.constantLong M.own ix v ∈ x_T) ∧
  (∀ ix ci fs, M.nwc ix = some (ci, fs) → ∃ (C : String) (T : u_T) (N : Nat) (ty0 : Nat → FieldType), vwCl[ci]? = some (C, T, N) ∧ (∀ w ∈ u_ws C T N, w ∈ x_T) ∧ (∀ k, k < N → parseFieldDescriptor (T k).2.2.1 = some (ty0 k)) ∧ Cond.classLink M.own ix C ∈ x_T ∧ Cond.instantiable C N ∈ x_T ∧ Cond.initialized C ∈ x_T ∧ (∀ j, j < N → defaultValue (ty0 j) = vp_V fs j) ∧ fs.length = N ∧ ∀ ad, fs.map (x_rv ad) = fs) ∧
  (∀ ix, M.spc ix = some none → Cond.methodLink M.own ix objectInit ∈ x_T) ∧
  (∀ ix mj n bc bs, M.cas ix = some (mj, n, 2, bc, bs) → Cond.methodLink M.own ix Lib.Math.min.name ∈ x_T ∧ Cond.static Lib.Math.min.name ∈ x_T ∧ Cond.initialized "java/lang/Math" ∈ x_T ∧ Cond.code Lib.Math.min.name Lib.Math.min.code 2 (some .int) ∈ x_T)
theorem x_fit_ok {ty : FieldType} {v : Value} (ad : Nat → Nat) (h : x_fit ty v = true) : narrow ty (x_rv ad v) = x_rv ad v ∧ fits ty (x_rv ad v) = true := by
  unfold x_fit at h
  split at h
  · exact ⟨rfl, rfl⟩
  · exact ⟨rfl, rfl⟩
  · exact ⟨rfl, rfl⟩
  · cases h
section XS
variable {p : Program} {l : Launch} {e : Env} {R : Room} {s : State} {m : MethodId} {args : Array Value} {below : List Frame} {meth : Method} {c : Code} {QQ : State → Prop}
variable {M : x_M} {C : Nat → List Value → x_H → (x_O → x_H → Prop) → Prop} {Q : x_O → x_H → Prop} {D : va_G} {cO : FieldType → ClassId} {En : (Nat → Prop) → State → Heap → Prop} {A : Nat → Prop} {X0 : List x_C} {ad0 : Nat → Nat} {mcT msT : Nat}
/-- the frame stands so in the great machine -/
def x_R (D : va_G) (cO : FieldType → ClassId) (A : Nat → Prop) (s : State) (nL : Nat) (X0 : List x_C) (ad0 : Nat → Nat) (mcT msT : Nat) (L : x_L) (X : x_H) (ad : Nat → Nat) (H : Heap) (locs : List Loc) (cells slots : Nat) (ls : Array Slot) : Prop :=
  cells + X.2.1 ≤ mcT ∧ slots + X.2.2 ≤ msT ∧ va_P D vwCl (x_wk ad cO 0 X.1) H ∧ va_D A (x_wk ad cO 0 X.1) ∧ va_S A s.heap H locs ∧ x_lv ad L ls nL ∧ x_ext X0 mcT ad0 X.1 ad
def x_P (p : Program) (l : Launch) (e : Env) (R : Room) (s : State) (m : MethodId) (args : Array Value) (below : List Frame) (meth : Method) (c : Code) (QQ : State → Prop) (D : va_G) (cO : FieldType → ClassId) (A : Nat → Prop) (nL : Nat) (X0 : List x_C) (ad0 : Nat → Nat) (mcT msT : Nat) : Nat → x_L → List Value → x_H → Prop := fun pc L st X =>
  ∀ (ad : Nat → Nat) (H : Heap) (locs : List Loc) (cells slots : Nat) (ls : Array Slot), x_R D cO A s nL X0 ad0 mcT msT L X ad H locs cells slots ls → W p l e R s m args below meth c H locs cells slots QQ (F0 m pc ls (st.map (x_rv ad)))
/-- likewise, with something thrown over it -/
def x_PX (p : Program) (l : Launch) (e : Env) (R : Room) (s : State) (m : MethodId) (args : Array Value) (below : List Frame) (meth : Method) (c : Code) (QQ : State → Prop) (D : va_G) (cO : FieldType → ClassId) (A : Nat → Prop) (nL : Nat) (X0 : List x_C) (ad0 : Nat → Nat) (mcT msT : Nat) (E : String) : Nat → x_L → List Value → x_H → Prop := fun pc L st X =>
  ∀ (ad : Nat → Nat) (H : Heap) (locs : List Loc) (cells slots : Nat) (ls : Array Slot) (q : Addr) (ce : Cell), x_R D cO A s nL X0 ad0 mcT msT L X ad H locs cells slots ls → H[q]? = some ce → ce.vm = .none → s.vm.findClass E = some ce.cls → vx_W p l e R s m args below meth c H locs cells slots QQ (F0 m pc ls (st.map (x_rv ad))) q
def x_Ctx (p : Program) (R : Room) (s : State) (m : MethodId) (args : Array Value) (meth : Method) (c : Code) (M : x_M) (D : va_G) (cO : FieldType → ClassId) (En : (Nat → Prop) → State → Heap → Prop) (A : Nat → Prop) (mcT msT : Nat) : Prop :=
  p.tables.exec = Jvm.exec ∧ c.code = M.cod ∧ c.maxLocals = M.maxl ∧ s.vm.findClass M.own = some m.cls ∧ (∀ w ∈ x_T, w.before args s = true) ∧ va_K D vwCl (x_ty cO) s ∧ (∀ q : Nat, s.heap.size ≤ q → A q) ∧ En A s s.heap ∧ mcT ≤ R.cells ∧ msT ≤ R.slots ∧ meth.name = M.nam.name ∧ 1 ≤ R.frames ∧ 40 ≤ R.locals
/-- what a call needs: its words, and the callee's contract -/
def x_CV (l : Launch) (R : Room) (s : State) (args : Array Value) (M : x_M) (C : Nat → List Value → x_H → (x_O → x_H → Prop) → Prop) (D : va_G) (cO : FieldType → ClassId) (En : (Nat → Prop) → State → Heap → Prop) (b : Nat) : Prop :=
  ∀ ix mj n ci bc bs, M.cal ix = some (mj, n, ci, bc, bs) → ∃ (y : MethodName) (bytes : ByteArray) (maxL : Nat) (ret : Option FieldType) (ws : List Cond) (rm : Room) (cq : vw_C), vwCl[ci]? = some cq ∧ CallW R s args M.own cq.1 ix y bytes maxL ret ws rm bc bs n ∧
    ∀ ad X av Qm sz, ad x_SP = b → C mj av (X, bc, bs) Qm → vx_Met l y ws rm (x_Pre D cO En ad X av sz) (x_Post D cO ad X sz bc Qm) (x_PostX D cO ad X sz bc Qm) bc bs (va_A (x_wk ad cO 0 X) sz)
def x_CS (l : Launch) (R : Room) (s : State) (args : Array Value) (M : x_M) (C : Nat → List Value → x_H → (x_O → x_H → Prop) → Prop) (D : va_G) (cO : FieldType → ClassId) (En : (Nat → Prop) → State → Heap → Prop) (b : Nat) : Prop :=
  ∀ ix mj n k bc bs, M.cas ix = some (mj, n, k, bc, bs) → k ≠ 2 → ∃ (y : MethodName) (bytes : ByteArray) (maxL : Nat) (ret : Option FieldType) (ws : List Cond) (rm : Room), ((CallB R s args M.own ix y bytes maxL ret ws rm bc bs n ∧ (Cond.static y).before args s = true) ∨ (∃ host, va_CN R s args M.own ix y host bytes maxL ret ws rm bc bs n ∧ (Cond.static y).before args s = true ∧ True) ∨ ∃ hh, vx_CSW R s args M.own ix y bytes maxL ret hh ws rm bc bs n) ∧
    ∀ ad X av Qm sz, ad x_SP = b → (∀ E Y, ¬ Qm (.inr E) Y) → C mj av (X, bc, bs) Qm → Met l y ws rm (x_Pre D cO En ad X av sz) (x_Post D cO ad X sz bc Qm) bc bs (va_A (x_wk ad cO 0 X) sz)
def x_CI (l : Launch) (R : Room) (s : State) (args : Array Value) (M : x_M) (C : Nat → List Value → x_H → (x_O → x_H → Prop) → Prop) (D : va_G) (cO : FieldType → ClassId) (En : (Nat → Prop) → State → Heap → Prop) (b : Nat) : Prop :=
  ∀ ix mj n bc bs, M.spc ix = some (some (mj, n, bc, bs)) → ∃ (y : MethodName) (bytes : ByteArray) (maxL : Nat) (ws : List Cond) (rm : Room), (CallB R s args M.own ix y bytes maxL none ws rm bc bs n ∧ y.name = "<init>" ∧ (Cond.instanceMethod y).before args s = true) ∧
    ∀ ad X av Qm sz, ad x_SP = b → (∀ E Y, ¬ Qm (.inr E) Y) → C mj av (X, bc, bs) Qm → Met l y ws rm (x_Pre D cO En ad X av sz) (x_Post D cO ad X sz bc Qm) bc bs (va_A (x_wk ad cO 0 X) sz)
/-- behind a call: the frame over the callee's world -/
theorem x_back {n : Nat} {L : x_L} {rest : List Value} {X Y : x_H} {ad ad' : Nat → Nat} {H : Heap} {locs Lc : List Loc} {cells slots bc bs : Nat} {ls : Array Slot} {st₀ t T' : State}
    (hR : x_R D cO A s n X0 ad0 mcT msT L X ad H locs cells slots ls) (hA : ∀ q : Nat, s.heap.size ≤ q → A q) (hb : (rest.map fun v => v.category).sum ≤ 8 ∧ ((bc = 0 ∧ bs = 0) ∨ (bc ≤ X.2.1 ∧ bs ≤ X.2.2 ∧ x_lok X.1.length L ∧ x_sok X.1.length rest)))
    (h0 : st₀.heap = H) (hL : ∀ q ∈ Lc, va_A (x_wk ad cO 0 X.1) H.size q.base) (e1 : T'.heap = t.heap) (hx : x_ext X.1 bc ad Y.1 ad') (hB : x_B D cO (va_A (x_wk ad cO 0 X.1) H.size) ad' Y.1 t) (hF : va_F (va_A (x_wk ad cO 0 X.1) H.size) st₀ t) :
    x_R D cO A s n X0 ad0 mcT msT L (Y.1, X.2.1 - bc, X.2.2 - bs) ad' T'.heap (locs ++ Lc) (cells + bc) (slots + bs) ls ∧ rest.map (x_rv ad') = rest.map (x_rv ad) := by
  obtain ⟨hc, hs, hP, hD, hS, hl, hE⟩ := hR
  have hin : ∀ q, va_A (x_wk ad cO 0 X.1) H.size q → A q := by
    intro q hq
    rcases hq with ⟨k, e9, hk⟩ | hq
    · exact hD.2 k _ hk
    · exact hA q (Nat.le_trans hS.1 hq)
  obtain ⟨hP1, hK1, hD1⟩ := hB
  obtain ⟨hz, hk⟩ := hF
  rw [h0] at hz hk
  have hS' : va_S A s.heap T'.heap (locs ++ Lc) := ⟨Nat.le_trans hS.1 (by rw [e1]; exact hz), fun q h1 h2 => by rw [e1, hk q (Nat.lt_of_lt_of_le h1 hS.1) (fun z => h2 (hin q z))]; exact hS.2.1 q h1 h2, fun q hq => by
    rcases List.mem_append.mp hq with h | h
    · exact hS.2.2 q h
    · exact hin _ (hL q h)⟩
  have hbc : bc ≤ X.2.1 ∧ bs ≤ X.2.2 ∧ x_lv ad' L ls n ∧ rest.map (x_rv ad') = rest.map (x_rv ad) ∧ x_ext X0 mcT ad0 Y.1 ad' := by
    by_cases hb0 : bc = 0
    · have h1 : bs ≤ X.2.2 := by rcases hb.2 with ⟨-, h⟩ | h <;> omega
      have h2 := hx.2.2 hb0
      subst h2
      exact ⟨by omega, h1, hl, rfl, ⟨Nat.le_trans hE.1 hx.1, hE.2.1, hE.2.2⟩⟩
    · rcases hb.2 with ⟨h, -⟩ | ⟨h1, h2, h3, h4⟩
      · exact absurd h hb0
      refine ⟨h1, h2, hl.move hx.2.1 h3, x_st_move hx.2.1 h4, ⟨Nat.le_trans hE.1 hx.1, ⟨fun k hk9 => ?_, hx.2.1.2.trans hE.2.1.2⟩, fun h9 => ?_⟩⟩
      · rw [hx.2.1.1 k (Nat.lt_of_lt_of_le hk9 hE.1)]
        exact hE.2.1.1 k hk9
      · omega
  obtain ⟨b1, b2, b4, b5, b6⟩ := hbc
  exact ⟨⟨by show cells + bc + (X.2.1 - bc) ≤ mcT; omega, by show slots + bs + (X.2.2 - bs) ≤ msT; omega, by rw [e1]; exact hP1, hD1.weaken (fun k q _ h => hin q.1 h), hS', b4, b6⟩, b5⟩
/-- a call has run: the frame goes on over the callee's world -/
theorem x_called {n : Nat} {pc : Nat} {L : x_L} {rest st0 : List Value} {X : x_H} {ad : Nat → Nat} {H : Heap} {locs : List Loc} {cells slots bc bs : Nat} {ls : Array Slot} {Qm : x_O → x_H → Prop} {av : Array Value}
    (hR : x_R D cO A s n X0 ad0 mcT msT L X ad H locs cells slots ls) (hA : ∀ q : Nat, s.heap.size ≤ q → A q) (hb : (rest.map fun v => v.category).sum ≤ 8 ∧ ((bc = 0 ∧ bs = 0) ∨ (bc ≤ X.2.1 ∧ bs ≤ X.2.2 ∧ x_lok X.1.length L ∧ x_sok X.1.length rest)))
    (hr : va_Run p l e R s m args below meth c H locs cells slots bc bs (F0 m pc ls st0) (rest.map (x_rv ad)) (x_Post D cO ad X.1 H.size bc Qm av) (va_A (x_wk ad cO 0 X.1) H.size))
    (kk : ∀ (v : Option Value) (Y : x_H), Qm (.inl v) Y → x_P p l e R s m args below meth c QQ D cO A n X0 ad0 mcT msT (pc + 3) L (v.toList ++ rest) (Y.1, X.2.1 - bc, X.2.2 - bs)) :
    W p l e R s m args below meth c H locs cells slots QQ (F0 m pc ls st0) := by
  intro T hT St
  obtain ⟨v, st₀, t, T', Lc, h0, St', hL, e1, e2, ⟨⟨v', Y, ad', hv, hQ, hx, hB⟩, hF⟩, stp⟩ := hr T hT St
  cases hv
  obtain ⟨hR', b5⟩ := x_back hR hA hb h0 hL e1 hx hB hF
  obtain ⟨t2, a1, b9⟩ := kk v' Y hQ ad' T'.heap (locs ++ Lc) (cells + bc) (slots + bs) ls hR' T' rfl St'
  refine ⟨t2, stp t2 ?_, b9⟩
  have hst : (v'.toList ++ rest).map (x_rv ad') = (v'.map (x_rv ad')).toList ++ rest.map (x_rv ad) := by
    rw [List.map_append, b5]
    cases v' <;> rfl
  rw [hst] at a1
  exact a1
/-- a call has run, or has thrown -/
theorem x_calledX {n : Nat} {pc : Nat} {L : x_L} {rest st0 : List Value} {X : x_H} {ad : Nat → Nat} {H : Heap} {locs : List Loc} {cells slots bc bs : Nat} {ls : Array Slot} {Qm : x_O → x_H → Prop} {av : Array Value}
    (hR : x_R D cO A s n X0 ad0 mcT msT L X ad H locs cells slots ls) (hA : ∀ q : Nat, s.heap.size ≤ q → A q) (hb : (rest.map fun v => v.category).sum ≤ 8 ∧ ((bc = 0 ∧ bs = 0) ∨ (bc ≤ X.2.1 ∧ bs ≤ X.2.2 ∧ x_lok X.1.length L ∧ x_sok X.1.length rest)))
    (hr : vx_Run p l e R s m args below meth c H locs cells slots bc bs (F0 m pc ls st0) (rest.map (x_rv ad)) (x_Post D cO ad X.1 H.size bc Qm av) (x_PostX D cO ad X.1 H.size bc Qm) (va_A (x_wk ad cO 0 X.1) H.size))
    (kk : ∀ (v : Option Value) (Y : x_H), Qm (.inl v) Y → x_P p l e R s m args below meth c QQ D cO A n X0 ad0 mcT msT (pc + 3) L (v.toList ++ rest) (Y.1, X.2.1 - bc, X.2.2 - bs))
    (kx : ∀ (E : String) (Y : x_H), Qm (.inr E) Y → x_PX p l e R s m args below meth c QQ D cO A n X0 ad0 mcT msT E pc L rest (Y.1, X.2.1 - bc, X.2.2 - bs)) :
    W p l e R s m args below meth c H locs cells slots QQ (F0 m pc ls st0) := by
  intro T hT St
  rcases hr T hT St with ⟨v, st₀, t, T', Lc, h0, St', hL, e1, e2, ⟨⟨v', Y, ad', hv, hQ, hx, hB⟩, hF⟩, stp⟩ | ⟨q, st₀, t, T', Lc, E, ce, h0, St', hL, e1, e2, ⟨⟨Y, ad', hQ, hx, hB⟩, hF⟩, hce, hcv, hcl, stp⟩
  · cases hv
    obtain ⟨hR', b5⟩ := x_back hR hA hb h0 hL e1 hx hB hF
    obtain ⟨t2, a1, b9⟩ := kk v' Y hQ ad' T'.heap (locs ++ Lc) (cells + bc) (slots + bs) ls hR' T' rfl St'
    refine ⟨t2, stp t2 ?_, b9⟩
    have hst : (v'.toList ++ rest).map (x_rv ad') = (v'.map (x_rv ad')).toList ++ rest.map (x_rv ad) := by
      rw [List.map_append, b5]
      cases v' <;> rfl
    rw [hst] at a1
    exact a1
  · obtain ⟨hR', b5⟩ := x_back hR hA hb h0 hL e1 hx hB hF
    obtain ⟨t2, a1, b9⟩ := kx E Y hQ ad' T'.heap (locs ++ Lc) (cells + bc) (slots + bs) ls q ce hR' (by rw [e1]; exact hce) hcv hcl T' rfl St'
    rw [b5] at a1
    exact ⟨t2, stp.trans a1, b9⟩
end XS
end
section
/-! ===== a step of the small machine is a step of the great one ===== -/
section XT
variable {p : Program} {l : Launch} {e : Env} {R : Room} {s : State} {m : MethodId} {args : Array Value} {below : List Frame} {meth : Method} {c : Code} {QQ : State → Prop}
variable {M : x_M} {C : Nat → List Value → x_H → (x_O → x_H → Prop) → Prop} {Q : x_O → x_H → Prop} {D : va_G} {cO : FieldType → ClassId} {En : (Nat → Prop) → State → Heap → Prop} {A : Nat → Prop} {X0 : List x_C} {ad0 : Nat → Nat} {mcT msT : Nat}
/-- a method's ends -/
def x_Ends (p : Program) (l : Launch) (e : Env) (R : Room) (s : State) (m : MethodId) (args : Array Value) (below : List Frame) (meth : Method) (c : Code) (QQ : State → Prop) (M : x_M) (Q : x_O → x_H → Prop) (D : va_G) (cO : FieldType → ClassId) (A : Nat → Prop) (X0 : List x_C) (ad0 : Nat → Nat) (mcT msT : Nat) : Prop :=
  ∀ (v : Option Value) (pc : Nat) (L : x_L) (X : x_H), Q (.inl v) X →
    ((∃ x, v = some (.int x) ∧ decode M.cod pc = .ok (.ireturn, 1) ∧ ∃ ty, M.ret = some ty ∧ narrow ty (.int x) = .int x) ∨ (∃ x, v = some (.long x) ∧ decode M.cod pc = .ok (.lreturn, 1) ∧ M.ret = some .long) ∨ (v = none ∧ decode M.cod pc = .ok (.return_, 1) ∧ M.ret = none)) →
    x_P p l e R s m args below meth c QQ D cO A M.maxl X0 ad0 mcT msT pc L v.toList X
/-- nothing catches it here -/
def x_EndX (p : Program) (l : Launch) (e : Env) (R : Room) (s : State) (m : MethodId) (args : Array Value) (below : List Frame) (meth : Method) (c : Code) (QQ : State → Prop) (M : x_M) (Q : x_O → x_H → Prop) (D : va_G) (cO : FieldType → ClassId) (A : Nat → Prop) (X0 : List x_C) (ad0 : Nat → Nat) (mcT msT : Nat) : Prop :=
  ∀ (E : String) (pc : Nat) (L : x_L) (st : List Value) (X : x_H), M.exc pc E = some none → Q (.inr E) X → x_PX p l e R s m args below meth c QQ D cO A M.maxl X0 ad0 mcT msT E pc L st X
/-- caught: the handler's first instruction stores it -/
def x_Hnd (p : Program) (l : Launch) (e : Env) (R : Room) (s : State) (m : MethodId) (args : Array Value) (below : List Frame) (meth : Method) (c : Code) (QQ : State → Prop) (M : x_M) : Prop :=
  ∀ (E : String) (pc h k : Nat), M.exc pc E = some (some (h, k)) → ∃ hp, ((decode M.cod hp = .ok (.astore k, 2) ∧ h = hp + 2) ∨ ∃ kk : Fin 4, decode M.cod hp = .ok (.astore_n kk, 1) ∧ (kk : Nat) = k ∧ h = hp + 1) ∧
    ∀ (H : Heap) (locs : List Loc) (cells slots : Nat) (ls : Array Slot) (rest : List Value) (q : Addr) (ce : Cell), H[q]? = some ce → ce.vm = .none → s.vm.findClass E = some ce.cls → W p l e R s m args below meth c H locs cells slots QQ (F0 m hp ls [.ref q]) → vx_W p l e R s m args below meth c H locs cells slots QQ (F0 m pc ls rest) q
/-- it throws -/
def x_Thr (p : Program) (l : Launch) (e : Env) (R : Room) (s : State) (m : MethodId) (args : Array Value) (below : List Frame) (meth : Method) (c : Code) (QQ : State → Prop) (M : x_M) (Q : x_O → x_H → Prop) (D : va_G) (cO : FieldType → ClassId) (A : Nat → Prop) (X0 : List x_C) (ad0 : Nat → Nat) (mcT msT : Nat) : Prop :=
  ∀ (pc ix len tg : Nat) (E : String) (L : x_L) (st : List Value) (X : x_H), M.tab pc = some (.new ix, len, tg) → M.thr ix = some E → 1 ≤ X.2.1 → 6 ≤ X.2.2 → Q (.inr E) (X.1, X.2.1 - 1, X.2.2 - 6) → x_P p l e R s m args below meth c QQ D cO A M.maxl X0 ad0 mcT msT pc L st X
theorem x_setR {nL : Nat} {L : x_L} {X : x_H} {ad : Nat → Nat} {H H1 : Heap} {locs locs1 : List Loc} {cells slots : Nat} {ls : Array Slot} {a : Nat} {b : x_C}
    (hR : x_R D cO A s nL X0 ad0 mcT msT L X ad H locs cells slots ls) (hP : va_P D vwCl ((x_wk ad cO 0 X.1).set a (ad a, x_cz ad cO b)) H1) (hD : va_D A ((x_wk ad cO 0 X.1).set a (ad a, x_cz ad cO b))) (hS : va_S A s.heap H1 locs1) :
    x_R D cO A s nL X0 ad0 mcT msT L (X.1.set a b, X.2) ad H1 locs1 cells slots ls := by
  obtain ⟨h1, h2, -, -, -, h6, h7⟩ := hR
  refine ⟨h1, h2, ?_, ?_, hS, h6, ?_⟩
  · show va_P D vwCl (x_wk ad cO 0 (X.1.set a b)) H1
    rw [x_set0]; exact hP
  · show va_D A (x_wk ad cO 0 (X.1.set a b))
    rw [x_set0]; exact hD
  · show x_ext X0 mcT ad0 (X.1.set a b) ad
    exact ⟨by rw [List.length_set]; exact h7.1, h7.2.1, h7.2.2⟩
theorem x_locR {nL : Nat} {L L' : x_L} {X : x_H} {ad : Nat → Nat} {H : Heap} {locs : List Loc} {cells slots : Nat} {ls ls' : Array Slot}
    (hR : x_R D cO A s nL X0 ad0 mcT msT L X ad H locs cells slots ls) (h : x_lv ad L' ls' nL) : x_R D cO A s nL X0 ad0 mcT msT L' X ad H locs cells slots ls' := by
  obtain ⟨h1, h2, h3, h4, h5, -, h7⟩ := hR
  exact ⟨h1, h2, h3, h4, h5, h, h7⟩
theorem x_blind (hEn : x_EnOK En) {ad : Nat → Nat} {X : List x_C} {av : List Value} {sz : Nat} : FrameBlind (x_Pre D cO En ad X av sz) := by
  intro a U g mk q
  obtain ⟨q0, q1, qP, qK, qD, qE⟩ := q
  exact ⟨q0, q1, qP, va_K.moved (u := U) (U := U.calling g mk a) (Vm.Alike.refl U.vm) qK, qD, hEn.1 _ U _ _ rfl qE⟩
theorem x_preAt (hEn : x_EnOK En) {nL : Nat} {L : x_L} {X : x_H} {ad : Nat → Nat} {H : Heap} {locs : List Loc} {cells slots : Nat} {ls : Array Slot} {av : List Value}
    (hX : x_Ctx p R s m args meth c M D cO En A mcT msT) (hR : x_R D cO A s nL X0 ad0 mcT msT L X ad H locs cells slots ls) : ∀ U : State, U.heap = H → s.WarmedH U.vm → x_Pre D cO En ad X.1 av H.size (av.map (x_rv ad)).toArray U := by
  obtain ⟨-, -, hP, hD, hS, -, -⟩ := hR
  obtain ⟨-, -, -, -, -, hK, hA, hE, -⟩ := hX
  intro U hU hW
  refine ⟨rfl, by rw [hU], by rw [hU]; exact hP, va_K.moved hW.alike hK, hD.weaken (fun _ _ _ _ => trivial), ?_⟩
  rw [hU]
  refine hEn.2.1 _ s _ _ hW (hEn.2.2.2 A _ _ _ (fun q hq => ?_) (hEn.2.2.1 A _ _ _ hS.1 hS.2.1 hE))
  rcases hq with ⟨k, e9, hk⟩ | hq
  · exact hD.2 k _ hk
  · exact hA q (Nat.le_trans hS.1 hq)
theorem x_rcv.inv {v : Option Value} {X : x_H} {ci : Nat} {K : Prop} (h : x_rcv v X ci K) : (∃ a fs, v = some (.ref a) ∧ X.1[a]? = some (.inr (ci, fs))) ∧ K := by
  unfold x_rcv at h
  split at h
  · obtain ⟨cj, fs, h1, h2⟩ := x_ob.inv h
    obtain ⟨rfl, h3⟩ := x_if.inv h2
    exact ⟨⟨_, fs, rfl, h1⟩, h3⟩
  · exact h.elim
theorem x_split {st : List Value} {n : Nat} {w : Value} (h : st[n]? = some w) : st = st.take n ++ w :: st.drop (n + 1) ∧ (st.take (n + 1)).reverse = w :: (st.take n).reverse := by
  obtain ⟨hl, he⟩ := List.getElem?_eq_some_iff.mp h
  have h1 : st.take (n + 1) = st.take n ++ [w] := by
    rw [List.take_succ, h]; rfl
  refine ⟨?_, by rw [h1, List.reverse_append]; rfl⟩
  conv => lhs; rw [← List.take_append_drop (n + 1) st, h1, List.append_assoc]
  rfl
theorem x_cats (ad : Nat → Nat) (st : List Value) : ((st.map (x_rv ad)).map fun v => v.category) = st.map fun v => v.category := by
  rw [List.map_map]
  exact List.map_congr_left (fun v _ => x_rv_cat ad v)
theorem x_bokle {bc bs a b : Nat} {p q : Prop} (h : p ∧ ((bc = 0 ∧ bs = 0) ∨ (bc ≤ a ∧ bs ≤ b ∧ q))) : bc ≤ a ∧ bs ≤ b := by
  rcases h.2 with ⟨h1, h2⟩ | ⟨h1, h2, -⟩
  · exact ⟨by omega, by omega⟩
  · exact ⟨h1, h2⟩
theorem x_ext_new {X0 X : List x_C} {bc : Nat} {ad0 ad : Nat → Nat} {q : Nat} {c9 : x_C} (h : x_ext X0 bc ad0 X ad) (hl : X.length < x_SP) (hb : bc ≠ 0) : x_ext X0 bc ad0 (X ++ [c9]) (x_adn ad X.length q) := by
  have hag := x_adn_agr ad (q := q) hl
  refine ⟨by rw [List.length_append]; exact Nat.le_trans h.1 (Nat.le_add_right _ _), ⟨fun k hk => (hag.1 k (Nat.lt_of_lt_of_le hk h.1)).trans (h.2.1.1 k hk), hag.2.trans h.2.1.2⟩, fun z => absurd z hb⟩
set_option maxHeartbeats 4000000 in
theorem x_snd {sc : Nat × (Nat → Int32)} {b0 : Nat} (hEn : x_EnOK En) (hG : x_Gw) (hT : x_Tb M) (hX : x_Ctx p R s m args meth c M D cO En A mcT msT) (hb0 : ad0 x_SP = b0) (hsc : va_X b0 sc.1 sc.2 s s.heap ∧ b0 < s.heap.size ∧ ¬ A b0) (hV : x_CV l R s args M C D cO En b0) (hSt : x_CS l R s args M C D cO En b0) (hI : x_CI l R s args M C D cO En b0) (hZ : x_Ends p l e R s m args below meth c QQ M Q D cO A X0 ad0 mcT msT) (hZX : x_EndX p l e R s m args below meth c QQ M Q D cO A X0 ad0 mcT msT) (hH : x_Hnd p l e R s m args below meth c QQ M) (hThr : x_Thr p l e R s m args below meth c QQ M Q D cO A X0 ad0 mcT msT) :
    ∀ pc L st X, x_st sc M C Q (x_P p l e R s m args below meth c QQ D cO A M.maxl X0 ad0 mcT msT) pc L st X → x_P p l e R s m args below meth c QQ D cO A M.maxl X0 ad0 mcT msT pc L st X := by
  intro pc L st X h ad H locs cells slots ls hR
  have hX0 := hX
  obtain ⟨hx, hb, hml, hown, hts, hK, hA, hE, hmc, hms, hnm, hfr, hlc⟩ := hX
  have hR0 := hR
  obtain ⟨hc, hs, hP, hD, hS, hl, hx0⟩ := hR
  unfold x_st at h
  split at h
  case h_2 => exact h.elim
  case h_1 i len tg htab =>
  obtain ⟨hd, hj⟩ := hT.1 pc i len tg htab
  have hln : L.length = M.maxl := hl.1
  have hsz : ls.size = M.maxl := hl.2.1.1
  have hsp : ad x_SP = b0 := hx0.2.1.2.trans hb0
  cases i
  case iconst n => exact lv_iconst hx hb hd rfl (h ad H locs cells slots ls hR0)
  case bipush n => exact lv_bipush hx hb hd rfl (h ad H locs cells slots ls hR0)
  case sipush n => exact lv_sipush hx hb hd rfl (h ad H locs cells slots ls hR0)
  case lconst n => exact lv_lconst hx hb hd rfl (h ad H locs cells slots ls hR0)
  case iload k =>
    obtain ⟨x, h1, h⟩ := x_ldi.inv h
    exact lv_iload hx hb hd (hl.at h1) (h ad H locs cells slots ls hR0)
  case iload_n k =>
    obtain ⟨x, h1, h⟩ := x_ldi.inv h
    exact lv_iload_n hx hb hd rfl (hl.at h1) (h ad H locs cells slots ls hR0)
  case aload k =>
    obtain ⟨x, h1, h⟩ := x_lda.inv h
    exact lv_aload hx hb hd (hl.at h1) (h ad H locs cells slots ls hR0)
  case aload_n k =>
    obtain ⟨x, h1, h⟩ := x_lda.inv h
    exact lv_aload_n hx hb hd rfl (hl.at h1) (h ad H locs cells slots ls hR0)
  case istore k =>
    obtain ⟨h1, h⟩ := x_if.inv h
    obtain ⟨x, r, rfl, h⟩ := x_s1.inv h
    exact lv_istore hx hb hd hl.2.1 (by omega) rfl (fun ls' h' => h ad H locs cells slots ls' (x_locR hR0 (hl.set rfl h')))
  case istore_n k =>
    obtain ⟨h1, h⟩ := x_if.inv h
    obtain ⟨x, r, rfl, h⟩ := x_s1.inv h
    exact lv_istore_n hx hb hd rfl hl.2.1 (by omega) rfl (fun ls' h' => h ad H locs cells slots ls' (x_locR hR0 (hl.set rfl h')))
  case astore k =>
    obtain ⟨h1, h⟩ := x_if.inv h
    obtain ⟨x, r, rfl, h⟩ := x_sr.inv h
    exact lv_astore hx hb hd hl.2.1 (by omega) rfl (fun ls' h' => h ad H locs cells slots ls' (x_locR hR0 (hl.set (v := .ref x) rfl h')))
  case astore_n k =>
    obtain ⟨h1, h⟩ := x_if.inv h
    obtain ⟨x, r, rfl, h⟩ := x_sr.inv h
    exact lv_astore_n hx hb hd rfl hl.2.1 (by omega) rfl (fun ls' h' => h ad H locs cells slots ls' (x_locR hR0 (hl.set (v := .ref x) rfl h')))
  case iinc k n =>
    obtain ⟨h1, h⟩ := x_if.inv h
    obtain ⟨x, h2, h⟩ := x_ldi.inv h
    obtain ⟨k9, hk9⟩ := List.getElem?_of_mem ((x_ll_mem ad 0 L (k, x_rv ad (.int x))).mpr ⟨k, _, h2, by rw [Nat.zero_add]⟩)
    exact lv_iinc hx hb hd hl.2.1 hk9 rfl (by omega) rfl (fun ls' h' => h ad H locs cells slots ls' (x_locR hR0 (hl.set (v := .int _) rfl h')))
  case iadd =>
    obtain ⟨x, y, r, rfl, h⟩ := x_s2.inv h
    exact lv_iadd hx hb hd (h ad H locs cells slots ls hR0)
  case isub =>
    obtain ⟨x, y, r, rfl, h⟩ := x_s2.inv h
    exact lv_isub hx hb hd (h ad H locs cells slots ls hR0)
  case imul =>
    obtain ⟨x, y, r, rfl, h⟩ := x_s2.inv h
    exact lv_imul hx hb hd (h ad H locs cells slots ls hR0)
  case iand =>
    obtain ⟨x, y, r, rfl, h⟩ := x_s2.inv h
    exact lv_iand hx hb hd (h ad H locs cells slots ls hR0)
  case ior =>
    obtain ⟨x, y, r, rfl, h⟩ := x_s2.inv h
    exact lv_ior hx hb hd (h ad H locs cells slots ls hR0)
  case ixor =>
    obtain ⟨x, y, r, rfl, h⟩ := x_s2.inv h
    exact lv_ixor hx hb hd (h ad H locs cells slots ls hR0)
  case ishl =>
    obtain ⟨x, y, r, rfl, h⟩ := x_s2.inv h
    exact lv_ishl hx hb hd (h ad H locs cells slots ls hR0)
  case ishr =>
    obtain ⟨x, y, r, rfl, h⟩ := x_s2.inv h
    exact lv_ishr hx hb hd (h ad H locs cells slots ls hR0)
  case iushr =>
    obtain ⟨x, y, r, rfl, h⟩ := x_s2.inv h
    exact lv_iushr hx hb hd rfl (h ad H locs cells slots ls hR0)
  case idiv =>
    obtain ⟨x, y, r, rfl, hn, h⟩ := x_s2.inv h
    exact lv_idiv hx hb hd hn (h ad H locs cells slots ls hR0)
  case irem =>
    obtain ⟨x, y, r, rfl, hn, h⟩ := x_s2.inv h
    exact lv_irem hx hb hd hn (h ad H locs cells slots ls hR0)
  case dup =>
    simp only [x_go] at h
    split at h
    · obtain ⟨h1, h2⟩ := x_if.inv h
      exact lv_dup hx hb hd (by rw [x_rv_cat]; exact h1) (h2 ad H locs cells slots ls hR0)
    · exact h.elim
  case dup2 =>
    obtain ⟨a, x, r, rfl, h⟩ := x_sir.inv h
    exact lv_dup2_11 hx hb hd rfl rfl (h ad H locs cells slots ls hR0)
  case i2l =>
    obtain ⟨x, r, rfl, h⟩ := x_s1.inv h
    exact lv_i2l hx hb hd rfl (h ad H locs cells slots ls hR0)
  case l2i =>
    obtain ⟨x, r, rfl, h⟩ := x_sl1.inv h
    exact lv_l2i hx hb hd rfl (h ad H locs cells slots ls hR0)
  case i2c =>
    obtain ⟨x, r, rfl, h⟩ := x_s1.inv h
    exact lv_i2c hx hb hd rfl (h ad H locs cells slots ls hR0)
  case lshr =>
    obtain ⟨x, y, r, rfl, h⟩ := x_sil.inv h
    exact lv_lshr hx hb hd rfl (h ad H locs cells slots ls hR0)
  case lcmp =>
    obtain ⟨x, y, r, rfl, h⟩ := x_sl2.inv h
    exact W.lcmp hx hb hd (h ad H locs cells slots ls hR0)
  case goto o => exact lv_goto hx hb hd hj (h ad H locs cells slots ls hR0)
  case ifCond c9 o =>
    obtain ⟨x, r, rfl, h1, h2⟩ := x_s1.inv h
    cases c9
    · exact lv_if_eq hx hb hd hj (fun q => h1 q ad H locs cells slots ls hR0) (fun q => h2 q ad H locs cells slots ls hR0)
    · exact lv_if_ne hx hb hd hj (fun q => h1 q ad H locs cells slots ls hR0) (fun q => h2 (fun z => z q) ad H locs cells slots ls hR0)
    · exact lv_if_lt hx hb hd hj (fun q => h1 q ad H locs cells slots ls hR0) (fun q => h2 q ad H locs cells slots ls hR0)
    · exact lv_if_ge hx hb hd hj (fun q => h1 q ad H locs cells slots ls hR0) (fun q => h2 q ad H locs cells slots ls hR0)
    · exact lv_if_gt hx hb hd hj (fun q => h1 q ad H locs cells slots ls hR0) (fun q => h2 q ad H locs cells slots ls hR0)
    · exact lv_if_le hx hb hd hj (fun q => h1 q ad H locs cells slots ls hR0) (fun q => h2 q ad H locs cells slots ls hR0)
  case if_icmp c9 o =>
    obtain ⟨x, y, r, rfl, h1, h2⟩ := x_s2.inv h
    cases c9
    · exact lv_icmp_eq hx hb hd hj (fun q => h1 q ad H locs cells slots ls hR0) (fun q => h2 q ad H locs cells slots ls hR0)
    · exact lv_icmp_ne hx hb hd hj (fun q => h1 q ad H locs cells slots ls hR0) (fun q => h2 (fun z => z q) ad H locs cells slots ls hR0)
    · exact lv_icmp_lt hx hb hd hj (fun q => h1 q ad H locs cells slots ls hR0) (fun q => h2 q ad H locs cells slots ls hR0)
    · exact lv_icmp_ge hx hb hd hj (fun q => h1 q ad H locs cells slots ls hR0) (fun q => h2 q ad H locs cells slots ls hR0)
    · exact lv_icmp_gt hx hb hd hj (fun q => h1 q ad H locs cells slots ls hR0) (fun q => h2 q ad H locs cells slots ls hR0)
    · exact lv_icmp_le hx hb hd hj (fun q => h1 q ad H locs cells slots ls hR0) (fun q => h2 q ad H locs cells slots ls hR0)
  case ldc ix =>
    simp only [x_go] at h
    split at h
    · rename_i v hv
      exact lv_ldc hx hb hown (hts _ (hT.2.2.1 ix v hv)) hd (h ad H locs cells slots ls hR0)
    · exact h.elim
  case ldc_w ix =>
    simp only [x_go] at h
    split at h
    · rename_i v hv
      exact lv_ldcw hx hb hown (hts _ (hT.2.2.1 ix v hv)) hd (h ad H locs cells slots ls hR0)
    · exact h.elim
  case ldc2_w ix =>
    simp only [x_go] at h
    split at h
    · rename_i v hv
      exact lv_ldc2 hx hb hown (hts _ (hT.2.2.2.1 ix v hv)) hd (h ad H locs cells slots ls hR0)
    · exact h.elim
  case arraylength =>
    obtain ⟨a, r, rfl, hu⟩ := x_sr.inv h
    by_cases hsp9 : a = x_SP
    · rw [if_pos hsp9] at hu
      subst hsp9
      exact va_slen (b := ad x_SP) hx hb (hsp ▸ hsc.1) (hsp ▸ hsc.2.1) (hsp ▸ hsc.2.2) hS hd (hu ad H locs cells slots ls hR0)
    rw [if_neg hsp9] at hu
    obtain ⟨ty, n, f, ha, hu2⟩ := x_ai.inv hu
    obtain ⟨hty, hw⟩ := x_if.inv hu2
    rcases hty with rfl | rfl
    · exact va_alen hx hb hK hP a 0 (x_at0 ha) rfl rfl hd (hw ad H locs cells slots ls hR0)
    · exact va_alen hx hb hK hP a 1 (x_at0 ha) rfl rfl hd (hw ad H locs cells slots ls hR0)
  case iaload =>
    obtain ⟨a, j, r, rfl, hu⟩ := x_sir.inv h
    by_cases hsp9 : a = x_SP
    · rw [if_pos hsp9] at hu
      subst hsp9
      exact va_sld (b := ad x_SP) hx hb (hsp ▸ hsc.1) (hsp ▸ hsc.2.1) (hsp ▸ hsc.2.2) hS hu.1 hd (hu.2 ad H locs cells slots ls hR0)
    rw [if_neg hsp9] at hu
    obtain ⟨ty, n, f, ha, hu2⟩ := x_ai.inv hu
    obtain ⟨rfl, hi, hw⟩ := x_if.inv hu2
    exact va_iald hx hb hK hP a 0 (x_at0 ha) rfl hi hd (hw ad H locs cells slots ls hR0)
  case baload =>
    obtain ⟨a, j, r, rfl, h⟩ := x_sir.inv h
    obtain ⟨ty, n, f, ha, hu2⟩ := x_ai.inv h
    obtain ⟨rfl, hi, h⟩ := x_if.inv hu2
    exact va_zald hx hb hK hP a 1 (x_at0 ha) rfl hi hd (h ad H locs cells slots ls hR0)
  case laload =>
    obtain ⟨a, j, r, rfl, h⟩ := x_sir.inv h
    obtain ⟨n, f, ha, hi, h⟩ := x_al.inv h
    exact va_lald hx hb hK hP a 2 (x_at0 ha) rfl hi hd (h ad H locs cells slots ls hR0)
  case iastore =>
    obtain ⟨a, j, v, r, rfl, h⟩ := x_siir.inv h
    obtain ⟨ty, n, f, ha, hu2⟩ := x_ai.inv h
    obtain ⟨rfl, hi, h⟩ := x_if.inv hu2
    exact va_iast hx hb hK hP hD hS a 0 (x_at0 ha) rfl hi hd (fun H1 locs1 hP1 hD1 hS1 => h ad H1 locs1 cells slots ls (x_setR hR0 hP1 hD1 hS1))
  case bastore =>
    obtain ⟨a, j, v, r, rfl, h⟩ := x_siir.inv h
    obtain ⟨ty, n, f, ha, hu2⟩ := x_ai.inv h
    obtain ⟨rfl, hi, h⟩ := x_if.inv hu2
    exact va_zast hx hb hK hP hD hS a 1 (x_at0 ha) rfl hi hd (fun H1 locs1 hP1 hD1 hS1 => h ad H1 locs1 cells slots ls (x_setR hR0 hP1 hD1 hS1))
  case lastore =>
    obtain ⟨a, j, v, r, rfl, h⟩ := x_slir.inv h
    obtain ⟨n, f, ha, hi, h⟩ := x_al.inv h
    exact va_last hx hb hK hP hD hS a 2 (x_at0 ha) rfl hi hd (fun H1 locs1 hP1 hD1 hS1 => h ad H1 locs1 cells slots ls (x_setR hR0 hP1 hD1 hS1))
  case getfield ix =>
    simp only [x_go] at h
    split at h
    · rename_i ci k ty w9 hf
      obtain ⟨a, r, rfl, hu⟩ := x_sr.inv h
      obtain ⟨cj, fs, ha, hu2⟩ := x_ob.inv hu
      obtain ⟨rfl, hw⟩ := x_if.inv hu2
      split at hw
      · rename_i v hv
        obtain ⟨C9, T9, N9, ty0, g1, g2, g3, g4, -⟩ := hT.2.1 ix _ k ty w9 hf
        exact va_get hx hb hts g3 hown hK hP a (x_at0 ha) g1 k g2 (hts _ g4) (fun _ q => q) (v := x_rv ad v) (by rw [List.getElem?_map, hv]; rfl) hd (hw ad H locs cells slots ls hR0)
      · exact hw.elim
    · exact h.elim
  case putfield ix =>
    simp only [x_go] at h
    split at h
    · rename_i ci k ty w9 hf
      obtain ⟨a, v, r, rfl, hu⟩ := x_svr.inv h
      obtain ⟨cj, fs, ha, hu2⟩ := x_ob.inv hu
      obtain ⟨⟨rfl, hk, hfit⟩, hw⟩ := x_if.inv hu2
      obtain ⟨C9, T9, N9, ty0, g1, g2, g3, g4, g5, g6, g7⟩ := hT.2.1 ix _ k ty _ hf
      obtain ⟨n1, n2⟩ := x_fit_ok ad hfit
      have kk : ∀ (H1 : Heap) (locs1 : List Loc), va_P D vwCl ((x_wk ad cO 0 X.1).set a (ad a, .inr (cj, (fs.map (x_rv ad)).set k (x_rv ad v)))) H1 → va_D A ((x_wk ad cO 0 X.1).set a (ad a, .inr (cj, (fs.map (x_rv ad)).set k (x_rv ad v)))) → va_S A s.heap H1 locs1 → W p l e R s m args below meth c H1 locs1 cells slots QQ (F0 m (pc + 3) ls (r.map (x_rv ad))) := by
        intro H1 locs1 hP1 hD1 hS1
        refine hw ad H1 locs1 cells slots ls (x_setR hR0 (b := .inr (cj, fs.set k v)) ?_ ?_ hS1)
        · simp only [x_cz, List.map_set]; exact hP1
        · simp only [x_cz, List.map_set]; exact hD1
      rcases g7 with g7 | ⟨g8, ⟨-, g9⟩ | ⟨g9, g10, g11⟩⟩
      · omega
      · exact va_put hx hb hts g3 ty0 g5 g6 hown hK hP hD hS a (x_at0 ha) g1 k g2 (hts _ g4) (fun _ q => q) g9 g8 n1 n2 (by rw [List.length_map]; exact hk) hd kk
      · exact va_putF hx hb hts g3 ty0 g5 g6 hown hK hP hD hS a (x_at0 ha) g1 k g2 (hts _ g4) (fun _ q => q) g9 (hnm.trans g10) g11 g8 n1 n2 (by rw [List.length_map]; exact hk) hd kk
    · exact h.elim
  case invokevirtual ix =>
    simp only [x_go] at h
    split at h
    · rename_i mj n ci bc bs hcal
      obtain ⟨⟨a, fs, ha, hob⟩, h⟩ := x_rcv.inv h
      obtain ⟨hbk, hw⟩ := x_bok.inv h
      obtain ⟨y, bytes, maxL, ret, ws, rm, cq, g1, g2, g3⟩ := hV ix mj n ci bc bs hcal
      obtain ⟨e1, e2⟩ := x_split ha
      have hM := g3 ad X.1 _ _ H.size hsp hw
      rw [e2] at hM
      have hb8 := x_bokle hbk
      refine x_calledX hR0 hA hbk (vx_runV (b := ad a) (As := (st.take n).reverse.map (x_rv ad)) ⟨hx, hb, hml, hown, hts⟩ hM g2 ⟨x_blind hEn, va_recv hK hP g1 (x_at0 hob), x_preAt hEn hX0 hR0 (av := .ref a :: (st.take n).reverse)⟩ rfl ?_ hsz ?_ (lv_room (by rw [x_cats]; exact hbk.1)) hd ⟨by omega, by omega⟩) (fun v Y hq => hq) (fun E Y hq => ?_)
      · rw [List.length_map, List.length_reverse, List.length_take]
        have := (List.getElem?_eq_some_iff.mp ha).1
        omega
      · show st.map (x_rv ad) = _
        rw [← List.map_reverse, List.reverse_reverse]
        conv => lhs; rw [e1]
        rw [List.map_append]
        rfl
      · dsimp only at hq
        split at hq
        · rename_i hex
          exact hZX E pc L _ _ hex hq
        · rename_i h9 k9 hex
          obtain ⟨hk9, hq⟩ := x_if.inv hq
          obtain ⟨hp, hdec, hcat⟩ := hH E pc h9 k9 hex
          intro ad2 H2 locs2 cells2 slots2 ls2 q ce hR2 c1 c2 c3
          refine hcat H2 locs2 cells2 slots2 ls2 _ q ce c1 c2 c3 ?_
          have hl2 : x_lv ad2 L ls2 M.maxl := hR2.2.2.2.2.2.1
          rcases hdec with ⟨d1, rfl⟩ | ⟨kk, d1, rfl, rfl⟩
          · exact lv_astore hx hb d1 hl2.2.1 (by omega) rfl (fun ls' h' => hq ad2 H2 locs2 cells2 slots2 ls' (x_locR hR2 (hl2.unset h')))
          · exact lv_astore_n hx hb d1 rfl hl2.2.1 (by omega) rfl (fun ls' h' => hq ad2 H2 locs2 cells2 slots2 ls' (x_locR hR2 (hl2.unset h')))
        · exact hq.elim
    · exact h.elim
  case invokestatic ix =>
    simp only [x_go] at h
    split at h
    · rename_i mj n bc bs hcal
      obtain ⟨x, y, r, rfl, hu⟩ := x_s2.inv h
      obtain ⟨hr8, hw⟩ := x_if.inv hu
      obtain ⟨w1, w2, w3, w4⟩ := hT.2.2.2.2.2.2 ix mj n bc bs hcal
      refine va_mmin hx hb (hml.trans hsz.symm) hown (hts _ w1) (hts _ w2) (hts _ w3) (hts _ w4) hfr ?_ (by omega) (by omega) hd (hw ad H locs cells slots ls hR0)
      have h8 : ((r.map (x_rv ad)).map fun v => v.category).sum ≤ 8 := by rw [x_cats]; exact hr8
      omega
    · rename_i mj n k bc bs hne hcal
      have hk2 : k ≠ 2 := hne
      obtain ⟨hrc, h⟩ := x_if.inv h
      obtain ⟨hbk, hw⟩ := x_bok.inv h
      obtain ⟨y, bytes, maxL, ret, ws, rm, g1, g3⟩ := hSt ix mj n k bc bs hcal hk2
      have hM := g3 ad X.1 _ _ H.size hsp (fun _ _ h => h) hw
      have hb8 := x_bokle hbk
      have hlen : ((st.take n).reverse.map (x_rv ad)).length = n := by
        rw [List.length_map, List.length_reverse, List.length_take]
        omega
      have hstk : (F0 m pc ls (st.map (x_rv ad))).stack = ((st.take n).reverse.map (x_rv ad)).reverse ++ (st.drop n).map (x_rv ad) := by
        show st.map (x_rv ad) = _
        rw [← List.map_reverse, List.reverse_reverse, ← List.map_append, List.take_append_drop]
      rcases g1 with g1 | ⟨host, g1⟩ | ⟨hh, g1⟩
      · exact x_called hR0 hA hbk (va_runS (As := (st.take n).reverse.map (x_rv ad)) ⟨hx, hb, hml, hown, hts⟩ hM g1 ⟨x_blind hEn, x_preAt hEn hX0 hR0 (av := (st.take n).reverse)⟩ rfl hlen hsz hstk (lv_room (by rw [x_cats]; exact hbk.1)) hd ⟨by omega, by omega⟩) (fun v Y hq => hq)
      · exact x_called hR0 hA hbk (va_runSN (As := (st.take n).reverse.map (x_rv ad)) ⟨hx, hb, hml, hown, hts⟩ hM g1 ⟨x_blind hEn, x_preAt hEn hX0 hR0 (av := (st.take n).reverse)⟩ rfl hlen hsz hstk (lv_room (by rw [x_cats]; exact hbk.1)) hd ⟨by omega, by omega⟩) (fun v Y hq => hq)
      · exact x_called hR0 hA hbk (vx_runSW (As := (st.take n).reverse.map (x_rv ad)) ⟨hx, hb, hml, hown, hts⟩ hM g1 ⟨x_blind hEn, x_preAt hEn hX0 hR0 (av := (st.take n).reverse)⟩ rfl hlen hsz hstk (lv_room (by rw [x_cats]; exact hbk.1)) hd ⟨by omega, by omega⟩) (fun v Y hq => hq)
    · exact h.elim
  case invokespecial ix =>
    simp only [x_go] at h
    split at h
    · rename_i hsp2
      obtain ⟨a, r, rfl, hu⟩ := x_sr.inv h
      obtain ⟨hr8, hw⟩ := x_if.inv hu
      refine W.objInit hx hb hown (hts _ (hT.2.2.2.2.2.1 ix hsp2)) (hts _ hG.1) (hts _ hG.2.1) rfl (by rw [hml]; exact hsz) rfl hd hfr ?_ (hw ad H locs cells slots ls hR0)
      have h8 : 2 * (F0 m pc ls (List.map (x_rv ad) (Value.ref a :: r))).monitorRoom + ((r.map (x_rv ad)).map fun v => v.category).sum ≤ 8 := lv_room (by rw [x_cats]; exact hr8)
      omega
    · rename_i mj n bc bs hspc
      obtain ⟨⟨a, ha⟩, h⟩ := x_isr.inv h
      obtain ⟨hbk, hw⟩ := x_bok.inv h
      obtain ⟨y, bytes, maxL, ws, rm, g1, g3⟩ := hI ix mj n bc bs hspc
      obtain ⟨e1, e2⟩ := x_split ha
      have hM := g3 ad X.1 _ _ H.size hsp (fun _ _ h => h) hw
      rw [e2] at hM
      have hb8 := x_bokle hbk
      refine x_called hR0 hA hbk (va_runI (b := ad a) (As := (st.take n).reverse.map (x_rv ad)) ⟨hx, hb, hml, hown, hts⟩ hM g1 ⟨x_blind hEn, x_preAt hEn hX0 hR0 (av := .ref a :: (st.take n).reverse)⟩ rfl ?_ hsz ?_ (lv_room (by rw [x_cats]; exact hbk.1)) hd ⟨by omega, by omega⟩) (fun v Y hq => ?_)
      · rw [List.length_map, List.length_reverse, List.length_take]
        have := (List.getElem?_eq_some_iff.mp ha).1
        omega
      · show st.map (x_rv ad) = _
        rw [← List.map_reverse, List.reverse_reverse]
        conv => lhs; rw [e1]
        rw [List.map_append]
        rfl
      · cases v with
        | none => exact hq
        | some v9 => exact hq.elim
    · exact h.elim
  case new ix =>
    simp only [x_go] at h
    split at h
    · rename_i ci fs hnw
      obtain ⟨⟨hc1, hs1, hao⟩, hw⟩ := h
      obtain ⟨C9, T9, N9, ty0, g1, g2, g3, g4, g5, g6, g7, g8, g9⟩ := hT.2.2.2.2.1 ix ci fs hnw
      refine va_new hx hb hts g2 ty0 g3 hown (hts _ g4) (hts _ g5) (hts _ g6) hK hP hD hS hA g1 g7 (by omega) (by omega) hd (fun q H1 hP1 hD1 hS1 => ?_)
      have hwk := x_wk_new (ad := ad) (cO := cO) hao q (.inr (ci, fs)) (by simp only [x_cz, g9])
      have hag := x_adn_agr ad (q := q) hao.1
      have hz : x_cz ad cO (.inr (ci, fs)) = .inr (ci, fs) := by simp only [x_cz, g9]
      have hw2 := hw (x_adn ad X.1.length q) H1 locs (cells + 1) (slots + N9) ls ⟨by show cells + 1 + (X.2.1 - 1) ≤ mcT; omega, by show slots + N9 + (X.2.2 - fs.length) ≤ msT; omega, by show va_P D vwCl (x_wk _ cO 0 (X.1 ++ [_])) H1; rw [hwk, hz]; exact hP1, by show va_D A (x_wk _ cO 0 (X.1 ++ [_])); rw [hwk, hz]; exact hD1, hS1, hl.move hag hao.2.1, x_ext_new hx0 hao.1 (by omega)⟩
      rw [List.map_cons, x_st_move hag hao.2.2.1] at hw2
      simp only [x_rv, x_adn_new] at hw2
      exact hw2
    · split at h
      · rename_i E hE9
        exact hThr pc ix len tg E L st X htab hE9 h.1.1 h.1.2 h.2 ad H locs cells slots ls hR0
      · exact h.elim
  case newarray at9 =>
    obtain ⟨n, r, rfl, ⟨hn0, hnM, hc1, hs1, hao⟩, hw⟩ := x_s1.inv h
    have key : ∀ (ty : FieldType) (a0 : vp_A) (t0 : Nat), newarray.typeOf at9 = ty → (x_ty cO)[t0]? = some (cO ty, ty) → (∀ cA : ClassId, vp_cell cA a0 = arrV cA n.toNatClampNeg (fun _ => defaultValue ty)) → Cond.arrayClass ty ∈ x_T → n.toNatClampNeg * componentBytes ty ≤ 536870912 → (∀ cA cB : ClassId, va_RA s cA ty → va_RA s cB ty → cA = cB) →
        x_P p l e R s m args below meth c QQ D cO A M.maxl X0 ad0 mcT msT (pc + 2) L (.ref X.1.length :: r) (X.1 ++ [.inl (ty, a0)], X.2.1 - 1, X.2.2 - n.toNatClampNeg) → W p l e R s m args below meth c H locs cells slots QQ (F0 m pc ls (List.map (x_rv ad) (Value.int n :: r))) := by
      intro ty a0 t0 hty ht0 ha0 hwd hby hun hw
      refine va_newa hx hb (hty ▸ hts _ hwd) hty hK hP hD hS hA ha0 hn0 rfl hby (by omega) (by omega) hd (fun q cA H1 hK1 hP1 hD1 hS1 => ?_)
      have hcA : cA = cO ty := hun _ _ (hK1.2 (x_ty cO).length (cA, ty) (by rw [List.getElem?_append_right (Nat.le_refl _), Nat.sub_self]; rfl)).2 (hK.2 t0 _ ht0).2
      subst hcA
      have hwk := x_wk_new (ad := ad) (cO := cO) hao q (.inl (ty, a0)) rfl
      have hag := x_adn_agr ad (q := q) hao.1
      have hw2 := hw (x_adn ad X.1.length q) H1 locs (cells + 1) (slots + n.toNatClampNeg) ls ⟨by show cells + 1 + (X.2.1 - 1) ≤ mcT; omega, by show slots + n.toNatClampNeg + (X.2.2 - n.toNatClampNeg) ≤ msT; omega, by show va_P D vwCl (x_wk _ cO 0 (X.1 ++ [_])) H1; rw [hwk]; exact hP1, by show va_D A (x_wk _ cO 0 (X.1 ++ [_])); rw [hwk]; exact hD1, hS1, hl.move hag hao.2.1, x_ext_new hx0 hao.1 (by omega)⟩
      rw [List.map_cons, x_st_move hag hao.2.2.1] at hw2
      simp only [x_rv, x_adn_new] at hw2
      exact hw2
    cases at9
    case int => exact key .int (n.toNatClampNeg, .inl (fun _ => 0)) 0 rfl rfl (fun cA => rfl) hG.2.2.1 (by simp only [componentBytes]; omega) (fun a b h1 h2 => Option.some.inj (h1.symm.trans h2)) hw
    case boolean => exact key .boolean (n.toNatClampNeg, .inl (fun _ => 0)) 1 rfl rfl (fun cA => rfl) hG.2.2.2.1 (by simp only [componentBytes]; omega) (fun a b h1 h2 => Option.some.inj (h1.symm.trans h2)) hw
    case long => exact key .long (n.toNatClampNeg, .inr (.inl (fun _ => 0))) 2 rfl rfl (fun cA => rfl) hG.2.2.2.2 (by simp only [componentBytes]; omega) (fun a b h1 h2 => Option.some.inj (h1.symm.trans h2)) hw
    all_goals exact hw.elim
  case tableswitch dd lo hi offs =>
    obtain ⟨x, r, rfl, h1, h2⟩ := x_s1.inv h
    obtain ⟨j1, j2, j3⟩ := hj
    by_cases hout : x.toInt < lo ∨ hi < x.toInt
    · exact lv_tableOut hx hb hd hout (by omega) (h2 hout ad H locs cells slots ls hR0)
    · have hlo : ¬ x.toInt < lo := fun z => hout (Or.inl z)
      have hhi : ¬ hi < x.toInt := fun z => hout (Or.inr z)
      have hlt : (x.toInt - lo).toNat < offs.size := by omega
      have ho : offs[(x.toInt - lo).toNat]? = some offs[(x.toInt - lo).toNat] := Array.getElem?_eq_getElem hlt
      have hpos := j2 _ (Array.getElem_mem_toList hlt)
      exact lv_tableIn hx hb hd hlo hhi ho (by omega) (h1 _ _ ho (by omega) ad H locs cells slots ls hR0)
  case ireturn =>
    obtain ⟨x, r, rfl, h⟩ := x_s1.inv h
    obtain ⟨rfl, h⟩ := x_if.inv h
    obtain ⟨h1, h2⟩ := x_ret.inv h
    exact hZ _ pc L X h2 (Or.inl ⟨x, rfl, hd, h1⟩) ad H locs cells slots ls hR0
  case lreturn =>
    obtain ⟨x, r, rfl, h⟩ := x_sl1.inv h
    obtain ⟨⟨rfl, h1⟩, h2⟩ := x_if.inv h
    exact hZ _ pc L X h2 (Or.inr (Or.inl ⟨x, rfl, hd, h1⟩)) ad H locs cells slots ls hR0
  case return_ =>
    obtain ⟨⟨rfl, h1⟩, h2⟩ := x_if.inv h
    exact hZ _ pc L X h2 (Or.inr (Or.inr ⟨rfl, hd, h1⟩)) ad H locs cells slots ls hR0
  all_goals exact h.elim
end XT
end
section
/-! ===== a run of the small machine is a method's contract ===== -/
def x_rm (d bc bs : Nat) : Room := { frames := d, cells := bc, slots := bs, locals := 40 * d }
def x_ent (M : x_M) (av : List Value) : x_L := av.map some ++ List.replicate (M.maxl - av.length) none
def x_c1 : List Value → Prop
  | [] => True
  | v :: l => v.category = 1 ∧ x_c1 l
/-- methods by their numbers; d frames deep -/
abbrev x_TC : Type := Nat → List Value → x_H → (x_O → x_H → Prop) → Prop
/-- a method without instructions here is told from outside: EX, over what its callees do -/
def x_run (sc : Nat × (Nat → Int32)) (MM : Nat → Option x_M) (EX : x_TC → x_TC) : Nat → Nat → List Value → x_H → (x_O → x_H → Prop) → Prop
  | 0, _, _, _, _ => False
  | d + 1, mj, av, X, Q => match MM mj with
    | some M => match M.tab 0 with
      | some _ => av.length ≤ M.maxl ∧ x_c1 av ∧ x_W sc M (x_run sc MM EX d) Q 0 (x_ent M av) [] X
      | none => EX (x_run sc MM EX d) mj av X Q
    | none => False
theorem x_run_mono (sc : Nat × (Nat → Int32)) (MM : Nat → Option x_M) {EX : x_TC → x_TC} (hEX : ∀ C, x_Cm C → x_Cm (EX C)) : ∀ d, x_Cm (x_run sc MM EX d)
  | 0 => fun _ _ _ _ _ _ h => h
  | d + 1 => fun mj av X Q Q' hQ h => by
    unfold x_run at *
    split at h
    · split at h
      · exact ⟨h.1, h.2.1, x_W.mono (x_run_mono sc MM hEX d) hQ h.2.2⟩
      · exact hEX _ (x_run_mono sc MM hEX d) _ _ _ _ _ hQ h
    · exact h
theorem x_ll_none (ad : Nat → Nat) : ∀ (n k : Nat), x_ll ad k (List.replicate n none) = []
  | 0, _ => rfl
  | n + 1, k => by rw [List.replicate_succ]; exact x_ll_none ad n (k + 1)
theorem x_ll_args (ad : Nat → Nat) (n : Nat) : ∀ (av : List Value) (k : Nat), x_c1 av → x_ll ad k (av.map some ++ List.replicate n none) = lv_args k (av.map (x_rv ad))
  | [], k, _ => x_ll_none ad n k
  | v :: av, k, h => by
    have h1 : ¬ (x_rv ad v).category = 2 := by rw [x_rv_cat, h.1]; decide
    simp only [List.map_cons, List.cons_append, x_ll, lv_args, if_neg h1]
    rw [x_ll_args ad n av (k + 1) h.2]
theorem x_sl (ad : Nat → Nat) : ∀ (av : List Value), x_c1 av → (lg_sl (av.map (x_rv ad))).length = av.length
  | [], _ => rfl
  | v :: av, h => by
    have h1 : ¬ (x_rv ad v).category = 2 := by rw [x_rv_cat, h.1]; decide
    have h2 := x_sl ad av h.2
    simp only [lg_sl] at h2 ⊢
    simp [h1, h2]
theorem x_c1_at : ∀ {av : List Value}, x_c1 av → ∀ (j : Nat) (v : Value), av[j]? = some v → v.category = 1
  | [], _, j, v, h => by simp at h
  | w :: av, hc, 0, v, h => by
    have h1 : w = v := by simpa using h
    rw [← h1]; exact hc.1
  | w :: av, hc, j + 1, v, h => x_c1_at hc.2 j v (by simpa using h)
theorem x_entry (ad : Nat → Nat) (M : x_M) (m : MethodId) {av : List Value} (hc : x_c1 av) (hl : av.length ≤ M.maxl) : ∃ ls, entryFrame m (av.map (x_rv ad)).toArray M.maxl = F0 m 0 ls [] ∧ x_lv ad (x_ent M av) ls M.maxl := by
  refine ⟨_, lg_entry_eq m _ _, ?_, ?_, ?_⟩
  · rw [x_ent, List.length_append, List.length_map, List.length_replicate]; omega
  · rw [x_ent, x_ll_args ad _ av 0 hc]
    exact lv_entry _ (by rw [x_sl ad av hc]; exact hl)
  · intro j v hj
    rw [x_ent] at hj
    by_cases hlt : j < av.length
    · rw [List.getElem?_append_left (by rw [List.length_map]; exact hlt), List.getElem?_map] at hj
      cases h9 : av[j]? with
      | none => rw [h9] at hj; cases hj
      | some w =>
        rw [h9] at hj
        have h8 : w = v := by simpa using hj
        rw [← h8]
        exact x_c1_at hc j w h9
    · rw [List.getElem?_append_right (by rw [List.length_map]; omega)] at hj
      rw [List.getElem?_replicate] at hj
      split at hj <;> cases hj
/-- a method's own word -/
def x_kw (M : x_M) : Cond := match M.hnd with
  | [] => Cond.code M.nam M.cod M.maxl M.ret
  | h :: r => Cond.codeWith M.nam M.cod M.maxl M.ret (h :: r)
def x_ws (M : x_M) : List Cond := x_kw M :: x_T
def x_nmh (y : MethodName) : Prop := y.cls ≠ "java/lang/invoke/MethodHandle" ∧ y.cls ≠ "java/lang/invoke/VarHandle"
/-- the calls of a method, by the words -/
def x_Tc (MM : Nat → Option x_M) (En : (Nat → Prop) → State → Heap → Prop) (M : x_M) : Prop :=
  (∀ ix mj n ci bc bs, M.cal ix = some (mj, n, ci, bc, bs) → ∃ (M' : x_M) (cq : vw_C), MM mj = some M' ∧ M'.hnd = [] ∧ vwCl[ci]? = some cq ∧ M'.nam.cls = cq.1 ∧ Cond.methodLink M.own ix M'.nam ∈ x_T ∧ Cond.instanceMethod M'.nam ∈ x_T ∧ Cond.selects cq.1 M'.nam M'.nam ∈ x_T ∧ Cond.initialized cq.1 ∈ x_T ∧ (parseMethodDescriptor M'.nam.desc).map (fun d => d.parameters.length) = some n) ∧
  (∀ ix mj n k bc bs, M.cas ix = some (mj, n, k, bc, bs) → k ≠ 2 → ∃ (M' : x_M), MM mj = some M' ∧ ((k = 0 ∧ Cond.methodLink M.own ix M'.nam ∈ x_T) ∨ (M'.hnd = [] ∧ ∃ host, ∀ A U H, En A U H → va_Nw (.methodLinkNest M.own ix M'.nam host) U)) ∧ Cond.static M'.nam ∈ x_T ∧ Cond.initialized M'.nam.cls ∈ x_T ∧ (parseMethodDescriptor M'.nam.desc).map (fun d => d.parameters.length) = some n) ∧
  (∀ ix mj n bc bs, M.spc ix = some (some (mj, n, bc, bs)) → ∃ (M' : x_M), MM mj = some M' ∧ M'.hnd = [] ∧ M'.ret = none ∧ M'.nam.name = "<init>" ∧ Cond.methodLink M.own ix M'.nam ∈ x_T ∧ Cond.instanceMethod M'.nam ∈ x_T ∧ Cond.initialized M'.nam.cls ∈ x_T ∧ (parseMethodDescriptor M'.nam.desc).map (fun d => d.parameters.length) = some n)
def x_All (MM : Nat → Option x_M) (En : (Nat → Prop) → State → Heap → Prop) : Prop :=
  ∀ mj M, MM mj = some M → x_Tb M ∧ x_Tc MM En M ∧ plainName M.nam.cls = true ∧ M.nam.cls = M.own ∧ x_kw M ∈ x_T ∧ x_nmh M.nam ∧ M.maxl ≤ 20
/-- handlers do as their table says -/
def x_HandOK (l : Launch) (M : x_M) : Prop := ∀ (p : Program) (e : Env) (R : Room) (s : State) (m : MethodId) (args : Array Value) (below : List Frame) (meth : Method) (c : Code) (QQ : State → Prop), p.tables.exec = Jvm.exec → s.vm.findClass M.own = some m.cls → (∀ w ∈ x_T, w.before args s = true) → (M.hnd = [] → ∀ x ∈ c.exceptionTable.toList, False) → ((Cond.codeWith M.nam M.cod M.maxl M.ret M.hnd).before args s = true ∨ M.hnd = []) → (∀ hh, (Cond.codeWith M.nam M.cod M.maxl M.ret hh).before args s = true → c.exceptionTable.toList = tableOf hh) →
  x_Hnd p l e R s m args below meth c QQ M ∧ ∀ pc E, M.exc pc E = some none → ∀ x ∈ c.exceptionTable.toList, covers x pc = false
/-- throws do as they should -/
def x_ThrOK (l : Launch) (En : (Nat → Prop) → State → Heap → Prop) (M : x_M) : Prop := ∀ (D : va_G) (cO : FieldType → ClassId) (p : Program) (e : Env) (R : Room) (s : State) (m : MethodId) (args : Array Value) (below : List Frame) (meth : Method) (c : Code) (ad : Nat → Nat) (X : List x_C) (A : Nat → Prop) (bc bs : Nat) (Q : x_O → x_H → Prop), va_A (x_wk ad cO 0 X) s.heap.size = A → x_Ctx p R s m args meth c M D cO En A bc bs → meth.locks = false → (∀ x ∈ c.exceptionTable.toList, False) →
  x_Thr p l e R s m args below meth c (vx_MQ below (x_Post D cO ad X s.heap.size bc Q) (x_PostX D cO ad X s.heap.size bc Q) args s bc bs A) M Q D cO A X ad bc bs
/-- the contract of a method, d frames deep -/
def x_Con (l : Launch) (sc : Nat × (Nat → Int32)) (b0 : Nat) (D : va_G) (cO : FieldType → ClassId) (En : (Nat → Prop) → State → Heap → Prop) (MM : Nat → Option x_M) (EX : x_TC → x_TC) (d : Nat) : Prop :=
  ∀ (mj : Nat) (M : x_M), MM mj = some M → ∀ (ad : Nat → Nat) (X : List x_C) (av : List Value) (bc bs sz : Nat) (Q : x_O → x_H → Prop), ad x_SP = b0 → x_run sc MM EX d mj av (X, bc, bs) Q → vx_Met l M.nam (x_ws M) (x_rm d bc bs) (x_Pre D cO En ad X av sz) (x_Post D cO ad X sz bc Q) (x_PostX D cO ad X sz bc Q) bc bs (va_A (x_wk ad cO 0 X) sz)
/-- the calls of a method, over contracts d frames deep, in any room that is large enough -/
theorem x_calls {l : Launch} {sc : Nat × (Nat → Int32)} {b0 : Nat} {D : va_G} {cO : FieldType → ClassId} {En : (Nat → Prop) → State → Heap → Prop} {MM : Nat → Option x_M} {EX : x_TC → x_TC} (hMM : x_All MM En) {d : Nat} (ih : x_Con l sc b0 D cO En MM EX d) {M : x_M} (hTc : x_Tc MM En M) {R : Room} {s : State} {args : Array Value} (hts : ∀ w ∈ x_T, w.before args s = true) {A : Nat → Prop} (hE : En A s s.heap) (hR : d + 1 ≤ R.frames ∧ 40 * (d + 1) ≤ R.locals) :
    x_CV l R s args M (x_run sc MM EX d) D cO En b0 ∧ x_CS l R s args M (x_run sc MM EX d) D cO En b0 ∧ x_CI l R s args M (x_run sc MM EX d) D cO En b0 := by
  have hGood : ∀ ws : List Cond, (∀ w ∈ ws, w ∈ x_T) → GoodIn x_T ws := fun ws h => x_T_in (fun w hw => hw) h
  have hwsT : ∀ mj2 M', MM mj2 = some M' → ∀ w ∈ x_ws M', w ∈ x_T := by
    intro mj2 M' g1 w hw
    obtain ⟨-, -, -, -, k5, k6, k7⟩ := hMM mj2 M' g1
    rcases List.mem_cons.mp hw with rfl | hw
    · exact k5
    · exact hw
  have hroom : ∀ mj2 M' bc2 bs2, MM mj2 = some M' → (x_rm d bc2 bs2).frames + 1 ≤ R.frames ∧ 8 + (M'.maxl + 11) + (x_rm d bc2 bs2).locals ≤ R.locals := by
    intro mj2 M' bc2 bs2 g1
    obtain ⟨-, -, -, -, k5, k6, k7⟩ := hMM mj2 M' g1
    refine ⟨hR.1, ?_⟩
    show 8 + (M'.maxl + 11) + 40 * d ≤ R.locals
    omega
  refine ⟨?_, ?_, ?_⟩
  · intro ix mj2 n ci bc2 bs2 hcal
    obtain ⟨M', cq, g1, g0, g2, g3, g4, g5, g6, g7, g8⟩ := hTc.1 ix mj2 n ci bc2 bs2 hcal
    obtain ⟨-, -, -, -, k5, k6, k7⟩ := hMM mj2 M' g1
    refine ⟨M'.nam, M'.cod, M'.maxl, M'.ret, x_ws M', x_rm d bc2 bs2, cq, g2, cwV n hts (hGood _ ?_) (ws' := x_T) (by simp only [x_ws, x_kw, g0]) rfl rfl ⟨g3, k6.1, k6.2, g8⟩ (hroom mj2 M' bc2 bs2 g1), fun ad2 X2 av2 Qm sz2 hs2 hr => ih mj2 M' g1 ad2 X2 av2 bc2 bs2 sz2 Qm hs2 hr⟩
    intro w hw
    rcases List.mem_append.mp hw with hw | hw
    · simp only [List.mem_cons, List.not_mem_nil, or_false] at hw
      rcases hw with rfl | rfl | rfl | rfl
      · exact g4
      · exact g5
      · exact g6
      · exact g7
    · exact hwsT mj2 M' g1 w hw
  · intro ix mj2 n k bc2 bs2 hcal hk2
    obtain ⟨M', g1, g4, g5, g6, g8⟩ := hTc.2.1 ix mj2 n k bc2 bs2 hcal hk2
    obtain ⟨-, -, -, -, k5, k6, k7⟩ := hMM mj2 M' g1
    refine ⟨M'.nam, M'.cod, M'.maxl, M'.ret, x_ws M', x_rm d bc2 bs2, ?_, fun ad2 X2 av2 Qm sz2 hs2 hno hr => x_toMet (ih mj2 M' g1 ad2 X2 av2 bc2 bs2 sz2 Qm hs2 hr) (fun E st t hq => by obtain ⟨⟨Y, ad', h1, -⟩, -⟩ := hq; exact hno E Y h1)⟩
    rcases g4 with ⟨rfl, g4⟩ | ⟨g0, host, g4⟩
    · have hin : ∀ w ∈ va_wsS M.own ix M'.nam (x_ws M'), w ∈ x_T := by
        intro w hw
        rcases List.mem_append.mp hw with hw | hw
        · simp only [List.mem_cons, List.not_mem_nil, or_false] at hw
          rcases hw with rfl | rfl | rfl
          · exact g4
          · exact g5
          · exact g6
        · exact hwsT mj2 M' g1 w hw
      cases hh : M'.hnd with
      | nil => exact Or.inl (va_cwS n hts (hGood _ hin) (ws' := x_T) (by simp only [x_ws, x_kw, hh]) rfl rfl ⟨k6.1, k6.2, g8⟩ (hroom mj2 M' bc2 bs2 g1))
      | cons h9 r9 => exact Or.inr (Or.inr ⟨h9 :: r9, vx_cwSW n hts (hGood _ hin) (ws' := x_T) (by simp only [x_ws, x_kw, hh]) rfl rfl ⟨k6.1, k6.2, g8⟩ (hroom mj2 M' bc2 bs2 g1)⟩)
    · exact Or.inr (Or.inl ⟨host, va_cnB n hts (hGood _ (hwsT mj2 M' g1)) (ws' := x_T) (by simp only [x_ws, x_kw, g0]) rfl rfl (g4 A s _ hE) (hts _ g6) ⟨k6.1, k6.2, g8⟩ (hroom mj2 M' bc2 bs2 g1), hts _ g5, trivial⟩)
  · intro ix mj2 n bc2 bs2 hspc
    obtain ⟨M', g1, g0, g2, g3, g4, g5, g6, g8⟩ := hTc.2.2 ix mj2 n bc2 bs2 hspc
    obtain ⟨-, -, -, -, k5, k6, k7⟩ := hMM mj2 M' g1
    exact ⟨M'.nam, M'.cod, M'.maxl, x_ws M', x_rm d bc2 bs2, cwI n hts (hGood _ (hwsT mj2 M' g1)) (ws' := x_T) (by simp only [x_ws, x_kw, g0, g2]) rfl rfl (hts _ g6) (hts _ g4) (hts _ g5) g3 ⟨k6.1, k6.2, g8⟩ (hroom mj2 M' bc2 bs2 g1), fun ad2 X2 av2 Qm sz2 hs2 hno hr => x_toMet (ih mj2 M' g1 ad2 X2 av2 bc2 bs2 sz2 Qm hs2 hr) (fun E st t hq => by obtain ⟨⟨Y, ad', h1, -⟩, -⟩ := hq; exact hno E Y h1)⟩
set_option maxHeartbeats 1000000 in
theorem x_met (l : Launch) {sc : Nat × (Nat → Int32)} {b0 : Nat} {D : va_G} {cO : FieldType → ClassId} {En : (Nat → Prop) → State → Heap → Prop} (hEn : x_EnOK En) (hScr : ∀ A U H, En A U H → va_X b0 sc.1 sc.2 U H ∧ b0 < H.size ∧ ¬ A b0) (hG : x_Gw) {MM : Nat → Option x_M} (hMM : x_All MM En) (hHd : ∀ mj M, MM mj = some M → x_HandOK l M) (hTh : ∀ mj M, MM mj = some M → (∀ ix, M.thr ix = none) ∨ (M.hnd = [] ∧ x_ThrOK l En M) ∨ M.tab 0 = none) {EX : x_TC → x_TC} (hX : ∀ d, x_Con l sc b0 D cO En MM EX d → ∀ (mj : Nat) (M : x_M), MM mj = some M → M.tab 0 = none → ∀ (ad : Nat → Nat) (X : List x_C) (av : List Value) (bc bs sz : Nat) (Q : x_O → x_H → Prop), ad x_SP = b0 → EX (x_run sc MM EX d) mj av (X, bc, bs) Q → vx_Met l M.nam (x_ws M) (x_rm (d + 1) bc bs) (x_Pre D cO En ad X av sz) (x_Post D cO ad X sz bc Q) (x_PostX D cO ad X sz bc Q) bc bs (va_A (x_wk ad cO 0 X) sz)) :
    ∀ d, x_Con l sc b0 D cO En MM EX d := by
  intro d
  induction d with
  | zero => intro mj M hM ad X av bc bs sz Q _ h; exact h.elim
  | succ d ih =>
    intro mj M hM ad X av bc bs sz Q hsp h
    cases ht0 : M.tab 0 with
    | none =>
      unfold x_run at h
      rw [hM] at h
      dsimp only at h
      rw [ht0] at h
      exact hX d ih mj M hM ht0 ad X av bc bs sz Q hsp h
    | some i0 =>
    unfold x_run at h
    rw [hM] at h
    dsimp only at h
    rw [ht0] at h
    obtain ⟨hal, hac, hW⟩ := h
    obtain ⟨hTb, hTc, hpn, hcl, hcd, hmh, hml20⟩ := hMM mj M hM
    have body : ∀ p e s m args below meth c s₁, BodyLoose p l M.nam (headSpec (x_ws M) (x_rm (d + 1) bc bs)) M.cod M.maxl M.ret e s m args below meth c s₁ → c.maxLocals = M.maxl → (M.hnd = [] → ∀ x ∈ c.exceptionTable.toList, False) → x_Pre D cO En ad X av sz args s →
        W p l e (headSpec (x_ws M) (x_rm (d + 1) bc bs)).room s m args below meth c s.heap [] 0 0 (vx_MQ below (x_Post D cO ad X sz bc Q) (x_PostX D cO ad X sz bc Q) args s bc bs (va_A (x_wk ad cO 0 X) sz)) (entryFrame m args M.maxl) := by
      intro p e s m args below meth c s₁ B hml hnt hv
      obtain ⟨rfl, hsz, hP, hK, hD0, hE⟩ := hv
      have hts0 : ∀ w ∈ x_ws M, w.before (av.map (x_rv ad)).toArray s = true := atoms_spec (ws := x_ws M) B.pre
      have hts : ∀ w ∈ x_T, w.before (av.map (x_rv ad)).toArray s = true := fun w hw => hts0 w (List.mem_cons_of_mem _ hw)
      have hown : s.vm.findClass M.own = some m.cls := by rw [← hcl]; exact findClass_of_methodNamed B.named
      subst hsz
      have hD := hD0.self (sz := s.heap.size)
      generalize hAe : va_A (x_wk ad cO 0 X) s.heap.size = A at hD hE ⊢
      have hA : ∀ q : Nat, s.heap.size ≤ q → A q := fun q h => by rw [← hAe]; exact Or.inr h
      have hS : va_S A s.heap s.heap [] := va_S.rf
      obtain ⟨ls, hent, hlv⟩ := x_entry ad M m hac hal
      rw [hent]
      have hnm : meth.name = M.nam.name := (name_of_methodNamed B.named B.method).1
      have hx : x_Ctx p (headSpec (x_ws M) (x_rm (d + 1) bc bs)).room s m (av.map (x_rv ad)).toArray meth c M D cO En A bc bs := ⟨B.exec, B.bytes, hml, hown, hts, hK, hA, hE, Nat.le_refl _, Nat.le_refl _, hnm, Nat.le_add_left 1 d, by show 40 ≤ 40 * (d + 1); omega⟩
      have hcalls := x_calls hMM ih hTc (R := (headSpec (x_ws M) (x_rm (d + 1) bc bs)).room) hts hE ⟨Nat.le_refl _, Nat.le_refl _⟩
      have hlocks : meth.locks = false := B.notSynchronized
      have hZ : x_Ends p l e (headSpec (x_ws M) (x_rm (d + 1) bc bs)).room s m (av.map (x_rv ad)).toArray below meth c (vx_MQ below (x_Post D cO ad X s.heap.size bc Q) (x_PostX D cO ad X s.heap.size bc Q) (av.map (x_rv ad)).toArray s bc bs A) M Q D cO A X ad bc bs := by
        intro v pc L Y hQ hv ad' H locs cells slots ls' hR
        obtain ⟨h1, h2, h3, h4, h5, h6, h7⟩ := hR
        have hpost : ∀ t : State, t.heap = H → s.WarmedH t.vm → x_Post D cO ad X s.heap.size bc Q (av.map (x_rv ad)).toArray s (.returned (v.map (x_rv ad'))) t := by
          intro t ht hWt
          refine ⟨⟨v, Y, ad', rfl, hQ, h7, ?_, va_K.moved hWt.alike hK, ?_⟩, ?_⟩
          · rw [ht]; exact h3
          · rw [hAe]; exact h4
          · rw [hAe]; exact h5.F ht
        have hr := B.returns
        refine W.widen (k := bc) (n := bs) (by omega) (by omega) (vx_ret ?_)
        rcases hv with ⟨x, rfl, hd, hx⟩ | ⟨x, rfl, hd, hx⟩ | ⟨rfl, hd, hx⟩
        · obtain ⟨ty, hty, hx⟩ := hx
          exact W.zret B.exec B.bytes (hr.trans hty) hx hpost h5.2.2 hd hlocks
        · exact W.lret B.exec B.bytes (hr.trans hx) hpost h5.2.2 hd hlocks
        · exact W.vret B.exec B.bytes (hr.trans hx) hpost h5.2.2 hd hlocks
      have hHX := hHd mj M hM p e (headSpec (x_ws M) (x_rm (d + 1) bc bs)).room s m (av.map (x_rv ad)).toArray below meth c (vx_MQ below (x_Post D cO ad X s.heap.size bc Q) (x_PostX D cO ad X s.heap.size bc Q) (av.map (x_rv ad)).toArray s bc bs A) B.exec hown hts hnt (by
          have h9 := hts0 _ List.mem_cons_self
          unfold x_kw at h9
          split at h9
          · exact Or.inr (by assumption)
          · rename_i h8 r8 he
            rw [he]; exact Or.inl h9) (fun hh h9 => vx_table (x := M.nam) B h9)
      have hZX : x_EndX p l e (headSpec (x_ws M) (x_rm (d + 1) bc bs)).room s m (av.map (x_rv ad)).toArray below meth c (vx_MQ below (x_Post D cO ad X s.heap.size bc Q) (x_PostX D cO ad X s.heap.size bc Q) (av.map (x_rv ad)).toArray s bc bs A) M Q D cO A X ad bc bs := by
        intro E pc L st Y hex hQ ad' H locs cells slots ls' q ce hR c1 c2 c3
        obtain ⟨h1, h2, h3, h4, h5, h6, h7⟩ := hR
        refine vx_out (hHX.2 pc E hex) hlocks c1 c2 c3 (fun t ht hWt => ⟨⟨Y, ad', hQ, h7, ?_, va_K.moved hWt hK, ?_⟩, ?_⟩) h5.2.2 (by omega) (by omega)
        · rw [ht]; exact h3
        · rw [hAe]; exact h4
        · rw [hAe]; exact h5.F ht
      have hThr : x_Thr p l e (headSpec (x_ws M) (x_rm (d + 1) bc bs)).room s m (av.map (x_rv ad)).toArray below meth c (vx_MQ below (x_Post D cO ad X s.heap.size bc Q) (x_PostX D cO ad X s.heap.size bc Q) (av.map (x_rv ad)).toArray s bc bs A) M Q D cO A X ad bc bs := by
        rcases hTh mj M hM with h9 | ⟨h8, h9⟩ | h9
        · intro pc ix len tg E L st Y _ h3
          rw [h9 ix] at h3
          cases h3
        · exact h9 D cO p e _ s m _ below meth c ad X A bc bs Q hAe hx hlocks (hnt h8)
        · rw [ht0] at h9
          cases h9
      have hPP := hW (x_P p l e (headSpec (x_ws M) (x_rm (d + 1) bc bs)).room s m (av.map (x_rv ad)).toArray below meth c (vx_MQ below (x_Post D cO ad X s.heap.size bc Q) (x_PostX D cO ad X s.heap.size bc Q) (av.map (x_rv ad)).toArray s bc bs A) D cO A M.maxl X ad bc bs) (x_snd hEn hG hTb hx hsp (hScr A s _ hE) hcalls.1 hcalls.2.1 hcalls.2.2 hZ hZX hHX.1 hThr)
      exact hPP ad s.heap [] 0 0 ls ⟨by show 0 + bc ≤ bc; omega, by show 0 + bs ≤ bs; omega, hP, hD, hS, hlv, ⟨Nat.le_refl _, ⟨fun _ _ => rfl, rfl⟩, fun _ => rfl⟩⟩
    cases hh : M.hnd with
    | nil =>
      refine vx_ofW (cc := M.cod) (maxL := M.maxl) (ret := M.ret) (ws' := x_T) hpn (by simp only [x_ws, x_kw, hh]) ?_
      intro p e s m args below meth c s₁ B hml hnt hv
      exact body p e s m args below meth c s₁ B hml (fun _ => hnt) hv
    | cons h9 r9 =>
      refine vx_ofWH (cc := M.cod) (maxL := M.maxl) (ret := M.ret) (hh := h9 :: r9) (ws' := x_T) hpn (by simp only [x_ws, x_kw, hh]) ?_
      intro p e s m args below meth c s₁ B hml hv
      exact body p e s m args below meth c s₁ B hml (fun h => by rw [hh] at h; cases h) hv
end
section
/-! ===== the tables are looked through by program ===== -/
def x_jmpB (pc : Nat) (i : Instr) (tg : Nat) : Bool := match i with
  | .goto o | .ifCond _ o | .if_icmp _ o => decide ((pc : Int) + o = (tg : Int))
  | .tableswitch dd lo hi offs => decide (0 ≤ (pc : Int) + dd) && (offs.toList.all fun o => decide (0 ≤ (pc : Int) + o)) && decide (lo + offs.size = hi + 1)
  | _ => true
theorem x_jmpB_ok {pc : Nat} {i : Instr} {tg : Nat} (h : x_jmpB pc i tg = true) : x_jmp pc i tg := by
  cases i
  case tableswitch dd lo hi offs =>
    simp only [x_jmpB, Bool.and_eq_true, decide_eq_true_eq, List.all_eq_true] at h
    exact ⟨h.1.1, h.1.2, h.2⟩
  all_goals first | trivial | (simp only [x_jmpB, decide_eq_true_eq] at h; exact h)
def x_ckI (cod : ByteArray) (l : List (Nat × x_I)) : Bool := l.all fun e => decide (decode cod e.1 = .ok (e.2.1, x_len e.2.1 e.2.2.1)) && x_jmpB e.1 e.2.1 e.2.2.2
theorem x_ckI_ok {cod : ByteArray} {l : List (Nat × x_I)} (h : x_ckI cod l = true) : ∀ pc i len tg, x_lk l pc = some (i, len, tg) → decode cod pc = .ok (i, x_len i len) ∧ x_jmp pc i tg := by
  intro pc i len tg hl
  have h1 := List.all_eq_true.mp h _ (x_lk_mem hl)
  simp only [Bool.and_eq_true, decide_eq_true_eq] at h1
  exact ⟨h1.1, x_jmpB_ok h1.2⟩
/-- words that the tables hold -/
def x_ckW (ws : List Cond) : Bool := ws.all fun w => decide (w ∈ lw_tbl) && goodWord w
theorem x_ckW_ok {ws : List Cond} (h : x_ckW ws = true) : ∀ w ∈ ws, w ∈ x_T := by
  intro w hw
  have h1 := List.all_eq_true.mp h w hw
  simp only [Bool.and_eq_true, decide_eq_true_eq] at h1
  exact List.mem_filter.mpr h1
/-- what a class of the tables must have -/
def x_Cl (ci : Nat) (C : String) (T : u_T) (N : Nat) (ty0 : Nat → FieldType) : Prop := vwCl[ci]? = some (C, T, N) ∧ (∀ w ∈ u_ws C T N, w ∈ x_T) ∧ (∀ k, k < N → parseFieldDescriptor (T k).2.2.1 = some (ty0 k)) ∧ ∀ a, a < N → ∀ b, b < N → a ≠ b → (T a).2.1 ≠ (T b).2.1
/-- one field of a class' pool -/
def x_Fl (own : String) (ini : Bool) (e : Nat × Nat × Nat × FieldType × Nat) : Prop := ∃ (C : String) (T : u_T) (N : Nat) (ty0 : Nat → FieldType), x_Cl e.2.1 C T N ty0 ∧ e.2.2.1 < N ∧ Cond.fieldLink own e.1 (T e.2.2.1).1 (T e.2.2.1).2.1 (T e.2.2.1).2.2.1 ∈ x_T ∧ (e.2.2.2.2 = 0 ∨ parseFieldDescriptor (T e.2.2.1).2.2.1 = some e.2.2.2.1 ∧ ((e.2.2.2.2 = 1 ∧ (T e.2.2.1).2.2.2 = false) ∨ ((T e.2.2.1).2.2.2 = true ∧ ini = true ∧ (T e.2.2.1).1 = own)))
/-- one class that is made -/
def x_Nl (own : String) (e : Nat × Nat × List Value) : Prop := ∃ (C : String) (T : u_T) (N : Nat) (ty0 : Nat → FieldType), x_Cl e.2.1 C T N ty0 ∧ Cond.classLink own e.1 C ∈ x_T ∧ Cond.instantiable C N ∈ x_T ∧ Cond.initialized C ∈ x_T ∧ (∀ j, j < N → defaultValue (ty0 j) = vp_V e.2.2 j) ∧ e.2.2.length = N ∧ ∀ ad, e.2.2.map (x_rv ad) = e.2.2
def x_Kl (own : String) (e : Nat × Value) : Prop := match e.2 with
  | .int v => Cond.constant own e.1 v ∈ x_T
  | .long v => Cond.constantLong own e.1 v ∈ x_T
  | _ => True
def x_Sl0 (own : String) (e : Nat × Option (Nat × Nat × Nat × Nat)) : Prop := match e.2 with
  | none => Cond.methodLink own e.1 objectInit ∈ x_T
  | some _ => True
def x_Ml (own : String) (e : Nat × Nat × Nat × Nat × Nat × Nat) : Prop := e.2.2.2.1 = 2 → Cond.methodLink own e.1 Lib.Math.min.name ∈ x_T ∧ Cond.static Lib.Math.min.name ∈ x_T ∧ Cond.initialized "java/lang/Math" ∈ x_T ∧ Cond.code Lib.Math.min.name Lib.Math.min.code 2 (some .int) ∈ x_T
theorem x_Tb_of {own : String} {y : MethodName} {cod : ByteArray} {ml : Nat} {rt : Option FieldType} {il : List (Nat × x_I)} {fl : List (Nat × Nat × Nat × FieldType × Nat)} {vl sl : List (Nat × Nat × Nat × Nat × Nat × Nat)} {pl : List (Nat × Option (Nat × Nat × Nat × Nat))} {nl : List (Nat × Nat × List Value)} {tl : List (Nat × String)} {ex : Nat → String → Option (Option (Nat × Nat))} {kl : List (Nat × Value)} {hd : List (Nat × Nat × Nat × Nat)} (ini : Bool)
    (h1 : x_ckI cod il = true) (h2 : ∀ e ∈ fl, x_Fl own ini e) (h2i : ini = true → y.name = "<init>") (h3 : ∀ e ∈ kl, x_Kl own e) (h4 : ∀ e ∈ nl, x_Nl own e) (h5 : ∀ e ∈ pl, x_Sl0 own e) (h6 : ∀ e ∈ sl, x_Ml own e) : x_Tb (own, y, cod, ml, rt, x_lk il, x_lk fl, x_lk vl, x_lk sl, x_lk pl, x_lk nl, x_lk tl, ex, x_lk kl, hd) := by
  refine ⟨x_ckI_ok h1, ?_, ?_, ?_, ?_, ?_, ?_⟩
  · intro ix ci k ty w hl
    obtain ⟨C, T, N, ty0, ⟨g1, g2, g3, g4⟩, g5, g6, g7⟩ := h2 _ (x_lk_mem hl)
    refine ⟨C, T, N, ty0, g1, g5, g2, g6, g3, g4, ?_⟩
    rcases g7 with g7 | ⟨g7, g8 | ⟨g8, g9, g10⟩⟩
    · exact Or.inl g7
    · exact Or.inr ⟨g7, Or.inl g8⟩
    · exact Or.inr ⟨g7, Or.inr ⟨g8, h2i g9, g10⟩⟩
  · intro ix v hl
    exact h3 _ (x_lk_mem hl)
  · intro ix v hl
    exact h3 _ (x_lk_mem hl)
  · intro ix ci fs hl
    obtain ⟨C, T, N, ty0, ⟨g1, g2, g3, g4⟩, g5, g6, g7, g8, g9, g10⟩ := h4 _ (x_lk_mem hl)
    exact ⟨C, T, N, ty0, g1, g2, g3, g5, g6, g7, g8, g9, g10⟩
  · intro ix hl
    exact h5 _ (x_lk_mem hl)
  · intro ix mj n bc bs hl
    exact h6 _ (x_lk_mem hl) rfl
/-- one virtual, static, constructor's call -/
def x_Vl (MM : Nat → Option x_M) (own : String) (e : Nat × Nat × Nat × Nat × Nat × Nat) : Prop := ∃ (M' : x_M) (cq : vw_C), MM e.2.1 = some M' ∧ M'.hnd = [] ∧ vwCl[e.2.2.2.1]? = some cq ∧ M'.nam.cls = cq.1 ∧ Cond.methodLink own e.1 M'.nam ∈ x_T ∧ Cond.instanceMethod M'.nam ∈ x_T ∧ Cond.selects cq.1 M'.nam M'.nam ∈ x_T ∧ Cond.initialized cq.1 ∈ x_T ∧ (parseMethodDescriptor M'.nam.desc).map (fun d => d.parameters.length) = some e.2.2.1
def x_Sl (MM : Nat → Option x_M) (En : (Nat → Prop) → State → Heap → Prop) (own : String) (e : Nat × Nat × Nat × Nat × Nat × Nat) : Prop := e.2.2.2.1 ≠ 2 → ∃ (M' : x_M), MM e.2.1 = some M' ∧ ((e.2.2.2.1 = 0 ∧ Cond.methodLink own e.1 M'.nam ∈ x_T) ∨ (M'.hnd = [] ∧ ∃ host, ∀ A U H, En A U H → va_Nw (.methodLinkNest own e.1 M'.nam host) U)) ∧ Cond.static M'.nam ∈ x_T ∧ Cond.initialized M'.nam.cls ∈ x_T ∧ (parseMethodDescriptor M'.nam.desc).map (fun d => d.parameters.length) = some e.2.2.1
def x_Pl (MM : Nat → Option x_M) (own : String) (e : Nat × Option (Nat × Nat × Nat × Nat)) : Prop := match e.2 with
  | none => True
  | some (mj, n, _, _) => ∃ (M' : x_M), MM mj = some M' ∧ M'.hnd = [] ∧ M'.ret = none ∧ M'.nam.name = "<init>" ∧ Cond.methodLink own e.1 M'.nam ∈ x_T ∧ Cond.instanceMethod M'.nam ∈ x_T ∧ Cond.initialized M'.nam.cls ∈ x_T ∧ (parseMethodDescriptor M'.nam.desc).map (fun d => d.parameters.length) = some n
theorem x_Tc_of {MM : Nat → Option x_M} {En : (Nat → Prop) → State → Heap → Prop} {own : String} {y : MethodName} {cod : ByteArray} {ml : Nat} {rt : Option FieldType} {il : Nat → Option x_I} {fl : Nat → Option (Nat × Nat × FieldType × Nat)} {vl sl : List (Nat × Nat × Nat × Nat × Nat × Nat)} {pl : List (Nat × Option (Nat × Nat × Nat × Nat))} {nl : Nat → Option (Nat × List Value)} {tl : Nat → Option String} {ex : Nat → String → Option (Option (Nat × Nat))} {kl : Nat → Option Value} {hd : List (Nat × Nat × Nat × Nat)}
    (h1 : ∀ e ∈ vl, x_Vl MM own e) (h2 : ∀ e ∈ sl, x_Sl MM En own e) (h3 : ∀ e ∈ pl, x_Pl MM own e) : x_Tc MM En (own, y, cod, ml, rt, il, fl, x_lk vl, x_lk sl, x_lk pl, nl, tl, ex, kl, hd) := by
  refine ⟨?_, ?_, ?_⟩
  · intro ix mj n ci bc bs hl
    exact h1 _ (x_lk_mem hl)
  · intro ix mj n k bc bs hl
    exact h2 _ (x_lk_mem hl)
  · intro ix mj n bc bs hl
    exact h3 _ (x_lk_mem hl)
end
section
/-! ===== the tables, by program (wip/whole/gen.py) ===== -/
def il_J6_bitCount : List (Nat × x_I) := [(0, .iload_n 0, 1, 0), (1, .iload_n 0, 1, 0), (2, .iconst 1, 1, 0), (3, .iushr, 1, 0), (4, .ldc_w 265, 3, 0), (7, .iand, 1, 0), (8, .isub, 1, 0), (9, .istore_n 0, 1, 0), (10, .iload_n 0, 1, 0), (11, .ldc_w 266, 3, 0), (14, .iand, 1, 0), (15, .iload_n 0, 1, 0), (16, .iconst 2, 1, 0), (17, .iushr, 1, 0), (18, .ldc_w 266, 3, 0), (21, .iand, 1, 0), (22, .iadd, 1, 0), (23, .istore_n 0, 1, 0), (24, .iload_n 0, 1, 0), (25, .iload_n 0, 1, 0), (26, .iconst 4, 1, 0), (27, .iushr, 1, 0), (28, .iadd, 1, 0), (29, .ldc_w 267, 3, 0), (32, .iand, 1, 0), (33, .istore_n 0, 1, 0), (34, .iload_n 0, 1, 0), (35, .iload_n 0, 1, 0), (36, .bipush 8, 2, 0), (38, .iushr, 1, 0), (39, .iadd, 1, 0), (40, .istore_n 0, 1, 0), (41, .iload_n 0, 1, 0), (42, .iload_n 0, 1, 0), (43, .bipush 16, 2, 0), (45, .iushr, 1, 0), (46, .iadd, 1, 0), (47, .istore_n 0, 1, 0), (48, .iload_n 0, 1, 0), (49, .bipush 63, 2, 0), (51, .iand, 1, 0), (52, .ireturn, 1, 0)]
abbrev k_J6_bitCount : Nat := 0
def il_X8_init : List (Nat × x_I) := [(0, .aload_n 0, 1, 0), (1, .invokespecial 1, 3, 0), (4, .aload_n 0, 1, 0), (5, .bipush 81, 2, 0), (7, .newarray .int, 2, 0), (9, .putfield 7, 3, 0), (12, .aload_n 0, 1, 0), (13, .bipush 81, 2, 0), (15, .newarray .int, 2, 0), (17, .putfield 13, 3, 0), (20, .aload_n 0, 1, 0), (21, .bipush 19, 2, 0), (23, .newarray .boolean, 2, 0), (25, .putfield 16, 3, 0), (28, .aload_n 0, 1, 0), (29, .bipush 19, 2, 0), (31, .newarray .int, 2, 0), (33, .putfield 20, 3, 0), (36, .aload_n 0, 1, 0), (37, .iconst (-1), 1, 0), (38, .putfield 23, 3, 0), (41, .aload_n 0, 1, 0), (42, .bipush 81, 2, 0), (44, .newarray .boolean, 2, 0), (46, .putfield 27, 3, 0), (49, .aload_n 0, 1, 0), (50, .bipush 81, 2, 0), (52, .newarray .int, 2, 0), (54, .putfield 30, 3, 0), (57, .aload_n 0, 1, 0), (58, .bipush 81, 2, 0), (60, .newarray .int, 2, 0), (62, .putfield 33, 3, 0), (65, .aload_n 0, 1, 0), (66, .iconst 5, 1, 0), (67, .newarray .int, 2, 0), (69, .putfield 36, 3, 0), (72, .aload_n 0, 1, 0), (73, .ldc 39, 2, 0), (75, .newarray .int, 2, 0), (77, .putfield 40, 3, 0), (80, .aload_n 0, 1, 0), (81, .ldc 39, 2, 0), (83, .newarray .int, 2, 0), (85, .putfield 43, 3, 0), (88, .aload_n 0, 1, 0), (89, .sipush 820, 3, 0), (92, .newarray .int, 2, 0), (94, .putfield 46, 3, 0), (97, .aload_n 0, 1, 0), (98, .bipush 81, 2, 0), (100, .newarray .boolean, 2, 0), (102, .putfield 49, 3, 0), (105, .aload_n 0, 1, 0), (106, .bipush 81, 2, 0), (108, .newarray .boolean, 2, 0), (110, .putfield 52, 3, 0), (113, .aload_n 0, 1, 0), (114, .bipush 81, 2, 0), (116, .newarray .boolean, 2, 0), (118, .putfield 55, 3, 0), (121, .aload_n 0, 1, 0), (122, .iload_n 1, 1, 0), (123, .ifCond .gt 7, 3, 130), (126, .iconst 4, 1, 0), (127, .goto 15, 3, 142), (130, .iload_n 1, 1, 0), (131, .iconst 1, 1, 0), (132, .if_icmp .ne 8, 3, 140), (135, .bipush 6, 2, 0), (137, .goto 5, 3, 142), (140, .bipush 9, 2, 0), (142, .putfield 58, 3, 0), (145, .aload_n 0, 1, 0), (146, .iload_n 1, 1, 0), (147, .ifCond .gt 7, 3, 154), (150, .iconst 2, 1, 0), (151, .goto 4, 3, 155), (154, .iconst 3, 1, 0), (155, .putfield 61, 3, 0), (158, .aload_n 0, 1, 0), (159, .iload_n 1, 1, 0), (160, .iconst 2, 1, 0), (161, .if_icmp .lt 7, 3, 168), (164, .iconst 3, 1, 0), (165, .goto 4, 3, 169), (168, .iconst 2, 1, 0), (169, .putfield 64, 3, 0), (172, .aload_n 0, 1, 0), (173, .getfield 16, 3, 0), (176, .bipush 18, 2, 0), (178, .iconst 1, 1, 0), (179, .bastore, 1, 0), (180, .iconst 0, 1, 0), (181, .istore_n 2, 1, 0), (182, .iload_n 2, 1, 0), (183, .aload_n 0, 1, 0), (184, .invokevirtual 67, 3, 0), (187, .if_icmp .ge 30, 3, 217), (190, .aload_n 0, 1, 0), (191, .getfield 7, 3, 0), (194, .iload_n 2, 1, 0), (195, .iconst 1, 1, 0), (196, .aload_n 0, 1, 0), (197, .getfield 58, 3, 0), (200, .ishl, 1, 0), (201, .iconst 1, 1, 0), (202, .isub, 1, 0), (203, .iastore, 1, 0), (204, .aload_n 0, 1, 0), (205, .getfield 13, 3, 0), (208, .iload_n 2, 1, 0), (209, .iconst (-1), 1, 0), (210, .iastore, 1, 0), (211, .iinc 2 1, 3, 0), (214, .goto (-32), 3, 182), (217, .return_, 1, 0)]
abbrev k_X8_init : Nat := 1
def il_X8_thrown : List (Nat × x_I) := [(0, .aload_n 0, 1, 0), (1, .getfield 71, 3, 0), (4, .ireturn, 1, 0)]
abbrev k_X8_thrown : Nat := 2
def il_X8_fails : List (Nat × x_I) := [(0, .aload_n 0, 1, 0), (1, .iload_n 2, 1, 0), (2, .ifCond .eq 7, 3, 9), (5, .iload_n 1, 1, 0), (6, .goto 4, 3, 10), (9, .iconst 0, 1, 0), (10, .putfield 71, 3, 0), (13, .iload_n 2, 1, 0), (14, .ireturn, 1, 0)]
abbrev k_X8_fails : Nat := 3
def il_X8_cells : List (Nat × x_I) := [(0, .aload_n 0, 1, 0), (1, .getfield 58, 3, 0), (4, .aload_n 0, 1, 0), (5, .getfield 58, 3, 0), (8, .imul, 1, 0), (9, .ireturn, 1, 0)]
abbrev k_X8_cells : Nat := 4
def il_X8_isCell : List (Nat × x_I) := [(0, .iload_n 1, 1, 0), (1, .ifCond .lt 15, 3, 16), (4, .iload_n 1, 1, 0), (5, .aload_n 0, 1, 0), (6, .invokevirtual 67, 3, 0), (9, .if_icmp .ge 7, 3, 16), (12, .iconst 1, 1, 0), (13, .goto 4, 3, 17), (16, .iconst 0, 1, 0), (17, .ireturn, 1, 0)]
abbrev k_X8_isCell : Nat := 5
def il_X8_isSymbol : List (Nat × x_I) := [(0, .iload_n 1, 1, 0), (1, .ifCond .lt 15, 3, 16), (4, .iload_n 1, 1, 0), (5, .aload_n 0, 1, 0), (6, .getfield 58, 3, 0), (9, .if_icmp .ge 7, 3, 16), (12, .iconst 1, 1, 0), (13, .goto 4, 3, 17), (16, .iconst 0, 1, 0), (17, .ireturn, 1, 0)]
abbrev k_X8_isSymbol : Nat := 6
def il_X8_boxOf : List (Nat × x_I) := [(0, .iload_n 1, 1, 0), (1, .aload_n 0, 1, 0), (2, .getfield 58, 3, 0), (5, .idiv, 1, 0), (6, .aload_n 0, 1, 0), (7, .getfield 64, 3, 0), (10, .idiv, 1, 0), (11, .aload_n 0, 1, 0), (12, .getfield 58, 3, 0), (15, .aload_n 0, 1, 0), (16, .getfield 61, 3, 0), (19, .idiv, 1, 0), (20, .imul, 1, 0), (21, .iload_n 1, 1, 0), (22, .aload_n 0, 1, 0), (23, .getfield 58, 3, 0), (26, .irem, 1, 0), (27, .aload_n 0, 1, 0), (28, .getfield 61, 3, 0), (31, .idiv, 1, 0), (32, .iadd, 1, 0), (33, .ireturn, 1, 0)]
abbrev k_X8_boxOf : Nat := 7
def il_X8_isIn : List (Nat × x_I) := [(0, .iload_n 1, 1, 0), (1, .aload_n 0, 1, 0), (2, .getfield 58, 3, 0), (5, .if_icmp .ge 21, 3, 26), (8, .iload_n 2, 1, 0), (9, .aload_n 0, 1, 0), (10, .getfield 58, 3, 0), (13, .idiv, 1, 0), (14, .iload_n 1, 1, 0), (15, .if_icmp .ne 7, 3, 22), (18, .iconst 1, 1, 0), (19, .goto 61, 3, 80), (22, .iconst 0, 1, 0), (23, .goto 57, 3, 80), (26, .iload_n 1, 1, 0), (27, .iconst 2, 1, 0), (28, .aload_n 0, 1, 0), (29, .getfield 58, 3, 0), (32, .imul, 1, 0), (33, .if_icmp .ge 26, 3, 59), (36, .iload_n 2, 1, 0), (37, .aload_n 0, 1, 0), (38, .getfield 58, 3, 0), (41, .irem, 1, 0), (42, .iload_n 1, 1, 0), (43, .aload_n 0, 1, 0), (44, .getfield 58, 3, 0), (47, .isub, 1, 0), (48, .if_icmp .ne 7, 3, 55), (51, .iconst 1, 1, 0), (52, .goto 28, 3, 80), (55, .iconst 0, 1, 0), (56, .goto 24, 3, 80), (59, .aload_n 0, 1, 0), (60, .iload_n 2, 1, 0), (61, .invokevirtual 74, 3, 0), (64, .iload_n 1, 1, 0), (65, .iconst 2, 1, 0), (66, .aload_n 0, 1, 0), (67, .getfield 58, 3, 0), (70, .imul, 1, 0), (71, .isub, 1, 0), (72, .if_icmp .ne 7, 3, 79), (75, .iconst 1, 1, 0), (76, .goto 4, 3, 80), (79, .iconst 0, 1, 0), (80, .ireturn, 1, 0)]
abbrev k_X8_isIn : Nat := 8
def il_X8_at : List (Nat × x_I) := [(0, .iload_n 1, 1, 0), (1, .aload_n 0, 1, 0), (2, .getfield 58, 3, 0), (5, .if_icmp .ge 12, 3, 17), (8, .aload_n 0, 1, 0), (9, .getfield 58, 3, 0), (12, .iload_n 1, 1, 0), (13, .imul, 1, 0), (14, .iload_n 2, 1, 0), (15, .iadd, 1, 0), (16, .ireturn, 1, 0), (17, .iload_n 1, 1, 0), (18, .iconst 2, 1, 0), (19, .aload_n 0, 1, 0), (20, .getfield 58, 3, 0), (23, .imul, 1, 0), (24, .if_icmp .ge 17, 3, 41), (27, .aload_n 0, 1, 0), (28, .getfield 58, 3, 0), (31, .iload_n 2, 1, 0), (32, .imul, 1, 0), (33, .iload_n 1, 1, 0), (34, .iadd, 1, 0), (35, .aload_n 0, 1, 0), (36, .getfield 58, 3, 0), (39, .isub, 1, 0), (40, .ireturn, 1, 0), (41, .iload_n 1, 1, 0), (42, .iconst 2, 1, 0), (43, .aload_n 0, 1, 0), (44, .getfield 58, 3, 0), (47, .imul, 1, 0), (48, .isub, 1, 0), (49, .istore_n 3, 1, 0), (50, .iload_n 3, 1, 0), (51, .aload_n 0, 1, 0), (52, .getfield 58, 3, 0), (55, .aload_n 0, 1, 0), (56, .getfield 61, 3, 0), (59, .idiv, 1, 0), (60, .irem, 1, 0), (61, .aload_n 0, 1, 0), (62, .getfield 61, 3, 0), (65, .imul, 1, 0), (66, .iload_n 2, 1, 0), (67, .aload_n 0, 1, 0), (68, .getfield 61, 3, 0), (71, .irem, 1, 0), (72, .iadd, 1, 0), (73, .istore 4, 2, 0), (75, .iload_n 3, 1, 0), (76, .aload_n 0, 1, 0), (77, .getfield 58, 3, 0), (80, .aload_n 0, 1, 0), (81, .getfield 61, 3, 0), (84, .idiv, 1, 0), (85, .idiv, 1, 0), (86, .aload_n 0, 1, 0), (87, .getfield 64, 3, 0), (90, .imul, 1, 0), (91, .iload_n 2, 1, 0), (92, .aload_n 0, 1, 0), (93, .getfield 61, 3, 0), (96, .idiv, 1, 0), (97, .iadd, 1, 0), (98, .istore 5, 2, 0), (100, .aload_n 0, 1, 0), (101, .getfield 58, 3, 0), (104, .iload 5, 2, 0), (106, .imul, 1, 0), (107, .iload 4, 2, 0), (109, .iadd, 1, 0), (110, .ireturn, 1, 0)]
abbrev k_X8_at : Nat := 9
def il_X8_sees : List (Nat × x_I) := [(0, .iload_n 1, 1, 0), (1, .iload_n 2, 1, 0), (2, .if_icmp .eq 50, 3, 52), (5, .iload_n 1, 1, 0), (6, .aload_n 0, 1, 0), (7, .getfield 58, 3, 0), (10, .idiv, 1, 0), (11, .iload_n 2, 1, 0), (12, .aload_n 0, 1, 0), (13, .getfield 58, 3, 0), (16, .idiv, 1, 0), (17, .if_icmp .eq 31, 3, 48), (20, .iload_n 1, 1, 0), (21, .aload_n 0, 1, 0), (22, .getfield 58, 3, 0), (25, .irem, 1, 0), (26, .iload_n 2, 1, 0), (27, .aload_n 0, 1, 0), (28, .getfield 58, 3, 0), (31, .irem, 1, 0), (32, .if_icmp .eq 16, 3, 48), (35, .aload_n 0, 1, 0), (36, .iload_n 1, 1, 0), (37, .invokevirtual 74, 3, 0), (40, .aload_n 0, 1, 0), (41, .iload_n 2, 1, 0), (42, .invokevirtual 74, 3, 0), (45, .if_icmp .ne 7, 3, 52), (48, .iconst 1, 1, 0), (49, .goto 4, 3, 53), (52, .iconst 0, 1, 0), (53, .ireturn, 1, 0)]
abbrev k_X8_sees : Nat := 10
def il_X8_has : List (Nat × x_I) := [(0, .aload_n 0, 1, 0), (1, .getfield 7, 3, 0), (4, .iload_n 1, 1, 0), (5, .iaload, 1, 0), (6, .iload_n 2, 1, 0), (7, .ishr, 1, 0), (8, .iconst 1, 1, 0), (9, .iand, 1, 0), (10, .iconst 1, 1, 0), (11, .if_icmp .ne 7, 3, 18), (14, .iconst 1, 1, 0), (15, .goto 4, 3, 19), (18, .iconst 0, 1, 0), (19, .ireturn, 1, 0)]
abbrev k_X8_has : Nat := 11
def il_X8_countOf : List (Nat × x_I) := [(0, .iconst 0, 1, 0), (1, .istore_n 1, 1, 0), (2, .iconst 0, 1, 0), (3, .istore_n 2, 1, 0), (4, .iload_n 2, 1, 0), (5, .bipush 9, 2, 0), (7, .if_icmp .ge 17, 3, 24), (10, .iload_n 1, 1, 0), (11, .iload_n 0, 1, 0), (12, .iload_n 2, 1, 0), (13, .ishr, 1, 0), (14, .iconst 1, 1, 0), (15, .iand, 1, 0), (16, .iadd, 1, 0), (17, .istore_n 1, 1, 0), (18, .iinc 2 1, 3, 0), (21, .goto (-17), 3, 4), (24, .iload_n 1, 1, 0), (25, .ireturn, 1, 0)]
abbrev k_X8_countOf : Nat := 12
def il_X8_places : List (Nat × x_I) := [(0, .iconst 0, 1, 0), (1, .istore_n 3, 1, 0), (2, .iconst 0, 1, 0), (3, .istore 4, 2, 0), (5, .iload 4, 2, 0), (7, .aload_n 0, 1, 0), (8, .getfield 58, 3, 0), (11, .if_icmp .ge 35, 3, 46), (14, .iload_n 3, 1, 0), (15, .aload_n 0, 1, 0), (16, .aload_n 0, 1, 0), (17, .iload_n 1, 1, 0), (18, .iload 4, 2, 0), (20, .invokevirtual 78, 3, 0), (23, .iload_n 2, 1, 0), (24, .invokevirtual 82, 3, 0), (27, .ifCond .eq 10, 3, 37), (30, .iconst 1, 1, 0), (31, .iload 4, 2, 0), (33, .ishl, 1, 0), (34, .goto 4, 3, 38), (37, .iconst 0, 1, 0), (38, .ior, 1, 0), (39, .istore_n 3, 1, 0), (40, .iinc 4 1, 3, 0), (43, .goto (-38), 3, 5), (46, .iload_n 3, 1, 0), (47, .ireturn, 1, 0)]
abbrev k_X8_places : Nat := 13
def il_X8_isBroken : List (Nat × x_I) := [(0, .iconst 0, 1, 0), (1, .istore_n 1, 1, 0), (2, .iload_n 1, 1, 0), (3, .aload_n 0, 1, 0), (4, .invokevirtual 67, 3, 0), (7, .if_icmp .ge 20, 3, 27), (10, .aload_n 0, 1, 0), (11, .getfield 7, 3, 0), (14, .iload_n 1, 1, 0), (15, .iaload, 1, 0), (16, .ifCond .ne 5, 3, 21), (19, .iconst 1, 1, 0), (20, .ireturn, 1, 0), (21, .iinc 1 1, 3, 0), (24, .goto (-22), 3, 2), (27, .iconst 0, 1, 0), (28, .istore_n 1, 1, 0), (29, .iload_n 1, 1, 0), (30, .iconst 3, 1, 0), (31, .aload_n 0, 1, 0), (32, .getfield 58, 3, 0), (35, .imul, 1, 0), (36, .if_icmp .ge 36, 3, 72), (39, .iconst 0, 1, 0), (40, .istore_n 2, 1, 0), (41, .iload_n 2, 1, 0), (42, .aload_n 0, 1, 0), (43, .getfield 58, 3, 0), (46, .if_icmp .ge 20, 3, 66), (49, .aload_n 0, 1, 0), (50, .iload_n 1, 1, 0), (51, .iload_n 2, 1, 0), (52, .invokevirtual 86, 3, 0), (55, .ifCond .ne 5, 3, 60), (58, .iconst 1, 1, 0), (59, .ireturn, 1, 0), (60, .iinc 2 1, 3, 0), (63, .goto (-22), 3, 41), (66, .iinc 1 1, 3, 0), (69, .goto (-40), 3, 29), (72, .iconst 0, 1, 0), (73, .ireturn, 1, 0)]
abbrev k_X8_isBroken : Nat := 14
def il_X8_put : List (Nat × x_I) := [(0, .aload_n 0, 1, 0), (1, .getfield 13, 3, 0), (4, .iload_n 1, 1, 0), (5, .iload_n 2, 1, 0), (6, .iastore, 1, 0), (7, .aload_n 0, 1, 0), (8, .getfield 7, 3, 0), (11, .iload_n 1, 1, 0), (12, .iconst 1, 1, 0), (13, .iload_n 2, 1, 0), (14, .ishl, 1, 0), (15, .iastore, 1, 0), (16, .iconst 0, 1, 0), (17, .istore_n 3, 1, 0), (18, .iload_n 3, 1, 0), (19, .aload_n 0, 1, 0), (20, .invokevirtual 67, 3, 0), (23, .if_icmp .ge 36, 3, 59), (26, .aload_n 0, 1, 0), (27, .iload_n 1, 1, 0), (28, .iload_n 3, 1, 0), (29, .invokevirtual 89, 3, 0), (32, .ifCond .eq 21, 3, 53), (35, .aload_n 0, 1, 0), (36, .getfield 7, 3, 0), (39, .iload_n 3, 1, 0), (40, .aload_n 0, 1, 0), (41, .getfield 7, 3, 0), (44, .iload_n 3, 1, 0), (45, .iaload, 1, 0), (46, .iconst 1, 1, 0), (47, .iload_n 2, 1, 0), (48, .ishl, 1, 0), (49, .iconst (-1), 1, 0), (50, .ixor, 1, 0), (51, .iand, 1, 0), (52, .iastore, 1, 0), (53, .iinc 3 1, 3, 0), (56, .goto (-38), 3, 18), (59, .return_, 1, 0)]
abbrev k_X8_put : Nat := 15
def il_X8_changed : List (Nat × x_I) := [(0, .aload_n 0, 1, 0), (1, .iconst (-1), 1, 0), (2, .putfield 23, 3, 0), (5, .aload_n 0, 1, 0), (6, .iconst 0, 1, 0), (7, .putfield 92, 3, 0), (10, .return_, 1, 0)]
abbrev k_X8_changed : Nat := 16
def il_X8_set : List (Nat × x_I) := [(0, .aload_n 0, 1, 0), (1, .iconst 1, 1, 0), (2, .aload_n 0, 1, 0), (3, .iload_n 1, 1, 0), (4, .invokevirtual 95, 3, 0), (7, .ifCond .ne 7, 3, 14), (10, .iconst 1, 1, 0), (11, .goto 4, 3, 15), (14, .iconst 0, 1, 0), (15, .invokevirtual 99, 3, 0), (18, .ifCond .ne 42, 3, 60), (21, .aload_n 0, 1, 0), (22, .iconst 2, 1, 0), (23, .aload_n 0, 1, 0), (24, .iload_n 2, 1, 0), (25, .invokevirtual 103, 3, 0), (28, .ifCond .ne 7, 3, 35), (31, .iconst 1, 1, 0), (32, .goto 4, 3, 36), (35, .iconst 0, 1, 0), (36, .invokevirtual 99, 3, 0), (39, .ifCond .ne 21, 3, 60), (42, .aload_n 0, 1, 0), (43, .getfield 13, 3, 0), (46, .iload_n 1, 1, 0), (47, .iaload, 1, 0), (48, .ifCond .ge 12, 3, 60), (51, .aload_n 0, 1, 0), (52, .iload_n 1, 1, 0), (53, .iload_n 2, 1, 0), (54, .invokevirtual 82, 3, 0), (57, .ifCond .ne 5, 3, 62), (60, .iconst 0, 1, 0), (61, .ireturn, 1, 0), (62, .aload_n 0, 1, 0), (63, .iload_n 1, 1, 0), (64, .iload_n 2, 1, 0), (65, .invokevirtual 106, 3, 0), (68, .aload_n 0, 1, 0), (69, .invokevirtual 110, 3, 0), (72, .iconst 1, 1, 0), (73, .ireturn, 1, 0)]
abbrev k_X8_set : Nat := 17
def il_X8_take : List (Nat × x_I) := [(0, .aload_n 0, 1, 0), (1, .iconst 1, 1, 0), (2, .aload_n 0, 1, 0), (3, .iload_n 1, 1, 0), (4, .invokevirtual 95, 3, 0), (7, .ifCond .ne 7, 3, 14), (10, .iconst 1, 1, 0), (11, .goto 4, 3, 15), (14, .iconst 0, 1, 0), (15, .invokevirtual 99, 3, 0), (18, .ifCond .ne 42, 3, 60), (21, .aload_n 0, 1, 0), (22, .iconst 2, 1, 0), (23, .aload_n 0, 1, 0), (24, .iload_n 2, 1, 0), (25, .invokevirtual 103, 3, 0), (28, .ifCond .ne 7, 3, 35), (31, .iconst 1, 1, 0), (32, .goto 4, 3, 36), (35, .iconst 0, 1, 0), (36, .invokevirtual 99, 3, 0), (39, .ifCond .ne 21, 3, 60), (42, .aload_n 0, 1, 0), (43, .getfield 13, 3, 0), (46, .iload_n 1, 1, 0), (47, .iaload, 1, 0), (48, .ifCond .ge 12, 3, 60), (51, .aload_n 0, 1, 0), (52, .iload_n 1, 1, 0), (53, .iload_n 2, 1, 0), (54, .invokevirtual 82, 3, 0), (57, .ifCond .ne 5, 3, 62), (60, .iconst 0, 1, 0), (61, .ireturn, 1, 0), (62, .aload_n 0, 1, 0), (63, .getfield 7, 3, 0), (66, .iload_n 1, 1, 0), (67, .aload_n 0, 1, 0), (68, .getfield 7, 3, 0), (71, .iload_n 1, 1, 0), (72, .iaload, 1, 0), (73, .iconst 1, 1, 0), (74, .iload_n 2, 1, 0), (75, .ishl, 1, 0), (76, .iconst (-1), 1, 0), (77, .ixor, 1, 0), (78, .iand, 1, 0), (79, .iastore, 1, 0), (80, .aload_n 0, 1, 0), (81, .invokevirtual 110, 3, 0), (84, .iconst 1, 1, 0), (85, .ireturn, 1, 0)]
abbrev k_X8_take : Nat := 18
def il_X8_enable : List (Nat × x_I) := [(0, .aload_n 0, 1, 0), (1, .iconst 1, 1, 0), (2, .iload_n 1, 1, 0), (3, .ifCond .lt 9, 3, 12), (6, .iload_n 1, 1, 0), (7, .bipush 19, 2, 0), (9, .if_icmp .lt 7, 3, 16), (12, .iconst 1, 1, 0), (13, .goto 4, 3, 17), (16, .iconst 0, 1, 0), (17, .invokevirtual 99, 3, 0), (20, .ifCond .ne 13, 3, 33), (23, .aload_n 0, 1, 0), (24, .getfield 16, 3, 0), (27, .iload_n 1, 1, 0), (28, .baload, 1, 0), (29, .iload_n 2, 1, 0), (30, .if_icmp .eq 5, 3, 35), (33, .iconst 0, 1, 0), (34, .ireturn, 1, 0), (35, .aload_n 0, 1, 0), (36, .getfield 16, 3, 0), (39, .iload_n 1, 1, 0), (40, .iload_n 2, 1, 0), (41, .ifCond .ne 7, 3, 48), (44, .iconst 1, 1, 0), (45, .goto 4, 3, 49), (48, .iconst 0, 1, 0), (49, .bastore, 1, 0), (50, .aload_n 0, 1, 0), (51, .iconst (-1), 1, 0), (52, .putfield 23, 3, 0), (55, .iconst 1, 1, 0), (56, .ireturn, 1, 0)]
abbrev k_X8_enable : Nat := 19
def il_X8_none : List (Nat × x_I) := [(0, .aload_n 0, 1, 0), (1, .iconst (-1), 1, 0), (2, .putfield 113, 3, 0), (5, .aload_n 0, 1, 0), (6, .iconst (-1), 1, 0), (7, .putfield 116, 3, 0), (10, .iconst 0, 1, 0), (11, .istore_n 1, 1, 0), (12, .iload_n 1, 1, 0), (13, .bipush 81, 2, 0), (15, .if_icmp .ge 23, 3, 38), (18, .aload_n 0, 1, 0), (19, .getfield 27, 3, 0), (22, .iload_n 1, 1, 0), (23, .iconst 0, 1, 0), (24, .bastore, 1, 0), (25, .aload_n 0, 1, 0), (26, .getfield 30, 3, 0), (29, .iload_n 1, 1, 0), (30, .iconst 0, 1, 0), (31, .iastore, 1, 0), (32, .iinc 1 1, 3, 0), (35, .goto (-23), 3, 12), (38, .return_, 1, 0)]
abbrev k_X8_none : Nat := 20
def il_X8_leaves : List (Nat × x_I) := [(0, .aload_n 0, 1, 0), (1, .getfield 30, 3, 0), (4, .iload_n 1, 1, 0), (5, .aload_n 0, 1, 0), (6, .getfield 30, 3, 0), (9, .iload_n 1, 1, 0), (10, .iaload, 1, 0), (11, .aload_n 0, 1, 0), (12, .getfield 7, 3, 0), (15, .iload_n 1, 1, 0), (16, .iaload, 1, 0), (17, .iload_n 2, 1, 0), (18, .iand, 1, 0), (19, .ior, 1, 0), (20, .iastore, 1, 0), (21, .return_, 1, 0)]
abbrev k_X8_leaves : Nat := 21
def il_X8_takes : List (Nat × x_I) := [(0, .iconst 0, 1, 0), (1, .istore_n 1, 1, 0), (2, .iload_n 1, 1, 0), (3, .bipush 81, 2, 0), (5, .if_icmp .ge 20, 3, 25), (8, .aload_n 0, 1, 0), (9, .getfield 30, 3, 0), (12, .iload_n 1, 1, 0), (13, .iaload, 1, 0), (14, .ifCond .eq 5, 3, 19), (17, .iconst 1, 1, 0), (18, .ireturn, 1, 0), (19, .iinc 1 1, 3, 0), (22, .goto (-20), 3, 2), (25, .iconst 0, 1, 0), (26, .ireturn, 1, 0)]
abbrev k_X8_takes : Nat := 22
def il_X8_sets : List (Nat × x_I) := [(0, .aload_n 0, 1, 0), (1, .iload_n 1, 1, 0), (2, .putfield 113, 3, 0), (5, .aload_n 0, 1, 0), (6, .iload_n 2, 1, 0), (7, .putfield 116, 3, 0), (10, .aload_n 0, 1, 0), (11, .iload_n 1, 1, 0), (12, .iconst 1, 1, 0), (13, .iload_n 2, 1, 0), (14, .ishl, 1, 0), (15, .iconst (-1), 1, 0), (16, .ixor, 1, 0), (17, .invokevirtual 119, 3, 0), (20, .iconst 0, 1, 0), (21, .istore_n 3, 1, 0), (22, .iload_n 3, 1, 0), (23, .aload_n 0, 1, 0), (24, .invokevirtual 67, 3, 0), (27, .if_icmp .ge 26, 3, 53), (30, .aload_n 0, 1, 0), (31, .iload_n 1, 1, 0), (32, .iload_n 3, 1, 0), (33, .invokevirtual 89, 3, 0), (36, .ifCond .eq 11, 3, 47), (39, .aload_n 0, 1, 0), (40, .iload_n 3, 1, 0), (41, .iconst 1, 1, 0), (42, .iload_n 2, 1, 0), (43, .ishl, 1, 0), (44, .invokevirtual 119, 3, 0), (47, .iinc 3 1, 3, 0), (50, .goto (-28), 3, 22), (53, .iconst 1, 1, 0), (54, .ireturn, 1, 0)]
abbrev k_X8_sets : Nat := 23
def il_X8_first : List (Nat × x_I) := [(0, .iconst 0, 1, 0), (1, .istore_n 2, 1, 0), (2, .iload_n 2, 1, 0), (3, .iload_n 1, 1, 0), (4, .if_icmp .ge 16, 3, 20), (7, .aload_n 0, 1, 0), (8, .getfield 36, 3, 0), (11, .iload_n 2, 1, 0), (12, .iload_n 2, 1, 0), (13, .iastore, 1, 0), (14, .iinc 2 1, 3, 0), (17, .goto (-15), 3, 2), (20, .return_, 1, 0)]
abbrev k_X8_first : Nat := 24
def il_X8_next : List (Nat × x_I) := [(0, .iload_n 1, 1, 0), (1, .iconst 1, 1, 0), (2, .isub, 1, 0), (3, .istore_n 2, 1, 0), (4, .iload_n 2, 1, 0), (5, .ifCond .lt 26, 3, 31), (8, .aload_n 0, 1, 0), (9, .getfield 36, 3, 0), (12, .iload_n 2, 1, 0), (13, .iaload, 1, 0), (14, .aload_n 0, 1, 0), (15, .getfield 122, 3, 0), (18, .iload_n 1, 1, 0), (19, .isub, 1, 0), (20, .iload_n 2, 1, 0), (21, .iadd, 1, 0), (22, .if_icmp .ne 9, 3, 31), (25, .iinc 2 (-1), 3, 0), (28, .goto (-24), 3, 4), (31, .iload_n 2, 1, 0), (32, .ifCond .ge 5, 3, 37), (35, .iconst 0, 1, 0), (36, .ireturn, 1, 0), (37, .aload_n 0, 1, 0), (38, .getfield 36, 3, 0), (41, .iload_n 2, 1, 0), (42, .dup2, 1, 0), (43, .iaload, 1, 0), (44, .iconst 1, 1, 0), (45, .iadd, 1, 0), (46, .iastore, 1, 0), (47, .iload_n 2, 1, 0), (48, .iconst 1, 1, 0), (49, .iadd, 1, 0), (50, .istore_n 3, 1, 0), (51, .iload_n 3, 1, 0), (52, .iload_n 1, 1, 0), (53, .if_icmp .ge 25, 3, 78), (56, .aload_n 0, 1, 0), (57, .getfield 36, 3, 0), (60, .iload_n 3, 1, 0), (61, .aload_n 0, 1, 0), (62, .getfield 36, 3, 0), (65, .iload_n 3, 1, 0), (66, .iconst 1, 1, 0), (67, .isub, 1, 0), (68, .iaload, 1, 0), (69, .iconst 1, 1, 0), (70, .iadd, 1, 0), (71, .iastore, 1, 0), (72, .iinc 3 1, 3, 0), (75, .goto (-24), 3, 51), (78, .iconst 1, 1, 0), (79, .ireturn, 1, 0)]
abbrev k_X8_next : Nat := 25
def il_X8_isPicked : List (Nat × x_I) := [(0, .iconst 0, 1, 0), (1, .istore_n 3, 1, 0), (2, .iload_n 3, 1, 0), (3, .iload_n 2, 1, 0), (4, .if_icmp .ge 26, 3, 30), (7, .aload_n 0, 1, 0), (8, .getfield 33, 3, 0), (11, .aload_n 0, 1, 0), (12, .getfield 36, 3, 0), (15, .iload_n 3, 1, 0), (16, .iaload, 1, 0), (17, .iaload, 1, 0), (18, .iload_n 1, 1, 0), (19, .if_icmp .ne 5, 3, 24), (22, .iconst 1, 1, 0), (23, .ireturn, 1, 0), (24, .iinc 3 1, 3, 0), (27, .goto (-25), 3, 2), (30, .iconst 0, 1, 0), (31, .ireturn, 1, 0)]
abbrev k_X8_isPicked : Nat := 26
def il_X8_last : List (Nat × x_I) := [(0, .iconst 0, 1, 0), (1, .istore_n 1, 1, 0), (2, .iload_n 1, 1, 0), (3, .aload_n 0, 1, 0), (4, .invokevirtual 67, 3, 0), (7, .if_icmp .ge 56, 3, 63), (10, .aload_n 0, 1, 0), (11, .getfield 13, 3, 0), (14, .iload_n 1, 1, 0), (15, .iaload, 1, 0), (16, .ifCond .ge 41, 3, 57), (19, .aload_n 0, 1, 0), (20, .getfield 7, 3, 0), (23, .iload_n 1, 1, 0), (24, .iaload, 1, 0), (25, .invokestatic 125, 3, 0), (28, .iconst 1, 1, 0), (29, .if_icmp .eq 6, 3, 35), (32, .goto 25, 3, 57), (35, .aload_n 0, 1, 0), (36, .getfield 27, 3, 0), (39, .iload_n 1, 1, 0), (40, .iconst 1, 1, 0), (41, .bastore, 1, 0), (42, .aload_n 0, 1, 0), (43, .iload_n 1, 1, 0), (44, .aload_n 0, 1, 0), (45, .getfield 7, 3, 0), (48, .iload_n 1, 1, 0), (49, .iaload, 1, 0), (50, .invokestatic 128, 3, 0), (53, .invokevirtual 131, 3, 0), (56, .ireturn, 1, 0), (57, .iinc 1 1, 3, 0), (60, .goto (-58), 3, 2), (63, .iconst 0, 1, 0), (64, .ireturn, 1, 0)]
abbrev k_X8_last : Nat := 27
def il_X8_lowest : List (Nat × x_I) := [(0, .iconst 0, 1, 0), (1, .istore_n 1, 1, 0), (2, .iload_n 0, 1, 0), (3, .iload_n 1, 1, 0), (4, .ishr, 1, 0), (5, .iconst 1, 1, 0), (6, .iand, 1, 0), (7, .ifCond .ne 9, 3, 16), (10, .iinc 1 1, 3, 0), (13, .goto (-11), 3, 2), (16, .iload_n 1, 1, 0), (17, .ireturn, 1, 0)]
abbrev k_X8_lowest : Nat := 28
def il_X8_only : List (Nat × x_I) := [(0, .iload_n 1, 1, 0), (1, .istore_n 2, 1, 0), (2, .iload_n 2, 1, 0), (3, .iload_n 1, 1, 0), (4, .aload_n 0, 1, 0), (5, .getfield 58, 3, 0), (8, .iadd, 1, 0), (9, .if_icmp .ge 110, 3, 119), (12, .iconst 0, 1, 0), (13, .istore_n 3, 1, 0), (14, .iload_n 3, 1, 0), (15, .aload_n 0, 1, 0), (16, .getfield 58, 3, 0), (19, .if_icmp .ge 94, 3, 113), (22, .aload_n 0, 1, 0), (23, .iload_n 2, 1, 0), (24, .iload_n 3, 1, 0), (25, .invokevirtual 86, 3, 0), (28, .istore 4, 2, 0), (30, .iload 4, 2, 0), (32, .invokestatic 125, 3, 0), (35, .iconst 1, 1, 0), (36, .if_icmp .ne 71, 3, 107), (39, .aload_n 0, 1, 0), (40, .getfield 13, 3, 0), (43, .aload_n 0, 1, 0), (44, .iload_n 2, 1, 0), (45, .iload 4, 2, 0), (47, .invokestatic 128, 3, 0), (50, .invokevirtual 78, 3, 0), (53, .iaload, 1, 0), (54, .ifCond .lt 6, 3, 60), (57, .goto 50, 3, 107), (60, .iconst 0, 1, 0), (61, .istore 5, 2, 0), (63, .iload 5, 2, 0), (65, .aload_n 0, 1, 0), (66, .getfield 58, 3, 0), (69, .if_icmp .ge 22, 3, 91), (72, .aload_n 0, 1, 0), (73, .getfield 27, 3, 0), (76, .aload_n 0, 1, 0), (77, .iload_n 2, 1, 0), (78, .iload 5, 2, 0), (80, .invokevirtual 78, 3, 0), (83, .iconst 1, 1, 0), (84, .bastore, 1, 0), (85, .iinc 5 1, 3, 0), (88, .goto (-25), 3, 63), (91, .aload_n 0, 1, 0), (92, .aload_n 0, 1, 0), (93, .iload_n 2, 1, 0), (94, .iload 4, 2, 0), (96, .invokestatic 128, 3, 0), (99, .invokevirtual 78, 3, 0), (102, .iload_n 3, 1, 0), (103, .invokevirtual 131, 3, 0), (106, .ireturn, 1, 0), (107, .iinc 3 1, 3, 0), (110, .goto (-96), 3, 14), (113, .iinc 2 1, 3, 0), (116, .goto (-114), 3, 2), (119, .iconst 0, 1, 0), (120, .ireturn, 1, 0)]
abbrev k_X8_only : Nat := 29
def il_X8_common : List (Nat × x_I) := [(0, .iload_n 3, 1, 0), (1, .aload_n 0, 1, 0), (2, .getfield 58, 3, 0), (5, .imul, 1, 0), (6, .istore 4, 2, 0), (8, .iload 4, 2, 0), (10, .iload_n 3, 1, 0), (11, .aload_n 0, 1, 0), (12, .getfield 58, 3, 0), (15, .imul, 1, 0), (16, .aload_n 0, 1, 0), (17, .getfield 58, 3, 0), (20, .iadd, 1, 0), (21, .if_icmp .ge 81, 3, 102), (24, .iconst 1, 1, 0), (25, .istore 5, 2, 0), (27, .iconst 0, 1, 0), (28, .istore 6, 2, 0), (30, .iload 6, 2, 0), (32, .aload_n 0, 1, 0), (33, .getfield 58, 3, 0), (36, .if_icmp .ge 52, 3, 88), (39, .iload 5, 2, 0), (41, .ifCond .eq 38, 3, 79), (44, .aload_n 0, 1, 0), (45, .aload_n 0, 1, 0), (46, .iload_n 1, 1, 0), (47, .iload 6, 2, 0), (49, .invokevirtual 78, 3, 0), (52, .iload_n 2, 1, 0), (53, .invokevirtual 82, 3, 0), (56, .ifCond .eq 19, 3, 75), (59, .aload_n 0, 1, 0), (60, .iload 4, 2, 0), (62, .aload_n 0, 1, 0), (63, .iload_n 1, 1, 0), (64, .iload 6, 2, 0), (66, .invokevirtual 78, 3, 0), (69, .invokevirtual 134, 3, 0), (72, .ifCond .eq 7, 3, 79), (75, .iconst 1, 1, 0), (76, .goto 4, 3, 80), (79, .iconst 0, 1, 0), (80, .istore 5, 2, 0), (82, .iinc 6 1, 3, 0), (85, .goto (-55), 3, 30), (88, .iload 5, 2, 0), (90, .ifCond .eq 6, 3, 96), (93, .iload 4, 2, 0), (95, .ireturn, 1, 0), (96, .iinc 4 1, 3, 0), (99, .goto (-91), 3, 8), (102, .iconst (-1), 1, 0), (103, .ireturn, 1, 0)]
abbrev k_X8_common : Nat := 30
def il_X8_crosses : List (Nat × x_I) := [(0, .aload_n 0, 1, 0), (1, .invokevirtual 137, 3, 0), (4, .iconst 0, 1, 0), (5, .istore 4, 2, 0), (7, .iload 4, 2, 0), (9, .aload_n 0, 1, 0), (10, .getfield 58, 3, 0), (13, .if_icmp .ge 66, 3, 79), (16, .aload_n 0, 1, 0), (17, .iload_n 1, 1, 0), (18, .aload_n 0, 1, 0), (19, .iload_n 2, 1, 0), (20, .iload 4, 2, 0), (22, .invokevirtual 78, 3, 0), (25, .invokevirtual 134, 3, 0), (28, .ifCond .ne 17, 3, 45), (31, .aload_n 0, 1, 0), (32, .aload_n 0, 1, 0), (33, .iload_n 2, 1, 0), (34, .iload 4, 2, 0), (36, .invokevirtual 78, 3, 0), (39, .iconst 1, 1, 0), (40, .iload_n 3, 1, 0), (41, .ishl, 1, 0), (42, .invokevirtual 119, 3, 0), (45, .aload_n 0, 1, 0), (46, .aload_n 0, 1, 0), (47, .iload_n 1, 1, 0), (48, .iload 4, 2, 0), (50, .invokevirtual 78, 3, 0), (53, .iload_n 3, 1, 0), (54, .invokevirtual 82, 3, 0), (57, .ifCond .eq 16, 3, 73), (60, .aload_n 0, 1, 0), (61, .getfield 27, 3, 0), (64, .aload_n 0, 1, 0), (65, .iload_n 1, 1, 0), (66, .iload 4, 2, 0), (68, .invokevirtual 78, 3, 0), (71, .iconst 1, 1, 0), (72, .bastore, 1, 0), (73, .iinc 4 1, 3, 0), (76, .goto (-69), 3, 7), (79, .aload_n 0, 1, 0), (80, .invokevirtual 140, 3, 0), (83, .ireturn, 1, 0)]
abbrev k_X8_crosses : Nat := 31
def il_X8_pointing : List (Nat × x_I) := [(0, .iconst 2, 1, 0), (1, .aload_n 0, 1, 0), (2, .getfield 58, 3, 0), (5, .imul, 1, 0), (6, .istore_n 1, 1, 0), (7, .iload_n 1, 1, 0), (8, .iconst 3, 1, 0), (9, .aload_n 0, 1, 0), (10, .getfield 58, 3, 0), (13, .imul, 1, 0), (14, .if_icmp .ge 81, 3, 95), (17, .iconst 0, 1, 0), (18, .istore_n 2, 1, 0), (19, .iload_n 2, 1, 0), (20, .aload_n 0, 1, 0), (21, .getfield 58, 3, 0), (24, .if_icmp .ge 65, 3, 89), (27, .aload_n 0, 1, 0), (28, .iload_n 1, 1, 0), (29, .iload_n 2, 1, 0), (30, .invokevirtual 86, 3, 0), (33, .invokestatic 125, 3, 0), (36, .iconst 2, 1, 0), (37, .if_icmp .ge 6, 3, 43), (40, .goto 43, 3, 83), (43, .aload_n 0, 1, 0), (44, .iload_n 1, 1, 0), (45, .iload_n 2, 1, 0), (46, .iconst 0, 1, 0), (47, .invokevirtual 144, 3, 0), (50, .istore_n 3, 1, 0), (51, .iload_n 3, 1, 0), (52, .ifCond .ge 13, 3, 65), (55, .aload_n 0, 1, 0), (56, .iload_n 1, 1, 0), (57, .iload_n 2, 1, 0), (58, .iconst 1, 1, 0), (59, .invokevirtual 144, 3, 0), (62, .goto 4, 3, 66), (65, .iload_n 3, 1, 0), (66, .istore_n 3, 1, 0), (67, .iload_n 3, 1, 0), (68, .ifCond .lt 15, 3, 83), (71, .aload_n 0, 1, 0), (72, .iload_n 1, 1, 0), (73, .iload_n 3, 1, 0), (74, .iload_n 2, 1, 0), (75, .invokevirtual 148, 3, 0), (78, .ifCond .eq 5, 3, 83), (81, .iconst 1, 1, 0), (82, .ireturn, 1, 0), (83, .iinc 2 1, 3, 0), (86, .goto (-67), 3, 19), (89, .iinc 1 1, 3, 0), (92, .goto (-85), 3, 7), (95, .iconst 0, 1, 0), (96, .ireturn, 1, 0)]
abbrev k_X8_pointing : Nat := 32
def il_X8_claiming : List (Nat × x_I) := [(0, .iconst 0, 1, 0), (1, .istore_n 1, 1, 0), (2, .iload_n 1, 1, 0), (3, .iconst 2, 1, 0), (4, .aload_n 0, 1, 0), (5, .getfield 58, 3, 0), (8, .imul, 1, 0), (9, .if_icmp .ge 65, 3, 74), (12, .iconst 0, 1, 0), (13, .istore_n 2, 1, 0), (14, .iload_n 2, 1, 0), (15, .aload_n 0, 1, 0), (16, .getfield 58, 3, 0), (19, .if_icmp .ge 49, 3, 68), (22, .aload_n 0, 1, 0), (23, .iload_n 1, 1, 0), (24, .iload_n 2, 1, 0), (25, .invokevirtual 86, 3, 0), (28, .invokestatic 125, 3, 0), (31, .iconst 2, 1, 0), (32, .if_icmp .ge 6, 3, 38), (35, .goto 27, 3, 62), (38, .aload_n 0, 1, 0), (39, .iload_n 1, 1, 0), (40, .iload_n 2, 1, 0), (41, .iconst 2, 1, 0), (42, .invokevirtual 144, 3, 0), (45, .istore_n 3, 1, 0), (46, .iload_n 3, 1, 0), (47, .ifCond .lt 15, 3, 62), (50, .aload_n 0, 1, 0), (51, .iload_n 1, 1, 0), (52, .iload_n 3, 1, 0), (53, .iload_n 2, 1, 0), (54, .invokevirtual 148, 3, 0), (57, .ifCond .eq 5, 3, 62), (60, .iconst 1, 1, 0), (61, .ireturn, 1, 0), (62, .iinc 2 1, 3, 0), (65, .goto (-51), 3, 14), (68, .iinc 1 1, 3, 0), (71, .goto (-69), 3, 2), (74, .iconst 0, 1, 0), (75, .ireturn, 1, 0)]
abbrev k_X8_claiming : Nat := 33
def il_X8_naked : List (Nat × x_I) := [(0, .iconst 0, 1, 0), (1, .istore_n 2, 1, 0), (2, .iload_n 2, 1, 0), (3, .iconst 3, 1, 0), (4, .aload_n 0, 1, 0), (5, .getfield 58, 3, 0), (8, .imul, 1, 0), (9, .if_icmp .ge 228, 3, 237), (12, .aload_n 0, 1, 0), (13, .iconst 0, 1, 0), (14, .putfield 122, 3, 0), (17, .iconst 0, 1, 0), (18, .istore_n 3, 1, 0), (19, .iload_n 3, 1, 0), (20, .aload_n 0, 1, 0), (21, .getfield 58, 3, 0), (24, .if_icmp .ge 51, 3, 75), (27, .aload_n 0, 1, 0), (28, .getfield 13, 3, 0), (31, .aload_n 0, 1, 0), (32, .iload_n 2, 1, 0), (33, .iload_n 3, 1, 0), (34, .invokevirtual 78, 3, 0), (37, .iaload, 1, 0), (38, .ifCond .lt 6, 3, 44), (41, .goto 28, 3, 69), (44, .aload_n 0, 1, 0), (45, .getfield 33, 3, 0), (48, .aload_n 0, 1, 0), (49, .getfield 122, 3, 0), (52, .aload_n 0, 1, 0), (53, .iload_n 2, 1, 0), (54, .iload_n 3, 1, 0), (55, .invokevirtual 78, 3, 0), (58, .iastore, 1, 0), (59, .aload_n 0, 1, 0), (60, .dup, 1, 0), (61, .getfield 122, 3, 0), (64, .iconst 1, 1, 0), (65, .iadd, 1, 0), (66, .putfield 122, 3, 0), (69, .iinc 3 1, 3, 0), (72, .goto (-53), 3, 19), (75, .aload_n 0, 1, 0), (76, .getfield 122, 3, 0), (79, .iload_n 1, 1, 0), (80, .if_icmp .lt 7, 3, 87), (83, .iconst 1, 1, 0), (84, .goto 4, 3, 88), (87, .iconst 0, 1, 0), (88, .istore_n 3, 1, 0), (89, .aload_n 0, 1, 0), (90, .iload_n 1, 1, 0), (91, .invokevirtual 152, 3, 0), (94, .iload_n 3, 1, 0), (95, .ifCond .eq 136, 3, 231), (98, .aload_n 0, 1, 0), (99, .invokevirtual 137, 3, 0), (102, .iconst 0, 1, 0), (103, .istore 4, 2, 0), (105, .iconst 0, 1, 0), (106, .istore 5, 2, 0), (108, .iload 5, 2, 0), (110, .iload_n 1, 1, 0), (111, .if_icmp .ge 31, 3, 142), (114, .iload 4, 2, 0), (116, .aload_n 0, 1, 0), (117, .getfield 7, 3, 0), (120, .aload_n 0, 1, 0), (121, .getfield 33, 3, 0), (124, .aload_n 0, 1, 0), (125, .getfield 36, 3, 0), (128, .iload 5, 2, 0), (130, .iaload, 1, 0), (131, .iaload, 1, 0), (132, .iaload, 1, 0), (133, .ior, 1, 0), (134, .istore 4, 2, 0), (136, .iinc 5 1, 3, 0), (139, .goto (-31), 3, 108), (142, .iconst 0, 1, 0), (143, .istore 5, 2, 0), (145, .iload 5, 2, 0), (147, .aload_n 0, 1, 0), (148, .getfield 58, 3, 0), (151, .if_icmp .ge 62, 3, 213), (154, .iload 4, 2, 0), (156, .invokestatic 125, 3, 0), (159, .iload_n 1, 1, 0), (160, .if_icmp .ne 53, 3, 213), (163, .aload_n 0, 1, 0), (164, .aload_n 0, 1, 0), (165, .iload_n 2, 1, 0), (166, .iload 5, 2, 0), (168, .invokevirtual 78, 3, 0), (171, .iload_n 1, 1, 0), (172, .invokevirtual 156, 3, 0), (175, .ifCond .eq 19, 3, 194), (178, .aload_n 0, 1, 0), (179, .getfield 27, 3, 0), (182, .aload_n 0, 1, 0), (183, .iload_n 2, 1, 0), (184, .iload 5, 2, 0), (186, .invokevirtual 78, 3, 0), (189, .iconst 1, 1, 0), (190, .bastore, 1, 0), (191, .goto 16, 3, 207), (194, .aload_n 0, 1, 0), (195, .aload_n 0, 1, 0), (196, .iload_n 2, 1, 0), (197, .iload 5, 2, 0), (199, .invokevirtual 78, 3, 0), (202, .iload 4, 2, 0), (204, .invokevirtual 119, 3, 0), (207, .iinc 5 1, 3, 0), (210, .goto (-65), 3, 145), (213, .aload_n 0, 1, 0), (214, .invokevirtual 140, 3, 0), (217, .ifCond .eq 5, 3, 222), (220, .iconst 1, 1, 0), (221, .ireturn, 1, 0), (222, .aload_n 0, 1, 0), (223, .iload_n 1, 1, 0), (224, .invokevirtual 159, 3, 0), (227, .istore_n 3, 1, 0), (228, .goto (-134), 3, 94), (231, .iinc 2 1, 3, 0), (234, .goto (-232), 3, 2), (237, .iconst 0, 1, 0), (238, .ireturn, 1, 0)]
abbrev k_X8_naked : Nat := 34
def il_X8_isOpenIn : List (Nat × x_I) := [(0, .iconst 0, 1, 0), (1, .istore_n 3, 1, 0), (2, .iload_n 3, 1, 0), (3, .aload_n 0, 1, 0), (4, .getfield 58, 3, 0), (7, .if_icmp .ge 26, 3, 33), (10, .aload_n 0, 1, 0), (11, .getfield 13, 3, 0), (14, .aload_n 0, 1, 0), (15, .iload_n 1, 1, 0), (16, .iload_n 3, 1, 0), (17, .invokevirtual 78, 3, 0), (20, .iaload, 1, 0), (21, .iload_n 2, 1, 0), (22, .if_icmp .ne 5, 3, 27), (25, .iconst 0, 1, 0), (26, .ireturn, 1, 0), (27, .iinc 3 1, 3, 0), (30, .goto (-28), 3, 2), (33, .iconst 1, 1, 0), (34, .ireturn, 1, 0)]
abbrev k_X8_isOpenIn : Nat := 35
def il_X8_hidden : List (Nat × x_I) := [(0, .iconst 0, 1, 0), (1, .istore_n 2, 1, 0), (2, .iload_n 2, 1, 0), (3, .iconst 3, 1, 0), (4, .aload_n 0, 1, 0), (5, .getfield 58, 3, 0), (8, .imul, 1, 0), (9, .if_icmp .ge 237, 3, 246), (12, .aload_n 0, 1, 0), (13, .iconst 0, 1, 0), (14, .putfield 122, 3, 0), (17, .iconst 0, 1, 0), (18, .istore_n 3, 1, 0), (19, .iload_n 3, 1, 0), (20, .aload_n 0, 1, 0), (21, .getfield 58, 3, 0), (24, .if_icmp .ge 41, 3, 65), (27, .aload_n 0, 1, 0), (28, .iload_n 2, 1, 0), (29, .iload_n 3, 1, 0), (30, .invokevirtual 162, 3, 0), (33, .ifCond .ne 6, 3, 39), (36, .goto 23, 3, 59), (39, .aload_n 0, 1, 0), (40, .getfield 33, 3, 0), (43, .aload_n 0, 1, 0), (44, .getfield 122, 3, 0), (47, .iload_n 3, 1, 0), (48, .iastore, 1, 0), (49, .aload_n 0, 1, 0), (50, .dup, 1, 0), (51, .getfield 122, 3, 0), (54, .iconst 1, 1, 0), (55, .iadd, 1, 0), (56, .putfield 122, 3, 0), (59, .iinc 3 1, 3, 0), (62, .goto (-43), 3, 19), (65, .aload_n 0, 1, 0), (66, .getfield 122, 3, 0), (69, .iload_n 1, 1, 0), (70, .if_icmp .lt 7, 3, 77), (73, .iconst 1, 1, 0), (74, .goto 4, 3, 78), (77, .iconst 0, 1, 0), (78, .istore_n 3, 1, 0), (79, .aload_n 0, 1, 0), (80, .iload_n 1, 1, 0), (81, .invokevirtual 152, 3, 0), (84, .iload_n 3, 1, 0), (85, .ifCond .eq 155, 3, 240), (88, .aload_n 0, 1, 0), (89, .invokevirtual 137, 3, 0), (92, .iconst 0, 1, 0), (93, .istore 4, 2, 0), (95, .iconst 0, 1, 0), (96, .istore 5, 2, 0), (98, .iconst 0, 1, 0), (99, .istore 6, 2, 0), (101, .iload 6, 2, 0), (103, .iload_n 1, 1, 0), (104, .if_icmp .ge 50, 3, 154), (107, .iload 4, 2, 0), (109, .aload_n 0, 1, 0), (110, .iload_n 2, 1, 0), (111, .aload_n 0, 1, 0), (112, .getfield 33, 3, 0), (115, .aload_n 0, 1, 0), (116, .getfield 36, 3, 0), (119, .iload 6, 2, 0), (121, .iaload, 1, 0), (122, .iaload, 1, 0), (123, .invokevirtual 86, 3, 0), (126, .ior, 1, 0), (127, .istore 4, 2, 0), (129, .iload 5, 2, 0), (131, .iconst 1, 1, 0), (132, .aload_n 0, 1, 0), (133, .getfield 33, 3, 0), (136, .aload_n 0, 1, 0), (137, .getfield 36, 3, 0), (140, .iload 6, 2, 0), (142, .iaload, 1, 0), (143, .iaload, 1, 0), (144, .ishl, 1, 0), (145, .ior, 1, 0), (146, .istore 5, 2, 0), (148, .iinc 6 1, 3, 0), (151, .goto (-50), 3, 101), (154, .iconst 0, 1, 0), (155, .istore 6, 2, 0), (157, .iload 6, 2, 0), (159, .aload_n 0, 1, 0), (160, .getfield 58, 3, 0), (163, .if_icmp .ge 59, 3, 222), (166, .iload 4, 2, 0), (168, .invokestatic 125, 3, 0), (171, .iload_n 1, 1, 0), (172, .if_icmp .ne 50, 3, 222), (175, .iload 4, 2, 0), (177, .iload 6, 2, 0), (179, .ishr, 1, 0), (180, .iconst 1, 1, 0), (181, .iand, 1, 0), (182, .ifCond .ne 6, 3, 188), (185, .goto 31, 3, 216), (188, .aload_n 0, 1, 0), (189, .getfield 27, 3, 0), (192, .aload_n 0, 1, 0), (193, .iload_n 2, 1, 0), (194, .iload 6, 2, 0), (196, .invokevirtual 78, 3, 0), (199, .iconst 1, 1, 0), (200, .bastore, 1, 0), (201, .aload_n 0, 1, 0), (202, .aload_n 0, 1, 0), (203, .iload_n 2, 1, 0), (204, .iload 6, 2, 0), (206, .invokevirtual 78, 3, 0), (209, .iload 5, 2, 0), (211, .iconst (-1), 1, 0), (212, .ixor, 1, 0), (213, .invokevirtual 119, 3, 0), (216, .iinc 6 1, 3, 0), (219, .goto (-62), 3, 157), (222, .aload_n 0, 1, 0), (223, .invokevirtual 140, 3, 0), (226, .ifCond .eq 5, 3, 231), (229, .iconst 1, 1, 0), (230, .ireturn, 1, 0), (231, .aload_n 0, 1, 0), (232, .iload_n 1, 1, 0), (233, .invokevirtual 159, 3, 0), (236, .istore_n 3, 1, 0), (237, .goto (-153), 3, 84), (240, .iinc 2 1, 3, 0), (243, .goto (-241), 3, 2), (246, .iconst 0, 1, 0), (247, .ireturn, 1, 0)]
abbrev k_X8_hidden : Nat := 36
def il_X8_fish : List (Nat × x_I) := [(0, .iconst 0, 1, 0), (1, .istore_n 3, 1, 0), (2, .iload_n 3, 1, 0), (3, .aload_n 0, 1, 0), (4, .getfield 58, 3, 0), (7, .if_icmp .ge 278, 3, 285), (10, .aload_n 0, 1, 0), (11, .iconst 0, 1, 0), (12, .putfield 122, 3, 0), (15, .iload_n 2, 1, 0), (16, .istore 4, 2, 0), (18, .iload 4, 2, 0), (20, .iload_n 2, 1, 0), (21, .aload_n 0, 1, 0), (22, .getfield 58, 3, 0), (25, .iadd, 1, 0), (26, .if_icmp .ge 47, 3, 73), (29, .aload_n 0, 1, 0), (30, .iload 4, 2, 0), (32, .iload_n 3, 1, 0), (33, .invokevirtual 86, 3, 0), (36, .invokestatic 125, 3, 0), (39, .iconst 2, 1, 0), (40, .if_icmp .ge 6, 3, 46), (43, .goto 24, 3, 67), (46, .aload_n 0, 1, 0), (47, .getfield 33, 3, 0), (50, .aload_n 0, 1, 0), (51, .getfield 122, 3, 0), (54, .iload 4, 2, 0), (56, .iastore, 1, 0), (57, .aload_n 0, 1, 0), (58, .dup, 1, 0), (59, .getfield 122, 3, 0), (62, .iconst 1, 1, 0), (63, .iadd, 1, 0), (64, .putfield 122, 3, 0), (67, .iinc 4 1, 3, 0), (70, .goto (-52), 3, 18), (73, .aload_n 0, 1, 0), (74, .getfield 122, 3, 0), (77, .iload_n 1, 1, 0), (78, .if_icmp .lt 7, 3, 85), (81, .iconst 1, 1, 0), (82, .goto 4, 3, 86), (85, .iconst 0, 1, 0), (86, .istore 4, 2, 0), (88, .aload_n 0, 1, 0), (89, .iload_n 1, 1, 0), (90, .invokevirtual 152, 3, 0), (93, .iload 4, 2, 0), (95, .ifCond .eq 184, 3, 279), (98, .aload_n 0, 1, 0), (99, .invokevirtual 137, 3, 0), (102, .iconst 0, 1, 0), (103, .istore 5, 2, 0), (105, .iconst 0, 1, 0), (106, .istore 6, 2, 0), (108, .iload 6, 2, 0), (110, .iload_n 1, 1, 0), (111, .if_icmp .ge 31, 3, 142), (114, .iload 5, 2, 0), (116, .aload_n 0, 1, 0), (117, .aload_n 0, 1, 0), (118, .getfield 33, 3, 0), (121, .aload_n 0, 1, 0), (122, .getfield 36, 3, 0), (125, .iload 6, 2, 0), (127, .iaload, 1, 0), (128, .iaload, 1, 0), (129, .iload_n 3, 1, 0), (130, .invokevirtual 86, 3, 0), (133, .ior, 1, 0), (134, .istore 5, 2, 0), (136, .iinc 6 1, 3, 0), (139, .goto (-31), 3, 108), (142, .iload_n 2, 1, 0), (143, .istore 6, 2, 0), (145, .iload 6, 2, 0), (147, .iload_n 2, 1, 0), (148, .aload_n 0, 1, 0), (149, .getfield 58, 3, 0), (152, .iadd, 1, 0), (153, .if_icmp .ge 107, 3, 260), (156, .iload 5, 2, 0), (158, .invokestatic 125, 3, 0), (161, .iload_n 1, 1, 0), (162, .if_icmp .ne 98, 3, 260), (165, .iconst 0, 1, 0), (166, .istore 7, 2, 0), (168, .iload 7, 2, 0), (170, .aload_n 0, 1, 0), (171, .getfield 58, 3, 0), (174, .if_icmp .ge 80, 3, 254), (177, .iload 5, 2, 0), (179, .iload 7, 2, 0), (181, .ishr, 1, 0), (182, .iconst 1, 1, 0), (183, .iand, 1, 0), (184, .ifCond .eq 64, 3, 248), (187, .aload_n 0, 1, 0), (188, .aload_n 0, 1, 0), (189, .iload 6, 2, 0), (191, .iload 7, 2, 0), (193, .invokevirtual 78, 3, 0), (196, .iload_n 3, 1, 0), (197, .invokevirtual 82, 3, 0), (200, .ifCond .ne 6, 3, 206), (203, .goto 45, 3, 248), (206, .aload_n 0, 1, 0), (207, .iload 6, 2, 0), (209, .iload_n 1, 1, 0), (210, .invokevirtual 156, 3, 0), (213, .ifCond .eq 20, 3, 233), (216, .aload_n 0, 1, 0), (217, .getfield 27, 3, 0), (220, .aload_n 0, 1, 0), (221, .iload 6, 2, 0), (223, .iload 7, 2, 0), (225, .invokevirtual 78, 3, 0), (228, .iconst 1, 1, 0), (229, .bastore, 1, 0), (230, .goto 18, 3, 248), (233, .aload_n 0, 1, 0), (234, .aload_n 0, 1, 0), (235, .iload 6, 2, 0), (237, .iload 7, 2, 0), (239, .invokevirtual 78, 3, 0), (242, .iconst 1, 1, 0), (243, .iload_n 3, 1, 0), (244, .ishl, 1, 0), (245, .invokevirtual 119, 3, 0), (248, .iinc 7 1, 3, 0), (251, .goto (-83), 3, 168), (254, .iinc 6 1, 3, 0), (257, .goto (-112), 3, 145), (260, .aload_n 0, 1, 0), (261, .invokevirtual 140, 3, 0), (264, .ifCond .eq 5, 3, 269), (267, .iconst 1, 1, 0), (268, .ireturn, 1, 0), (269, .aload_n 0, 1, 0), (270, .iload_n 1, 1, 0), (271, .invokevirtual 159, 3, 0), (274, .istore 4, 2, 0), (276, .goto (-183), 3, 93), (279, .iinc 3 1, 3, 0), (282, .goto (-280), 3, 2), (285, .iconst 0, 1, 0), (286, .ireturn, 1, 0)]
abbrev k_X8_fish : Nat := 37
def il_X8_wing : List (Nat × x_I) := [(0, .iconst 0, 1, 0), (1, .istore_n 2, 1, 0), (2, .iload_n 2, 1, 0), (3, .aload_n 0, 1, 0), (4, .invokevirtual 67, 3, 0), (7, .if_icmp .ge 132, 3, 139), (10, .aload_n 0, 1, 0), (11, .getfield 7, 3, 0), (14, .iload_n 2, 1, 0), (15, .iaload, 1, 0), (16, .invokestatic 125, 3, 0), (19, .iload_n 1, 1, 0), (20, .ifCond .eq 7, 3, 27), (23, .iconst 3, 1, 0), (24, .goto 4, 3, 28), (27, .iconst 2, 1, 0), (28, .if_icmp .eq 6, 3, 34), (31, .goto 102, 3, 133), (34, .iconst 0, 1, 0), (35, .istore_n 3, 1, 0), (36, .iload_n 3, 1, 0), (37, .aload_n 0, 1, 0), (38, .invokevirtual 67, 3, 0), (41, .if_icmp .ge 92, 3, 133), (44, .aload_n 0, 1, 0), (45, .iload_n 2, 1, 0), (46, .iload_n 3, 1, 0), (47, .invokevirtual 89, 3, 0), (50, .ifCond .eq 77, 3, 127), (53, .aload_n 0, 1, 0), (54, .getfield 7, 3, 0), (57, .iload_n 3, 1, 0), (58, .iaload, 1, 0), (59, .invokestatic 125, 3, 0), (62, .iconst 2, 1, 0), (63, .if_icmp .eq 6, 3, 69), (66, .goto 61, 3, 127), (69, .iload_n 3, 1, 0), (70, .iconst 1, 1, 0), (71, .iadd, 1, 0), (72, .istore 4, 2, 0), (74, .iload 4, 2, 0), (76, .aload_n 0, 1, 0), (77, .invokevirtual 67, 3, 0), (80, .if_icmp .ge 47, 3, 127), (83, .aload_n 0, 1, 0), (84, .iload_n 2, 1, 0), (85, .iload 4, 2, 0), (87, .invokevirtual 89, 3, 0), (90, .ifCond .eq 31, 3, 121), (93, .aload_n 0, 1, 0), (94, .getfield 7, 3, 0), (97, .iload 4, 2, 0), (99, .iaload, 1, 0), (100, .invokestatic 125, 3, 0), (103, .iconst 2, 1, 0), (104, .if_icmp .ne 17, 3, 121), (107, .aload_n 0, 1, 0), (108, .iload_n 2, 1, 0), (109, .iload_n 3, 1, 0), (110, .iload 4, 2, 0), (112, .iload_n 1, 1, 0), (113, .invokevirtual 165, 3, 0), (116, .ifCond .eq 5, 3, 121), (119, .iconst 1, 1, 0), (120, .ireturn, 1, 0), (121, .iinc 4 1, 3, 0), (124, .goto (-50), 3, 74), (127, .iinc 3 1, 3, 0), (130, .goto (-94), 3, 36), (133, .iinc 2 1, 3, 0), (136, .goto (-134), 3, 2), (139, .iconst 0, 1, 0), (140, .ireturn, 1, 0)]
abbrev k_X8_wing : Nat := 38
def il_X8_isWing : List (Nat × x_I) := [(0, .aload_n 0, 1, 0), (1, .getfield 7, 3, 0), (4, .iload_n 2, 1, 0), (5, .iaload, 1, 0), (6, .aload_n 0, 1, 0), (7, .getfield 7, 3, 0), (10, .iload_n 3, 1, 0), (11, .iaload, 1, 0), (12, .iand, 1, 0), (13, .istore 5, 2, 0), (15, .aload_n 0, 1, 0), (16, .getfield 7, 3, 0), (19, .iload_n 2, 1, 0), (20, .iaload, 1, 0), (21, .aload_n 0, 1, 0), (22, .getfield 7, 3, 0), (25, .iload_n 3, 1, 0), (26, .iaload, 1, 0), (27, .ior, 1, 0), (28, .istore 6, 2, 0), (30, .iload 5, 2, 0), (32, .invokestatic 125, 3, 0), (35, .iconst 1, 1, 0), (36, .if_icmp .ne 29, 3, 65), (39, .aload_n 0, 1, 0), (40, .getfield 7, 3, 0), (43, .iload_n 1, 1, 0), (44, .iaload, 1, 0), (45, .iload 4, 2, 0), (47, .ifCond .eq 8, 3, 55), (50, .iload 6, 2, 0), (52, .goto 10, 3, 62), (55, .iload 6, 2, 0), (57, .iload 5, 2, 0), (59, .iconst (-1), 1, 0), (60, .ixor, 1, 0), (61, .iand, 1, 0), (62, .if_icmp .eq 5, 3, 67), (65, .iconst 0, 1, 0), (66, .ireturn, 1, 0), (67, .aload_n 0, 1, 0), (68, .invokevirtual 137, 3, 0), (71, .iconst 0, 1, 0), (72, .istore 7, 2, 0), (74, .iload 7, 2, 0), (76, .aload_n 0, 1, 0), (77, .invokevirtual 67, 3, 0), (80, .if_icmp .ge 52, 3, 132), (83, .aload_n 0, 1, 0), (84, .iload 7, 2, 0), (86, .iload_n 2, 1, 0), (87, .invokevirtual 89, 3, 0), (90, .ifCond .eq 36, 3, 126), (93, .aload_n 0, 1, 0), (94, .iload 7, 2, 0), (96, .iload_n 3, 1, 0), (97, .invokevirtual 89, 3, 0), (100, .ifCond .eq 26, 3, 126), (103, .iload 4, 2, 0), (105, .ifCond .eq 13, 3, 118), (108, .aload_n 0, 1, 0), (109, .iload 7, 2, 0), (111, .iload_n 1, 1, 0), (112, .invokevirtual 89, 3, 0), (115, .ifCond .eq 11, 3, 126), (118, .aload_n 0, 1, 0), (119, .iload 7, 2, 0), (121, .iload 5, 2, 0), (123, .invokevirtual 119, 3, 0), (126, .iinc 7 1, 3, 0), (129, .goto (-55), 3, 74), (132, .aload_n 0, 1, 0), (133, .getfield 27, 3, 0), (136, .iload_n 1, 1, 0), (137, .iconst 1, 1, 0), (138, .bastore, 1, 0), (139, .aload_n 0, 1, 0), (140, .getfield 27, 3, 0), (143, .iload_n 2, 1, 0), (144, .iconst 1, 1, 0), (145, .bastore, 1, 0), (146, .aload_n 0, 1, 0), (147, .getfield 27, 3, 0), (150, .iload_n 3, 1, 0), (151, .iconst 1, 1, 0), (152, .bastore, 1, 0), (153, .aload_n 0, 1, 0), (154, .invokevirtual 140, 3, 0), (157, .ireturn, 1, 0)]
abbrev k_X8_isWing : Nat := 39
def il_X8_isLinked : List (Nat × x_I) := [(0, .aload_n 0, 1, 0), (1, .iload_n 1, 1, 0), (2, .iload_n 3, 1, 0), (3, .invokevirtual 82, 3, 0), (6, .ifCond .eq 21, 3, 27), (9, .aload_n 0, 1, 0), (10, .iload_n 2, 1, 0), (11, .iload_n 3, 1, 0), (12, .invokevirtual 82, 3, 0), (15, .ifCond .eq 12, 3, 27), (18, .aload_n 0, 1, 0), (19, .iload_n 1, 1, 0), (20, .iload_n 2, 1, 0), (21, .invokevirtual 89, 3, 0), (24, .ifCond .ne 5, 3, 29), (27, .iconst 0, 1, 0), (28, .ireturn, 1, 0), (29, .iconst 0, 1, 0), (30, .istore 4, 2, 0), (32, .iload 4, 2, 0), (34, .iconst 3, 1, 0), (35, .aload_n 0, 1, 0), (36, .getfield 58, 3, 0), (39, .imul, 1, 0), (40, .if_icmp .ge 45, 3, 85), (43, .aload_n 0, 1, 0), (44, .iload 4, 2, 0), (46, .iload_n 1, 1, 0), (47, .invokevirtual 134, 3, 0), (50, .ifCond .eq 29, 3, 79), (53, .aload_n 0, 1, 0), (54, .iload 4, 2, 0), (56, .iload_n 2, 1, 0), (57, .invokevirtual 134, 3, 0), (60, .ifCond .eq 19, 3, 79), (63, .aload_n 0, 1, 0), (64, .iload 4, 2, 0), (66, .iload_n 3, 1, 0), (67, .invokevirtual 86, 3, 0), (70, .invokestatic 125, 3, 0), (73, .iconst 2, 1, 0), (74, .if_icmp .ne 5, 3, 79), (77, .iconst 1, 1, 0), (78, .ireturn, 1, 0), (79, .iinc 4 1, 3, 0), (82, .goto (-50), 3, 32), (85, .iconst 0, 1, 0), (86, .ireturn, 1, 0)]
abbrev k_X8_isLinked : Nat := 40
def il_X8_colour : List (Nat × x_I) := [(0, .iconst 0, 1, 0), (1, .istore_n 3, 1, 0), (2, .iload_n 3, 1, 0), (3, .bipush 81, 2, 0), (5, .if_icmp .ge 48, 3, 53), (8, .aload_n 0, 1, 0), (9, .getfield 49, 3, 0), (12, .iload_n 3, 1, 0), (13, .iload_n 3, 1, 0), (14, .iload_n 1, 1, 0), (15, .if_icmp .ne 7, 3, 22), (18, .iconst 1, 1, 0), (19, .goto 4, 3, 23), (22, .iconst 0, 1, 0), (23, .bastore, 1, 0), (24, .aload_n 0, 1, 0), (25, .getfield 52, 3, 0), (28, .iload_n 3, 1, 0), (29, .iload_n 3, 1, 0), (30, .iload_n 1, 1, 0), (31, .if_icmp .ne 7, 3, 38), (34, .iconst 1, 1, 0), (35, .goto 4, 3, 39), (38, .iconst 0, 1, 0), (39, .bastore, 1, 0), (40, .aload_n 0, 1, 0), (41, .getfield 55, 3, 0), (44, .iload_n 3, 1, 0), (45, .iconst 0, 1, 0), (46, .bastore, 1, 0), (47, .iinc 3 1, 3, 0), (50, .goto (-48), 3, 2), (53, .iconst 1, 1, 0), (54, .istore_n 3, 1, 0), (55, .iload_n 3, 1, 0), (56, .ifCond .eq 193, 3, 249), (59, .iconst 0, 1, 0), (60, .istore_n 3, 1, 0), (61, .iconst 0, 1, 0), (62, .istore 4, 2, 0), (64, .iload 4, 2, 0), (66, .aload_n 0, 1, 0), (67, .invokevirtual 67, 3, 0), (70, .if_icmp .ge 176, 3, 246), (73, .iconst 0, 1, 0), (74, .istore 5, 2, 0), (76, .iload 5, 2, 0), (78, .aload_n 0, 1, 0), (79, .invokevirtual 67, 3, 0), (82, .if_icmp .ge 158, 3, 240), (85, .aload_n 0, 1, 0), (86, .getfield 49, 3, 0), (89, .iload 4, 2, 0), (91, .baload, 1, 0), (92, .ifCond .eq 148, 3, 240), (95, .aload_n 0, 1, 0), (96, .iload 4, 2, 0), (98, .iload 5, 2, 0), (100, .iload_n 2, 1, 0), (101, .invokevirtual 169, 3, 0), (104, .ifCond .ne 6, 3, 110), (107, .goto 127, 3, 234), (110, .aload_n 0, 1, 0), (111, .getfield 55, 3, 0), (114, .iload 5, 2, 0), (116, .baload, 1, 0), (117, .ifCond .ne 13, 3, 130), (120, .aload_n 0, 1, 0), (121, .getfield 52, 3, 0), (124, .iload 4, 2, 0), (126, .baload, 1, 0), (127, .ifCond .eq 7, 3, 134), (130, .iconst 1, 1, 0), (131, .goto 4, 3, 135), (134, .iconst 0, 1, 0), (135, .istore 6, 2, 0), (137, .aload_n 0, 1, 0), (138, .getfield 52, 3, 0), (141, .iload 5, 2, 0), (143, .baload, 1, 0), (144, .ifCond .ne 13, 3, 157), (147, .aload_n 0, 1, 0), (148, .getfield 55, 3, 0), (151, .iload 4, 2, 0), (153, .baload, 1, 0), (154, .ifCond .eq 7, 3, 161), (157, .iconst 1, 1, 0), (158, .goto 4, 3, 162), (161, .iconst 0, 1, 0), (162, .istore 7, 2, 0), (164, .iload_n 3, 1, 0), (165, .ifCond .ne 37, 3, 202), (168, .aload_n 0, 1, 0), (169, .getfield 49, 3, 0), (172, .iload 5, 2, 0), (174, .baload, 1, 0), (175, .ifCond .eq 27, 3, 202), (178, .iload 6, 2, 0), (180, .aload_n 0, 1, 0), (181, .getfield 55, 3, 0), (184, .iload 5, 2, 0), (186, .baload, 1, 0), (187, .if_icmp .ne 15, 3, 202), (190, .iload 7, 2, 0), (192, .aload_n 0, 1, 0), (193, .getfield 52, 3, 0), (196, .iload 5, 2, 0), (198, .baload, 1, 0), (199, .if_icmp .eq 7, 3, 206), (202, .iconst 1, 1, 0), (203, .goto 4, 3, 207), (206, .iconst 0, 1, 0), (207, .istore_n 3, 1, 0), (208, .aload_n 0, 1, 0), (209, .getfield 49, 3, 0), (212, .iload 5, 2, 0), (214, .iconst 1, 1, 0), (215, .bastore, 1, 0), (216, .aload_n 0, 1, 0), (217, .getfield 55, 3, 0), (220, .iload 5, 2, 0), (222, .iload 6, 2, 0), (224, .bastore, 1, 0), (225, .aload_n 0, 1, 0), (226, .getfield 52, 3, 0), (229, .iload 5, 2, 0), (231, .iload 7, 2, 0), (233, .bastore, 1, 0), (234, .iinc 5 1, 3, 0), (237, .goto (-161), 3, 76), (240, .iinc 4 1, 3, 0), (243, .goto (-179), 3, 64), (246, .goto (-191), 3, 55), (249, .return_, 1, 0)]
abbrev k_X8_colour : Nat := 41
def il_X8_clash : List (Nat × x_I) := [(0, .iconst 0, 1, 0), (1, .istore_n 2, 1, 0), (2, .iload_n 2, 1, 0), (3, .aload_n 0, 1, 0), (4, .invokevirtual 67, 3, 0), (7, .if_icmp .ge 76, 3, 83), (10, .iconst 0, 1, 0), (11, .istore_n 3, 1, 0), (12, .iload_n 3, 1, 0), (13, .iload_n 2, 1, 0), (14, .if_icmp .ge 63, 3, 77), (17, .aload_n 0, 1, 0), (18, .iload_n 2, 1, 0), (19, .iload_n 3, 1, 0), (20, .invokevirtual 89, 3, 0), (23, .ifCond .eq 48, 3, 71), (26, .iload_n 1, 1, 0), (27, .ifCond .eq 24, 3, 51), (30, .aload_n 0, 1, 0), (31, .getfield 52, 3, 0), (34, .iload_n 2, 1, 0), (35, .baload, 1, 0), (36, .ifCond .eq 35, 3, 71), (39, .aload_n 0, 1, 0), (40, .getfield 52, 3, 0), (43, .iload_n 3, 1, 0), (44, .baload, 1, 0), (45, .ifCond .eq 26, 3, 71), (48, .goto 21, 3, 69), (51, .aload_n 0, 1, 0), (52, .getfield 55, 3, 0), (55, .iload_n 2, 1, 0), (56, .baload, 1, 0), (57, .ifCond .eq 14, 3, 71), (60, .aload_n 0, 1, 0), (61, .getfield 55, 3, 0), (64, .iload_n 3, 1, 0), (65, .baload, 1, 0), (66, .ifCond .eq 5, 3, 71), (69, .iconst 1, 1, 0), (70, .ireturn, 1, 0), (71, .iinc 3 1, 3, 0), (74, .goto (-62), 3, 12), (77, .iinc 2 1, 3, 0), (80, .goto (-78), 3, 2), (83, .iconst 0, 1, 0), (84, .ireturn, 1, 0)]
abbrev k_X8_clash : Nat := 42
def il_X8_seesOne : List (Nat × x_I) := [(0, .iconst 0, 1, 0), (1, .istore_n 3, 1, 0), (2, .iload_n 3, 1, 0), (3, .aload_n 0, 1, 0), (4, .invokevirtual 67, 3, 0), (7, .if_icmp .ge 45, 3, 52), (10, .aload_n 0, 1, 0), (11, .iload_n 1, 1, 0), (12, .iload_n 3, 1, 0), (13, .invokevirtual 89, 3, 0), (16, .ifCond .eq 30, 3, 46), (19, .iload_n 2, 1, 0), (20, .ifCond .eq 15, 3, 35), (23, .aload_n 0, 1, 0), (24, .getfield 52, 3, 0), (27, .iload_n 3, 1, 0), (28, .baload, 1, 0), (29, .ifCond .eq 17, 3, 46), (32, .goto 12, 3, 44), (35, .aload_n 0, 1, 0), (36, .getfield 55, 3, 0), (39, .iload_n 3, 1, 0), (40, .baload, 1, 0), (41, .ifCond .eq 5, 3, 46), (44, .iconst 1, 1, 0), (45, .ireturn, 1, 0), (46, .iinc 3 1, 3, 0), (49, .goto (-47), 3, 2), (52, .iconst 0, 1, 0), (53, .ireturn, 1, 0)]
abbrev k_X8_seesOne : Nat := 43
def il_X8_colours : List (Nat × x_I) := [(0, .iconst 0, 1, 0), (1, .istore_n 1, 1, 0), (2, .iload_n 1, 1, 0), (3, .aload_n 0, 1, 0), (4, .getfield 58, 3, 0), (7, .if_icmp .ge 278, 3, 285), (10, .iconst 0, 1, 0), (11, .istore_n 2, 1, 0), (12, .iload_n 2, 1, 0), (13, .aload_n 0, 1, 0), (14, .invokevirtual 67, 3, 0), (17, .if_icmp .ge 262, 3, 279), (20, .aload_n 0, 1, 0), (21, .iload_n 2, 1, 0), (22, .iload_n 1, 1, 0), (23, .invokevirtual 82, 3, 0), (26, .ifCond .ne 6, 3, 32), (29, .goto 244, 3, 273), (32, .aload_n 0, 1, 0), (33, .iload_n 2, 1, 0), (34, .iload_n 1, 1, 0), (35, .invokevirtual 172, 3, 0), (38, .iconst 0, 1, 0), (39, .istore_n 3, 1, 0), (40, .iconst 1, 1, 0), (41, .istore 4, 2, 0), (43, .iconst 0, 1, 0), (44, .istore 5, 2, 0), (46, .iload 5, 2, 0), (48, .aload_n 0, 1, 0), (49, .invokevirtual 67, 3, 0), (52, .if_icmp .ge 55, 3, 107), (55, .iload_n 3, 1, 0), (56, .aload_n 0, 1, 0), (57, .getfield 49, 3, 0), (60, .iload 5, 2, 0), (62, .baload, 1, 0), (63, .ifCond .eq 7, 3, 70), (66, .iconst 1, 1, 0), (67, .goto 4, 3, 71), (70, .iconst 0, 1, 0), (71, .iadd, 1, 0), (72, .istore_n 3, 1, 0), (73, .iload 4, 2, 0), (75, .ifCond .eq 23, 3, 98), (78, .aload_n 0, 1, 0), (79, .getfield 49, 3, 0), (82, .iload 5, 2, 0), (84, .baload, 1, 0), (85, .ifCond .eq 9, 3, 94), (88, .iload 5, 2, 0), (90, .iload_n 2, 1, 0), (91, .if_icmp .lt 7, 3, 98), (94, .iconst 1, 1, 0), (95, .goto 4, 3, 99), (98, .iconst 0, 1, 0), (99, .istore 4, 2, 0), (101, .iinc 5 1, 3, 0), (104, .goto (-58), 3, 46), (107, .iload_n 3, 1, 0), (108, .iconst 2, 1, 0), (109, .if_icmp .lt 164, 3, 273), (112, .iload 4, 2, 0), (114, .ifCond .ne 6, 3, 120), (117, .goto 156, 3, 273), (120, .aload_n 0, 1, 0), (121, .invokevirtual 137, 3, 0), (124, .aload_n 0, 1, 0), (125, .iconst 1, 1, 0), (126, .invokevirtual 175, 3, 0), (129, .istore 5, 2, 0), (131, .iload 5, 2, 0), (133, .ifCond .ne 15, 3, 148), (136, .aload_n 0, 1, 0), (137, .iconst 0, 1, 0), (138, .invokevirtual 175, 3, 0), (141, .ifCond .eq 7, 3, 148), (144, .iconst 1, 1, 0), (145, .goto 4, 3, 149), (148, .iconst 0, 1, 0), (149, .istore 6, 2, 0), (151, .iconst 0, 1, 0), (152, .istore 7, 2, 0), (154, .iload 7, 2, 0), (156, .aload_n 0, 1, 0), (157, .invokevirtual 67, 3, 0), (160, .if_icmp .ge 104, 3, 264), (163, .aload_n 0, 1, 0), (164, .getfield 27, 3, 0), (167, .iload 7, 2, 0), (169, .aload_n 0, 1, 0), (170, .getfield 49, 3, 0), (173, .iload 7, 2, 0), (175, .baload, 1, 0), (176, .bastore, 1, 0), (177, .iload 5, 2, 0), (179, .ifCond .eq 13, 3, 192), (182, .aload_n 0, 1, 0), (183, .getfield 52, 3, 0), (186, .iload 7, 2, 0), (188, .baload, 1, 0), (189, .goto 53, 3, 242), (192, .iload 6, 2, 0), (194, .ifCond .eq 13, 3, 207), (197, .aload_n 0, 1, 0), (198, .getfield 55, 3, 0), (201, .iload 7, 2, 0), (203, .baload, 1, 0), (204, .goto 38, 3, 242), (207, .aload_n 0, 1, 0), (208, .getfield 49, 3, 0), (211, .iload 7, 2, 0), (213, .baload, 1, 0), (214, .ifCond .ne 27, 3, 241), (217, .aload_n 0, 1, 0), (218, .iload 7, 2, 0), (220, .iconst 1, 1, 0), (221, .invokevirtual 179, 3, 0), (224, .ifCond .eq 17, 3, 241), (227, .aload_n 0, 1, 0), (228, .iload 7, 2, 0), (230, .iconst 0, 1, 0), (231, .invokevirtual 179, 3, 0), (234, .ifCond .eq 7, 3, 241), (237, .iconst 1, 1, 0), (238, .goto 4, 3, 242), (241, .iconst 0, 1, 0), (242, .istore 8, 2, 0), (244, .iload 8, 2, 0), (246, .ifCond .eq 12, 3, 258), (249, .aload_n 0, 1, 0), (250, .iload 7, 2, 0), (252, .iconst 1, 1, 0), (253, .iload_n 1, 1, 0), (254, .ishl, 1, 0), (255, .invokevirtual 119, 3, 0), (258, .iinc 7 1, 3, 0), (261, .goto (-107), 3, 154), (264, .aload_n 0, 1, 0), (265, .invokevirtual 140, 3, 0), (268, .ifCond .eq 5, 3, 273), (271, .iconst 1, 1, 0), (272, .ireturn, 1, 0), (273, .iinc 2 1, 3, 0), (276, .goto (-264), 3, 12), (279, .iinc 1 1, 3, 0), (282, .goto (-280), 3, 2), (285, .iconst 0, 1, 0), (286, .ireturn, 1, 0)]
abbrev k_X8_colours : Nat := 44
def il_X8_corners : List (Nat × x_I) := [(0, .aload_n 0, 1, 0), (1, .iload_n 1, 1, 0), (2, .invokevirtual 74, 3, 0), (5, .aload_n 0, 1, 0), (6, .iload_n 2, 1, 0), (7, .invokevirtual 74, 3, 0), (10, .if_icmp .ne 7, 3, 17), (13, .iconst 1, 1, 0), (14, .goto 4, 3, 18), (17, .iconst 0, 1, 0), (18, .aload_n 0, 1, 0), (19, .iload_n 1, 1, 0), (20, .invokevirtual 74, 3, 0), (23, .aload_n 0, 1, 0), (24, .iload_n 3, 1, 0), (25, .invokevirtual 74, 3, 0), (28, .if_icmp .ne 7, 3, 35), (31, .iconst 1, 1, 0), (32, .goto 4, 3, 36), (35, .iconst 0, 1, 0), (36, .iadd, 1, 0), (37, .istore 5, 2, 0), (39, .iload 5, 2, 0), (41, .iconst 1, 1, 0), (42, .if_icmp .ne 40, 3, 82), (45, .aload_n 0, 1, 0), (46, .getfield 13, 3, 0), (49, .iload_n 1, 1, 0), (50, .iaload, 1, 0), (51, .ifCond .ge 31, 3, 82), (54, .aload_n 0, 1, 0), (55, .getfield 13, 3, 0), (58, .iload_n 2, 1, 0), (59, .iaload, 1, 0), (60, .ifCond .ge 22, 3, 82), (63, .aload_n 0, 1, 0), (64, .getfield 13, 3, 0), (67, .iload_n 3, 1, 0), (68, .iaload, 1, 0), (69, .ifCond .ge 13, 3, 82), (72, .aload_n 0, 1, 0), (73, .getfield 13, 3, 0), (76, .iload 4, 2, 0), (78, .iaload, 1, 0), (79, .ifCond .lt 5, 3, 84), (82, .iconst 0, 1, 0), (83, .ireturn, 1, 0), (84, .aload_n 0, 1, 0), (85, .getfield 7, 3, 0), (88, .iload_n 1, 1, 0), (89, .iaload, 1, 0), (90, .aload_n 0, 1, 0), (91, .getfield 7, 3, 0), (94, .iload_n 2, 1, 0), (95, .iaload, 1, 0), (96, .iand, 1, 0), (97, .aload_n 0, 1, 0), (98, .getfield 7, 3, 0), (101, .iload_n 3, 1, 0), (102, .iaload, 1, 0), (103, .iand, 1, 0), (104, .aload_n 0, 1, 0), (105, .getfield 7, 3, 0), (108, .iload 4, 2, 0), (110, .iaload, 1, 0), (111, .iand, 1, 0), (112, .istore 6, 2, 0), (114, .iconst (-1), 1, 0), (115, .istore 7, 2, 0), (117, .iconst 0, 1, 0), (118, .istore 8, 2, 0), (120, .iconst 0, 1, 0), (121, .istore 9, 2, 0), (123, .iload 9, 2, 0), (125, .iconst 4, 1, 0), (126, .if_icmp .ge 64, 3, 190), (129, .iload 9, 2, 0), (131, .ifCond .ne 7, 3, 138), (134, .iload_n 1, 1, 0), (135, .goto 25, 3, 160), (138, .iload 9, 2, 0), (140, .iconst 1, 1, 0), (141, .if_icmp .ne 7, 3, 148), (144, .iload_n 2, 1, 0), (145, .goto 15, 3, 160), (148, .iload 9, 2, 0), (150, .iconst 2, 1, 0), (151, .if_icmp .ne 7, 3, 158), (154, .iload_n 3, 1, 0), (155, .goto 5, 3, 160), (158, .iload 4, 2, 0), (160, .istore 10, 2, 0), (162, .aload_n 0, 1, 0), (163, .getfield 7, 3, 0), (166, .iload 10, 2, 0), (168, .iaload, 1, 0), (169, .iload 6, 2, 0), (171, .if_icmp .ne 9, 3, 180), (174, .iinc 8 1, 3, 0), (177, .goto 7, 3, 184), (180, .iload 10, 2, 0), (182, .istore 7, 2, 0), (184, .iinc 9 1, 3, 0), (187, .goto (-64), 3, 123), (190, .iload 6, 2, 0), (192, .invokestatic 125, 3, 0), (195, .iconst 2, 1, 0), (196, .if_icmp .ne 9, 3, 205), (199, .iload 8, 2, 0), (201, .iconst 3, 1, 0), (202, .if_icmp .eq 5, 3, 207), (205, .iconst 0, 1, 0), (206, .ireturn, 1, 0), (207, .aload_n 0, 1, 0), (208, .invokevirtual 137, 3, 0), (211, .aload_n 0, 1, 0), (212, .iload 7, 2, 0), (214, .iload 6, 2, 0), (216, .invokevirtual 119, 3, 0), (219, .aload_n 0, 1, 0), (220, .getfield 27, 3, 0), (223, .iload_n 1, 1, 0), (224, .iconst 1, 1, 0), (225, .bastore, 1, 0), (226, .aload_n 0, 1, 0), (227, .getfield 27, 3, 0), (230, .iload_n 2, 1, 0), (231, .iconst 1, 1, 0), (232, .bastore, 1, 0), (233, .aload_n 0, 1, 0), (234, .getfield 27, 3, 0), (237, .iload_n 3, 1, 0), (238, .iconst 1, 1, 0), (239, .bastore, 1, 0), (240, .aload_n 0, 1, 0), (241, .getfield 27, 3, 0), (244, .iload 4, 2, 0), (246, .iconst 1, 1, 0), (247, .bastore, 1, 0), (248, .iconst 1, 1, 0), (249, .ireturn, 1, 0)]
abbrev k_X8_corners : Nat := 45
def il_X8_rectangle : List (Nat × x_I) := [(0, .iconst 0, 1, 0), (1, .istore_n 1, 1, 0), (2, .iload_n 1, 1, 0), (3, .aload_n 0, 1, 0), (4, .getfield 58, 3, 0), (7, .if_icmp .ge 106, 3, 113), (10, .iload_n 1, 1, 0), (11, .iconst 1, 1, 0), (12, .iadd, 1, 0), (13, .istore_n 2, 1, 0), (14, .iload_n 2, 1, 0), (15, .aload_n 0, 1, 0), (16, .getfield 58, 3, 0), (19, .if_icmp .ge 88, 3, 107), (22, .iconst 0, 1, 0), (23, .istore_n 3, 1, 0), (24, .iload_n 3, 1, 0), (25, .aload_n 0, 1, 0), (26, .getfield 58, 3, 0), (29, .if_icmp .ge 72, 3, 101), (32, .iload_n 3, 1, 0), (33, .iconst 1, 1, 0), (34, .iadd, 1, 0), (35, .istore 4, 2, 0), (37, .iload 4, 2, 0), (39, .aload_n 0, 1, 0), (40, .getfield 58, 3, 0), (43, .if_icmp .ge 52, 3, 95), (46, .aload_n 0, 1, 0), (47, .aload_n 0, 1, 0), (48, .getfield 58, 3, 0), (51, .iload_n 1, 1, 0), (52, .imul, 1, 0), (53, .iload_n 3, 1, 0), (54, .iadd, 1, 0), (55, .aload_n 0, 1, 0), (56, .getfield 58, 3, 0), (59, .iload_n 1, 1, 0), (60, .imul, 1, 0), (61, .iload 4, 2, 0), (63, .iadd, 1, 0), (64, .aload_n 0, 1, 0), (65, .getfield 58, 3, 0), (68, .iload_n 2, 1, 0), (69, .imul, 1, 0), (70, .iload_n 3, 1, 0), (71, .iadd, 1, 0), (72, .aload_n 0, 1, 0), (73, .getfield 58, 3, 0), (76, .iload_n 2, 1, 0), (77, .imul, 1, 0), (78, .iload 4, 2, 0), (80, .iadd, 1, 0), (81, .invokevirtual 182, 3, 0), (84, .ifCond .eq 5, 3, 89), (87, .iconst 1, 1, 0), (88, .ireturn, 1, 0), (89, .iinc 4 1, 3, 0), (92, .goto (-55), 3, 37), (95, .iinc 3 1, 3, 0), (98, .goto (-74), 3, 24), (101, .iinc 2 1, 3, 0), (104, .goto (-90), 3, 14), (107, .iinc 1 1, 3, 0), (110, .goto (-108), 3, 2), (113, .iconst 0, 1, 0), (114, .ireturn, 1, 0)]
abbrev k_X8_rectangle : Nat := 46
def il_X8_look : List (Nat × x_I) := [(0, .aload_n 0, 1, 0), (1, .invokevirtual 137, 3, 0), (4, .iload_n 1, 1, 0), (5, .tableswitch 209 0 17 #[87, 92, 103, 109, 118, 123, 128, 134, 140, 146, 152, 158, 165, 175, 182, 192, 198, 204], 87, 0), (92, .aload_n 0, 1, 0), (93, .invokevirtual 186, 3, 0), (96, .ireturn, 1, 0), (97, .aload_n 0, 1, 0), (98, .iconst 2, 1, 0), (99, .aload_n 0, 1, 0), (100, .getfield 58, 3, 0), (103, .imul, 1, 0), (104, .invokevirtual 189, 3, 0), (107, .ireturn, 1, 0), (108, .aload_n 0, 1, 0), (109, .iconst 0, 1, 0), (110, .invokevirtual 189, 3, 0), (113, .ireturn, 1, 0), (114, .aload_n 0, 1, 0), (115, .aload_n 0, 1, 0), (116, .getfield 58, 3, 0), (119, .invokevirtual 189, 3, 0), (122, .ireturn, 1, 0), (123, .aload_n 0, 1, 0), (124, .invokevirtual 192, 3, 0), (127, .ireturn, 1, 0), (128, .aload_n 0, 1, 0), (129, .invokevirtual 195, 3, 0), (132, .ireturn, 1, 0), (133, .aload_n 0, 1, 0), (134, .iconst 2, 1, 0), (135, .invokevirtual 198, 3, 0), (138, .ireturn, 1, 0), (139, .aload_n 0, 1, 0), (140, .iconst 3, 1, 0), (141, .invokevirtual 198, 3, 0), (144, .ireturn, 1, 0), (145, .aload_n 0, 1, 0), (146, .iconst 4, 1, 0), (147, .invokevirtual 198, 3, 0), (150, .ireturn, 1, 0), (151, .aload_n 0, 1, 0), (152, .iconst 2, 1, 0), (153, .invokevirtual 201, 3, 0), (156, .ireturn, 1, 0), (157, .aload_n 0, 1, 0), (158, .iconst 3, 1, 0), (159, .invokevirtual 201, 3, 0), (162, .ireturn, 1, 0), (163, .aload_n 0, 1, 0), (164, .iconst 2, 1, 0), (165, .iconst 0, 1, 0), (166, .invokevirtual 204, 3, 0), (169, .ireturn, 1, 0), (170, .aload_n 0, 1, 0), (171, .iconst 2, 1, 0), (172, .aload_n 0, 1, 0), (173, .getfield 58, 3, 0), (176, .invokevirtual 204, 3, 0), (179, .ireturn, 1, 0), (180, .aload_n 0, 1, 0), (181, .iconst 3, 1, 0), (182, .iconst 0, 1, 0), (183, .invokevirtual 204, 3, 0), (186, .ireturn, 1, 0), (187, .aload_n 0, 1, 0), (188, .iconst 3, 1, 0), (189, .aload_n 0, 1, 0), (190, .getfield 58, 3, 0), (193, .invokevirtual 204, 3, 0), (196, .ireturn, 1, 0), (197, .aload_n 0, 1, 0), (198, .iconst 0, 1, 0), (199, .invokevirtual 207, 3, 0), (202, .ireturn, 1, 0), (203, .aload_n 0, 1, 0), (204, .iconst 1, 1, 0), (205, .invokevirtual 207, 3, 0), (208, .ireturn, 1, 0), (209, .aload_n 0, 1, 0), (210, .invokevirtual 210, 3, 0), (213, .ireturn, 1, 0), (214, .aload_n 0, 1, 0), (215, .invokevirtual 213, 3, 0), (218, .ireturn, 1, 0)]
abbrev k_X8_look : Nat := 47
def il_X8_search : List (Nat × x_I) := [(0, .aload_n 0, 1, 0), (1, .iconst (-1), 1, 0), (2, .putfield 23, 3, 0), (5, .aload_n 0, 1, 0), (6, .invokevirtual 216, 3, 0), (9, .ifCond .eq 6, 3, 15), (12, .bipush (-2), 2, 0), (14, .ireturn, 1, 0), (15, .iconst 0, 1, 0), (16, .istore_n 1, 1, 0), (17, .iload_n 1, 1, 0), (18, .bipush 19, 2, 0), (20, .if_icmp .ge 38, 3, 58), (23, .aload_n 0, 1, 0), (24, .getfield 23, 3, 0), (27, .ifCond .ge 31, 3, 58), (30, .aload_n 0, 1, 0), (31, .getfield 16, 3, 0), (34, .iload_n 1, 1, 0), (35, .baload, 1, 0), (36, .ifCond .ne 16, 3, 52), (39, .aload_n 0, 1, 0), (40, .iload_n 1, 1, 0), (41, .invokevirtual 219, 3, 0), (44, .ifCond .eq 8, 3, 52), (47, .aload_n 0, 1, 0), (48, .iload_n 1, 1, 0), (49, .putfield 23, 3, 0), (52, .iinc 1 1, 3, 0), (55, .goto (-38), 3, 17), (58, .aload_n 0, 1, 0), (59, .getfield 23, 3, 0), (62, .ireturn, 1, 0)]
abbrev k_X8_search : Nat := 48
def il_X8_find : List (Nat × x_I) := [(0, .aload_n 0, 1, 0), (1, .iconst 0, 1, 0), (2, .putfield 71, 3, 0), (5, .aload_n 0, 1, 0), (6, .invokevirtual 222, 3, 0), (9, .ireturn, 1, 0)]
abbrev k_X8_find : Nat := 49
def il_X8_goMany : List (Nat × x_I) := [(0, .iconst 0, 1, 0), (1, .istore_n 1, 1, 0), (2, .iconst 0, 1, 0), (3, .istore_n 2, 1, 0), (4, .iload_n 2, 1, 0), (5, .bipush 81, 2, 0), (7, .if_icmp .ge 21, 3, 28), (10, .iload_n 1, 1, 0), (11, .aload_n 0, 1, 0), (12, .getfield 30, 3, 0), (15, .iload_n 2, 1, 0), (16, .iaload, 1, 0), (17, .invokestatic 125, 3, 0), (20, .iadd, 1, 0), (21, .istore_n 1, 1, 0), (22, .iinc 2 1, 3, 0), (25, .goto (-21), 3, 4), (28, .iload_n 1, 1, 0), (29, .ireturn, 1, 0)]
abbrev k_X8_goMany : Nat := 50
def il_X8_reasonMany : List (Nat × x_I) := [(0, .iconst 0, 1, 0), (1, .istore_n 1, 1, 0), (2, .iconst 0, 1, 0), (3, .istore_n 2, 1, 0), (4, .iload_n 2, 1, 0), (5, .bipush 81, 2, 0), (7, .if_icmp .ge 26, 3, 33), (10, .iload_n 1, 1, 0), (11, .aload_n 0, 1, 0), (12, .getfield 27, 3, 0), (15, .iload_n 2, 1, 0), (16, .baload, 1, 0), (17, .ifCond .eq 7, 3, 24), (20, .iconst 1, 1, 0), (21, .goto 4, 3, 25), (24, .iconst 0, 1, 0), (25, .iadd, 1, 0), (26, .istore_n 1, 1, 0), (27, .iinc 2 1, 3, 0), (30, .goto (-26), 3, 4), (33, .iload_n 1, 1, 0), (34, .ireturn, 1, 0)]
abbrev k_X8_reasonMany : Nat := 51
def il_X8_found : List (Nat × x_I) := [(0, .aload_n 0, 1, 0), (1, .iconst 0, 1, 0), (2, .putfield 71, 3, 0), (5, .aload_n 0, 1, 0), (6, .getfield 23, 3, 0), (9, .ifCond .ge 5, 3, 14), (12, .iconst (-1), 1, 0), (13, .ireturn, 1, 0), (14, .iload_n 1, 1, 0), (15, .tableswitch 58 0 4 #[33, 38, 43, 48, 53], 33, 0), (48, .aload_n 0, 1, 0), (49, .getfield 23, 3, 0), (52, .ireturn, 1, 0), (53, .aload_n 0, 1, 0), (54, .invokevirtual 225, 3, 0), (57, .ireturn, 1, 0), (58, .aload_n 0, 1, 0), (59, .invokevirtual 228, 3, 0), (62, .ireturn, 1, 0), (63, .aload_n 0, 1, 0), (64, .getfield 113, 3, 0), (67, .ireturn, 1, 0), (68, .aload_n 0, 1, 0), (69, .getfield 116, 3, 0), (72, .ireturn, 1, 0), (73, .iconst (-1), 1, 0), (74, .ireturn, 1, 0)]
abbrev k_X8_found : Nat := 52
def il_X8_reasonAt : List (Nat × x_I) := [(0, .iconst 0, 1, 0), (1, .istore_n 2, 1, 0), (2, .iconst 0, 1, 0), (3, .istore_n 3, 1, 0), (4, .iload_n 3, 1, 0), (5, .bipush 81, 2, 0), (7, .if_icmp .ge 31, 3, 38), (10, .aload_n 0, 1, 0), (11, .getfield 27, 3, 0), (14, .iload_n 3, 1, 0), (15, .baload, 1, 0), (16, .ifCond .ne 6, 3, 22), (19, .goto 13, 3, 32), (22, .iload_n 2, 1, 0), (23, .iload_n 1, 1, 0), (24, .if_icmp .ne 5, 3, 29), (27, .iload_n 3, 1, 0), (28, .ireturn, 1, 0), (29, .iinc 2 1, 3, 0), (32, .iinc 3 1, 3, 0), (35, .goto (-31), 3, 4), (38, .iconst (-1), 1, 0), (39, .ireturn, 1, 0)]
abbrev k_X8_reasonAt : Nat := 53
def il_X8_reason : List (Nat × x_I) := [(0, .aload_n 0, 1, 0), (1, .iconst 0, 1, 0), (2, .putfield 71, 3, 0), (5, .aload_n 0, 1, 0), (6, .getfield 23, 3, 0), (9, .ifCond .ge 7, 3, 16), (12, .iconst (-1), 1, 0), (13, .goto 8, 3, 21), (16, .aload_n 0, 1, 0), (17, .iload_n 1, 1, 0), (18, .invokevirtual 231, 3, 0), (21, .ireturn, 1, 0)]
abbrev k_X8_reason : Nat := 54
def il_X8_goes : List (Nat × x_I) := [(0, .aload_n 0, 1, 0), (1, .iconst 0, 1, 0), (2, .putfield 71, 3, 0), (5, .iconst 0, 1, 0), (6, .istore_n 2, 1, 0), (7, .iconst 0, 1, 0), (8, .istore_n 3, 1, 0), (9, .iload_n 3, 1, 0), (10, .aload_n 0, 1, 0), (11, .invokevirtual 67, 3, 0), (14, .if_icmp .ge 69, 3, 83), (17, .aload_n 0, 1, 0), (18, .getfield 23, 3, 0), (21, .ifCond .lt 62, 3, 83), (24, .iconst 0, 1, 0), (25, .istore 4, 2, 0), (27, .iload 4, 2, 0), (29, .aload_n 0, 1, 0), (30, .getfield 58, 3, 0), (33, .if_icmp .ge 44, 3, 77), (36, .aload_n 0, 1, 0), (37, .getfield 30, 3, 0), (40, .iload_n 3, 1, 0), (41, .iaload, 1, 0), (42, .iload 4, 2, 0), (44, .ishr, 1, 0), (45, .iconst 1, 1, 0), (46, .iand, 1, 0), (47, .ifCond .ne 6, 3, 53), (50, .goto 21, 3, 71), (53, .iload_n 2, 1, 0), (54, .iload_n 1, 1, 0), (55, .if_icmp .ne 13, 3, 68), (58, .aload_n 0, 1, 0), (59, .getfield 58, 3, 0), (62, .iload_n 3, 1, 0), (63, .imul, 1, 0), (64, .iload 4, 2, 0), (66, .iadd, 1, 0), (67, .ireturn, 1, 0), (68, .iinc 2 1, 3, 0), (71, .iinc 4 1, 3, 0), (74, .goto (-47), 3, 27), (77, .iinc 3 1, 3, 0), (80, .goto (-71), 3, 9), (83, .iconst (-1), 1, 0), (84, .ireturn, 1, 0)]
abbrev k_X8_goes : Nat := 55
def il_X8_act : List (Nat × x_I) := [(0, .iconst 0, 1, 0), (1, .istore_n 1, 1, 0), (2, .iload_n 1, 1, 0), (3, .bipush 81, 2, 0), (5, .if_icmp .ge 49, 3, 54), (8, .aload_n 0, 1, 0), (9, .getfield 40, 3, 0), (12, .bipush 81, 2, 0), (14, .aload_n 0, 1, 0), (15, .getfield 92, 3, 0), (18, .imul, 1, 0), (19, .iload_n 1, 1, 0), (20, .iadd, 1, 0), (21, .aload_n 0, 1, 0), (22, .getfield 7, 3, 0), (25, .iload_n 1, 1, 0), (26, .iaload, 1, 0), (27, .iastore, 1, 0), (28, .aload_n 0, 1, 0), (29, .getfield 43, 3, 0), (32, .bipush 81, 2, 0), (34, .aload_n 0, 1, 0), (35, .getfield 92, 3, 0), (38, .imul, 1, 0), (39, .iload_n 1, 1, 0), (40, .iadd, 1, 0), (41, .aload_n 0, 1, 0), (42, .getfield 13, 3, 0), (45, .iload_n 1, 1, 0), (46, .iaload, 1, 0), (47, .iastore, 1, 0), (48, .iinc 1 1, 3, 0), (51, .goto (-49), 3, 2), (54, .aload_n 0, 1, 0), (55, .getfield 46, 3, 0), (58, .aload_n 0, 1, 0), (59, .getfield 92, 3, 0), (62, .aload_n 0, 1, 0), (63, .getfield 23, 3, 0), (66, .iastore, 1, 0), (67, .aload_n 0, 1, 0), (68, .dup, 1, 0), (69, .getfield 92, 3, 0), (72, .iconst 1, 1, 0), (73, .iadd, 1, 0), (74, .putfield 92, 3, 0), (77, .aload_n 0, 1, 0), (78, .getfield 20, 3, 0), (81, .aload_n 0, 1, 0), (82, .getfield 23, 3, 0), (85, .dup2, 1, 0), (86, .iaload, 1, 0), (87, .iconst 1, 1, 0), (88, .iadd, 1, 0), (89, .iastore, 1, 0), (90, .aload_n 0, 1, 0), (91, .getfield 113, 3, 0), (94, .ifCond .lt 15, 3, 109), (97, .aload_n 0, 1, 0), (98, .aload_n 0, 1, 0), (99, .getfield 113, 3, 0), (102, .aload_n 0, 1, 0), (103, .getfield 116, 3, 0), (106, .invokevirtual 106, 3, 0), (109, .iconst 0, 1, 0), (110, .istore_n 1, 1, 0), (111, .iload_n 1, 1, 0), (112, .bipush 81, 2, 0), (114, .if_icmp .ge 30, 3, 144), (117, .aload_n 0, 1, 0), (118, .getfield 7, 3, 0), (121, .iload_n 1, 1, 0), (122, .aload_n 0, 1, 0), (123, .getfield 7, 3, 0), (126, .iload_n 1, 1, 0), (127, .iaload, 1, 0), (128, .aload_n 0, 1, 0), (129, .getfield 30, 3, 0), (132, .iload_n 1, 1, 0), (133, .iaload, 1, 0), (134, .iconst (-1), 1, 0), (135, .ixor, 1, 0), (136, .iand, 1, 0), (137, .iastore, 1, 0), (138, .iinc 1 1, 3, 0), (141, .goto (-30), 3, 111), (144, .aload_n 0, 1, 0), (145, .iconst (-1), 1, 0), (146, .putfield 23, 3, 0), (149, .return_, 1, 0)]
abbrev k_X8_act : Nat := 56
def il_X8_apply : List (Nat × x_I) := [(0, .aload_n 0, 1, 0), (1, .iconst 0, 1, 0), (2, .putfield 71, 3, 0), (5, .aload_n 0, 1, 0), (6, .getfield 23, 3, 0), (9, .ifCond .ge 5, 3, 14), (12, .iconst 0, 1, 0), (13, .ireturn, 1, 0), (14, .aload_n 0, 1, 0), (15, .invokevirtual 234, 3, 0), (18, .iconst 1, 1, 0), (19, .ireturn, 1, 0)]
abbrev k_X8_apply : Nat := 57
def il_X8_solve : List (Nat × x_I) := [(0, .aload_n 0, 1, 0), (1, .iconst 0, 1, 0), (2, .putfield 71, 3, 0), (5, .iload_n 1, 1, 0), (6, .ifCond .ge 5, 3, 11), (9, .iconst (-1), 1, 0), (10, .ireturn, 1, 0), (11, .iconst 0, 1, 0), (12, .istore_n 2, 1, 0), (13, .iload_n 2, 1, 0), (14, .iload_n 1, 1, 0), (15, .if_icmp .ge 20, 3, 35), (18, .aload_n 0, 1, 0), (19, .invokevirtual 222, 3, 0), (22, .ifCond .lt 13, 3, 35), (25, .aload_n 0, 1, 0), (26, .invokevirtual 234, 3, 0), (29, .iinc 2 1, 3, 0), (32, .goto (-19), 3, 13), (35, .aload_n 0, 1, 0), (36, .iconst (-1), 1, 0), (37, .putfield 23, 3, 0), (40, .iload_n 2, 1, 0), (41, .ireturn, 1, 0)]
abbrev k_X8_solve : Nat := 58
def il_X8_undo : List (Nat × x_I) := [(0, .aload_n 0, 1, 0), (1, .iconst 0, 1, 0), (2, .putfield 71, 3, 0), (5, .aload_n 0, 1, 0), (6, .getfield 92, 3, 0), (9, .ifCond .ne 5, 3, 14), (12, .iconst (-1), 1, 0), (13, .ireturn, 1, 0), (14, .aload_n 0, 1, 0), (15, .dup, 1, 0), (16, .getfield 92, 3, 0), (19, .iconst 1, 1, 0), (20, .isub, 1, 0), (21, .putfield 92, 3, 0), (24, .iconst 0, 1, 0), (25, .istore_n 1, 1, 0), (26, .iload_n 1, 1, 0), (27, .bipush 81, 2, 0), (29, .if_icmp .ge 49, 3, 78), (32, .aload_n 0, 1, 0), (33, .getfield 7, 3, 0), (36, .iload_n 1, 1, 0), (37, .aload_n 0, 1, 0), (38, .getfield 40, 3, 0), (41, .bipush 81, 2, 0), (43, .aload_n 0, 1, 0), (44, .getfield 92, 3, 0), (47, .imul, 1, 0), (48, .iload_n 1, 1, 0), (49, .iadd, 1, 0), (50, .iaload, 1, 0), (51, .iastore, 1, 0), (52, .aload_n 0, 1, 0), (53, .getfield 13, 3, 0), (56, .iload_n 1, 1, 0), (57, .aload_n 0, 1, 0), (58, .getfield 43, 3, 0), (61, .bipush 81, 2, 0), (63, .aload_n 0, 1, 0), (64, .getfield 92, 3, 0), (67, .imul, 1, 0), (68, .iload_n 1, 1, 0), (69, .iadd, 1, 0), (70, .iaload, 1, 0), (71, .iastore, 1, 0), (72, .iinc 1 1, 3, 0), (75, .goto (-49), 3, 26), (78, .aload_n 0, 1, 0), (79, .getfield 20, 3, 0), (82, .aload_n 0, 1, 0), (83, .getfield 46, 3, 0), (86, .aload_n 0, 1, 0), (87, .getfield 92, 3, 0), (90, .iaload, 1, 0), (91, .dup2, 1, 0), (92, .iaload, 1, 0), (93, .iconst 1, 1, 0), (94, .isub, 1, 0), (95, .iastore, 1, 0), (96, .aload_n 0, 1, 0), (97, .iconst (-1), 1, 0), (98, .putfield 23, 3, 0), (101, .aload_n 0, 1, 0), (102, .getfield 46, 3, 0), (105, .aload_n 0, 1, 0), (106, .getfield 92, 3, 0), (109, .iaload, 1, 0), (110, .ireturn, 1, 0)]
abbrev k_X8_undo : Nat := 59
def il_X8_done : List (Nat × x_I) := [(0, .aload_n 0, 1, 0), (1, .iconst 1, 1, 0), (2, .iload_n 1, 1, 0), (3, .ifCond .lt 9, 3, 12), (6, .iload_n 1, 1, 0), (7, .bipush 19, 2, 0), (9, .if_icmp .lt 7, 3, 16), (12, .iconst 1, 1, 0), (13, .goto 4, 3, 17), (16, .iconst 0, 1, 0), (17, .invokevirtual 99, 3, 0), (20, .ifCond .eq 7, 3, 27), (23, .iconst 0, 1, 0), (24, .goto 9, 3, 33), (27, .aload_n 0, 1, 0), (28, .getfield 20, 3, 0), (31, .iload_n 1, 1, 0), (32, .iaload, 1, 0), (33, .ireturn, 1, 0)]
abbrev k_X8_done : Nat := 60
def il_X8_candidates : List (Nat × x_I) := [(0, .aload_n 0, 1, 0), (1, .iconst 1, 1, 0), (2, .aload_n 0, 1, 0), (3, .iload_n 1, 1, 0), (4, .invokevirtual 95, 3, 0), (7, .ifCond .ne 7, 3, 14), (10, .iconst 1, 1, 0), (11, .goto 4, 3, 15), (14, .iconst 0, 1, 0), (15, .invokevirtual 99, 3, 0), (18, .ifCond .eq 7, 3, 25), (21, .iconst 0, 1, 0), (22, .goto 9, 3, 31), (25, .aload_n 0, 1, 0), (26, .getfield 7, 3, 0), (29, .iload_n 1, 1, 0), (30, .iaload, 1, 0), (31, .ireturn, 1, 0)]
abbrev k_X8_candidates : Nat := 61
def il_X8_value : List (Nat × x_I) := [(0, .aload_n 0, 1, 0), (1, .iconst 1, 1, 0), (2, .aload_n 0, 1, 0), (3, .iload_n 1, 1, 0), (4, .invokevirtual 95, 3, 0), (7, .ifCond .ne 7, 3, 14), (10, .iconst 1, 1, 0), (11, .goto 4, 3, 15), (14, .iconst 0, 1, 0), (15, .invokevirtual 99, 3, 0), (18, .ifCond .eq 7, 3, 25), (21, .iconst 0, 1, 0), (22, .goto 9, 3, 31), (25, .aload_n 0, 1, 0), (26, .getfield 13, 3, 0), (29, .iload_n 1, 1, 0), (30, .iaload, 1, 0), (31, .ireturn, 1, 0)]
abbrev k_X8_value : Nat := 62
def il_X8_state : List (Nat × x_I) := [(0, .aload_n 0, 1, 0), (1, .iconst 0, 1, 0), (2, .putfield 71, 3, 0), (5, .iload_n 1, 1, 0), (6, .iconst 2, 1, 0), (7, .if_icmp .ne 16, 3, 23), (10, .aload_n 0, 1, 0), (11, .invokevirtual 216, 3, 0), (14, .ifCond .eq 7, 3, 21), (17, .iconst 1, 1, 0), (18, .goto 4, 3, 22), (21, .iconst 0, 1, 0), (22, .ireturn, 1, 0), (23, .iload_n 1, 1, 0), (24, .iconst 3, 1, 0), (25, .if_icmp .ne 8, 3, 33), (28, .aload_n 0, 1, 0), (29, .getfield 58, 3, 0), (32, .ireturn, 1, 0), (33, .iconst 0, 1, 0), (34, .istore_n 2, 1, 0), (35, .iconst 0, 1, 0), (36, .istore_n 3, 1, 0), (37, .iconst 0, 1, 0), (38, .istore 4, 2, 0), (40, .iconst 0, 1, 0), (41, .istore 5, 2, 0), (43, .iload 5, 2, 0), (45, .aload_n 0, 1, 0), (46, .invokevirtual 67, 3, 0), (49, .if_icmp .ge 54, 3, 103), (52, .iload_n 2, 1, 0), (53, .aload_n 0, 1, 0), (54, .getfield 13, 3, 0), (57, .iload 5, 2, 0), (59, .iaload, 1, 0), (60, .ifCond .ge 7, 3, 67), (63, .iconst 1, 1, 0), (64, .goto 4, 3, 68), (67, .iconst 0, 1, 0), (68, .iadd, 1, 0), (69, .istore_n 2, 1, 0), (70, .iload_n 3, 1, 0), (71, .aload_n 0, 1, 0), (72, .getfield 13, 3, 0), (75, .iload 5, 2, 0), (77, .iaload, 1, 0), (78, .ifCond .ge 16, 3, 94), (81, .aload_n 0, 1, 0), (82, .getfield 7, 3, 0), (85, .iload 5, 2, 0), (87, .iaload, 1, 0), (88, .invokestatic 125, 3, 0), (91, .goto 4, 3, 95), (94, .iconst 0, 1, 0), (95, .iadd, 1, 0), (96, .istore_n 3, 1, 0), (97, .iinc 5 1, 3, 0), (100, .goto (-57), 3, 43), (103, .iconst 0, 1, 0), (104, .istore 5, 2, 0), (106, .iload 5, 2, 0), (108, .bipush 19, 2, 0), (110, .if_icmp .ge 21, 3, 131), (113, .iload 4, 2, 0), (115, .aload_n 0, 1, 0), (116, .getfield 20, 3, 0), (119, .iload 5, 2, 0), (121, .iaload, 1, 0), (122, .iadd, 1, 0), (123, .istore 4, 2, 0), (125, .iinc 5 1, 3, 0), (128, .goto (-22), 3, 106), (131, .iload_n 1, 1, 0), (132, .ifCond .ne 7, 3, 139), (135, .iload_n 2, 1, 0), (136, .goto 23, 3, 159), (139, .iload_n 1, 1, 0), (140, .iconst 1, 1, 0), (141, .if_icmp .ne 7, 3, 148), (144, .iload_n 3, 1, 0), (145, .goto 14, 3, 159), (148, .iload_n 1, 1, 0), (149, .iconst 4, 1, 0), (150, .if_icmp .ne 8, 3, 158), (153, .iload 4, 2, 0), (155, .goto 4, 3, 159), (158, .iconst (-1), 1, 0), (159, .ireturn, 1, 0)]
abbrev k_X8_state : Nat := 63
def il_X8_part : List (Nat × x_I) := [(0, .iload_n 0, 1, 0), (1, .tableswitch 695 0 112 #[467, 695, 695, 471, 695, 695, 475, 695, 695, 479, 483, 695, 487, 695, 695, 491, 695, 695, 495, 695, 695, 499, 695, 695, 503, 695, 695, 507, 511, 695, 515, 519, 695, 523, 695, 695, 527, 531, 695, 535, 539, 695, 543, 547, 695, 551, 695, 695, 555, 559, 695, 563, 695, 695, 567, 571, 695, 575, 695, 695, 579, 695, 695, 583, 587, 695, 591, 595, 695, 599, 695, 695, 603, 695, 695, 607, 695, 695, 611, 695, 695, 615, 695, 695, 619, 623, 695, 627, 631, 635, 639, 643, 695, 647, 651, 695, 655, 659, 695, 663, 667, 695, 671, 695, 695, 675, 679, 695, 683, 695, 695, 687, 691], 467, 0), (468, .ldc2_w 237, 3, 0), (471, .lreturn, 1, 0), (472, .ldc2_w 239, 3, 0), (475, .lreturn, 1, 0), (476, .ldc2_w 241, 3, 0), (479, .lreturn, 1, 0), (480, .ldc2_w 243, 3, 0), (483, .lreturn, 1, 0), (484, .ldc2_w 245, 3, 0), (487, .lreturn, 1, 0), (488, .ldc2_w 247, 3, 0), (491, .lreturn, 1, 0), (492, .ldc2_w 249, 3, 0), (495, .lreturn, 1, 0), (496, .ldc2_w 251, 3, 0), (499, .lreturn, 1, 0), (500, .ldc2_w 253, 3, 0), (503, .lreturn, 1, 0), (504, .ldc2_w 255, 3, 0), (507, .lreturn, 1, 0), (508, .ldc2_w 257, 3, 0), (511, .lreturn, 1, 0), (512, .ldc2_w 259, 3, 0), (515, .lreturn, 1, 0), (516, .ldc2_w 261, 3, 0), (519, .lreturn, 1, 0), (520, .ldc2_w 263, 3, 0), (523, .lreturn, 1, 0), (524, .ldc2_w 265, 3, 0), (527, .lreturn, 1, 0), (528, .ldc2_w 267, 3, 0), (531, .lreturn, 1, 0), (532, .ldc2_w 269, 3, 0), (535, .lreturn, 1, 0), (536, .ldc2_w 271, 3, 0), (539, .lreturn, 1, 0), (540, .ldc2_w 273, 3, 0), (543, .lreturn, 1, 0), (544, .ldc2_w 275, 3, 0), (547, .lreturn, 1, 0), (548, .ldc2_w 277, 3, 0), (551, .lreturn, 1, 0), (552, .ldc2_w 279, 3, 0), (555, .lreturn, 1, 0), (556, .ldc2_w 281, 3, 0), (559, .lreturn, 1, 0), (560, .ldc2_w 283, 3, 0), (563, .lreturn, 1, 0), (564, .ldc2_w 285, 3, 0), (567, .lreturn, 1, 0), (568, .ldc2_w 287, 3, 0), (571, .lreturn, 1, 0), (572, .ldc2_w 289, 3, 0), (575, .lreturn, 1, 0), (576, .ldc2_w 291, 3, 0), (579, .lreturn, 1, 0), (580, .ldc2_w 293, 3, 0), (583, .lreturn, 1, 0), (584, .ldc2_w 295, 3, 0), (587, .lreturn, 1, 0), (588, .ldc2_w 297, 3, 0), (591, .lreturn, 1, 0), (592, .ldc2_w 299, 3, 0), (595, .lreturn, 1, 0), (596, .ldc2_w 301, 3, 0), (599, .lreturn, 1, 0), (600, .ldc2_w 303, 3, 0), (603, .lreturn, 1, 0), (604, .ldc2_w 305, 3, 0), (607, .lreturn, 1, 0), (608, .ldc2_w 307, 3, 0), (611, .lreturn, 1, 0), (612, .ldc2_w 309, 3, 0), (615, .lreturn, 1, 0), (616, .ldc2_w 311, 3, 0), (619, .lreturn, 1, 0), (620, .ldc2_w 313, 3, 0), (623, .lreturn, 1, 0), (624, .ldc2_w 315, 3, 0), (627, .lreturn, 1, 0), (628, .ldc2_w 313, 3, 0), (631, .lreturn, 1, 0), (632, .ldc2_w 317, 3, 0), (635, .lreturn, 1, 0), (636, .ldc2_w 319, 3, 0), (639, .lreturn, 1, 0), (640, .ldc2_w 321, 3, 0), (643, .lreturn, 1, 0), (644, .ldc2_w 323, 3, 0), (647, .lreturn, 1, 0), (648, .ldc2_w 325, 3, 0), (651, .lreturn, 1, 0), (652, .ldc2_w 327, 3, 0), (655, .lreturn, 1, 0), (656, .ldc2_w 329, 3, 0), (659, .lreturn, 1, 0), (660, .ldc2_w 323, 3, 0), (663, .lreturn, 1, 0), (664, .ldc2_w 331, 3, 0), (667, .lreturn, 1, 0), (668, .ldc2_w 327, 3, 0), (671, .lreturn, 1, 0), (672, .ldc2_w 333, 3, 0), (675, .lreturn, 1, 0), (676, .ldc2_w 335, 3, 0), (679, .lreturn, 1, 0), (680, .ldc2_w 337, 3, 0), (683, .lreturn, 1, 0), (684, .ldc2_w 339, 3, 0), (687, .lreturn, 1, 0), (688, .ldc2_w 341, 3, 0), (691, .lreturn, 1, 0), (692, .ldc2_w 343, 3, 0), (695, .lreturn, 1, 0), (696, .lconst 0, 1, 0), (697, .lreturn, 1, 0)]
abbrev k_X8_part : Nat := 64
def il_X8_nameByte : List (Nat × x_I) := [(0, .iload_n 2, 1, 0), (1, .bipush 24, 2, 0), (3, .if_icmp .ge 38, 3, 41), (6, .bipush 19, 2, 0), (8, .iload_n 0, 1, 0), (9, .imul, 1, 0), (10, .iload_n 1, 1, 0), (11, .iadd, 1, 0), (12, .iconst 3, 1, 0), (13, .imul, 1, 0), (14, .iload_n 2, 1, 0), (15, .bipush 8, 2, 0), (17, .idiv, 1, 0), (18, .iadd, 1, 0), (19, .invokestatic 345, 3, 0), (22, .bipush 8, 2, 0), (24, .bipush 7, 2, 0), (26, .iload_n 2, 1, 0), (27, .bipush 8, 2, 0), (29, .irem, 1, 0), (30, .isub, 1, 0), (31, .imul, 1, 0), (32, .lshr, 1, 0), (33, .l2i, 1, 0), (34, .sipush 255, 3, 0), (37, .iand, 1, 0), (38, .goto 4, 3, 42), (41, .iconst 0, 1, 0), (42, .ireturn, 1, 0)]
abbrev k_X8_nameByte : Nat := 65
def il_X8_words : List (Nat × x_I) := [(0, .aload_n 0, 1, 0), (1, .iconst 0, 1, 0), (2, .putfield 71, 3, 0), (5, .aload_n 0, 1, 0), (6, .getfield 23, 3, 0), (9, .ifCond .lt 16, 3, 25), (12, .iload_n 1, 1, 0), (13, .ifCond .lt 12, 3, 25), (16, .iload_n 1, 1, 0), (17, .iconst 1, 1, 0), (18, .if_icmp .gt 7, 3, 25), (21, .iload_n 2, 1, 0), (22, .ifCond .ge 5, 3, 27), (25, .iconst (-1), 1, 0), (26, .ireturn, 1, 0), (27, .iload_n 1, 1, 0), (28, .aload_n 0, 1, 0), (29, .getfield 23, 3, 0), (32, .iload_n 2, 1, 0), (33, .invokestatic 349, 3, 0), (36, .istore_n 3, 1, 0), (37, .iload_n 3, 1, 0), (38, .ifCond .le 5, 3, 43), (41, .iload_n 3, 1, 0), (42, .ireturn, 1, 0), (43, .iconst 0, 1, 0), (44, .istore 4, 2, 0), (46, .iload_n 1, 1, 0), (47, .aload_n 0, 1, 0), (48, .getfield 23, 3, 0), (51, .iload 4, 2, 0), (53, .invokestatic 349, 3, 0), (56, .ifCond .le 9, 3, 65), (59, .iinc 4 1, 3, 0), (62, .goto (-16), 3, 46), (65, .aload_n 0, 1, 0), (66, .iload_n 2, 1, 0), (67, .iload 4, 2, 0), (69, .isub, 1, 0), (70, .iconst 5, 1, 0), (71, .idiv, 1, 0), (72, .invokevirtual 231, 3, 0), (75, .istore 5, 2, 0), (77, .iload 5, 2, 0), (79, .ifCond .ge 5, 3, 84), (82, .iconst (-1), 1, 0), (83, .ireturn, 1, 0), (84, .iload_n 2, 1, 0), (85, .iload 4, 2, 0), (87, .isub, 1, 0), (88, .iconst 5, 1, 0), (89, .irem, 1, 0), (90, .tableswitch 50 0 3 #[30, 33, 36, 47], 30, 0), (120, .bipush 32, 2, 0), (122, .ireturn, 1, 0), (123, .bipush 114, 2, 0), (125, .ireturn, 1, 0), (126, .bipush 49, 2, 0), (128, .iload 5, 2, 0), (130, .aload_n 0, 1, 0), (131, .getfield 58, 3, 0), (134, .idiv, 1, 0), (135, .iadd, 1, 0), (136, .ireturn, 1, 0), (137, .bipush 99, 2, 0), (139, .ireturn, 1, 0), (140, .bipush 49, 2, 0), (142, .iload 5, 2, 0), (144, .aload_n 0, 1, 0), (145, .getfield 58, 3, 0), (148, .irem, 1, 0), (149, .iadd, 1, 0), (150, .ireturn, 1, 0)]
abbrev k_X8_words : Nat := 66
def il_X2_init : List (Nat × x_I) := [(0, .aload_n 0, 1, 0), (1, .invokespecial 3, 3, 0), (4, .iload_n 1, 1, 0), (5, .ifCond .gt 7, 3, 12), (8, .iconst 2, 1, 0), (9, .goto 4, 3, 13), (12, .iconst 3, 1, 0), (13, .istore_n 2, 1, 0), (14, .iload_n 1, 1, 0), (15, .iconst 1, 1, 0), (16, .if_icmp .gt 7, 3, 23), (19, .iconst 2, 1, 0), (20, .goto 4, 3, 24), (23, .iconst 3, 1, 0), (24, .istore_n 3, 1, 0), (25, .aload_n 0, 1, 0), (26, .iload_n 2, 1, 0), (27, .iload_n 3, 1, 0), (28, .imul, 1, 0), (29, .putfield 9, 3, 0), (32, .aload_n 0, 1, 0), (33, .aload_n 0, 1, 0), (34, .getfield 9, 3, 0), (37, .aload_n 0, 1, 0), (38, .getfield 9, 3, 0), (41, .imul, 1, 0), (42, .putfield 15, 3, 0), (45, .aload_n 0, 1, 0), (46, .iconst 3, 1, 0), (47, .aload_n 0, 1, 0), (48, .getfield 9, 3, 0), (51, .imul, 1, 0), (52, .putfield 18, 3, 0), (55, .aload_n 0, 1, 0), (56, .aload_n 0, 1, 0), (57, .getfield 15, 3, 0), (60, .newarray .int, 2, 0), (62, .putfield 21, 3, 0), (65, .aload_n 0, 1, 0), (66, .aload_n 0, 1, 0), (67, .getfield 15, 3, 0), (70, .newarray .int, 2, 0), (72, .putfield 25, 3, 0), (75, .aload_n 0, 1, 0), (76, .aload_n 0, 1, 0), (77, .getfield 18, 3, 0), (80, .aload_n 0, 1, 0), (81, .getfield 9, 3, 0), (84, .imul, 1, 0), (85, .newarray .int, 2, 0), (87, .putfield 28, 3, 0), (90, .aload_n 0, 1, 0), (91, .aload_n 0, 1, 0), (92, .getfield 15, 3, 0), (95, .iconst 3, 1, 0), (96, .imul, 1, 0), (97, .newarray .int, 2, 0), (99, .putfield 31, 3, 0), (102, .aload_n 0, 1, 0), (103, .aload_n 0, 1, 0), (104, .getfield 15, 3, 0), (107, .iconst 3, 1, 0), (108, .imul, 1, 0), (109, .newarray .int, 2, 0), (111, .putfield 34, 3, 0), (114, .aload_n 0, 1, 0), (115, .aload_n 0, 1, 0), (116, .getfield 18, 3, 0), (119, .aload_n 0, 1, 0), (120, .getfield 9, 3, 0), (123, .imul, 1, 0), (124, .newarray .int, 2, 0), (126, .putfield 37, 3, 0), (129, .aload_n 0, 1, 0), (130, .invokevirtual 40, 3, 0), (133, .aload_n 0, 1, 0), (134, .iload_n 2, 1, 0), (135, .iload_n 3, 1, 0), (136, .invokevirtual 43, 3, 0), (139, .aload_n 0, 1, 0), (140, .invokevirtual 47, 3, 0), (143, .return_, 1, 0)]
abbrev k_X2_init : Nat := 67
def il_X2_layLines : List (Nat × x_I) := [(0, .iconst 0, 1, 0), (1, .istore_n 1, 1, 0), (2, .iload_n 1, 1, 0), (3, .aload_n 0, 1, 0), (4, .getfield 9, 3, 0), (7, .if_icmp .ge 55, 3, 62), (10, .iconst 0, 1, 0), (11, .istore_n 2, 1, 0), (12, .iload_n 2, 1, 0), (13, .aload_n 0, 1, 0), (14, .getfield 9, 3, 0), (17, .if_icmp .ge 39, 3, 56), (20, .aload_n 0, 1, 0), (21, .aload_n 0, 1, 0), (22, .getfield 9, 3, 0), (25, .iload_n 1, 1, 0), (26, .imul, 1, 0), (27, .iload_n 2, 1, 0), (28, .iadd, 1, 0), (29, .iconst 0, 1, 0), (30, .iload_n 1, 1, 0), (31, .iload_n 2, 1, 0), (32, .invokevirtual 50, 3, 0), (35, .aload_n 0, 1, 0), (36, .aload_n 0, 1, 0), (37, .getfield 9, 3, 0), (40, .iload_n 1, 1, 0), (41, .imul, 1, 0), (42, .iload_n 2, 1, 0), (43, .iadd, 1, 0), (44, .iconst 1, 1, 0), (45, .iload_n 2, 1, 0), (46, .iload_n 1, 1, 0), (47, .invokevirtual 50, 3, 0), (50, .iinc 2 1, 3, 0), (53, .goto (-41), 3, 12), (56, .iinc 1 1, 3, 0), (59, .goto (-57), 3, 2), (62, .return_, 1, 0)]
abbrev k_X2_layLines : Nat := 68
def il_X2_layBoxes : List (Nat × x_I) := [(0, .iconst 0, 1, 0), (1, .istore_n 3, 1, 0), (2, .iconst 0, 1, 0), (3, .istore 4, 2, 0), (5, .iload 4, 2, 0), (7, .aload_n 0, 1, 0), (8, .getfield 9, 3, 0), (11, .if_icmp .ge 98, 3, 109), (14, .iconst 0, 1, 0), (15, .istore 5, 2, 0), (17, .iload 5, 2, 0), (19, .aload_n 0, 1, 0), (20, .getfield 9, 3, 0), (23, .if_icmp .ge 77, 3, 100), (26, .iconst 0, 1, 0), (27, .istore 6, 2, 0), (29, .iload 4, 2, 0), (31, .istore 7, 2, 0), (33, .iload 7, 2, 0), (35, .iload 4, 2, 0), (37, .iload_n 2, 1, 0), (38, .iadd, 1, 0), (39, .if_icmp .ge 49, 3, 88), (42, .iload 5, 2, 0), (44, .istore 8, 2, 0), (46, .iload 8, 2, 0), (48, .iload 5, 2, 0), (50, .iload_n 1, 1, 0), (51, .iadd, 1, 0), (52, .if_icmp .ge 30, 3, 82), (55, .aload_n 0, 1, 0), (56, .aload_n 0, 1, 0), (57, .getfield 9, 3, 0), (60, .iload 7, 2, 0), (62, .imul, 1, 0), (63, .iload 8, 2, 0), (65, .iadd, 1, 0), (66, .iconst 2, 1, 0), (67, .iload_n 3, 1, 0), (68, .iload 6, 2, 0), (70, .invokevirtual 50, 3, 0), (73, .iinc 8 1, 3, 0), (76, .iinc 6 1, 3, 0), (79, .goto (-33), 3, 46), (82, .iinc 7 1, 3, 0), (85, .goto (-52), 3, 33), (88, .iload 5, 2, 0), (90, .iload_n 1, 1, 0), (91, .iadd, 1, 0), (92, .istore 5, 2, 0), (94, .iinc 3 1, 3, 0), (97, .goto (-80), 3, 17), (100, .iload 4, 2, 0), (102, .iload_n 2, 1, 0), (103, .iadd, 1, 0), (104, .istore 4, 2, 0), (106, .goto (-101), 3, 5), (109, .return_, 1, 0)]
abbrev k_X2_layBoxes : Nat := 69
def il_X2_lay : List (Nat × x_I) := [(0, .iload_n 2, 1, 0), (1, .aload_n 0, 1, 0), (2, .getfield 9, 3, 0), (5, .imul, 1, 0), (6, .iload_n 3, 1, 0), (7, .iadd, 1, 0), (8, .istore 5, 2, 0), (10, .aload_n 0, 1, 0), (11, .getfield 28, 3, 0), (14, .iload 5, 2, 0), (16, .aload_n 0, 1, 0), (17, .getfield 9, 3, 0), (20, .imul, 1, 0), (21, .iload 4, 2, 0), (23, .iadd, 1, 0), (24, .iload_n 1, 1, 0), (25, .iastore, 1, 0), (26, .aload_n 0, 1, 0), (27, .getfield 31, 3, 0), (30, .iload_n 1, 1, 0), (31, .iconst 3, 1, 0), (32, .imul, 1, 0), (33, .iload_n 2, 1, 0), (34, .iadd, 1, 0), (35, .iload 5, 2, 0), (37, .iastore, 1, 0), (38, .aload_n 0, 1, 0), (39, .getfield 34, 3, 0), (42, .iload_n 1, 1, 0), (43, .iconst 3, 1, 0), (44, .imul, 1, 0), (45, .iload_n 2, 1, 0), (46, .iadd, 1, 0), (47, .iload 4, 2, 0), (49, .iastore, 1, 0), (50, .return_, 1, 0)]
abbrev k_X2_lay : Nat := 70
def il_X2_fill : List (Nat × x_I) := [(0, .iconst 1, 1, 0), (1, .aload_n 0, 1, 0), (2, .getfield 9, 3, 0), (5, .ishl, 1, 0), (6, .iconst 1, 1, 0), (7, .isub, 1, 0), (8, .istore_n 1, 1, 0), (9, .iconst 0, 1, 0), (10, .istore_n 2, 1, 0), (11, .iload_n 2, 1, 0), (12, .aload_n 0, 1, 0), (13, .getfield 15, 3, 0), (16, .if_icmp .ge 23, 3, 39), (19, .aload_n 0, 1, 0), (20, .getfield 21, 3, 0), (23, .iload_n 2, 1, 0), (24, .iload_n 1, 1, 0), (25, .iastore, 1, 0), (26, .aload_n 0, 1, 0), (27, .getfield 25, 3, 0), (30, .iload_n 2, 1, 0), (31, .iconst (-1), 1, 0), (32, .iastore, 1, 0), (33, .iinc 2 1, 3, 0), (36, .goto (-25), 3, 11), (39, .iconst 0, 1, 0), (40, .istore_n 2, 1, 0), (41, .iload_n 2, 1, 0), (42, .aload_n 0, 1, 0), (43, .getfield 37, 3, 0), (46, .arraylength, 1, 0), (47, .if_icmp .ge 16, 3, 63), (50, .aload_n 0, 1, 0), (51, .getfield 37, 3, 0), (54, .iload_n 2, 1, 0), (55, .iload_n 1, 1, 0), (56, .iastore, 1, 0), (57, .iinc 2 1, 3, 0), (60, .goto (-19), 3, 41), (63, .return_, 1, 0)]
abbrev k_X2_fill : Nat := 71
def il_X2_cell : List (Nat × x_I) := [(0, .aload_n 0, 1, 0), (1, .getfield 28, 3, 0), (4, .iload_n 1, 1, 0), (5, .aload_n 0, 1, 0), (6, .getfield 9, 3, 0), (9, .imul, 1, 0), (10, .iload_n 2, 1, 0), (11, .iadd, 1, 0), (12, .iaload, 1, 0), (13, .ireturn, 1, 0)]
abbrev k_X2_cell : Nat := 72
def il_X2_house : List (Nat × x_I) := [(0, .aload_n 0, 1, 0), (1, .getfield 31, 3, 0), (4, .iload_n 1, 1, 0), (5, .iconst 3, 1, 0), (6, .imul, 1, 0), (7, .iload_n 2, 1, 0), (8, .iadd, 1, 0), (9, .iaload, 1, 0), (10, .ireturn, 1, 0)]
abbrev k_X2_house : Nat := 73
def il_X2_rowOf : List (Nat × x_I) := [(0, .aload_n 0, 1, 0), (1, .iload_n 1, 1, 0), (2, .iconst 0, 1, 0), (3, .invokevirtual 54, 3, 0), (6, .ireturn, 1, 0)]
abbrev k_X2_rowOf : Nat := 74
def il_X2_columnOf : List (Nat × x_I) := [(0, .aload_n 0, 1, 0), (1, .iload_n 1, 1, 0), (2, .iconst 1, 1, 0), (3, .invokevirtual 54, 3, 0), (6, .aload_n 0, 1, 0), (7, .getfield 9, 3, 0), (10, .isub, 1, 0), (11, .ireturn, 1, 0)]
abbrev k_X2_columnOf : Nat := 75
def il_X2_places : List (Nat × x_I) := [(0, .aload_n 0, 1, 0), (1, .getfield 37, 3, 0), (4, .iload_n 1, 1, 0), (5, .aload_n 0, 1, 0), (6, .getfield 9, 3, 0), (9, .imul, 1, 0), (10, .iload_n 2, 1, 0), (11, .iadd, 1, 0), (12, .iaload, 1, 0), (13, .ireturn, 1, 0)]
abbrev k_X2_places : Nat := 76
def il_X2_isOpen : List (Nat × x_I) := [(0, .aload_n 0, 1, 0), (1, .getfield 25, 3, 0), (4, .iload_n 1, 1, 0), (5, .iaload, 1, 0), (6, .iconst (-1), 1, 0), (7, .if_icmp .ne 7, 3, 14), (10, .iconst 1, 1, 0), (11, .goto 4, 3, 15), (14, .iconst 0, 1, 0), (15, .ireturn, 1, 0)]
abbrev k_X2_isOpen : Nat := 77
def il_X2_isIn : List (Nat × x_I) := [(0, .aload_n 0, 1, 0), (1, .iload_n 1, 1, 0), (2, .iconst 0, 1, 0), (3, .invokevirtual 54, 3, 0), (6, .iload_n 2, 1, 0), (7, .if_icmp .eq 23, 3, 30), (10, .aload_n 0, 1, 0), (11, .iload_n 1, 1, 0), (12, .iconst 1, 1, 0), (13, .invokevirtual 54, 3, 0), (16, .iload_n 2, 1, 0), (17, .if_icmp .eq 13, 3, 30), (20, .aload_n 0, 1, 0), (21, .iload_n 1, 1, 0), (22, .iconst 2, 1, 0), (23, .invokevirtual 54, 3, 0), (26, .iload_n 2, 1, 0), (27, .if_icmp .ne 7, 3, 34), (30, .iconst 1, 1, 0), (31, .goto 4, 3, 35), (34, .iconst 0, 1, 0), (35, .ireturn, 1, 0)]
abbrev k_X2_isIn : Nat := 78
def il_X2_see : List (Nat × x_I) := [(0, .iload_n 1, 1, 0), (1, .iconst 3, 1, 0), (2, .imul, 1, 0), (3, .istore_n 3, 1, 0), (4, .iload_n 2, 1, 0), (5, .iconst 3, 1, 0), (6, .imul, 1, 0), (7, .istore 4, 2, 0), (9, .iload_n 1, 1, 0), (10, .iload_n 2, 1, 0), (11, .if_icmp .eq 67, 3, 78), (14, .aload_n 0, 1, 0), (15, .getfield 31, 3, 0), (18, .iload_n 3, 1, 0), (19, .iconst 0, 1, 0), (20, .iadd, 1, 0), (21, .iaload, 1, 0), (22, .aload_n 0, 1, 0), (23, .getfield 31, 3, 0), (26, .iload 4, 2, 0), (28, .iconst 0, 1, 0), (29, .iadd, 1, 0), (30, .iaload, 1, 0), (31, .if_icmp .eq 43, 3, 74), (34, .aload_n 0, 1, 0), (35, .getfield 31, 3, 0), (38, .iload_n 3, 1, 0), (39, .iconst 1, 1, 0), (40, .iadd, 1, 0), (41, .iaload, 1, 0), (42, .aload_n 0, 1, 0), (43, .getfield 31, 3, 0), (46, .iload 4, 2, 0), (48, .iconst 1, 1, 0), (49, .iadd, 1, 0), (50, .iaload, 1, 0), (51, .if_icmp .eq 23, 3, 74), (54, .aload_n 0, 1, 0), (55, .getfield 31, 3, 0), (58, .iload_n 3, 1, 0), (59, .iconst 2, 1, 0), (60, .iadd, 1, 0), (61, .iaload, 1, 0), (62, .aload_n 0, 1, 0), (63, .getfield 31, 3, 0), (66, .iload 4, 2, 0), (68, .iconst 2, 1, 0), (69, .iadd, 1, 0), (70, .iaload, 1, 0), (71, .if_icmp .ne 7, 3, 78), (74, .iconst 1, 1, 0), (75, .goto 4, 3, 79), (78, .iconst 0, 1, 0), (79, .ireturn, 1, 0)]
abbrev k_X2_see : Nat := 79
def il_X2_drop : List (Nat × x_I) := [(0, .aload_n 0, 1, 0), (1, .getfield 21, 3, 0), (4, .iload_n 1, 1, 0), (5, .dup2, 1, 0), (6, .iaload, 1, 0), (7, .iconst 1, 1, 0), (8, .iload_n 2, 1, 0), (9, .ishl, 1, 0), (10, .iconst (-1), 1, 0), (11, .ixor, 1, 0), (12, .iand, 1, 0), (13, .iastore, 1, 0), (14, .iload_n 1, 1, 0), (15, .iconst 3, 1, 0), (16, .imul, 1, 0), (17, .istore_n 3, 1, 0), (18, .iload_n 3, 1, 0), (19, .iload_n 1, 1, 0), (20, .iconst 1, 1, 0), (21, .iadd, 1, 0), (22, .iconst 3, 1, 0), (23, .imul, 1, 0), (24, .if_icmp .ge 40, 3, 64), (27, .aload_n 0, 1, 0), (28, .getfield 37, 3, 0), (31, .aload_n 0, 1, 0), (32, .getfield 31, 3, 0), (35, .iload_n 3, 1, 0), (36, .iaload, 1, 0), (37, .aload_n 0, 1, 0), (38, .getfield 9, 3, 0), (41, .imul, 1, 0), (42, .iload_n 2, 1, 0), (43, .iadd, 1, 0), (44, .dup2, 1, 0), (45, .iaload, 1, 0), (46, .iconst 1, 1, 0), (47, .aload_n 0, 1, 0), (48, .getfield 34, 3, 0), (51, .iload_n 3, 1, 0), (52, .iaload, 1, 0), (53, .ishl, 1, 0), (54, .iconst (-1), 1, 0), (55, .ixor, 1, 0), (56, .iand, 1, 0), (57, .iastore, 1, 0), (58, .iinc 3 1, 3, 0), (61, .goto (-43), 3, 18), (64, .return_, 1, 0)]
abbrev k_X2_drop : Nat := 80
def il_X2_giveBack : List (Nat × x_I) := [(0, .aload_n 0, 1, 0), (1, .getfield 21, 3, 0), (4, .iload_n 1, 1, 0), (5, .dup2, 1, 0), (6, .iaload, 1, 0), (7, .iconst 1, 1, 0), (8, .iload_n 2, 1, 0), (9, .ishl, 1, 0), (10, .ior, 1, 0), (11, .iastore, 1, 0), (12, .iload_n 1, 1, 0), (13, .iconst 3, 1, 0), (14, .imul, 1, 0), (15, .istore_n 3, 1, 0), (16, .iload_n 3, 1, 0), (17, .iload_n 1, 1, 0), (18, .iconst 1, 1, 0), (19, .iadd, 1, 0), (20, .iconst 3, 1, 0), (21, .imul, 1, 0), (22, .if_icmp .ge 38, 3, 60), (25, .aload_n 0, 1, 0), (26, .getfield 37, 3, 0), (29, .aload_n 0, 1, 0), (30, .getfield 31, 3, 0), (33, .iload_n 3, 1, 0), (34, .iaload, 1, 0), (35, .aload_n 0, 1, 0), (36, .getfield 9, 3, 0), (39, .imul, 1, 0), (40, .iload_n 2, 1, 0), (41, .iadd, 1, 0), (42, .dup2, 1, 0), (43, .iaload, 1, 0), (44, .iconst 1, 1, 0), (45, .aload_n 0, 1, 0), (46, .getfield 34, 3, 0), (49, .iload_n 3, 1, 0), (50, .iaload, 1, 0), (51, .ishl, 1, 0), (52, .ior, 1, 0), (53, .iastore, 1, 0), (54, .iinc 3 1, 3, 0), (57, .goto (-41), 3, 16), (60, .return_, 1, 0)]
abbrev k_X2_giveBack : Nat := 81
def il_X2_isBroken : List (Nat × x_I) := [(0, .iconst 0, 1, 0), (1, .istore_n 1, 1, 0), (2, .iload_n 1, 1, 0), (3, .aload_n 0, 1, 0), (4, .getfield 15, 3, 0), (7, .if_icmp .ge 20, 3, 27), (10, .aload_n 0, 1, 0), (11, .getfield 21, 3, 0), (14, .iload_n 1, 1, 0), (15, .iaload, 1, 0), (16, .ifCond .ne 5, 3, 21), (19, .iconst 1, 1, 0), (20, .ireturn, 1, 0), (21, .iinc 1 1, 3, 0), (24, .goto (-22), 3, 2), (27, .iconst 0, 1, 0), (28, .istore_n 1, 1, 0), (29, .iload_n 1, 1, 0), (30, .aload_n 0, 1, 0), (31, .getfield 37, 3, 0), (34, .arraylength, 1, 0), (35, .if_icmp .ge 20, 3, 55), (38, .aload_n 0, 1, 0), (39, .getfield 37, 3, 0), (42, .iload_n 1, 1, 0), (43, .iaload, 1, 0), (44, .ifCond .ne 5, 3, 49), (47, .iconst 1, 1, 0), (48, .ireturn, 1, 0), (49, .iinc 1 1, 3, 0), (52, .goto (-23), 3, 29), (55, .iconst 0, 1, 0), (56, .ireturn, 1, 0)]
abbrev k_X2_isBroken : Nat := 82
def il_X2_openCells : List (Nat × x_I) := [(0, .iconst 0, 1, 0), (1, .istore_n 1, 1, 0), (2, .iconst 0, 1, 0), (3, .istore_n 2, 1, 0), (4, .iload_n 2, 1, 0), (5, .aload_n 0, 1, 0), (6, .getfield 15, 3, 0), (9, .if_icmp .ge 25, 3, 34), (12, .iload_n 1, 1, 0), (13, .aload_n 0, 1, 0), (14, .iload_n 2, 1, 0), (15, .invokevirtual 58, 3, 0), (18, .ifCond .eq 7, 3, 25), (21, .iconst 1, 1, 0), (22, .goto 4, 3, 26), (25, .iconst 0, 1, 0), (26, .iadd, 1, 0), (27, .istore_n 1, 1, 0), (28, .iinc 2 1, 3, 0), (31, .goto (-27), 3, 4), (34, .iload_n 1, 1, 0), (35, .ireturn, 1, 0)]
abbrev k_X2_openCells : Nat := 83
def il_X2_openCandidates : List (Nat × x_I) := [(0, .iconst 0, 1, 0), (1, .istore_n 1, 1, 0), (2, .iconst 0, 1, 0), (3, .istore_n 2, 1, 0), (4, .iload_n 2, 1, 0), (5, .aload_n 0, 1, 0), (6, .getfield 15, 3, 0), (9, .if_icmp .ge 33, 3, 42), (12, .iload_n 1, 1, 0), (13, .aload_n 0, 1, 0), (14, .iload_n 2, 1, 0), (15, .invokevirtual 58, 3, 0), (18, .ifCond .eq 15, 3, 33), (21, .aload_n 0, 1, 0), (22, .getfield 21, 3, 0), (25, .iload_n 2, 1, 0), (26, .iaload, 1, 0), (27, .invokestatic 62, 3, 0), (30, .goto 4, 3, 34), (33, .iconst 0, 1, 0), (34, .iadd, 1, 0), (35, .istore_n 1, 1, 0), (36, .iinc 2 1, 3, 0), (39, .goto (-35), 3, 4), (42, .iload_n 1, 1, 0), (43, .ireturn, 1, 0)]
abbrev k_X2_openCandidates : Nat := 84
def il_X1_init : List (Nat × x_I) := [(0, .aload_n 0, 1, 0), (1, .invokespecial 3, 3, 0), (4, .aload_n 0, 1, 0), (5, .iload_n 1, 1, 0), (6, .newarray .int, 2, 0), (8, .putfield 9, 3, 0), (11, .aload_n 0, 1, 0), (12, .iload_n 1, 1, 0), (13, .newarray .int, 2, 0), (15, .putfield 15, 3, 0), (18, .aload_n 0, 1, 0), (19, .iconst (-1), 1, 0), (20, .putfield 18, 3, 0), (23, .aload_n 0, 1, 0), (24, .iconst (-1), 1, 0), (25, .putfield 22, 3, 0), (28, .aload_n 0, 1, 0), (29, .iconst (-1), 1, 0), (30, .putfield 25, 3, 0), (33, .return_, 1, 0)]
abbrev k_X1_init : Nat := 85
def il_X1_clear : List (Nat × x_I) := [(0, .iconst 0, 1, 0), (1, .istore_n 1, 1, 0), (2, .iload_n 1, 1, 0), (3, .aload_n 0, 1, 0), (4, .getfield 9, 3, 0), (7, .arraylength, 1, 0), (8, .if_icmp .ge 16, 3, 24), (11, .aload_n 0, 1, 0), (12, .getfield 9, 3, 0), (15, .iload_n 1, 1, 0), (16, .iconst 0, 1, 0), (17, .iastore, 1, 0), (18, .iinc 1 1, 3, 0), (21, .goto (-19), 3, 2), (24, .aload_n 0, 1, 0), (25, .iconst (-1), 1, 0), (26, .putfield 18, 3, 0), (29, .aload_n 0, 1, 0), (30, .iconst (-1), 1, 0), (31, .putfield 22, 3, 0), (34, .aload_n 0, 1, 0), (35, .iconst (-1), 1, 0), (36, .putfield 25, 3, 0), (39, .aload_n 0, 1, 0), (40, .iconst 0, 1, 0), (41, .putfield 28, 3, 0), (44, .aload_n 0, 1, 0), (45, .iconst 0, 1, 0), (46, .putfield 31, 3, 0), (49, .return_, 1, 0)]
abbrev k_X1_clear : Nat := 86
def il_X1_strike : List (Nat × x_I) := [(0, .aload_n 0, 1, 0), (1, .dup, 1, 0), (2, .getfield 28, 3, 0), (5, .iload_n 2, 1, 0), (6, .aload_n 0, 1, 0), (7, .getfield 9, 3, 0), (10, .iload_n 1, 1, 0), (11, .iaload, 1, 0), (12, .iconst (-1), 1, 0), (13, .ixor, 1, 0), (14, .iand, 1, 0), (15, .invokestatic 34, 3, 0), (18, .iadd, 1, 0), (19, .putfield 28, 3, 0), (22, .aload_n 0, 1, 0), (23, .getfield 9, 3, 0), (26, .iload_n 1, 1, 0), (27, .dup2, 1, 0), (28, .iaload, 1, 0), (29, .iload_n 2, 1, 0), (30, .ior, 1, 0), (31, .iastore, 1, 0), (32, .return_, 1, 0)]
abbrev k_X1_strike : Nat := 87
def il_X1_because : List (Nat × x_I) := [(0, .aload_n 0, 1, 0), (1, .getfield 31, 3, 0), (4, .istore_n 2, 1, 0), (5, .iload_n 2, 1, 0), (6, .ifCond .le 21, 3, 27), (9, .aload_n 0, 1, 0), (10, .getfield 15, 3, 0), (13, .iload_n 2, 1, 0), (14, .iconst 1, 1, 0), (15, .isub, 1, 0), (16, .iaload, 1, 0), (17, .iload_n 1, 1, 0), (18, .if_icmp .lt 9, 3, 27), (21, .iinc 2 (-1), 3, 0), (24, .goto (-19), 3, 5), (27, .aload_n 0, 1, 0), (28, .getfield 31, 3, 0), (31, .aload_n 0, 1, 0), (32, .getfield 15, 3, 0), (35, .arraylength, 1, 0), (36, .if_icmp .eq 21, 3, 57), (39, .iload_n 2, 1, 0), (40, .aload_n 0, 1, 0), (41, .getfield 31, 3, 0), (44, .if_icmp .ge 14, 3, 58), (47, .aload_n 0, 1, 0), (48, .getfield 15, 3, 0), (51, .iload_n 2, 1, 0), (52, .iaload, 1, 0), (53, .iload_n 1, 1, 0), (54, .if_icmp .ne 4, 3, 58), (57, .return_, 1, 0), (58, .aload_n 0, 1, 0), (59, .getfield 31, 3, 0), (62, .istore_n 3, 1, 0), (63, .iload_n 3, 1, 0), (64, .iload_n 2, 1, 0), (65, .if_icmp .le 23, 3, 88), (68, .aload_n 0, 1, 0), (69, .getfield 15, 3, 0), (72, .iload_n 3, 1, 0), (73, .aload_n 0, 1, 0), (74, .getfield 15, 3, 0), (77, .iload_n 3, 1, 0), (78, .iconst 1, 1, 0), (79, .isub, 1, 0), (80, .iaload, 1, 0), (81, .iastore, 1, 0), (82, .iinc 3 (-1), 3, 0), (85, .goto (-22), 3, 63), (88, .aload_n 0, 1, 0), (89, .getfield 15, 3, 0), (92, .iload_n 2, 1, 0), (93, .iload_n 1, 1, 0), (94, .iastore, 1, 0), (95, .aload_n 0, 1, 0), (96, .dup, 1, 0), (97, .getfield 31, 3, 0), (100, .iconst 1, 1, 0), (101, .iadd, 1, 0), (102, .putfield 31, 3, 0), (105, .return_, 1, 0)]
abbrev k_X1_because : Nat := 88
def il_X1_goer : List (Nat × x_I) := [(0, .iload_n 1, 1, 0), (1, .istore_n 3, 1, 0), (2, .iconst 0, 1, 0), (3, .istore 4, 2, 0), (5, .iload 4, 2, 0), (7, .aload_n 0, 1, 0), (8, .getfield 9, 3, 0), (11, .arraylength, 1, 0), (12, .if_icmp .ge 49, 3, 61), (15, .aload_n 0, 1, 0), (16, .getfield 9, 3, 0), (19, .iload 4, 2, 0), (21, .iaload, 1, 0), (22, .invokestatic 34, 3, 0), (25, .istore 5, 2, 0), (27, .iload_n 3, 1, 0), (28, .iload 5, 2, 0), (30, .if_icmp .ge 20, 3, 50), (33, .iload_n 2, 1, 0), (34, .iload 4, 2, 0), (36, .imul, 1, 0), (37, .aload_n 0, 1, 0), (38, .getfield 9, 3, 0), (41, .iload 4, 2, 0), (43, .iaload, 1, 0), (44, .iload_n 3, 1, 0), (45, .invokestatic 40, 3, 0), (48, .iadd, 1, 0), (49, .ireturn, 1, 0), (50, .iload_n 3, 1, 0), (51, .iload 5, 2, 0), (53, .isub, 1, 0), (54, .istore_n 3, 1, 0), (55, .iinc 4 1, 3, 0), (58, .goto (-53), 3, 5), (61, .iconst (-1), 1, 0), (62, .ireturn, 1, 0)]
abbrev k_X1_goer : Nat := 89
def il_X1_nthBit : List (Nat × x_I) := [(0, .iload_n 0, 1, 0), (1, .istore_n 2, 1, 0), (2, .iconst 0, 1, 0), (3, .istore_n 3, 1, 0), (4, .iload_n 3, 1, 0), (5, .iload_n 1, 1, 0), (6, .if_icmp .ge 15, 3, 21), (9, .iload_n 2, 1, 0), (10, .iload_n 2, 1, 0), (11, .iconst 1, 1, 0), (12, .isub, 1, 0), (13, .iand, 1, 0), (14, .istore_n 2, 1, 0), (15, .iinc 3 1, 3, 0), (18, .goto (-14), 3, 4), (21, .iload_n 2, 1, 0), (22, .invokestatic 44, 3, 0), (25, .ireturn, 1, 0)]
abbrev k_X1_nthBit : Nat := 90
def il_X3_init : List (Nat × x_I) := [(0, .aload_n 0, 1, 0), (1, .invokespecial 3, 3, 0), (4, .aload_n 0, 1, 0), (5, .iload_n 1, 1, 0), (6, .iload_n 1, 1, 0), (7, .imul, 1, 0), (8, .iload_n 1, 1, 0), (9, .imul, 1, 0), (10, .newarray .int, 2, 0), (12, .putfield 9, 3, 0), (15, .aload_n 0, 1, 0), (16, .iload_n 1, 1, 0), (17, .iload_n 1, 1, 0), (18, .imul, 1, 0), (19, .iload_n 1, 1, 0), (20, .imul, 1, 0), (21, .iload_n 1, 1, 0), (22, .iload_n 1, 1, 0), (23, .imul, 1, 0), (24, .iadd, 1, 0), (25, .newarray .int, 2, 0), (27, .putfield 15, 3, 0), (30, .aload_n 0, 1, 0), (31, .aload_n 0, 1, 0), (32, .getfield 15, 3, 0), (35, .arraylength, 1, 0), (36, .newarray .int, 2, 0), (38, .putfield 18, 3, 0), (41, .aload_n 0, 1, 0), (42, .aload_n 0, 1, 0), (43, .getfield 15, 3, 0), (46, .arraylength, 1, 0), (47, .newarray .int, 2, 0), (49, .putfield 21, 3, 0), (52, .return_, 1, 0)]
abbrev k_X3_init : Nat := 91
def il_X3_mostSteps : List (Nat × x_I) := [(0, .aload_n 0, 1, 0), (1, .getfield 15, 3, 0), (4, .arraylength, 1, 0), (5, .ireturn, 1, 0)]
abbrev k_X3_mostSteps : Nat := 92
def il_X3_clear : List (Nat × x_I) := [(0, .aload_n 0, 1, 0), (1, .iconst 0, 1, 0), (2, .putfield 24, 3, 0), (5, .aload_n 0, 1, 0), (6, .iconst 0, 1, 0), (7, .putfield 28, 3, 0), (10, .return_, 1, 0)]
abbrev k_X3_clear : Nat := 93
def il_X3_note : List (Nat × x_I) := [(0, .aload_n 0, 1, 0), (1, .getfield 24, 3, 0), (4, .aload_n 0, 1, 0), (5, .getfield 9, 3, 0), (8, .arraylength, 1, 0), (9, .if_icmp .ge 27, 3, 36), (12, .aload_n 0, 1, 0), (13, .getfield 9, 3, 0), (16, .aload_n 0, 1, 0), (17, .getfield 24, 3, 0), (20, .iload_n 1, 1, 0), (21, .iconst 4, 1, 0), (22, .ishl, 1, 0), (23, .iload_n 2, 1, 0), (24, .ior, 1, 0), (25, .iastore, 1, 0), (26, .aload_n 0, 1, 0), (27, .dup, 1, 0), (28, .getfield 24, 3, 0), (31, .iconst 1, 1, 0), (32, .iadd, 1, 0), (33, .putfield 24, 3, 0), (36, .return_, 1, 0)]
abbrev k_X3_note : Nat := 94
def il_X3_close : List (Nat × x_I) := [(0, .aload_n 0, 1, 0), (1, .getfield 28, 3, 0), (4, .aload_n 0, 1, 0), (5, .getfield 15, 3, 0), (8, .arraylength, 1, 0), (9, .if_icmp .ge 46, 3, 55), (12, .aload_n 0, 1, 0), (13, .getfield 15, 3, 0), (16, .aload_n 0, 1, 0), (17, .getfield 28, 3, 0), (20, .iload_n 1, 1, 0), (21, .iastore, 1, 0), (22, .aload_n 0, 1, 0), (23, .getfield 18, 3, 0), (26, .aload_n 0, 1, 0), (27, .getfield 28, 3, 0), (30, .iload_n 2, 1, 0), (31, .iastore, 1, 0), (32, .aload_n 0, 1, 0), (33, .getfield 21, 3, 0), (36, .aload_n 0, 1, 0), (37, .getfield 28, 3, 0), (40, .aload_n 0, 1, 0), (41, .getfield 24, 3, 0), (44, .iastore, 1, 0), (45, .aload_n 0, 1, 0), (46, .dup, 1, 0), (47, .getfield 28, 3, 0), (50, .iconst 1, 1, 0), (51, .iadd, 1, 0), (52, .putfield 28, 3, 0), (55, .return_, 1, 0)]
abbrev k_X3_close : Nat := 95
def il_X3_takeBack : List (Nat × x_I) := [(0, .aload_n 0, 1, 0), (1, .dup, 1, 0), (2, .getfield 28, 3, 0), (5, .iconst 1, 1, 0), (6, .isub, 1, 0), (7, .putfield 28, 3, 0), (10, .aload_n 0, 1, 0), (11, .getfield 28, 3, 0), (14, .ifCond .le 17, 3, 31), (17, .aload_n 0, 1, 0), (18, .getfield 21, 3, 0), (21, .aload_n 0, 1, 0), (22, .getfield 28, 3, 0), (25, .iconst 1, 1, 0), (26, .isub, 1, 0), (27, .iaload, 1, 0), (28, .goto 4, 3, 32), (31, .iconst 0, 1, 0), (32, .istore_n 2, 1, 0), (33, .aload_n 0, 1, 0), (34, .getfield 24, 3, 0), (37, .iload_n 2, 1, 0), (38, .if_icmp .le 43, 3, 81), (41, .aload_n 0, 1, 0), (42, .dup, 1, 0), (43, .getfield 24, 3, 0), (46, .iconst 1, 1, 0), (47, .isub, 1, 0), (48, .putfield 24, 3, 0), (51, .aload_n 1, 1, 0), (52, .aload_n 0, 1, 0), (53, .getfield 9, 3, 0), (56, .aload_n 0, 1, 0), (57, .getfield 24, 3, 0), (60, .iaload, 1, 0), (61, .iconst 4, 1, 0), (62, .ishr, 1, 0), (63, .aload_n 0, 1, 0), (64, .getfield 9, 3, 0), (67, .aload_n 0, 1, 0), (68, .getfield 24, 3, 0), (71, .iaload, 1, 0), (72, .bipush 15, 2, 0), (74, .iand, 1, 0), (75, .invokevirtual 31, 3, 0), (78, .goto (-45), 3, 33), (81, .aload_n 0, 1, 0), (82, .getfield 18, 3, 0), (85, .aload_n 0, 1, 0), (86, .getfield 28, 3, 0), (89, .iaload, 1, 0), (90, .ifCond .lt 18, 3, 108), (93, .aload_n 1, 1, 0), (94, .getfield 37, 3, 0), (97, .aload_n 0, 1, 0), (98, .getfield 18, 3, 0), (101, .aload_n 0, 1, 0), (102, .getfield 28, 3, 0), (105, .iaload, 1, 0), (106, .iconst (-1), 1, 0), (107, .iastore, 1, 0), (108, .aload_n 0, 1, 0), (109, .getfield 15, 3, 0), (112, .aload_n 0, 1, 0), (113, .getfield 28, 3, 0), (116, .iaload, 1, 0), (117, .ireturn, 1, 0)]
abbrev k_X3_takeBack : Nat := 96
def il_X6_init : List (Nat × x_I) := [(0, .aload_n 0, 1, 0), (1, .invokespecial 1, 3, 0), (4, .aload_n 0, 1, 0), (5, .iload_n 1, 1, 0), (6, .putfield 7, 3, 0), (9, .aload_n 0, 1, 0), (10, .iconst 1, 1, 0), (11, .iload_n 1, 1, 0), (12, .ishl, 1, 0), (13, .newarray .int, 2, 0), (15, .putfield 13, 3, 0), (18, .aload_n 0, 1, 0), (19, .bipush 6, 2, 0), (21, .newarray .int, 2, 0), (23, .putfield 17, 3, 0), (26, .iconst 2, 1, 0), (27, .istore_n 2, 1, 0), (28, .iload_n 2, 1, 0), (29, .iconst 4, 1, 0), (30, .if_icmp .gt 26, 3, 56), (33, .aload_n 0, 1, 0), (34, .getfield 17, 3, 0), (37, .iload_n 2, 1, 0), (38, .aload_n 0, 1, 0), (39, .getfield 20, 3, 0), (42, .iastore, 1, 0), (43, .aload_n 0, 1, 0), (44, .iconst 0, 1, 0), (45, .iload_n 2, 1, 0), (46, .iconst 0, 1, 0), (47, .invokevirtual 23, 3, 0), (50, .iinc 2 1, 3, 0), (53, .goto (-25), 3, 28), (56, .aload_n 0, 1, 0), (57, .getfield 17, 3, 0), (60, .iconst 5, 1, 0), (61, .aload_n 0, 1, 0), (62, .getfield 20, 3, 0), (65, .iastore, 1, 0), (66, .return_, 1, 0)]
abbrev k_X6_init : Nat := 97
def il_X6_gather : List (Nat × x_I) := [(0, .iload_n 2, 1, 0), (1, .ifCond .le 43, 3, 44), (4, .iload_n 1, 1, 0), (5, .istore 4, 2, 0), (7, .iload 4, 2, 0), (9, .aload_n 0, 1, 0), (10, .getfield 7, 3, 0), (13, .iload_n 2, 1, 0), (14, .isub, 1, 0), (15, .if_icmp .gt 26, 3, 41), (18, .aload_n 0, 1, 0), (19, .iload 4, 2, 0), (21, .iconst 1, 1, 0), (22, .iadd, 1, 0), (23, .iload_n 2, 1, 0), (24, .iconst 1, 1, 0), (25, .isub, 1, 0), (26, .iload_n 3, 1, 0), (27, .iconst 1, 1, 0), (28, .iload 4, 2, 0), (30, .ishl, 1, 0), (31, .ior, 1, 0), (32, .invokevirtual 23, 3, 0), (35, .iinc 4 1, 3, 0), (38, .goto (-31), 3, 7), (41, .goto 35, 3, 76), (44, .aload_n 0, 1, 0), (45, .getfield 20, 3, 0), (48, .aload_n 0, 1, 0), (49, .getfield 13, 3, 0), (52, .arraylength, 1, 0), (53, .if_icmp .ge 23, 3, 76), (56, .aload_n 0, 1, 0), (57, .getfield 13, 3, 0), (60, .aload_n 0, 1, 0), (61, .getfield 20, 3, 0), (64, .iload_n 3, 1, 0), (65, .iastore, 1, 0), (66, .aload_n 0, 1, 0), (67, .dup, 1, 0), (68, .getfield 20, 3, 0), (71, .iconst 1, 1, 0), (72, .iadd, 1, 0), (73, .putfield 20, 3, 0), (76, .return_, 1, 0)]
abbrev k_X6_gather : Nat := 98
def il_X6_start : List (Nat × x_I) := [(0, .aload_n 0, 1, 0), (1, .getfield 17, 3, 0), (4, .iload_n 1, 1, 0), (5, .iaload, 1, 0), (6, .ireturn, 1, 0)]
abbrev k_X6_start : Nat := 99
def il_X6_end : List (Nat × x_I) := [(0, .aload_n 0, 1, 0), (1, .getfield 17, 3, 0), (4, .iload_n 1, 1, 0), (5, .iconst 1, 1, 0), (6, .iadd, 1, 0), (7, .iaload, 1, 0), (8, .ireturn, 1, 0)]
abbrev k_X6_end : Nat := 100
def il_X6_get : List (Nat × x_I) := [(0, .aload_n 0, 1, 0), (1, .getfield 13, 3, 0), (4, .iload_n 1, 1, 0), (5, .iaload, 1, 0), (6, .ireturn, 1, 0)]
abbrev k_X6_get : Nat := 101
def il_X0_init : List (Nat × x_I) := [(0, .aload_n 0, 1, 0), (1, .invokespecial 5, 3, 0), (4, .aload_n 0, 1, 0), (5, .iload_n 1, 1, 0), (6, .newarray .int, 2, 0), (8, .putfield 11, 3, 0), (11, .aload_n 0, 1, 0), (12, .iconst 2, 1, 0), (13, .iload_n 1, 1, 0), (14, .imul, 1, 0), (15, .newarray .int, 2, 0), (17, .putfield 15, 3, 0), (20, .return_, 1, 0)]
abbrev k_X0_init : Nat := 102
def il_X0_look : List (Nat × x_I) := [(0, .iconst 0, 1, 0), (1, .istore_n 3, 1, 0), (2, .iload_n 3, 1, 0), (3, .aload_n 1, 1, 0), (4, .getfield 18, 3, 0), (7, .if_icmp .ge 111, 3, 118), (10, .iconst 0, 1, 0), (11, .istore 4, 2, 0), (13, .iload 4, 2, 0), (15, .aload_n 0, 1, 0), (16, .getfield 11, 3, 0), (19, .arraylength, 1, 0), (20, .if_icmp .ge 17, 3, 37), (23, .aload_n 0, 1, 0), (24, .getfield 11, 3, 0), (27, .iload 4, 2, 0), (29, .iconst 0, 1, 0), (30, .iastore, 1, 0), (31, .iinc 4 1, 3, 0), (34, .goto (-21), 3, 13), (37, .iconst 0, 1, 0), (38, .istore 4, 2, 0), (40, .iload 4, 2, 0), (42, .aload_n 0, 1, 0), (43, .getfield 11, 3, 0), (46, .arraylength, 1, 0), (47, .if_icmp .ge 65, 3, 112), (50, .aload_n 0, 1, 0), (51, .getfield 11, 3, 0), (54, .iload 4, 2, 0), (56, .iaload, 1, 0), (57, .ifCond .ne 49, 3, 106), (60, .aload_n 1, 1, 0), (61, .getfield 24, 3, 0), (64, .iload 4, 2, 0), (66, .iaload, 1, 0), (67, .iload_n 3, 1, 0), (68, .ishr, 1, 0), (69, .iconst 1, 1, 0), (70, .iand, 1, 0), (71, .ifCond .eq 35, 3, 106), (74, .aload_n 0, 1, 0), (75, .aload_n 1, 1, 0), (76, .iload_n 3, 1, 0), (77, .iload 4, 2, 0), (79, .invokevirtual 27, 3, 0), (82, .aload_n 0, 1, 0), (83, .getfield 31, 3, 0), (86, .iconst 1, 1, 0), (87, .if_icmp .le 15, 3, 102), (90, .aload_n 0, 1, 0), (91, .aload_n 1, 1, 0), (92, .aload_n 2, 1, 0), (93, .iload_n 3, 1, 0), (94, .invokevirtual 34, 3, 0), (97, .ifCond .eq 5, 3, 102), (100, .iconst 1, 1, 0), (101, .ireturn, 1, 0), (102, .aload_n 0, 1, 0), (103, .invokevirtual 38, 3, 0), (106, .iinc 4 1, 3, 0), (109, .goto (-69), 3, 40), (112, .iinc 3 1, 3, 0), (115, .goto (-113), 3, 2), (118, .iconst 0, 1, 0), (119, .ireturn, 1, 0)]
abbrev k_X0_look : Nat := 103
def il_X0_join : List (Nat × x_I) := [(0, .aload_n 0, 1, 0), (1, .iconst 0, 1, 0), (2, .putfield 31, 3, 0), (5, .aload_n 0, 1, 0), (6, .iload_n 3, 1, 0), (7, .iconst 0, 1, 0), (8, .invokevirtual 41, 3, 0), (11, .iconst 0, 1, 0), (12, .istore 4, 2, 0), (14, .iload 4, 2, 0), (16, .aload_n 0, 1, 0), (17, .getfield 31, 3, 0), (20, .if_icmp .ge 84, 3, 104), (23, .iload 4, 2, 0), (25, .aload_n 0, 1, 0), (26, .getfield 15, 3, 0), (29, .arraylength, 1, 0), (30, .if_icmp .ge 74, 3, 104), (33, .aload_n 0, 1, 0), (34, .getfield 15, 3, 0), (37, .iload 4, 2, 0), (39, .iaload, 1, 0), (40, .iconst 1, 1, 0), (41, .ishr, 1, 0), (42, .istore 5, 2, 0), (44, .iconst 1, 1, 0), (45, .aload_n 0, 1, 0), (46, .getfield 15, 3, 0), (49, .iload 4, 2, 0), (51, .iaload, 1, 0), (52, .iconst 1, 1, 0), (53, .iand, 1, 0), (54, .isub, 1, 0), (55, .istore 6, 2, 0), (57, .iconst 0, 1, 0), (58, .istore 7, 2, 0), (60, .iload 7, 2, 0), (62, .iconst 3, 1, 0), (63, .if_icmp .ge 35, 3, 98), (66, .aload_n 0, 1, 0), (67, .aload_n 1, 1, 0), (68, .iload_n 2, 1, 0), (69, .iload 5, 2, 0), (71, .iload 7, 2, 0), (73, .invokevirtual 45, 3, 0), (76, .istore 8, 2, 0), (78, .iload 8, 2, 0), (80, .iconst (-1), 1, 0), (81, .if_icmp .eq 11, 3, 92), (84, .aload_n 0, 1, 0), (85, .iload 8, 2, 0), (87, .iload 6, 2, 0), (89, .invokevirtual 41, 3, 0), (92, .iinc 7 1, 3, 0), (95, .goto (-35), 3, 60), (98, .iinc 4 1, 3, 0), (101, .goto (-87), 3, 14), (104, .return_, 1, 0)]
abbrev k_X0_join : Nat := 104
def il_X0_colour : List (Nat × x_I) := [(0, .aload_n 0, 1, 0), (1, .getfield 11, 3, 0), (4, .iload_n 1, 1, 0), (5, .iaload, 1, 0), (6, .iload_n 2, 1, 0), (7, .ishr, 1, 0), (8, .iconst 1, 1, 0), (9, .iand, 1, 0), (10, .ifCond .ne 51, 3, 61), (13, .aload_n 0, 1, 0), (14, .getfield 31, 3, 0), (17, .aload_n 0, 1, 0), (18, .getfield 15, 3, 0), (21, .arraylength, 1, 0), (22, .if_icmp .ge 39, 3, 61), (25, .aload_n 0, 1, 0), (26, .getfield 11, 3, 0), (29, .iload_n 1, 1, 0), (30, .dup2, 1, 0), (31, .iaload, 1, 0), (32, .iconst 1, 1, 0), (33, .iload_n 2, 1, 0), (34, .ishl, 1, 0), (35, .ior, 1, 0), (36, .iastore, 1, 0), (37, .aload_n 0, 1, 0), (38, .getfield 15, 3, 0), (41, .aload_n 0, 1, 0), (42, .getfield 31, 3, 0), (45, .iconst 2, 1, 0), (46, .iload_n 1, 1, 0), (47, .imul, 1, 0), (48, .iload_n 2, 1, 0), (49, .iadd, 1, 0), (50, .iastore, 1, 0), (51, .aload_n 0, 1, 0), (52, .dup, 1, 0), (53, .getfield 31, 3, 0), (56, .iconst 1, 1, 0), (57, .iadd, 1, 0), (58, .putfield 31, 3, 0), (61, .return_, 1, 0)]
abbrev k_X0_colour : Nat := 105
def il_X0_linkedCell : List (Nat × x_I) := [(0, .aload_n 1, 1, 0), (1, .iload_n 3, 1, 0), (2, .iload 4, 2, 0), (4, .invokevirtual 49, 3, 0), (7, .istore 5, 2, 0), (9, .aload_n 1, 1, 0), (10, .iload 5, 2, 0), (12, .iload_n 2, 1, 0), (13, .invokevirtual 53, 3, 0), (16, .istore 6, 2, 0), (18, .iload 6, 2, 0), (20, .invokestatic 56, 3, 0), (23, .iconst 2, 1, 0), (24, .if_icmp .eq 5, 3, 29), (27, .iconst (-1), 1, 0), (28, .ireturn, 1, 0), (29, .aload_n 1, 1, 0), (30, .iload 5, 2, 0), (32, .iload 6, 2, 0), (34, .invokestatic 62, 3, 0), (37, .invokevirtual 65, 3, 0), (40, .istore 7, 2, 0), (42, .iload 7, 2, 0), (44, .iload_n 3, 1, 0), (45, .if_icmp .eq 8, 3, 53), (48, .iload 7, 2, 0), (50, .goto 19, 3, 69), (53, .aload_n 1, 1, 0), (54, .iload 5, 2, 0), (56, .iload 6, 2, 0), (58, .iload 6, 2, 0), (60, .iconst 1, 1, 0), (61, .isub, 1, 0), (62, .iand, 1, 0), (63, .invokestatic 62, 3, 0), (66, .invokevirtual 65, 3, 0), (69, .ireturn, 1, 0)]
abbrev k_X0_linkedCell : Nat := 106
def il_X0_takes : List (Nat × x_I) := [(0, .aload_n 0, 1, 0), (1, .aload_n 1, 1, 0), (2, .iconst 0, 1, 0), (3, .invokevirtual 68, 3, 0), (6, .ifCond .eq 13, 3, 19), (9, .aload_n 0, 1, 0), (10, .aload_n 2, 1, 0), (11, .iconst 0, 1, 0), (12, .iload_n 3, 1, 0), (13, .invokevirtual 72, 3, 0), (16, .goto 29, 3, 45), (19, .aload_n 0, 1, 0), (20, .aload_n 1, 1, 0), (21, .iconst 1, 1, 0), (22, .invokevirtual 68, 3, 0), (25, .ifCond .eq 13, 3, 38), (28, .aload_n 0, 1, 0), (29, .aload_n 2, 1, 0), (30, .iconst 1, 1, 0), (31, .iload_n 3, 1, 0), (32, .invokevirtual 72, 3, 0), (35, .goto 10, 3, 45), (38, .aload_n 0, 1, 0), (39, .aload_n 1, 1, 0), (40, .aload_n 2, 1, 0), (41, .iload_n 3, 1, 0), (42, .invokevirtual 76, 3, 0), (45, .aload_n 2, 1, 0), (46, .getfield 80, 3, 0), (49, .ifCond .ne 5, 3, 54), (52, .iconst 0, 1, 0), (53, .ireturn, 1, 0), (54, .iconst 0, 1, 0), (55, .istore 4, 2, 0), (57, .iload 4, 2, 0), (59, .aload_n 0, 1, 0), (60, .getfield 31, 3, 0), (63, .if_icmp .ge 22, 3, 85), (66, .aload_n 2, 1, 0), (67, .aload_n 0, 1, 0), (68, .getfield 15, 3, 0), (71, .iload 4, 2, 0), (73, .iaload, 1, 0), (74, .iconst 1, 1, 0), (75, .ishr, 1, 0), (76, .invokevirtual 85, 3, 0), (79, .iinc 4 1, 3, 0), (82, .goto (-25), 3, 57), (85, .iconst 1, 1, 0), (86, .ireturn, 1, 0)]
abbrev k_X0_takes : Nat := 107
def il_X0_clash : List (Nat × x_I) := [(0, .iconst 0, 1, 0), (1, .istore_n 3, 1, 0), (2, .iload_n 3, 1, 0), (3, .aload_n 0, 1, 0), (4, .getfield 31, 3, 0), (7, .if_icmp .ge 87, 3, 94), (10, .iconst 0, 1, 0), (11, .istore 4, 2, 0), (13, .iload 4, 2, 0), (15, .iload_n 3, 1, 0), (16, .if_icmp .ge 72, 3, 88), (19, .aload_n 0, 1, 0), (20, .getfield 15, 3, 0), (23, .iload_n 3, 1, 0), (24, .iaload, 1, 0), (25, .iconst 1, 1, 0), (26, .iand, 1, 0), (27, .iload_n 2, 1, 0), (28, .if_icmp .ne 20, 3, 48), (31, .aload_n 0, 1, 0), (32, .getfield 15, 3, 0), (35, .iload 4, 2, 0), (37, .iaload, 1, 0), (38, .iconst 1, 1, 0), (39, .iand, 1, 0), (40, .iload_n 2, 1, 0), (41, .if_icmp .ne 7, 3, 48), (44, .iconst 1, 1, 0), (45, .goto 4, 3, 49), (48, .iconst 0, 1, 0), (49, .istore 5, 2, 0), (51, .iload 5, 2, 0), (53, .ifCond .eq 29, 3, 82), (56, .aload_n 1, 1, 0), (57, .aload_n 0, 1, 0), (58, .getfield 15, 3, 0), (61, .iload_n 3, 1, 0), (62, .iaload, 1, 0), (63, .iconst 1, 1, 0), (64, .ishr, 1, 0), (65, .aload_n 0, 1, 0), (66, .getfield 15, 3, 0), (69, .iload 4, 2, 0), (71, .iaload, 1, 0), (72, .iconst 1, 1, 0), (73, .ishr, 1, 0), (74, .invokevirtual 89, 3, 0), (77, .ifCond .eq 5, 3, 82), (80, .iconst 1, 1, 0), (81, .ireturn, 1, 0), (82, .iinc 4 1, 3, 0), (85, .goto (-72), 3, 13), (88, .iinc 3 1, 3, 0), (91, .goto (-89), 3, 2), (94, .iconst 0, 1, 0), (95, .ireturn, 1, 0)]
abbrev k_X0_clash : Nat := 108
def il_X0_strikeColour : List (Nat × x_I) := [(0, .iconst 0, 1, 0), (1, .istore 4, 2, 0), (3, .iload 4, 2, 0), (5, .aload_n 0, 1, 0), (6, .getfield 31, 3, 0), (9, .if_icmp .ge 38, 3, 47), (12, .aload_n 0, 1, 0), (13, .getfield 15, 3, 0), (16, .iload 4, 2, 0), (18, .iaload, 1, 0), (19, .iconst 1, 1, 0), (20, .iand, 1, 0), (21, .iload_n 2, 1, 0), (22, .if_icmp .ne 19, 3, 41), (25, .aload_n 1, 1, 0), (26, .aload_n 0, 1, 0), (27, .getfield 15, 3, 0), (30, .iload 4, 2, 0), (32, .iaload, 1, 0), (33, .iconst 1, 1, 0), (34, .ishr, 1, 0), (35, .iconst 1, 1, 0), (36, .iload_n 3, 1, 0), (37, .ishl, 1, 0), (38, .invokevirtual 93, 3, 0), (41, .iinc 4 1, 3, 0), (44, .goto (-41), 3, 3), (47, .return_, 1, 0)]
abbrev k_X0_strikeColour : Nat := 109
def il_X0_strikeOthers : List (Nat × x_I) := [(0, .iconst 0, 1, 0), (1, .istore 4, 2, 0), (3, .iload 4, 2, 0), (5, .aload_n 0, 1, 0), (6, .getfield 11, 3, 0), (9, .arraylength, 1, 0), (10, .if_icmp .ge 120, 3, 130), (13, .aload_n 0, 1, 0), (14, .getfield 11, 3, 0), (17, .iload 4, 2, 0), (19, .iaload, 1, 0), (20, .ifCond .eq 14, 3, 34), (23, .aload_n 0, 1, 0), (24, .getfield 11, 3, 0), (27, .iload 4, 2, 0), (29, .iaload, 1, 0), (30, .iconst 4, 1, 0), (31, .if_icmp .ne 7, 3, 38), (34, .iconst 1, 1, 0), (35, .goto 4, 3, 39), (38, .iconst 0, 1, 0), (39, .istore 5, 2, 0), (41, .iconst 0, 1, 0), (42, .istore 6, 2, 0), (44, .iconst 0, 1, 0), (45, .istore 7, 2, 0), (47, .iload 5, 2, 0), (49, .ifCond .eq 52, 3, 101), (52, .iload 7, 2, 0), (54, .aload_n 0, 1, 0), (55, .getfield 31, 3, 0), (58, .if_icmp .ge 43, 3, 101), (61, .aload_n 1, 1, 0), (62, .iload 4, 2, 0), (64, .aload_n 0, 1, 0), (65, .getfield 15, 3, 0), (68, .iload 7, 2, 0), (70, .iaload, 1, 0), (71, .iconst 1, 1, 0), (72, .ishr, 1, 0), (73, .invokevirtual 89, 3, 0), (76, .ifCond .eq 19, 3, 95), (79, .iload 6, 2, 0), (81, .iconst 1, 1, 0), (82, .aload_n 0, 1, 0), (83, .getfield 15, 3, 0), (86, .iload 7, 2, 0), (88, .iaload, 1, 0), (89, .iconst 1, 1, 0), (90, .iand, 1, 0), (91, .ishl, 1, 0), (92, .ior, 1, 0), (93, .istore 6, 2, 0), (95, .iinc 7 1, 3, 0), (98, .goto (-51), 3, 47), (101, .iload 6, 2, 0), (103, .iconst 3, 1, 0), (104, .if_icmp .ne 20, 3, 124), (107, .aload_n 2, 1, 0), (108, .iload 4, 2, 0), (110, .aload_n 1, 1, 0), (111, .getfield 24, 3, 0), (114, .iload 4, 2, 0), (116, .iaload, 1, 0), (117, .iconst 1, 1, 0), (118, .iload_n 3, 1, 0), (119, .ishl, 1, 0), (120, .iand, 1, 0), (121, .invokevirtual 93, 3, 0), (124, .iinc 4 1, 3, 0), (127, .goto (-124), 3, 3), (130, .return_, 1, 0)]
abbrev k_X0_strikeOthers : Nat := 110
def il_X0_leaveBehind : List (Nat × x_I) := [(0, .iconst 0, 1, 0), (1, .istore_n 1, 1, 0), (2, .iload_n 1, 1, 0), (3, .aload_n 0, 1, 0), (4, .getfield 31, 3, 0), (7, .if_icmp .ge 23, 3, 30), (10, .aload_n 0, 1, 0), (11, .getfield 11, 3, 0), (14, .aload_n 0, 1, 0), (15, .getfield 15, 3, 0), (18, .iload_n 1, 1, 0), (19, .iaload, 1, 0), (20, .iconst 1, 1, 0), (21, .ishr, 1, 0), (22, .iconst 4, 1, 0), (23, .iastore, 1, 0), (24, .iinc 1 1, 3, 0), (27, .goto (-25), 3, 2), (30, .return_, 1, 0)]
abbrev k_X0_leaveBehind : Nat := 111
def il_X5_init : List (Nat × x_I) := [(0, .aload_n 0, 1, 0), (1, .invokespecial 3, 3, 0), (4, .aload_n 0, 1, 0), (5, .new 9, 3, 0), (8, .dup, 1, 0), (9, .iload_n 1, 1, 0), (10, .invokespecial 11, 3, 0), (13, .putfield 14, 3, 0), (16, .aload_n 0, 1, 0), (17, .aload_n 0, 1, 0), (18, .getfield 14, 3, 0), (21, .getfield 20, 3, 0), (24, .putfield 24, 3, 0), (27, .aload_n 0, 1, 0), (28, .new 25, 3, 0), (31, .dup, 1, 0), (32, .aload_n 0, 1, 0), (33, .getfield 14, 3, 0), (36, .getfield 27, 3, 0), (39, .invokespecial 30, 3, 0), (42, .putfield 31, 3, 0), (45, .aload_n 0, 1, 0), (46, .new 35, 3, 0), (49, .dup, 1, 0), (50, .aload_n 0, 1, 0), (51, .getfield 24, 3, 0), (54, .invokespecial 37, 3, 0), (57, .putfield 38, 3, 0), (60, .aload_n 0, 1, 0), (61, .new 42, 3, 0), (64, .dup, 1, 0), (65, .aload_n 0, 1, 0), (66, .getfield 14, 3, 0), (69, .getfield 27, 3, 0), (72, .invokespecial 44, 3, 0), (75, .putfield 45, 3, 0), (78, .aload_n 0, 1, 0), (79, .aload_n 0, 1, 0), (80, .getfield 24, 3, 0), (83, .newarray .int, 2, 0), (85, .putfield 49, 3, 0), (88, .return_, 1, 0)]
abbrev k_X5_init : Nat := 112
def il_X5_seek : List (Nat × x_I) := [(0, .iload_n 1, 1, 0), (1, .tableswitch 207 0 17 #[87, 92, 103, 109, 118, 123, 128, 128, 128, 136, 136, 145, 152, 162, 169, 179, 185, 191], 87, 0), (88, .aload_n 0, 1, 0), (89, .invokevirtual 53, 3, 0), (92, .ireturn, 1, 0), (93, .aload_n 0, 1, 0), (94, .iconst 2, 1, 0), (95, .aload_n 0, 1, 0), (96, .getfield 24, 3, 0), (99, .imul, 1, 0), (100, .invokevirtual 57, 3, 0), (103, .ireturn, 1, 0), (104, .aload_n 0, 1, 0), (105, .iconst 0, 1, 0), (106, .invokevirtual 57, 3, 0), (109, .ireturn, 1, 0), (110, .aload_n 0, 1, 0), (111, .aload_n 0, 1, 0), (112, .getfield 24, 3, 0), (115, .invokevirtual 57, 3, 0), (118, .ireturn, 1, 0), (119, .aload_n 0, 1, 0), (120, .invokevirtual 61, 3, 0), (123, .ireturn, 1, 0), (124, .aload_n 0, 1, 0), (125, .invokevirtual 64, 3, 0), (128, .ireturn, 1, 0), (129, .aload_n 0, 1, 0), (130, .iload_n 1, 1, 0), (131, .iconst 4, 1, 0), (132, .isub, 1, 0), (133, .invokevirtual 67, 3, 0), (136, .ireturn, 1, 0), (137, .aload_n 0, 1, 0), (138, .iload_n 1, 1, 0), (139, .bipush 7, 2, 0), (141, .isub, 1, 0), (142, .invokevirtual 70, 3, 0), (145, .ireturn, 1, 0), (146, .aload_n 0, 1, 0), (147, .iconst 0, 1, 0), (148, .iconst 2, 1, 0), (149, .invokevirtual 73, 3, 0), (152, .ireturn, 1, 0), (153, .aload_n 0, 1, 0), (154, .aload_n 0, 1, 0), (155, .getfield 24, 3, 0), (158, .iconst 2, 1, 0), (159, .invokevirtual 73, 3, 0), (162, .ireturn, 1, 0), (163, .aload_n 0, 1, 0), (164, .iconst 0, 1, 0), (165, .iconst 3, 1, 0), (166, .invokevirtual 73, 3, 0), (169, .ireturn, 1, 0), (170, .aload_n 0, 1, 0), (171, .aload_n 0, 1, 0), (172, .getfield 24, 3, 0), (175, .iconst 3, 1, 0), (176, .invokevirtual 73, 3, 0), (179, .ireturn, 1, 0), (180, .aload_n 0, 1, 0), (181, .iconst 2, 1, 0), (182, .invokevirtual 77, 3, 0), (185, .ireturn, 1, 0), (186, .aload_n 0, 1, 0), (187, .iconst 3, 1, 0), (188, .invokevirtual 77, 3, 0), (191, .ireturn, 1, 0), (192, .aload_n 0, 1, 0), (193, .getfield 45, 3, 0), (196, .aload_n 0, 1, 0), (197, .getfield 14, 3, 0), (200, .aload_n 0, 1, 0), (201, .getfield 31, 3, 0), (204, .invokevirtual 80, 3, 0), (207, .ireturn, 1, 0), (208, .aload_n 0, 1, 0), (209, .invokevirtual 84, 3, 0), (212, .ireturn, 1, 0)]
abbrev k_X5_seek : Nat := 113
def il_X5_settle : List (Nat × x_I) := [(0, .aload_n 0, 1, 0), (1, .getfield 31, 3, 0), (4, .iload_n 1, 1, 0), (5, .putfield 87, 3, 0), (8, .aload_n 0, 1, 0), (9, .getfield 31, 3, 0), (12, .iload_n 2, 1, 0), (13, .putfield 90, 3, 0), (16, .aload_n 0, 1, 0), (17, .getfield 31, 3, 0), (20, .iload_n 1, 1, 0), (21, .aload_n 0, 1, 0), (22, .getfield 14, 3, 0), (25, .getfield 93, 3, 0), (28, .iload_n 1, 1, 0), (29, .iaload, 1, 0), (30, .iconst 1, 1, 0), (31, .iload_n 2, 1, 0), (32, .ishl, 1, 0), (33, .iconst (-1), 1, 0), (34, .ixor, 1, 0), (35, .iand, 1, 0), (36, .invokevirtual 96, 3, 0), (39, .iconst 0, 1, 0), (40, .istore_n 3, 1, 0), (41, .iload_n 3, 1, 0), (42, .aload_n 0, 1, 0), (43, .getfield 14, 3, 0), (46, .getfield 27, 3, 0), (49, .if_icmp .ge 42, 3, 91), (52, .aload_n 0, 1, 0), (53, .getfield 14, 3, 0), (56, .iload_n 1, 1, 0), (57, .iload_n 3, 1, 0), (58, .invokevirtual 100, 3, 0), (61, .ifCond .eq 24, 3, 85), (64, .aload_n 0, 1, 0), (65, .getfield 31, 3, 0), (68, .iload_n 3, 1, 0), (69, .aload_n 0, 1, 0), (70, .getfield 14, 3, 0), (73, .getfield 93, 3, 0), (76, .iload_n 3, 1, 0), (77, .iaload, 1, 0), (78, .iconst 1, 1, 0), (79, .iload_n 2, 1, 0), (80, .ishl, 1, 0), (81, .iand, 1, 0), (82, .invokevirtual 96, 3, 0), (85, .iinc 3 1, 3, 0), (88, .goto (-47), 3, 41), (91, .return_, 1, 0)]
abbrev k_X5_settle : Nat := 114
def il_X5_strikePlaces : List (Nat × x_I) := [(0, .iconst 0, 1, 0), (1, .istore 4, 2, 0), (3, .iload 4, 2, 0), (5, .aload_n 0, 1, 0), (6, .getfield 24, 3, 0), (9, .if_icmp .ge 51, 3, 60), (12, .iload_n 2, 1, 0), (13, .iload 4, 2, 0), (15, .ishr, 1, 0), (16, .iconst 1, 1, 0), (17, .iand, 1, 0), (18, .ifCond .eq 36, 3, 54), (21, .aload_n 0, 1, 0), (22, .getfield 14, 3, 0), (25, .iload_n 1, 1, 0), (26, .iload 4, 2, 0), (28, .invokevirtual 103, 3, 0), (31, .istore 5, 2, 0), (33, .aload_n 0, 1, 0), (34, .getfield 31, 3, 0), (37, .iload 5, 2, 0), (39, .aload_n 0, 1, 0), (40, .getfield 14, 3, 0), (43, .getfield 93, 3, 0), (46, .iload 5, 2, 0), (48, .iaload, 1, 0), (49, .iload_n 3, 1, 0), (50, .iand, 1, 0), (51, .invokevirtual 96, 3, 0), (54, .iinc 4 1, 3, 0), (57, .goto (-54), 3, 3), (60, .return_, 1, 0)]
abbrev k_X5_strikePlaces : Nat := 115
def il_X5_takesSome : List (Nat × x_I) := [(0, .aload_n 0, 1, 0), (1, .getfield 31, 3, 0), (4, .getfield 106, 3, 0), (7, .ifCond .le 7, 3, 14), (10, .iconst 1, 1, 0), (11, .goto 4, 3, 15), (14, .iconst 0, 1, 0), (15, .ireturn, 1, 0)]
abbrev k_X5_takesSome : Nat := 116
def il_X5_becauseOf : List (Nat × x_I) := [(0, .iconst 0, 1, 0), (1, .istore_n 3, 1, 0), (2, .iload_n 3, 1, 0), (3, .aload_n 0, 1, 0), (4, .getfield 24, 3, 0), (7, .if_icmp .ge 33, 3, 40), (10, .iload_n 2, 1, 0), (11, .iload_n 3, 1, 0), (12, .ishr, 1, 0), (13, .iconst 1, 1, 0), (14, .iand, 1, 0), (15, .ifCond .eq 19, 3, 34), (18, .aload_n 0, 1, 0), (19, .getfield 31, 3, 0), (22, .aload_n 0, 1, 0), (23, .getfield 14, 3, 0), (26, .iload_n 1, 1, 0), (27, .iload_n 3, 1, 0), (28, .invokevirtual 103, 3, 0), (31, .invokevirtual 109, 3, 0), (34, .iinc 3 1, 3, 0), (37, .goto (-35), 3, 2), (40, .return_, 1, 0)]
abbrev k_X5_becauseOf : Nat := 117
def il_X5_last : List (Nat × x_I) := [(0, .iconst 0, 1, 0), (1, .istore_n 1, 1, 0), (2, .iload_n 1, 1, 0), (3, .aload_n 0, 1, 0), (4, .getfield 14, 3, 0), (7, .getfield 27, 3, 0), (10, .if_icmp .ge 63, 3, 73), (13, .aload_n 0, 1, 0), (14, .getfield 14, 3, 0), (17, .iload_n 1, 1, 0), (18, .invokevirtual 112, 3, 0), (21, .ifCond .eq 46, 3, 67), (24, .aload_n 0, 1, 0), (25, .getfield 14, 3, 0), (28, .getfield 93, 3, 0), (31, .iload_n 1, 1, 0), (32, .iaload, 1, 0), (33, .invokestatic 115, 3, 0), (36, .iconst 1, 1, 0), (37, .if_icmp .ne 30, 3, 67), (40, .aload_n 0, 1, 0), (41, .iload_n 1, 1, 0), (42, .aload_n 0, 1, 0), (43, .getfield 14, 3, 0), (46, .getfield 93, 3, 0), (49, .iload_n 1, 1, 0), (50, .iaload, 1, 0), (51, .invokestatic 121, 3, 0), (54, .invokevirtual 124, 3, 0), (57, .aload_n 0, 1, 0), (58, .getfield 31, 3, 0), (61, .iload_n 1, 1, 0), (62, .invokevirtual 109, 3, 0), (65, .iconst 1, 1, 0), (66, .ireturn, 1, 0), (67, .iinc 1 1, 3, 0), (70, .goto (-68), 3, 2), (73, .iconst 0, 1, 0), (74, .ireturn, 1, 0)]
abbrev k_X5_last : Nat := 118
def il_X5_onlyPlace : List (Nat × x_I) := [(0, .iload_n 1, 1, 0), (1, .istore_n 2, 1, 0), (2, .iload_n 2, 1, 0), (3, .iload_n 1, 1, 0), (4, .aload_n 0, 1, 0), (5, .getfield 24, 3, 0), (8, .iadd, 1, 0), (9, .if_icmp .ge 87, 3, 96), (12, .iconst 0, 1, 0), (13, .istore_n 3, 1, 0), (14, .iload_n 3, 1, 0), (15, .aload_n 0, 1, 0), (16, .getfield 24, 3, 0), (19, .if_icmp .ge 71, 3, 90), (22, .aload_n 0, 1, 0), (23, .getfield 14, 3, 0), (26, .iload_n 2, 1, 0), (27, .iload_n 3, 1, 0), (28, .invokevirtual 127, 3, 0), (31, .istore 4, 2, 0), (33, .iload 4, 2, 0), (35, .invokestatic 115, 3, 0), (38, .iconst 1, 1, 0), (39, .if_icmp .ne 45, 3, 84), (42, .aload_n 0, 1, 0), (43, .iload_n 2, 1, 0), (44, .iload_n 3, 1, 0), (45, .invokevirtual 130, 3, 0), (48, .ifCond .eq 36, 3, 84), (51, .aload_n 0, 1, 0), (52, .aload_n 0, 1, 0), (53, .getfield 14, 3, 0), (56, .iload_n 2, 1, 0), (57, .iload 4, 2, 0), (59, .invokestatic 121, 3, 0), (62, .invokevirtual 103, 3, 0), (65, .iload_n 3, 1, 0), (66, .invokevirtual 124, 3, 0), (69, .aload_n 0, 1, 0), (70, .iload_n 2, 1, 0), (71, .iconst 1, 1, 0), (72, .aload_n 0, 1, 0), (73, .getfield 24, 3, 0), (76, .ishl, 1, 0), (77, .iconst 1, 1, 0), (78, .isub, 1, 0), (79, .invokevirtual 133, 3, 0), (82, .iconst 1, 1, 0), (83, .ireturn, 1, 0), (84, .iinc 3 1, 3, 0), (87, .goto (-73), 3, 14), (90, .iinc 2 1, 3, 0), (93, .goto (-91), 3, 2), (96, .iconst 0, 1, 0), (97, .ireturn, 1, 0)]
abbrev k_X5_onlyPlace : Nat := 119
def il_X5_isOpenIn : List (Nat × x_I) := [(0, .aload_n 0, 1, 0), (1, .getfield 14, 3, 0), (4, .iload_n 1, 1, 0), (5, .iload_n 2, 1, 0), (6, .invokevirtual 127, 3, 0), (9, .istore_n 3, 1, 0), (10, .iload_n 3, 1, 0), (11, .invokestatic 115, 3, 0), (14, .iconst 1, 1, 0), (15, .if_icmp .gt 29, 3, 44), (18, .iload_n 3, 1, 0), (19, .ifCond .eq 29, 3, 48), (22, .aload_n 0, 1, 0), (23, .getfield 14, 3, 0), (26, .aload_n 0, 1, 0), (27, .getfield 14, 3, 0), (30, .iload_n 1, 1, 0), (31, .iload_n 3, 1, 0), (32, .invokestatic 121, 3, 0), (35, .invokevirtual 103, 3, 0), (38, .invokevirtual 112, 3, 0), (41, .ifCond .eq 7, 3, 48), (44, .iconst 1, 1, 0), (45, .goto 4, 3, 49), (48, .iconst 0, 1, 0), (49, .ireturn, 1, 0)]
abbrev k_X5_isOpenIn : Nat := 120
def il_X5_pointing : List (Nat × x_I) := [(0, .iconst 2, 1, 0), (1, .aload_n 0, 1, 0), (2, .getfield 24, 3, 0), (5, .imul, 1, 0), (6, .istore_n 1, 1, 0), (7, .iload_n 1, 1, 0), (8, .iconst 3, 1, 0), (9, .aload_n 0, 1, 0), (10, .getfield 24, 3, 0), (13, .imul, 1, 0), (14, .if_icmp .ge 47, 3, 61), (17, .iconst 0, 1, 0), (18, .istore_n 2, 1, 0), (19, .iload_n 2, 1, 0), (20, .aload_n 0, 1, 0), (21, .getfield 24, 3, 0), (24, .if_icmp .ge 31, 3, 55), (27, .aload_n 0, 1, 0), (28, .iload_n 1, 1, 0), (29, .iload_n 2, 1, 0), (30, .iconst 0, 1, 0), (31, .invokevirtual 136, 3, 0), (34, .ifCond .ne 13, 3, 47), (37, .aload_n 0, 1, 0), (38, .iload_n 1, 1, 0), (39, .iload_n 2, 1, 0), (40, .iconst 1, 1, 0), (41, .invokevirtual 136, 3, 0), (44, .ifCond .eq 5, 3, 49), (47, .iconst 1, 1, 0), (48, .ireturn, 1, 0), (49, .iinc 2 1, 3, 0), (52, .goto (-33), 3, 19), (55, .iinc 1 1, 3, 0), (58, .goto (-51), 3, 7), (61, .iconst 0, 1, 0), (62, .ireturn, 1, 0)]
abbrev k_X5_pointing : Nat := 121
def il_X5_claiming : List (Nat × x_I) := [(0, .iconst 0, 1, 0), (1, .istore_n 1, 1, 0), (2, .iload_n 1, 1, 0), (3, .iconst 2, 1, 0), (4, .aload_n 0, 1, 0), (5, .getfield 24, 3, 0), (8, .imul, 1, 0), (9, .if_icmp .ge 37, 3, 46), (12, .iconst 0, 1, 0), (13, .istore_n 2, 1, 0), (14, .iload_n 2, 1, 0), (15, .aload_n 0, 1, 0), (16, .getfield 24, 3, 0), (19, .if_icmp .ge 21, 3, 40), (22, .aload_n 0, 1, 0), (23, .iload_n 1, 1, 0), (24, .iload_n 2, 1, 0), (25, .iconst 2, 1, 0), (26, .invokevirtual 136, 3, 0), (29, .ifCond .eq 5, 3, 34), (32, .iconst 1, 1, 0), (33, .ireturn, 1, 0), (34, .iinc 2 1, 3, 0), (37, .goto (-23), 3, 14), (40, .iinc 1 1, 3, 0), (43, .goto (-41), 3, 2), (46, .iconst 0, 1, 0), (47, .ireturn, 1, 0)]
abbrev k_X5_claiming : Nat := 122
def il_X5_confined : List (Nat × x_I) := [(0, .aload_n 0, 1, 0), (1, .getfield 14, 3, 0), (4, .iload_n 1, 1, 0), (5, .iload_n 2, 1, 0), (6, .invokevirtual 127, 3, 0), (9, .istore 4, 2, 0), (11, .iload 4, 2, 0), (13, .invokestatic 115, 3, 0), (16, .iconst 2, 1, 0), (17, .if_icmp .ge 5, 3, 22), (20, .iconst 0, 1, 0), (21, .ireturn, 1, 0), (22, .aload_n 0, 1, 0), (23, .iload_n 1, 1, 0), (24, .iload 4, 2, 0), (26, .iload_n 3, 1, 0), (27, .invokevirtual 140, 3, 0), (30, .istore 5, 2, 0), (32, .iload 5, 2, 0), (34, .iconst (-1), 1, 0), (35, .if_icmp .ne 5, 3, 40), (38, .iconst 0, 1, 0), (39, .ireturn, 1, 0), (40, .iconst 0, 1, 0), (41, .istore 6, 2, 0), (43, .iload 6, 2, 0), (45, .aload_n 0, 1, 0), (46, .getfield 24, 3, 0), (49, .if_icmp .ge 58, 3, 107), (52, .aload_n 0, 1, 0), (53, .getfield 14, 3, 0), (56, .iload 5, 2, 0), (58, .iload 6, 2, 0), (60, .invokevirtual 103, 3, 0), (63, .istore 7, 2, 0), (65, .aload_n 0, 1, 0), (66, .getfield 14, 3, 0), (69, .iload 7, 2, 0), (71, .iload_n 1, 1, 0), (72, .invokevirtual 144, 3, 0), (75, .ifCond .ne 26, 3, 101), (78, .aload_n 0, 1, 0), (79, .getfield 31, 3, 0), (82, .iload 7, 2, 0), (84, .aload_n 0, 1, 0), (85, .getfield 14, 3, 0), (88, .getfield 93, 3, 0), (91, .iload 7, 2, 0), (93, .iaload, 1, 0), (94, .iconst 1, 1, 0), (95, .iload_n 2, 1, 0), (96, .ishl, 1, 0), (97, .iand, 1, 0), (98, .invokevirtual 96, 3, 0), (101, .iinc 6 1, 3, 0), (104, .goto (-61), 3, 43), (107, .aload_n 0, 1, 0), (108, .invokevirtual 147, 3, 0), (111, .ifCond .ne 5, 3, 116), (114, .iconst 0, 1, 0), (115, .ireturn, 1, 0), (116, .aload_n 0, 1, 0), (117, .iload_n 1, 1, 0), (118, .iload 4, 2, 0), (120, .invokevirtual 133, 3, 0), (123, .iconst 1, 1, 0), (124, .ireturn, 1, 0)]
abbrev k_X5_confined : Nat := 123
def il_X5_sharedHouse : List (Nat × x_I) := [(0, .aload_n 0, 1, 0), (1, .getfield 14, 3, 0), (4, .aload_n 0, 1, 0), (5, .getfield 14, 3, 0), (8, .iload_n 1, 1, 0), (9, .iload_n 2, 1, 0), (10, .invokestatic 121, 3, 0), (13, .invokevirtual 103, 3, 0), (16, .iload_n 3, 1, 0), (17, .invokevirtual 150, 3, 0), (20, .istore 4, 2, 0), (22, .iconst 0, 1, 0), (23, .istore 5, 2, 0), (25, .iload 5, 2, 0), (27, .aload_n 0, 1, 0), (28, .getfield 24, 3, 0), (31, .if_icmp .ge 43, 3, 74), (34, .iload_n 2, 1, 0), (35, .iload 5, 2, 0), (37, .ishr, 1, 0), (38, .iconst 1, 1, 0), (39, .iand, 1, 0), (40, .ifCond .eq 28, 3, 68), (43, .aload_n 0, 1, 0), (44, .getfield 14, 3, 0), (47, .aload_n 0, 1, 0), (48, .getfield 14, 3, 0), (51, .iload_n 1, 1, 0), (52, .iload 5, 2, 0), (54, .invokevirtual 103, 3, 0), (57, .iload_n 3, 1, 0), (58, .invokevirtual 150, 3, 0), (61, .iload 4, 2, 0), (63, .if_icmp .eq 5, 3, 68), (66, .iconst (-1), 1, 0), (67, .ireturn, 1, 0), (68, .iinc 5 1, 3, 0), (71, .goto (-46), 3, 25), (74, .iload 4, 2, 0), (76, .ireturn, 1, 0)]
abbrev k_X5_sharedHouse : Nat := 124
def il_X5_nakedSet : List (Nat × x_I) := [(0, .iconst 0, 1, 0), (1, .istore_n 2, 1, 0), (2, .iload_n 2, 1, 0), (3, .aload_n 0, 1, 0), (4, .getfield 14, 3, 0), (7, .getfield 153, 3, 0), (10, .if_icmp .ge 167, 3, 177), (13, .iconst 0, 1, 0), (14, .istore_n 3, 1, 0), (15, .iload_n 3, 1, 0), (16, .aload_n 0, 1, 0), (17, .getfield 24, 3, 0), (20, .if_icmp .ge 52, 3, 72), (23, .aload_n 0, 1, 0), (24, .getfield 14, 3, 0), (27, .iload_n 2, 1, 0), (28, .iload_n 3, 1, 0), (29, .invokevirtual 103, 3, 0), (32, .istore 4, 2, 0), (34, .aload_n 0, 1, 0), (35, .getfield 49, 3, 0), (38, .iload_n 3, 1, 0), (39, .aload_n 0, 1, 0), (40, .getfield 14, 3, 0), (43, .iload 4, 2, 0), (45, .invokevirtual 112, 3, 0), (48, .ifCond .eq 16, 3, 64), (51, .aload_n 0, 1, 0), (52, .getfield 14, 3, 0), (55, .getfield 93, 3, 0), (58, .iload 4, 2, 0), (60, .iaload, 1, 0), (61, .goto 4, 3, 65), (64, .iconst 0, 1, 0), (65, .iastore, 1, 0), (66, .iinc 3 1, 3, 0), (69, .goto (-54), 3, 15), (72, .aload_n 0, 1, 0), (73, .iload_n 1, 1, 0), (74, .invokevirtual 156, 3, 0), (77, .istore_n 3, 1, 0), (78, .iload_n 3, 1, 0), (79, .invokestatic 115, 3, 0), (82, .iload_n 1, 1, 0), (83, .if_icmp .ge 6, 3, 89), (86, .goto 85, 3, 171), (89, .aload_n 0, 1, 0), (90, .getfield 38, 3, 0), (93, .iload_n 1, 1, 0), (94, .invokevirtual 159, 3, 0), (97, .istore 4, 2, 0), (99, .iload 4, 2, 0), (101, .aload_n 0, 1, 0), (102, .getfield 38, 3, 0), (105, .iload_n 1, 1, 0), (106, .invokevirtual 162, 3, 0), (109, .if_icmp .ge 62, 3, 171), (112, .aload_n 0, 1, 0), (113, .getfield 38, 3, 0), (116, .iload 4, 2, 0), (118, .invokevirtual 165, 3, 0), (121, .istore 5, 2, 0), (123, .aload_n 0, 1, 0), (124, .iload 5, 2, 0), (126, .iload_n 3, 1, 0), (127, .iload_n 1, 1, 0), (128, .invokevirtual 168, 3, 0), (131, .ifCond .eq 34, 3, 165), (134, .aload_n 0, 1, 0), (135, .iload_n 2, 1, 0), (136, .iload 5, 2, 0), (138, .iconst (-1), 1, 0), (139, .ixor, 1, 0), (140, .aload_n 0, 1, 0), (141, .iload 5, 2, 0), (143, .invokevirtual 171, 3, 0), (146, .invokevirtual 174, 3, 0), (149, .aload_n 0, 1, 0), (150, .invokevirtual 147, 3, 0), (153, .ifCond .eq 12, 3, 165), (156, .aload_n 0, 1, 0), (157, .iload_n 2, 1, 0), (158, .iload 5, 2, 0), (160, .invokevirtual 133, 3, 0), (163, .iconst 1, 1, 0), (164, .ireturn, 1, 0), (165, .iinc 4 1, 3, 0), (168, .goto (-69), 3, 99), (171, .iinc 2 1, 3, 0), (174, .goto (-172), 3, 2), (177, .iconst 0, 1, 0), (178, .ireturn, 1, 0)]
abbrev k_X5_nakedSet : Nat := 125
def il_X5_hiddenSet : List (Nat × x_I) := [(0, .iconst 0, 1, 0), (1, .istore_n 2, 1, 0), (2, .iload_n 2, 1, 0), (3, .aload_n 0, 1, 0), (4, .getfield 14, 3, 0), (7, .getfield 153, 3, 0), (10, .if_icmp .ge 156, 3, 166), (13, .iconst 0, 1, 0), (14, .istore_n 3, 1, 0), (15, .iload_n 3, 1, 0), (16, .aload_n 0, 1, 0), (17, .getfield 24, 3, 0), (20, .if_icmp .ge 37, 3, 57), (23, .aload_n 0, 1, 0), (24, .getfield 49, 3, 0), (27, .iload_n 3, 1, 0), (28, .aload_n 0, 1, 0), (29, .iload_n 2, 1, 0), (30, .iload_n 3, 1, 0), (31, .invokevirtual 130, 3, 0), (34, .ifCond .eq 15, 3, 49), (37, .aload_n 0, 1, 0), (38, .getfield 14, 3, 0), (41, .iload_n 2, 1, 0), (42, .iload_n 3, 1, 0), (43, .invokevirtual 127, 3, 0), (46, .goto 4, 3, 50), (49, .iconst 0, 1, 0), (50, .iastore, 1, 0), (51, .iinc 3 1, 3, 0), (54, .goto (-39), 3, 15), (57, .aload_n 0, 1, 0), (58, .iload_n 1, 1, 0), (59, .invokevirtual 156, 3, 0), (62, .istore_n 3, 1, 0), (63, .iload_n 3, 1, 0), (64, .invokestatic 115, 3, 0), (67, .iload_n 1, 1, 0), (68, .if_icmp .ge 6, 3, 74), (71, .goto 89, 3, 160), (74, .aload_n 0, 1, 0), (75, .getfield 38, 3, 0), (78, .iload_n 1, 1, 0), (79, .invokevirtual 159, 3, 0), (82, .istore 4, 2, 0), (84, .iload 4, 2, 0), (86, .aload_n 0, 1, 0), (87, .getfield 38, 3, 0), (90, .iload_n 1, 1, 0), (91, .invokevirtual 162, 3, 0), (94, .if_icmp .ge 66, 3, 160), (97, .aload_n 0, 1, 0), (98, .getfield 38, 3, 0), (101, .iload 4, 2, 0), (103, .invokevirtual 165, 3, 0), (106, .istore 5, 2, 0), (108, .aload_n 0, 1, 0), (109, .iload 5, 2, 0), (111, .iload_n 3, 1, 0), (112, .iload_n 1, 1, 0), (113, .invokevirtual 168, 3, 0), (116, .ifCond .eq 38, 3, 154), (119, .aload_n 0, 1, 0), (120, .iload_n 2, 1, 0), (121, .aload_n 0, 1, 0), (122, .iload 5, 2, 0), (124, .invokevirtual 171, 3, 0), (127, .iload 5, 2, 0), (129, .iconst (-1), 1, 0), (130, .ixor, 1, 0), (131, .invokevirtual 174, 3, 0), (134, .aload_n 0, 1, 0), (135, .invokevirtual 147, 3, 0), (138, .ifCond .eq 16, 3, 154), (141, .aload_n 0, 1, 0), (142, .iload_n 2, 1, 0), (143, .aload_n 0, 1, 0), (144, .iload 5, 2, 0), (146, .invokevirtual 171, 3, 0), (149, .invokevirtual 133, 3, 0), (152, .iconst 1, 1, 0), (153, .ireturn, 1, 0), (154, .iinc 4 1, 3, 0), (157, .goto (-73), 3, 84), (160, .iinc 2 1, 3, 0), (163, .goto (-161), 3, 2), (166, .iconst 0, 1, 0), (167, .ireturn, 1, 0)]
abbrev k_X5_hiddenSet : Nat := 126
def il_X5_crossing : List (Nat × x_I) := [(0, .iconst 0, 1, 0), (1, .istore_n 3, 1, 0), (2, .iload_n 3, 1, 0), (3, .aload_n 0, 1, 0), (4, .getfield 24, 3, 0), (7, .if_icmp .ge 147, 3, 154), (10, .iconst 0, 1, 0), (11, .istore 4, 2, 0), (13, .iload 4, 2, 0), (15, .aload_n 0, 1, 0), (16, .getfield 24, 3, 0), (19, .if_icmp .ge 45, 3, 64), (22, .aload_n 0, 1, 0), (23, .getfield 14, 3, 0), (26, .iload_n 1, 1, 0), (27, .iload 4, 2, 0), (29, .iadd, 1, 0), (30, .iload_n 3, 1, 0), (31, .invokevirtual 127, 3, 0), (34, .istore 5, 2, 0), (36, .aload_n 0, 1, 0), (37, .getfield 49, 3, 0), (40, .iload 4, 2, 0), (42, .iload 5, 2, 0), (44, .invokestatic 115, 3, 0), (47, .iconst 2, 1, 0), (48, .if_icmp .lt 8, 3, 56), (51, .iload 5, 2, 0), (53, .goto 4, 3, 57), (56, .iconst 0, 1, 0), (57, .iastore, 1, 0), (58, .iinc 4 1, 3, 0), (61, .goto (-48), 3, 13), (64, .aload_n 0, 1, 0), (65, .iload_n 2, 1, 0), (66, .invokevirtual 156, 3, 0), (69, .istore 4, 2, 0), (71, .iload 4, 2, 0), (73, .invokestatic 115, 3, 0), (76, .iload_n 2, 1, 0), (77, .if_icmp .ge 6, 3, 83), (80, .goto 68, 3, 148), (83, .aload_n 0, 1, 0), (84, .getfield 38, 3, 0), (87, .iload_n 2, 1, 0), (88, .invokevirtual 159, 3, 0), (91, .istore 5, 2, 0), (93, .iload 5, 2, 0), (95, .aload_n 0, 1, 0), (96, .getfield 38, 3, 0), (99, .iload_n 2, 1, 0), (100, .invokevirtual 162, 3, 0), (103, .if_icmp .ge 45, 3, 148), (106, .aload_n 0, 1, 0), (107, .getfield 38, 3, 0), (110, .iload 5, 2, 0), (112, .invokevirtual 165, 3, 0), (115, .istore 6, 2, 0), (117, .aload_n 0, 1, 0), (118, .iload 6, 2, 0), (120, .iload 4, 2, 0), (122, .iload_n 2, 1, 0), (123, .invokevirtual 168, 3, 0), (126, .ifCond .eq 16, 3, 142), (129, .aload_n 0, 1, 0), (130, .iload_n 1, 1, 0), (131, .iload 6, 2, 0), (133, .iload_n 3, 1, 0), (134, .invokevirtual 178, 3, 0), (137, .ifCond .eq 5, 3, 142), (140, .iconst 1, 1, 0), (141, .ireturn, 1, 0), (142, .iinc 5 1, 3, 0), (145, .goto (-52), 3, 93), (148, .iinc 3 1, 3, 0), (151, .goto (-149), 3, 2), (154, .iconst 0, 1, 0), (155, .ireturn, 1, 0)]
abbrev k_X5_crossing : Nat := 127
def il_X5_crossingAt : List (Nat × x_I) := [(0, .aload_n 0, 1, 0), (1, .iload_n 2, 1, 0), (2, .invokevirtual 171, 3, 0), (5, .istore 4, 2, 0), (7, .iconst 0, 1, 0), (8, .istore 5, 2, 0), (10, .iload 5, 2, 0), (12, .aload_n 0, 1, 0), (13, .getfield 24, 3, 0), (16, .if_icmp .ge 31, 3, 47), (19, .iload_n 2, 1, 0), (20, .iload 5, 2, 0), (22, .ishr, 1, 0), (23, .iconst 1, 1, 0), (24, .iand, 1, 0), (25, .ifCond .ne 16, 3, 41), (28, .aload_n 0, 1, 0), (29, .iload_n 1, 1, 0), (30, .iload 5, 2, 0), (32, .iadd, 1, 0), (33, .iload 4, 2, 0), (35, .iconst 1, 1, 0), (36, .iload_n 3, 1, 0), (37, .ishl, 1, 0), (38, .invokevirtual 174, 3, 0), (41, .iinc 5 1, 3, 0), (44, .goto (-34), 3, 10), (47, .aload_n 0, 1, 0), (48, .invokevirtual 147, 3, 0), (51, .ifCond .ne 5, 3, 56), (54, .iconst 0, 1, 0), (55, .ireturn, 1, 0), (56, .iconst 0, 1, 0), (57, .istore 5, 2, 0), (59, .iload 5, 2, 0), (61, .aload_n 0, 1, 0), (62, .getfield 24, 3, 0), (65, .if_icmp .ge 38, 3, 103), (68, .iload_n 2, 1, 0), (69, .iload 5, 2, 0), (71, .ishr, 1, 0), (72, .iconst 1, 1, 0), (73, .iand, 1, 0), (74, .ifCond .eq 23, 3, 97), (77, .aload_n 0, 1, 0), (78, .iload_n 1, 1, 0), (79, .iload 5, 2, 0), (81, .iadd, 1, 0), (82, .aload_n 0, 1, 0), (83, .getfield 14, 3, 0), (86, .iload_n 1, 1, 0), (87, .iload 5, 2, 0), (89, .iadd, 1, 0), (90, .iload_n 3, 1, 0), (91, .invokevirtual 127, 3, 0), (94, .invokevirtual 133, 3, 0), (97, .iinc 5 1, 3, 0), (100, .goto (-41), 3, 59), (103, .iconst 1, 1, 0), (104, .ireturn, 1, 0)]
abbrev k_X5_crossingAt : Nat := 128
def il_X5_fitItems : List (Nat × x_I) := [(0, .iconst 0, 1, 0), (1, .istore_n 2, 1, 0), (2, .iconst 0, 1, 0), (3, .istore_n 3, 1, 0), (4, .iload_n 3, 1, 0), (5, .aload_n 0, 1, 0), (6, .getfield 24, 3, 0), (9, .if_icmp .ge 37, 3, 46), (12, .aload_n 0, 1, 0), (13, .getfield 49, 3, 0), (16, .iload_n 3, 1, 0), (17, .iaload, 1, 0), (18, .ifCond .eq 22, 3, 40), (21, .aload_n 0, 1, 0), (22, .getfield 49, 3, 0), (25, .iload_n 3, 1, 0), (26, .iaload, 1, 0), (27, .invokestatic 115, 3, 0), (30, .iload_n 1, 1, 0), (31, .if_icmp .gt 9, 3, 40), (34, .iload_n 2, 1, 0), (35, .iconst 1, 1, 0), (36, .iload_n 3, 1, 0), (37, .ishl, 1, 0), (38, .ior, 1, 0), (39, .istore_n 2, 1, 0), (40, .iinc 3 1, 3, 0), (43, .goto (-39), 3, 4), (46, .iload_n 2, 1, 0), (47, .ireturn, 1, 0)]
abbrev k_X5_fitItems : Nat := 129
def il_X5_isCovered : List (Nat × x_I) := [(0, .iload_n 1, 1, 0), (1, .iload_n 2, 1, 0), (2, .iconst (-1), 1, 0), (3, .ixor, 1, 0), (4, .iand, 1, 0), (5, .ifCond .ne 19, 3, 24), (8, .aload_n 0, 1, 0), (9, .iload_n 1, 1, 0), (10, .invokevirtual 171, 3, 0), (13, .invokestatic 115, 3, 0), (16, .iload_n 3, 1, 0), (17, .if_icmp .ne 7, 3, 24), (20, .iconst 1, 1, 0), (21, .goto 4, 3, 25), (24, .iconst 0, 1, 0), (25, .ireturn, 1, 0)]
abbrev k_X5_isCovered : Nat := 130
def il_X5_unionOf : List (Nat × x_I) := [(0, .iconst 0, 1, 0), (1, .istore_n 2, 1, 0), (2, .iconst 0, 1, 0), (3, .istore_n 3, 1, 0), (4, .iload_n 3, 1, 0), (5, .aload_n 0, 1, 0), (6, .getfield 24, 3, 0), (9, .if_icmp .ge 26, 3, 35), (12, .iload_n 1, 1, 0), (13, .iload_n 3, 1, 0), (14, .ishr, 1, 0), (15, .iconst 1, 1, 0), (16, .iand, 1, 0), (17, .ifCond .eq 12, 3, 29), (20, .iload_n 2, 1, 0), (21, .aload_n 0, 1, 0), (22, .getfield 49, 3, 0), (25, .iload_n 3, 1, 0), (26, .iaload, 1, 0), (27, .ior, 1, 0), (28, .istore_n 2, 1, 0), (29, .iinc 3 1, 3, 0), (32, .goto (-28), 3, 4), (35, .iload_n 2, 1, 0), (36, .ireturn, 1, 0)]
abbrev k_X5_unionOf : Nat := 131
def il_X5_wing : List (Nat × x_I) := [(0, .iconst 0, 1, 0), (1, .istore_n 2, 1, 0), (2, .iload_n 2, 1, 0), (3, .aload_n 0, 1, 0), (4, .getfield 14, 3, 0), (7, .getfield 27, 3, 0), (10, .if_icmp .ge 106, 3, 116), (13, .aload_n 0, 1, 0), (14, .getfield 14, 3, 0), (17, .getfield 93, 3, 0), (20, .iload_n 2, 1, 0), (21, .iaload, 1, 0), (22, .invokestatic 115, 3, 0), (25, .iload_n 1, 1, 0), (26, .if_icmp .eq 6, 3, 32), (29, .goto 81, 3, 110), (32, .iconst 0, 1, 0), (33, .istore_n 3, 1, 0), (34, .iload_n 3, 1, 0), (35, .aload_n 0, 1, 0), (36, .getfield 14, 3, 0), (39, .getfield 27, 3, 0), (42, .if_icmp .ge 68, 3, 110), (45, .aload_n 0, 1, 0), (46, .iload_n 2, 1, 0), (47, .iload_n 3, 1, 0), (48, .invokevirtual 181, 3, 0), (51, .ifCond .ne 6, 3, 57), (54, .goto 50, 3, 104), (57, .iload_n 3, 1, 0), (58, .iconst 1, 1, 0), (59, .iadd, 1, 0), (60, .istore 4, 2, 0), (62, .iload 4, 2, 0), (64, .aload_n 0, 1, 0), (65, .getfield 14, 3, 0), (68, .getfield 27, 3, 0), (71, .if_icmp .ge 33, 3, 104), (74, .aload_n 0, 1, 0), (75, .iload_n 2, 1, 0), (76, .iload 4, 2, 0), (78, .invokevirtual 181, 3, 0), (81, .ifCond .eq 17, 3, 98), (84, .aload_n 0, 1, 0), (85, .iload_n 2, 1, 0), (86, .iload_n 3, 1, 0), (87, .iload 4, 2, 0), (89, .iload_n 1, 1, 0), (90, .invokevirtual 184, 3, 0), (93, .ifCond .eq 5, 3, 98), (96, .iconst 1, 1, 0), (97, .ireturn, 1, 0), (98, .iinc 4 1, 3, 0), (101, .goto (-39), 3, 62), (104, .iinc 3 1, 3, 0), (107, .goto (-73), 3, 34), (110, .iinc 2 1, 3, 0), (113, .goto (-111), 3, 2), (116, .iconst 0, 1, 0), (117, .ireturn, 1, 0)]
abbrev k_X5_wing : Nat := 132
def il_X5_isWingtip : List (Nat × x_I) := [(0, .aload_n 0, 1, 0), (1, .getfield 14, 3, 0), (4, .getfield 93, 3, 0), (7, .iload_n 2, 1, 0), (8, .iaload, 1, 0), (9, .istore_n 3, 1, 0), (10, .iload_n 3, 1, 0), (11, .invokestatic 115, 3, 0), (14, .iconst 2, 1, 0), (15, .if_icmp .ne 50, 3, 65), (18, .iload_n 3, 1, 0), (19, .aload_n 0, 1, 0), (20, .getfield 14, 3, 0), (23, .getfield 93, 3, 0), (26, .iload_n 1, 1, 0), (27, .iaload, 1, 0), (28, .if_icmp .eq 37, 3, 65), (31, .iload_n 3, 1, 0), (32, .aload_n 0, 1, 0), (33, .getfield 14, 3, 0), (36, .getfield 93, 3, 0), (39, .iload_n 1, 1, 0), (40, .iaload, 1, 0), (41, .ior, 1, 0), (42, .invokestatic 115, 3, 0), (45, .iconst 3, 1, 0), (46, .if_icmp .ne 19, 3, 65), (49, .aload_n 0, 1, 0), (50, .getfield 14, 3, 0), (53, .iload_n 1, 1, 0), (54, .iload_n 2, 1, 0), (55, .invokevirtual 100, 3, 0), (58, .ifCond .eq 7, 3, 65), (61, .iconst 1, 1, 0), (62, .goto 4, 3, 66), (65, .iconst 0, 1, 0), (66, .ireturn, 1, 0)]
abbrev k_X5_isWingtip : Nat := 133
def il_X5_wingAt : List (Nat × x_I) := [(0, .aload_n 0, 1, 0), (1, .getfield 14, 3, 0), (4, .getfield 93, 3, 0), (7, .iload_n 2, 1, 0), (8, .iaload, 1, 0), (9, .istore 5, 2, 0), (11, .aload_n 0, 1, 0), (12, .getfield 14, 3, 0), (15, .getfield 93, 3, 0), (18, .iload_n 3, 1, 0), (19, .iaload, 1, 0), (20, .istore 6, 2, 0), (22, .iload 5, 2, 0), (24, .iload 6, 2, 0), (26, .if_icmp .eq 25, 3, 51), (29, .aload_n 0, 1, 0), (30, .getfield 14, 3, 0), (33, .getfield 93, 3, 0), (36, .iload_n 1, 1, 0), (37, .iaload, 1, 0), (38, .iload 5, 2, 0), (40, .ior, 1, 0), (41, .iload 6, 2, 0), (43, .ior, 1, 0), (44, .invokestatic 115, 3, 0), (47, .iconst 3, 1, 0), (48, .if_icmp .eq 5, 3, 53), (51, .iconst 0, 1, 0), (52, .ireturn, 1, 0), (53, .iconst 0, 1, 0), (54, .istore 7, 2, 0), (56, .iload 7, 2, 0), (58, .aload_n 0, 1, 0), (59, .getfield 14, 3, 0), (62, .getfield 27, 3, 0), (65, .if_icmp .ge 79, 3, 144), (68, .aload_n 0, 1, 0), (69, .getfield 14, 3, 0), (72, .iload 7, 2, 0), (74, .iload_n 2, 1, 0), (75, .invokevirtual 100, 3, 0), (78, .ifCond .eq 60, 3, 138), (81, .aload_n 0, 1, 0), (82, .getfield 14, 3, 0), (85, .iload 7, 2, 0), (87, .iload_n 3, 1, 0), (88, .invokevirtual 100, 3, 0), (91, .ifCond .eq 47, 3, 138), (94, .iload 4, 2, 0), (96, .iconst 2, 1, 0), (97, .if_icmp .eq 16, 3, 113), (100, .aload_n 0, 1, 0), (101, .getfield 14, 3, 0), (104, .iload 7, 2, 0), (106, .iload_n 1, 1, 0), (107, .invokevirtual 100, 3, 0), (110, .ifCond .eq 28, 3, 138), (113, .aload_n 0, 1, 0), (114, .getfield 31, 3, 0), (117, .iload 7, 2, 0), (119, .aload_n 0, 1, 0), (120, .getfield 14, 3, 0), (123, .getfield 93, 3, 0), (126, .iload 7, 2, 0), (128, .iaload, 1, 0), (129, .iload 5, 2, 0), (131, .iand, 1, 0), (132, .iload 6, 2, 0), (134, .iand, 1, 0), (135, .invokevirtual 96, 3, 0), (138, .iinc 7 1, 3, 0), (141, .goto (-85), 3, 56), (144, .aload_n 0, 1, 0), (145, .invokevirtual 147, 3, 0), (148, .ifCond .ne 5, 3, 153), (151, .iconst 0, 1, 0), (152, .ireturn, 1, 0), (153, .aload_n 0, 1, 0), (154, .getfield 31, 3, 0), (157, .iload_n 1, 1, 0), (158, .invokevirtual 109, 3, 0), (161, .aload_n 0, 1, 0), (162, .getfield 31, 3, 0), (165, .iload_n 2, 1, 0), (166, .invokevirtual 109, 3, 0), (169, .aload_n 0, 1, 0), (170, .getfield 31, 3, 0), (173, .iload_n 3, 1, 0), (174, .invokevirtual 109, 3, 0), (177, .iconst 1, 1, 0), (178, .ireturn, 1, 0)]
abbrev k_X5_wingAt : Nat := 134
def il_X5_onlyOneAnswer : List (Nat × x_I) := [(0, .iconst 0, 1, 0), (1, .istore_n 1, 1, 0), (2, .iload_n 1, 1, 0), (3, .aload_n 0, 1, 0), (4, .getfield 24, 3, 0), (7, .if_icmp .ge 77, 3, 84), (10, .iload_n 1, 1, 0), (11, .iconst 1, 1, 0), (12, .iadd, 1, 0), (13, .istore_n 2, 1, 0), (14, .iload_n 2, 1, 0), (15, .aload_n 0, 1, 0), (16, .getfield 24, 3, 0), (19, .if_icmp .ge 59, 3, 78), (22, .iconst 0, 1, 0), (23, .istore_n 3, 1, 0), (24, .iload_n 3, 1, 0), (25, .aload_n 0, 1, 0), (26, .getfield 24, 3, 0), (29, .if_icmp .ge 43, 3, 72), (32, .iload_n 3, 1, 0), (33, .iconst 1, 1, 0), (34, .iadd, 1, 0), (35, .istore 4, 2, 0), (37, .iload 4, 2, 0), (39, .aload_n 0, 1, 0), (40, .getfield 24, 3, 0), (43, .if_icmp .ge 23, 3, 66), (46, .aload_n 0, 1, 0), (47, .iload_n 1, 1, 0), (48, .iload_n 2, 1, 0), (49, .iload_n 3, 1, 0), (50, .iload 4, 2, 0), (52, .invokevirtual 188, 3, 0), (55, .ifCond .eq 5, 3, 60), (58, .iconst 1, 1, 0), (59, .ireturn, 1, 0), (60, .iinc 4 1, 3, 0), (63, .goto (-26), 3, 37), (66, .iinc 3 1, 3, 0), (69, .goto (-45), 3, 24), (72, .iinc 2 1, 3, 0), (75, .goto (-61), 3, 14), (78, .iinc 1 1, 3, 0), (81, .goto (-79), 3, 2), (84, .iconst 0, 1, 0), (85, .ireturn, 1, 0)]
abbrev k_X5_onlyOneAnswer : Nat := 135
def il_X5_rectangleAt : List (Nat × x_I) := [(0, .aload_n 0, 1, 0), (1, .getfield 14, 3, 0), (4, .iload_n 1, 1, 0), (5, .iload_n 3, 1, 0), (6, .invokevirtual 103, 3, 0), (9, .istore 5, 2, 0), (11, .aload_n 0, 1, 0), (12, .getfield 14, 3, 0), (15, .iload_n 1, 1, 0), (16, .iload 4, 2, 0), (18, .invokevirtual 103, 3, 0), (21, .istore 6, 2, 0), (23, .aload_n 0, 1, 0), (24, .getfield 14, 3, 0), (27, .iload_n 2, 1, 0), (28, .iload_n 3, 1, 0), (29, .invokevirtual 103, 3, 0), (32, .istore 7, 2, 0), (34, .aload_n 0, 1, 0), (35, .getfield 14, 3, 0), (38, .iload_n 2, 1, 0), (39, .iload 4, 2, 0), (41, .invokevirtual 103, 3, 0), (44, .istore 8, 2, 0), (46, .aload_n 0, 1, 0), (47, .iload 5, 2, 0), (49, .iload 6, 2, 0), (51, .iload 7, 2, 0), (53, .invokevirtual 191, 3, 0), (56, .ifCond .ne 5, 3, 61), (59, .iconst 0, 1, 0), (60, .ireturn, 1, 0), (61, .aload_n 0, 1, 0), (62, .iload 5, 2, 0), (64, .iload 6, 2, 0), (66, .iload 7, 2, 0), (68, .iload 8, 2, 0), (70, .invokevirtual 194, 3, 0), (73, .ifCond .ne 50, 3, 123), (76, .aload_n 0, 1, 0), (77, .iload 6, 2, 0), (79, .iload 5, 2, 0), (81, .iload 7, 2, 0), (83, .iload 8, 2, 0), (85, .invokevirtual 194, 3, 0), (88, .ifCond .ne 35, 3, 123), (91, .aload_n 0, 1, 0), (92, .iload 7, 2, 0), (94, .iload 5, 2, 0), (96, .iload 6, 2, 0), (98, .iload 8, 2, 0), (100, .invokevirtual 194, 3, 0), (103, .ifCond .ne 20, 3, 123), (106, .aload_n 0, 1, 0), (107, .iload 8, 2, 0), (109, .iload 5, 2, 0), (111, .iload 6, 2, 0), (113, .iload 7, 2, 0), (115, .invokevirtual 194, 3, 0), (118, .ifCond .ne 5, 3, 123), (121, .iconst 0, 1, 0), (122, .ireturn, 1, 0), (123, .aload_n 0, 1, 0), (124, .getfield 31, 3, 0), (127, .iload 5, 2, 0), (129, .invokevirtual 109, 3, 0), (132, .aload_n 0, 1, 0), (133, .getfield 31, 3, 0), (136, .iload 6, 2, 0), (138, .invokevirtual 109, 3, 0), (141, .aload_n 0, 1, 0), (142, .getfield 31, 3, 0), (145, .iload 7, 2, 0), (147, .invokevirtual 109, 3, 0), (150, .aload_n 0, 1, 0), (151, .getfield 31, 3, 0), (154, .iload 8, 2, 0), (156, .invokevirtual 109, 3, 0), (159, .iconst 1, 1, 0), (160, .ireturn, 1, 0)]
abbrev k_X5_rectangleAt : Nat := 136
def il_X5_isInTwoBoxes : List (Nat × x_I) := [(0, .aload_n 0, 1, 0), (1, .getfield 14, 3, 0), (4, .iload_n 1, 1, 0), (5, .iconst 2, 1, 0), (6, .invokevirtual 150, 3, 0), (9, .istore 4, 2, 0), (11, .iload 4, 2, 0), (13, .aload_n 0, 1, 0), (14, .getfield 14, 3, 0), (17, .iload_n 2, 1, 0), (18, .iconst 2, 1, 0), (19, .invokevirtual 150, 3, 0), (22, .if_icmp .ne 7, 3, 29), (25, .iconst 1, 1, 0), (26, .goto 4, 3, 30), (29, .iconst 0, 1, 0), (30, .iload 4, 2, 0), (32, .aload_n 0, 1, 0), (33, .getfield 14, 3, 0), (36, .iload_n 3, 1, 0), (37, .iconst 2, 1, 0), (38, .invokevirtual 150, 3, 0), (41, .if_icmp .ne 7, 3, 48), (44, .iconst 1, 1, 0), (45, .goto 4, 3, 49), (48, .iconst 0, 1, 0), (49, .if_icmp .eq 7, 3, 56), (52, .iconst 1, 1, 0), (53, .goto 4, 3, 57), (56, .iconst 0, 1, 0), (57, .ireturn, 1, 0)]
abbrev k_X5_isInTwoBoxes : Nat := 137
def il_X5_fourth : List (Nat × x_I) := [(0, .aload_n 0, 1, 0), (1, .getfield 14, 3, 0), (4, .getfield 93, 3, 0), (7, .iload_n 2, 1, 0), (8, .iaload, 1, 0), (9, .istore 5, 2, 0), (11, .aload_n 0, 1, 0), (12, .getfield 14, 3, 0), (15, .getfield 93, 3, 0), (18, .iload_n 1, 1, 0), (19, .iaload, 1, 0), (20, .istore 6, 2, 0), (22, .iload 5, 2, 0), (24, .invokestatic 115, 3, 0), (27, .iconst 2, 1, 0), (28, .if_icmp .ne 32, 3, 60), (31, .aload_n 0, 1, 0), (32, .getfield 14, 3, 0), (35, .getfield 93, 3, 0), (38, .iload_n 3, 1, 0), (39, .iaload, 1, 0), (40, .iload 5, 2, 0), (42, .if_icmp .ne 18, 3, 60), (45, .aload_n 0, 1, 0), (46, .getfield 14, 3, 0), (49, .getfield 93, 3, 0), (52, .iload 4, 2, 0), (54, .iaload, 1, 0), (55, .iload 5, 2, 0), (57, .if_icmp .eq 5, 3, 62), (60, .iconst 0, 1, 0), (61, .ireturn, 1, 0), (62, .iload 6, 2, 0), (64, .iload 5, 2, 0), (66, .if_icmp .eq 13, 3, 79), (69, .iload 6, 2, 0), (71, .iload 5, 2, 0), (73, .iand, 1, 0), (74, .iload 5, 2, 0), (76, .if_icmp .eq 5, 3, 81), (79, .iconst 0, 1, 0), (80, .ireturn, 1, 0), (81, .aload_n 0, 1, 0), (82, .getfield 31, 3, 0), (85, .iload_n 1, 1, 0), (86, .iload 5, 2, 0), (88, .invokevirtual 96, 3, 0), (91, .iconst 1, 1, 0), (92, .ireturn, 1, 0)]
abbrev k_X5_fourth : Nat := 138
def il_X7_init : List (Nat × x_I) := [(0, .aload_n 0, 1, 0), (1, .invokespecial 1, 3, 0), (4, .aload_n 0, 1, 0), (5, .new 7, 3, 0), (8, .dup, 1, 0), (9, .iload_n 1, 1, 0), (10, .invokespecial 9, 3, 0), (13, .putfield 12, 3, 0), (16, .aload_n 0, 1, 0), (17, .aload_n 0, 1, 0), (18, .getfield 12, 3, 0), (21, .getfield 18, 3, 0), (24, .putfield 22, 3, 0), (27, .aload_n 0, 1, 0), (28, .aload_n 0, 1, 0), (29, .getfield 12, 3, 0), (32, .getfield 23, 3, 0), (35, .putfield 27, 3, 0), (38, .aload_n 0, 1, 0), (39, .new 28, 3, 0), (42, .dup, 1, 0), (43, .aload_n 0, 1, 0), (44, .getfield 22, 3, 0), (47, .getfield 30, 3, 0), (50, .invokespecial 36, 3, 0), (53, .putfield 37, 3, 0), (56, .aload_n 0, 1, 0), (57, .bipush 19, 2, 0), (59, .newarray .boolean, 2, 0), (61, .putfield 41, 3, 0), (64, .iconst 0, 1, 0), (65, .istore_n 2, 1, 0), (66, .iload_n 2, 1, 0), (67, .bipush 19, 2, 0), (69, .if_icmp .ge 26, 3, 95), (72, .aload_n 0, 1, 0), (73, .getfield 41, 3, 0), (76, .iload_n 2, 1, 0), (77, .iload_n 2, 1, 0), (78, .bipush 18, 2, 0), (80, .if_icmp .eq 7, 3, 87), (83, .iconst 1, 1, 0), (84, .goto 4, 3, 88), (87, .iconst 0, 1, 0), (88, .bastore, 1, 0), (89, .iinc 2 1, 3, 0), (92, .goto (-26), 3, 66), (95, .aload_n 0, 1, 0), (96, .bipush 19, 2, 0), (98, .newarray .int, 2, 0), (100, .putfield 45, 3, 0), (103, .return_, 1, 0)]
abbrev k_X7_init : Nat := 139
def il_X7_set : List (Nat × x_I) := [(0, .aload_n 0, 1, 0), (1, .iload_n 1, 1, 0), (2, .invokevirtual 49, 3, 0), (5, .aload_n 0, 1, 0), (6, .iload_n 2, 1, 0), (7, .invokevirtual 52, 3, 0), (10, .aload_n 0, 1, 0), (11, .iload_n 1, 1, 0), (12, .iload_n 2, 1, 0), (13, .invokevirtual 55, 3, 0), (16, .ifCond .ne 5, 3, 21), (19, .iconst 0, 1, 0), (20, .ireturn, 1, 0), (21, .aload_n 0, 1, 0), (22, .getfield 27, 3, 0), (25, .invokevirtual 59, 3, 0), (28, .aload_n 0, 1, 0), (29, .getfield 12, 3, 0), (32, .iload_n 1, 1, 0), (33, .iload_n 2, 1, 0), (34, .invokevirtual 64, 3, 0), (37, .aload_n 0, 1, 0), (38, .invokevirtual 68, 3, 0), (41, .aload_n 0, 1, 0), (42, .invokevirtual 71, 3, 0), (45, .iconst 1, 1, 0), (46, .ireturn, 1, 0)]
abbrev k_X7_set : Nat := 140
def il_X7_take : List (Nat × x_I) := [(0, .aload_n 0, 1, 0), (1, .iload_n 1, 1, 0), (2, .invokevirtual 49, 3, 0), (5, .aload_n 0, 1, 0), (6, .iload_n 2, 1, 0), (7, .invokevirtual 52, 3, 0), (10, .aload_n 0, 1, 0), (11, .iload_n 1, 1, 0), (12, .iload_n 2, 1, 0), (13, .invokevirtual 55, 3, 0), (16, .ifCond .ne 5, 3, 21), (19, .iconst 0, 1, 0), (20, .ireturn, 1, 0), (21, .aload_n 0, 1, 0), (22, .getfield 22, 3, 0), (25, .iload_n 1, 1, 0), (26, .iload_n 2, 1, 0), (27, .invokevirtual 74, 3, 0), (30, .aload_n 0, 1, 0), (31, .invokevirtual 71, 3, 0), (34, .iconst 1, 1, 0), (35, .ireturn, 1, 0)]
abbrev k_X7_take : Nat := 141
def il_X7_enable : List (Nat × x_I) := [(0, .aload_n 0, 1, 0), (1, .iload_n 1, 1, 0), (2, .invokevirtual 77, 3, 0), (5, .aload_n 0, 1, 0), (6, .getfield 41, 3, 0), (9, .iload_n 1, 1, 0), (10, .baload, 1, 0), (11, .iload_n 2, 1, 0), (12, .if_icmp .ne 5, 3, 17), (15, .iconst 0, 1, 0), (16, .ireturn, 1, 0), (17, .aload_n 0, 1, 0), (18, .getfield 41, 3, 0), (21, .iload_n 1, 1, 0), (22, .iload_n 2, 1, 0), (23, .bastore, 1, 0), (24, .aload_n 0, 1, 0), (25, .getfield 27, 3, 0), (28, .invokevirtual 59, 3, 0), (31, .iconst 1, 1, 0), (32, .ireturn, 1, 0)]
abbrev k_X7_enable : Nat := 142
def il_X7_find : List (Nat × x_I) := [(0, .aload_n 0, 1, 0), (1, .getfield 27, 3, 0), (4, .invokevirtual 59, 3, 0), (7, .aload_n 0, 1, 0), (8, .getfield 22, 3, 0), (11, .invokevirtual 80, 3, 0), (14, .ifCond .eq 6, 3, 20), (17, .bipush (-2), 2, 0), (19, .ireturn, 1, 0), (20, .iconst 0, 1, 0), (21, .istore_n 1, 1, 0), (22, .iload_n 1, 1, 0), (23, .bipush 19, 2, 0), (25, .if_icmp .ge 39, 3, 64), (28, .aload_n 0, 1, 0), (29, .getfield 41, 3, 0), (32, .iload_n 1, 1, 0), (33, .baload, 1, 0), (34, .ifCond .eq 24, 3, 58), (37, .aload_n 0, 1, 0), (38, .getfield 12, 3, 0), (41, .iload_n 1, 1, 0), (42, .invokevirtual 84, 3, 0), (45, .ifCond .eq 13, 3, 58), (48, .aload_n 0, 1, 0), (49, .getfield 27, 3, 0), (52, .iload_n 1, 1, 0), (53, .putfield 88, 3, 0), (56, .iload_n 1, 1, 0), (57, .ireturn, 1, 0), (58, .iinc 1 1, 3, 0), (61, .goto (-39), 3, 22), (64, .iconst (-1), 1, 0), (65, .ireturn, 1, 0)]
abbrev k_X7_find : Nat := 143
def il_X7_found : List (Nat × x_I) := [(0, .aload_n 0, 1, 0), (1, .getfield 27, 3, 0), (4, .getfield 88, 3, 0), (7, .iconst (-1), 1, 0), (8, .if_icmp .ne 5, 3, 13), (11, .iconst (-1), 1, 0), (12, .ireturn, 1, 0), (13, .iload_n 1, 1, 0), (14, .tableswitch 74 0 4 #[34, 42, 50, 58, 66], 34, 0), (48, .aload_n 0, 1, 0), (49, .getfield 27, 3, 0), (52, .getfield 88, 3, 0), (55, .ireturn, 1, 0), (56, .aload_n 0, 1, 0), (57, .getfield 27, 3, 0), (60, .getfield 91, 3, 0), (63, .ireturn, 1, 0), (64, .aload_n 0, 1, 0), (65, .getfield 27, 3, 0), (68, .getfield 94, 3, 0), (71, .ireturn, 1, 0), (72, .aload_n 0, 1, 0), (73, .getfield 27, 3, 0), (76, .getfield 97, 3, 0), (79, .ireturn, 1, 0), (80, .aload_n 0, 1, 0), (81, .getfield 27, 3, 0), (84, .getfield 100, 3, 0), (87, .ireturn, 1, 0), (88, .iconst (-1), 1, 0), (89, .ireturn, 1, 0)]
abbrev k_X7_found : Nat := 144
def il_X7_reason : List (Nat × x_I) := [(0, .iload_n 1, 1, 0), (1, .ifCond .lt 14, 3, 15), (4, .iload_n 1, 1, 0), (5, .aload_n 0, 1, 0), (6, .getfield 27, 3, 0), (9, .getfield 91, 3, 0), (12, .if_icmp .lt 5, 3, 17), (15, .iconst (-1), 1, 0), (16, .ireturn, 1, 0), (17, .aload_n 0, 1, 0), (18, .getfield 27, 3, 0), (21, .getfield 103, 3, 0), (24, .iload_n 1, 1, 0), (25, .iaload, 1, 0), (26, .ireturn, 1, 0)]
abbrev k_X7_reason : Nat := 145
def il_X7_goes : List (Nat × x_I) := [(0, .iload_n 1, 1, 0), (1, .ifCond .lt 14, 3, 15), (4, .iload_n 1, 1, 0), (5, .aload_n 0, 1, 0), (6, .getfield 27, 3, 0), (9, .getfield 94, 3, 0), (12, .if_icmp .lt 5, 3, 17), (15, .iconst (-1), 1, 0), (16, .ireturn, 1, 0), (17, .aload_n 0, 1, 0), (18, .getfield 27, 3, 0), (21, .iload_n 1, 1, 0), (22, .aload_n 0, 1, 0), (23, .getfield 22, 3, 0), (26, .getfield 30, 3, 0), (29, .invokevirtual 106, 3, 0), (32, .ireturn, 1, 0)]
abbrev k_X7_goes : Nat := 146
def il_X7_apply : List (Nat × x_I) := [(0, .aload_n 0, 1, 0), (1, .getfield 27, 3, 0), (4, .getfield 88, 3, 0), (7, .iconst (-1), 1, 0), (8, .if_icmp .ne 5, 3, 13), (11, .iconst 0, 1, 0), (12, .ireturn, 1, 0), (13, .aload_n 0, 1, 0), (14, .invokevirtual 110, 3, 0), (17, .iconst 1, 1, 0), (18, .ireturn, 1, 0)]
abbrev k_X7_apply : Nat := 147
def il_X7_solve : List (Nat × x_I) := [(0, .iload_n 1, 1, 0), (1, .ifCond .ge 5, 3, 6), (4, .iconst (-1), 1, 0), (5, .ireturn, 1, 0), (6, .aload_n 0, 1, 0), (7, .getfield 27, 3, 0), (10, .invokevirtual 59, 3, 0), (13, .iload_n 1, 1, 0), (14, .aload_n 0, 1, 0), (15, .getfield 37, 3, 0), (18, .invokevirtual 113, 3, 0), (21, .invokestatic 117, 3, 0), (24, .istore_n 2, 1, 0), (25, .iconst 0, 1, 0), (26, .istore_n 3, 1, 0), (27, .iload_n 3, 1, 0), (28, .iload_n 2, 1, 0), (29, .if_icmp .ge 20, 3, 49), (32, .aload_n 0, 1, 0), (33, .invokevirtual 122, 3, 0), (36, .ifCond .lt 13, 3, 49), (39, .aload_n 0, 1, 0), (40, .invokevirtual 110, 3, 0), (43, .iinc 3 1, 3, 0), (46, .goto (-19), 3, 27), (49, .iload_n 3, 1, 0), (50, .ireturn, 1, 0)]
abbrev k_X7_solve : Nat := 148
def il_X7_undo : List (Nat × x_I) := [(0, .aload_n 0, 1, 0), (1, .getfield 37, 3, 0), (4, .getfield 125, 3, 0), (7, .ifCond .ne 5, 3, 12), (10, .iconst (-1), 1, 0), (11, .ireturn, 1, 0), (12, .aload_n 0, 1, 0), (13, .getfield 37, 3, 0), (16, .aload_n 0, 1, 0), (17, .getfield 22, 3, 0), (20, .invokevirtual 128, 3, 0), (23, .istore_n 1, 1, 0), (24, .aload_n 0, 1, 0), (25, .getfield 45, 3, 0), (28, .iload_n 1, 1, 0), (29, .dup2, 1, 0), (30, .iaload, 1, 0), (31, .iconst 1, 1, 0), (32, .isub, 1, 0), (33, .iastore, 1, 0), (34, .aload_n 0, 1, 0), (35, .getfield 27, 3, 0), (38, .invokevirtual 59, 3, 0), (41, .iload_n 1, 1, 0), (42, .ireturn, 1, 0)]
abbrev k_X7_undo : Nat := 149
def il_X7_done : List (Nat × x_I) := [(0, .aload_n 0, 1, 0), (1, .iload_n 1, 1, 0), (2, .invokevirtual 77, 3, 0), (5, .aload_n 0, 1, 0), (6, .getfield 45, 3, 0), (9, .iload_n 1, 1, 0), (10, .iaload, 1, 0), (11, .ireturn, 1, 0)]
abbrev k_X7_done : Nat := 150
def il_X7_candidates : List (Nat × x_I) := [(0, .aload_n 0, 1, 0), (1, .iload_n 1, 1, 0), (2, .invokevirtual 49, 3, 0), (5, .aload_n 0, 1, 0), (6, .getfield 22, 3, 0), (9, .getfield 132, 3, 0), (12, .iload_n 1, 1, 0), (13, .iaload, 1, 0), (14, .ireturn, 1, 0)]
abbrev k_X7_candidates : Nat := 151
def il_X7_value : List (Nat × x_I) := [(0, .aload_n 0, 1, 0), (1, .iload_n 1, 1, 0), (2, .invokevirtual 49, 3, 0), (5, .aload_n 0, 1, 0), (6, .getfield 22, 3, 0), (9, .getfield 135, 3, 0), (12, .iload_n 1, 1, 0), (13, .iaload, 1, 0), (14, .ireturn, 1, 0)]
abbrev k_X7_value : Nat := 152
def il_X7_state : List (Nat × x_I) := [(0, .iload_n 1, 1, 0), (1, .tableswitch 80 0 4 #[35, 43, 51, 67, 75], 35, 0), (36, .aload_n 0, 1, 0), (37, .getfield 22, 3, 0), (40, .invokevirtual 138, 3, 0), (43, .ireturn, 1, 0), (44, .aload_n 0, 1, 0), (45, .getfield 22, 3, 0), (48, .invokevirtual 141, 3, 0), (51, .ireturn, 1, 0), (52, .aload_n 0, 1, 0), (53, .getfield 22, 3, 0), (56, .invokevirtual 80, 3, 0), (59, .ifCond .eq 7, 3, 66), (62, .iconst 1, 1, 0), (63, .goto 4, 3, 67), (66, .iconst 0, 1, 0), (67, .ireturn, 1, 0), (68, .aload_n 0, 1, 0), (69, .getfield 22, 3, 0), (72, .getfield 30, 3, 0), (75, .ireturn, 1, 0), (76, .aload_n 0, 1, 0), (77, .invokevirtual 144, 3, 0), (80, .ireturn, 1, 0), (81, .iconst (-1), 1, 0), (82, .ireturn, 1, 0)]
abbrev k_X7_state : Nat := 153
def il_X7_words : List (Nat × x_I) := []
abbrev k_X7_words : Nat := 154
def il_X7_letterOfCell : List (Nat × x_I) := [(0, .iload_n 2, 1, 0), (1, .tableswitch 52 0 3 #[31, 34, 37, 49], 31, 0), (32, .bipush 32, 2, 0), (34, .ireturn, 1, 0), (35, .bipush 114, 2, 0), (37, .ireturn, 1, 0), (38, .bipush 49, 2, 0), (40, .aload_n 0, 1, 0), (41, .getfield 22, 3, 0), (44, .iload_n 1, 1, 0), (45, .invokevirtual 172, 3, 0), (48, .iadd, 1, 0), (49, .ireturn, 1, 0), (50, .bipush 99, 2, 0), (52, .ireturn, 1, 0), (53, .bipush 49, 2, 0), (55, .aload_n 0, 1, 0), (56, .getfield 22, 3, 0), (59, .iload_n 1, 1, 0), (60, .invokevirtual 176, 3, 0), (63, .iadd, 1, 0), (64, .ireturn, 1, 0)]
abbrev k_X7_letterOfCell : Nat := 155
def il_X7_performFound : List (Nat × x_I) := [(0, .aload_n 0, 1, 0), (1, .getfield 27, 3, 0), (4, .getfield 88, 3, 0), (7, .istore_n 1, 1, 0), (8, .aload_n 0, 1, 0), (9, .invokevirtual 68, 3, 0), (12, .aload_n 0, 1, 0), (13, .getfield 37, 3, 0), (16, .iload_n 1, 1, 0), (17, .aload_n 0, 1, 0), (18, .getfield 27, 3, 0), (21, .getfield 97, 3, 0), (24, .invokevirtual 179, 3, 0), (27, .aload_n 0, 1, 0), (28, .getfield 45, 3, 0), (31, .iload_n 1, 1, 0), (32, .dup2, 1, 0), (33, .iaload, 1, 0), (34, .iconst 1, 1, 0), (35, .iadd, 1, 0), (36, .iastore, 1, 0), (37, .aload_n 0, 1, 0), (38, .getfield 27, 3, 0), (41, .invokevirtual 59, 3, 0), (44, .return_, 1, 0)]
abbrev k_X7_performFound : Nat := 156
def il_X7_carryOut : List (Nat × x_I) := [(0, .iconst 0, 1, 0), (1, .istore_n 1, 1, 0), (2, .iload_n 1, 1, 0), (3, .aload_n 0, 1, 0), (4, .getfield 22, 3, 0), (7, .getfield 182, 3, 0), (10, .if_icmp .ge 68, 3, 78), (13, .aload_n 0, 1, 0), (14, .getfield 27, 3, 0), (17, .getfield 185, 3, 0), (20, .iload_n 1, 1, 0), (21, .iaload, 1, 0), (22, .istore_n 2, 1, 0), (23, .iconst 0, 1, 0), (24, .istore_n 3, 1, 0), (25, .iload_n 2, 1, 0), (26, .ifCond .eq 46, 3, 72), (29, .iload_n 3, 1, 0), (30, .aload_n 0, 1, 0), (31, .getfield 22, 3, 0), (34, .getfield 30, 3, 0), (37, .if_icmp .ge 35, 3, 72), (40, .iload_n 2, 1, 0), (41, .iload_n 3, 1, 0), (42, .ishr, 1, 0), (43, .iconst 1, 1, 0), (44, .iand, 1, 0), (45, .ifCond .eq 21, 3, 66), (48, .aload_n 0, 1, 0), (49, .getfield 22, 3, 0), (52, .iload_n 1, 1, 0), (53, .iload_n 3, 1, 0), (54, .invokevirtual 74, 3, 0), (57, .aload_n 0, 1, 0), (58, .getfield 37, 3, 0), (61, .iload_n 1, 1, 0), (62, .iload_n 3, 1, 0), (63, .invokevirtual 188, 3, 0), (66, .iinc 3 1, 3, 0), (69, .goto (-44), 3, 25), (72, .iinc 1 1, 3, 0), (75, .goto (-73), 3, 2), (78, .aload_n 0, 1, 0), (79, .getfield 27, 3, 0), (82, .getfield 97, 3, 0), (85, .ifCond .lt 25, 3, 110), (88, .aload_n 0, 1, 0), (89, .getfield 22, 3, 0), (92, .getfield 135, 3, 0), (95, .aload_n 0, 1, 0), (96, .getfield 27, 3, 0), (99, .getfield 97, 3, 0), (102, .aload_n 0, 1, 0), (103, .getfield 27, 3, 0), (106, .getfield 100, 3, 0), (109, .iastore, 1, 0), (110, .return_, 1, 0)]
abbrev k_X7_carryOut : Nat := 157
def il_X7_forgetSteps : List (Nat × x_I) := [(0, .aload_n 0, 1, 0), (1, .getfield 37, 3, 0), (4, .invokevirtual 191, 3, 0), (7, .aload_n 0, 1, 0), (8, .getfield 27, 3, 0), (11, .invokevirtual 59, 3, 0), (14, .return_, 1, 0)]
abbrev k_X7_forgetSteps : Nat := 158
def il_X7_isOpenCandidate : List (Nat × x_I) := [(0, .aload_n 0, 1, 0), (1, .getfield 22, 3, 0), (4, .iload_n 1, 1, 0), (5, .invokevirtual 192, 3, 0), (8, .ifCond .eq 23, 3, 31), (11, .aload_n 0, 1, 0), (12, .getfield 22, 3, 0), (15, .getfield 132, 3, 0), (18, .iload_n 1, 1, 0), (19, .iaload, 1, 0), (20, .iload_n 2, 1, 0), (21, .ishr, 1, 0), (22, .iconst 1, 1, 0), (23, .iand, 1, 0), (24, .ifCond .eq 7, 3, 31), (27, .iconst 1, 1, 0), (28, .goto 4, 3, 32), (31, .iconst 0, 1, 0), (32, .ireturn, 1, 0)]
abbrev k_X7_isOpenCandidate : Nat := 159
def il_X7_allTimes : List (Nat × x_I) := [(0, .iconst 0, 1, 0), (1, .istore_n 1, 1, 0), (2, .iconst 0, 1, 0), (3, .istore_n 2, 1, 0), (4, .iload_n 2, 1, 0), (5, .bipush 19, 2, 0), (7, .if_icmp .ge 18, 3, 25), (10, .iload_n 1, 1, 0), (11, .aload_n 0, 1, 0), (12, .getfield 45, 3, 0), (15, .iload_n 2, 1, 0), (16, .iaload, 1, 0), (17, .iadd, 1, 0), (18, .istore_n 1, 1, 0), (19, .iinc 2 1, 3, 0), (22, .goto (-18), 3, 4), (25, .iload_n 1, 1, 0), (26, .ireturn, 1, 0)]
abbrev k_X7_allTimes : Nat := 160
def il_X7_checkCell : List (Nat × x_I) := [(0, .iload_n 1, 1, 0), (1, .ifCond .lt 14, 3, 15), (4, .iload_n 1, 1, 0), (5, .aload_n 0, 1, 0), (6, .getfield 22, 3, 0), (9, .getfield 182, 3, 0), (12, .if_icmp .lt 13, 3, 25), (15, .new 195, 3, 0), (18, .dup, 1, 0), (19, .ldc 197, 2, 0), (21, .invokespecial 199, 3, 0), (24, .athrow, 1, 0), (25, .return_, 1, 0)]
abbrev k_X7_checkCell : Nat := 161
def il_X7_checkSymbol : List (Nat × x_I) := [(0, .iload_n 1, 1, 0), (1, .ifCond .lt 14, 3, 15), (4, .iload_n 1, 1, 0), (5, .aload_n 0, 1, 0), (6, .getfield 22, 3, 0), (9, .getfield 30, 3, 0), (12, .if_icmp .lt 13, 3, 25), (15, .new 202, 3, 0), (18, .dup, 1, 0), (19, .ldc 204, 2, 0), (21, .invokespecial 206, 3, 0), (24, .athrow, 1, 0), (25, .return_, 1, 0)]
abbrev k_X7_checkSymbol : Nat := 162
def il_X7_checkStep : List (Nat × x_I) := [(0, .iload_n 1, 1, 0), (1, .ifCond .lt 9, 3, 10), (4, .iload_n 1, 1, 0), (5, .bipush 19, 2, 0), (7, .if_icmp .lt 13, 3, 20), (10, .new 195, 3, 0), (13, .dup, 1, 0), (14, .ldc 207, 2, 0), (16, .invokespecial 199, 3, 0), (19, .athrow, 1, 0), (20, .return_, 1, 0)]
abbrev k_X7_checkStep : Nat := 163
def il_X7_leastBit : List (Nat × x_I) := [(0, .iconst 0, 1, 0), (1, .istore_n 1, 1, 0), (2, .iload_n 1, 1, 0), (3, .bipush 31, 2, 0), (5, .if_icmp .ge 17, 3, 22), (8, .iload_n 0, 1, 0), (9, .iload_n 1, 1, 0), (10, .ishr, 1, 0), (11, .iconst 1, 1, 0), (12, .iand, 1, 0), (13, .ifCond .ne 9, 3, 22), (16, .iinc 1 1, 3, 0), (19, .goto (-17), 3, 2), (22, .iload_n 1, 1, 0), (23, .ireturn, 1, 0)]
abbrev k_X7_leastBit : Nat := 164
def il_L_cell : List (Nat × x_I) := [(0, .iload_n 1, 1, 0), (1, .aload_n 0, 1, 0), (2, .arraylength, 1, 0), (3, .if_icmp .ge 9, 3, 12), (6, .aload_n 0, 1, 0), (7, .iload_n 1, 1, 0), (8, .iaload, 1, 0), (9, .goto 4, 3, 13), (12, .iconst 0, 1, 0), (13, .ireturn, 1, 0)]
abbrev k_L_cell : Nat := 165
def il_L_set : List (Nat × x_I) := [(0, .aload_n 3, 1, 0), (1, .iconst 0, 1, 0), (2, .aload_n 0, 1, 0), (3, .iload_n 1, 1, 0), (4, .iload_n 2, 1, 0), (5, .invokevirtual 7, 3, 0), (8, .ifCond .eq 7, 3, 15), (11, .lconst 1, 1, 0), (12, .goto 4, 3, 16), (15, .lconst 0, 1, 0), (16, .lastore, 1, 0), (17, .goto 11, 3, 28), (20, .astore 4, 2, 0), (22, .iconst 1, 1, 0), (23, .ireturn, 1, 0), (24, .astore 4, 2, 0), (26, .iconst 2, 1, 0), (27, .ireturn, 1, 0), (28, .iconst 0, 1, 0), (29, .ireturn, 1, 0)]
abbrev k_L_set : Nat := 166
def il_L_take : List (Nat × x_I) := [(0, .aload_n 3, 1, 0), (1, .iconst 0, 1, 0), (2, .aload_n 0, 1, 0), (3, .iload_n 1, 1, 0), (4, .iload_n 2, 1, 0), (5, .invokevirtual 17, 3, 0), (8, .ifCond .eq 7, 3, 15), (11, .lconst 1, 1, 0), (12, .goto 4, 3, 16), (15, .lconst 0, 1, 0), (16, .lastore, 1, 0), (17, .goto 11, 3, 28), (20, .astore 4, 2, 0), (22, .iconst 1, 1, 0), (23, .ireturn, 1, 0), (24, .astore 4, 2, 0), (26, .iconst 2, 1, 0), (27, .ireturn, 1, 0), (28, .iconst 0, 1, 0), (29, .ireturn, 1, 0)]
abbrev k_L_take : Nat := 167
def il_L_enable : List (Nat × x_I) := [(0, .aload_n 3, 1, 0), (1, .iconst 0, 1, 0), (2, .aload_n 0, 1, 0), (3, .iload_n 1, 1, 0), (4, .iload_n 2, 1, 0), (5, .invokevirtual 20, 3, 0), (8, .ifCond .eq 7, 3, 15), (11, .lconst 1, 1, 0), (12, .goto 4, 3, 16), (15, .lconst 0, 1, 0), (16, .lastore, 1, 0), (17, .goto 7, 3, 24), (20, .astore 4, 2, 0), (22, .iconst 1, 1, 0), (23, .ireturn, 1, 0), (24, .iconst 0, 1, 0), (25, .ireturn, 1, 0)]
abbrev k_L_enable : Nat := 168
def il_L_done : List (Nat × x_I) := [(0, .aload_n 2, 1, 0), (1, .iconst 0, 1, 0), (2, .aload_n 0, 1, 0), (3, .iload_n 1, 1, 0), (4, .invokevirtual 24, 3, 0), (7, .i2l, 1, 0), (8, .lastore, 1, 0), (9, .goto 6, 3, 15), (12, .astore_n 3, 1, 0), (13, .iconst 1, 1, 0), (14, .ireturn, 1, 0), (15, .iconst 0, 1, 0), (16, .ireturn, 1, 0)]
abbrev k_L_done : Nat := 169
def il_L_candidates : List (Nat × x_I) := [(0, .aload_n 2, 1, 0), (1, .iconst 0, 1, 0), (2, .aload_n 0, 1, 0), (3, .iload_n 1, 1, 0), (4, .invokevirtual 28, 3, 0), (7, .i2l, 1, 0), (8, .lastore, 1, 0), (9, .goto 6, 3, 15), (12, .astore_n 3, 1, 0), (13, .iconst 1, 1, 0), (14, .ireturn, 1, 0), (15, .iconst 0, 1, 0), (16, .ireturn, 1, 0)]
abbrev k_L_candidates : Nat := 170
def il_L_value : List (Nat × x_I) := [(0, .aload_n 2, 1, 0), (1, .iconst 0, 1, 0), (2, .aload_n 0, 1, 0), (3, .iload_n 1, 1, 0), (4, .invokevirtual 31, 3, 0), (7, .i2l, 1, 0), (8, .lastore, 1, 0), (9, .goto 6, 3, 15), (12, .astore_n 3, 1, 0), (13, .iconst 1, 1, 0), (14, .ireturn, 1, 0), (15, .iconst 0, 1, 0), (16, .ireturn, 1, 0)]
abbrev k_L_value : Nat := 171
def il_L_law : List (Nat × x_I) := [(0, .new 8, 3, 0), (3, .dup, 1, 0), (4, .aload_n 0, 1, 0), (5, .iconst 0, 1, 0), (6, .invokestatic 34, 3, 0), (9, .invokespecial 40, 3, 0), (12, .astore_n 1, 1, 0), (13, .new 43, 3, 0), (16, .dup, 1, 0), (17, .aload_n 0, 1, 0), (18, .iconst 0, 1, 0), (19, .invokestatic 34, 3, 0), (22, .invokespecial 45, 3, 0), (25, .astore_n 2, 1, 0), (26, .iconst 1, 1, 0), (27, .newarray .long, 2, 0), (29, .astore_n 3, 1, 0), (30, .iconst 1, 1, 0), (31, .istore 4, 2, 0), (33, .iload 4, 2, 0), (35, .aload_n 0, 1, 0), (36, .arraylength, 1, 0), (37, .iconst 3, 1, 0), (38, .isub, 1, 0), (39, .if_icmp .gt 701, 3, 740), (42, .aload_n 0, 1, 0), (43, .iload 4, 2, 0), (45, .iaload, 1, 0), (46, .bipush 15, 2, 0), (48, .iand, 1, 0), (49, .tableswitch 685 0 14 #[75, 150, 225, 316, 329, 354, 379, 404, 417, 442, 455, 511, 567, 623, 648], 75, 0), (124, .aload_n 1, 1, 0), (125, .aload_n 0, 1, 0), (126, .iload 4, 2, 0), (128, .iconst 1, 1, 0), (129, .iadd, 1, 0), (130, .iaload, 1, 0), (131, .aload_n 0, 1, 0), (132, .iload 4, 2, 0), (134, .iconst 2, 1, 0), (135, .iadd, 1, 0), (136, .iaload, 1, 0), (137, .aload_n 3, 1, 0), (138, .invokestatic 46, 3, 0), (141, .istore 5, 2, 0), (143, .aload_n 2, 1, 0), (144, .aload_n 0, 1, 0), (145, .iload 4, 2, 0), (147, .iconst 1, 1, 0), (148, .iadd, 1, 0), (149, .iaload, 1, 0), (150, .aload_n 0, 1, 0), (151, .iload 4, 2, 0), (153, .iconst 2, 1, 0), (154, .iadd, 1, 0), (155, .iaload, 1, 0), (156, .invokevirtual 49, 3, 0), (159, .istore 6, 2, 0), (161, .aload_n 2, 1, 0), (162, .invokevirtual 50, 3, 0), (165, .iload 5, 2, 0), (167, .if_icmp .eq 5, 3, 172), (170, .iconst 0, 1, 0), (171, .ireturn, 1, 0), (172, .iload 5, 2, 0), (174, .ifCond .ne 22, 3, 196), (177, .aload_n 3, 1, 0), (178, .iconst 0, 1, 0), (179, .laload, 1, 0), (180, .iload 6, 2, 0), (182, .ifCond .eq 7, 3, 189), (185, .lconst 1, 1, 0), (186, .goto 4, 3, 190), (189, .lconst 0, 1, 0), (190, .lcmp, 1, 0), (191, .ifCond .eq 5, 3, 196), (194, .iconst 0, 1, 0), (195, .ireturn, 1, 0), (196, .goto 538, 3, 734), (199, .aload_n 1, 1, 0), (200, .aload_n 0, 1, 0), (201, .iload 4, 2, 0), (203, .iconst 1, 1, 0), (204, .iadd, 1, 0), (205, .iaload, 1, 0), (206, .aload_n 0, 1, 0), (207, .iload 4, 2, 0), (209, .iconst 2, 1, 0), (210, .iadd, 1, 0), (211, .iaload, 1, 0), (212, .aload_n 3, 1, 0), (213, .invokestatic 54, 3, 0), (216, .istore 5, 2, 0), (218, .aload_n 2, 1, 0), (219, .aload_n 0, 1, 0), (220, .iload 4, 2, 0), (222, .iconst 1, 1, 0), (223, .iadd, 1, 0), (224, .iaload, 1, 0), (225, .aload_n 0, 1, 0), (226, .iload 4, 2, 0), (228, .iconst 2, 1, 0), (229, .iadd, 1, 0), (230, .iaload, 1, 0), (231, .invokevirtual 56, 3, 0), (234, .istore 6, 2, 0), (236, .aload_n 2, 1, 0), (237, .invokevirtual 50, 3, 0), (240, .iload 5, 2, 0), (242, .if_icmp .eq 5, 3, 247), (245, .iconst 0, 1, 0), (246, .ireturn, 1, 0), (247, .iload 5, 2, 0), (249, .ifCond .ne 22, 3, 271), (252, .aload_n 3, 1, 0), (253, .iconst 0, 1, 0), (254, .laload, 1, 0), (255, .iload 6, 2, 0), (257, .ifCond .eq 7, 3, 264), (260, .lconst 1, 1, 0), (261, .goto 4, 3, 265), (264, .lconst 0, 1, 0), (265, .lcmp, 1, 0), (266, .ifCond .eq 5, 3, 271), (269, .iconst 0, 1, 0), (270, .ireturn, 1, 0), (271, .goto 463, 3, 734), (274, .aload_n 1, 1, 0), (275, .aload_n 0, 1, 0), (276, .iload 4, 2, 0), (278, .iconst 1, 1, 0), (279, .iadd, 1, 0), (280, .iaload, 1, 0), (281, .aload_n 0, 1, 0), (282, .iload 4, 2, 0), (284, .iconst 2, 1, 0), (285, .iadd, 1, 0), (286, .iaload, 1, 0), (287, .ifCond .eq 7, 3, 294), (290, .iconst 1, 1, 0), (291, .goto 4, 3, 295), (294, .iconst 0, 1, 0), (295, .aload_n 3, 1, 0), (296, .invokestatic 57, 3, 0), (299, .istore 5, 2, 0), (301, .aload_n 2, 1, 0), (302, .aload_n 0, 1, 0), (303, .iload 4, 2, 0), (305, .iconst 1, 1, 0), (306, .iadd, 1, 0), (307, .iaload, 1, 0), (308, .aload_n 0, 1, 0), (309, .iload 4, 2, 0), (311, .iconst 2, 1, 0), (312, .iadd, 1, 0), (313, .iaload, 1, 0), (314, .ifCond .eq 7, 3, 321), (317, .iconst 1, 1, 0), (318, .goto 4, 3, 322), (321, .iconst 0, 1, 0), (322, .invokevirtual 60, 3, 0), (325, .istore 6, 2, 0), (327, .aload_n 2, 1, 0), (328, .invokevirtual 50, 3, 0), (331, .iload 5, 2, 0), (333, .if_icmp .eq 5, 3, 338), (336, .iconst 0, 1, 0), (337, .ireturn, 1, 0), (338, .iload 5, 2, 0), (340, .ifCond .ne 22, 3, 362), (343, .aload_n 3, 1, 0), (344, .iconst 0, 1, 0), (345, .laload, 1, 0), (346, .iload 6, 2, 0), (348, .ifCond .eq 7, 3, 355), (351, .lconst 1, 1, 0), (352, .goto 4, 3, 356), (355, .lconst 0, 1, 0), (356, .lcmp, 1, 0), (357, .ifCond .eq 5, 3, 362), (360, .iconst 0, 1, 0), (361, .ireturn, 1, 0), (362, .goto 372, 3, 734), (365, .aload_n 1, 1, 0), (366, .invokevirtual 61, 3, 0), (369, .aload_n 2, 1, 0), (370, .invokevirtual 64, 3, 0), (373, .if_icmp .eq 361, 3, 734), (376, .iconst 0, 1, 0), (377, .ireturn, 1, 0), (378, .aload_n 1, 1, 0), (379, .aload_n 0, 1, 0), (380, .iload 4, 2, 0), (382, .iconst 1, 1, 0), (383, .iadd, 1, 0), (384, .iaload, 1, 0), (385, .invokevirtual 65, 3, 0), (388, .aload_n 2, 1, 0), (389, .aload_n 0, 1, 0), (390, .iload 4, 2, 0), (392, .iconst 1, 1, 0), (393, .iadd, 1, 0), (394, .iaload, 1, 0), (395, .invokevirtual 68, 3, 0), (398, .if_icmp .eq 336, 3, 734), (401, .iconst 0, 1, 0), (402, .ireturn, 1, 0), (403, .aload_n 1, 1, 0), (404, .aload_n 0, 1, 0), (405, .iload 4, 2, 0), (407, .iconst 1, 1, 0), (408, .iadd, 1, 0), (409, .iaload, 1, 0), (410, .invokevirtual 69, 3, 0), (413, .aload_n 2, 1, 0), (414, .aload_n 0, 1, 0), (415, .iload 4, 2, 0), (417, .iconst 1, 1, 0), (418, .iadd, 1, 0), (419, .iaload, 1, 0), (420, .invokevirtual 72, 3, 0), (423, .if_icmp .eq 311, 3, 734), (426, .iconst 0, 1, 0), (427, .ireturn, 1, 0), (428, .aload_n 1, 1, 0), (429, .aload_n 0, 1, 0), (430, .iload 4, 2, 0), (432, .iconst 1, 1, 0), (433, .iadd, 1, 0), (434, .iaload, 1, 0), (435, .invokevirtual 73, 3, 0), (438, .aload_n 2, 1, 0), (439, .aload_n 0, 1, 0), (440, .iload 4, 2, 0), (442, .iconst 1, 1, 0), (443, .iadd, 1, 0), (444, .iaload, 1, 0), (445, .invokevirtual 76, 3, 0), (448, .if_icmp .eq 286, 3, 734), (451, .iconst 0, 1, 0), (452, .ireturn, 1, 0), (453, .aload_n 1, 1, 0), (454, .invokevirtual 77, 3, 0), (457, .aload_n 2, 1, 0), (458, .invokevirtual 81, 3, 0), (461, .if_icmp .eq 273, 3, 734), (464, .iconst 0, 1, 0), (465, .ireturn, 1, 0), (466, .aload_n 1, 1, 0), (467, .aload_n 0, 1, 0), (468, .iload 4, 2, 0), (470, .iconst 1, 1, 0), (471, .iadd, 1, 0), (472, .iaload, 1, 0), (473, .invokevirtual 82, 3, 0), (476, .aload_n 2, 1, 0), (477, .aload_n 0, 1, 0), (478, .iload 4, 2, 0), (480, .iconst 1, 1, 0), (481, .iadd, 1, 0), (482, .iaload, 1, 0), (483, .invokevirtual 85, 3, 0), (486, .if_icmp .eq 248, 3, 734), (489, .iconst 0, 1, 0), (490, .ireturn, 1, 0), (491, .aload_n 1, 1, 0), (492, .invokevirtual 86, 3, 0), (495, .aload_n 2, 1, 0), (496, .invokevirtual 89, 3, 0), (499, .if_icmp .eq 235, 3, 734), (502, .iconst 0, 1, 0), (503, .ireturn, 1, 0), (504, .aload_n 1, 1, 0), (505, .aload_n 0, 1, 0), (506, .iload 4, 2, 0), (508, .iconst 1, 1, 0), (509, .iadd, 1, 0), (510, .iaload, 1, 0), (511, .aload_n 3, 1, 0), (512, .invokestatic 90, 3, 0), (515, .istore 5, 2, 0), (517, .aload_n 2, 1, 0), (518, .aload_n 0, 1, 0), (519, .iload 4, 2, 0), (521, .iconst 1, 1, 0), (522, .iadd, 1, 0), (523, .iaload, 1, 0), (524, .invokevirtual 93, 3, 0), (527, .istore 6, 2, 0), (529, .aload_n 2, 1, 0), (530, .invokevirtual 50, 3, 0), (533, .iload 5, 2, 0), (535, .if_icmp .eq 5, 3, 540), (538, .iconst 0, 1, 0), (539, .ireturn, 1, 0), (540, .iload 5, 2, 0), (542, .ifCond .ne 15, 3, 557), (545, .aload_n 3, 1, 0), (546, .iconst 0, 1, 0), (547, .laload, 1, 0), (548, .iload 6, 2, 0), (550, .i2l, 1, 0), (551, .lcmp, 1, 0), (552, .ifCond .eq 5, 3, 557), (555, .iconst 0, 1, 0), (556, .ireturn, 1, 0), (557, .goto 177, 3, 734), (560, .aload_n 1, 1, 0), (561, .aload_n 0, 1, 0), (562, .iload 4, 2, 0), (564, .iconst 1, 1, 0), (565, .iadd, 1, 0), (566, .iaload, 1, 0), (567, .aload_n 3, 1, 0), (568, .invokestatic 94, 3, 0), (571, .istore 5, 2, 0), (573, .aload_n 2, 1, 0), (574, .aload_n 0, 1, 0), (575, .iload 4, 2, 0), (577, .iconst 1, 1, 0), (578, .iadd, 1, 0), (579, .iaload, 1, 0), (580, .invokevirtual 96, 3, 0), (583, .istore 6, 2, 0), (585, .aload_n 2, 1, 0), (586, .invokevirtual 50, 3, 0), (589, .iload 5, 2, 0), (591, .if_icmp .eq 5, 3, 596), (594, .iconst 0, 1, 0), (595, .ireturn, 1, 0), (596, .iload 5, 2, 0), (598, .ifCond .ne 15, 3, 613), (601, .aload_n 3, 1, 0), (602, .iconst 0, 1, 0), (603, .laload, 1, 0), (604, .iload 6, 2, 0), (606, .i2l, 1, 0), (607, .lcmp, 1, 0), (608, .ifCond .eq 5, 3, 613), (611, .iconst 0, 1, 0), (612, .ireturn, 1, 0), (613, .goto 121, 3, 734), (616, .aload_n 1, 1, 0), (617, .aload_n 0, 1, 0), (618, .iload 4, 2, 0), (620, .iconst 1, 1, 0), (621, .iadd, 1, 0), (622, .iaload, 1, 0), (623, .aload_n 3, 1, 0), (624, .invokestatic 97, 3, 0), (627, .istore 5, 2, 0), (629, .aload_n 2, 1, 0), (630, .aload_n 0, 1, 0), (631, .iload 4, 2, 0), (633, .iconst 1, 1, 0), (634, .iadd, 1, 0), (635, .iaload, 1, 0), (636, .invokevirtual 99, 3, 0), (639, .istore 6, 2, 0), (641, .aload_n 2, 1, 0), (642, .invokevirtual 50, 3, 0), (645, .iload 5, 2, 0), (647, .if_icmp .eq 5, 3, 652), (650, .iconst 0, 1, 0), (651, .ireturn, 1, 0), (652, .iload 5, 2, 0), (654, .ifCond .ne 15, 3, 669), (657, .aload_n 3, 1, 0), (658, .iconst 0, 1, 0), (659, .laload, 1, 0), (660, .iload 6, 2, 0), (662, .i2l, 1, 0), (663, .lcmp, 1, 0), (664, .ifCond .eq 5, 3, 669), (667, .iconst 0, 1, 0), (668, .ireturn, 1, 0), (669, .goto 65, 3, 734), (672, .aload_n 1, 1, 0), (673, .aload_n 0, 1, 0), (674, .iload 4, 2, 0), (676, .iconst 1, 1, 0), (677, .iadd, 1, 0), (678, .iaload, 1, 0), (679, .invokevirtual 100, 3, 0), (682, .aload_n 2, 1, 0), (683, .aload_n 0, 1, 0), (684, .iload 4, 2, 0), (686, .iconst 1, 1, 0), (687, .iadd, 1, 0), (688, .iaload, 1, 0), (689, .invokevirtual 103, 3, 0), (692, .if_icmp .eq 42, 3, 734), (695, .iconst 0, 1, 0), (696, .ireturn, 1, 0), (697, .aload_n 1, 1, 0), (698, .aload_n 0, 1, 0), (699, .iload 4, 2, 0), (701, .iconst 1, 1, 0), (702, .iadd, 1, 0), (703, .iaload, 1, 0), (704, .aload_n 0, 1, 0), (705, .iload 4, 2, 0), (707, .iconst 2, 1, 0), (708, .iadd, 1, 0), (709, .iaload, 1, 0), (710, .invokevirtual 104, 3, 0), (713, .aload_n 2, 1, 0), (714, .aload_n 0, 1, 0), (715, .iload 4, 2, 0), (717, .iconst 1, 1, 0), (718, .iadd, 1, 0), (719, .iaload, 1, 0), (720, .aload_n 0, 1, 0), (721, .iload 4, 2, 0), (723, .iconst 2, 1, 0), (724, .iadd, 1, 0), (725, .iaload, 1, 0), (726, .invokevirtual 108, 3, 0), (729, .if_icmp .eq 5, 3, 734), (732, .iconst 0, 1, 0), (733, .ireturn, 1, 0), (734, .iinc 4 3, 3, 0), (737, .goto (-704), 3, 33), (740, .iconst 1, 1, 0), (741, .ireturn, 1, 0)]
abbrev k_L_law : Nat := 172
def fl_J6 : List (Nat × Nat × Nat × FieldType × Nat) := []
def fi_J6 : List (Nat × Nat × Nat × FieldType × Nat) := []
def vl_J6 : List (Nat × Nat × Nat × Nat × Nat × Nat) := []
def sl_J6 : List (Nat × Nat × Nat × Nat × Nat × Nat) := []
def pl_J6 : List (Nat × Option (Nat × Nat × Nat × Nat)) := []
def nl_J6 : List (Nat × Nat × List Value) := []
def tl_J6 : List (Nat × String) := []
def kl_J6 : List (Nat × Value) := [(265, .int (1431655765)), (266, .int (858993459)), (267, .int (252645135))]
def fl_X8 : List (Nat × Nat × Nat × FieldType × Nat) := [(7, 8, 4, (.array .int), 0), (13, 8, 5, (.array .int), 0), (16, 8, 6, (.array .boolean), 0), (20, 8, 7, (.array .int), 0), (23, 8, 8, .int, 1), (27, 8, 9, (.array .boolean), 0), (30, 8, 10, (.array .int), 0), (33, 8, 14, (.array .int), 0), (36, 8, 15, (.array .int), 0), (40, 8, 17, (.array .int), 0), (43, 8, 18, (.array .int), 0), (46, 8, 19, (.array .int), 0), (49, 8, 20, (.array .boolean), 0), (52, 8, 21, (.array .boolean), 0), (55, 8, 22, (.array .boolean), 0), (58, 8, 1, .int, 0), (61, 8, 2, .int, 0), (64, 8, 3, .int, 0), (71, 8, 0, .int, 1), (92, 8, 16, .int, 1), (113, 8, 11, .int, 1), (116, 8, 12, .int, 1), (122, 8, 13, .int, 1)]
def fi_X8 : List (Nat × Nat × Nat × FieldType × Nat) := [(7, 8, 4, (.array .int), 2), (13, 8, 5, (.array .int), 2), (16, 8, 6, (.array .boolean), 2), (20, 8, 7, (.array .int), 2), (23, 8, 8, .int, 1), (27, 8, 9, (.array .boolean), 2), (30, 8, 10, (.array .int), 2), (33, 8, 14, (.array .int), 2), (36, 8, 15, (.array .int), 2), (40, 8, 17, (.array .int), 2), (43, 8, 18, (.array .int), 2), (46, 8, 19, (.array .int), 2), (49, 8, 20, (.array .boolean), 2), (52, 8, 21, (.array .boolean), 2), (55, 8, 22, (.array .boolean), 2), (58, 8, 1, .int, 2), (61, 8, 2, .int, 2), (64, 8, 3, .int, 2), (71, 8, 0, .int, 1), (92, 8, 16, .int, 1), (113, 8, 11, .int, 1), (116, 8, 12, .int, 1), (122, 8, 13, .int, 1)]
def vl_X8 : List (Nat × Nat × Nat × Nat × Nat × Nat) := [(67, 4, 0, 8, 0, 0), (74, 7, 1, 8, 0, 0), (78, 9, 2, 8, 0, 0), (82, 11, 2, 8, 0, 0), (86, 13, 2, 8, 0, 0), (89, 10, 2, 8, 0, 0), (95, 5, 1, 8, 0, 0), (99, 3, 2, 8, 0, 0), (103, 6, 1, 8, 0, 0), (106, 15, 2, 8, 0, 0), (110, 16, 0, 8, 0, 0), (119, 21, 2, 8, 0, 0), (131, 23, 2, 8, 0, 0), (134, 8, 2, 8, 0, 0), (137, 20, 0, 8, 0, 0), (140, 22, 0, 8, 0, 0), (144, 30, 3, 8, 0, 0), (148, 31, 3, 8, 0, 0), (152, 24, 1, 8, 0, 0), (156, 26, 2, 8, 0, 0), (159, 25, 1, 8, 0, 0), (162, 35, 2, 8, 0, 0), (165, 39, 4, 8, 0, 0), (169, 40, 3, 8, 0, 0), (172, 41, 2, 8, 0, 0), (175, 42, 1, 8, 0, 0), (179, 43, 2, 8, 0, 0), (182, 45, 4, 8, 0, 0), (186, 27, 0, 8, 0, 0), (189, 29, 1, 8, 0, 0), (192, 32, 0, 8, 0, 0), (195, 33, 0, 8, 0, 0), (198, 34, 1, 8, 0, 0), (201, 36, 1, 8, 0, 0), (204, 37, 2, 8, 0, 0), (207, 38, 1, 8, 0, 0), (210, 44, 0, 8, 0, 0), (213, 46, 0, 8, 0, 0), (216, 14, 0, 8, 0, 0), (219, 47, 1, 8, 0, 0), (222, 48, 0, 8, 0, 0), (225, 51, 0, 8, 0, 0), (228, 50, 0, 8, 0, 0), (231, 53, 1, 8, 0, 0), (234, 56, 0, 8, 0, 0)]
def sl_X8 : List (Nat × Nat × Nat × Nat × Nat × Nat) := [(125, 12, 1, 0, 0, 0), (128, 28, 1, 0, 0, 0), (345, 64, 1, 0, 0, 0), (349, 65, 3, 0, 0, 0)]
def pl_X8 : List (Nat × Option (Nat × Nat × Nat × Nat)) := [(1, none)]
def nl_X8 : List (Nat × Nat × List Value) := []
def tl_X8 : List (Nat × String) := []
def kl_X8 : List (Nat × Value) := [(39, .int (66420)), (237, .long (7809650170890551296)), (239, .long (7597045228569624576)), (241, .long (7597045297289035776)), (243, .long (7597045232863835501)), (245, .long (7926335344172072960)), (247, .long (8101810177783197287)), (249, .long (7164208212674702951)), (251, .long (8097869543336050688)), (253, .long (8390884987320467456)), (255, .long (8175547780685627392)), (257, .long (7523655034860347504)), (259, .long (7019266838559195136)), (261, .long (7523655034860347508)), (263, .long (8244244203731681280)), (265, .long (8392298615777752947)), (267, .long (8392298615526091893)), (269, .long (7885366441409511424)), (271, .long (8388080085791437423)), (273, .long (8607223312835149824)), (275, .long (8388080085791433583)), (277, .long (7815273049514573824)), (279, .long (8604529951728730112)), (281, .long (7454131802486110057)), (283, .long (7955327266773270528)), (285, .long (7165064758137352960)), (287, .long (8029474453139189349)), (289, .long (2333267524158059008)), (291, .long (7810777198031601664)), (293, .long (7596763616103064427)), (295, .long (7597045236991402074)), (297, .long (7307491051432837120)), (299, .long (7597045236991402067)), (301, .long (8097872852155367424)), (303, .long (8819571338079265792)), (305, .long (7381244089807826532)), (307, .long (5792017738029334528)), (309, .long (6085041977989791744)), (311, .long (5869704833554281588)), (313, .long (8531350909322879851)), (315, .long (8387236463672123762)), (317, .long (8387236463740348784)), (319, .long (7308216295315472384)), (321, .long (8824633497044542825)), (323, .long (7810770075023048704)), (325, .long (8824633497044086881)), (327, .long (7814982776515461120)), (329, .long (7237959053326574953)), (331, .long (7237959053326119009)), (333, .long (6008761189921613669)), (335, .long (7454142874899521619)), (337, .long (7163106502040315136)), (339, .long (5071460422329958400)), (341, .long (7959393399913148005)), (343, .long (2324260329198940788))]
def fl_X2 : List (Nat × Nat × Nat × FieldType × Nat) := [(9, 3, 0, .int, 0), (15, 3, 1, .int, 0), (18, 3, 2, .int, 0), (21, 3, 3, (.array .int), 0), (25, 3, 4, (.array .int), 0), (28, 3, 5, (.array .int), 0), (31, 3, 6, (.array .int), 0), (34, 3, 7, (.array .int), 0), (37, 3, 8, (.array .int), 0)]
def fi_X2 : List (Nat × Nat × Nat × FieldType × Nat) := [(9, 3, 0, .int, 2), (15, 3, 1, .int, 2), (18, 3, 2, .int, 2), (21, 3, 3, (.array .int), 2), (25, 3, 4, (.array .int), 2), (28, 3, 5, (.array .int), 2), (31, 3, 6, (.array .int), 2), (34, 3, 7, (.array .int), 2), (37, 3, 8, (.array .int), 2)]
def vl_X2 : List (Nat × Nat × Nat × Nat × Nat × Nat) := [(40, 68, 0, 3, 0, 0), (43, 69, 2, 3, 0, 0), (47, 71, 0, 3, 0, 0), (50, 70, 4, 3, 0, 0), (54, 73, 2, 3, 0, 0), (58, 77, 1, 3, 0, 0)]
def sl_X2 : List (Nat × Nat × Nat × Nat × Nat × Nat) := [(62, 0, 1, 0, 0, 0)]
def pl_X2 : List (Nat × Option (Nat × Nat × Nat × Nat)) := [(3, none)]
def nl_X2 : List (Nat × Nat × List Value) := []
def tl_X2 : List (Nat × String) := []
def kl_X2 : List (Nat × Value) := []
def fl_X1 : List (Nat × Nat × Nat × FieldType × Nat) := [(9, 2, 0, (.array .int), 0), (15, 2, 1, (.array .int), 0), (18, 2, 2, .int, 1), (22, 2, 3, .int, 1), (25, 2, 4, .int, 1), (28, 2, 5, .int, 1), (31, 2, 6, .int, 1)]
def fi_X1 : List (Nat × Nat × Nat × FieldType × Nat) := [(9, 2, 0, (.array .int), 2), (15, 2, 1, (.array .int), 2), (18, 2, 2, .int, 1), (22, 2, 3, .int, 1), (25, 2, 4, .int, 1), (28, 2, 5, .int, 1), (31, 2, 6, .int, 1)]
def vl_X1 : List (Nat × Nat × Nat × Nat × Nat × Nat) := []
def sl_X1 : List (Nat × Nat × Nat × Nat × Nat × Nat) := [(34, 0, 1, 0, 0, 0), (40, 90, 2, 0, 0, 0), (44, 164, 1, 1, 0, 0)]
def pl_X1 : List (Nat × Option (Nat × Nat × Nat × Nat)) := [(3, none)]
def nl_X1 : List (Nat × Nat × List Value) := []
def tl_X1 : List (Nat × String) := []
def kl_X1 : List (Nat × Value) := []
def fl_X3 : List (Nat × Nat × Nat × FieldType × Nat) := [(9, 4, 0, (.array .int), 0), (15, 4, 1, (.array .int), 0), (18, 4, 2, (.array .int), 0), (21, 4, 3, (.array .int), 0), (24, 4, 4, .int, 1), (28, 4, 5, .int, 1), (37, 3, 4, (.array .int), 0)]
def fi_X3 : List (Nat × Nat × Nat × FieldType × Nat) := [(9, 4, 0, (.array .int), 2), (15, 4, 1, (.array .int), 2), (18, 4, 2, (.array .int), 2), (21, 4, 3, (.array .int), 2), (24, 4, 4, .int, 1), (28, 4, 5, .int, 1), (37, 3, 4, (.array .int), 0)]
def vl_X3 : List (Nat × Nat × Nat × Nat × Nat × Nat) := [(31, 81, 2, 3, 0, 0)]
def sl_X3 : List (Nat × Nat × Nat × Nat × Nat × Nat) := []
def pl_X3 : List (Nat × Option (Nat × Nat × Nat × Nat)) := [(3, none)]
def nl_X3 : List (Nat × Nat × List Value) := []
def tl_X3 : List (Nat × String) := []
def kl_X3 : List (Nat × Value) := []
def fl_X6 : List (Nat × Nat × Nat × FieldType × Nat) := [(7, 6, 0, .int, 0), (13, 6, 1, (.array .int), 0), (17, 6, 2, (.array .int), 0), (20, 6, 3, .int, 1)]
def fi_X6 : List (Nat × Nat × Nat × FieldType × Nat) := [(7, 6, 0, .int, 2), (13, 6, 1, (.array .int), 2), (17, 6, 2, (.array .int), 2), (20, 6, 3, .int, 1)]
def vl_X6 : List (Nat × Nat × Nat × Nat × Nat × Nat) := [(23, 98, 3, 6, 0, 0)]
def sl_X6 : List (Nat × Nat × Nat × Nat × Nat × Nat) := []
def pl_X6 : List (Nat × Option (Nat × Nat × Nat × Nat)) := [(1, none)]
def nl_X6 : List (Nat × Nat × List Value) := []
def tl_X6 : List (Nat × String) := []
def kl_X6 : List (Nat × Value) := []
def fl_X0 : List (Nat × Nat × Nat × FieldType × Nat) := [(11, 1, 0, (.array .int), 0), (15, 1, 1, (.array .int), 0), (18, 3, 0, .int, 0), (24, 3, 3, (.array .int), 0), (31, 1, 2, .int, 1), (80, 2, 5, .int, 1)]
def fi_X0 : List (Nat × Nat × Nat × FieldType × Nat) := [(11, 1, 0, (.array .int), 2), (15, 1, 1, (.array .int), 2), (18, 3, 0, .int, 0), (24, 3, 3, (.array .int), 0), (31, 1, 2, .int, 1), (80, 2, 5, .int, 1)]
def vl_X0 : List (Nat × Nat × Nat × Nat × Nat × Nat) := [(27, 104, 3, 1, 0, 0), (34, 107, 3, 1, 0, 0), (38, 111, 0, 1, 0, 0), (41, 105, 2, 1, 0, 0), (45, 106, 4, 1, 0, 0), (49, 73, 2, 3, 0, 0), (53, 76, 2, 3, 0, 0), (65, 72, 2, 3, 0, 0), (68, 108, 2, 1, 0, 0), (72, 109, 3, 1, 0, 0), (76, 110, 3, 1, 0, 0), (85, 88, 1, 2, 0, 0), (89, 79, 2, 3, 0, 0), (93, 87, 2, 2, 0, 0)]
def sl_X0 : List (Nat × Nat × Nat × Nat × Nat × Nat) := [(56, 0, 1, 0, 0, 0), (62, 164, 1, 1, 0, 0)]
def pl_X0 : List (Nat × Option (Nat × Nat × Nat × Nat)) := [(5, none)]
def nl_X0 : List (Nat × Nat × List Value) := []
def tl_X0 : List (Nat × String) := []
def kl_X0 : List (Nat × Value) := []
def fl_X5 : List (Nat × Nat × Nat × FieldType × Nat) := [(14, 5, 0, (.object "HumanSteps$Grid"), 0), (20, 3, 0, .int, 0), (24, 5, 2, .int, 0), (27, 3, 1, .int, 0), (31, 5, 1, (.object "HumanSteps$Finding"), 0), (38, 5, 3, (.object "HumanSteps$Sets"), 0), (45, 5, 4, (.object "HumanSteps$Colours"), 0), (49, 5, 5, (.array .int), 0), (87, 2, 3, .int, 1), (90, 2, 4, .int, 1), (93, 3, 3, (.array .int), 0), (106, 2, 5, .int, 1), (153, 3, 2, .int, 0)]
def fi_X5 : List (Nat × Nat × Nat × FieldType × Nat) := [(14, 5, 0, (.object "HumanSteps$Grid"), 2), (20, 3, 0, .int, 0), (24, 5, 2, .int, 2), (27, 3, 1, .int, 0), (31, 5, 1, (.object "HumanSteps$Finding"), 2), (38, 5, 3, (.object "HumanSteps$Sets"), 2), (45, 5, 4, (.object "HumanSteps$Colours"), 2), (49, 5, 5, (.array .int), 2), (87, 2, 3, .int, 1), (90, 2, 4, .int, 1), (93, 3, 3, (.array .int), 0), (106, 2, 5, .int, 1), (153, 3, 2, .int, 0)]
def vl_X5 : List (Nat × Nat × Nat × Nat × Nat × Nat) := [(53, 118, 0, 5, 0, 0), (57, 119, 1, 5, 0, 0), (61, 121, 0, 5, 0, 0), (64, 122, 0, 5, 0, 0), (67, 125, 1, 5, 0, 0), (70, 126, 1, 5, 0, 0), (73, 127, 2, 5, 0, 0), (77, 132, 1, 5, 0, 0), (80, 103, 2, 1, 0, 0), (84, 135, 0, 5, 0, 0), (96, 87, 2, 2, 0, 0), (100, 79, 2, 3, 0, 0), (103, 72, 2, 3, 0, 0), (109, 88, 1, 2, 0, 0), (112, 77, 1, 3, 0, 0), (124, 114, 2, 5, 0, 0), (127, 76, 2, 3, 0, 0), (130, 120, 2, 5, 0, 0), (133, 117, 2, 5, 0, 0), (136, 123, 3, 5, 0, 0), (140, 124, 3, 5, 0, 0), (144, 78, 2, 3, 0, 0), (147, 116, 0, 5, 0, 0), (150, 73, 2, 3, 0, 0), (156, 129, 1, 5, 0, 0), (159, 99, 1, 6, 0, 0), (162, 100, 1, 6, 0, 0), (165, 101, 1, 6, 0, 0), (168, 130, 3, 5, 0, 0), (171, 131, 1, 5, 0, 0), (174, 115, 3, 5, 0, 0), (178, 128, 3, 5, 0, 0), (181, 133, 2, 5, 0, 0), (184, 134, 4, 5, 0, 0), (188, 136, 4, 5, 0, 0), (191, 137, 3, 5, 0, 0), (194, 138, 4, 5, 0, 0)]
def sl_X5 : List (Nat × Nat × Nat × Nat × Nat × Nat) := [(115, 0, 1, 0, 0, 0), (121, 164, 1, 1, 0, 0)]
def pl_X5 : List (Nat × Option (Nat × Nat × Nat × Nat)) := [(3, none), (11, some (67, 1, 6, 1134)), (30, some (85, 1, 2, 162)), (37, some (97, 1, 2, 518)), (44, some (102, 1, 2, 243))]
def nl_X5 : List (Nat × Nat × List Value) := [(9, 3, [.int 0, .int 0, .int 0, .null, .null, .null, .null, .null, .null]), (25, 2, [.null, .null, .int 0, .int 0, .int 0, .int 0, .int 0]), (35, 6, [.int 0, .null, .null, .int 0]), (42, 1, [.null, .null, .int 0])]
def tl_X5 : List (Nat × String) := []
def kl_X5 : List (Nat × Value) := []
def fl_X7 : List (Nat × Nat × Nat × FieldType × Nat) := [(12, 7, 0, (.object "HumanSteps$Seeker"), 0), (18, 5, 0, (.object "HumanSteps$Grid"), 0), (22, 7, 1, (.object "HumanSteps$Grid"), 0), (23, 5, 1, (.object "HumanSteps$Finding"), 0), (27, 7, 2, (.object "HumanSteps$Finding"), 0), (30, 3, 0, .int, 0), (37, 7, 3, (.object "HumanSteps$History"), 0), (41, 7, 4, (.array .boolean), 0), (45, 7, 5, (.array .int), 0), (88, 2, 2, .int, 1), (91, 2, 6, .int, 1), (94, 2, 5, .int, 1), (97, 2, 3, .int, 1), (100, 2, 4, .int, 1), (103, 2, 1, (.array .int), 0), (125, 4, 5, .int, 1), (132, 3, 3, (.array .int), 0), (135, 3, 4, (.array .int), 0), (182, 3, 1, .int, 0), (185, 2, 0, (.array .int), 0)]
def fi_X7 : List (Nat × Nat × Nat × FieldType × Nat) := [(12, 7, 0, (.object "HumanSteps$Seeker"), 2), (18, 5, 0, (.object "HumanSteps$Grid"), 0), (22, 7, 1, (.object "HumanSteps$Grid"), 2), (23, 5, 1, (.object "HumanSteps$Finding"), 0), (27, 7, 2, (.object "HumanSteps$Finding"), 2), (30, 3, 0, .int, 0), (37, 7, 3, (.object "HumanSteps$History"), 2), (41, 7, 4, (.array .boolean), 2), (45, 7, 5, (.array .int), 2), (88, 2, 2, .int, 1), (91, 2, 6, .int, 1), (94, 2, 5, .int, 1), (97, 2, 3, .int, 1), (100, 2, 4, .int, 1), (103, 2, 1, (.array .int), 0), (125, 4, 5, .int, 1), (132, 3, 3, (.array .int), 0), (135, 3, 4, (.array .int), 0), (182, 3, 1, .int, 0), (185, 2, 0, (.array .int), 0)]
def vl_X7 : List (Nat × Nat × Nat × Nat × Nat × Nat) := [(49, 161, 1, 7, 1, 6), (52, 162, 1, 7, 1, 6), (55, 159, 2, 7, 0, 0), (59, 86, 0, 2, 0, 0), (64, 114, 2, 5, 0, 0), (68, 157, 0, 7, 0, 0), (71, 158, 0, 7, 0, 0), (74, 80, 2, 3, 0, 0), (77, 163, 1, 7, 1, 6), (80, 82, 0, 3, 0, 0), (84, 113, 1, 5, 0, 0), (106, 89, 2, 2, 0, 0), (110, 156, 0, 7, 0, 0), (113, 92, 0, 4, 0, 0), (122, 143, 0, 7, 0, 0), (128, 96, 1, 4, 0, 0), (138, 83, 0, 3, 0, 0), (141, 84, 0, 3, 0, 0), (144, 160, 0, 7, 0, 0), (172, 74, 1, 3, 0, 0), (176, 75, 1, 3, 0, 0), (179, 95, 2, 4, 0, 0), (188, 94, 2, 4, 0, 0), (191, 93, 0, 4, 0, 0), (192, 77, 1, 3, 0, 0)]
def sl_X7 : List (Nat × Nat × Nat × Nat × Nat × Nat) := [(117, 0, 2, 2, 0, 0)]
def pl_X7 : List (Nat × Option (Nat × Nat × Nat × Nat)) := [(1, none), (9, some (112, 1, 17, 2089)), (36, some (91, 1, 4, 3159))]
def nl_X7 : List (Nat × Nat × List Value) := [(7, 5, [.null, .null, .int 0, .null, .null, .null]), (28, 4, [.null, .null, .null, .null, .int 0, .int 0])]
def tl_X7 : List (Nat × String) := [(195, "java/lang/ArrayIndexOutOfBoundsException"), (202, "java/lang/IllegalArgumentException")]
def kl_X7 : List (Nat × Value) := []
def fl_L : List (Nat × Nat × Nat × FieldType × Nat) := []
def fi_L : List (Nat × Nat × Nat × FieldType × Nat) := []
def vl_L : List (Nat × Nat × Nat × Nat × Nat × Nat) := [(7, 140, 2, 7, 2, 12), (17, 141, 2, 7, 2, 12), (20, 142, 2, 7, 1, 6), (24, 150, 1, 7, 1, 6), (28, 151, 1, 7, 1, 6), (31, 152, 1, 7, 1, 6), (49, 17, 2, 8, 0, 0), (50, 2, 0, 8, 0, 0), (56, 18, 2, 8, 0, 0), (60, 19, 2, 8, 0, 0), (61, 143, 0, 7, 0, 0), (64, 49, 0, 8, 0, 0), (65, 144, 1, 7, 0, 0), (68, 52, 1, 8, 0, 0), (69, 145, 1, 7, 0, 0), (72, 54, 1, 8, 0, 0), (73, 146, 1, 7, 0, 0), (76, 55, 1, 8, 0, 0), (77, 147, 0, 7, 0, 0), (81, 57, 0, 8, 0, 0), (82, 148, 1, 7, 0, 0), (85, 58, 1, 8, 0, 0), (86, 149, 0, 7, 0, 0), (89, 59, 0, 8, 0, 0), (93, 60, 1, 8, 0, 0), (96, 61, 1, 8, 0, 0), (99, 62, 1, 8, 0, 0), (100, 153, 1, 7, 0, 0), (103, 63, 1, 8, 0, 0), (104, 154, 2, 7, 0, 0), (108, 66, 2, 8, 0, 0)]
def sl_L : List (Nat × Nat × Nat × Nat × Nat × Nat) := [(34, 165, 2, 0, 0, 0), (46, 166, 4, 0, 2, 12), (54, 167, 4, 0, 2, 12), (57, 168, 4, 0, 1, 6), (90, 169, 3, 0, 1, 6), (94, 170, 3, 0, 1, 6), (97, 171, 3, 0, 1, 6)]
def pl_L : List (Nat × Option (Nat × Nat × Nat × Nat)) := [(40, some (139, 1, 25, 5298)), (45, some (1, 1, 14, 134351))]
def nl_L : List (Nat × Nat × List Value) := [(8, 7, [.null, .null, .null, .null, .null, .null]), (43, 8, [.int 0, .int 0, .int 0, .int 0, .null, .null, .null, .null, .int 0, .null, .null, .int 0, .int 0, .int 0, .null, .null, .int 0, .null, .null, .null, .null, .null, .null])]
def tl_L : List (Nat × String) := []
def kl_L : List (Nat × Value) := []
def x_exn : Nat → String → Option (Option (Nat × Nat)) := fun _ _ => some none
def m_J6_bitCount : x_M := (RJ6, yJ6_bitCount_0f7a4, cJ6_bitCount_0f7a4, 1, (some .int), x_lk il_J6_bitCount, x_lk fl_J6, x_lk vl_J6, x_lk sl_J6, x_lk pl_J6, x_lk nl_J6, x_lk tl_J6, x_exn, x_lk kl_J6, [])
def m_X8_init : x_M := (RX8, yX8_init, cX8_init, 3, none, x_lk il_X8_init, x_lk fi_X8, x_lk vl_X8, x_lk sl_X8, x_lk pl_X8, x_lk nl_X8, x_lk tl_X8, x_exn, x_lk kl_X8, [])
def m_X8_thrown : x_M := (RX8, yX8_thrown, cX8_thrown, 1, (some .int), x_lk il_X8_thrown, x_lk fl_X8, x_lk vl_X8, x_lk sl_X8, x_lk pl_X8, x_lk nl_X8, x_lk tl_X8, x_exn, x_lk kl_X8, [])
def m_X8_fails : x_M := (RX8, yX8_fails, cX8_fails, 3, (some .boolean), x_lk il_X8_fails, x_lk fl_X8, x_lk vl_X8, x_lk sl_X8, x_lk pl_X8, x_lk nl_X8, x_lk tl_X8, x_exn, x_lk kl_X8, [])
def m_X8_cells : x_M := (RX8, yX8_cells, cX8_cells, 1, (some .int), x_lk il_X8_cells, x_lk fl_X8, x_lk vl_X8, x_lk sl_X8, x_lk pl_X8, x_lk nl_X8, x_lk tl_X8, x_exn, x_lk kl_X8, [])
def m_X8_isCell : x_M := (RX8, yX8_isCell, cX8_isCell, 2, (some .boolean), x_lk il_X8_isCell, x_lk fl_X8, x_lk vl_X8, x_lk sl_X8, x_lk pl_X8, x_lk nl_X8, x_lk tl_X8, x_exn, x_lk kl_X8, [])
def m_X8_isSymbol : x_M := (RX8, yX8_isSymbol, cX8_isSymbol, 2, (some .boolean), x_lk il_X8_isSymbol, x_lk fl_X8, x_lk vl_X8, x_lk sl_X8, x_lk pl_X8, x_lk nl_X8, x_lk tl_X8, x_exn, x_lk kl_X8, [])
def m_X8_boxOf : x_M := (RX8, yX8_boxOf, cX8_boxOf, 2, (some .int), x_lk il_X8_boxOf, x_lk fl_X8, x_lk vl_X8, x_lk sl_X8, x_lk pl_X8, x_lk nl_X8, x_lk tl_X8, x_exn, x_lk kl_X8, [])
def m_X8_isIn : x_M := (RX8, yX8_isIn, cX8_isIn, 3, (some .boolean), x_lk il_X8_isIn, x_lk fl_X8, x_lk vl_X8, x_lk sl_X8, x_lk pl_X8, x_lk nl_X8, x_lk tl_X8, x_exn, x_lk kl_X8, [])
def m_X8_at : x_M := (RX8, yX8_at, cX8_at, 6, (some .int), x_lk il_X8_at, x_lk fl_X8, x_lk vl_X8, x_lk sl_X8, x_lk pl_X8, x_lk nl_X8, x_lk tl_X8, x_exn, x_lk kl_X8, [])
def m_X8_sees : x_M := (RX8, yX8_sees, cX8_sees, 3, (some .boolean), x_lk il_X8_sees, x_lk fl_X8, x_lk vl_X8, x_lk sl_X8, x_lk pl_X8, x_lk nl_X8, x_lk tl_X8, x_exn, x_lk kl_X8, [])
def m_X8_has : x_M := (RX8, yX8_has, cX8_has, 3, (some .boolean), x_lk il_X8_has, x_lk fl_X8, x_lk vl_X8, x_lk sl_X8, x_lk pl_X8, x_lk nl_X8, x_lk tl_X8, x_exn, x_lk kl_X8, [])
def m_X8_countOf : x_M := (RX8, yX8_countOf, cX8_countOf, 3, (some .int), x_lk il_X8_countOf, x_lk fl_X8, x_lk vl_X8, x_lk sl_X8, x_lk pl_X8, x_lk nl_X8, x_lk tl_X8, x_exn, x_lk kl_X8, [])
def m_X8_places : x_M := (RX8, yX8_places, cX8_places, 5, (some .int), x_lk il_X8_places, x_lk fl_X8, x_lk vl_X8, x_lk sl_X8, x_lk pl_X8, x_lk nl_X8, x_lk tl_X8, x_exn, x_lk kl_X8, [])
def m_X8_isBroken : x_M := (RX8, yX8_isBroken, cX8_isBroken, 3, (some .boolean), x_lk il_X8_isBroken, x_lk fl_X8, x_lk vl_X8, x_lk sl_X8, x_lk pl_X8, x_lk nl_X8, x_lk tl_X8, x_exn, x_lk kl_X8, [])
def m_X8_put : x_M := (RX8, yX8_put, cX8_put, 4, none, x_lk il_X8_put, x_lk fl_X8, x_lk vl_X8, x_lk sl_X8, x_lk pl_X8, x_lk nl_X8, x_lk tl_X8, x_exn, x_lk kl_X8, [])
def m_X8_changed : x_M := (RX8, yX8_changed, cX8_changed, 1, none, x_lk il_X8_changed, x_lk fl_X8, x_lk vl_X8, x_lk sl_X8, x_lk pl_X8, x_lk nl_X8, x_lk tl_X8, x_exn, x_lk kl_X8, [])
def m_X8_set : x_M := (RX8, yX8_set, cX8_set, 3, (some .boolean), x_lk il_X8_set, x_lk fl_X8, x_lk vl_X8, x_lk sl_X8, x_lk pl_X8, x_lk nl_X8, x_lk tl_X8, x_exn, x_lk kl_X8, [])
def m_X8_take : x_M := (RX8, yX8_take, cX8_take, 3, (some .boolean), x_lk il_X8_take, x_lk fl_X8, x_lk vl_X8, x_lk sl_X8, x_lk pl_X8, x_lk nl_X8, x_lk tl_X8, x_exn, x_lk kl_X8, [])
def m_X8_enable : x_M := (RX8, yX8_enable, cX8_enable, 3, (some .boolean), x_lk il_X8_enable, x_lk fl_X8, x_lk vl_X8, x_lk sl_X8, x_lk pl_X8, x_lk nl_X8, x_lk tl_X8, x_exn, x_lk kl_X8, [])
def m_X8_none : x_M := (RX8, yX8_none, cX8_none, 2, none, x_lk il_X8_none, x_lk fl_X8, x_lk vl_X8, x_lk sl_X8, x_lk pl_X8, x_lk nl_X8, x_lk tl_X8, x_exn, x_lk kl_X8, [])
def m_X8_leaves : x_M := (RX8, yX8_leaves, cX8_leaves, 3, none, x_lk il_X8_leaves, x_lk fl_X8, x_lk vl_X8, x_lk sl_X8, x_lk pl_X8, x_lk nl_X8, x_lk tl_X8, x_exn, x_lk kl_X8, [])
def m_X8_takes : x_M := (RX8, yX8_takes, cX8_takes, 2, (some .boolean), x_lk il_X8_takes, x_lk fl_X8, x_lk vl_X8, x_lk sl_X8, x_lk pl_X8, x_lk nl_X8, x_lk tl_X8, x_exn, x_lk kl_X8, [])
def m_X8_sets : x_M := (RX8, yX8_sets, cX8_sets, 4, (some .boolean), x_lk il_X8_sets, x_lk fl_X8, x_lk vl_X8, x_lk sl_X8, x_lk pl_X8, x_lk nl_X8, x_lk tl_X8, x_exn, x_lk kl_X8, [])
def m_X8_first : x_M := (RX8, yX8_first, cX8_first, 3, none, x_lk il_X8_first, x_lk fl_X8, x_lk vl_X8, x_lk sl_X8, x_lk pl_X8, x_lk nl_X8, x_lk tl_X8, x_exn, x_lk kl_X8, [])
def m_X8_next : x_M := (RX8, yX8_next, cX8_next, 4, (some .boolean), x_lk il_X8_next, x_lk fl_X8, x_lk vl_X8, x_lk sl_X8, x_lk pl_X8, x_lk nl_X8, x_lk tl_X8, x_exn, x_lk kl_X8, [])
def m_X8_isPicked : x_M := (RX8, yX8_isPicked, cX8_isPicked, 4, (some .boolean), x_lk il_X8_isPicked, x_lk fl_X8, x_lk vl_X8, x_lk sl_X8, x_lk pl_X8, x_lk nl_X8, x_lk tl_X8, x_exn, x_lk kl_X8, [])
def m_X8_last : x_M := (RX8, yX8_last, cX8_last, 2, (some .boolean), x_lk il_X8_last, x_lk fl_X8, x_lk vl_X8, x_lk sl_X8, x_lk pl_X8, x_lk nl_X8, x_lk tl_X8, x_exn, x_lk kl_X8, [])
def m_X8_lowest : x_M := (RX8, yX8_lowest, cX8_lowest, 2, (some .int), x_lk il_X8_lowest, x_lk fl_X8, x_lk vl_X8, x_lk sl_X8, x_lk pl_X8, x_lk nl_X8, x_lk tl_X8, x_exn, x_lk kl_X8, [])
def m_X8_only : x_M := (RX8, yX8_only, cX8_only, 6, (some .boolean), x_lk il_X8_only, x_lk fl_X8, x_lk vl_X8, x_lk sl_X8, x_lk pl_X8, x_lk nl_X8, x_lk tl_X8, x_exn, x_lk kl_X8, [])
def m_X8_common : x_M := (RX8, yX8_common, cX8_common, 7, (some .int), x_lk il_X8_common, x_lk fl_X8, x_lk vl_X8, x_lk sl_X8, x_lk pl_X8, x_lk nl_X8, x_lk tl_X8, x_exn, x_lk kl_X8, [])
def m_X8_crosses : x_M := (RX8, yX8_crosses, cX8_crosses, 5, (some .boolean), x_lk il_X8_crosses, x_lk fl_X8, x_lk vl_X8, x_lk sl_X8, x_lk pl_X8, x_lk nl_X8, x_lk tl_X8, x_exn, x_lk kl_X8, [])
def m_X8_pointing : x_M := (RX8, yX8_pointing, cX8_pointing, 4, (some .boolean), x_lk il_X8_pointing, x_lk fl_X8, x_lk vl_X8, x_lk sl_X8, x_lk pl_X8, x_lk nl_X8, x_lk tl_X8, x_exn, x_lk kl_X8, [])
def m_X8_claiming : x_M := (RX8, yX8_claiming, cX8_claiming, 4, (some .boolean), x_lk il_X8_claiming, x_lk fl_X8, x_lk vl_X8, x_lk sl_X8, x_lk pl_X8, x_lk nl_X8, x_lk tl_X8, x_exn, x_lk kl_X8, [])
def m_X8_naked : x_M := (RX8, yX8_naked, cX8_naked, 6, (some .boolean), x_lk il_X8_naked, x_lk fl_X8, x_lk vl_X8, x_lk sl_X8, x_lk pl_X8, x_lk nl_X8, x_lk tl_X8, x_exn, x_lk kl_X8, [])
def m_X8_isOpenIn : x_M := (RX8, yX8_isOpenIn, cX8_isOpenIn, 4, (some .boolean), x_lk il_X8_isOpenIn, x_lk fl_X8, x_lk vl_X8, x_lk sl_X8, x_lk pl_X8, x_lk nl_X8, x_lk tl_X8, x_exn, x_lk kl_X8, [])
def m_X8_hidden : x_M := (RX8, yX8_hidden, cX8_hidden, 7, (some .boolean), x_lk il_X8_hidden, x_lk fl_X8, x_lk vl_X8, x_lk sl_X8, x_lk pl_X8, x_lk nl_X8, x_lk tl_X8, x_exn, x_lk kl_X8, [])
def m_X8_fish : x_M := (RX8, yX8_fish, cX8_fish, 8, (some .boolean), x_lk il_X8_fish, x_lk fl_X8, x_lk vl_X8, x_lk sl_X8, x_lk pl_X8, x_lk nl_X8, x_lk tl_X8, x_exn, x_lk kl_X8, [])
def m_X8_wing : x_M := (RX8, yX8_wing, cX8_wing, 5, (some .boolean), x_lk il_X8_wing, x_lk fl_X8, x_lk vl_X8, x_lk sl_X8, x_lk pl_X8, x_lk nl_X8, x_lk tl_X8, x_exn, x_lk kl_X8, [])
def m_X8_isWing : x_M := (RX8, yX8_isWing, cX8_isWing, 8, (some .boolean), x_lk il_X8_isWing, x_lk fl_X8, x_lk vl_X8, x_lk sl_X8, x_lk pl_X8, x_lk nl_X8, x_lk tl_X8, x_exn, x_lk kl_X8, [])
def m_X8_isLinked : x_M := (RX8, yX8_isLinked, cX8_isLinked, 5, (some .boolean), x_lk il_X8_isLinked, x_lk fl_X8, x_lk vl_X8, x_lk sl_X8, x_lk pl_X8, x_lk nl_X8, x_lk tl_X8, x_exn, x_lk kl_X8, [])
def m_X8_colour : x_M := (RX8, yX8_colour, cX8_colour, 8, none, x_lk il_X8_colour, x_lk fl_X8, x_lk vl_X8, x_lk sl_X8, x_lk pl_X8, x_lk nl_X8, x_lk tl_X8, x_exn, x_lk kl_X8, [])
def m_X8_clash : x_M := (RX8, yX8_clash, cX8_clash, 4, (some .boolean), x_lk il_X8_clash, x_lk fl_X8, x_lk vl_X8, x_lk sl_X8, x_lk pl_X8, x_lk nl_X8, x_lk tl_X8, x_exn, x_lk kl_X8, [])
def m_X8_seesOne : x_M := (RX8, yX8_seesOne, cX8_seesOne, 4, (some .boolean), x_lk il_X8_seesOne, x_lk fl_X8, x_lk vl_X8, x_lk sl_X8, x_lk pl_X8, x_lk nl_X8, x_lk tl_X8, x_exn, x_lk kl_X8, [])
def m_X8_colours : x_M := (RX8, yX8_colours, cX8_colours, 9, (some .boolean), x_lk il_X8_colours, x_lk fl_X8, x_lk vl_X8, x_lk sl_X8, x_lk pl_X8, x_lk nl_X8, x_lk tl_X8, x_exn, x_lk kl_X8, [])
def m_X8_corners : x_M := (RX8, yX8_corners, cX8_corners, 11, (some .boolean), x_lk il_X8_corners, x_lk fl_X8, x_lk vl_X8, x_lk sl_X8, x_lk pl_X8, x_lk nl_X8, x_lk tl_X8, x_exn, x_lk kl_X8, [])
def m_X8_rectangle : x_M := (RX8, yX8_rectangle, cX8_rectangle, 5, (some .boolean), x_lk il_X8_rectangle, x_lk fl_X8, x_lk vl_X8, x_lk sl_X8, x_lk pl_X8, x_lk nl_X8, x_lk tl_X8, x_exn, x_lk kl_X8, [])
def m_X8_look : x_M := (RX8, yX8_look, cX8_look, 2, (some .boolean), x_lk il_X8_look, x_lk fl_X8, x_lk vl_X8, x_lk sl_X8, x_lk pl_X8, x_lk nl_X8, x_lk tl_X8, x_exn, x_lk kl_X8, [])
def m_X8_search : x_M := (RX8, yX8_search, cX8_search, 2, (some .int), x_lk il_X8_search, x_lk fl_X8, x_lk vl_X8, x_lk sl_X8, x_lk pl_X8, x_lk nl_X8, x_lk tl_X8, x_exn, x_lk kl_X8, [])
def m_X8_find : x_M := (RX8, yX8_find, cX8_find, 1, (some .int), x_lk il_X8_find, x_lk fl_X8, x_lk vl_X8, x_lk sl_X8, x_lk pl_X8, x_lk nl_X8, x_lk tl_X8, x_exn, x_lk kl_X8, [])
def m_X8_goMany : x_M := (RX8, yX8_goMany, cX8_goMany, 3, (some .int), x_lk il_X8_goMany, x_lk fl_X8, x_lk vl_X8, x_lk sl_X8, x_lk pl_X8, x_lk nl_X8, x_lk tl_X8, x_exn, x_lk kl_X8, [])
def m_X8_reasonMany : x_M := (RX8, yX8_reasonMany, cX8_reasonMany, 3, (some .int), x_lk il_X8_reasonMany, x_lk fl_X8, x_lk vl_X8, x_lk sl_X8, x_lk pl_X8, x_lk nl_X8, x_lk tl_X8, x_exn, x_lk kl_X8, [])
def m_X8_found : x_M := (RX8, yX8_found, cX8_found, 2, (some .int), x_lk il_X8_found, x_lk fl_X8, x_lk vl_X8, x_lk sl_X8, x_lk pl_X8, x_lk nl_X8, x_lk tl_X8, x_exn, x_lk kl_X8, [])
def m_X8_reasonAt : x_M := (RX8, yX8_reasonAt, cX8_reasonAt, 4, (some .int), x_lk il_X8_reasonAt, x_lk fl_X8, x_lk vl_X8, x_lk sl_X8, x_lk pl_X8, x_lk nl_X8, x_lk tl_X8, x_exn, x_lk kl_X8, [])
def m_X8_reason : x_M := (RX8, yX8_reason, cX8_reason, 2, (some .int), x_lk il_X8_reason, x_lk fl_X8, x_lk vl_X8, x_lk sl_X8, x_lk pl_X8, x_lk nl_X8, x_lk tl_X8, x_exn, x_lk kl_X8, [])
def m_X8_goes : x_M := (RX8, yX8_goes, cX8_goes, 5, (some .int), x_lk il_X8_goes, x_lk fl_X8, x_lk vl_X8, x_lk sl_X8, x_lk pl_X8, x_lk nl_X8, x_lk tl_X8, x_exn, x_lk kl_X8, [])
def m_X8_act : x_M := (RX8, yX8_act, cX8_act, 2, none, x_lk il_X8_act, x_lk fl_X8, x_lk vl_X8, x_lk sl_X8, x_lk pl_X8, x_lk nl_X8, x_lk tl_X8, x_exn, x_lk kl_X8, [])
def m_X8_apply : x_M := (RX8, yX8_apply, cX8_apply, 1, (some .boolean), x_lk il_X8_apply, x_lk fl_X8, x_lk vl_X8, x_lk sl_X8, x_lk pl_X8, x_lk nl_X8, x_lk tl_X8, x_exn, x_lk kl_X8, [])
def m_X8_solve : x_M := (RX8, yX8_solve, cX8_solve, 3, (some .int), x_lk il_X8_solve, x_lk fl_X8, x_lk vl_X8, x_lk sl_X8, x_lk pl_X8, x_lk nl_X8, x_lk tl_X8, x_exn, x_lk kl_X8, [])
def m_X8_undo : x_M := (RX8, yX8_undo, cX8_undo, 2, (some .int), x_lk il_X8_undo, x_lk fl_X8, x_lk vl_X8, x_lk sl_X8, x_lk pl_X8, x_lk nl_X8, x_lk tl_X8, x_exn, x_lk kl_X8, [])
def m_X8_done : x_M := (RX8, yX8_done, cX8_done, 2, (some .int), x_lk il_X8_done, x_lk fl_X8, x_lk vl_X8, x_lk sl_X8, x_lk pl_X8, x_lk nl_X8, x_lk tl_X8, x_exn, x_lk kl_X8, [])
def m_X8_candidates : x_M := (RX8, yX8_candidates, cX8_candidates, 2, (some .int), x_lk il_X8_candidates, x_lk fl_X8, x_lk vl_X8, x_lk sl_X8, x_lk pl_X8, x_lk nl_X8, x_lk tl_X8, x_exn, x_lk kl_X8, [])
def m_X8_value : x_M := (RX8, yX8_value, cX8_value, 2, (some .int), x_lk il_X8_value, x_lk fl_X8, x_lk vl_X8, x_lk sl_X8, x_lk pl_X8, x_lk nl_X8, x_lk tl_X8, x_exn, x_lk kl_X8, [])
def m_X8_state : x_M := (RX8, yX8_state, cX8_state, 6, (some .int), x_lk il_X8_state, x_lk fl_X8, x_lk vl_X8, x_lk sl_X8, x_lk pl_X8, x_lk nl_X8, x_lk tl_X8, x_exn, x_lk kl_X8, [])
def m_X8_part : x_M := (RX8, yX8_part, cX8_part, 1, (some .long), x_lk il_X8_part, x_lk fl_X8, x_lk vl_X8, x_lk sl_X8, x_lk pl_X8, x_lk nl_X8, x_lk tl_X8, x_exn, x_lk kl_X8, [])
def m_X8_nameByte : x_M := (RX8, yX8_nameByte, cX8_nameByte, 3, (some .int), x_lk il_X8_nameByte, x_lk fl_X8, x_lk vl_X8, x_lk sl_X8, x_lk pl_X8, x_lk nl_X8, x_lk tl_X8, x_exn, x_lk kl_X8, [])
def m_X8_words : x_M := (RX8, yX8_words, cX8_words, 6, (some .int), x_lk il_X8_words, x_lk fl_X8, x_lk vl_X8, x_lk sl_X8, x_lk pl_X8, x_lk nl_X8, x_lk tl_X8, x_exn, x_lk kl_X8, [])
def m_X2_init : x_M := (RX2, yX2_init, cX2_init, 4, none, x_lk il_X2_init, x_lk fi_X2, x_lk vl_X2, x_lk sl_X2, x_lk pl_X2, x_lk nl_X2, x_lk tl_X2, x_exn, x_lk kl_X2, [])
def m_X2_layLines : x_M := (RX2, yX2_layLines, cX2_layLines, 3, none, x_lk il_X2_layLines, x_lk fl_X2, x_lk vl_X2, x_lk sl_X2, x_lk pl_X2, x_lk nl_X2, x_lk tl_X2, x_exn, x_lk kl_X2, [])
def m_X2_layBoxes : x_M := (RX2, yX2_layBoxes, cX2_layBoxes, 9, none, x_lk il_X2_layBoxes, x_lk fl_X2, x_lk vl_X2, x_lk sl_X2, x_lk pl_X2, x_lk nl_X2, x_lk tl_X2, x_exn, x_lk kl_X2, [])
def m_X2_lay : x_M := (RX2, yX2_lay, cX2_lay, 6, none, x_lk il_X2_lay, x_lk fl_X2, x_lk vl_X2, x_lk sl_X2, x_lk pl_X2, x_lk nl_X2, x_lk tl_X2, x_exn, x_lk kl_X2, [])
def m_X2_fill : x_M := (RX2, yX2_fill, cX2_fill, 3, none, x_lk il_X2_fill, x_lk fl_X2, x_lk vl_X2, x_lk sl_X2, x_lk pl_X2, x_lk nl_X2, x_lk tl_X2, x_exn, x_lk kl_X2, [])
def m_X2_cell : x_M := (RX2, yX2_cell, cX2_cell, 3, (some .int), x_lk il_X2_cell, x_lk fl_X2, x_lk vl_X2, x_lk sl_X2, x_lk pl_X2, x_lk nl_X2, x_lk tl_X2, x_exn, x_lk kl_X2, [])
def m_X2_house : x_M := (RX2, yX2_house, cX2_house, 3, (some .int), x_lk il_X2_house, x_lk fl_X2, x_lk vl_X2, x_lk sl_X2, x_lk pl_X2, x_lk nl_X2, x_lk tl_X2, x_exn, x_lk kl_X2, [])
def m_X2_rowOf : x_M := (RX2, yX2_rowOf, cX2_rowOf, 2, (some .int), x_lk il_X2_rowOf, x_lk fl_X2, x_lk vl_X2, x_lk sl_X2, x_lk pl_X2, x_lk nl_X2, x_lk tl_X2, x_exn, x_lk kl_X2, [])
def m_X2_columnOf : x_M := (RX2, yX2_columnOf, cX2_columnOf, 2, (some .int), x_lk il_X2_columnOf, x_lk fl_X2, x_lk vl_X2, x_lk sl_X2, x_lk pl_X2, x_lk nl_X2, x_lk tl_X2, x_exn, x_lk kl_X2, [])
def m_X2_places : x_M := (RX2, yX2_places, cX2_places, 3, (some .int), x_lk il_X2_places, x_lk fl_X2, x_lk vl_X2, x_lk sl_X2, x_lk pl_X2, x_lk nl_X2, x_lk tl_X2, x_exn, x_lk kl_X2, [])
def m_X2_isOpen : x_M := (RX2, yX2_isOpen, cX2_isOpen, 2, (some .boolean), x_lk il_X2_isOpen, x_lk fl_X2, x_lk vl_X2, x_lk sl_X2, x_lk pl_X2, x_lk nl_X2, x_lk tl_X2, x_exn, x_lk kl_X2, [])
def m_X2_isIn : x_M := (RX2, yX2_isIn, cX2_isIn, 3, (some .boolean), x_lk il_X2_isIn, x_lk fl_X2, x_lk vl_X2, x_lk sl_X2, x_lk pl_X2, x_lk nl_X2, x_lk tl_X2, x_exn, x_lk kl_X2, [])
def m_X2_see : x_M := (RX2, yX2_see, cX2_see, 5, (some .boolean), x_lk il_X2_see, x_lk fl_X2, x_lk vl_X2, x_lk sl_X2, x_lk pl_X2, x_lk nl_X2, x_lk tl_X2, x_exn, x_lk kl_X2, [])
def m_X2_drop : x_M := (RX2, yX2_drop, cX2_drop, 4, none, x_lk il_X2_drop, x_lk fl_X2, x_lk vl_X2, x_lk sl_X2, x_lk pl_X2, x_lk nl_X2, x_lk tl_X2, x_exn, x_lk kl_X2, [])
def m_X2_giveBack : x_M := (RX2, yX2_giveBack, cX2_giveBack, 4, none, x_lk il_X2_giveBack, x_lk fl_X2, x_lk vl_X2, x_lk sl_X2, x_lk pl_X2, x_lk nl_X2, x_lk tl_X2, x_exn, x_lk kl_X2, [])
def m_X2_isBroken : x_M := (RX2, yX2_isBroken, cX2_isBroken, 2, (some .boolean), x_lk il_X2_isBroken, x_lk fl_X2, x_lk vl_X2, x_lk sl_X2, x_lk pl_X2, x_lk nl_X2, x_lk tl_X2, x_exn, x_lk kl_X2, [])
def m_X2_openCells : x_M := (RX2, yX2_openCells, cX2_openCells, 3, (some .int), x_lk il_X2_openCells, x_lk fl_X2, x_lk vl_X2, x_lk sl_X2, x_lk pl_X2, x_lk nl_X2, x_lk tl_X2, x_exn, x_lk kl_X2, [])
def m_X2_openCandidates : x_M := (RX2, yX2_openCandidates, cX2_openCandidates, 3, (some .int), x_lk il_X2_openCandidates, x_lk fl_X2, x_lk vl_X2, x_lk sl_X2, x_lk pl_X2, x_lk nl_X2, x_lk tl_X2, x_exn, x_lk kl_X2, [])
def m_X1_init : x_M := (RX1, yX1_init, cX1_init, 2, none, x_lk il_X1_init, x_lk fi_X1, x_lk vl_X1, x_lk sl_X1, x_lk pl_X1, x_lk nl_X1, x_lk tl_X1, x_exn, x_lk kl_X1, [])
def m_X1_clear : x_M := (RX1, yX1_clear, cX1_clear, 2, none, x_lk il_X1_clear, x_lk fl_X1, x_lk vl_X1, x_lk sl_X1, x_lk pl_X1, x_lk nl_X1, x_lk tl_X1, x_exn, x_lk kl_X1, [])
def m_X1_strike : x_M := (RX1, yX1_strike, cX1_strike, 3, none, x_lk il_X1_strike, x_lk fl_X1, x_lk vl_X1, x_lk sl_X1, x_lk pl_X1, x_lk nl_X1, x_lk tl_X1, x_exn, x_lk kl_X1, [])
def m_X1_because : x_M := (RX1, yX1_because, cX1_because, 4, none, x_lk il_X1_because, x_lk fl_X1, x_lk vl_X1, x_lk sl_X1, x_lk pl_X1, x_lk nl_X1, x_lk tl_X1, x_exn, x_lk kl_X1, [])
def m_X1_goer : x_M := (RX1, yX1_goer, cX1_goer, 6, (some .int), x_lk il_X1_goer, x_lk fl_X1, x_lk vl_X1, x_lk sl_X1, x_lk pl_X1, x_lk nl_X1, x_lk tl_X1, x_exn, x_lk kl_X1, [])
def m_X1_nthBit : x_M := (RX1, yX1_nthBit, cX1_nthBit, 4, (some .int), x_lk il_X1_nthBit, x_lk fl_X1, x_lk vl_X1, x_lk sl_X1, x_lk pl_X1, x_lk nl_X1, x_lk tl_X1, x_exn, x_lk kl_X1, [])
def m_X3_init : x_M := (RX3, yX3_init, cX3_init, 2, none, x_lk il_X3_init, x_lk fi_X3, x_lk vl_X3, x_lk sl_X3, x_lk pl_X3, x_lk nl_X3, x_lk tl_X3, x_exn, x_lk kl_X3, [])
def m_X3_mostSteps : x_M := (RX3, yX3_mostSteps, cX3_mostSteps, 1, (some .int), x_lk il_X3_mostSteps, x_lk fl_X3, x_lk vl_X3, x_lk sl_X3, x_lk pl_X3, x_lk nl_X3, x_lk tl_X3, x_exn, x_lk kl_X3, [])
def m_X3_clear : x_M := (RX3, yX3_clear, cX3_clear, 1, none, x_lk il_X3_clear, x_lk fl_X3, x_lk vl_X3, x_lk sl_X3, x_lk pl_X3, x_lk nl_X3, x_lk tl_X3, x_exn, x_lk kl_X3, [])
def m_X3_note : x_M := (RX3, yX3_note, cX3_note, 3, none, x_lk il_X3_note, x_lk fl_X3, x_lk vl_X3, x_lk sl_X3, x_lk pl_X3, x_lk nl_X3, x_lk tl_X3, x_exn, x_lk kl_X3, [])
def m_X3_close : x_M := (RX3, yX3_close, cX3_close, 3, none, x_lk il_X3_close, x_lk fl_X3, x_lk vl_X3, x_lk sl_X3, x_lk pl_X3, x_lk nl_X3, x_lk tl_X3, x_exn, x_lk kl_X3, [])
def m_X3_takeBack : x_M := (RX3, yX3_takeBack, cX3_takeBack, 3, (some .int), x_lk il_X3_takeBack, x_lk fl_X3, x_lk vl_X3, x_lk sl_X3, x_lk pl_X3, x_lk nl_X3, x_lk tl_X3, x_exn, x_lk kl_X3, [])
def m_X6_init : x_M := (RX6, yX6_init, cX6_init, 3, none, x_lk il_X6_init, x_lk fi_X6, x_lk vl_X6, x_lk sl_X6, x_lk pl_X6, x_lk nl_X6, x_lk tl_X6, x_exn, x_lk kl_X6, [])
def m_X6_gather : x_M := (RX6, yX6_gather, cX6_gather, 5, none, x_lk il_X6_gather, x_lk fl_X6, x_lk vl_X6, x_lk sl_X6, x_lk pl_X6, x_lk nl_X6, x_lk tl_X6, x_exn, x_lk kl_X6, [])
def m_X6_start : x_M := (RX6, yX6_start, cX6_start, 2, (some .int), x_lk il_X6_start, x_lk fl_X6, x_lk vl_X6, x_lk sl_X6, x_lk pl_X6, x_lk nl_X6, x_lk tl_X6, x_exn, x_lk kl_X6, [])
def m_X6_end : x_M := (RX6, yX6_end, cX6_end, 2, (some .int), x_lk il_X6_end, x_lk fl_X6, x_lk vl_X6, x_lk sl_X6, x_lk pl_X6, x_lk nl_X6, x_lk tl_X6, x_exn, x_lk kl_X6, [])
def m_X6_get : x_M := (RX6, yX6_get, cX6_get, 2, (some .int), x_lk il_X6_get, x_lk fl_X6, x_lk vl_X6, x_lk sl_X6, x_lk pl_X6, x_lk nl_X6, x_lk tl_X6, x_exn, x_lk kl_X6, [])
def m_X0_init : x_M := (RX0, yX0_init, cX0_init, 2, none, x_lk il_X0_init, x_lk fi_X0, x_lk vl_X0, x_lk sl_X0, x_lk pl_X0, x_lk nl_X0, x_lk tl_X0, x_exn, x_lk kl_X0, [])
def m_X0_look : x_M := (RX0, yX0_look, cX0_look, 5, (some .boolean), x_lk il_X0_look, x_lk fl_X0, x_lk vl_X0, x_lk sl_X0, x_lk pl_X0, x_lk nl_X0, x_lk tl_X0, x_exn, x_lk kl_X0, [])
def m_X0_join : x_M := (RX0, yX0_join, cX0_join, 9, none, x_lk il_X0_join, x_lk fl_X0, x_lk vl_X0, x_lk sl_X0, x_lk pl_X0, x_lk nl_X0, x_lk tl_X0, x_exn, x_lk kl_X0, [])
def m_X0_colour : x_M := (RX0, yX0_colour, cX0_colour, 3, none, x_lk il_X0_colour, x_lk fl_X0, x_lk vl_X0, x_lk sl_X0, x_lk pl_X0, x_lk nl_X0, x_lk tl_X0, x_exn, x_lk kl_X0, [])
def m_X0_linkedCell : x_M := (RX0, yX0_linkedCell, cX0_linkedCell, 8, (some .int), x_lk il_X0_linkedCell, x_lk fl_X0, x_lk vl_X0, x_lk sl_X0, x_lk pl_X0, x_lk nl_X0, x_lk tl_X0, x_exn, x_lk kl_X0, [])
def m_X0_takes : x_M := (RX0, yX0_takes, cX0_takes, 5, (some .boolean), x_lk il_X0_takes, x_lk fl_X0, x_lk vl_X0, x_lk sl_X0, x_lk pl_X0, x_lk nl_X0, x_lk tl_X0, x_exn, x_lk kl_X0, [])
def m_X0_clash : x_M := (RX0, yX0_clash, cX0_clash, 6, (some .boolean), x_lk il_X0_clash, x_lk fl_X0, x_lk vl_X0, x_lk sl_X0, x_lk pl_X0, x_lk nl_X0, x_lk tl_X0, x_exn, x_lk kl_X0, [])
def m_X0_strikeColour : x_M := (RX0, yX0_strikeColour, cX0_strikeColour, 5, none, x_lk il_X0_strikeColour, x_lk fl_X0, x_lk vl_X0, x_lk sl_X0, x_lk pl_X0, x_lk nl_X0, x_lk tl_X0, x_exn, x_lk kl_X0, [])
def m_X0_strikeOthers : x_M := (RX0, yX0_strikeOthers, cX0_strikeOthers, 8, none, x_lk il_X0_strikeOthers, x_lk fl_X0, x_lk vl_X0, x_lk sl_X0, x_lk pl_X0, x_lk nl_X0, x_lk tl_X0, x_exn, x_lk kl_X0, [])
def m_X0_leaveBehind : x_M := (RX0, yX0_leaveBehind, cX0_leaveBehind, 2, none, x_lk il_X0_leaveBehind, x_lk fl_X0, x_lk vl_X0, x_lk sl_X0, x_lk pl_X0, x_lk nl_X0, x_lk tl_X0, x_exn, x_lk kl_X0, [])
def m_X5_init : x_M := (RX5, yX5_init, cX5_init, 2, none, x_lk il_X5_init, x_lk fi_X5, x_lk vl_X5, x_lk sl_X5, x_lk pl_X5, x_lk nl_X5, x_lk tl_X5, x_exn, x_lk kl_X5, [])
def m_X5_seek : x_M := (RX5, yX5_seek, cX5_seek, 2, (some .boolean), x_lk il_X5_seek, x_lk fl_X5, x_lk vl_X5, x_lk sl_X5, x_lk pl_X5, x_lk nl_X5, x_lk tl_X5, x_exn, x_lk kl_X5, [])
def m_X5_settle : x_M := (RX5, yX5_settle, cX5_settle, 4, none, x_lk il_X5_settle, x_lk fl_X5, x_lk vl_X5, x_lk sl_X5, x_lk pl_X5, x_lk nl_X5, x_lk tl_X5, x_exn, x_lk kl_X5, [])
def m_X5_strikePlaces : x_M := (RX5, yX5_strikePlaces, cX5_strikePlaces, 6, none, x_lk il_X5_strikePlaces, x_lk fl_X5, x_lk vl_X5, x_lk sl_X5, x_lk pl_X5, x_lk nl_X5, x_lk tl_X5, x_exn, x_lk kl_X5, [])
def m_X5_takesSome : x_M := (RX5, yX5_takesSome, cX5_takesSome, 1, (some .boolean), x_lk il_X5_takesSome, x_lk fl_X5, x_lk vl_X5, x_lk sl_X5, x_lk pl_X5, x_lk nl_X5, x_lk tl_X5, x_exn, x_lk kl_X5, [])
def m_X5_becauseOf : x_M := (RX5, yX5_becauseOf, cX5_becauseOf, 4, none, x_lk il_X5_becauseOf, x_lk fl_X5, x_lk vl_X5, x_lk sl_X5, x_lk pl_X5, x_lk nl_X5, x_lk tl_X5, x_exn, x_lk kl_X5, [])
def m_X5_last : x_M := (RX5, yX5_last, cX5_last, 2, (some .boolean), x_lk il_X5_last, x_lk fl_X5, x_lk vl_X5, x_lk sl_X5, x_lk pl_X5, x_lk nl_X5, x_lk tl_X5, x_exn, x_lk kl_X5, [])
def m_X5_onlyPlace : x_M := (RX5, yX5_onlyPlace, cX5_onlyPlace, 5, (some .boolean), x_lk il_X5_onlyPlace, x_lk fl_X5, x_lk vl_X5, x_lk sl_X5, x_lk pl_X5, x_lk nl_X5, x_lk tl_X5, x_exn, x_lk kl_X5, [])
def m_X5_isOpenIn : x_M := (RX5, yX5_isOpenIn, cX5_isOpenIn, 4, (some .boolean), x_lk il_X5_isOpenIn, x_lk fl_X5, x_lk vl_X5, x_lk sl_X5, x_lk pl_X5, x_lk nl_X5, x_lk tl_X5, x_exn, x_lk kl_X5, [])
def m_X5_pointing : x_M := (RX5, yX5_pointing, cX5_pointing, 3, (some .boolean), x_lk il_X5_pointing, x_lk fl_X5, x_lk vl_X5, x_lk sl_X5, x_lk pl_X5, x_lk nl_X5, x_lk tl_X5, x_exn, x_lk kl_X5, [])
def m_X5_claiming : x_M := (RX5, yX5_claiming, cX5_claiming, 3, (some .boolean), x_lk il_X5_claiming, x_lk fl_X5, x_lk vl_X5, x_lk sl_X5, x_lk pl_X5, x_lk nl_X5, x_lk tl_X5, x_exn, x_lk kl_X5, [])
def m_X5_confined : x_M := (RX5, yX5_confined, cX5_confined, 8, (some .boolean), x_lk il_X5_confined, x_lk fl_X5, x_lk vl_X5, x_lk sl_X5, x_lk pl_X5, x_lk nl_X5, x_lk tl_X5, x_exn, x_lk kl_X5, [])
def m_X5_sharedHouse : x_M := (RX5, yX5_sharedHouse, cX5_sharedHouse, 6, (some .int), x_lk il_X5_sharedHouse, x_lk fl_X5, x_lk vl_X5, x_lk sl_X5, x_lk pl_X5, x_lk nl_X5, x_lk tl_X5, x_exn, x_lk kl_X5, [])
def m_X5_nakedSet : x_M := (RX5, yX5_nakedSet, cX5_nakedSet, 6, (some .boolean), x_lk il_X5_nakedSet, x_lk fl_X5, x_lk vl_X5, x_lk sl_X5, x_lk pl_X5, x_lk nl_X5, x_lk tl_X5, x_exn, x_lk kl_X5, [])
def m_X5_hiddenSet : x_M := (RX5, yX5_hiddenSet, cX5_hiddenSet, 6, (some .boolean), x_lk il_X5_hiddenSet, x_lk fl_X5, x_lk vl_X5, x_lk sl_X5, x_lk pl_X5, x_lk nl_X5, x_lk tl_X5, x_exn, x_lk kl_X5, [])
def m_X5_crossing : x_M := (RX5, yX5_crossing, cX5_crossing, 7, (some .boolean), x_lk il_X5_crossing, x_lk fl_X5, x_lk vl_X5, x_lk sl_X5, x_lk pl_X5, x_lk nl_X5, x_lk tl_X5, x_exn, x_lk kl_X5, [])
def m_X5_crossingAt : x_M := (RX5, yX5_crossingAt, cX5_crossingAt, 6, (some .boolean), x_lk il_X5_crossingAt, x_lk fl_X5, x_lk vl_X5, x_lk sl_X5, x_lk pl_X5, x_lk nl_X5, x_lk tl_X5, x_exn, x_lk kl_X5, [])
def m_X5_fitItems : x_M := (RX5, yX5_fitItems, cX5_fitItems, 4, (some .int), x_lk il_X5_fitItems, x_lk fl_X5, x_lk vl_X5, x_lk sl_X5, x_lk pl_X5, x_lk nl_X5, x_lk tl_X5, x_exn, x_lk kl_X5, [])
def m_X5_isCovered : x_M := (RX5, yX5_isCovered, cX5_isCovered, 4, (some .boolean), x_lk il_X5_isCovered, x_lk fl_X5, x_lk vl_X5, x_lk sl_X5, x_lk pl_X5, x_lk nl_X5, x_lk tl_X5, x_exn, x_lk kl_X5, [])
def m_X5_unionOf : x_M := (RX5, yX5_unionOf, cX5_unionOf, 4, (some .int), x_lk il_X5_unionOf, x_lk fl_X5, x_lk vl_X5, x_lk sl_X5, x_lk pl_X5, x_lk nl_X5, x_lk tl_X5, x_exn, x_lk kl_X5, [])
def m_X5_wing : x_M := (RX5, yX5_wing, cX5_wing, 5, (some .boolean), x_lk il_X5_wing, x_lk fl_X5, x_lk vl_X5, x_lk sl_X5, x_lk pl_X5, x_lk nl_X5, x_lk tl_X5, x_exn, x_lk kl_X5, [])
def m_X5_isWingtip : x_M := (RX5, yX5_isWingtip, cX5_isWingtip, 4, (some .boolean), x_lk il_X5_isWingtip, x_lk fl_X5, x_lk vl_X5, x_lk sl_X5, x_lk pl_X5, x_lk nl_X5, x_lk tl_X5, x_exn, x_lk kl_X5, [])
def m_X5_wingAt : x_M := (RX5, yX5_wingAt, cX5_wingAt, 8, (some .boolean), x_lk il_X5_wingAt, x_lk fl_X5, x_lk vl_X5, x_lk sl_X5, x_lk pl_X5, x_lk nl_X5, x_lk tl_X5, x_exn, x_lk kl_X5, [])
def m_X5_onlyOneAnswer : x_M := (RX5, yX5_onlyOneAnswer, cX5_onlyOneAnswer, 5, (some .boolean), x_lk il_X5_onlyOneAnswer, x_lk fl_X5, x_lk vl_X5, x_lk sl_X5, x_lk pl_X5, x_lk nl_X5, x_lk tl_X5, x_exn, x_lk kl_X5, [])
def m_X5_rectangleAt : x_M := (RX5, yX5_rectangleAt, cX5_rectangleAt, 9, (some .boolean), x_lk il_X5_rectangleAt, x_lk fl_X5, x_lk vl_X5, x_lk sl_X5, x_lk pl_X5, x_lk nl_X5, x_lk tl_X5, x_exn, x_lk kl_X5, [])
def m_X5_isInTwoBoxes : x_M := (RX5, yX5_isInTwoBoxes, cX5_isInTwoBoxes, 5, (some .boolean), x_lk il_X5_isInTwoBoxes, x_lk fl_X5, x_lk vl_X5, x_lk sl_X5, x_lk pl_X5, x_lk nl_X5, x_lk tl_X5, x_exn, x_lk kl_X5, [])
def m_X5_fourth : x_M := (RX5, yX5_fourth, cX5_fourth, 7, (some .boolean), x_lk il_X5_fourth, x_lk fl_X5, x_lk vl_X5, x_lk sl_X5, x_lk pl_X5, x_lk nl_X5, x_lk tl_X5, x_exn, x_lk kl_X5, [])
def m_X7_init : x_M := (RX7, yX7_init, cX7_init, 3, none, x_lk il_X7_init, x_lk fi_X7, x_lk vl_X7, x_lk sl_X7, x_lk pl_X7, x_lk nl_X7, x_lk tl_X7, x_exn, x_lk kl_X7, [])
def m_X7_set : x_M := (RX7, yX7_set, cX7_set, 3, (some .boolean), x_lk il_X7_set, x_lk fl_X7, x_lk vl_X7, x_lk sl_X7, x_lk pl_X7, x_lk nl_X7, x_lk tl_X7, x_exn, x_lk kl_X7, [])
def m_X7_take : x_M := (RX7, yX7_take, cX7_take, 3, (some .boolean), x_lk il_X7_take, x_lk fl_X7, x_lk vl_X7, x_lk sl_X7, x_lk pl_X7, x_lk nl_X7, x_lk tl_X7, x_exn, x_lk kl_X7, [])
def m_X7_enable : x_M := (RX7, yX7_enable, cX7_enable, 3, (some .boolean), x_lk il_X7_enable, x_lk fl_X7, x_lk vl_X7, x_lk sl_X7, x_lk pl_X7, x_lk nl_X7, x_lk tl_X7, x_exn, x_lk kl_X7, [])
def m_X7_find : x_M := (RX7, yX7_find, cX7_find, 2, (some .int), x_lk il_X7_find, x_lk fl_X7, x_lk vl_X7, x_lk sl_X7, x_lk pl_X7, x_lk nl_X7, x_lk tl_X7, x_exn, x_lk kl_X7, [])
def m_X7_found : x_M := (RX7, yX7_found, cX7_found, 2, (some .int), x_lk il_X7_found, x_lk fl_X7, x_lk vl_X7, x_lk sl_X7, x_lk pl_X7, x_lk nl_X7, x_lk tl_X7, x_exn, x_lk kl_X7, [])
def m_X7_reason : x_M := (RX7, yX7_reason, cX7_reason, 2, (some .int), x_lk il_X7_reason, x_lk fl_X7, x_lk vl_X7, x_lk sl_X7, x_lk pl_X7, x_lk nl_X7, x_lk tl_X7, x_exn, x_lk kl_X7, [])
def m_X7_goes : x_M := (RX7, yX7_goes, cX7_goes, 2, (some .int), x_lk il_X7_goes, x_lk fl_X7, x_lk vl_X7, x_lk sl_X7, x_lk pl_X7, x_lk nl_X7, x_lk tl_X7, x_exn, x_lk kl_X7, [])
def m_X7_apply : x_M := (RX7, yX7_apply, cX7_apply, 1, (some .boolean), x_lk il_X7_apply, x_lk fl_X7, x_lk vl_X7, x_lk sl_X7, x_lk pl_X7, x_lk nl_X7, x_lk tl_X7, x_exn, x_lk kl_X7, [])
def m_X7_solve : x_M := (RX7, yX7_solve, cX7_solve, 4, (some .int), x_lk il_X7_solve, x_lk fl_X7, x_lk vl_X7, x_lk sl_X7, x_lk pl_X7, x_lk nl_X7, x_lk tl_X7, x_exn, x_lk kl_X7, [])
def m_X7_undo : x_M := (RX7, yX7_undo, cX7_undo, 2, (some .int), x_lk il_X7_undo, x_lk fl_X7, x_lk vl_X7, x_lk sl_X7, x_lk pl_X7, x_lk nl_X7, x_lk tl_X7, x_exn, x_lk kl_X7, [])
def m_X7_done : x_M := (RX7, yX7_done, cX7_done, 2, (some .int), x_lk il_X7_done, x_lk fl_X7, x_lk vl_X7, x_lk sl_X7, x_lk pl_X7, x_lk nl_X7, x_lk tl_X7, x_exn, x_lk kl_X7, [])
def m_X7_candidates : x_M := (RX7, yX7_candidates, cX7_candidates, 2, (some .int), x_lk il_X7_candidates, x_lk fl_X7, x_lk vl_X7, x_lk sl_X7, x_lk pl_X7, x_lk nl_X7, x_lk tl_X7, x_exn, x_lk kl_X7, [])
def m_X7_value : x_M := (RX7, yX7_value, cX7_value, 2, (some .int), x_lk il_X7_value, x_lk fl_X7, x_lk vl_X7, x_lk sl_X7, x_lk pl_X7, x_lk nl_X7, x_lk tl_X7, x_exn, x_lk kl_X7, [])
def m_X7_state : x_M := (RX7, yX7_state, cX7_state, 2, (some .int), x_lk il_X7_state, x_lk fl_X7, x_lk vl_X7, x_lk sl_X7, x_lk pl_X7, x_lk nl_X7, x_lk tl_X7, x_exn, x_lk kl_X7, [])
def m_X7_words : x_M := (RX7, yX7_words, cX7_words, 7, (some .int), x_lk il_X7_words, x_lk fl_X7, x_lk vl_X7, x_lk sl_X7, x_lk pl_X7, x_lk nl_X7, x_lk tl_X7, x_exn, x_lk kl_X7, [])
def m_X7_letterOfCell : x_M := (RX7, yX7_letterOfCell, cX7_letterOfCell, 3, (some .int), x_lk il_X7_letterOfCell, x_lk fl_X7, x_lk vl_X7, x_lk sl_X7, x_lk pl_X7, x_lk nl_X7, x_lk tl_X7, x_exn, x_lk kl_X7, [])
def m_X7_performFound : x_M := (RX7, yX7_performFound, cX7_performFound, 2, none, x_lk il_X7_performFound, x_lk fl_X7, x_lk vl_X7, x_lk sl_X7, x_lk pl_X7, x_lk nl_X7, x_lk tl_X7, x_exn, x_lk kl_X7, [])
def m_X7_carryOut : x_M := (RX7, yX7_carryOut, cX7_carryOut, 4, none, x_lk il_X7_carryOut, x_lk fl_X7, x_lk vl_X7, x_lk sl_X7, x_lk pl_X7, x_lk nl_X7, x_lk tl_X7, x_exn, x_lk kl_X7, [])
def m_X7_forgetSteps : x_M := (RX7, yX7_forgetSteps, cX7_forgetSteps, 1, none, x_lk il_X7_forgetSteps, x_lk fl_X7, x_lk vl_X7, x_lk sl_X7, x_lk pl_X7, x_lk nl_X7, x_lk tl_X7, x_exn, x_lk kl_X7, [])
def m_X7_isOpenCandidate : x_M := (RX7, yX7_isOpenCandidate, cX7_isOpenCandidate, 3, (some .boolean), x_lk il_X7_isOpenCandidate, x_lk fl_X7, x_lk vl_X7, x_lk sl_X7, x_lk pl_X7, x_lk nl_X7, x_lk tl_X7, x_exn, x_lk kl_X7, [])
def m_X7_allTimes : x_M := (RX7, yX7_allTimes, cX7_allTimes, 3, (some .int), x_lk il_X7_allTimes, x_lk fl_X7, x_lk vl_X7, x_lk sl_X7, x_lk pl_X7, x_lk nl_X7, x_lk tl_X7, x_exn, x_lk kl_X7, [])
def m_X7_checkCell : x_M := (RX7, yX7_checkCell, cX7_checkCell, 2, none, x_lk il_X7_checkCell, x_lk fl_X7, x_lk vl_X7, x_lk sl_X7, x_lk pl_X7, x_lk nl_X7, x_lk tl_X7, x_exn, x_lk kl_X7, [])
def m_X7_checkSymbol : x_M := (RX7, yX7_checkSymbol, cX7_checkSymbol, 2, none, x_lk il_X7_checkSymbol, x_lk fl_X7, x_lk vl_X7, x_lk sl_X7, x_lk pl_X7, x_lk nl_X7, x_lk tl_X7, x_exn, x_lk kl_X7, [])
def m_X7_checkStep : x_M := (RX7, yX7_checkStep, cX7_checkStep, 2, none, x_lk il_X7_checkStep, x_lk fl_X7, x_lk vl_X7, x_lk sl_X7, x_lk pl_X7, x_lk nl_X7, x_lk tl_X7, x_exn, x_lk kl_X7, [])
def m_X7_leastBit : x_M := (RX7, yX7_leastBit, cX7_leastBit, 2, (some .int), x_lk il_X7_leastBit, x_lk fl_X7, x_lk vl_X7, x_lk sl_X7, x_lk pl_X7, x_lk nl_X7, x_lk tl_X7, x_exn, x_lk kl_X7, [])
def m_L_cell : x_M := (RL, yL_cell, cL_cell, 2, (some .int), x_lk il_L_cell, x_lk fl_L, x_lk vl_L, x_lk sl_L, x_lk pl_L, x_lk nl_L, x_lk tl_L, x_exn, x_lk kl_L, [])
def ex_L_set : Nat → String → Option (Option (Nat × Nat)) := fun pc E => if 0 ≤ pc ∧ pc < 17 then (if E = "java/lang/ArrayIndexOutOfBoundsException" then some (some (22, 4)) else if E = "java/lang/IllegalArgumentException" then some (some (26, 4)) else none) else some none
def m_L_set : x_M := (RL, yL_set, cL_set, 5, (some .int), x_lk il_L_set, x_lk fl_L, x_lk vl_L, x_lk sl_L, x_lk pl_L, x_lk nl_L, x_lk tl_L, ex_L_set, x_lk kl_L, [(0, 17, 20, 13), (0, 17, 24, 15)])
def ex_L_take : Nat → String → Option (Option (Nat × Nat)) := fun pc E => if 0 ≤ pc ∧ pc < 17 then (if E = "java/lang/ArrayIndexOutOfBoundsException" then some (some (22, 4)) else if E = "java/lang/IllegalArgumentException" then some (some (26, 4)) else none) else some none
def m_L_take : x_M := (RL, yL_take, cL_take, 5, (some .int), x_lk il_L_take, x_lk fl_L, x_lk vl_L, x_lk sl_L, x_lk pl_L, x_lk nl_L, x_lk tl_L, ex_L_take, x_lk kl_L, [(0, 17, 20, 13), (0, 17, 24, 15)])
def ex_L_enable : Nat → String → Option (Option (Nat × Nat)) := fun pc E => if 0 ≤ pc ∧ pc < 17 then (if E = "java/lang/ArrayIndexOutOfBoundsException" then some (some (22, 4)) else none) else some none
def m_L_enable : x_M := (RL, yL_enable, cL_enable, 5, (some .int), x_lk il_L_enable, x_lk fl_L, x_lk vl_L, x_lk sl_L, x_lk pl_L, x_lk nl_L, x_lk tl_L, ex_L_enable, x_lk kl_L, [(0, 17, 20, 13)])
def ex_L_done : Nat → String → Option (Option (Nat × Nat)) := fun pc E => if 0 ≤ pc ∧ pc < 9 then (if E = "java/lang/ArrayIndexOutOfBoundsException" then some (some (13, 3)) else none) else some none
def m_L_done : x_M := (RL, yL_done, cL_done, 4, (some .int), x_lk il_L_done, x_lk fl_L, x_lk vl_L, x_lk sl_L, x_lk pl_L, x_lk nl_L, x_lk tl_L, ex_L_done, x_lk kl_L, [(0, 9, 12, 13)])
def ex_L_candidates : Nat → String → Option (Option (Nat × Nat)) := fun pc E => if 0 ≤ pc ∧ pc < 9 then (if E = "java/lang/ArrayIndexOutOfBoundsException" then some (some (13, 3)) else none) else some none
def m_L_candidates : x_M := (RL, yL_candidates, cL_candidates, 4, (some .int), x_lk il_L_candidates, x_lk fl_L, x_lk vl_L, x_lk sl_L, x_lk pl_L, x_lk nl_L, x_lk tl_L, ex_L_candidates, x_lk kl_L, [(0, 9, 12, 13)])
def ex_L_value : Nat → String → Option (Option (Nat × Nat)) := fun pc E => if 0 ≤ pc ∧ pc < 9 then (if E = "java/lang/ArrayIndexOutOfBoundsException" then some (some (13, 3)) else none) else some none
def m_L_value : x_M := (RL, yL_value, cL_value, 4, (some .int), x_lk il_L_value, x_lk fl_L, x_lk vl_L, x_lk sl_L, x_lk pl_L, x_lk nl_L, x_lk tl_L, ex_L_value, x_lk kl_L, [(0, 9, 12, 13)])
def m_L_law : x_M := (RL, yL_law, cL_law, 7, (some .boolean), x_lk il_L_law, x_lk fl_L, x_lk vl_L, x_lk sl_L, x_lk pl_L, x_lk nl_L, x_lk tl_L, x_exn, x_lk kl_L, [])
def x_ML : List x_M := [m_J6_bitCount, m_X8_init, m_X8_thrown, m_X8_fails, m_X8_cells, m_X8_isCell, m_X8_isSymbol, m_X8_boxOf, m_X8_isIn, m_X8_at, m_X8_sees, m_X8_has, m_X8_countOf, m_X8_places, m_X8_isBroken, m_X8_put, m_X8_changed, m_X8_set, m_X8_take, m_X8_enable, m_X8_none, m_X8_leaves, m_X8_takes, m_X8_sets, m_X8_first, m_X8_next, m_X8_isPicked, m_X8_last, m_X8_lowest, m_X8_only, m_X8_common, m_X8_crosses, m_X8_pointing, m_X8_claiming, m_X8_naked, m_X8_isOpenIn, m_X8_hidden, m_X8_fish, m_X8_wing, m_X8_isWing, m_X8_isLinked, m_X8_colour, m_X8_clash, m_X8_seesOne, m_X8_colours, m_X8_corners, m_X8_rectangle, m_X8_look, m_X8_search, m_X8_find, m_X8_goMany, m_X8_reasonMany, m_X8_found, m_X8_reasonAt, m_X8_reason, m_X8_goes, m_X8_act, m_X8_apply, m_X8_solve, m_X8_undo, m_X8_done, m_X8_candidates, m_X8_value, m_X8_state, m_X8_part, m_X8_nameByte, m_X8_words, m_X2_init, m_X2_layLines, m_X2_layBoxes, m_X2_lay, m_X2_fill, m_X2_cell, m_X2_house, m_X2_rowOf, m_X2_columnOf, m_X2_places, m_X2_isOpen, m_X2_isIn, m_X2_see, m_X2_drop, m_X2_giveBack, m_X2_isBroken, m_X2_openCells, m_X2_openCandidates, m_X1_init, m_X1_clear, m_X1_strike, m_X1_because, m_X1_goer, m_X1_nthBit, m_X3_init, m_X3_mostSteps, m_X3_clear, m_X3_note, m_X3_close, m_X3_takeBack, m_X6_init, m_X6_gather, m_X6_start, m_X6_end, m_X6_get, m_X0_init, m_X0_look, m_X0_join, m_X0_colour, m_X0_linkedCell, m_X0_takes, m_X0_clash, m_X0_strikeColour, m_X0_strikeOthers, m_X0_leaveBehind, m_X5_init, m_X5_seek, m_X5_settle, m_X5_strikePlaces, m_X5_takesSome, m_X5_becauseOf, m_X5_last, m_X5_onlyPlace, m_X5_isOpenIn, m_X5_pointing, m_X5_claiming, m_X5_confined, m_X5_sharedHouse, m_X5_nakedSet, m_X5_hiddenSet, m_X5_crossing, m_X5_crossingAt, m_X5_fitItems, m_X5_isCovered, m_X5_unionOf, m_X5_wing, m_X5_isWingtip, m_X5_wingAt, m_X5_onlyOneAnswer, m_X5_rectangleAt, m_X5_isInTwoBoxes, m_X5_fourth, m_X7_init, m_X7_set, m_X7_take, m_X7_enable, m_X7_find, m_X7_found, m_X7_reason, m_X7_goes, m_X7_apply, m_X7_solve, m_X7_undo, m_X7_done, m_X7_candidates, m_X7_value, m_X7_state, m_X7_words, m_X7_letterOfCell, m_X7_performFound, m_X7_carryOut, m_X7_forgetSteps, m_X7_isOpenCandidate, m_X7_allTimes, m_X7_checkCell, m_X7_checkSymbol, m_X7_checkStep, m_X7_leastBit, m_L_cell, m_L_set, m_L_take, m_L_enable, m_L_done, m_L_candidates, m_L_value]
def x_MM (n : Nat) : Option x_M := x_ML[n]?
end
section
/-! ===== the bytes are as the tables say, by program ===== -/
theorem ci_J6_bitCount : x_ckI cJ6_bitCount_0f7a4 il_J6_bitCount = true := by decide +kernel
theorem ci_X8_init : x_ckI cX8_init il_X8_init = true := by decide +kernel
theorem ci_X8_thrown : x_ckI cX8_thrown il_X8_thrown = true := by decide +kernel
theorem ci_X8_fails : x_ckI cX8_fails il_X8_fails = true := by decide +kernel
theorem ci_X8_cells : x_ckI cX8_cells il_X8_cells = true := by decide +kernel
theorem ci_X8_isCell : x_ckI cX8_isCell il_X8_isCell = true := by decide +kernel
theorem ci_X8_isSymbol : x_ckI cX8_isSymbol il_X8_isSymbol = true := by decide +kernel
theorem ci_X8_boxOf : x_ckI cX8_boxOf il_X8_boxOf = true := by decide +kernel
theorem ci_X8_isIn : x_ckI cX8_isIn il_X8_isIn = true := by decide +kernel
theorem ci_X8_at : x_ckI cX8_at il_X8_at = true := by decide +kernel
theorem ci_X8_sees : x_ckI cX8_sees il_X8_sees = true := by decide +kernel
theorem ci_X8_has : x_ckI cX8_has il_X8_has = true := by decide +kernel
theorem ci_X8_countOf : x_ckI cX8_countOf il_X8_countOf = true := by decide +kernel
theorem ci_X8_places : x_ckI cX8_places il_X8_places = true := by decide +kernel
theorem ci_X8_isBroken : x_ckI cX8_isBroken il_X8_isBroken = true := by decide +kernel
theorem ci_X8_put : x_ckI cX8_put il_X8_put = true := by decide +kernel
theorem ci_X8_changed : x_ckI cX8_changed il_X8_changed = true := by decide +kernel
theorem ci_X8_set : x_ckI cX8_set il_X8_set = true := by decide +kernel
theorem ci_X8_take : x_ckI cX8_take il_X8_take = true := by decide +kernel
theorem ci_X8_enable : x_ckI cX8_enable il_X8_enable = true := by decide +kernel
theorem ci_X8_none : x_ckI cX8_none il_X8_none = true := by decide +kernel
theorem ci_X8_leaves : x_ckI cX8_leaves il_X8_leaves = true := by decide +kernel
theorem ci_X8_takes : x_ckI cX8_takes il_X8_takes = true := by decide +kernel
theorem ci_X8_sets : x_ckI cX8_sets il_X8_sets = true := by decide +kernel
theorem ci_X8_first : x_ckI cX8_first il_X8_first = true := by decide +kernel
theorem ci_X8_next : x_ckI cX8_next il_X8_next = true := by decide +kernel
theorem ci_X8_isPicked : x_ckI cX8_isPicked il_X8_isPicked = true := by decide +kernel
theorem ci_X8_last : x_ckI cX8_last il_X8_last = true := by decide +kernel
theorem ci_X8_lowest : x_ckI cX8_lowest il_X8_lowest = true := by decide +kernel
theorem ci_X8_only : x_ckI cX8_only il_X8_only = true := by decide +kernel
theorem ci_X8_common : x_ckI cX8_common il_X8_common = true := by decide +kernel
theorem ci_X8_crosses : x_ckI cX8_crosses il_X8_crosses = true := by decide +kernel
theorem ci_X8_pointing : x_ckI cX8_pointing il_X8_pointing = true := by decide +kernel
theorem ci_X8_claiming : x_ckI cX8_claiming il_X8_claiming = true := by decide +kernel
theorem ci_X8_naked : x_ckI cX8_naked il_X8_naked = true := by decide +kernel
theorem ci_X8_isOpenIn : x_ckI cX8_isOpenIn il_X8_isOpenIn = true := by decide +kernel
theorem ci_X8_hidden : x_ckI cX8_hidden il_X8_hidden = true := by decide +kernel
theorem ci_X8_fish : x_ckI cX8_fish il_X8_fish = true := by decide +kernel
theorem ci_X8_wing : x_ckI cX8_wing il_X8_wing = true := by decide +kernel
theorem ci_X8_isWing : x_ckI cX8_isWing il_X8_isWing = true := by decide +kernel
theorem ci_X8_isLinked : x_ckI cX8_isLinked il_X8_isLinked = true := by decide +kernel
theorem ci_X8_colour : x_ckI cX8_colour il_X8_colour = true := by decide +kernel
theorem ci_X8_clash : x_ckI cX8_clash il_X8_clash = true := by decide +kernel
theorem ci_X8_seesOne : x_ckI cX8_seesOne il_X8_seesOne = true := by decide +kernel
theorem ci_X8_colours : x_ckI cX8_colours il_X8_colours = true := by decide +kernel
theorem ci_X8_corners : x_ckI cX8_corners il_X8_corners = true := by decide +kernel
theorem ci_X8_rectangle : x_ckI cX8_rectangle il_X8_rectangle = true := by decide +kernel
theorem ci_X8_look : x_ckI cX8_look il_X8_look = true := by decide +kernel
theorem ci_X8_search : x_ckI cX8_search il_X8_search = true := by decide +kernel
theorem ci_X8_find : x_ckI cX8_find il_X8_find = true := by decide +kernel
theorem ci_X8_goMany : x_ckI cX8_goMany il_X8_goMany = true := by decide +kernel
theorem ci_X8_reasonMany : x_ckI cX8_reasonMany il_X8_reasonMany = true := by decide +kernel
theorem ci_X8_found : x_ckI cX8_found il_X8_found = true := by decide +kernel
theorem ci_X8_reasonAt : x_ckI cX8_reasonAt il_X8_reasonAt = true := by decide +kernel
theorem ci_X8_reason : x_ckI cX8_reason il_X8_reason = true := by decide +kernel
theorem ci_X8_goes : x_ckI cX8_goes il_X8_goes = true := by decide +kernel
theorem ci_X8_act : x_ckI cX8_act il_X8_act = true := by decide +kernel
theorem ci_X8_apply : x_ckI cX8_apply il_X8_apply = true := by decide +kernel
theorem ci_X8_solve : x_ckI cX8_solve il_X8_solve = true := by decide +kernel
theorem ci_X8_undo : x_ckI cX8_undo il_X8_undo = true := by decide +kernel
theorem ci_X8_done : x_ckI cX8_done il_X8_done = true := by decide +kernel
theorem ci_X8_candidates : x_ckI cX8_candidates il_X8_candidates = true := by decide +kernel
theorem ci_X8_value : x_ckI cX8_value il_X8_value = true := by decide +kernel
theorem ci_X8_state : x_ckI cX8_state il_X8_state = true := by decide +kernel
theorem ci_X8_part : x_ckI cX8_part il_X8_part = true := by decide +kernel
theorem ci_X8_nameByte : x_ckI cX8_nameByte il_X8_nameByte = true := by decide +kernel
theorem ci_X8_words : x_ckI cX8_words il_X8_words = true := by decide +kernel
theorem ci_X2_init : x_ckI cX2_init il_X2_init = true := by decide +kernel
theorem ci_X2_layLines : x_ckI cX2_layLines il_X2_layLines = true := by decide +kernel
theorem ci_X2_layBoxes : x_ckI cX2_layBoxes il_X2_layBoxes = true := by decide +kernel
theorem ci_X2_lay : x_ckI cX2_lay il_X2_lay = true := by decide +kernel
theorem ci_X2_fill : x_ckI cX2_fill il_X2_fill = true := by decide +kernel
theorem ci_X2_cell : x_ckI cX2_cell il_X2_cell = true := by decide +kernel
theorem ci_X2_house : x_ckI cX2_house il_X2_house = true := by decide +kernel
theorem ci_X2_rowOf : x_ckI cX2_rowOf il_X2_rowOf = true := by decide +kernel
theorem ci_X2_columnOf : x_ckI cX2_columnOf il_X2_columnOf = true := by decide +kernel
theorem ci_X2_places : x_ckI cX2_places il_X2_places = true := by decide +kernel
theorem ci_X2_isOpen : x_ckI cX2_isOpen il_X2_isOpen = true := by decide +kernel
theorem ci_X2_isIn : x_ckI cX2_isIn il_X2_isIn = true := by decide +kernel
theorem ci_X2_see : x_ckI cX2_see il_X2_see = true := by decide +kernel
theorem ci_X2_drop : x_ckI cX2_drop il_X2_drop = true := by decide +kernel
theorem ci_X2_giveBack : x_ckI cX2_giveBack il_X2_giveBack = true := by decide +kernel
theorem ci_X2_isBroken : x_ckI cX2_isBroken il_X2_isBroken = true := by decide +kernel
theorem ci_X2_openCells : x_ckI cX2_openCells il_X2_openCells = true := by decide +kernel
theorem ci_X2_openCandidates : x_ckI cX2_openCandidates il_X2_openCandidates = true := by decide +kernel
theorem ci_X1_init : x_ckI cX1_init il_X1_init = true := by decide +kernel
theorem ci_X1_clear : x_ckI cX1_clear il_X1_clear = true := by decide +kernel
theorem ci_X1_strike : x_ckI cX1_strike il_X1_strike = true := by decide +kernel
theorem ci_X1_because : x_ckI cX1_because il_X1_because = true := by decide +kernel
theorem ci_X1_goer : x_ckI cX1_goer il_X1_goer = true := by decide +kernel
theorem ci_X1_nthBit : x_ckI cX1_nthBit il_X1_nthBit = true := by decide +kernel
theorem ci_X3_init : x_ckI cX3_init il_X3_init = true := by decide +kernel
theorem ci_X3_mostSteps : x_ckI cX3_mostSteps il_X3_mostSteps = true := by decide +kernel
theorem ci_X3_clear : x_ckI cX3_clear il_X3_clear = true := by decide +kernel
theorem ci_X3_note : x_ckI cX3_note il_X3_note = true := by decide +kernel
theorem ci_X3_close : x_ckI cX3_close il_X3_close = true := by decide +kernel
theorem ci_X3_takeBack : x_ckI cX3_takeBack il_X3_takeBack = true := by decide +kernel
theorem ci_X6_init : x_ckI cX6_init il_X6_init = true := by decide +kernel
theorem ci_X6_gather : x_ckI cX6_gather il_X6_gather = true := by decide +kernel
theorem ci_X6_start : x_ckI cX6_start il_X6_start = true := by decide +kernel
theorem ci_X6_end : x_ckI cX6_end il_X6_end = true := by decide +kernel
theorem ci_X6_get : x_ckI cX6_get il_X6_get = true := by decide +kernel
theorem ci_X0_init : x_ckI cX0_init il_X0_init = true := by decide +kernel
theorem ci_X0_look : x_ckI cX0_look il_X0_look = true := by decide +kernel
theorem ci_X0_join : x_ckI cX0_join il_X0_join = true := by decide +kernel
theorem ci_X0_colour : x_ckI cX0_colour il_X0_colour = true := by decide +kernel
theorem ci_X0_linkedCell : x_ckI cX0_linkedCell il_X0_linkedCell = true := by decide +kernel
theorem ci_X0_takes : x_ckI cX0_takes il_X0_takes = true := by decide +kernel
theorem ci_X0_clash : x_ckI cX0_clash il_X0_clash = true := by decide +kernel
theorem ci_X0_strikeColour : x_ckI cX0_strikeColour il_X0_strikeColour = true := by decide +kernel
theorem ci_X0_strikeOthers : x_ckI cX0_strikeOthers il_X0_strikeOthers = true := by decide +kernel
theorem ci_X0_leaveBehind : x_ckI cX0_leaveBehind il_X0_leaveBehind = true := by decide +kernel
theorem ci_X5_init : x_ckI cX5_init il_X5_init = true := by decide +kernel
theorem ci_X5_seek : x_ckI cX5_seek il_X5_seek = true := by decide +kernel
theorem ci_X5_settle : x_ckI cX5_settle il_X5_settle = true := by decide +kernel
theorem ci_X5_strikePlaces : x_ckI cX5_strikePlaces il_X5_strikePlaces = true := by decide +kernel
theorem ci_X5_takesSome : x_ckI cX5_takesSome il_X5_takesSome = true := by decide +kernel
theorem ci_X5_becauseOf : x_ckI cX5_becauseOf il_X5_becauseOf = true := by decide +kernel
theorem ci_X5_last : x_ckI cX5_last il_X5_last = true := by decide +kernel
theorem ci_X5_onlyPlace : x_ckI cX5_onlyPlace il_X5_onlyPlace = true := by decide +kernel
theorem ci_X5_isOpenIn : x_ckI cX5_isOpenIn il_X5_isOpenIn = true := by decide +kernel
theorem ci_X5_pointing : x_ckI cX5_pointing il_X5_pointing = true := by decide +kernel
theorem ci_X5_claiming : x_ckI cX5_claiming il_X5_claiming = true := by decide +kernel
theorem ci_X5_confined : x_ckI cX5_confined il_X5_confined = true := by decide +kernel
theorem ci_X5_sharedHouse : x_ckI cX5_sharedHouse il_X5_sharedHouse = true := by decide +kernel
theorem ci_X5_nakedSet : x_ckI cX5_nakedSet il_X5_nakedSet = true := by decide +kernel
theorem ci_X5_hiddenSet : x_ckI cX5_hiddenSet il_X5_hiddenSet = true := by decide +kernel
theorem ci_X5_crossing : x_ckI cX5_crossing il_X5_crossing = true := by decide +kernel
theorem ci_X5_crossingAt : x_ckI cX5_crossingAt il_X5_crossingAt = true := by decide +kernel
theorem ci_X5_fitItems : x_ckI cX5_fitItems il_X5_fitItems = true := by decide +kernel
theorem ci_X5_isCovered : x_ckI cX5_isCovered il_X5_isCovered = true := by decide +kernel
theorem ci_X5_unionOf : x_ckI cX5_unionOf il_X5_unionOf = true := by decide +kernel
theorem ci_X5_wing : x_ckI cX5_wing il_X5_wing = true := by decide +kernel
theorem ci_X5_isWingtip : x_ckI cX5_isWingtip il_X5_isWingtip = true := by decide +kernel
theorem ci_X5_wingAt : x_ckI cX5_wingAt il_X5_wingAt = true := by decide +kernel
theorem ci_X5_onlyOneAnswer : x_ckI cX5_onlyOneAnswer il_X5_onlyOneAnswer = true := by decide +kernel
theorem ci_X5_rectangleAt : x_ckI cX5_rectangleAt il_X5_rectangleAt = true := by decide +kernel
theorem ci_X5_isInTwoBoxes : x_ckI cX5_isInTwoBoxes il_X5_isInTwoBoxes = true := by decide +kernel
theorem ci_X5_fourth : x_ckI cX5_fourth il_X5_fourth = true := by decide +kernel
theorem ci_X7_init : x_ckI cX7_init il_X7_init = true := by decide +kernel
theorem ci_X7_set : x_ckI cX7_set il_X7_set = true := by decide +kernel
theorem ci_X7_take : x_ckI cX7_take il_X7_take = true := by decide +kernel
theorem ci_X7_enable : x_ckI cX7_enable il_X7_enable = true := by decide +kernel
theorem ci_X7_find : x_ckI cX7_find il_X7_find = true := by decide +kernel
theorem ci_X7_found : x_ckI cX7_found il_X7_found = true := by decide +kernel
theorem ci_X7_reason : x_ckI cX7_reason il_X7_reason = true := by decide +kernel
theorem ci_X7_goes : x_ckI cX7_goes il_X7_goes = true := by decide +kernel
theorem ci_X7_apply : x_ckI cX7_apply il_X7_apply = true := by decide +kernel
theorem ci_X7_solve : x_ckI cX7_solve il_X7_solve = true := by decide +kernel
theorem ci_X7_undo : x_ckI cX7_undo il_X7_undo = true := by decide +kernel
theorem ci_X7_done : x_ckI cX7_done il_X7_done = true := by decide +kernel
theorem ci_X7_candidates : x_ckI cX7_candidates il_X7_candidates = true := by decide +kernel
theorem ci_X7_value : x_ckI cX7_value il_X7_value = true := by decide +kernel
theorem ci_X7_state : x_ckI cX7_state il_X7_state = true := by decide +kernel
theorem ci_X7_words : x_ckI cX7_words il_X7_words = true := by decide +kernel
theorem ci_X7_letterOfCell : x_ckI cX7_letterOfCell il_X7_letterOfCell = true := by decide +kernel
theorem ci_X7_performFound : x_ckI cX7_performFound il_X7_performFound = true := by decide +kernel
theorem ci_X7_carryOut : x_ckI cX7_carryOut il_X7_carryOut = true := by decide +kernel
theorem ci_X7_forgetSteps : x_ckI cX7_forgetSteps il_X7_forgetSteps = true := by decide +kernel
theorem ci_X7_isOpenCandidate : x_ckI cX7_isOpenCandidate il_X7_isOpenCandidate = true := by decide +kernel
theorem ci_X7_allTimes : x_ckI cX7_allTimes il_X7_allTimes = true := by decide +kernel
theorem ci_X7_checkCell : x_ckI cX7_checkCell il_X7_checkCell = true := by decide +kernel
theorem ci_X7_checkSymbol : x_ckI cX7_checkSymbol il_X7_checkSymbol = true := by decide +kernel
theorem ci_X7_checkStep : x_ckI cX7_checkStep il_X7_checkStep = true := by decide +kernel
theorem ci_X7_leastBit : x_ckI cX7_leastBit il_X7_leastBit = true := by decide +kernel
theorem ci_L_cell : x_ckI cL_cell il_L_cell = true := by decide +kernel
theorem ci_L_set : x_ckI cL_set il_L_set = true := by decide +kernel
theorem ci_L_take : x_ckI cL_take il_L_take = true := by decide +kernel
theorem ci_L_enable : x_ckI cL_enable il_L_enable = true := by decide +kernel
theorem ci_L_done : x_ckI cL_done il_L_done = true := by decide +kernel
theorem ci_L_candidates : x_ckI cL_candidates il_L_candidates = true := by decide +kernel
theorem ci_L_value : x_ckI cL_value il_L_value = true := by decide +kernel
theorem ci_L_law : x_ckI cL_law il_L_law = true := by decide +kernel
end
section
/-! ===== the words are there, by program ===== -/
theorem x_us {C : String} {T : u_T} {N : Nat} (h : ∀ k, k < N → u_lay C T k ∈ x_T) : ∀ w ∈ u_ws C T N, w ∈ x_T := by
  intro w hw
  obtain ⟨k, hk, rfl⟩ := List.mem_map.mp hw
  exact h k (List.mem_range.mp hk)
theorem x_t0 {w : Cond} (h : w ∈ k2_sels lw_privs) (g : goodWord w = true) : w ∈ x_T := List.mem_filter.mpr ⟨List.mem_append_left _ h, g⟩
theorem x_tt {w : Cond} (h : w ∈ tables_1) (g : goodWord w = true) : w ∈ x_T := List.mem_filter.mpr ⟨List.mem_append_right _ h, g⟩
theorem x_t1 {w : Cond} (h : w ∈ tables_1_1) (g : goodWord w = true) : w ∈ x_T := x_tt (List.mem_append_left _ h) g
theorem x_t2 {w : Cond} (h : w ∈ tables_1_2) (g : goodWord w = true) : w ∈ x_T := x_tt (List.mem_append_right _ (List.mem_append_left _ h)) g
theorem x_t3 {w : Cond} (h : w ∈ tables_1_3) (g : goodWord w = true) : w ∈ x_T := x_tt (List.mem_append_right _ (List.mem_append_right _ (List.mem_append_left _ h))) g
theorem x_t4 {w : Cond} (h : w ∈ tables_1_4) (g : goodWord w = true) : w ∈ x_T := x_tt (List.mem_append_right _ (List.mem_append_right _ (List.mem_append_right _ (List.mem_append_left _ h)))) g
theorem x_t5 {w : Cond} (h : w ∈ tables_1_5) (g : goodWord w = true) : w ∈ x_T := x_tt (List.mem_append_right _ (List.mem_append_right _ (List.mem_append_right _ (List.mem_append_right _ (List.mem_append_left _ h))))) g
theorem x_t6 {w : Cond} (h : w ∈ tables_1_6) (g : goodWord w = true) : w ∈ x_T := x_tt (List.mem_append_right _ (List.mem_append_right _ (List.mem_append_right _ (List.mem_append_right _ (List.mem_append_right _ h))))) g
theorem wl_X0_0 : u_lay RX0 TX0 0 ∈ x_T := x_t1 (List.mem_of_getElem? (i := 168) rfl) rfl
theorem wl_X0_1 : u_lay RX0 TX0 1 ∈ x_T := x_t1 (List.mem_of_getElem? (i := 170) rfl) rfl
theorem wl_X0_2 : u_lay RX0 TX0 2 ∈ x_T := x_t1 (List.mem_of_getElem? (i := 172) rfl) rfl
theorem wu_X0 : ∀ k ∈ [0, 1, 2], u_lay RX0 TX0 k ∈ x_T := List.forall_mem_cons.mpr ⟨wl_X0_0, List.forall_mem_cons.mpr ⟨wl_X0_1, List.forall_mem_cons.mpr ⟨wl_X0_2, List.forall_mem_nil _⟩⟩⟩
theorem cl_X0 : x_Cl 1 RX0 TX0 3 tyX0 := ⟨rfl, x_us (fun k hk => wu_X0 k (List.mem_range.mpr hk)), tyX0_ok, nmX0⟩
theorem wl_X1_0 : u_lay RX1 TX1 0 ∈ x_T := x_t1 (List.mem_of_getElem? (i := 121) rfl) rfl
theorem wl_X1_1 : u_lay RX1 TX1 1 ∈ x_T := x_t1 (List.mem_of_getElem? (i := 123) rfl) rfl
theorem wl_X1_2 : u_lay RX1 TX1 2 ∈ x_T := x_t1 (List.mem_of_getElem? (i := 125) rfl) rfl
theorem wl_X1_3 : u_lay RX1 TX1 3 ∈ x_T := x_t1 (List.mem_of_getElem? (i := 127) rfl) rfl
theorem wl_X1_4 : u_lay RX1 TX1 4 ∈ x_T := x_t1 (List.mem_of_getElem? (i := 129) rfl) rfl
theorem wl_X1_5 : u_lay RX1 TX1 5 ∈ x_T := x_t1 (List.mem_of_getElem? (i := 131) rfl) rfl
theorem wl_X1_6 : u_lay RX1 TX1 6 ∈ x_T := x_t1 (List.mem_of_getElem? (i := 133) rfl) rfl
theorem wu_X1 : ∀ k ∈ [0, 1, 2, 3, 4, 5, 6], u_lay RX1 TX1 k ∈ x_T := List.forall_mem_cons.mpr ⟨wl_X1_0, List.forall_mem_cons.mpr ⟨wl_X1_1, List.forall_mem_cons.mpr ⟨wl_X1_2, List.forall_mem_cons.mpr ⟨wl_X1_3, List.forall_mem_cons.mpr ⟨wl_X1_4, List.forall_mem_cons.mpr ⟨wl_X1_5, List.forall_mem_cons.mpr ⟨wl_X1_6, List.forall_mem_nil _⟩⟩⟩⟩⟩⟩⟩
theorem cl_X1 : x_Cl 2 RX1 TX1 7 tyX1 := ⟨rfl, x_us (fun k hk => wu_X1 k (List.mem_range.mpr hk)), tyX1_ok, nmX1⟩
theorem wl_X2_0 : u_lay RX2 TX2 0 ∈ x_T := x_t1 (List.mem_of_getElem? (i := 77) rfl) rfl
theorem wl_X2_1 : u_lay RX2 TX2 1 ∈ x_T := x_t1 (List.mem_of_getElem? (i := 79) rfl) rfl
theorem wl_X2_2 : u_lay RX2 TX2 2 ∈ x_T := x_t1 (List.mem_of_getElem? (i := 81) rfl) rfl
theorem wl_X2_3 : u_lay RX2 TX2 3 ∈ x_T := x_t1 (List.mem_of_getElem? (i := 83) rfl) rfl
theorem wl_X2_4 : u_lay RX2 TX2 4 ∈ x_T := x_t1 (List.mem_of_getElem? (i := 85) rfl) rfl
theorem wl_X2_5 : u_lay RX2 TX2 5 ∈ x_T := x_t1 (List.mem_of_getElem? (i := 87) rfl) rfl
theorem wl_X2_6 : u_lay RX2 TX2 6 ∈ x_T := x_t1 (List.mem_of_getElem? (i := 89) rfl) rfl
theorem wl_X2_7 : u_lay RX2 TX2 7 ∈ x_T := x_t1 (List.mem_of_getElem? (i := 91) rfl) rfl
theorem wl_X2_8 : u_lay RX2 TX2 8 ∈ x_T := x_t1 (List.mem_of_getElem? (i := 93) rfl) rfl
theorem wu_X2 : ∀ k ∈ [0, 1, 2, 3, 4, 5, 6, 7, 8], u_lay RX2 TX2 k ∈ x_T := List.forall_mem_cons.mpr ⟨wl_X2_0, List.forall_mem_cons.mpr ⟨wl_X2_1, List.forall_mem_cons.mpr ⟨wl_X2_2, List.forall_mem_cons.mpr ⟨wl_X2_3, List.forall_mem_cons.mpr ⟨wl_X2_4, List.forall_mem_cons.mpr ⟨wl_X2_5, List.forall_mem_cons.mpr ⟨wl_X2_6, List.forall_mem_cons.mpr ⟨wl_X2_7, List.forall_mem_cons.mpr ⟨wl_X2_8, List.forall_mem_nil _⟩⟩⟩⟩⟩⟩⟩⟩⟩
theorem cl_X2 : x_Cl 3 RX2 TX2 9 tyX2 := ⟨rfl, x_us (fun k hk => wu_X2 k (List.mem_range.mpr hk)), tyX2_ok, nmX2⟩
theorem wl_X3_0 : u_lay RX3 TX3 0 ∈ x_T := x_t1 (List.mem_of_getElem? (i := 209) rfl) rfl
theorem wl_X3_1 : u_lay RX3 TX3 1 ∈ x_T := x_t1 (List.mem_of_getElem? (i := 211) rfl) rfl
theorem wl_X3_2 : u_lay RX3 TX3 2 ∈ x_T := x_t1 (List.mem_of_getElem? (i := 213) rfl) rfl
theorem wl_X3_3 : u_lay RX3 TX3 3 ∈ x_T := x_t1 (List.mem_of_getElem? (i := 215) rfl) rfl
theorem wl_X3_4 : u_lay RX3 TX3 4 ∈ x_T := x_t1 (List.mem_of_getElem? (i := 217) rfl) rfl
theorem wl_X3_5 : u_lay RX3 TX3 5 ∈ x_T := x_t1 (List.mem_of_getElem? (i := 219) rfl) rfl
theorem wu_X3 : ∀ k ∈ [0, 1, 2, 3, 4, 5], u_lay RX3 TX3 k ∈ x_T := List.forall_mem_cons.mpr ⟨wl_X3_0, List.forall_mem_cons.mpr ⟨wl_X3_1, List.forall_mem_cons.mpr ⟨wl_X3_2, List.forall_mem_cons.mpr ⟨wl_X3_3, List.forall_mem_cons.mpr ⟨wl_X3_4, List.forall_mem_cons.mpr ⟨wl_X3_5, List.forall_mem_nil _⟩⟩⟩⟩⟩⟩
theorem cl_X3 : x_Cl 4 RX3 TX3 6 tyX3 := ⟨rfl, x_us (fun k hk => wu_X3 k (List.mem_range.mpr hk)), tyX3_ok, nmX3⟩
theorem wl_X5_0 : u_lay RX5 TX5 0 ∈ x_T := x_t1 (List.mem_of_getElem? (i := 183) rfl) rfl
theorem wl_X5_1 : u_lay RX5 TX5 1 ∈ x_T := x_t1 (List.mem_of_getElem? (i := 185) rfl) rfl
theorem wl_X5_2 : u_lay RX5 TX5 2 ∈ x_T := x_t1 (List.mem_of_getElem? (i := 187) rfl) rfl
theorem wl_X5_3 : u_lay RX5 TX5 3 ∈ x_T := x_t1 (List.mem_of_getElem? (i := 189) rfl) rfl
theorem wl_X5_4 : u_lay RX5 TX5 4 ∈ x_T := x_t1 (List.mem_of_getElem? (i := 191) rfl) rfl
theorem wl_X5_5 : u_lay RX5 TX5 5 ∈ x_T := x_t1 (List.mem_of_getElem? (i := 193) rfl) rfl
theorem wu_X5 : ∀ k ∈ [0, 1, 2, 3, 4, 5], u_lay RX5 TX5 k ∈ x_T := List.forall_mem_cons.mpr ⟨wl_X5_0, List.forall_mem_cons.mpr ⟨wl_X5_1, List.forall_mem_cons.mpr ⟨wl_X5_2, List.forall_mem_cons.mpr ⟨wl_X5_3, List.forall_mem_cons.mpr ⟨wl_X5_4, List.forall_mem_cons.mpr ⟨wl_X5_5, List.forall_mem_nil _⟩⟩⟩⟩⟩⟩
theorem cl_X5 : x_Cl 5 RX5 TX5 6 tyX5 := ⟨rfl, x_us (fun k hk => wu_X5 k (List.mem_range.mpr hk)), tyX5_ok, nmX5⟩
theorem wl_X6_0 : u_lay RX6 TX6 0 ∈ x_T := x_t1 (List.mem_of_getElem? (i := 150) rfl) rfl
theorem wl_X6_1 : u_lay RX6 TX6 1 ∈ x_T := x_t1 (List.mem_of_getElem? (i := 152) rfl) rfl
theorem wl_X6_2 : u_lay RX6 TX6 2 ∈ x_T := x_t1 (List.mem_of_getElem? (i := 154) rfl) rfl
theorem wl_X6_3 : u_lay RX6 TX6 3 ∈ x_T := x_t1 (List.mem_of_getElem? (i := 156) rfl) rfl
theorem wu_X6 : ∀ k ∈ [0, 1, 2, 3], u_lay RX6 TX6 k ∈ x_T := List.forall_mem_cons.mpr ⟨wl_X6_0, List.forall_mem_cons.mpr ⟨wl_X6_1, List.forall_mem_cons.mpr ⟨wl_X6_2, List.forall_mem_cons.mpr ⟨wl_X6_3, List.forall_mem_nil _⟩⟩⟩⟩
theorem cl_X6 : x_Cl 6 RX6 TX6 4 tyX6 := ⟨rfl, x_us (fun k hk => wu_X6 k (List.mem_range.mpr hk)), tyX6_ok, nmX6⟩
theorem wl_X7_0 : u_lay RX7 TX7 0 ∈ x_T := x_t1 (List.mem_of_getElem? (i := 228) rfl) rfl
theorem wl_X7_1 : u_lay RX7 TX7 1 ∈ x_T := x_t1 (List.mem_of_getElem? (i := 230) rfl) rfl
theorem wl_X7_2 : u_lay RX7 TX7 2 ∈ x_T := x_t1 (List.mem_of_getElem? (i := 232) rfl) rfl
theorem wl_X7_3 : u_lay RX7 TX7 3 ∈ x_T := x_t1 (List.mem_of_getElem? (i := 234) rfl) rfl
theorem wl_X7_4 : u_lay RX7 TX7 4 ∈ x_T := x_t1 (List.mem_of_getElem? (i := 236) rfl) rfl
theorem wl_X7_5 : u_lay RX7 TX7 5 ∈ x_T := x_t1 (List.mem_of_getElem? (i := 238) rfl) rfl
theorem wu_X7 : ∀ k ∈ [0, 1, 2, 3, 4, 5], u_lay RX7 TX7 k ∈ x_T := List.forall_mem_cons.mpr ⟨wl_X7_0, List.forall_mem_cons.mpr ⟨wl_X7_1, List.forall_mem_cons.mpr ⟨wl_X7_2, List.forall_mem_cons.mpr ⟨wl_X7_3, List.forall_mem_cons.mpr ⟨wl_X7_4, List.forall_mem_cons.mpr ⟨wl_X7_5, List.forall_mem_nil _⟩⟩⟩⟩⟩⟩
theorem cl_X7 : x_Cl 7 RX7 TX7 6 tyX7 := ⟨rfl, x_us (fun k hk => wu_X7 k (List.mem_range.mpr hk)), tyX7_ok, nmX7⟩
theorem wl_X8_0 : u_lay RX8 TX8 0 ∈ x_T := x_t4 (List.mem_of_getElem? (i := 85) rfl) rfl
theorem wl_X8_1 : u_lay RX8 TX8 1 ∈ x_T := x_t4 (List.mem_of_getElem? (i := 87) rfl) rfl
theorem wl_X8_2 : u_lay RX8 TX8 2 ∈ x_T := x_t4 (List.mem_of_getElem? (i := 89) rfl) rfl
theorem wl_X8_3 : u_lay RX8 TX8 3 ∈ x_T := x_t4 (List.mem_of_getElem? (i := 91) rfl) rfl
theorem wl_X8_4 : u_lay RX8 TX8 4 ∈ x_T := x_t4 (List.mem_of_getElem? (i := 93) rfl) rfl
theorem wl_X8_5 : u_lay RX8 TX8 5 ∈ x_T := x_t4 (List.mem_of_getElem? (i := 95) rfl) rfl
theorem wl_X8_6 : u_lay RX8 TX8 6 ∈ x_T := x_t4 (List.mem_of_getElem? (i := 97) rfl) rfl
theorem wl_X8_7 : u_lay RX8 TX8 7 ∈ x_T := x_t4 (List.mem_of_getElem? (i := 99) rfl) rfl
theorem wl_X8_8 : u_lay RX8 TX8 8 ∈ x_T := x_t4 (List.mem_of_getElem? (i := 101) rfl) rfl
theorem wl_X8_9 : u_lay RX8 TX8 9 ∈ x_T := x_t4 (List.mem_of_getElem? (i := 103) rfl) rfl
theorem wl_X8_10 : u_lay RX8 TX8 10 ∈ x_T := x_t4 (List.mem_of_getElem? (i := 105) rfl) rfl
theorem wl_X8_11 : u_lay RX8 TX8 11 ∈ x_T := x_t4 (List.mem_of_getElem? (i := 107) rfl) rfl
theorem wl_X8_12 : u_lay RX8 TX8 12 ∈ x_T := x_t4 (List.mem_of_getElem? (i := 109) rfl) rfl
theorem wl_X8_13 : u_lay RX8 TX8 13 ∈ x_T := x_t4 (List.mem_of_getElem? (i := 111) rfl) rfl
theorem wl_X8_14 : u_lay RX8 TX8 14 ∈ x_T := x_t4 (List.mem_of_getElem? (i := 113) rfl) rfl
theorem wl_X8_15 : u_lay RX8 TX8 15 ∈ x_T := x_t4 (List.mem_of_getElem? (i := 115) rfl) rfl
theorem wl_X8_16 : u_lay RX8 TX8 16 ∈ x_T := x_t4 (List.mem_of_getElem? (i := 117) rfl) rfl
theorem wl_X8_17 : u_lay RX8 TX8 17 ∈ x_T := x_t4 (List.mem_of_getElem? (i := 119) rfl) rfl
theorem wl_X8_18 : u_lay RX8 TX8 18 ∈ x_T := x_t4 (List.mem_of_getElem? (i := 121) rfl) rfl
theorem wl_X8_19 : u_lay RX8 TX8 19 ∈ x_T := x_t4 (List.mem_of_getElem? (i := 123) rfl) rfl
theorem wl_X8_20 : u_lay RX8 TX8 20 ∈ x_T := x_t4 (List.mem_of_getElem? (i := 125) rfl) rfl
theorem wl_X8_21 : u_lay RX8 TX8 21 ∈ x_T := x_t4 (List.mem_of_getElem? (i := 127) rfl) rfl
theorem wl_X8_22 : u_lay RX8 TX8 22 ∈ x_T := x_t4 (List.mem_of_getElem? (i := 129) rfl) rfl
theorem wu_X8 : ∀ k ∈ [0, 1, 2, 3, 4, 5, 6, 7, 8, 9, 10, 11, 12, 13, 14, 15, 16, 17, 18, 19, 20, 21, 22], u_lay RX8 TX8 k ∈ x_T := List.forall_mem_cons.mpr ⟨wl_X8_0, List.forall_mem_cons.mpr ⟨wl_X8_1, List.forall_mem_cons.mpr ⟨wl_X8_2, List.forall_mem_cons.mpr ⟨wl_X8_3, List.forall_mem_cons.mpr ⟨wl_X8_4, List.forall_mem_cons.mpr ⟨wl_X8_5, List.forall_mem_cons.mpr ⟨wl_X8_6, List.forall_mem_cons.mpr ⟨wl_X8_7, List.forall_mem_cons.mpr ⟨wl_X8_8, List.forall_mem_cons.mpr ⟨wl_X8_9, List.forall_mem_cons.mpr ⟨wl_X8_10, List.forall_mem_cons.mpr ⟨wl_X8_11, List.forall_mem_cons.mpr ⟨wl_X8_12, List.forall_mem_cons.mpr ⟨wl_X8_13, List.forall_mem_cons.mpr ⟨wl_X8_14, List.forall_mem_cons.mpr ⟨wl_X8_15, List.forall_mem_cons.mpr ⟨wl_X8_16, List.forall_mem_cons.mpr ⟨wl_X8_17, List.forall_mem_cons.mpr ⟨wl_X8_18, List.forall_mem_cons.mpr ⟨wl_X8_19, List.forall_mem_cons.mpr ⟨wl_X8_20, List.forall_mem_cons.mpr ⟨wl_X8_21, List.forall_mem_cons.mpr ⟨wl_X8_22, List.forall_mem_nil _⟩⟩⟩⟩⟩⟩⟩⟩⟩⟩⟩⟩⟩⟩⟩⟩⟩⟩⟩⟩⟩⟩⟩
theorem cl_X8 : x_Cl 8 RX8 TX8 23 tyX8 := ⟨rfl, x_us (fun k hk => wu_X8 k (List.mem_range.mpr hk)), tyX8_ok, nmX8⟩
theorem x_Gw_ok : x_Gw := ⟨x_t1 (List.mem_of_getElem? (i := 27) rfl) rfl, x_t1 (List.mem_of_getElem? (i := 28) rfl) rfl, x_t1 (List.mem_of_getElem? (i := 96) rfl) rfl, x_t2 (List.mem_of_getElem? (i := 1) rfl) rfl, x_t5 (List.mem_of_getElem? (i := 198) rfl) rfl⟩
theorem wd_J6_0 : Cond.constant RJ6 265 (1431655765) ∈ x_T := x_t2 (List.mem_of_getElem? (i := 29) rfl) rfl
theorem wd_J6_1 : Cond.constant RJ6 266 (858993459) ∈ x_T := x_t2 (List.mem_of_getElem? (i := 30) rfl) rfl
theorem wd_J6_2 : Cond.constant RJ6 267 (252645135) ∈ x_T := x_t2 (List.mem_of_getElem? (i := 31) rfl) rfl
theorem wd_J6_3 : Cond.code yJ6_bitCount_0f7a4 cJ6_bitCount_0f7a4 1 (some .int) ∈ x_T := x_t2 (List.mem_of_getElem? (i := 28) rfl) rfl
theorem wd_X8_0 : Cond.fieldLink RX8 7 (TX8 4).1 (TX8 4).2.1 (TX8 4).2.2.1 ∈ x_T := x_t4 (List.mem_of_getElem? (i := 66) rfl) rfl
theorem wd_X8_1 : Cond.fieldLink RX8 13 (TX8 5).1 (TX8 5).2.1 (TX8 5).2.2.1 ∈ x_T := x_t4 (List.mem_of_getElem? (i := 67) rfl) rfl
theorem wd_X8_2 : Cond.fieldLink RX8 16 (TX8 6).1 (TX8 6).2.1 (TX8 6).2.2.1 ∈ x_T := x_t4 (List.mem_of_getElem? (i := 68) rfl) rfl
theorem wd_X8_3 : Cond.fieldLink RX8 20 (TX8 7).1 (TX8 7).2.1 (TX8 7).2.2.1 ∈ x_T := x_t4 (List.mem_of_getElem? (i := 69) rfl) rfl
theorem wd_X8_4 : Cond.fieldLink RX8 23 (TX8 8).1 (TX8 8).2.1 (TX8 8).2.2.1 ∈ x_T := x_t4 (List.mem_of_getElem? (i := 70) rfl) rfl
theorem wd_X8_5 : Cond.fieldLink RX8 27 (TX8 9).1 (TX8 9).2.1 (TX8 9).2.2.1 ∈ x_T := x_t4 (List.mem_of_getElem? (i := 71) rfl) rfl
theorem wd_X8_6 : Cond.fieldLink RX8 30 (TX8 10).1 (TX8 10).2.1 (TX8 10).2.2.1 ∈ x_T := x_t4 (List.mem_of_getElem? (i := 72) rfl) rfl
theorem wd_X8_7 : Cond.fieldLink RX8 33 (TX8 14).1 (TX8 14).2.1 (TX8 14).2.2.1 ∈ x_T := x_t4 (List.mem_of_getElem? (i := 76) rfl) rfl
theorem wd_X8_8 : Cond.fieldLink RX8 36 (TX8 15).1 (TX8 15).2.1 (TX8 15).2.2.1 ∈ x_T := x_t4 (List.mem_of_getElem? (i := 77) rfl) rfl
theorem wd_X8_9 : Cond.fieldLink RX8 40 (TX8 17).1 (TX8 17).2.1 (TX8 17).2.2.1 ∈ x_T := x_t4 (List.mem_of_getElem? (i := 79) rfl) rfl
theorem wd_X8_10 : Cond.fieldLink RX8 43 (TX8 18).1 (TX8 18).2.1 (TX8 18).2.2.1 ∈ x_T := x_t4 (List.mem_of_getElem? (i := 80) rfl) rfl
theorem wd_X8_11 : Cond.fieldLink RX8 46 (TX8 19).1 (TX8 19).2.1 (TX8 19).2.2.1 ∈ x_T := x_t4 (List.mem_of_getElem? (i := 81) rfl) rfl
theorem wd_X8_12 : Cond.fieldLink RX8 49 (TX8 20).1 (TX8 20).2.1 (TX8 20).2.2.1 ∈ x_T := x_t4 (List.mem_of_getElem? (i := 82) rfl) rfl
theorem wd_X8_13 : Cond.fieldLink RX8 52 (TX8 21).1 (TX8 21).2.1 (TX8 21).2.2.1 ∈ x_T := x_t4 (List.mem_of_getElem? (i := 83) rfl) rfl
theorem wd_X8_14 : Cond.fieldLink RX8 55 (TX8 22).1 (TX8 22).2.1 (TX8 22).2.2.1 ∈ x_T := x_t4 (List.mem_of_getElem? (i := 84) rfl) rfl
theorem wd_X8_15 : Cond.fieldLink RX8 58 (TX8 1).1 (TX8 1).2.1 (TX8 1).2.2.1 ∈ x_T := x_t4 (List.mem_of_getElem? (i := 63) rfl) rfl
theorem wd_X8_16 : Cond.fieldLink RX8 61 (TX8 2).1 (TX8 2).2.1 (TX8 2).2.2.1 ∈ x_T := x_t4 (List.mem_of_getElem? (i := 64) rfl) rfl
theorem wd_X8_17 : Cond.fieldLink RX8 64 (TX8 3).1 (TX8 3).2.1 (TX8 3).2.2.1 ∈ x_T := x_t4 (List.mem_of_getElem? (i := 65) rfl) rfl
theorem wd_X8_18 : Cond.fieldLink RX8 71 (TX8 0).1 (TX8 0).2.1 (TX8 0).2.2.1 ∈ x_T := x_t4 (List.mem_of_getElem? (i := 62) rfl) rfl
theorem wd_X8_19 : Cond.fieldLink RX8 92 (TX8 16).1 (TX8 16).2.1 (TX8 16).2.2.1 ∈ x_T := x_t4 (List.mem_of_getElem? (i := 78) rfl) rfl
theorem wd_X8_20 : Cond.fieldLink RX8 113 (TX8 11).1 (TX8 11).2.1 (TX8 11).2.2.1 ∈ x_T := x_t4 (List.mem_of_getElem? (i := 73) rfl) rfl
theorem wd_X8_21 : Cond.fieldLink RX8 116 (TX8 12).1 (TX8 12).2.1 (TX8 12).2.2.1 ∈ x_T := x_t4 (List.mem_of_getElem? (i := 74) rfl) rfl
theorem wd_X8_22 : Cond.fieldLink RX8 122 (TX8 13).1 (TX8 13).2.1 (TX8 13).2.2.1 ∈ x_T := x_t4 (List.mem_of_getElem? (i := 75) rfl) rfl
theorem wd_X8_23 : Cond.methodLink RX8 67 yX8_cells ∈ x_T := x_t4 (List.mem_of_getElem? (i := 58) rfl) rfl
theorem wd_X8_24 : Cond.instanceMethod yX8_cells ∈ x_T := x_t4 (List.mem_of_getElem? (i := 60) rfl) rfl
theorem wd_X8_25 : Cond.selects RX8 yX8_cells yX8_cells ∈ x_T := x_t0 (List.mem_of_getElem? (i := 47) rfl) rfl
theorem wd_X8_26 : Cond.initialized RX8 ∈ x_T := x_t1 (List.mem_of_getElem? (i := 8) rfl) rfl
theorem wd_X8_27 : Cond.methodLink RX8 74 yX8_boxOf ∈ x_T := x_t4 (List.mem_of_getElem? (i := 164) rfl) rfl
theorem wd_X8_28 : Cond.instanceMethod yX8_boxOf ∈ x_T := x_t4 (List.mem_of_getElem? (i := 166) rfl) rfl
theorem wd_X8_29 : Cond.selects RX8 yX8_boxOf yX8_boxOf ∈ x_T := x_t0 (List.mem_of_getElem? (i := 54) rfl) rfl
theorem wd_X8_30 : Cond.methodLink RX8 78 yX8_at ∈ x_T := x_t4 (List.mem_of_getElem? (i := 196) rfl) rfl
theorem wd_X8_31 : Cond.instanceMethod yX8_at ∈ x_T := x_t4 (List.mem_of_getElem? (i := 198) rfl) rfl
theorem wd_X8_32 : Cond.selects RX8 yX8_at yX8_at ∈ x_T := x_t0 (List.mem_of_getElem? (i := 59) rfl) rfl
theorem wd_X8_33 : Cond.methodLink RX8 82 yX8_has ∈ x_T := x_t4 (List.mem_of_getElem? (i := 152) rfl) rfl
theorem wd_X8_34 : Cond.instanceMethod yX8_has ∈ x_T := x_t4 (List.mem_of_getElem? (i := 154) rfl) rfl
theorem wd_X8_35 : Cond.selects RX8 yX8_has yX8_has ∈ x_T := x_t0 (List.mem_of_getElem? (i := 51) rfl) rfl
theorem wd_X8_36 : Cond.methodLink RX8 86 yX8_places ∈ x_T := x_t4 (List.mem_of_getElem? (i := 192) rfl) rfl
theorem wd_X8_37 : Cond.instanceMethod yX8_places ∈ x_T := x_t4 (List.mem_of_getElem? (i := 194) rfl) rfl
theorem wd_X8_38 : Cond.selects RX8 yX8_places yX8_places ∈ x_T := x_t0 (List.mem_of_getElem? (i := 58) rfl) rfl
theorem wd_X8_39 : Cond.methodLink RX8 89 yX8_sees ∈ x_T := x_t4 (List.mem_of_getElem? (i := 160) rfl) rfl
theorem wd_X8_40 : Cond.instanceMethod yX8_sees ∈ x_T := x_t4 (List.mem_of_getElem? (i := 162) rfl) rfl
theorem wd_X8_41 : Cond.selects RX8 yX8_sees yX8_sees ∈ x_T := x_t0 (List.mem_of_getElem? (i := 53) rfl) rfl
theorem wd_X8_42 : Cond.methodLink RX8 95 yX8_isCell ∈ x_T := x_t4 (List.mem_of_getElem? (i := 140) rfl) rfl
theorem wd_X8_43 : Cond.instanceMethod yX8_isCell ∈ x_T := x_t4 (List.mem_of_getElem? (i := 142) rfl) rfl
theorem wd_X8_44 : Cond.selects RX8 yX8_isCell yX8_isCell ∈ x_T := x_t0 (List.mem_of_getElem? (i := 48) rfl) rfl
theorem wd_X8_45 : Cond.methodLink RX8 99 yX8_fails ∈ x_T := x_t4 (List.mem_of_getElem? (i := 144) rfl) rfl
theorem wd_X8_46 : Cond.instanceMethod yX8_fails ∈ x_T := x_t4 (List.mem_of_getElem? (i := 146) rfl) rfl
theorem wd_X8_47 : Cond.selects RX8 yX8_fails yX8_fails ∈ x_T := x_t0 (List.mem_of_getElem? (i := 49) rfl) rfl
theorem wd_X8_48 : Cond.methodLink RX8 103 yX8_isSymbol ∈ x_T := x_t4 (List.mem_of_getElem? (i := 148) rfl) rfl
theorem wd_X8_49 : Cond.instanceMethod yX8_isSymbol ∈ x_T := x_t4 (List.mem_of_getElem? (i := 150) rfl) rfl
theorem wd_X8_50 : Cond.selects RX8 yX8_isSymbol yX8_isSymbol ∈ x_T := x_t0 (List.mem_of_getElem? (i := 50) rfl) rfl
theorem wd_X8_51 : Cond.methodLink RX8 106 yX8_put ∈ x_T := x_t4 (List.mem_of_getElem? (i := 156) rfl) rfl
theorem wd_X8_52 : Cond.instanceMethod yX8_put ∈ x_T := x_t4 (List.mem_of_getElem? (i := 158) rfl) rfl
theorem wd_X8_53 : Cond.selects RX8 yX8_put yX8_put ∈ x_T := x_t0 (List.mem_of_getElem? (i := 52) rfl) rfl
theorem wd_X8_54 : Cond.methodLink RX8 110 yX8_changed ∈ x_T := x_t4 (List.mem_of_getElem? (i := 168) rfl) rfl
theorem wd_X8_55 : Cond.instanceMethod yX8_changed ∈ x_T := x_t4 (List.mem_of_getElem? (i := 170) rfl) rfl
theorem wd_X8_56 : Cond.selects RX8 yX8_changed yX8_changed ∈ x_T := x_t0 (List.mem_of_getElem? (i := 55) rfl) rfl
theorem wd_X8_57 : Cond.methodLink RX8 119 yX8_leaves ∈ x_T := x_t4 (List.mem_of_getElem? (i := 222) rfl) rfl
theorem wd_X8_58 : Cond.instanceMethod yX8_leaves ∈ x_T := x_t4 (List.mem_of_getElem? (i := 224) rfl) rfl
theorem wd_X8_59 : Cond.selects RX8 yX8_leaves yX8_leaves ∈ x_T := x_t0 (List.mem_of_getElem? (i := 64) rfl) rfl
theorem wd_X8_60 : Cond.methodLink RX8 131 yX8_sets ∈ x_T := x_t4 (List.mem_of_getElem? (i := 218) rfl) rfl
theorem wd_X8_61 : Cond.instanceMethod yX8_sets ∈ x_T := x_t4 (List.mem_of_getElem? (i := 220) rfl) rfl
theorem wd_X8_62 : Cond.selects RX8 yX8_sets yX8_sets ∈ x_T := x_t0 (List.mem_of_getElem? (i := 63) rfl) rfl
theorem wd_X8_63 : Cond.methodLink RX8 134 yX8_isIn ∈ x_T := x_t4 (List.mem_of_getElem? (i := 238) rfl) rfl
theorem wd_X8_64 : Cond.instanceMethod yX8_isIn ∈ x_T := x_t5 (List.mem_of_getElem? (i := 0) rfl) rfl
theorem wd_X8_65 : Cond.selects RX8 yX8_isIn yX8_isIn ∈ x_T := x_t0 (List.mem_of_getElem? (i := 68) rfl) rfl
theorem wd_X8_66 : Cond.methodLink RX8 137 yX8_none ∈ x_T := x_t4 (List.mem_of_getElem? (i := 204) rfl) rfl
theorem wd_X8_67 : Cond.instanceMethod yX8_none ∈ x_T := x_t4 (List.mem_of_getElem? (i := 206) rfl) rfl
theorem wd_X8_68 : Cond.selects RX8 yX8_none yX8_none ∈ x_T := x_t0 (List.mem_of_getElem? (i := 61) rfl) rfl
theorem wd_X8_69 : Cond.methodLink RX8 140 yX8_takes ∈ x_T := x_t5 (List.mem_of_getElem? (i := 6) rfl) rfl
theorem wd_X8_70 : Cond.instanceMethod yX8_takes ∈ x_T := x_t5 (List.mem_of_getElem? (i := 8) rfl) rfl
theorem wd_X8_71 : Cond.selects RX8 yX8_takes yX8_takes ∈ x_T := x_t0 (List.mem_of_getElem? (i := 70) rfl) rfl
theorem wd_X8_72 : Cond.methodLink RX8 144 yX8_common ∈ x_T := x_t4 (List.mem_of_getElem? (i := 234) rfl) rfl
theorem wd_X8_73 : Cond.instanceMethod yX8_common ∈ x_T := x_t4 (List.mem_of_getElem? (i := 236) rfl) rfl
theorem wd_X8_74 : Cond.selects RX8 yX8_common yX8_common ∈ x_T := x_t0 (List.mem_of_getElem? (i := 67) rfl) rfl
theorem wd_X8_75 : Cond.methodLink RX8 148 yX8_crosses ∈ x_T := x_t5 (List.mem_of_getElem? (i := 2) rfl) rfl
theorem wd_X8_76 : Cond.instanceMethod yX8_crosses ∈ x_T := x_t5 (List.mem_of_getElem? (i := 4) rfl) rfl
theorem wd_X8_77 : Cond.selects RX8 yX8_crosses yX8_crosses ∈ x_T := x_t0 (List.mem_of_getElem? (i := 69) rfl) rfl
theorem wd_X8_78 : Cond.methodLink RX8 152 yX8_first ∈ x_T := x_t5 (List.mem_of_getElem? (i := 18) rfl) rfl
theorem wd_X8_79 : Cond.instanceMethod yX8_first ∈ x_T := x_t5 (List.mem_of_getElem? (i := 20) rfl) rfl
theorem wd_X8_80 : Cond.selects RX8 yX8_first yX8_first ∈ x_T := x_t0 (List.mem_of_getElem? (i := 73) rfl) rfl
theorem wd_X8_81 : Cond.methodLink RX8 156 yX8_isPicked ∈ x_T := x_t5 (List.mem_of_getElem? (i := 22) rfl) rfl
theorem wd_X8_82 : Cond.instanceMethod yX8_isPicked ∈ x_T := x_t5 (List.mem_of_getElem? (i := 24) rfl) rfl
theorem wd_X8_83 : Cond.selects RX8 yX8_isPicked yX8_isPicked ∈ x_T := x_t0 (List.mem_of_getElem? (i := 74) rfl) rfl
theorem wd_X8_84 : Cond.methodLink RX8 159 yX8_next ∈ x_T := x_t5 (List.mem_of_getElem? (i := 26) rfl) rfl
theorem wd_X8_85 : Cond.instanceMethod yX8_next ∈ x_T := x_t5 (List.mem_of_getElem? (i := 28) rfl) rfl
theorem wd_X8_86 : Cond.selects RX8 yX8_next yX8_next ∈ x_T := x_t0 (List.mem_of_getElem? (i := 75) rfl) rfl
theorem wd_X8_87 : Cond.methodLink RX8 162 yX8_isOpenIn ∈ x_T := x_t5 (List.mem_of_getElem? (i := 34) rfl) rfl
theorem wd_X8_88 : Cond.instanceMethod yX8_isOpenIn ∈ x_T := x_t5 (List.mem_of_getElem? (i := 36) rfl) rfl
theorem wd_X8_89 : Cond.selects RX8 yX8_isOpenIn yX8_isOpenIn ∈ x_T := x_t0 (List.mem_of_getElem? (i := 77) rfl) rfl
theorem wd_X8_90 : Cond.methodLink RX8 165 yX8_isWing ∈ x_T := x_t5 (List.mem_of_getElem? (i := 46) rfl) rfl
theorem wd_X8_91 : Cond.instanceMethod yX8_isWing ∈ x_T := x_t5 (List.mem_of_getElem? (i := 48) rfl) rfl
theorem wd_X8_92 : Cond.selects RX8 yX8_isWing yX8_isWing ∈ x_T := x_t0 (List.mem_of_getElem? (i := 80) rfl) rfl
theorem wd_X8_93 : Cond.methodLink RX8 169 yX8_isLinked ∈ x_T := x_t5 (List.mem_of_getElem? (i := 58) rfl) rfl
theorem wd_X8_94 : Cond.instanceMethod yX8_isLinked ∈ x_T := x_t5 (List.mem_of_getElem? (i := 60) rfl) rfl
theorem wd_X8_95 : Cond.selects RX8 yX8_isLinked yX8_isLinked ∈ x_T := x_t0 (List.mem_of_getElem? (i := 83) rfl) rfl
theorem wd_X8_96 : Cond.methodLink RX8 172 yX8_colour ∈ x_T := x_t5 (List.mem_of_getElem? (i := 54) rfl) rfl
theorem wd_X8_97 : Cond.instanceMethod yX8_colour ∈ x_T := x_t5 (List.mem_of_getElem? (i := 56) rfl) rfl
theorem wd_X8_98 : Cond.selects RX8 yX8_colour yX8_colour ∈ x_T := x_t0 (List.mem_of_getElem? (i := 82) rfl) rfl
theorem wd_X8_99 : Cond.methodLink RX8 175 yX8_clash ∈ x_T := x_t5 (List.mem_of_getElem? (i := 62) rfl) rfl
theorem wd_X8_100 : Cond.instanceMethod yX8_clash ∈ x_T := x_t5 (List.mem_of_getElem? (i := 64) rfl) rfl
theorem wd_X8_101 : Cond.selects RX8 yX8_clash yX8_clash ∈ x_T := x_t0 (List.mem_of_getElem? (i := 84) rfl) rfl
theorem wd_X8_102 : Cond.methodLink RX8 179 yX8_seesOne ∈ x_T := x_t5 (List.mem_of_getElem? (i := 66) rfl) rfl
theorem wd_X8_103 : Cond.instanceMethod yX8_seesOne ∈ x_T := x_t5 (List.mem_of_getElem? (i := 68) rfl) rfl
theorem wd_X8_104 : Cond.selects RX8 yX8_seesOne yX8_seesOne ∈ x_T := x_t0 (List.mem_of_getElem? (i := 85) rfl) rfl
theorem wd_X8_105 : Cond.methodLink RX8 182 yX8_corners ∈ x_T := x_t5 (List.mem_of_getElem? (i := 74) rfl) rfl
theorem wd_X8_106 : Cond.instanceMethod yX8_corners ∈ x_T := x_t5 (List.mem_of_getElem? (i := 76) rfl) rfl
theorem wd_X8_107 : Cond.selects RX8 yX8_corners yX8_corners ∈ x_T := x_t0 (List.mem_of_getElem? (i := 87) rfl) rfl
theorem wd_X8_108 : Cond.methodLink RX8 186 yX8_last ∈ x_T := x_t4 (List.mem_of_getElem? (i := 208) rfl) rfl
theorem wd_X8_109 : Cond.instanceMethod yX8_last ∈ x_T := x_t4 (List.mem_of_getElem? (i := 210) rfl) rfl
theorem wd_X8_110 : Cond.selects RX8 yX8_last yX8_last ∈ x_T := x_t0 (List.mem_of_getElem? (i := 62) rfl) rfl
theorem wd_X8_111 : Cond.methodLink RX8 189 yX8_only ∈ x_T := x_t4 (List.mem_of_getElem? (i := 226) rfl) rfl
theorem wd_X8_112 : Cond.instanceMethod yX8_only ∈ x_T := x_t4 (List.mem_of_getElem? (i := 228) rfl) rfl
theorem wd_X8_113 : Cond.selects RX8 yX8_only yX8_only ∈ x_T := x_t0 (List.mem_of_getElem? (i := 65) rfl) rfl
theorem wd_X8_114 : Cond.methodLink RX8 192 yX8_pointing ∈ x_T := x_t4 (List.mem_of_getElem? (i := 230) rfl) rfl
theorem wd_X8_115 : Cond.instanceMethod yX8_pointing ∈ x_T := x_t4 (List.mem_of_getElem? (i := 232) rfl) rfl
theorem wd_X8_116 : Cond.selects RX8 yX8_pointing yX8_pointing ∈ x_T := x_t0 (List.mem_of_getElem? (i := 66) rfl) rfl
theorem wd_X8_117 : Cond.methodLink RX8 195 yX8_claiming ∈ x_T := x_t5 (List.mem_of_getElem? (i := 10) rfl) rfl
theorem wd_X8_118 : Cond.instanceMethod yX8_claiming ∈ x_T := x_t5 (List.mem_of_getElem? (i := 12) rfl) rfl
theorem wd_X8_119 : Cond.selects RX8 yX8_claiming yX8_claiming ∈ x_T := x_t0 (List.mem_of_getElem? (i := 71) rfl) rfl
theorem wd_X8_120 : Cond.methodLink RX8 198 yX8_naked ∈ x_T := x_t5 (List.mem_of_getElem? (i := 14) rfl) rfl
theorem wd_X8_121 : Cond.instanceMethod yX8_naked ∈ x_T := x_t5 (List.mem_of_getElem? (i := 16) rfl) rfl
theorem wd_X8_122 : Cond.selects RX8 yX8_naked yX8_naked ∈ x_T := x_t0 (List.mem_of_getElem? (i := 72) rfl) rfl
theorem wd_X8_123 : Cond.methodLink RX8 201 yX8_hidden ∈ x_T := x_t5 (List.mem_of_getElem? (i := 30) rfl) rfl
theorem wd_X8_124 : Cond.instanceMethod yX8_hidden ∈ x_T := x_t5 (List.mem_of_getElem? (i := 32) rfl) rfl
theorem wd_X8_125 : Cond.selects RX8 yX8_hidden yX8_hidden ∈ x_T := x_t0 (List.mem_of_getElem? (i := 76) rfl) rfl
theorem wd_X8_126 : Cond.methodLink RX8 204 yX8_fish ∈ x_T := x_t5 (List.mem_of_getElem? (i := 38) rfl) rfl
theorem wd_X8_127 : Cond.instanceMethod yX8_fish ∈ x_T := x_t5 (List.mem_of_getElem? (i := 40) rfl) rfl
theorem wd_X8_128 : Cond.selects RX8 yX8_fish yX8_fish ∈ x_T := x_t0 (List.mem_of_getElem? (i := 78) rfl) rfl
theorem wd_X8_129 : Cond.methodLink RX8 207 yX8_wing ∈ x_T := x_t5 (List.mem_of_getElem? (i := 42) rfl) rfl
theorem wd_X8_130 : Cond.instanceMethod yX8_wing ∈ x_T := x_t5 (List.mem_of_getElem? (i := 44) rfl) rfl
theorem wd_X8_131 : Cond.selects RX8 yX8_wing yX8_wing ∈ x_T := x_t0 (List.mem_of_getElem? (i := 79) rfl) rfl
theorem wd_X8_132 : Cond.methodLink RX8 210 yX8_colours ∈ x_T := x_t5 (List.mem_of_getElem? (i := 50) rfl) rfl
theorem wd_X8_133 : Cond.instanceMethod yX8_colours ∈ x_T := x_t5 (List.mem_of_getElem? (i := 52) rfl) rfl
theorem wd_X8_134 : Cond.selects RX8 yX8_colours yX8_colours ∈ x_T := x_t0 (List.mem_of_getElem? (i := 81) rfl) rfl
theorem wd_X8_135 : Cond.methodLink RX8 213 yX8_rectangle ∈ x_T := x_t5 (List.mem_of_getElem? (i := 70) rfl) rfl
theorem wd_X8_136 : Cond.instanceMethod yX8_rectangle ∈ x_T := x_t5 (List.mem_of_getElem? (i := 72) rfl) rfl
theorem wd_X8_137 : Cond.selects RX8 yX8_rectangle yX8_rectangle ∈ x_T := x_t0 (List.mem_of_getElem? (i := 86) rfl) rfl
theorem wd_X8_138 : Cond.methodLink RX8 216 yX8_isBroken ∈ x_T := x_t4 (List.mem_of_getElem? (i := 188) rfl) rfl
theorem wd_X8_139 : Cond.instanceMethod yX8_isBroken ∈ x_T := x_t4 (List.mem_of_getElem? (i := 190) rfl) rfl
theorem wd_X8_140 : Cond.selects RX8 yX8_isBroken yX8_isBroken ∈ x_T := x_t0 (List.mem_of_getElem? (i := 57) rfl) rfl
theorem wd_X8_141 : Cond.methodLink RX8 219 yX8_look ∈ x_T := x_t4 (List.mem_of_getElem? (i := 200) rfl) rfl
theorem wd_X8_142 : Cond.instanceMethod yX8_look ∈ x_T := x_t4 (List.mem_of_getElem? (i := 202) rfl) rfl
theorem wd_X8_143 : Cond.selects RX8 yX8_look yX8_look ∈ x_T := x_t0 (List.mem_of_getElem? (i := 60) rfl) rfl
theorem wd_X8_144 : Cond.methodLink RX8 222 yX8_search ∈ x_T := x_t4 (List.mem_of_getElem? (i := 184) rfl) rfl
theorem wd_X8_145 : Cond.instanceMethod yX8_search ∈ x_T := x_t4 (List.mem_of_getElem? (i := 186) rfl) rfl
theorem wd_X8_146 : Cond.selects RX8 yX8_search yX8_search ∈ x_T := x_t0 (List.mem_of_getElem? (i := 56) rfl) rfl
theorem wd_X8_147 : Cond.methodLink RX8 225 yX8_reasonMany ∈ x_T := x_t5 (List.mem_of_getElem? (i := 82) rfl) rfl
theorem wd_X8_148 : Cond.instanceMethod yX8_reasonMany ∈ x_T := x_t5 (List.mem_of_getElem? (i := 84) rfl) rfl
theorem wd_X8_149 : Cond.selects RX8 yX8_reasonMany yX8_reasonMany ∈ x_T := x_t0 (List.mem_of_getElem? (i := 88) rfl) rfl
theorem wd_X8_150 : Cond.methodLink RX8 228 yX8_goMany ∈ x_T := x_t5 (List.mem_of_getElem? (i := 86) rfl) rfl
theorem wd_X8_151 : Cond.instanceMethod yX8_goMany ∈ x_T := x_t5 (List.mem_of_getElem? (i := 88) rfl) rfl
theorem wd_X8_152 : Cond.selects RX8 yX8_goMany yX8_goMany ∈ x_T := x_t0 (List.mem_of_getElem? (i := 89) rfl) rfl
theorem wd_X8_153 : Cond.methodLink RX8 231 yX8_reasonAt ∈ x_T := x_t5 (List.mem_of_getElem? (i := 94) rfl) rfl
theorem wd_X8_154 : Cond.instanceMethod yX8_reasonAt ∈ x_T := x_t5 (List.mem_of_getElem? (i := 96) rfl) rfl
theorem wd_X8_155 : Cond.selects RX8 yX8_reasonAt yX8_reasonAt ∈ x_T := x_t0 (List.mem_of_getElem? (i := 90) rfl) rfl
theorem wd_X8_156 : Cond.methodLink RX8 234 yX8_act ∈ x_T := x_t5 (List.mem_of_getElem? (i := 106) rfl) rfl
theorem wd_X8_157 : Cond.instanceMethod yX8_act ∈ x_T := x_t5 (List.mem_of_getElem? (i := 108) rfl) rfl
theorem wd_X8_158 : Cond.selects RX8 yX8_act yX8_act ∈ x_T := x_t0 (List.mem_of_getElem? (i := 91) rfl) rfl
theorem wd_X8_159 : Cond.methodLink RX8 125 yX8_countOf ∈ x_T := x_t4 (List.mem_of_getElem? (i := 212) rfl) rfl
theorem wd_X8_160 : Cond.static yX8_countOf ∈ x_T := x_t4 (List.mem_of_getElem? (i := 213) rfl) rfl
theorem wd_X8_161 : Cond.methodLink RX8 128 yX8_lowest ∈ x_T := x_t4 (List.mem_of_getElem? (i := 215) rfl) rfl
theorem wd_X8_162 : Cond.static yX8_lowest ∈ x_T := x_t4 (List.mem_of_getElem? (i := 216) rfl) rfl
theorem wd_X8_163 : Cond.methodLink RX8 345 yX8_part ∈ x_T := x_t5 (List.mem_of_getElem? (i := 141) rfl) rfl
theorem wd_X8_164 : Cond.static yX8_part ∈ x_T := x_t5 (List.mem_of_getElem? (i := 142) rfl) rfl
theorem wd_X8_165 : Cond.methodLink RX8 349 yX8_nameByte ∈ x_T := x_t5 (List.mem_of_getElem? (i := 138) rfl) rfl
theorem wd_X8_166 : Cond.static yX8_nameByte ∈ x_T := x_t5 (List.mem_of_getElem? (i := 139) rfl) rfl
theorem wd_X8_167 : Cond.constant RX8 39 (66420) ∈ x_T := x_t4 (List.mem_of_getElem? (i := 57) rfl) rfl
theorem wd_X8_168 : Cond.constantLong RX8 237 (7809650170890551296) ∈ x_T := x_t5 (List.mem_of_getElem? (i := 144) rfl) rfl
theorem wd_X8_169 : Cond.constantLong RX8 239 (7597045228569624576) ∈ x_T := x_t5 (List.mem_of_getElem? (i := 145) rfl) rfl
theorem wd_X8_170 : Cond.constantLong RX8 241 (7597045297289035776) ∈ x_T := x_t5 (List.mem_of_getElem? (i := 146) rfl) rfl
theorem wd_X8_171 : Cond.constantLong RX8 243 (7597045232863835501) ∈ x_T := x_t5 (List.mem_of_getElem? (i := 147) rfl) rfl
theorem wd_X8_172 : Cond.constantLong RX8 245 (7926335344172072960) ∈ x_T := x_t5 (List.mem_of_getElem? (i := 148) rfl) rfl
theorem wd_X8_173 : Cond.constantLong RX8 247 (8101810177783197287) ∈ x_T := x_t5 (List.mem_of_getElem? (i := 149) rfl) rfl
theorem wd_X8_174 : Cond.constantLong RX8 249 (7164208212674702951) ∈ x_T := x_t5 (List.mem_of_getElem? (i := 150) rfl) rfl
theorem wd_X8_175 : Cond.constantLong RX8 251 (8097869543336050688) ∈ x_T := x_t5 (List.mem_of_getElem? (i := 151) rfl) rfl
theorem wd_X8_176 : Cond.constantLong RX8 253 (8390884987320467456) ∈ x_T := x_t5 (List.mem_of_getElem? (i := 152) rfl) rfl
theorem wd_X8_177 : Cond.constantLong RX8 255 (8175547780685627392) ∈ x_T := x_t5 (List.mem_of_getElem? (i := 153) rfl) rfl
theorem wd_X8_178 : Cond.constantLong RX8 257 (7523655034860347504) ∈ x_T := x_t5 (List.mem_of_getElem? (i := 154) rfl) rfl
theorem wd_X8_179 : Cond.constantLong RX8 259 (7019266838559195136) ∈ x_T := x_t5 (List.mem_of_getElem? (i := 155) rfl) rfl
theorem wd_X8_180 : Cond.constantLong RX8 261 (7523655034860347508) ∈ x_T := x_t5 (List.mem_of_getElem? (i := 156) rfl) rfl
theorem wd_X8_181 : Cond.constantLong RX8 263 (8244244203731681280) ∈ x_T := x_t5 (List.mem_of_getElem? (i := 157) rfl) rfl
theorem wd_X8_182 : Cond.constantLong RX8 265 (8392298615777752947) ∈ x_T := x_t5 (List.mem_of_getElem? (i := 158) rfl) rfl
theorem wd_X8_183 : Cond.constantLong RX8 267 (8392298615526091893) ∈ x_T := x_t5 (List.mem_of_getElem? (i := 159) rfl) rfl
theorem wd_X8_184 : Cond.constantLong RX8 269 (7885366441409511424) ∈ x_T := x_t5 (List.mem_of_getElem? (i := 160) rfl) rfl
theorem wd_X8_185 : Cond.constantLong RX8 271 (8388080085791437423) ∈ x_T := x_t5 (List.mem_of_getElem? (i := 161) rfl) rfl
theorem wd_X8_186 : Cond.constantLong RX8 273 (8607223312835149824) ∈ x_T := x_t5 (List.mem_of_getElem? (i := 162) rfl) rfl
theorem wd_X8_187 : Cond.constantLong RX8 275 (8388080085791433583) ∈ x_T := x_t5 (List.mem_of_getElem? (i := 163) rfl) rfl
theorem wd_X8_188 : Cond.constantLong RX8 277 (7815273049514573824) ∈ x_T := x_t5 (List.mem_of_getElem? (i := 164) rfl) rfl
theorem wd_X8_189 : Cond.constantLong RX8 279 (8604529951728730112) ∈ x_T := x_t5 (List.mem_of_getElem? (i := 165) rfl) rfl
theorem wd_X8_190 : Cond.constantLong RX8 281 (7454131802486110057) ∈ x_T := x_t5 (List.mem_of_getElem? (i := 166) rfl) rfl
theorem wd_X8_191 : Cond.constantLong RX8 283 (7955327266773270528) ∈ x_T := x_t5 (List.mem_of_getElem? (i := 167) rfl) rfl
theorem wd_X8_192 : Cond.constantLong RX8 285 (7165064758137352960) ∈ x_T := x_t5 (List.mem_of_getElem? (i := 168) rfl) rfl
theorem wd_X8_193 : Cond.constantLong RX8 287 (8029474453139189349) ∈ x_T := x_t5 (List.mem_of_getElem? (i := 169) rfl) rfl
theorem wd_X8_194 : Cond.constantLong RX8 289 (2333267524158059008) ∈ x_T := x_t5 (List.mem_of_getElem? (i := 170) rfl) rfl
theorem wd_X8_195 : Cond.constantLong RX8 291 (7810777198031601664) ∈ x_T := x_t5 (List.mem_of_getElem? (i := 171) rfl) rfl
theorem wd_X8_196 : Cond.constantLong RX8 293 (7596763616103064427) ∈ x_T := x_t5 (List.mem_of_getElem? (i := 172) rfl) rfl
theorem wd_X8_197 : Cond.constantLong RX8 295 (7597045236991402074) ∈ x_T := x_t5 (List.mem_of_getElem? (i := 173) rfl) rfl
theorem wd_X8_198 : Cond.constantLong RX8 297 (7307491051432837120) ∈ x_T := x_t5 (List.mem_of_getElem? (i := 174) rfl) rfl
theorem wd_X8_199 : Cond.constantLong RX8 299 (7597045236991402067) ∈ x_T := x_t5 (List.mem_of_getElem? (i := 175) rfl) rfl
theorem wd_X8_200 : Cond.constantLong RX8 301 (8097872852155367424) ∈ x_T := x_t5 (List.mem_of_getElem? (i := 176) rfl) rfl
theorem wd_X8_201 : Cond.constantLong RX8 303 (8819571338079265792) ∈ x_T := x_t5 (List.mem_of_getElem? (i := 177) rfl) rfl
theorem wd_X8_202 : Cond.constantLong RX8 305 (7381244089807826532) ∈ x_T := x_t5 (List.mem_of_getElem? (i := 178) rfl) rfl
theorem wd_X8_203 : Cond.constantLong RX8 307 (5792017738029334528) ∈ x_T := x_t5 (List.mem_of_getElem? (i := 179) rfl) rfl
theorem wd_X8_204 : Cond.constantLong RX8 309 (6085041977989791744) ∈ x_T := x_t5 (List.mem_of_getElem? (i := 180) rfl) rfl
theorem wd_X8_205 : Cond.constantLong RX8 311 (5869704833554281588) ∈ x_T := x_t5 (List.mem_of_getElem? (i := 181) rfl) rfl
theorem wd_X8_206 : Cond.constantLong RX8 313 (8531350909322879851) ∈ x_T := x_t5 (List.mem_of_getElem? (i := 182) rfl) rfl
theorem wd_X8_207 : Cond.constantLong RX8 315 (8387236463672123762) ∈ x_T := x_t5 (List.mem_of_getElem? (i := 183) rfl) rfl
theorem wd_X8_208 : Cond.constantLong RX8 317 (8387236463740348784) ∈ x_T := x_t5 (List.mem_of_getElem? (i := 184) rfl) rfl
theorem wd_X8_209 : Cond.constantLong RX8 319 (7308216295315472384) ∈ x_T := x_t5 (List.mem_of_getElem? (i := 185) rfl) rfl
theorem wd_X8_210 : Cond.constantLong RX8 321 (8824633497044542825) ∈ x_T := x_t5 (List.mem_of_getElem? (i := 186) rfl) rfl
theorem wd_X8_211 : Cond.constantLong RX8 323 (7810770075023048704) ∈ x_T := x_t5 (List.mem_of_getElem? (i := 187) rfl) rfl
theorem wd_X8_212 : Cond.constantLong RX8 325 (8824633497044086881) ∈ x_T := x_t5 (List.mem_of_getElem? (i := 188) rfl) rfl
theorem wd_X8_213 : Cond.constantLong RX8 327 (7814982776515461120) ∈ x_T := x_t5 (List.mem_of_getElem? (i := 189) rfl) rfl
theorem wd_X8_214 : Cond.constantLong RX8 329 (7237959053326574953) ∈ x_T := x_t5 (List.mem_of_getElem? (i := 190) rfl) rfl
theorem wd_X8_215 : Cond.constantLong RX8 331 (7237959053326119009) ∈ x_T := x_t5 (List.mem_of_getElem? (i := 191) rfl) rfl
theorem wd_X8_216 : Cond.constantLong RX8 333 (6008761189921613669) ∈ x_T := x_t5 (List.mem_of_getElem? (i := 192) rfl) rfl
theorem wd_X8_217 : Cond.constantLong RX8 335 (7454142874899521619) ∈ x_T := x_t5 (List.mem_of_getElem? (i := 193) rfl) rfl
theorem wd_X8_218 : Cond.constantLong RX8 337 (7163106502040315136) ∈ x_T := x_t5 (List.mem_of_getElem? (i := 194) rfl) rfl
theorem wd_X8_219 : Cond.constantLong RX8 339 (5071460422329958400) ∈ x_T := x_t5 (List.mem_of_getElem? (i := 195) rfl) rfl
theorem wd_X8_220 : Cond.constantLong RX8 341 (7959393399913148005) ∈ x_T := x_t5 (List.mem_of_getElem? (i := 196) rfl) rfl
theorem wd_X8_221 : Cond.constantLong RX8 343 (2324260329198940788) ∈ x_T := x_t5 (List.mem_of_getElem? (i := 197) rfl) rfl
theorem wd_X8_222 : Cond.methodLink RX8 1 objectInit ∈ x_T := x_t4 (List.mem_of_getElem? (i := 56) rfl) rfl
theorem wd_X8_223 : Cond.code yX8_init cX8_init 3 none ∈ x_T := x_t4 (List.mem_of_getElem? (i := 55) rfl) rfl
theorem wd_X8_224 : Cond.code yX8_thrown cX8_thrown 1 (some .int) ∈ x_T := x_t4 (List.mem_of_getElem? (i := 135) rfl) rfl
theorem wd_X8_225 : Cond.code yX8_fails cX8_fails 3 (some .boolean) ∈ x_T := x_t4 (List.mem_of_getElem? (i := 147) rfl) rfl
theorem wd_X8_226 : Cond.code yX8_cells cX8_cells 1 (some .int) ∈ x_T := x_t4 (List.mem_of_getElem? (i := 61) rfl) rfl
theorem wd_X8_227 : Cond.code yX8_isCell cX8_isCell 2 (some .boolean) ∈ x_T := x_t4 (List.mem_of_getElem? (i := 143) rfl) rfl
theorem wd_X8_228 : Cond.code yX8_isSymbol cX8_isSymbol 2 (some .boolean) ∈ x_T := x_t4 (List.mem_of_getElem? (i := 151) rfl) rfl
theorem wd_X8_229 : Cond.code yX8_boxOf cX8_boxOf 2 (some .int) ∈ x_T := x_t4 (List.mem_of_getElem? (i := 167) rfl) rfl
theorem wd_X8_230 : Cond.code yX8_isIn cX8_isIn 3 (some .boolean) ∈ x_T := x_t5 (List.mem_of_getElem? (i := 1) rfl) rfl
theorem wd_X8_231 : Cond.code yX8_at cX8_at 6 (some .int) ∈ x_T := x_t4 (List.mem_of_getElem? (i := 199) rfl) rfl
theorem wd_X8_232 : Cond.code yX8_sees cX8_sees 3 (some .boolean) ∈ x_T := x_t4 (List.mem_of_getElem? (i := 163) rfl) rfl
theorem wd_X8_233 : Cond.code yX8_has cX8_has 3 (some .boolean) ∈ x_T := x_t4 (List.mem_of_getElem? (i := 155) rfl) rfl
theorem wd_X8_234 : Cond.code yX8_countOf cX8_countOf 3 (some .int) ∈ x_T := x_t4 (List.mem_of_getElem? (i := 214) rfl) rfl
theorem wd_X8_235 : Cond.code yX8_places cX8_places 5 (some .int) ∈ x_T := x_t4 (List.mem_of_getElem? (i := 195) rfl) rfl
theorem wd_X8_236 : Cond.code yX8_isBroken cX8_isBroken 3 (some .boolean) ∈ x_T := x_t4 (List.mem_of_getElem? (i := 191) rfl) rfl
theorem wd_X8_237 : Cond.code yX8_put cX8_put 4 none ∈ x_T := x_t4 (List.mem_of_getElem? (i := 159) rfl) rfl
theorem wd_X8_238 : Cond.code yX8_changed cX8_changed 1 none ∈ x_T := x_t4 (List.mem_of_getElem? (i := 171) rfl) rfl
theorem wd_X8_239 : Cond.code yX8_set cX8_set 3 (some .boolean) ∈ x_T := x_t4 (List.mem_of_getElem? (i := 139) rfl) rfl
theorem wd_X8_240 : Cond.code yX8_take cX8_take 3 (some .boolean) ∈ x_T := x_t4 (List.mem_of_getElem? (i := 175) rfl) rfl
theorem wd_X8_241 : Cond.code yX8_enable cX8_enable 3 (some .boolean) ∈ x_T := x_t4 (List.mem_of_getElem? (i := 179) rfl) rfl
theorem wd_X8_242 : Cond.code yX8_none cX8_none 2 none ∈ x_T := x_t4 (List.mem_of_getElem? (i := 207) rfl) rfl
theorem wd_X8_243 : Cond.code yX8_leaves cX8_leaves 3 none ∈ x_T := x_t4 (List.mem_of_getElem? (i := 225) rfl) rfl
theorem wd_X8_244 : Cond.code yX8_takes cX8_takes 2 (some .boolean) ∈ x_T := x_t5 (List.mem_of_getElem? (i := 9) rfl) rfl
theorem wd_X8_245 : Cond.code yX8_sets cX8_sets 4 (some .boolean) ∈ x_T := x_t4 (List.mem_of_getElem? (i := 221) rfl) rfl
theorem wd_X8_246 : Cond.code yX8_first cX8_first 3 none ∈ x_T := x_t5 (List.mem_of_getElem? (i := 21) rfl) rfl
theorem wd_X8_247 : Cond.code yX8_next cX8_next 4 (some .boolean) ∈ x_T := x_t5 (List.mem_of_getElem? (i := 29) rfl) rfl
theorem wd_X8_248 : Cond.code yX8_isPicked cX8_isPicked 4 (some .boolean) ∈ x_T := x_t5 (List.mem_of_getElem? (i := 25) rfl) rfl
theorem wd_X8_249 : Cond.code yX8_last cX8_last 2 (some .boolean) ∈ x_T := x_t4 (List.mem_of_getElem? (i := 211) rfl) rfl
theorem wd_X8_250 : Cond.code yX8_lowest cX8_lowest 2 (some .int) ∈ x_T := x_t4 (List.mem_of_getElem? (i := 217) rfl) rfl
theorem wd_X8_251 : Cond.code yX8_only cX8_only 6 (some .boolean) ∈ x_T := x_t4 (List.mem_of_getElem? (i := 229) rfl) rfl
theorem wd_X8_252 : Cond.code yX8_common cX8_common 7 (some .int) ∈ x_T := x_t4 (List.mem_of_getElem? (i := 237) rfl) rfl
theorem wd_X8_253 : Cond.code yX8_crosses cX8_crosses 5 (some .boolean) ∈ x_T := x_t5 (List.mem_of_getElem? (i := 5) rfl) rfl
theorem wd_X8_254 : Cond.code yX8_pointing cX8_pointing 4 (some .boolean) ∈ x_T := x_t4 (List.mem_of_getElem? (i := 233) rfl) rfl
theorem wd_X8_255 : Cond.code yX8_claiming cX8_claiming 4 (some .boolean) ∈ x_T := x_t5 (List.mem_of_getElem? (i := 13) rfl) rfl
theorem wd_X8_256 : Cond.code yX8_naked cX8_naked 6 (some .boolean) ∈ x_T := x_t5 (List.mem_of_getElem? (i := 17) rfl) rfl
theorem wd_X8_257 : Cond.code yX8_isOpenIn cX8_isOpenIn 4 (some .boolean) ∈ x_T := x_t5 (List.mem_of_getElem? (i := 37) rfl) rfl
theorem wd_X8_258 : Cond.code yX8_hidden cX8_hidden 7 (some .boolean) ∈ x_T := x_t5 (List.mem_of_getElem? (i := 33) rfl) rfl
theorem wd_X8_259 : Cond.code yX8_fish cX8_fish 8 (some .boolean) ∈ x_T := x_t5 (List.mem_of_getElem? (i := 41) rfl) rfl
theorem wd_X8_260 : Cond.code yX8_wing cX8_wing 5 (some .boolean) ∈ x_T := x_t5 (List.mem_of_getElem? (i := 45) rfl) rfl
theorem wd_X8_261 : Cond.code yX8_isWing cX8_isWing 8 (some .boolean) ∈ x_T := x_t5 (List.mem_of_getElem? (i := 49) rfl) rfl
theorem wd_X8_262 : Cond.code yX8_isLinked cX8_isLinked 5 (some .boolean) ∈ x_T := x_t5 (List.mem_of_getElem? (i := 61) rfl) rfl
theorem wd_X8_263 : Cond.code yX8_colour cX8_colour 8 none ∈ x_T := x_t5 (List.mem_of_getElem? (i := 57) rfl) rfl
theorem wd_X8_264 : Cond.code yX8_clash cX8_clash 4 (some .boolean) ∈ x_T := x_t5 (List.mem_of_getElem? (i := 65) rfl) rfl
theorem wd_X8_265 : Cond.code yX8_seesOne cX8_seesOne 4 (some .boolean) ∈ x_T := x_t5 (List.mem_of_getElem? (i := 69) rfl) rfl
theorem wd_X8_266 : Cond.code yX8_colours cX8_colours 9 (some .boolean) ∈ x_T := x_t5 (List.mem_of_getElem? (i := 53) rfl) rfl
theorem wd_X8_267 : Cond.code yX8_corners cX8_corners 11 (some .boolean) ∈ x_T := x_t5 (List.mem_of_getElem? (i := 77) rfl) rfl
theorem wd_X8_268 : Cond.code yX8_rectangle cX8_rectangle 5 (some .boolean) ∈ x_T := x_t5 (List.mem_of_getElem? (i := 73) rfl) rfl
theorem wd_X8_269 : Cond.code yX8_look cX8_look 2 (some .boolean) ∈ x_T := x_t4 (List.mem_of_getElem? (i := 203) rfl) rfl
theorem wd_X8_270 : Cond.code yX8_search cX8_search 2 (some .int) ∈ x_T := x_t4 (List.mem_of_getElem? (i := 187) rfl) rfl
theorem wd_X8_271 : Cond.code yX8_find cX8_find 1 (some .int) ∈ x_T := x_t4 (List.mem_of_getElem? (i := 183) rfl) rfl
theorem wd_X8_272 : Cond.code yX8_goMany cX8_goMany 3 (some .int) ∈ x_T := x_t5 (List.mem_of_getElem? (i := 89) rfl) rfl
theorem wd_X8_273 : Cond.code yX8_reasonMany cX8_reasonMany 3 (some .int) ∈ x_T := x_t5 (List.mem_of_getElem? (i := 85) rfl) rfl
theorem wd_X8_274 : Cond.code yX8_found cX8_found 2 (some .int) ∈ x_T := x_t5 (List.mem_of_getElem? (i := 81) rfl) rfl
theorem wd_X8_275 : Cond.code yX8_reasonAt cX8_reasonAt 4 (some .int) ∈ x_T := x_t5 (List.mem_of_getElem? (i := 97) rfl) rfl
theorem wd_X8_276 : Cond.code yX8_reason cX8_reason 2 (some .int) ∈ x_T := x_t5 (List.mem_of_getElem? (i := 93) rfl) rfl
theorem wd_X8_277 : Cond.code yX8_goes cX8_goes 5 (some .int) ∈ x_T := x_t5 (List.mem_of_getElem? (i := 101) rfl) rfl
theorem wd_X8_278 : Cond.code yX8_act cX8_act 2 none ∈ x_T := x_t5 (List.mem_of_getElem? (i := 109) rfl) rfl
theorem wd_X8_279 : Cond.code yX8_apply cX8_apply 1 (some .boolean) ∈ x_T := x_t5 (List.mem_of_getElem? (i := 105) rfl) rfl
theorem wd_X8_280 : Cond.code yX8_solve cX8_solve 3 (some .int) ∈ x_T := x_t5 (List.mem_of_getElem? (i := 113) rfl) rfl
theorem wd_X8_281 : Cond.code yX8_undo cX8_undo 2 (some .int) ∈ x_T := x_t5 (List.mem_of_getElem? (i := 117) rfl) rfl
theorem wd_X8_282 : Cond.code yX8_done cX8_done 2 (some .int) ∈ x_T := x_t5 (List.mem_of_getElem? (i := 121) rfl) rfl
theorem wd_X8_283 : Cond.code yX8_candidates cX8_candidates 2 (some .int) ∈ x_T := x_t5 (List.mem_of_getElem? (i := 125) rfl) rfl
theorem wd_X8_284 : Cond.code yX8_value cX8_value 2 (some .int) ∈ x_T := x_t5 (List.mem_of_getElem? (i := 129) rfl) rfl
theorem wd_X8_285 : Cond.code yX8_state cX8_state 6 (some .int) ∈ x_T := x_t5 (List.mem_of_getElem? (i := 133) rfl) rfl
theorem wd_X8_286 : Cond.code yX8_part cX8_part 1 (some .long) ∈ x_T := x_t5 (List.mem_of_getElem? (i := 143) rfl) rfl
theorem wd_X8_287 : Cond.code yX8_nameByte cX8_nameByte 3 (some .int) ∈ x_T := x_t5 (List.mem_of_getElem? (i := 140) rfl) rfl
theorem wd_X8_288 : Cond.code yX8_words cX8_words 6 (some .int) ∈ x_T := x_t5 (List.mem_of_getElem? (i := 137) rfl) rfl
theorem wd_X2_0 : Cond.fieldLink RX2 9 (TX2 0).1 (TX2 0).2.1 (TX2 0).2.2.1 ∈ x_T := x_t1 (List.mem_of_getElem? (i := 58) rfl) rfl
theorem wd_X2_1 : Cond.fieldLink RX2 15 (TX2 1).1 (TX2 1).2.1 (TX2 1).2.2.1 ∈ x_T := x_t1 (List.mem_of_getElem? (i := 62) rfl) rfl
theorem wd_X2_2 : Cond.fieldLink RX2 18 (TX2 2).1 (TX2 2).2.1 (TX2 2).2.2.1 ∈ x_T := x_t1 (List.mem_of_getElem? (i := 64) rfl) rfl
theorem wd_X2_3 : Cond.fieldLink RX2 21 (TX2 3).1 (TX2 3).2.1 (TX2 3).2.2.1 ∈ x_T := x_t1 (List.mem_of_getElem? (i := 66) rfl) rfl
theorem wd_X2_4 : Cond.fieldLink RX2 25 (TX2 4).1 (TX2 4).2.1 (TX2 4).2.2.1 ∈ x_T := x_t1 (List.mem_of_getElem? (i := 70) rfl) rfl
theorem wd_X2_5 : Cond.fieldLink RX2 28 (TX2 5).1 (TX2 5).2.1 (TX2 5).2.2.1 ∈ x_T := x_t1 (List.mem_of_getElem? (i := 73) rfl) rfl
theorem wd_X2_6 : Cond.fieldLink RX2 31 (TX2 6).1 (TX2 6).2.1 (TX2 6).2.2.1 ∈ x_T := x_t1 (List.mem_of_getElem? (i := 74) rfl) rfl
theorem wd_X2_7 : Cond.fieldLink RX2 34 (TX2 7).1 (TX2 7).2.1 (TX2 7).2.2.1 ∈ x_T := x_t1 (List.mem_of_getElem? (i := 75) rfl) rfl
theorem wd_X2_8 : Cond.fieldLink RX2 37 (TX2 8).1 (TX2 8).2.1 (TX2 8).2.2.1 ∈ x_T := x_t1 (List.mem_of_getElem? (i := 76) rfl) rfl
theorem wd_X2_9 : Cond.methodLink RX2 40 yX2_layLines ∈ x_T := x_t1 (List.mem_of_getElem? (i := 41) rfl) rfl
theorem wd_X2_10 : Cond.instanceMethod yX2_layLines ∈ x_T := x_t1 (List.mem_of_getElem? (i := 43) rfl) rfl
theorem wd_X2_11 : Cond.selects RX2 yX2_layLines yX2_layLines ∈ x_T := x_t0 (List.mem_of_getElem? (i := 0) rfl) rfl
theorem wd_X2_12 : Cond.initialized RX2 ∈ x_T := x_t1 (List.mem_of_getElem? (i := 3) rfl) rfl
theorem wd_X2_13 : Cond.methodLink RX2 43 yX2_layBoxes ∈ x_T := x_t1 (List.mem_of_getElem? (i := 49) rfl) rfl
theorem wd_X2_14 : Cond.instanceMethod yX2_layBoxes ∈ x_T := x_t1 (List.mem_of_getElem? (i := 51) rfl) rfl
theorem wd_X2_15 : Cond.selects RX2 yX2_layBoxes yX2_layBoxes ∈ x_T := x_t0 (List.mem_of_getElem? (i := 2) rfl) rfl
theorem wd_X2_16 : Cond.methodLink RX2 47 yX2_fill ∈ x_T := x_t1 (List.mem_of_getElem? (i := 53) rfl) rfl
theorem wd_X2_17 : Cond.instanceMethod yX2_fill ∈ x_T := x_t1 (List.mem_of_getElem? (i := 55) rfl) rfl
theorem wd_X2_18 : Cond.selects RX2 yX2_fill yX2_fill ∈ x_T := x_t0 (List.mem_of_getElem? (i := 3) rfl) rfl
theorem wd_X2_19 : Cond.methodLink RX2 50 yX2_lay ∈ x_T := x_t1 (List.mem_of_getElem? (i := 45) rfl) rfl
theorem wd_X2_20 : Cond.instanceMethod yX2_lay ∈ x_T := x_t1 (List.mem_of_getElem? (i := 47) rfl) rfl
theorem wd_X2_21 : Cond.selects RX2 yX2_lay yX2_lay ∈ x_T := x_t0 (List.mem_of_getElem? (i := 1) rfl) rfl
theorem wd_X2_22 : Cond.methodLink RX2 54 yX2_house ∈ x_T := x_t2 (List.mem_of_getElem? (i := 92) rfl) rfl
theorem wd_X2_23 : Cond.instanceMethod yX2_house ∈ x_T := x_t2 (List.mem_of_getElem? (i := 85) rfl) rfl
theorem wd_X2_24 : Cond.selects RX2 yX2_house yX2_house ∈ x_T := x_t2 (List.mem_of_getElem? (i := 86) rfl) rfl
theorem wd_X2_25 : Cond.methodLink RX2 58 yX2_isOpen ∈ x_T := x_t3 (List.mem_of_getElem? (i := 53) rfl) rfl
theorem wd_X2_26 : Cond.instanceMethod yX2_isOpen ∈ x_T := x_t2 (List.mem_of_getElem? (i := 23) rfl) rfl
theorem wd_X2_27 : Cond.selects RX2 yX2_isOpen yX2_isOpen ∈ x_T := x_t2 (List.mem_of_getElem? (i := 24) rfl) rfl
theorem wd_X2_28 : Cond.methodLink RX2 62 yJ6_bitCount_0f7a4 ∈ x_T := x_t3 (List.mem_of_getElem? (i := 58) rfl) rfl
theorem wd_X2_29 : Cond.static yJ6_bitCount_0f7a4 ∈ x_T := x_t2 (List.mem_of_getElem? (i := 27) rfl) rfl
theorem wd_X2_30 : Cond.initialized RJ6 ∈ x_T := x_t1 (List.mem_of_getElem? (i := 15) rfl) rfl
theorem wd_X2_31 : Cond.methodLink RX2 3 objectInit ∈ x_T := x_t1 (List.mem_of_getElem? (i := 40) rfl) rfl
theorem wd_X2_32 : Cond.code yX2_init cX2_init 4 none ∈ x_T := x_t1 (List.mem_of_getElem? (i := 39) rfl) rfl
theorem wd_X2_33 : Cond.code yX2_layLines cX2_layLines 3 none ∈ x_T := x_t1 (List.mem_of_getElem? (i := 44) rfl) rfl
theorem wd_X2_34 : Cond.code yX2_layBoxes cX2_layBoxes 9 none ∈ x_T := x_t1 (List.mem_of_getElem? (i := 52) rfl) rfl
theorem wd_X2_35 : Cond.code yX2_lay cX2_lay 6 none ∈ x_T := x_t1 (List.mem_of_getElem? (i := 48) rfl) rfl
theorem wd_X2_36 : Cond.code yX2_fill cX2_fill 3 none ∈ x_T := x_t1 (List.mem_of_getElem? (i := 56) rfl) rfl
theorem wd_X2_37 : Cond.code yX2_cell cX2_cell 3 (some .int) ∈ x_T := x_t2 (List.mem_of_getElem? (i := 67) rfl) rfl
theorem wd_X2_38 : Cond.code yX2_house cX2_house 3 (some .int) ∈ x_T := x_t2 (List.mem_of_getElem? (i := 87) rfl) rfl
theorem wd_X2_39 : Cond.code yX2_rowOf cX2_rowOf 2 (some .int) ∈ x_T := x_t3 (List.mem_of_getElem? (i := 124) rfl) rfl
theorem wd_X2_40 : Cond.code yX2_columnOf cX2_columnOf 2 (some .int) ∈ x_T := x_t3 (List.mem_of_getElem? (i := 128) rfl) rfl
theorem wd_X2_41 : Cond.code yX2_places cX2_places 3 (some .int) ∈ x_T := x_t2 (List.mem_of_getElem? (i := 59) rfl) rfl
theorem wd_X2_42 : Cond.code yX2_isOpen cX2_isOpen 2 (some .boolean) ∈ x_T := x_t2 (List.mem_of_getElem? (i := 25) rfl) rfl
theorem wd_X2_43 : Cond.code yX2_isIn cX2_isIn 3 (some .boolean) ∈ x_T := x_t2 (List.mem_of_getElem? (i := 91) rfl) rfl
theorem wd_X2_44 : Cond.code yX2_see cX2_see 5 (some .boolean) ∈ x_T := x_t2 (List.mem_of_getElem? (i := 47) rfl) rfl
theorem wd_X2_45 : Cond.code yX2_drop cX2_drop 4 none ∈ x_T := x_t3 (List.mem_of_getElem? (i := 12) rfl) rfl
theorem wd_X2_46 : Cond.code yX2_giveBack cX2_giveBack 4 none ∈ x_T := x_t3 (List.mem_of_getElem? (i := 44) rfl) rfl
theorem wd_X2_47 : Cond.code yX2_isBroken cX2_isBroken 2 (some .boolean) ∈ x_T := x_t2 (List.mem_of_getElem? (i := 13) rfl) rfl
theorem wd_X2_48 : Cond.code yX2_openCells cX2_openCells 3 (some .int) ∈ x_T := x_t3 (List.mem_of_getElem? (i := 52) rfl) rfl
theorem wd_X2_49 : Cond.code yX2_openCandidates cX2_openCandidates 3 (some .int) ∈ x_T := x_t3 (List.mem_of_getElem? (i := 57) rfl) rfl
theorem wd_X1_0 : Cond.fieldLink RX1 9 (TX1 0).1 (TX1 0).2.1 (TX1 0).2.2.1 ∈ x_T := x_t1 (List.mem_of_getElem? (i := 103) rfl) rfl
theorem wd_X1_1 : Cond.fieldLink RX1 15 (TX1 1).1 (TX1 1).2.1 (TX1 1).2.2.1 ∈ x_T := x_t1 (List.mem_of_getElem? (i := 105) rfl) rfl
theorem wd_X1_2 : Cond.fieldLink RX1 18 (TX1 2).1 (TX1 2).2.1 (TX1 2).2.2.1 ∈ x_T := x_t1 (List.mem_of_getElem? (i := 107) rfl) rfl
theorem wd_X1_3 : Cond.fieldLink RX1 22 (TX1 3).1 (TX1 3).2.1 (TX1 3).2.2.1 ∈ x_T := x_t1 (List.mem_of_getElem? (i := 109) rfl) rfl
theorem wd_X1_4 : Cond.fieldLink RX1 25 (TX1 4).1 (TX1 4).2.1 (TX1 4).2.2.1 ∈ x_T := x_t1 (List.mem_of_getElem? (i := 112) rfl) rfl
theorem wd_X1_5 : Cond.fieldLink RX1 28 (TX1 5).1 (TX1 5).2.1 (TX1 5).2.2.1 ∈ x_T := x_t1 (List.mem_of_getElem? (i := 115) rfl) rfl
theorem wd_X1_6 : Cond.fieldLink RX1 31 (TX1 6).1 (TX1 6).2.1 (TX1 6).2.2.1 ∈ x_T := x_t1 (List.mem_of_getElem? (i := 119) rfl) rfl
theorem wd_X1_7 : Cond.methodLink RX1 34 yJ6_bitCount_0f7a4 ∈ x_T := x_t2 (List.mem_of_getElem? (i := 43) rfl) rfl
theorem wd_X1_8 : Cond.static yJ6_bitCount_0f7a4 ∈ x_T := x_t2 (List.mem_of_getElem? (i := 27) rfl) rfl
theorem wd_X1_9 : Cond.initialized RJ6 ∈ x_T := x_t1 (List.mem_of_getElem? (i := 15) rfl) rfl
theorem wd_X1_10 : Cond.methodLink RX1 40 yX1_nthBit ∈ x_T := x_t2 (List.mem_of_getElem? (i := 233) rfl) rfl
theorem wd_X1_11 : Cond.static yX1_nthBit ∈ x_T := x_t2 (List.mem_of_getElem? (i := 234) rfl) rfl
theorem wd_X1_12 : Cond.initialized RX1 ∈ x_T := x_t1 (List.mem_of_getElem? (i := 4) rfl) rfl
theorem wd_X1_13 : Cond.static yX7_leastBit ∈ x_T := x_t2 (List.mem_of_getElem? (i := 33) rfl) rfl
theorem wd_X1_14 : Cond.initialized RX7 ∈ x_T := x_t1 (List.mem_of_getElem? (i := 1) rfl) rfl
theorem wd_X1_15 : Cond.methodLink RX1 3 objectInit ∈ x_T := x_t1 (List.mem_of_getElem? (i := 102) rfl) rfl
theorem wd_X1_16 : Cond.code yX1_init cX1_init 2 none ∈ x_T := x_t1 (List.mem_of_getElem? (i := 101) rfl) rfl
theorem wd_X1_17 : Cond.code yX1_clear cX1_clear 2 none ∈ x_T := x_t2 (List.mem_of_getElem? (i := 9) rfl) rfl
theorem wd_X1_18 : Cond.code yX1_strike cX1_strike 3 none ∈ x_T := x_t2 (List.mem_of_getElem? (i := 42) rfl) rfl
theorem wd_X1_19 : Cond.code yX1_because cX1_because 4 none ∈ x_T := x_t2 (List.mem_of_getElem? (i := 51) rfl) rfl
theorem wd_X1_20 : Cond.code yX1_goer cX1_goer 6 (some .int) ∈ x_T := x_t2 (List.mem_of_getElem? (i := 232) rfl) rfl
theorem wd_X1_21 : Cond.code yX1_nthBit cX1_nthBit 4 (some .int) ∈ x_T := x_t2 (List.mem_of_getElem? (i := 235) rfl) rfl
theorem wd_X3_0 : Cond.fieldLink RX3 9 (TX3 0).1 (TX3 0).2.1 (TX3 0).2.2.1 ∈ x_T := x_t1 (List.mem_of_getElem? (i := 202) rfl) rfl
theorem wd_X3_1 : Cond.fieldLink RX3 15 (TX3 1).1 (TX3 1).2.1 (TX3 1).2.2.1 ∈ x_T := x_t1 (List.mem_of_getElem? (i := 203) rfl) rfl
theorem wd_X3_2 : Cond.fieldLink RX3 18 (TX3 2).1 (TX3 2).2.1 (TX3 2).2.2.1 ∈ x_T := x_t1 (List.mem_of_getElem? (i := 204) rfl) rfl
theorem wd_X3_3 : Cond.fieldLink RX3 21 (TX3 3).1 (TX3 3).2.1 (TX3 3).2.2.1 ∈ x_T := x_t1 (List.mem_of_getElem? (i := 205) rfl) rfl
theorem wd_X3_4 : Cond.fieldLink RX3 24 (TX3 4).1 (TX3 4).2.1 (TX3 4).2.2.1 ∈ x_T := x_t1 (List.mem_of_getElem? (i := 206) rfl) rfl
theorem wd_X3_5 : Cond.fieldLink RX3 28 (TX3 5).1 (TX3 5).2.1 (TX3 5).2.2.1 ∈ x_T := x_t1 (List.mem_of_getElem? (i := 207) rfl) rfl
theorem wd_X3_6 : Cond.fieldLink RX3 37 (TX2 4).1 (TX2 4).2.1 (TX2 4).2.2.1 ∈ x_T := x_t1 (List.mem_of_getElem? (i := 71) rfl) rfl
theorem wd_X3_7 : Cond.methodLink RX3 31 yX2_giveBack ∈ x_T := x_t3 (List.mem_of_getElem? (i := 41) rfl) rfl
theorem wd_X3_8 : Cond.instanceMethod yX2_giveBack ∈ x_T := x_t3 (List.mem_of_getElem? (i := 42) rfl) rfl
theorem wd_X3_9 : Cond.selects RX2 yX2_giveBack yX2_giveBack ∈ x_T := x_t3 (List.mem_of_getElem? (i := 43) rfl) rfl
theorem wd_X3_10 : Cond.initialized RX2 ∈ x_T := x_t1 (List.mem_of_getElem? (i := 3) rfl) rfl
theorem wd_X3_11 : Cond.methodLink RX3 3 objectInit ∈ x_T := x_t1 (List.mem_of_getElem? (i := 201) rfl) rfl
theorem wd_X3_12 : Cond.code yX3_init cX3_init 2 none ∈ x_T := x_t1 (List.mem_of_getElem? (i := 200) rfl) rfl
theorem wd_X3_13 : Cond.code yX3_mostSteps cX3_mostSteps 1 (some .int) ∈ x_T := x_t3 (List.mem_of_getElem? (i := 28) rfl) rfl
theorem wd_X3_14 : Cond.code yX3_clear cX3_clear 1 none ∈ x_T := x_t4 (List.mem_of_getElem? (i := 10) rfl) rfl
theorem wd_X3_15 : Cond.code yX3_note cX3_note 3 none ∈ x_T := x_t3 (List.mem_of_getElem? (i := 16) rfl) rfl
theorem wd_X3_16 : Cond.code yX3_close cX3_close 3 none ∈ x_T := x_t3 (List.mem_of_getElem? (i := 20) rfl) rfl
theorem wd_X3_17 : Cond.code yX3_takeBack cX3_takeBack 3 (some .int) ∈ x_T := x_t3 (List.mem_of_getElem? (i := 40) rfl) rfl
theorem wd_X6_0 : Cond.fieldLink RX6 7 (TX6 0).1 (TX6 0).2.1 (TX6 0).2.2.1 ∈ x_T := x_t1 (List.mem_of_getElem? (i := 146) rfl) rfl
theorem wd_X6_1 : Cond.fieldLink RX6 13 (TX6 1).1 (TX6 1).2.1 (TX6 1).2.2.1 ∈ x_T := x_t1 (List.mem_of_getElem? (i := 147) rfl) rfl
theorem wd_X6_2 : Cond.fieldLink RX6 17 (TX6 2).1 (TX6 2).2.1 (TX6 2).2.2.1 ∈ x_T := x_t1 (List.mem_of_getElem? (i := 148) rfl) rfl
theorem wd_X6_3 : Cond.fieldLink RX6 20 (TX6 3).1 (TX6 3).2.1 (TX6 3).2.2.1 ∈ x_T := x_t1 (List.mem_of_getElem? (i := 149) rfl) rfl
theorem wd_X6_4 : Cond.methodLink RX6 23 yX6_gather ∈ x_T := x_t1 (List.mem_of_getElem? (i := 142) rfl) rfl
theorem wd_X6_5 : Cond.instanceMethod yX6_gather ∈ x_T := x_t1 (List.mem_of_getElem? (i := 144) rfl) rfl
theorem wd_X6_6 : Cond.selects RX6 yX6_gather yX6_gather ∈ x_T := x_t0 (List.mem_of_getElem? (i := 4) rfl) rfl
theorem wd_X6_7 : Cond.initialized RX6 ∈ x_T := x_t1 (List.mem_of_getElem? (i := 5) rfl) rfl
theorem wd_X6_8 : Cond.methodLink RX6 1 objectInit ∈ x_T := x_t1 (List.mem_of_getElem? (i := 141) rfl) rfl
theorem wd_X6_9 : Cond.code yX6_init cX6_init 3 none ∈ x_T := x_t1 (List.mem_of_getElem? (i := 140) rfl) rfl
theorem wd_X6_10 : Cond.code yX6_gather cX6_gather 5 none ∈ x_T := x_t1 (List.mem_of_getElem? (i := 145) rfl) rfl
theorem wd_X6_11 : Cond.code yX6_start cX6_start 2 (some .int) ∈ x_T := x_t2 (List.mem_of_getElem? (i := 112) rfl) rfl
theorem wd_X6_12 : Cond.code yX6_end cX6_end 2 (some .int) ∈ x_T := x_t2 (List.mem_of_getElem? (i := 116) rfl) rfl
theorem wd_X6_13 : Cond.code yX6_get cX6_get 2 (some .int) ∈ x_T := x_t2 (List.mem_of_getElem? (i := 120) rfl) rfl
theorem wd_X0_0 : Cond.fieldLink RX0 11 (TX0 0).1 (TX0 0).2.1 (TX0 0).2.2.1 ∈ x_T := x_t1 (List.mem_of_getElem? (i := 165) rfl) rfl
theorem wd_X0_1 : Cond.fieldLink RX0 15 (TX0 1).1 (TX0 1).2.1 (TX0 1).2.2.1 ∈ x_T := x_t1 (List.mem_of_getElem? (i := 166) rfl) rfl
theorem wd_X0_2 : Cond.fieldLink RX0 18 (TX2 0).1 (TX2 0).2.1 (TX2 0).2.2.1 ∈ x_T := x_t1 (List.mem_of_getElem? (i := 60) rfl) rfl
theorem wd_X0_3 : Cond.fieldLink RX0 24 (TX2 3).1 (TX2 3).2.1 (TX2 3).2.2.1 ∈ x_T := x_t1 (List.mem_of_getElem? (i := 67) rfl) rfl
theorem wd_X0_4 : Cond.fieldLink RX0 31 (TX0 2).1 (TX0 2).2.1 (TX0 2).2.2.1 ∈ x_T := x_t1 (List.mem_of_getElem? (i := 167) rfl) rfl
theorem wd_X0_5 : Cond.fieldLink RX0 80 (TX1 5).1 (TX1 5).2.1 (TX1 5).2.2.1 ∈ x_T := x_t1 (List.mem_of_getElem? (i := 117) rfl) rfl
theorem wd_X0_6 : Cond.methodLink RX0 27 yX0_join ∈ x_T := x_t2 (List.mem_of_getElem? (i := 161) rfl) rfl
theorem wd_X0_7 : Cond.instanceMethod yX0_join ∈ x_T := x_t2 (List.mem_of_getElem? (i := 163) rfl) rfl
theorem wd_X0_8 : Cond.selects RX0 yX0_join yX0_join ∈ x_T := x_t0 (List.mem_of_getElem? (i := 25) rfl) rfl
theorem wd_X0_9 : Cond.initialized RX0 ∈ x_T := x_t1 (List.mem_of_getElem? (i := 6) rfl) rfl
theorem wd_X0_10 : Cond.methodLink RX0 34 yX0_takes ∈ x_T := x_t2 (List.mem_of_getElem? (i := 178) rfl) rfl
theorem wd_X0_11 : Cond.instanceMethod yX0_takes ∈ x_T := x_t2 (List.mem_of_getElem? (i := 180) rfl) rfl
theorem wd_X0_12 : Cond.selects RX0 yX0_takes yX0_takes ∈ x_T := x_t0 (List.mem_of_getElem? (i := 28) rfl) rfl
theorem wd_X0_13 : Cond.methodLink RX0 38 yX0_leaveBehind ∈ x_T := x_t2 (List.mem_of_getElem? (i := 197) rfl) rfl
theorem wd_X0_14 : Cond.instanceMethod yX0_leaveBehind ∈ x_T := x_t2 (List.mem_of_getElem? (i := 199) rfl) rfl
theorem wd_X0_15 : Cond.selects RX0 yX0_leaveBehind yX0_leaveBehind ∈ x_T := x_t0 (List.mem_of_getElem? (i := 32) rfl) rfl
theorem wd_X0_16 : Cond.methodLink RX0 41 yX0_colour ∈ x_T := x_t2 (List.mem_of_getElem? (i := 165) rfl) rfl
theorem wd_X0_17 : Cond.instanceMethod yX0_colour ∈ x_T := x_t2 (List.mem_of_getElem? (i := 167) rfl) rfl
theorem wd_X0_18 : Cond.selects RX0 yX0_colour yX0_colour ∈ x_T := x_t0 (List.mem_of_getElem? (i := 26) rfl) rfl
theorem wd_X0_19 : Cond.methodLink RX0 45 yX0_linkedCell ∈ x_T := x_t2 (List.mem_of_getElem? (i := 169) rfl) rfl
theorem wd_X0_20 : Cond.instanceMethod yX0_linkedCell ∈ x_T := x_t2 (List.mem_of_getElem? (i := 171) rfl) rfl
theorem wd_X0_21 : Cond.selects RX0 yX0_linkedCell yX0_linkedCell ∈ x_T := x_t0 (List.mem_of_getElem? (i := 27) rfl) rfl
theorem wd_X0_22 : Cond.methodLink RX0 49 yX2_house ∈ x_T := x_t2 (List.mem_of_getElem? (i := 173) rfl) rfl
theorem wd_X0_23 : Cond.instanceMethod yX2_house ∈ x_T := x_t2 (List.mem_of_getElem? (i := 85) rfl) rfl
theorem wd_X0_24 : Cond.selects RX2 yX2_house yX2_house ∈ x_T := x_t2 (List.mem_of_getElem? (i := 86) rfl) rfl
theorem wd_X0_25 : Cond.initialized RX2 ∈ x_T := x_t1 (List.mem_of_getElem? (i := 3) rfl) rfl
theorem wd_X0_26 : Cond.methodLink RX0 53 yX2_places ∈ x_T := x_t2 (List.mem_of_getElem? (i := 174) rfl) rfl
theorem wd_X0_27 : Cond.instanceMethod yX2_places ∈ x_T := x_t2 (List.mem_of_getElem? (i := 57) rfl) rfl
theorem wd_X0_28 : Cond.selects RX2 yX2_places yX2_places ∈ x_T := x_t2 (List.mem_of_getElem? (i := 58) rfl) rfl
theorem wd_X0_29 : Cond.methodLink RX0 65 yX2_cell ∈ x_T := x_t2 (List.mem_of_getElem? (i := 177) rfl) rfl
theorem wd_X0_30 : Cond.instanceMethod yX2_cell ∈ x_T := x_t2 (List.mem_of_getElem? (i := 65) rfl) rfl
theorem wd_X0_31 : Cond.selects RX2 yX2_cell yX2_cell ∈ x_T := x_t2 (List.mem_of_getElem? (i := 66) rfl) rfl
theorem wd_X0_32 : Cond.methodLink RX0 68 yX0_clash ∈ x_T := x_t2 (List.mem_of_getElem? (i := 182) rfl) rfl
theorem wd_X0_33 : Cond.instanceMethod yX0_clash ∈ x_T := x_t2 (List.mem_of_getElem? (i := 184) rfl) rfl
theorem wd_X0_34 : Cond.selects RX0 yX0_clash yX0_clash ∈ x_T := x_t0 (List.mem_of_getElem? (i := 29) rfl) rfl
theorem wd_X0_35 : Cond.methodLink RX0 72 yX0_strikeColour ∈ x_T := x_t2 (List.mem_of_getElem? (i := 187) rfl) rfl
theorem wd_X0_36 : Cond.instanceMethod yX0_strikeColour ∈ x_T := x_t2 (List.mem_of_getElem? (i := 189) rfl) rfl
theorem wd_X0_37 : Cond.selects RX0 yX0_strikeColour yX0_strikeColour ∈ x_T := x_t0 (List.mem_of_getElem? (i := 30) rfl) rfl
theorem wd_X0_38 : Cond.methodLink RX0 76 yX0_strikeOthers ∈ x_T := x_t2 (List.mem_of_getElem? (i := 192) rfl) rfl
theorem wd_X0_39 : Cond.instanceMethod yX0_strikeOthers ∈ x_T := x_t2 (List.mem_of_getElem? (i := 194) rfl) rfl
theorem wd_X0_40 : Cond.selects RX0 yX0_strikeOthers yX0_strikeOthers ∈ x_T := x_t0 (List.mem_of_getElem? (i := 31) rfl) rfl
theorem wd_X0_41 : Cond.methodLink RX0 85 yX1_because ∈ x_T := x_t2 (List.mem_of_getElem? (i := 196) rfl) rfl
theorem wd_X0_42 : Cond.instanceMethod yX1_because ∈ x_T := x_t2 (List.mem_of_getElem? (i := 49) rfl) rfl
theorem wd_X0_43 : Cond.selects RX1 yX1_because yX1_because ∈ x_T := x_t2 (List.mem_of_getElem? (i := 50) rfl) rfl
theorem wd_X0_44 : Cond.initialized RX1 ∈ x_T := x_t1 (List.mem_of_getElem? (i := 4) rfl) rfl
theorem wd_X0_45 : Cond.methodLink RX0 89 yX2_see ∈ x_T := x_t2 (List.mem_of_getElem? (i := 186) rfl) rfl
theorem wd_X0_46 : Cond.instanceMethod yX2_see ∈ x_T := x_t2 (List.mem_of_getElem? (i := 45) rfl) rfl
theorem wd_X0_47 : Cond.selects RX2 yX2_see yX2_see ∈ x_T := x_t2 (List.mem_of_getElem? (i := 46) rfl) rfl
theorem wd_X0_48 : Cond.methodLink RX0 93 yX1_strike ∈ x_T := x_t2 (List.mem_of_getElem? (i := 191) rfl) rfl
theorem wd_X0_49 : Cond.instanceMethod yX1_strike ∈ x_T := x_t2 (List.mem_of_getElem? (i := 40) rfl) rfl
theorem wd_X0_50 : Cond.selects RX1 yX1_strike yX1_strike ∈ x_T := x_t2 (List.mem_of_getElem? (i := 41) rfl) rfl
theorem wd_X0_51 : Cond.methodLink RX0 56 yJ6_bitCount_0f7a4 ∈ x_T := x_t2 (List.mem_of_getElem? (i := 175) rfl) rfl
theorem wd_X0_52 : Cond.static yJ6_bitCount_0f7a4 ∈ x_T := x_t2 (List.mem_of_getElem? (i := 27) rfl) rfl
theorem wd_X0_53 : Cond.initialized RJ6 ∈ x_T := x_t1 (List.mem_of_getElem? (i := 15) rfl) rfl
theorem wd_X0_54 : Cond.static yX7_leastBit ∈ x_T := x_t2 (List.mem_of_getElem? (i := 33) rfl) rfl
theorem wd_X0_55 : Cond.initialized RX7 ∈ x_T := x_t1 (List.mem_of_getElem? (i := 1) rfl) rfl
theorem wd_X0_56 : Cond.methodLink RX0 5 objectInit ∈ x_T := x_t1 (List.mem_of_getElem? (i := 164) rfl) rfl
theorem wd_X0_57 : Cond.code yX0_init cX0_init 2 none ∈ x_T := x_t1 (List.mem_of_getElem? (i := 163) rfl) rfl
theorem wd_X0_58 : Cond.code yX0_look cX0_look 5 (some .boolean) ∈ x_T := x_t2 (List.mem_of_getElem? (i := 160) rfl) rfl
theorem wd_X0_59 : Cond.code yX0_join cX0_join 9 none ∈ x_T := x_t2 (List.mem_of_getElem? (i := 164) rfl) rfl
theorem wd_X0_60 : Cond.code yX0_colour cX0_colour 3 none ∈ x_T := x_t2 (List.mem_of_getElem? (i := 168) rfl) rfl
theorem wd_X0_61 : Cond.code yX0_linkedCell cX0_linkedCell 8 (some .int) ∈ x_T := x_t2 (List.mem_of_getElem? (i := 172) rfl) rfl
theorem wd_X0_62 : Cond.code yX0_takes cX0_takes 5 (some .boolean) ∈ x_T := x_t2 (List.mem_of_getElem? (i := 181) rfl) rfl
theorem wd_X0_63 : Cond.code yX0_clash cX0_clash 6 (some .boolean) ∈ x_T := x_t2 (List.mem_of_getElem? (i := 185) rfl) rfl
theorem wd_X0_64 : Cond.code yX0_strikeColour cX0_strikeColour 5 none ∈ x_T := x_t2 (List.mem_of_getElem? (i := 190) rfl) rfl
theorem wd_X0_65 : Cond.code yX0_strikeOthers cX0_strikeOthers 8 none ∈ x_T := x_t2 (List.mem_of_getElem? (i := 195) rfl) rfl
theorem wd_X0_66 : Cond.code yX0_leaveBehind cX0_leaveBehind 2 none ∈ x_T := x_t2 (List.mem_of_getElem? (i := 200) rfl) rfl
theorem wd_X5_0 : Cond.fieldLink RX5 14 (TX5 0).1 (TX5 0).2.1 (TX5 0).2.2.1 ∈ x_T := x_t1 (List.mem_of_getElem? (i := 175) rfl) rfl
theorem wd_X5_1 : Cond.fieldLink RX5 20 (TX2 0).1 (TX2 0).2.1 (TX2 0).2.2.1 ∈ x_T := x_t1 (List.mem_of_getElem? (i := 57) rfl) rfl
theorem wd_X5_2 : Cond.fieldLink RX5 24 (TX5 2).1 (TX5 2).2.1 (TX5 2).2.2.1 ∈ x_T := x_t1 (List.mem_of_getElem? (i := 179) rfl) rfl
theorem wd_X5_3 : Cond.fieldLink RX5 27 (TX2 1).1 (TX2 1).2.1 (TX2 1).2.2.1 ∈ x_T := x_t1 (List.mem_of_getElem? (i := 61) rfl) rfl
theorem wd_X5_4 : Cond.fieldLink RX5 31 (TX5 1).1 (TX5 1).2.1 (TX5 1).2.2.1 ∈ x_T := x_t1 (List.mem_of_getElem? (i := 178) rfl) rfl
theorem wd_X5_5 : Cond.fieldLink RX5 38 (TX5 3).1 (TX5 3).2.1 (TX5 3).2.2.1 ∈ x_T := x_t1 (List.mem_of_getElem? (i := 180) rfl) rfl
theorem wd_X5_6 : Cond.fieldLink RX5 45 (TX5 4).1 (TX5 4).2.1 (TX5 4).2.2.1 ∈ x_T := x_t1 (List.mem_of_getElem? (i := 181) rfl) rfl
theorem wd_X5_7 : Cond.fieldLink RX5 49 (TX5 5).1 (TX5 5).2.1 (TX5 5).2.2.1 ∈ x_T := x_t1 (List.mem_of_getElem? (i := 182) rfl) rfl
theorem wd_X5_8 : Cond.fieldLink RX5 87 (TX1 3).1 (TX1 3).2.1 (TX1 3).2.2.1 ∈ x_T := x_t1 (List.mem_of_getElem? (i := 110) rfl) rfl
theorem wd_X5_9 : Cond.fieldLink RX5 90 (TX1 4).1 (TX1 4).2.1 (TX1 4).2.2.1 ∈ x_T := x_t1 (List.mem_of_getElem? (i := 113) rfl) rfl
theorem wd_X5_10 : Cond.fieldLink RX5 93 (TX2 3).1 (TX2 3).2.1 (TX2 3).2.2.1 ∈ x_T := x_t1 (List.mem_of_getElem? (i := 68) rfl) rfl
theorem wd_X5_11 : Cond.fieldLink RX5 106 (TX1 5).1 (TX1 5).2.1 (TX1 5).2.2.1 ∈ x_T := x_t1 (List.mem_of_getElem? (i := 116) rfl) rfl
theorem wd_X5_12 : Cond.fieldLink RX5 153 (TX2 2).1 (TX2 2).2.1 (TX2 2).2.2.1 ∈ x_T := x_t1 (List.mem_of_getElem? (i := 65) rfl) rfl
theorem wd_X5_13 : Cond.methodLink RX5 53 yX5_last ∈ x_T := x_t2 (List.mem_of_getElem? (i := 18) rfl) rfl
theorem wd_X5_14 : Cond.instanceMethod yX5_last ∈ x_T := x_t2 (List.mem_of_getElem? (i := 20) rfl) rfl
theorem wd_X5_15 : Cond.selects RX5 yX5_last yX5_last ∈ x_T := x_t0 (List.mem_of_getElem? (i := 5) rfl) rfl
theorem wd_X5_16 : Cond.initialized RX5 ∈ x_T := x_t1 (List.mem_of_getElem? (i := 2) rfl) rfl
theorem wd_X5_17 : Cond.methodLink RX5 57 yX5_onlyPlace ∈ x_T := x_t2 (List.mem_of_getElem? (i := 52) rfl) rfl
theorem wd_X5_18 : Cond.instanceMethod yX5_onlyPlace ∈ x_T := x_t2 (List.mem_of_getElem? (i := 54) rfl) rfl
theorem wd_X5_19 : Cond.selects RX5 yX5_onlyPlace yX5_onlyPlace ∈ x_T := x_t0 (List.mem_of_getElem? (i := 6) rfl) rfl
theorem wd_X5_20 : Cond.methodLink RX5 61 yX5_pointing ∈ x_T := x_t2 (List.mem_of_getElem? (i := 72) rfl) rfl
theorem wd_X5_21 : Cond.instanceMethod yX5_pointing ∈ x_T := x_t2 (List.mem_of_getElem? (i := 74) rfl) rfl
theorem wd_X5_22 : Cond.selects RX5 yX5_pointing yX5_pointing ∈ x_T := x_t0 (List.mem_of_getElem? (i := 9) rfl) rfl
theorem wd_X5_23 : Cond.methodLink RX5 64 yX5_claiming ∈ x_T := x_t2 (List.mem_of_getElem? (i := 97) rfl) rfl
theorem wd_X5_24 : Cond.instanceMethod yX5_claiming ∈ x_T := x_t2 (List.mem_of_getElem? (i := 99) rfl) rfl
theorem wd_X5_25 : Cond.selects RX5 yX5_claiming yX5_claiming ∈ x_T := x_t0 (List.mem_of_getElem? (i := 13) rfl) rfl
theorem wd_X5_26 : Cond.methodLink RX5 67 yX5_nakedSet ∈ x_T := x_t2 (List.mem_of_getElem? (i := 101) rfl) rfl
theorem wd_X5_27 : Cond.instanceMethod yX5_nakedSet ∈ x_T := x_t2 (List.mem_of_getElem? (i := 103) rfl) rfl
theorem wd_X5_28 : Cond.selects RX5 yX5_nakedSet yX5_nakedSet ∈ x_T := x_t0 (List.mem_of_getElem? (i := 14) rfl) rfl
theorem wd_X5_29 : Cond.methodLink RX5 70 yX5_hiddenSet ∈ x_T := x_t2 (List.mem_of_getElem? (i := 133) rfl) rfl
theorem wd_X5_30 : Cond.instanceMethod yX5_hiddenSet ∈ x_T := x_t2 (List.mem_of_getElem? (i := 135) rfl) rfl
theorem wd_X5_31 : Cond.selects RX5 yX5_hiddenSet yX5_hiddenSet ∈ x_T := x_t0 (List.mem_of_getElem? (i := 19) rfl) rfl
theorem wd_X5_32 : Cond.methodLink RX5 73 yX5_crossing ∈ x_T := x_t2 (List.mem_of_getElem? (i := 137) rfl) rfl
theorem wd_X5_33 : Cond.instanceMethod yX5_crossing ∈ x_T := x_t2 (List.mem_of_getElem? (i := 139) rfl) rfl
theorem wd_X5_34 : Cond.selects RX5 yX5_crossing yX5_crossing ∈ x_T := x_t0 (List.mem_of_getElem? (i := 20) rfl) rfl
theorem wd_X5_35 : Cond.methodLink RX5 77 yX5_wing ∈ x_T := x_t2 (List.mem_of_getElem? (i := 145) rfl) rfl
theorem wd_X5_36 : Cond.instanceMethod yX5_wing ∈ x_T := x_t2 (List.mem_of_getElem? (i := 147) rfl) rfl
theorem wd_X5_37 : Cond.selects RX5 yX5_wing yX5_wing ∈ x_T := x_t0 (List.mem_of_getElem? (i := 22) rfl) rfl
theorem wd_X5_38 : Cond.methodLink RX5 80 yX0_look ∈ x_T := x_t2 (List.mem_of_getElem? (i := 157) rfl) rfl
theorem wd_X5_39 : Cond.instanceMethod yX0_look ∈ x_T := x_t2 (List.mem_of_getElem? (i := 158) rfl) rfl
theorem wd_X5_40 : Cond.selects RX0 yX0_look yX0_look ∈ x_T := x_t2 (List.mem_of_getElem? (i := 159) rfl) rfl
theorem wd_X5_41 : Cond.initialized RX0 ∈ x_T := x_t1 (List.mem_of_getElem? (i := 6) rfl) rfl
theorem wd_X5_42 : Cond.methodLink RX5 84 yX5_onlyOneAnswer ∈ x_T := x_t2 (List.mem_of_getElem? (i := 201) rfl) rfl
theorem wd_X5_43 : Cond.instanceMethod yX5_onlyOneAnswer ∈ x_T := x_t2 (List.mem_of_getElem? (i := 203) rfl) rfl
theorem wd_X5_44 : Cond.selects RX5 yX5_onlyOneAnswer yX5_onlyOneAnswer ∈ x_T := x_t0 (List.mem_of_getElem? (i := 33) rfl) rfl
theorem wd_X5_45 : Cond.methodLink RX5 96 yX1_strike ∈ x_T := x_t2 (List.mem_of_getElem? (i := 39) rfl) rfl
theorem wd_X5_46 : Cond.instanceMethod yX1_strike ∈ x_T := x_t2 (List.mem_of_getElem? (i := 40) rfl) rfl
theorem wd_X5_47 : Cond.selects RX1 yX1_strike yX1_strike ∈ x_T := x_t2 (List.mem_of_getElem? (i := 41) rfl) rfl
theorem wd_X5_48 : Cond.initialized RX1 ∈ x_T := x_t1 (List.mem_of_getElem? (i := 4) rfl) rfl
theorem wd_X5_49 : Cond.methodLink RX5 100 yX2_see ∈ x_T := x_t2 (List.mem_of_getElem? (i := 44) rfl) rfl
theorem wd_X5_50 : Cond.instanceMethod yX2_see ∈ x_T := x_t2 (List.mem_of_getElem? (i := 45) rfl) rfl
theorem wd_X5_51 : Cond.selects RX2 yX2_see yX2_see ∈ x_T := x_t2 (List.mem_of_getElem? (i := 46) rfl) rfl
theorem wd_X5_52 : Cond.initialized RX2 ∈ x_T := x_t1 (List.mem_of_getElem? (i := 3) rfl) rfl
theorem wd_X5_53 : Cond.methodLink RX5 103 yX2_cell ∈ x_T := x_t2 (List.mem_of_getElem? (i := 64) rfl) rfl
theorem wd_X5_54 : Cond.instanceMethod yX2_cell ∈ x_T := x_t2 (List.mem_of_getElem? (i := 65) rfl) rfl
theorem wd_X5_55 : Cond.selects RX2 yX2_cell yX2_cell ∈ x_T := x_t2 (List.mem_of_getElem? (i := 66) rfl) rfl
theorem wd_X5_56 : Cond.methodLink RX5 109 yX1_because ∈ x_T := x_t2 (List.mem_of_getElem? (i := 48) rfl) rfl
theorem wd_X5_57 : Cond.instanceMethod yX1_because ∈ x_T := x_t2 (List.mem_of_getElem? (i := 49) rfl) rfl
theorem wd_X5_58 : Cond.selects RX1 yX1_because yX1_because ∈ x_T := x_t2 (List.mem_of_getElem? (i := 50) rfl) rfl
theorem wd_X5_59 : Cond.methodLink RX5 112 yX2_isOpen ∈ x_T := x_t2 (List.mem_of_getElem? (i := 22) rfl) rfl
theorem wd_X5_60 : Cond.instanceMethod yX2_isOpen ∈ x_T := x_t2 (List.mem_of_getElem? (i := 23) rfl) rfl
theorem wd_X5_61 : Cond.selects RX2 yX2_isOpen yX2_isOpen ∈ x_T := x_t2 (List.mem_of_getElem? (i := 24) rfl) rfl
theorem wd_X5_62 : Cond.methodLink RX5 124 yX5_settle ∈ x_T := x_t2 (List.mem_of_getElem? (i := 35) rfl) rfl
theorem wd_X5_63 : Cond.instanceMethod yX5_settle ∈ x_T := x_t2 (List.mem_of_getElem? (i := 36) rfl) rfl
theorem wd_X5_64 : Cond.selects RX5 yX5_settle yX5_settle ∈ x_T := x_t2 (List.mem_of_getElem? (i := 37) rfl) rfl
theorem wd_X5_65 : Cond.methodLink RX5 127 yX2_places ∈ x_T := x_t2 (List.mem_of_getElem? (i := 56) rfl) rfl
theorem wd_X5_66 : Cond.instanceMethod yX2_places ∈ x_T := x_t2 (List.mem_of_getElem? (i := 57) rfl) rfl
theorem wd_X5_67 : Cond.selects RX2 yX2_places yX2_places ∈ x_T := x_t2 (List.mem_of_getElem? (i := 58) rfl) rfl
theorem wd_X5_68 : Cond.methodLink RX5 130 yX5_isOpenIn ∈ x_T := x_t2 (List.mem_of_getElem? (i := 60) rfl) rfl
theorem wd_X5_69 : Cond.instanceMethod yX5_isOpenIn ∈ x_T := x_t2 (List.mem_of_getElem? (i := 62) rfl) rfl
theorem wd_X5_70 : Cond.selects RX5 yX5_isOpenIn yX5_isOpenIn ∈ x_T := x_t0 (List.mem_of_getElem? (i := 7) rfl) rfl
theorem wd_X5_71 : Cond.methodLink RX5 133 yX5_becauseOf ∈ x_T := x_t2 (List.mem_of_getElem? (i := 68) rfl) rfl
theorem wd_X5_72 : Cond.instanceMethod yX5_becauseOf ∈ x_T := x_t2 (List.mem_of_getElem? (i := 70) rfl) rfl
theorem wd_X5_73 : Cond.selects RX5 yX5_becauseOf yX5_becauseOf ∈ x_T := x_t0 (List.mem_of_getElem? (i := 8) rfl) rfl
theorem wd_X5_74 : Cond.methodLink RX5 136 yX5_confined ∈ x_T := x_t2 (List.mem_of_getElem? (i := 76) rfl) rfl
theorem wd_X5_75 : Cond.instanceMethod yX5_confined ∈ x_T := x_t2 (List.mem_of_getElem? (i := 78) rfl) rfl
theorem wd_X5_76 : Cond.selects RX5 yX5_confined yX5_confined ∈ x_T := x_t0 (List.mem_of_getElem? (i := 10) rfl) rfl
theorem wd_X5_77 : Cond.methodLink RX5 140 yX5_sharedHouse ∈ x_T := x_t2 (List.mem_of_getElem? (i := 80) rfl) rfl
theorem wd_X5_78 : Cond.instanceMethod yX5_sharedHouse ∈ x_T := x_t2 (List.mem_of_getElem? (i := 82) rfl) rfl
theorem wd_X5_79 : Cond.selects RX5 yX5_sharedHouse yX5_sharedHouse ∈ x_T := x_t0 (List.mem_of_getElem? (i := 11) rfl) rfl
theorem wd_X5_80 : Cond.methodLink RX5 144 yX2_isIn ∈ x_T := x_t2 (List.mem_of_getElem? (i := 88) rfl) rfl
theorem wd_X5_81 : Cond.instanceMethod yX2_isIn ∈ x_T := x_t2 (List.mem_of_getElem? (i := 89) rfl) rfl
theorem wd_X5_82 : Cond.selects RX2 yX2_isIn yX2_isIn ∈ x_T := x_t2 (List.mem_of_getElem? (i := 90) rfl) rfl
theorem wd_X5_83 : Cond.methodLink RX5 147 yX5_takesSome ∈ x_T := x_t2 (List.mem_of_getElem? (i := 93) rfl) rfl
theorem wd_X5_84 : Cond.instanceMethod yX5_takesSome ∈ x_T := x_t2 (List.mem_of_getElem? (i := 95) rfl) rfl
theorem wd_X5_85 : Cond.selects RX5 yX5_takesSome yX5_takesSome ∈ x_T := x_t0 (List.mem_of_getElem? (i := 12) rfl) rfl
theorem wd_X5_86 : Cond.methodLink RX5 150 yX2_house ∈ x_T := x_t2 (List.mem_of_getElem? (i := 84) rfl) rfl
theorem wd_X5_87 : Cond.instanceMethod yX2_house ∈ x_T := x_t2 (List.mem_of_getElem? (i := 85) rfl) rfl
theorem wd_X5_88 : Cond.selects RX2 yX2_house yX2_house ∈ x_T := x_t2 (List.mem_of_getElem? (i := 86) rfl) rfl
theorem wd_X5_89 : Cond.methodLink RX5 156 yX5_fitItems ∈ x_T := x_t2 (List.mem_of_getElem? (i := 105) rfl) rfl
theorem wd_X5_90 : Cond.instanceMethod yX5_fitItems ∈ x_T := x_t2 (List.mem_of_getElem? (i := 107) rfl) rfl
theorem wd_X5_91 : Cond.selects RX5 yX5_fitItems yX5_fitItems ∈ x_T := x_t0 (List.mem_of_getElem? (i := 15) rfl) rfl
theorem wd_X5_92 : Cond.methodLink RX5 159 yX6_start ∈ x_T := x_t2 (List.mem_of_getElem? (i := 109) rfl) rfl
theorem wd_X5_93 : Cond.instanceMethod yX6_start ∈ x_T := x_t2 (List.mem_of_getElem? (i := 110) rfl) rfl
theorem wd_X5_94 : Cond.selects RX6 yX6_start yX6_start ∈ x_T := x_t2 (List.mem_of_getElem? (i := 111) rfl) rfl
theorem wd_X5_95 : Cond.initialized RX6 ∈ x_T := x_t1 (List.mem_of_getElem? (i := 5) rfl) rfl
theorem wd_X5_96 : Cond.methodLink RX5 162 yX6_end ∈ x_T := x_t2 (List.mem_of_getElem? (i := 113) rfl) rfl
theorem wd_X5_97 : Cond.instanceMethod yX6_end ∈ x_T := x_t2 (List.mem_of_getElem? (i := 114) rfl) rfl
theorem wd_X5_98 : Cond.selects RX6 yX6_end yX6_end ∈ x_T := x_t2 (List.mem_of_getElem? (i := 115) rfl) rfl
theorem wd_X5_99 : Cond.methodLink RX5 165 yX6_get ∈ x_T := x_t2 (List.mem_of_getElem? (i := 117) rfl) rfl
theorem wd_X5_100 : Cond.instanceMethod yX6_get ∈ x_T := x_t2 (List.mem_of_getElem? (i := 118) rfl) rfl
theorem wd_X5_101 : Cond.selects RX6 yX6_get yX6_get ∈ x_T := x_t2 (List.mem_of_getElem? (i := 119) rfl) rfl
theorem wd_X5_102 : Cond.methodLink RX5 168 yX5_isCovered ∈ x_T := x_t2 (List.mem_of_getElem? (i := 121) rfl) rfl
theorem wd_X5_103 : Cond.instanceMethod yX5_isCovered ∈ x_T := x_t2 (List.mem_of_getElem? (i := 123) rfl) rfl
theorem wd_X5_104 : Cond.selects RX5 yX5_isCovered yX5_isCovered ∈ x_T := x_t0 (List.mem_of_getElem? (i := 16) rfl) rfl
theorem wd_X5_105 : Cond.methodLink RX5 171 yX5_unionOf ∈ x_T := x_t2 (List.mem_of_getElem? (i := 125) rfl) rfl
theorem wd_X5_106 : Cond.instanceMethod yX5_unionOf ∈ x_T := x_t2 (List.mem_of_getElem? (i := 127) rfl) rfl
theorem wd_X5_107 : Cond.selects RX5 yX5_unionOf yX5_unionOf ∈ x_T := x_t0 (List.mem_of_getElem? (i := 17) rfl) rfl
theorem wd_X5_108 : Cond.methodLink RX5 174 yX5_strikePlaces ∈ x_T := x_t2 (List.mem_of_getElem? (i := 129) rfl) rfl
theorem wd_X5_109 : Cond.instanceMethod yX5_strikePlaces ∈ x_T := x_t2 (List.mem_of_getElem? (i := 131) rfl) rfl
theorem wd_X5_110 : Cond.selects RX5 yX5_strikePlaces yX5_strikePlaces ∈ x_T := x_t0 (List.mem_of_getElem? (i := 18) rfl) rfl
theorem wd_X5_111 : Cond.methodLink RX5 178 yX5_crossingAt ∈ x_T := x_t2 (List.mem_of_getElem? (i := 141) rfl) rfl
theorem wd_X5_112 : Cond.instanceMethod yX5_crossingAt ∈ x_T := x_t2 (List.mem_of_getElem? (i := 143) rfl) rfl
theorem wd_X5_113 : Cond.selects RX5 yX5_crossingAt yX5_crossingAt ∈ x_T := x_t0 (List.mem_of_getElem? (i := 21) rfl) rfl
theorem wd_X5_114 : Cond.methodLink RX5 181 yX5_isWingtip ∈ x_T := x_t2 (List.mem_of_getElem? (i := 149) rfl) rfl
theorem wd_X5_115 : Cond.instanceMethod yX5_isWingtip ∈ x_T := x_t2 (List.mem_of_getElem? (i := 151) rfl) rfl
theorem wd_X5_116 : Cond.selects RX5 yX5_isWingtip yX5_isWingtip ∈ x_T := x_t0 (List.mem_of_getElem? (i := 23) rfl) rfl
theorem wd_X5_117 : Cond.methodLink RX5 184 yX5_wingAt ∈ x_T := x_t2 (List.mem_of_getElem? (i := 153) rfl) rfl
theorem wd_X5_118 : Cond.instanceMethod yX5_wingAt ∈ x_T := x_t2 (List.mem_of_getElem? (i := 155) rfl) rfl
theorem wd_X5_119 : Cond.selects RX5 yX5_wingAt yX5_wingAt ∈ x_T := x_t0 (List.mem_of_getElem? (i := 24) rfl) rfl
theorem wd_X5_120 : Cond.methodLink RX5 188 yX5_rectangleAt ∈ x_T := x_t2 (List.mem_of_getElem? (i := 205) rfl) rfl
theorem wd_X5_121 : Cond.instanceMethod yX5_rectangleAt ∈ x_T := x_t2 (List.mem_of_getElem? (i := 207) rfl) rfl
theorem wd_X5_122 : Cond.selects RX5 yX5_rectangleAt yX5_rectangleAt ∈ x_T := x_t0 (List.mem_of_getElem? (i := 34) rfl) rfl
theorem wd_X5_123 : Cond.methodLink RX5 191 yX5_isInTwoBoxes ∈ x_T := x_t2 (List.mem_of_getElem? (i := 209) rfl) rfl
theorem wd_X5_124 : Cond.instanceMethod yX5_isInTwoBoxes ∈ x_T := x_t2 (List.mem_of_getElem? (i := 211) rfl) rfl
theorem wd_X5_125 : Cond.selects RX5 yX5_isInTwoBoxes yX5_isInTwoBoxes ∈ x_T := x_t0 (List.mem_of_getElem? (i := 35) rfl) rfl
theorem wd_X5_126 : Cond.methodLink RX5 194 yX5_fourth ∈ x_T := x_t2 (List.mem_of_getElem? (i := 213) rfl) rfl
theorem wd_X5_127 : Cond.instanceMethod yX5_fourth ∈ x_T := x_t2 (List.mem_of_getElem? (i := 215) rfl) rfl
theorem wd_X5_128 : Cond.selects RX5 yX5_fourth yX5_fourth ∈ x_T := x_t0 (List.mem_of_getElem? (i := 36) rfl) rfl
theorem wd_X5_129 : Cond.methodLink RX5 115 yJ6_bitCount_0f7a4 ∈ x_T := x_t2 (List.mem_of_getElem? (i := 26) rfl) rfl
theorem wd_X5_130 : Cond.static yJ6_bitCount_0f7a4 ∈ x_T := x_t2 (List.mem_of_getElem? (i := 27) rfl) rfl
theorem wd_X5_131 : Cond.initialized RJ6 ∈ x_T := x_t1 (List.mem_of_getElem? (i := 15) rfl) rfl
theorem wd_X5_132 : Cond.static yX7_leastBit ∈ x_T := x_t2 (List.mem_of_getElem? (i := 33) rfl) rfl
theorem wd_X5_133 : Cond.initialized RX7 ∈ x_T := x_t1 (List.mem_of_getElem? (i := 1) rfl) rfl
theorem wd_X5_134 : Cond.methodLink RX5 3 objectInit ∈ x_T := x_t1 (List.mem_of_getElem? (i := 34) rfl) rfl
theorem wd_X5_135 : Cond.methodLink RX5 11 yX2_init ∈ x_T := x_t1 (List.mem_of_getElem? (i := 37) rfl) rfl
theorem wd_X5_136 : Cond.instanceMethod yX2_init ∈ x_T := x_t1 (List.mem_of_getElem? (i := 38) rfl) rfl
theorem wd_X5_137 : Cond.methodLink RX5 30 yX1_init ∈ x_T := x_t1 (List.mem_of_getElem? (i := 99) rfl) rfl
theorem wd_X5_138 : Cond.instanceMethod yX1_init ∈ x_T := x_t1 (List.mem_of_getElem? (i := 100) rfl) rfl
theorem wd_X5_139 : Cond.methodLink RX5 37 yX6_init ∈ x_T := x_t1 (List.mem_of_getElem? (i := 138) rfl) rfl
theorem wd_X5_140 : Cond.instanceMethod yX6_init ∈ x_T := x_t1 (List.mem_of_getElem? (i := 139) rfl) rfl
theorem wd_X5_141 : Cond.methodLink RX5 44 yX0_init ∈ x_T := x_t1 (List.mem_of_getElem? (i := 161) rfl) rfl
theorem wd_X5_142 : Cond.instanceMethod yX0_init ∈ x_T := x_t1 (List.mem_of_getElem? (i := 162) rfl) rfl
theorem wd_X5_143 : Cond.classLink RX5 9 RX2 ∈ x_T := x_t1 (List.mem_of_getElem? (i := 35) rfl) rfl
theorem wd_X5_144 : Cond.instantiable RX2 9 ∈ x_T := x_t1 (List.mem_of_getElem? (i := 36) rfl) rfl
theorem wd_X5_145 : Cond.classLink RX5 25 RX1 ∈ x_T := x_t1 (List.mem_of_getElem? (i := 97) rfl) rfl
theorem wd_X5_146 : Cond.instantiable RX1 7 ∈ x_T := x_t1 (List.mem_of_getElem? (i := 98) rfl) rfl
theorem wd_X5_147 : Cond.classLink RX5 35 RX6 ∈ x_T := x_t1 (List.mem_of_getElem? (i := 136) rfl) rfl
theorem wd_X5_148 : Cond.instantiable RX6 4 ∈ x_T := x_t1 (List.mem_of_getElem? (i := 137) rfl) rfl
theorem wd_X5_149 : Cond.classLink RX5 42 RX0 ∈ x_T := x_t1 (List.mem_of_getElem? (i := 159) rfl) rfl
theorem wd_X5_150 : Cond.instantiable RX0 3 ∈ x_T := x_t1 (List.mem_of_getElem? (i := 160) rfl) rfl
theorem wd_X5_151 : Cond.code yX5_init cX5_init 2 none ∈ x_T := x_t1 (List.mem_of_getElem? (i := 33) rfl) rfl
theorem wd_X5_152 : Cond.code yX5_seek cX5_seek 2 (some .boolean) ∈ x_T := x_t2 (List.mem_of_getElem? (i := 17) rfl) rfl
theorem wd_X5_153 : Cond.code yX5_settle cX5_settle 4 none ∈ x_T := x_t2 (List.mem_of_getElem? (i := 38) rfl) rfl
theorem wd_X5_154 : Cond.code yX5_strikePlaces cX5_strikePlaces 6 none ∈ x_T := x_t2 (List.mem_of_getElem? (i := 132) rfl) rfl
theorem wd_X5_155 : Cond.code yX5_takesSome cX5_takesSome 1 (some .boolean) ∈ x_T := x_t2 (List.mem_of_getElem? (i := 96) rfl) rfl
theorem wd_X5_156 : Cond.code yX5_becauseOf cX5_becauseOf 4 none ∈ x_T := x_t2 (List.mem_of_getElem? (i := 71) rfl) rfl
theorem wd_X5_157 : Cond.code yX5_last cX5_last 2 (some .boolean) ∈ x_T := x_t2 (List.mem_of_getElem? (i := 21) rfl) rfl
theorem wd_X5_158 : Cond.code yX5_onlyPlace cX5_onlyPlace 5 (some .boolean) ∈ x_T := x_t2 (List.mem_of_getElem? (i := 55) rfl) rfl
theorem wd_X5_159 : Cond.code yX5_isOpenIn cX5_isOpenIn 4 (some .boolean) ∈ x_T := x_t2 (List.mem_of_getElem? (i := 63) rfl) rfl
theorem wd_X5_160 : Cond.code yX5_pointing cX5_pointing 3 (some .boolean) ∈ x_T := x_t2 (List.mem_of_getElem? (i := 75) rfl) rfl
theorem wd_X5_161 : Cond.code yX5_claiming cX5_claiming 3 (some .boolean) ∈ x_T := x_t2 (List.mem_of_getElem? (i := 100) rfl) rfl
theorem wd_X5_162 : Cond.code yX5_confined cX5_confined 8 (some .boolean) ∈ x_T := x_t2 (List.mem_of_getElem? (i := 79) rfl) rfl
theorem wd_X5_163 : Cond.code yX5_sharedHouse cX5_sharedHouse 6 (some .int) ∈ x_T := x_t2 (List.mem_of_getElem? (i := 83) rfl) rfl
theorem wd_X5_164 : Cond.code yX5_nakedSet cX5_nakedSet 6 (some .boolean) ∈ x_T := x_t2 (List.mem_of_getElem? (i := 104) rfl) rfl
theorem wd_X5_165 : Cond.code yX5_hiddenSet cX5_hiddenSet 6 (some .boolean) ∈ x_T := x_t2 (List.mem_of_getElem? (i := 136) rfl) rfl
theorem wd_X5_166 : Cond.code yX5_crossing cX5_crossing 7 (some .boolean) ∈ x_T := x_t2 (List.mem_of_getElem? (i := 140) rfl) rfl
theorem wd_X5_167 : Cond.code yX5_crossingAt cX5_crossingAt 6 (some .boolean) ∈ x_T := x_t2 (List.mem_of_getElem? (i := 144) rfl) rfl
theorem wd_X5_168 : Cond.code yX5_fitItems cX5_fitItems 4 (some .int) ∈ x_T := x_t2 (List.mem_of_getElem? (i := 108) rfl) rfl
theorem wd_X5_169 : Cond.code yX5_isCovered cX5_isCovered 4 (some .boolean) ∈ x_T := x_t2 (List.mem_of_getElem? (i := 124) rfl) rfl
theorem wd_X5_170 : Cond.code yX5_unionOf cX5_unionOf 4 (some .int) ∈ x_T := x_t2 (List.mem_of_getElem? (i := 128) rfl) rfl
theorem wd_X5_171 : Cond.code yX5_wing cX5_wing 5 (some .boolean) ∈ x_T := x_t2 (List.mem_of_getElem? (i := 148) rfl) rfl
theorem wd_X5_172 : Cond.code yX5_isWingtip cX5_isWingtip 4 (some .boolean) ∈ x_T := x_t2 (List.mem_of_getElem? (i := 152) rfl) rfl
theorem wd_X5_173 : Cond.code yX5_wingAt cX5_wingAt 8 (some .boolean) ∈ x_T := x_t2 (List.mem_of_getElem? (i := 156) rfl) rfl
theorem wd_X5_174 : Cond.code yX5_onlyOneAnswer cX5_onlyOneAnswer 5 (some .boolean) ∈ x_T := x_t2 (List.mem_of_getElem? (i := 204) rfl) rfl
theorem wd_X5_175 : Cond.code yX5_rectangleAt cX5_rectangleAt 9 (some .boolean) ∈ x_T := x_t2 (List.mem_of_getElem? (i := 208) rfl) rfl
theorem wd_X5_176 : Cond.code yX5_isInTwoBoxes cX5_isInTwoBoxes 5 (some .boolean) ∈ x_T := x_t2 (List.mem_of_getElem? (i := 212) rfl) rfl
theorem wd_X5_177 : Cond.code yX5_fourth cX5_fourth 7 (some .boolean) ∈ x_T := x_t2 (List.mem_of_getElem? (i := 216) rfl) rfl
theorem wd_X7_0 : Cond.fieldLink RX7 12 (TX7 0).1 (TX7 0).2.1 (TX7 0).2.2.1 ∈ x_T := x_t1 (List.mem_of_getElem? (i := 222) rfl) rfl
theorem wd_X7_1 : Cond.fieldLink RX7 18 (TX5 0).1 (TX5 0).2.1 (TX5 0).2.2.1 ∈ x_T := x_t1 (List.mem_of_getElem? (i := 176) rfl) rfl
theorem wd_X7_2 : Cond.fieldLink RX7 22 (TX7 1).1 (TX7 1).2.1 (TX7 1).2.2.1 ∈ x_T := x_t1 (List.mem_of_getElem? (i := 223) rfl) rfl
theorem wd_X7_3 : Cond.fieldLink RX7 23 (TX5 1).1 (TX5 1).2.1 (TX5 1).2.2.1 ∈ x_T := x_t1 (List.mem_of_getElem? (i := 177) rfl) rfl
theorem wd_X7_4 : Cond.fieldLink RX7 27 (TX7 2).1 (TX7 2).2.1 (TX7 2).2.2.1 ∈ x_T := x_t1 (List.mem_of_getElem? (i := 224) rfl) rfl
theorem wd_X7_5 : Cond.fieldLink RX7 30 (TX2 0).1 (TX2 0).2.1 (TX2 0).2.2.1 ∈ x_T := x_t1 (List.mem_of_getElem? (i := 59) rfl) rfl
theorem wd_X7_6 : Cond.fieldLink RX7 37 (TX7 3).1 (TX7 3).2.1 (TX7 3).2.2.1 ∈ x_T := x_t1 (List.mem_of_getElem? (i := 225) rfl) rfl
theorem wd_X7_7 : Cond.fieldLink RX7 41 (TX7 4).1 (TX7 4).2.1 (TX7 4).2.2.1 ∈ x_T := x_t1 (List.mem_of_getElem? (i := 226) rfl) rfl
theorem wd_X7_8 : Cond.fieldLink RX7 45 (TX7 5).1 (TX7 5).2.1 (TX7 5).2.2.1 ∈ x_T := x_t1 (List.mem_of_getElem? (i := 227) rfl) rfl
theorem wd_X7_9 : Cond.fieldLink RX7 88 (TX1 2).1 (TX1 2).2.1 (TX1 2).2.2.1 ∈ x_T := x_t1 (List.mem_of_getElem? (i := 108) rfl) rfl
theorem wd_X7_10 : Cond.fieldLink RX7 91 (TX1 6).1 (TX1 6).2.1 (TX1 6).2.2.1 ∈ x_T := x_t1 (List.mem_of_getElem? (i := 120) rfl) rfl
theorem wd_X7_11 : Cond.fieldLink RX7 94 (TX1 5).1 (TX1 5).2.1 (TX1 5).2.2.1 ∈ x_T := x_t1 (List.mem_of_getElem? (i := 118) rfl) rfl
theorem wd_X7_12 : Cond.fieldLink RX7 97 (TX1 3).1 (TX1 3).2.1 (TX1 3).2.2.1 ∈ x_T := x_t1 (List.mem_of_getElem? (i := 111) rfl) rfl
theorem wd_X7_13 : Cond.fieldLink RX7 100 (TX1 4).1 (TX1 4).2.1 (TX1 4).2.2.1 ∈ x_T := x_t1 (List.mem_of_getElem? (i := 114) rfl) rfl
theorem wd_X7_14 : Cond.fieldLink RX7 103 (TX1 1).1 (TX1 1).2.1 (TX1 1).2.2.1 ∈ x_T := x_t1 (List.mem_of_getElem? (i := 106) rfl) rfl
theorem wd_X7_15 : Cond.fieldLink RX7 125 (TX3 5).1 (TX3 5).2.1 (TX3 5).2.2.1 ∈ x_T := x_t1 (List.mem_of_getElem? (i := 208) rfl) rfl
theorem wd_X7_16 : Cond.fieldLink RX7 132 (TX2 3).1 (TX2 3).2.1 (TX2 3).2.2.1 ∈ x_T := x_t1 (List.mem_of_getElem? (i := 69) rfl) rfl
theorem wd_X7_17 : Cond.fieldLink RX7 135 (TX2 4).1 (TX2 4).2.1 (TX2 4).2.2.1 ∈ x_T := x_t1 (List.mem_of_getElem? (i := 72) rfl) rfl
theorem wd_X7_18 : Cond.fieldLink RX7 182 (TX2 1).1 (TX2 1).2.1 (TX2 1).2.2.1 ∈ x_T := x_t1 (List.mem_of_getElem? (i := 63) rfl) rfl
theorem wd_X7_19 : Cond.fieldLink RX7 185 (TX1 0).1 (TX1 0).2.1 (TX1 0).2.2.1 ∈ x_T := x_t1 (List.mem_of_getElem? (i := 104) rfl) rfl
theorem wd_X7_20 : Cond.methodLink RX7 49 yX7_checkCell ∈ x_T := x_t3 (List.mem_of_getElem? (i := 141) rfl) rfl
theorem wd_X7_21 : Cond.instanceMethod yX7_checkCell ∈ x_T := x_t3 (List.mem_of_getElem? (i := 143) rfl) rfl
theorem wd_X7_22 : Cond.selects RX7 yX7_checkCell yX7_checkCell ∈ x_T := x_t0 (List.mem_of_getElem? (i := 41) rfl) rfl
theorem wd_X7_23 : Cond.initialized RX7 ∈ x_T := x_t1 (List.mem_of_getElem? (i := 1) rfl) rfl
theorem wd_X7_24 : Cond.methodLink RX7 52 yX7_checkSymbol ∈ x_T := x_t3 (List.mem_of_getElem? (i := 217) rfl) rfl
theorem wd_X7_25 : Cond.instanceMethod yX7_checkSymbol ∈ x_T := x_t3 (List.mem_of_getElem? (i := 219) rfl) rfl
theorem wd_X7_26 : Cond.selects RX7 yX7_checkSymbol yX7_checkSymbol ∈ x_T := x_t0 (List.mem_of_getElem? (i := 43) rfl) rfl
theorem wd_X7_27 : Cond.methodLink RX7 55 yX7_isOpenCandidate ∈ x_T := x_t3 (List.mem_of_getElem? (i := 237) rfl) rfl
theorem wd_X7_28 : Cond.instanceMethod yX7_isOpenCandidate ∈ x_T := x_t3 (List.mem_of_getElem? (i := 239) rfl) rfl
theorem wd_X7_29 : Cond.selects RX7 yX7_isOpenCandidate yX7_isOpenCandidate ∈ x_T := x_t0 (List.mem_of_getElem? (i := 44) rfl) rfl
theorem wd_X7_30 : Cond.methodLink RX7 59 yX1_clear ∈ x_T := x_t2 (List.mem_of_getElem? (i := 6) rfl) rfl
theorem wd_X7_31 : Cond.instanceMethod yX1_clear ∈ x_T := x_t2 (List.mem_of_getElem? (i := 7) rfl) rfl
theorem wd_X7_32 : Cond.selects RX1 yX1_clear yX1_clear ∈ x_T := x_t2 (List.mem_of_getElem? (i := 8) rfl) rfl
theorem wd_X7_33 : Cond.initialized RX1 ∈ x_T := x_t1 (List.mem_of_getElem? (i := 4) rfl) rfl
theorem wd_X7_34 : Cond.methodLink RX7 64 yX5_settle ∈ x_T := x_t4 (List.mem_of_getElem? (i := 2) rfl) rfl
theorem wd_X7_35 : Cond.instanceMethod yX5_settle ∈ x_T := x_t2 (List.mem_of_getElem? (i := 36) rfl) rfl
theorem wd_X7_36 : Cond.selects RX5 yX5_settle yX5_settle ∈ x_T := x_t2 (List.mem_of_getElem? (i := 37) rfl) rfl
theorem wd_X7_37 : Cond.initialized RX5 ∈ x_T := x_t1 (List.mem_of_getElem? (i := 2) rfl) rfl
theorem wd_X7_38 : Cond.methodLink RX7 68 yX7_carryOut ∈ x_T := x_t3 (List.mem_of_getElem? (i := 5) rfl) rfl
theorem wd_X7_39 : Cond.instanceMethod yX7_carryOut ∈ x_T := x_t3 (List.mem_of_getElem? (i := 7) rfl) rfl
theorem wd_X7_40 : Cond.selects RX7 yX7_carryOut yX7_carryOut ∈ x_T := x_t0 (List.mem_of_getElem? (i := 38) rfl) rfl
theorem wd_X7_41 : Cond.methodLink RX7 71 yX7_forgetSteps ∈ x_T := x_t4 (List.mem_of_getElem? (i := 3) rfl) rfl
theorem wd_X7_42 : Cond.instanceMethod yX7_forgetSteps ∈ x_T := x_t4 (List.mem_of_getElem? (i := 5) rfl) rfl
theorem wd_X7_43 : Cond.selects RX7 yX7_forgetSteps yX7_forgetSteps ∈ x_T := x_t0 (List.mem_of_getElem? (i := 45) rfl) rfl
theorem wd_X7_44 : Cond.methodLink RX7 74 yX2_drop ∈ x_T := x_t3 (List.mem_of_getElem? (i := 9) rfl) rfl
theorem wd_X7_45 : Cond.instanceMethod yX2_drop ∈ x_T := x_t3 (List.mem_of_getElem? (i := 10) rfl) rfl
theorem wd_X7_46 : Cond.selects RX2 yX2_drop yX2_drop ∈ x_T := x_t3 (List.mem_of_getElem? (i := 11) rfl) rfl
theorem wd_X7_47 : Cond.initialized RX2 ∈ x_T := x_t1 (List.mem_of_getElem? (i := 3) rfl) rfl
theorem wd_X7_48 : Cond.methodLink RX7 77 yX7_checkStep ∈ x_T := x_t4 (List.mem_of_getElem? (i := 25) rfl) rfl
theorem wd_X7_49 : Cond.instanceMethod yX7_checkStep ∈ x_T := x_t4 (List.mem_of_getElem? (i := 27) rfl) rfl
theorem wd_X7_50 : Cond.selects RX7 yX7_checkStep yX7_checkStep ∈ x_T := x_t0 (List.mem_of_getElem? (i := 46) rfl) rfl
theorem wd_X7_51 : Cond.methodLink RX7 80 yX2_isBroken ∈ x_T := x_t2 (List.mem_of_getElem? (i := 10) rfl) rfl
theorem wd_X7_52 : Cond.instanceMethod yX2_isBroken ∈ x_T := x_t2 (List.mem_of_getElem? (i := 11) rfl) rfl
theorem wd_X7_53 : Cond.selects RX2 yX2_isBroken yX2_isBroken ∈ x_T := x_t2 (List.mem_of_getElem? (i := 12) rfl) rfl
theorem wd_X7_54 : Cond.methodLink RX7 84 yX5_seek ∈ x_T := x_t2 (List.mem_of_getElem? (i := 14) rfl) rfl
theorem wd_X7_55 : Cond.instanceMethod yX5_seek ∈ x_T := x_t2 (List.mem_of_getElem? (i := 15) rfl) rfl
theorem wd_X7_56 : Cond.selects RX5 yX5_seek yX5_seek ∈ x_T := x_t2 (List.mem_of_getElem? (i := 16) rfl) rfl
theorem wd_X7_57 : Cond.methodLink RX7 106 yX1_goer ∈ x_T := x_t2 (List.mem_of_getElem? (i := 229) rfl) rfl
theorem wd_X7_58 : Cond.instanceMethod yX1_goer ∈ x_T := x_t2 (List.mem_of_getElem? (i := 230) rfl) rfl
theorem wd_X7_59 : Cond.selects RX1 yX1_goer yX1_goer ∈ x_T := x_t2 (List.mem_of_getElem? (i := 231) rfl) rfl
theorem wd_X7_60 : Cond.methodLink RX7 110 yX7_performFound ∈ x_T := x_t3 (List.mem_of_getElem? (i := 1) rfl) rfl
theorem wd_X7_61 : Cond.instanceMethod yX7_performFound ∈ x_T := x_t3 (List.mem_of_getElem? (i := 3) rfl) rfl
theorem wd_X7_62 : Cond.selects RX7 yX7_performFound yX7_performFound ∈ x_T := x_t0 (List.mem_of_getElem? (i := 37) rfl) rfl
theorem wd_X7_63 : Cond.methodLink RX7 113 yX3_mostSteps ∈ x_T := x_t3 (List.mem_of_getElem? (i := 25) rfl) rfl
theorem wd_X7_64 : Cond.instanceMethod yX3_mostSteps ∈ x_T := x_t3 (List.mem_of_getElem? (i := 26) rfl) rfl
theorem wd_X7_65 : Cond.selects RX3 yX3_mostSteps yX3_mostSteps ∈ x_T := x_t3 (List.mem_of_getElem? (i := 27) rfl) rfl
theorem wd_X7_66 : Cond.initialized RX3 ∈ x_T := x_t1 (List.mem_of_getElem? (i := 7) rfl) rfl
theorem wd_X7_67 : Cond.methodLink RX7 122 yX7_find ∈ x_T := x_t3 (List.mem_of_getElem? (i := 32) rfl) rfl
theorem wd_X7_68 : Cond.instanceMethod yX7_find ∈ x_T := x_t2 (List.mem_of_getElem? (i := 3) rfl) rfl
theorem wd_X7_69 : Cond.selects RX7 yX7_find yX7_find ∈ x_T := x_t2 (List.mem_of_getElem? (i := 4) rfl) rfl
theorem wd_X7_70 : Cond.methodLink RX7 128 yX3_takeBack ∈ x_T := x_t3 (List.mem_of_getElem? (i := 37) rfl) rfl
theorem wd_X7_71 : Cond.instanceMethod yX3_takeBack ∈ x_T := x_t3 (List.mem_of_getElem? (i := 38) rfl) rfl
theorem wd_X7_72 : Cond.selects RX3 yX3_takeBack yX3_takeBack ∈ x_T := x_t3 (List.mem_of_getElem? (i := 39) rfl) rfl
theorem wd_X7_73 : Cond.methodLink RX7 138 yX2_openCells ∈ x_T := x_t3 (List.mem_of_getElem? (i := 49) rfl) rfl
theorem wd_X7_74 : Cond.instanceMethod yX2_openCells ∈ x_T := x_t3 (List.mem_of_getElem? (i := 50) rfl) rfl
theorem wd_X7_75 : Cond.selects RX2 yX2_openCells yX2_openCells ∈ x_T := x_t3 (List.mem_of_getElem? (i := 51) rfl) rfl
theorem wd_X7_76 : Cond.methodLink RX7 141 yX2_openCandidates ∈ x_T := x_t3 (List.mem_of_getElem? (i := 54) rfl) rfl
theorem wd_X7_77 : Cond.instanceMethod yX2_openCandidates ∈ x_T := x_t3 (List.mem_of_getElem? (i := 55) rfl) rfl
theorem wd_X7_78 : Cond.selects RX2 yX2_openCandidates yX2_openCandidates ∈ x_T := x_t3 (List.mem_of_getElem? (i := 56) rfl) rfl
theorem wd_X7_79 : Cond.methodLink RX7 144 yX7_allTimes ∈ x_T := x_t3 (List.mem_of_getElem? (i := 59) rfl) rfl
theorem wd_X7_80 : Cond.instanceMethod yX7_allTimes ∈ x_T := x_t3 (List.mem_of_getElem? (i := 61) rfl) rfl
theorem wd_X7_81 : Cond.selects RX7 yX7_allTimes yX7_allTimes ∈ x_T := x_t0 (List.mem_of_getElem? (i := 39) rfl) rfl
theorem wd_X7_82 : Cond.methodLink RX7 172 yX2_rowOf ∈ x_T := x_t3 (List.mem_of_getElem? (i := 121) rfl) rfl
theorem wd_X7_83 : Cond.instanceMethod yX2_rowOf ∈ x_T := x_t3 (List.mem_of_getElem? (i := 122) rfl) rfl
theorem wd_X7_84 : Cond.selects RX2 yX2_rowOf yX2_rowOf ∈ x_T := x_t3 (List.mem_of_getElem? (i := 123) rfl) rfl
theorem wd_X7_85 : Cond.methodLink RX7 176 yX2_columnOf ∈ x_T := x_t3 (List.mem_of_getElem? (i := 125) rfl) rfl
theorem wd_X7_86 : Cond.instanceMethod yX2_columnOf ∈ x_T := x_t3 (List.mem_of_getElem? (i := 126) rfl) rfl
theorem wd_X7_87 : Cond.selects RX2 yX2_columnOf yX2_columnOf ∈ x_T := x_t3 (List.mem_of_getElem? (i := 127) rfl) rfl
theorem wd_X7_88 : Cond.methodLink RX7 179 yX3_close ∈ x_T := x_t3 (List.mem_of_getElem? (i := 17) rfl) rfl
theorem wd_X7_89 : Cond.instanceMethod yX3_close ∈ x_T := x_t3 (List.mem_of_getElem? (i := 18) rfl) rfl
theorem wd_X7_90 : Cond.selects RX3 yX3_close yX3_close ∈ x_T := x_t3 (List.mem_of_getElem? (i := 19) rfl) rfl
theorem wd_X7_91 : Cond.methodLink RX7 188 yX3_note ∈ x_T := x_t3 (List.mem_of_getElem? (i := 13) rfl) rfl
theorem wd_X7_92 : Cond.instanceMethod yX3_note ∈ x_T := x_t3 (List.mem_of_getElem? (i := 14) rfl) rfl
theorem wd_X7_93 : Cond.selects RX3 yX3_note yX3_note ∈ x_T := x_t3 (List.mem_of_getElem? (i := 15) rfl) rfl
theorem wd_X7_94 : Cond.methodLink RX7 191 yX3_clear ∈ x_T := x_t4 (List.mem_of_getElem? (i := 7) rfl) rfl
theorem wd_X7_95 : Cond.instanceMethod yX3_clear ∈ x_T := x_t4 (List.mem_of_getElem? (i := 8) rfl) rfl
theorem wd_X7_96 : Cond.selects RX3 yX3_clear yX3_clear ∈ x_T := x_t4 (List.mem_of_getElem? (i := 9) rfl) rfl
theorem wd_X7_97 : Cond.methodLink RX7 192 yX2_isOpen ∈ x_T := x_t4 (List.mem_of_getElem? (i := 1) rfl) rfl
theorem wd_X7_98 : Cond.instanceMethod yX2_isOpen ∈ x_T := x_t2 (List.mem_of_getElem? (i := 23) rfl) rfl
theorem wd_X7_99 : Cond.selects RX2 yX2_isOpen yX2_isOpen ∈ x_T := x_t2 (List.mem_of_getElem? (i := 24) rfl) rfl
theorem wd_X7_100 : Cond.methodLink RX7 117 yJ9_min_7cf53 ∈ x_T := x_t3 (List.mem_of_getElem? (i := 29) rfl) rfl
theorem wd_X7_101 : Cond.static yJ9_min_7cf53 ∈ x_T := x_t3 (List.mem_of_getElem? (i := 30) rfl) rfl
theorem wd_X7_102 : Cond.initialized RJ9 ∈ x_T := x_t1 (List.mem_of_getElem? (i := 16) rfl) rfl
theorem wd_X7_103 : Cond.code yJ9_min_7cf53 cJ9_min_7cf53 2 (some .int) ∈ x_T := x_t3 (List.mem_of_getElem? (i := 31) rfl) rfl
theorem wd_X7_104 : Cond.methodLink RX7 1 objectInit ∈ x_T := x_t1 (List.mem_of_getElem? (i := 26) rfl) rfl
theorem wd_X7_105 : Cond.methodLink RX7 9 yX5_init ∈ x_T := x_t1 (List.mem_of_getElem? (i := 31) rfl) rfl
theorem wd_X7_106 : Cond.instanceMethod yX5_init ∈ x_T := x_t1 (List.mem_of_getElem? (i := 32) rfl) rfl
theorem wd_X7_107 : Cond.methodLink RX7 36 yX3_init ∈ x_T := x_t1 (List.mem_of_getElem? (i := 198) rfl) rfl
theorem wd_X7_108 : Cond.instanceMethod yX3_init ∈ x_T := x_t1 (List.mem_of_getElem? (i := 199) rfl) rfl
theorem wd_X7_109 : Cond.classLink RX7 7 RX5 ∈ x_T := x_t1 (List.mem_of_getElem? (i := 29) rfl) rfl
theorem wd_X7_110 : Cond.instantiable RX5 6 ∈ x_T := x_t1 (List.mem_of_getElem? (i := 30) rfl) rfl
theorem wd_X7_111 : Cond.classLink RX7 28 RX3 ∈ x_T := x_t1 (List.mem_of_getElem? (i := 196) rfl) rfl
theorem wd_X7_112 : Cond.instantiable RX3 6 ∈ x_T := x_t1 (List.mem_of_getElem? (i := 197) rfl) rfl
theorem wd_X7_113 : Cond.code yX7_init cX7_init 3 none ∈ x_T := x_t1 (List.mem_of_getElem? (i := 25) rfl) rfl
theorem wd_X7_114 : Cond.code yX7_set cX7_set 3 (some .boolean) ∈ x_T := x_t3 (List.mem_of_getElem? (i := 140) rfl) rfl
theorem wd_X7_115 : Cond.code yX7_take cX7_take 3 (some .boolean) ∈ x_T := x_t4 (List.mem_of_getElem? (i := 17) rfl) rfl
theorem wd_X7_116 : Cond.code yX7_enable cX7_enable 3 (some .boolean) ∈ x_T := x_t4 (List.mem_of_getElem? (i := 24) rfl) rfl
theorem wd_X7_117 : Cond.code yX7_find cX7_find 2 (some .int) ∈ x_T := x_t2 (List.mem_of_getElem? (i := 5) rfl) rfl
theorem wd_X7_118 : Cond.code yX7_found cX7_found 2 (some .int) ∈ x_T := x_t2 (List.mem_of_getElem? (i := 220) rfl) rfl
theorem wd_X7_119 : Cond.code yX7_reason cX7_reason 2 (some .int) ∈ x_T := x_t2 (List.mem_of_getElem? (i := 224) rfl) rfl
theorem wd_X7_120 : Cond.code yX7_goes cX7_goes 2 (some .int) ∈ x_T := x_t2 (List.mem_of_getElem? (i := 228) rfl) rfl
theorem wd_X7_121 : Cond.code yX7_apply cX7_apply 1 (some .boolean) ∈ x_T := x_t3 (List.mem_of_getElem? (i := 0) rfl) rfl
theorem wd_X7_122 : Cond.code yX7_solve cX7_solve 4 (some .int) ∈ x_T := x_t3 (List.mem_of_getElem? (i := 24) rfl) rfl
theorem wd_X7_123 : Cond.code yX7_undo cX7_undo 2 (some .int) ∈ x_T := x_t3 (List.mem_of_getElem? (i := 36) rfl) rfl
theorem wd_X7_124 : Cond.code yX7_done cX7_done 2 (some .int) ∈ x_T := x_t4 (List.mem_of_getElem? (i := 36) rfl) rfl
theorem wd_X7_125 : Cond.code yX7_candidates cX7_candidates 2 (some .int) ∈ x_T := x_t4 (List.mem_of_getElem? (i := 43) rfl) rfl
theorem wd_X7_126 : Cond.code yX7_value cX7_value 2 (some .int) ∈ x_T := x_t4 (List.mem_of_getElem? (i := 50) rfl) rfl
theorem wd_X7_127 : Cond.code yX7_state cX7_state 2 (some .int) ∈ x_T := x_t3 (List.mem_of_getElem? (i := 48) rfl) rfl
theorem wd_X7_128 : Cond.code yX7_words cX7_words 7 (some .int) ∈ x_T := x_t3 (List.mem_of_getElem? (i := 66) rfl) rfl
theorem wd_X7_129 : Cond.code yX7_letterOfCell cX7_letterOfCell 3 (some .int) ∈ x_T := x_t3 (List.mem_of_getElem? (i := 120) rfl) rfl
theorem wd_X7_130 : Cond.code yX7_performFound cX7_performFound 2 none ∈ x_T := x_t3 (List.mem_of_getElem? (i := 4) rfl) rfl
theorem wd_X7_131 : Cond.code yX7_carryOut cX7_carryOut 4 none ∈ x_T := x_t3 (List.mem_of_getElem? (i := 8) rfl) rfl
theorem wd_X7_132 : Cond.code yX7_forgetSteps cX7_forgetSteps 1 none ∈ x_T := x_t4 (List.mem_of_getElem? (i := 6) rfl) rfl
theorem wd_X7_133 : Cond.code yX7_isOpenCandidate cX7_isOpenCandidate 3 (some .boolean) ∈ x_T := x_t4 (List.mem_of_getElem? (i := 0) rfl) rfl
theorem wd_X7_134 : Cond.code yX7_allTimes cX7_allTimes 3 (some .int) ∈ x_T := x_t3 (List.mem_of_getElem? (i := 62) rfl) rfl
theorem wd_X7_135 : Cond.code yX7_checkCell cX7_checkCell 2 none ∈ x_T := x_t3 (List.mem_of_getElem? (i := 144) rfl) rfl
theorem wd_X7_136 : Cond.code yX7_checkSymbol cX7_checkSymbol 2 none ∈ x_T := x_t3 (List.mem_of_getElem? (i := 220) rfl) rfl
theorem wd_X7_137 : Cond.code yX7_checkStep cX7_checkStep 2 none ∈ x_T := x_t4 (List.mem_of_getElem? (i := 28) rfl) rfl
theorem wd_X7_138 : Cond.code yX7_leastBit cX7_leastBit 2 (some .int) ∈ x_T := x_t2 (List.mem_of_getElem? (i := 34) rfl) rfl
theorem wd_L_0 : Cond.methodLink RL 7 yX7_set ∈ x_T := x_t3 (List.mem_of_getElem? (i := 137) rfl) rfl
theorem wd_L_1 : Cond.instanceMethod yX7_set ∈ x_T := x_t3 (List.mem_of_getElem? (i := 138) rfl) rfl
theorem wd_L_2 : Cond.selects RX7 yX7_set yX7_set ∈ x_T := x_t3 (List.mem_of_getElem? (i := 139) rfl) rfl
theorem wd_L_3 : Cond.initialized RX7 ∈ x_T := x_t1 (List.mem_of_getElem? (i := 1) rfl) rfl
theorem wd_L_4 : Cond.methodLink RL 17 yX7_take ∈ x_T := x_t4 (List.mem_of_getElem? (i := 14) rfl) rfl
theorem wd_L_5 : Cond.instanceMethod yX7_take ∈ x_T := x_t4 (List.mem_of_getElem? (i := 15) rfl) rfl
theorem wd_L_6 : Cond.selects RX7 yX7_take yX7_take ∈ x_T := x_t4 (List.mem_of_getElem? (i := 16) rfl) rfl
theorem wd_L_7 : Cond.methodLink RL 20 yX7_enable ∈ x_T := x_t4 (List.mem_of_getElem? (i := 21) rfl) rfl
theorem wd_L_8 : Cond.instanceMethod yX7_enable ∈ x_T := x_t4 (List.mem_of_getElem? (i := 22) rfl) rfl
theorem wd_L_9 : Cond.selects RX7 yX7_enable yX7_enable ∈ x_T := x_t4 (List.mem_of_getElem? (i := 23) rfl) rfl
theorem wd_L_10 : Cond.methodLink RL 24 yX7_done ∈ x_T := x_t4 (List.mem_of_getElem? (i := 33) rfl) rfl
theorem wd_L_11 : Cond.instanceMethod yX7_done ∈ x_T := x_t4 (List.mem_of_getElem? (i := 34) rfl) rfl
theorem wd_L_12 : Cond.selects RX7 yX7_done yX7_done ∈ x_T := x_t4 (List.mem_of_getElem? (i := 35) rfl) rfl
theorem wd_L_13 : Cond.methodLink RL 28 yX7_candidates ∈ x_T := x_t4 (List.mem_of_getElem? (i := 40) rfl) rfl
theorem wd_L_14 : Cond.instanceMethod yX7_candidates ∈ x_T := x_t4 (List.mem_of_getElem? (i := 41) rfl) rfl
theorem wd_L_15 : Cond.selects RX7 yX7_candidates yX7_candidates ∈ x_T := x_t4 (List.mem_of_getElem? (i := 42) rfl) rfl
theorem wd_L_16 : Cond.methodLink RL 31 yX7_value ∈ x_T := x_t4 (List.mem_of_getElem? (i := 47) rfl) rfl
theorem wd_L_17 : Cond.instanceMethod yX7_value ∈ x_T := x_t4 (List.mem_of_getElem? (i := 48) rfl) rfl
theorem wd_L_18 : Cond.selects RX7 yX7_value yX7_value ∈ x_T := x_t4 (List.mem_of_getElem? (i := 49) rfl) rfl
theorem wd_L_19 : Cond.methodLink RL 49 yX8_set ∈ x_T := x_t4 (List.mem_of_getElem? (i := 136) rfl) rfl
theorem wd_L_20 : Cond.instanceMethod yX8_set ∈ x_T := x_t4 (List.mem_of_getElem? (i := 137) rfl) rfl
theorem wd_L_21 : Cond.selects RX8 yX8_set yX8_set ∈ x_T := x_t4 (List.mem_of_getElem? (i := 138) rfl) rfl
theorem wd_L_22 : Cond.initialized RX8 ∈ x_T := x_t1 (List.mem_of_getElem? (i := 8) rfl) rfl
theorem wd_L_23 : Cond.methodLink RL 50 yX8_thrown ∈ x_T := x_t4 (List.mem_of_getElem? (i := 132) rfl) rfl
theorem wd_L_24 : Cond.instanceMethod yX8_thrown ∈ x_T := x_t4 (List.mem_of_getElem? (i := 133) rfl) rfl
theorem wd_L_25 : Cond.selects RX8 yX8_thrown yX8_thrown ∈ x_T := x_t4 (List.mem_of_getElem? (i := 134) rfl) rfl
theorem wd_L_26 : Cond.methodLink RL 56 yX8_take ∈ x_T := x_t4 (List.mem_of_getElem? (i := 172) rfl) rfl
theorem wd_L_27 : Cond.instanceMethod yX8_take ∈ x_T := x_t4 (List.mem_of_getElem? (i := 173) rfl) rfl
theorem wd_L_28 : Cond.selects RX8 yX8_take yX8_take ∈ x_T := x_t4 (List.mem_of_getElem? (i := 174) rfl) rfl
theorem wd_L_29 : Cond.methodLink RL 60 yX8_enable ∈ x_T := x_t4 (List.mem_of_getElem? (i := 176) rfl) rfl
theorem wd_L_30 : Cond.instanceMethod yX8_enable ∈ x_T := x_t4 (List.mem_of_getElem? (i := 177) rfl) rfl
theorem wd_L_31 : Cond.selects RX8 yX8_enable yX8_enable ∈ x_T := x_t4 (List.mem_of_getElem? (i := 178) rfl) rfl
theorem wd_L_32 : Cond.methodLink RL 61 yX7_find ∈ x_T := x_t2 (List.mem_of_getElem? (i := 2) rfl) rfl
theorem wd_L_33 : Cond.instanceMethod yX7_find ∈ x_T := x_t2 (List.mem_of_getElem? (i := 3) rfl) rfl
theorem wd_L_34 : Cond.selects RX7 yX7_find yX7_find ∈ x_T := x_t2 (List.mem_of_getElem? (i := 4) rfl) rfl
theorem wd_L_35 : Cond.methodLink RL 64 yX8_find ∈ x_T := x_t4 (List.mem_of_getElem? (i := 180) rfl) rfl
theorem wd_L_36 : Cond.instanceMethod yX8_find ∈ x_T := x_t4 (List.mem_of_getElem? (i := 181) rfl) rfl
theorem wd_L_37 : Cond.selects RX8 yX8_find yX8_find ∈ x_T := x_t4 (List.mem_of_getElem? (i := 182) rfl) rfl
theorem wd_L_38 : Cond.methodLink RL 65 yX7_found ∈ x_T := x_t2 (List.mem_of_getElem? (i := 217) rfl) rfl
theorem wd_L_39 : Cond.instanceMethod yX7_found ∈ x_T := x_t2 (List.mem_of_getElem? (i := 218) rfl) rfl
theorem wd_L_40 : Cond.selects RX7 yX7_found yX7_found ∈ x_T := x_t2 (List.mem_of_getElem? (i := 219) rfl) rfl
theorem wd_L_41 : Cond.methodLink RL 68 yX8_found ∈ x_T := x_t5 (List.mem_of_getElem? (i := 78) rfl) rfl
theorem wd_L_42 : Cond.instanceMethod yX8_found ∈ x_T := x_t5 (List.mem_of_getElem? (i := 79) rfl) rfl
theorem wd_L_43 : Cond.selects RX8 yX8_found yX8_found ∈ x_T := x_t5 (List.mem_of_getElem? (i := 80) rfl) rfl
theorem wd_L_44 : Cond.methodLink RL 69 yX7_reason ∈ x_T := x_t2 (List.mem_of_getElem? (i := 221) rfl) rfl
theorem wd_L_45 : Cond.instanceMethod yX7_reason ∈ x_T := x_t2 (List.mem_of_getElem? (i := 222) rfl) rfl
theorem wd_L_46 : Cond.selects RX7 yX7_reason yX7_reason ∈ x_T := x_t2 (List.mem_of_getElem? (i := 223) rfl) rfl
theorem wd_L_47 : Cond.methodLink RL 72 yX8_reason ∈ x_T := x_t5 (List.mem_of_getElem? (i := 90) rfl) rfl
theorem wd_L_48 : Cond.instanceMethod yX8_reason ∈ x_T := x_t5 (List.mem_of_getElem? (i := 91) rfl) rfl
theorem wd_L_49 : Cond.selects RX8 yX8_reason yX8_reason ∈ x_T := x_t5 (List.mem_of_getElem? (i := 92) rfl) rfl
theorem wd_L_50 : Cond.methodLink RL 73 yX7_goes ∈ x_T := x_t2 (List.mem_of_getElem? (i := 225) rfl) rfl
theorem wd_L_51 : Cond.instanceMethod yX7_goes ∈ x_T := x_t2 (List.mem_of_getElem? (i := 226) rfl) rfl
theorem wd_L_52 : Cond.selects RX7 yX7_goes yX7_goes ∈ x_T := x_t2 (List.mem_of_getElem? (i := 227) rfl) rfl
theorem wd_L_53 : Cond.methodLink RL 76 yX8_goes ∈ x_T := x_t5 (List.mem_of_getElem? (i := 98) rfl) rfl
theorem wd_L_54 : Cond.instanceMethod yX8_goes ∈ x_T := x_t5 (List.mem_of_getElem? (i := 99) rfl) rfl
theorem wd_L_55 : Cond.selects RX8 yX8_goes yX8_goes ∈ x_T := x_t5 (List.mem_of_getElem? (i := 100) rfl) rfl
theorem wd_L_56 : Cond.methodLink RL 77 yX7_apply ∈ x_T := x_t2 (List.mem_of_getElem? (i := 237) rfl) rfl
theorem wd_L_57 : Cond.instanceMethod yX7_apply ∈ x_T := x_t2 (List.mem_of_getElem? (i := 238) rfl) rfl
theorem wd_L_58 : Cond.selects RX7 yX7_apply yX7_apply ∈ x_T := x_t2 (List.mem_of_getElem? (i := 239) rfl) rfl
theorem wd_L_59 : Cond.methodLink RL 81 yX8_apply ∈ x_T := x_t5 (List.mem_of_getElem? (i := 102) rfl) rfl
theorem wd_L_60 : Cond.instanceMethod yX8_apply ∈ x_T := x_t5 (List.mem_of_getElem? (i := 103) rfl) rfl
theorem wd_L_61 : Cond.selects RX8 yX8_apply yX8_apply ∈ x_T := x_t5 (List.mem_of_getElem? (i := 104) rfl) rfl
theorem wd_L_62 : Cond.methodLink RL 82 yX7_solve ∈ x_T := x_t3 (List.mem_of_getElem? (i := 21) rfl) rfl
theorem wd_L_63 : Cond.instanceMethod yX7_solve ∈ x_T := x_t3 (List.mem_of_getElem? (i := 22) rfl) rfl
theorem wd_L_64 : Cond.selects RX7 yX7_solve yX7_solve ∈ x_T := x_t3 (List.mem_of_getElem? (i := 23) rfl) rfl
theorem wd_L_65 : Cond.methodLink RL 85 yX8_solve ∈ x_T := x_t5 (List.mem_of_getElem? (i := 110) rfl) rfl
theorem wd_L_66 : Cond.instanceMethod yX8_solve ∈ x_T := x_t5 (List.mem_of_getElem? (i := 111) rfl) rfl
theorem wd_L_67 : Cond.selects RX8 yX8_solve yX8_solve ∈ x_T := x_t5 (List.mem_of_getElem? (i := 112) rfl) rfl
theorem wd_L_68 : Cond.methodLink RL 86 yX7_undo ∈ x_T := x_t3 (List.mem_of_getElem? (i := 33) rfl) rfl
theorem wd_L_69 : Cond.instanceMethod yX7_undo ∈ x_T := x_t3 (List.mem_of_getElem? (i := 34) rfl) rfl
theorem wd_L_70 : Cond.selects RX7 yX7_undo yX7_undo ∈ x_T := x_t3 (List.mem_of_getElem? (i := 35) rfl) rfl
theorem wd_L_71 : Cond.methodLink RL 89 yX8_undo ∈ x_T := x_t5 (List.mem_of_getElem? (i := 114) rfl) rfl
theorem wd_L_72 : Cond.instanceMethod yX8_undo ∈ x_T := x_t5 (List.mem_of_getElem? (i := 115) rfl) rfl
theorem wd_L_73 : Cond.selects RX8 yX8_undo yX8_undo ∈ x_T := x_t5 (List.mem_of_getElem? (i := 116) rfl) rfl
theorem wd_L_74 : Cond.methodLink RL 93 yX8_done ∈ x_T := x_t5 (List.mem_of_getElem? (i := 118) rfl) rfl
theorem wd_L_75 : Cond.instanceMethod yX8_done ∈ x_T := x_t5 (List.mem_of_getElem? (i := 119) rfl) rfl
theorem wd_L_76 : Cond.selects RX8 yX8_done yX8_done ∈ x_T := x_t5 (List.mem_of_getElem? (i := 120) rfl) rfl
theorem wd_L_77 : Cond.methodLink RL 96 yX8_candidates ∈ x_T := x_t5 (List.mem_of_getElem? (i := 122) rfl) rfl
theorem wd_L_78 : Cond.instanceMethod yX8_candidates ∈ x_T := x_t5 (List.mem_of_getElem? (i := 123) rfl) rfl
theorem wd_L_79 : Cond.selects RX8 yX8_candidates yX8_candidates ∈ x_T := x_t5 (List.mem_of_getElem? (i := 124) rfl) rfl
theorem wd_L_80 : Cond.methodLink RL 99 yX8_value ∈ x_T := x_t5 (List.mem_of_getElem? (i := 126) rfl) rfl
theorem wd_L_81 : Cond.instanceMethod yX8_value ∈ x_T := x_t5 (List.mem_of_getElem? (i := 127) rfl) rfl
theorem wd_L_82 : Cond.selects RX8 yX8_value yX8_value ∈ x_T := x_t5 (List.mem_of_getElem? (i := 128) rfl) rfl
theorem wd_L_83 : Cond.methodLink RL 100 yX7_state ∈ x_T := x_t3 (List.mem_of_getElem? (i := 45) rfl) rfl
theorem wd_L_84 : Cond.instanceMethod yX7_state ∈ x_T := x_t3 (List.mem_of_getElem? (i := 46) rfl) rfl
theorem wd_L_85 : Cond.selects RX7 yX7_state yX7_state ∈ x_T := x_t3 (List.mem_of_getElem? (i := 47) rfl) rfl
theorem wd_L_86 : Cond.methodLink RL 103 yX8_state ∈ x_T := x_t5 (List.mem_of_getElem? (i := 130) rfl) rfl
theorem wd_L_87 : Cond.instanceMethod yX8_state ∈ x_T := x_t5 (List.mem_of_getElem? (i := 131) rfl) rfl
theorem wd_L_88 : Cond.selects RX8 yX8_state yX8_state ∈ x_T := x_t5 (List.mem_of_getElem? (i := 132) rfl) rfl
theorem wd_L_89 : Cond.methodLink RL 104 yX7_words ∈ x_T := x_t3 (List.mem_of_getElem? (i := 63) rfl) rfl
theorem wd_L_90 : Cond.instanceMethod yX7_words ∈ x_T := x_t3 (List.mem_of_getElem? (i := 64) rfl) rfl
theorem wd_L_91 : Cond.selects RX7 yX7_words yX7_words ∈ x_T := x_t3 (List.mem_of_getElem? (i := 65) rfl) rfl
theorem wd_L_92 : Cond.methodLink RL 108 yX8_words ∈ x_T := x_t5 (List.mem_of_getElem? (i := 134) rfl) rfl
theorem wd_L_93 : Cond.instanceMethod yX8_words ∈ x_T := x_t5 (List.mem_of_getElem? (i := 135) rfl) rfl
theorem wd_L_94 : Cond.selects RX8 yX8_words yX8_words ∈ x_T := x_t5 (List.mem_of_getElem? (i := 136) rfl) rfl
theorem wd_L_95 : Cond.methodLink RL 34 yL_cell ∈ x_T := x_t3 (List.mem_of_getElem? (i := 129) rfl) rfl
theorem wd_L_96 : Cond.static yL_cell ∈ x_T := x_t3 (List.mem_of_getElem? (i := 130) rfl) rfl
theorem wd_L_97 : Cond.initialized RL ∈ x_T := x_t1 (List.mem_of_getElem? (i := 0) rfl) rfl
theorem wd_L_98 : Cond.methodLink RL 46 yL_set ∈ x_T := x_t3 (List.mem_of_getElem? (i := 132) rfl) rfl
theorem wd_L_99 : Cond.static yL_set ∈ x_T := x_t3 (List.mem_of_getElem? (i := 133) rfl) rfl
theorem wd_L_100 : Cond.methodLink RL 54 yL_take ∈ x_T := x_t4 (List.mem_of_getElem? (i := 11) rfl) rfl
theorem wd_L_101 : Cond.static yL_take ∈ x_T := x_t4 (List.mem_of_getElem? (i := 12) rfl) rfl
theorem wd_L_102 : Cond.methodLink RL 57 yL_enable ∈ x_T := x_t4 (List.mem_of_getElem? (i := 18) rfl) rfl
theorem wd_L_103 : Cond.static yL_enable ∈ x_T := x_t4 (List.mem_of_getElem? (i := 19) rfl) rfl
theorem wd_L_104 : Cond.methodLink RL 90 yL_done ∈ x_T := x_t4 (List.mem_of_getElem? (i := 30) rfl) rfl
theorem wd_L_105 : Cond.static yL_done ∈ x_T := x_t4 (List.mem_of_getElem? (i := 31) rfl) rfl
theorem wd_L_106 : Cond.methodLink RL 94 yL_candidates ∈ x_T := x_t4 (List.mem_of_getElem? (i := 37) rfl) rfl
theorem wd_L_107 : Cond.static yL_candidates ∈ x_T := x_t4 (List.mem_of_getElem? (i := 38) rfl) rfl
theorem wd_L_108 : Cond.methodLink RL 97 yL_value ∈ x_T := x_t4 (List.mem_of_getElem? (i := 44) rfl) rfl
theorem wd_L_109 : Cond.static yL_value ∈ x_T := x_t4 (List.mem_of_getElem? (i := 45) rfl) rfl
theorem wd_L_110 : Cond.methodLink RL 40 yX7_init ∈ x_T := x_t1 (List.mem_of_getElem? (i := 23) rfl) rfl
theorem wd_L_111 : Cond.instanceMethod yX7_init ∈ x_T := x_t1 (List.mem_of_getElem? (i := 24) rfl) rfl
theorem wd_L_112 : Cond.methodLink RL 45 yX8_init ∈ x_T := x_t4 (List.mem_of_getElem? (i := 53) rfl) rfl
theorem wd_L_113 : Cond.instanceMethod yX8_init ∈ x_T := x_t4 (List.mem_of_getElem? (i := 54) rfl) rfl
theorem wd_L_114 : Cond.classLink RL 8 RX7 ∈ x_T := x_t1 (List.mem_of_getElem? (i := 21) rfl) rfl
theorem wd_L_115 : Cond.instantiable RX7 6 ∈ x_T := x_t1 (List.mem_of_getElem? (i := 22) rfl) rfl
theorem wd_L_116 : Cond.classLink RL 43 RX8 ∈ x_T := x_t4 (List.mem_of_getElem? (i := 51) rfl) rfl
theorem wd_L_117 : Cond.instantiable RX8 23 ∈ x_T := x_t4 (List.mem_of_getElem? (i := 52) rfl) rfl
theorem wd_L_118 : Cond.code yL_cell cL_cell 2 (some .int) ∈ x_T := x_t3 (List.mem_of_getElem? (i := 131) rfl) rfl
theorem wd_L_119 : Cond.codeWith yL_set cL_set 5 (some .int) [(0, 17, 20, 13), (0, 17, 24, 15)] ∈ x_T := x_t3 (List.mem_of_getElem? (i := 134) rfl) rfl
theorem wd_L_120 : Cond.codeWith yL_take cL_take 5 (some .int) [(0, 17, 20, 13), (0, 17, 24, 15)] ∈ x_T := x_t4 (List.mem_of_getElem? (i := 13) rfl) rfl
theorem wd_L_121 : Cond.codeWith yL_enable cL_enable 5 (some .int) [(0, 17, 20, 13)] ∈ x_T := x_t4 (List.mem_of_getElem? (i := 20) rfl) rfl
theorem wd_L_122 : Cond.codeWith yL_done cL_done 4 (some .int) [(0, 9, 12, 13)] ∈ x_T := x_t4 (List.mem_of_getElem? (i := 32) rfl) rfl
theorem wd_L_123 : Cond.codeWith yL_candidates cL_candidates 4 (some .int) [(0, 9, 12, 13)] ∈ x_T := x_t4 (List.mem_of_getElem? (i := 39) rfl) rfl
theorem wd_L_124 : Cond.codeWith yL_value cL_value 4 (some .int) [(0, 9, 12, 13)] ∈ x_T := x_t4 (List.mem_of_getElem? (i := 46) rfl) rfl
end
section
/-! ===== all methods stand as the tables say ===== -/
/-- the nest mates' links -/
def x_NW (En : (Nat → Prop) → State → Heap → Prop) : Prop := (∀ A U H, En A U H → va_Nw (.methodLinkNest RX5 121 yX7_leastBit "HumanSteps") U) ∧ (∀ A U H, En A U H → va_Nw (.methodLinkNest RX0 62 yX7_leastBit "HumanSteps") U) ∧ (∀ A U H, En A U H → va_Nw (.methodLinkNest RX1 44 yX7_leastBit "HumanSteps") U)
def x_Ok1 (En : (Nat → Prop) → State → Heap → Prop) (M : x_M) : Prop := x_Tb M ∧ x_Tc x_MM En M ∧ plainName M.nam.cls = true ∧ M.nam.cls = M.own ∧ x_kw M ∈ x_T ∧ x_nmh M.nam ∧ M.maxl ≤ 20
set_option maxRecDepth 20000 in
theorem fk_J6 : ∀ e ∈ fl_J6, x_Fl RJ6 false e := List.forall_mem_nil _
set_option maxRecDepth 20000 in
theorem kk_J6 : ∀ e ∈ kl_J6, x_Kl RJ6 e := List.forall_mem_cons.mpr ⟨wd_J6_0, List.forall_mem_cons.mpr ⟨wd_J6_1, List.forall_mem_cons.mpr ⟨wd_J6_2, List.forall_mem_nil _⟩⟩⟩
set_option maxRecDepth 20000 in
theorem nk_J6 : ∀ e ∈ nl_J6, x_Nl RJ6 e := List.forall_mem_nil _
set_option maxRecDepth 20000 in
theorem ok_J6 : ∀ e ∈ pl_J6, x_Sl0 RJ6 e := List.forall_mem_nil _
set_option maxRecDepth 20000 in
theorem vk_J6 : ∀ e ∈ vl_J6, x_Vl x_MM RJ6 e := List.forall_mem_nil _
set_option maxRecDepth 20000 in
theorem sk_J6 {En : (Nat → Prop) → State → Heap → Prop} (hN : x_NW En) : ∀ e ∈ sl_J6, x_Sl x_MM En RJ6 e := List.forall_mem_nil _
theorem sm_J6 : ∀ e ∈ sl_J6, x_Ml RJ6 e := List.forall_mem_nil _
set_option maxRecDepth 20000 in
theorem pk_J6 : ∀ e ∈ pl_J6, x_Pl x_MM RJ6 e := List.forall_mem_nil _
theorem tb_J6_bitCount : x_Tb m_J6_bitCount := x_Tb_of false ci_J6_bitCount fk_J6 (fun h => by cases h) kk_J6 nk_J6 ok_J6 sm_J6
theorem tc_J6_bitCount {En : (Nat → Prop) → State → Heap → Prop} (hN : x_NW En) : x_Tc x_MM En m_J6_bitCount := x_Tc_of vk_J6 (sk_J6 hN) pk_J6
theorem tk_J6_bitCount {En : (Nat → Prop) → State → Heap → Prop} (hN : x_NW En) : x_Ok1 En m_J6_bitCount := ⟨tb_J6_bitCount, tc_J6_bitCount hN, by decide +kernel, rfl, wd_J6_3, ⟨by decide, by decide⟩, by decide⟩
set_option maxRecDepth 20000 in
theorem fk_X8 : ∀ e ∈ fl_X8, x_Fl RX8 false e := List.forall_mem_cons.mpr ⟨⟨_, _, _, _, cl_X8, by decide, wd_X8_0, Or.inl rfl⟩, List.forall_mem_cons.mpr ⟨⟨_, _, _, _, cl_X8, by decide, wd_X8_1, Or.inl rfl⟩, List.forall_mem_cons.mpr ⟨⟨_, _, _, _, cl_X8, by decide, wd_X8_2, Or.inl rfl⟩, List.forall_mem_cons.mpr ⟨⟨_, _, _, _, cl_X8, by decide, wd_X8_3, Or.inl rfl⟩, List.forall_mem_cons.mpr ⟨⟨_, _, _, _, cl_X8, by decide, wd_X8_4, Or.inr ⟨by decide +kernel, Or.inl ⟨rfl, rfl⟩⟩⟩, List.forall_mem_cons.mpr ⟨⟨_, _, _, _, cl_X8, by decide, wd_X8_5, Or.inl rfl⟩, List.forall_mem_cons.mpr ⟨⟨_, _, _, _, cl_X8, by decide, wd_X8_6, Or.inl rfl⟩, List.forall_mem_cons.mpr ⟨⟨_, _, _, _, cl_X8, by decide, wd_X8_7, Or.inl rfl⟩, List.forall_mem_cons.mpr ⟨⟨_, _, _, _, cl_X8, by decide, wd_X8_8, Or.inl rfl⟩, List.forall_mem_cons.mpr ⟨⟨_, _, _, _, cl_X8, by decide, wd_X8_9, Or.inl rfl⟩, List.forall_mem_cons.mpr ⟨⟨_, _, _, _, cl_X8, by decide, wd_X8_10, Or.inl rfl⟩, List.forall_mem_cons.mpr ⟨⟨_, _, _, _, cl_X8, by decide, wd_X8_11, Or.inl rfl⟩, List.forall_mem_cons.mpr ⟨⟨_, _, _, _, cl_X8, by decide, wd_X8_12, Or.inl rfl⟩, List.forall_mem_cons.mpr ⟨⟨_, _, _, _, cl_X8, by decide, wd_X8_13, Or.inl rfl⟩, List.forall_mem_cons.mpr ⟨⟨_, _, _, _, cl_X8, by decide, wd_X8_14, Or.inl rfl⟩, List.forall_mem_cons.mpr ⟨⟨_, _, _, _, cl_X8, by decide, wd_X8_15, Or.inl rfl⟩, List.forall_mem_cons.mpr ⟨⟨_, _, _, _, cl_X8, by decide, wd_X8_16, Or.inl rfl⟩, List.forall_mem_cons.mpr ⟨⟨_, _, _, _, cl_X8, by decide, wd_X8_17, Or.inl rfl⟩, List.forall_mem_cons.mpr ⟨⟨_, _, _, _, cl_X8, by decide, wd_X8_18, Or.inr ⟨by decide +kernel, Or.inl ⟨rfl, rfl⟩⟩⟩, List.forall_mem_cons.mpr ⟨⟨_, _, _, _, cl_X8, by decide, wd_X8_19, Or.inr ⟨by decide +kernel, Or.inl ⟨rfl, rfl⟩⟩⟩, List.forall_mem_cons.mpr ⟨⟨_, _, _, _, cl_X8, by decide, wd_X8_20, Or.inr ⟨by decide +kernel, Or.inl ⟨rfl, rfl⟩⟩⟩, List.forall_mem_cons.mpr ⟨⟨_, _, _, _, cl_X8, by decide, wd_X8_21, Or.inr ⟨by decide +kernel, Or.inl ⟨rfl, rfl⟩⟩⟩, List.forall_mem_cons.mpr ⟨⟨_, _, _, _, cl_X8, by decide, wd_X8_22, Or.inr ⟨by decide +kernel, Or.inl ⟨rfl, rfl⟩⟩⟩, List.forall_mem_nil _⟩⟩⟩⟩⟩⟩⟩⟩⟩⟩⟩⟩⟩⟩⟩⟩⟩⟩⟩⟩⟩⟩⟩
set_option maxRecDepth 20000 in
theorem fj_X8 : ∀ e ∈ fi_X8, x_Fl RX8 true e := List.forall_mem_cons.mpr ⟨⟨_, _, _, _, cl_X8, by decide, wd_X8_0, Or.inr ⟨by decide +kernel, Or.inr ⟨rfl, rfl, rfl⟩⟩⟩, List.forall_mem_cons.mpr ⟨⟨_, _, _, _, cl_X8, by decide, wd_X8_1, Or.inr ⟨by decide +kernel, Or.inr ⟨rfl, rfl, rfl⟩⟩⟩, List.forall_mem_cons.mpr ⟨⟨_, _, _, _, cl_X8, by decide, wd_X8_2, Or.inr ⟨by decide +kernel, Or.inr ⟨rfl, rfl, rfl⟩⟩⟩, List.forall_mem_cons.mpr ⟨⟨_, _, _, _, cl_X8, by decide, wd_X8_3, Or.inr ⟨by decide +kernel, Or.inr ⟨rfl, rfl, rfl⟩⟩⟩, List.forall_mem_cons.mpr ⟨⟨_, _, _, _, cl_X8, by decide, wd_X8_4, Or.inr ⟨by decide +kernel, Or.inl ⟨rfl, rfl⟩⟩⟩, List.forall_mem_cons.mpr ⟨⟨_, _, _, _, cl_X8, by decide, wd_X8_5, Or.inr ⟨by decide +kernel, Or.inr ⟨rfl, rfl, rfl⟩⟩⟩, List.forall_mem_cons.mpr ⟨⟨_, _, _, _, cl_X8, by decide, wd_X8_6, Or.inr ⟨by decide +kernel, Or.inr ⟨rfl, rfl, rfl⟩⟩⟩, List.forall_mem_cons.mpr ⟨⟨_, _, _, _, cl_X8, by decide, wd_X8_7, Or.inr ⟨by decide +kernel, Or.inr ⟨rfl, rfl, rfl⟩⟩⟩, List.forall_mem_cons.mpr ⟨⟨_, _, _, _, cl_X8, by decide, wd_X8_8, Or.inr ⟨by decide +kernel, Or.inr ⟨rfl, rfl, rfl⟩⟩⟩, List.forall_mem_cons.mpr ⟨⟨_, _, _, _, cl_X8, by decide, wd_X8_9, Or.inr ⟨by decide +kernel, Or.inr ⟨rfl, rfl, rfl⟩⟩⟩, List.forall_mem_cons.mpr ⟨⟨_, _, _, _, cl_X8, by decide, wd_X8_10, Or.inr ⟨by decide +kernel, Or.inr ⟨rfl, rfl, rfl⟩⟩⟩, List.forall_mem_cons.mpr ⟨⟨_, _, _, _, cl_X8, by decide, wd_X8_11, Or.inr ⟨by decide +kernel, Or.inr ⟨rfl, rfl, rfl⟩⟩⟩, List.forall_mem_cons.mpr ⟨⟨_, _, _, _, cl_X8, by decide, wd_X8_12, Or.inr ⟨by decide +kernel, Or.inr ⟨rfl, rfl, rfl⟩⟩⟩, List.forall_mem_cons.mpr ⟨⟨_, _, _, _, cl_X8, by decide, wd_X8_13, Or.inr ⟨by decide +kernel, Or.inr ⟨rfl, rfl, rfl⟩⟩⟩, List.forall_mem_cons.mpr ⟨⟨_, _, _, _, cl_X8, by decide, wd_X8_14, Or.inr ⟨by decide +kernel, Or.inr ⟨rfl, rfl, rfl⟩⟩⟩, List.forall_mem_cons.mpr ⟨⟨_, _, _, _, cl_X8, by decide, wd_X8_15, Or.inr ⟨by decide +kernel, Or.inr ⟨rfl, rfl, rfl⟩⟩⟩, List.forall_mem_cons.mpr ⟨⟨_, _, _, _, cl_X8, by decide, wd_X8_16, Or.inr ⟨by decide +kernel, Or.inr ⟨rfl, rfl, rfl⟩⟩⟩, List.forall_mem_cons.mpr ⟨⟨_, _, _, _, cl_X8, by decide, wd_X8_17, Or.inr ⟨by decide +kernel, Or.inr ⟨rfl, rfl, rfl⟩⟩⟩, List.forall_mem_cons.mpr ⟨⟨_, _, _, _, cl_X8, by decide, wd_X8_18, Or.inr ⟨by decide +kernel, Or.inl ⟨rfl, rfl⟩⟩⟩, List.forall_mem_cons.mpr ⟨⟨_, _, _, _, cl_X8, by decide, wd_X8_19, Or.inr ⟨by decide +kernel, Or.inl ⟨rfl, rfl⟩⟩⟩, List.forall_mem_cons.mpr ⟨⟨_, _, _, _, cl_X8, by decide, wd_X8_20, Or.inr ⟨by decide +kernel, Or.inl ⟨rfl, rfl⟩⟩⟩, List.forall_mem_cons.mpr ⟨⟨_, _, _, _, cl_X8, by decide, wd_X8_21, Or.inr ⟨by decide +kernel, Or.inl ⟨rfl, rfl⟩⟩⟩, List.forall_mem_cons.mpr ⟨⟨_, _, _, _, cl_X8, by decide, wd_X8_22, Or.inr ⟨by decide +kernel, Or.inl ⟨rfl, rfl⟩⟩⟩, List.forall_mem_nil _⟩⟩⟩⟩⟩⟩⟩⟩⟩⟩⟩⟩⟩⟩⟩⟩⟩⟩⟩⟩⟩⟩⟩
set_option maxRecDepth 20000 in
theorem kk_X8 : ∀ e ∈ kl_X8, x_Kl RX8 e := List.forall_mem_cons.mpr ⟨wd_X8_167, List.forall_mem_cons.mpr ⟨wd_X8_168, List.forall_mem_cons.mpr ⟨wd_X8_169, List.forall_mem_cons.mpr ⟨wd_X8_170, List.forall_mem_cons.mpr ⟨wd_X8_171, List.forall_mem_cons.mpr ⟨wd_X8_172, List.forall_mem_cons.mpr ⟨wd_X8_173, List.forall_mem_cons.mpr ⟨wd_X8_174, List.forall_mem_cons.mpr ⟨wd_X8_175, List.forall_mem_cons.mpr ⟨wd_X8_176, List.forall_mem_cons.mpr ⟨wd_X8_177, List.forall_mem_cons.mpr ⟨wd_X8_178, List.forall_mem_cons.mpr ⟨wd_X8_179, List.forall_mem_cons.mpr ⟨wd_X8_180, List.forall_mem_cons.mpr ⟨wd_X8_181, List.forall_mem_cons.mpr ⟨wd_X8_182, List.forall_mem_cons.mpr ⟨wd_X8_183, List.forall_mem_cons.mpr ⟨wd_X8_184, List.forall_mem_cons.mpr ⟨wd_X8_185, List.forall_mem_cons.mpr ⟨wd_X8_186, List.forall_mem_cons.mpr ⟨wd_X8_187, List.forall_mem_cons.mpr ⟨wd_X8_188, List.forall_mem_cons.mpr ⟨wd_X8_189, List.forall_mem_cons.mpr ⟨wd_X8_190, List.forall_mem_cons.mpr ⟨wd_X8_191, List.forall_mem_cons.mpr ⟨wd_X8_192, List.forall_mem_cons.mpr ⟨wd_X8_193, List.forall_mem_cons.mpr ⟨wd_X8_194, List.forall_mem_cons.mpr ⟨wd_X8_195, List.forall_mem_cons.mpr ⟨wd_X8_196, List.forall_mem_cons.mpr ⟨wd_X8_197, List.forall_mem_cons.mpr ⟨wd_X8_198, List.forall_mem_cons.mpr ⟨wd_X8_199, List.forall_mem_cons.mpr ⟨wd_X8_200, List.forall_mem_cons.mpr ⟨wd_X8_201, List.forall_mem_cons.mpr ⟨wd_X8_202, List.forall_mem_cons.mpr ⟨wd_X8_203, List.forall_mem_cons.mpr ⟨wd_X8_204, List.forall_mem_cons.mpr ⟨wd_X8_205, List.forall_mem_cons.mpr ⟨wd_X8_206, List.forall_mem_cons.mpr ⟨wd_X8_207, List.forall_mem_cons.mpr ⟨wd_X8_208, List.forall_mem_cons.mpr ⟨wd_X8_209, List.forall_mem_cons.mpr ⟨wd_X8_210, List.forall_mem_cons.mpr ⟨wd_X8_211, List.forall_mem_cons.mpr ⟨wd_X8_212, List.forall_mem_cons.mpr ⟨wd_X8_213, List.forall_mem_cons.mpr ⟨wd_X8_214, List.forall_mem_cons.mpr ⟨wd_X8_215, List.forall_mem_cons.mpr ⟨wd_X8_216, List.forall_mem_cons.mpr ⟨wd_X8_217, List.forall_mem_cons.mpr ⟨wd_X8_218, List.forall_mem_cons.mpr ⟨wd_X8_219, List.forall_mem_cons.mpr ⟨wd_X8_220, List.forall_mem_cons.mpr ⟨wd_X8_221, List.forall_mem_nil _⟩⟩⟩⟩⟩⟩⟩⟩⟩⟩⟩⟩⟩⟩⟩⟩⟩⟩⟩⟩⟩⟩⟩⟩⟩⟩⟩⟩⟩⟩⟩⟩⟩⟩⟩⟩⟩⟩⟩⟩⟩⟩⟩⟩⟩⟩⟩⟩⟩⟩⟩⟩⟩⟩⟩
set_option maxRecDepth 20000 in
theorem nk_X8 : ∀ e ∈ nl_X8, x_Nl RX8 e := List.forall_mem_nil _
set_option maxRecDepth 20000 in
theorem ok_X8 : ∀ e ∈ pl_X8, x_Sl0 RX8 e := List.forall_mem_cons.mpr ⟨wd_X8_222, List.forall_mem_nil _⟩
set_option maxRecDepth 20000 in
theorem vk_X8 : ∀ e ∈ vl_X8, x_Vl x_MM RX8 e := List.forall_mem_cons.mpr ⟨⟨m_X8_cells, _, rfl, rfl, rfl, rfl, wd_X8_23, wd_X8_24, wd_X8_25, wd_X8_26, by decide +kernel⟩, List.forall_mem_cons.mpr ⟨⟨m_X8_boxOf, _, rfl, rfl, rfl, rfl, wd_X8_27, wd_X8_28, wd_X8_29, wd_X8_26, by decide +kernel⟩, List.forall_mem_cons.mpr ⟨⟨m_X8_at, _, rfl, rfl, rfl, rfl, wd_X8_30, wd_X8_31, wd_X8_32, wd_X8_26, by decide +kernel⟩, List.forall_mem_cons.mpr ⟨⟨m_X8_has, _, rfl, rfl, rfl, rfl, wd_X8_33, wd_X8_34, wd_X8_35, wd_X8_26, by decide +kernel⟩, List.forall_mem_cons.mpr ⟨⟨m_X8_places, _, rfl, rfl, rfl, rfl, wd_X8_36, wd_X8_37, wd_X8_38, wd_X8_26, by decide +kernel⟩, List.forall_mem_cons.mpr ⟨⟨m_X8_sees, _, rfl, rfl, rfl, rfl, wd_X8_39, wd_X8_40, wd_X8_41, wd_X8_26, by decide +kernel⟩, List.forall_mem_cons.mpr ⟨⟨m_X8_isCell, _, rfl, rfl, rfl, rfl, wd_X8_42, wd_X8_43, wd_X8_44, wd_X8_26, by decide +kernel⟩, List.forall_mem_cons.mpr ⟨⟨m_X8_fails, _, rfl, rfl, rfl, rfl, wd_X8_45, wd_X8_46, wd_X8_47, wd_X8_26, by decide +kernel⟩, List.forall_mem_cons.mpr ⟨⟨m_X8_isSymbol, _, rfl, rfl, rfl, rfl, wd_X8_48, wd_X8_49, wd_X8_50, wd_X8_26, by decide +kernel⟩, List.forall_mem_cons.mpr ⟨⟨m_X8_put, _, rfl, rfl, rfl, rfl, wd_X8_51, wd_X8_52, wd_X8_53, wd_X8_26, by decide +kernel⟩, List.forall_mem_cons.mpr ⟨⟨m_X8_changed, _, rfl, rfl, rfl, rfl, wd_X8_54, wd_X8_55, wd_X8_56, wd_X8_26, by decide +kernel⟩, List.forall_mem_cons.mpr ⟨⟨m_X8_leaves, _, rfl, rfl, rfl, rfl, wd_X8_57, wd_X8_58, wd_X8_59, wd_X8_26, by decide +kernel⟩, List.forall_mem_cons.mpr ⟨⟨m_X8_sets, _, rfl, rfl, rfl, rfl, wd_X8_60, wd_X8_61, wd_X8_62, wd_X8_26, by decide +kernel⟩, List.forall_mem_cons.mpr ⟨⟨m_X8_isIn, _, rfl, rfl, rfl, rfl, wd_X8_63, wd_X8_64, wd_X8_65, wd_X8_26, by decide +kernel⟩, List.forall_mem_cons.mpr ⟨⟨m_X8_none, _, rfl, rfl, rfl, rfl, wd_X8_66, wd_X8_67, wd_X8_68, wd_X8_26, by decide +kernel⟩, List.forall_mem_cons.mpr ⟨⟨m_X8_takes, _, rfl, rfl, rfl, rfl, wd_X8_69, wd_X8_70, wd_X8_71, wd_X8_26, by decide +kernel⟩, List.forall_mem_cons.mpr ⟨⟨m_X8_common, _, rfl, rfl, rfl, rfl, wd_X8_72, wd_X8_73, wd_X8_74, wd_X8_26, by decide +kernel⟩, List.forall_mem_cons.mpr ⟨⟨m_X8_crosses, _, rfl, rfl, rfl, rfl, wd_X8_75, wd_X8_76, wd_X8_77, wd_X8_26, by decide +kernel⟩, List.forall_mem_cons.mpr ⟨⟨m_X8_first, _, rfl, rfl, rfl, rfl, wd_X8_78, wd_X8_79, wd_X8_80, wd_X8_26, by decide +kernel⟩, List.forall_mem_cons.mpr ⟨⟨m_X8_isPicked, _, rfl, rfl, rfl, rfl, wd_X8_81, wd_X8_82, wd_X8_83, wd_X8_26, by decide +kernel⟩, List.forall_mem_cons.mpr ⟨⟨m_X8_next, _, rfl, rfl, rfl, rfl, wd_X8_84, wd_X8_85, wd_X8_86, wd_X8_26, by decide +kernel⟩, List.forall_mem_cons.mpr ⟨⟨m_X8_isOpenIn, _, rfl, rfl, rfl, rfl, wd_X8_87, wd_X8_88, wd_X8_89, wd_X8_26, by decide +kernel⟩, List.forall_mem_cons.mpr ⟨⟨m_X8_isWing, _, rfl, rfl, rfl, rfl, wd_X8_90, wd_X8_91, wd_X8_92, wd_X8_26, by decide +kernel⟩, List.forall_mem_cons.mpr ⟨⟨m_X8_isLinked, _, rfl, rfl, rfl, rfl, wd_X8_93, wd_X8_94, wd_X8_95, wd_X8_26, by decide +kernel⟩, List.forall_mem_cons.mpr ⟨⟨m_X8_colour, _, rfl, rfl, rfl, rfl, wd_X8_96, wd_X8_97, wd_X8_98, wd_X8_26, by decide +kernel⟩, List.forall_mem_cons.mpr ⟨⟨m_X8_clash, _, rfl, rfl, rfl, rfl, wd_X8_99, wd_X8_100, wd_X8_101, wd_X8_26, by decide +kernel⟩, List.forall_mem_cons.mpr ⟨⟨m_X8_seesOne, _, rfl, rfl, rfl, rfl, wd_X8_102, wd_X8_103, wd_X8_104, wd_X8_26, by decide +kernel⟩, List.forall_mem_cons.mpr ⟨⟨m_X8_corners, _, rfl, rfl, rfl, rfl, wd_X8_105, wd_X8_106, wd_X8_107, wd_X8_26, by decide +kernel⟩, List.forall_mem_cons.mpr ⟨⟨m_X8_last, _, rfl, rfl, rfl, rfl, wd_X8_108, wd_X8_109, wd_X8_110, wd_X8_26, by decide +kernel⟩, List.forall_mem_cons.mpr ⟨⟨m_X8_only, _, rfl, rfl, rfl, rfl, wd_X8_111, wd_X8_112, wd_X8_113, wd_X8_26, by decide +kernel⟩, List.forall_mem_cons.mpr ⟨⟨m_X8_pointing, _, rfl, rfl, rfl, rfl, wd_X8_114, wd_X8_115, wd_X8_116, wd_X8_26, by decide +kernel⟩, List.forall_mem_cons.mpr ⟨⟨m_X8_claiming, _, rfl, rfl, rfl, rfl, wd_X8_117, wd_X8_118, wd_X8_119, wd_X8_26, by decide +kernel⟩, List.forall_mem_cons.mpr ⟨⟨m_X8_naked, _, rfl, rfl, rfl, rfl, wd_X8_120, wd_X8_121, wd_X8_122, wd_X8_26, by decide +kernel⟩, List.forall_mem_cons.mpr ⟨⟨m_X8_hidden, _, rfl, rfl, rfl, rfl, wd_X8_123, wd_X8_124, wd_X8_125, wd_X8_26, by decide +kernel⟩, List.forall_mem_cons.mpr ⟨⟨m_X8_fish, _, rfl, rfl, rfl, rfl, wd_X8_126, wd_X8_127, wd_X8_128, wd_X8_26, by decide +kernel⟩, List.forall_mem_cons.mpr ⟨⟨m_X8_wing, _, rfl, rfl, rfl, rfl, wd_X8_129, wd_X8_130, wd_X8_131, wd_X8_26, by decide +kernel⟩, List.forall_mem_cons.mpr ⟨⟨m_X8_colours, _, rfl, rfl, rfl, rfl, wd_X8_132, wd_X8_133, wd_X8_134, wd_X8_26, by decide +kernel⟩, List.forall_mem_cons.mpr ⟨⟨m_X8_rectangle, _, rfl, rfl, rfl, rfl, wd_X8_135, wd_X8_136, wd_X8_137, wd_X8_26, by decide +kernel⟩, List.forall_mem_cons.mpr ⟨⟨m_X8_isBroken, _, rfl, rfl, rfl, rfl, wd_X8_138, wd_X8_139, wd_X8_140, wd_X8_26, by decide +kernel⟩, List.forall_mem_cons.mpr ⟨⟨m_X8_look, _, rfl, rfl, rfl, rfl, wd_X8_141, wd_X8_142, wd_X8_143, wd_X8_26, by decide +kernel⟩, List.forall_mem_cons.mpr ⟨⟨m_X8_search, _, rfl, rfl, rfl, rfl, wd_X8_144, wd_X8_145, wd_X8_146, wd_X8_26, by decide +kernel⟩, List.forall_mem_cons.mpr ⟨⟨m_X8_reasonMany, _, rfl, rfl, rfl, rfl, wd_X8_147, wd_X8_148, wd_X8_149, wd_X8_26, by decide +kernel⟩, List.forall_mem_cons.mpr ⟨⟨m_X8_goMany, _, rfl, rfl, rfl, rfl, wd_X8_150, wd_X8_151, wd_X8_152, wd_X8_26, by decide +kernel⟩, List.forall_mem_cons.mpr ⟨⟨m_X8_reasonAt, _, rfl, rfl, rfl, rfl, wd_X8_153, wd_X8_154, wd_X8_155, wd_X8_26, by decide +kernel⟩, List.forall_mem_cons.mpr ⟨⟨m_X8_act, _, rfl, rfl, rfl, rfl, wd_X8_156, wd_X8_157, wd_X8_158, wd_X8_26, by decide +kernel⟩, List.forall_mem_nil _⟩⟩⟩⟩⟩⟩⟩⟩⟩⟩⟩⟩⟩⟩⟩⟩⟩⟩⟩⟩⟩⟩⟩⟩⟩⟩⟩⟩⟩⟩⟩⟩⟩⟩⟩⟩⟩⟩⟩⟩⟩⟩⟩⟩⟩
set_option maxRecDepth 20000 in
theorem sk_X8 {En : (Nat → Prop) → State → Heap → Prop} (hN : x_NW En) : ∀ e ∈ sl_X8, x_Sl x_MM En RX8 e := List.forall_mem_cons.mpr ⟨fun _ => ⟨m_X8_countOf, rfl, Or.inl ⟨rfl, wd_X8_159⟩, wd_X8_160, wd_X8_26, by decide +kernel⟩, List.forall_mem_cons.mpr ⟨fun _ => ⟨m_X8_lowest, rfl, Or.inl ⟨rfl, wd_X8_161⟩, wd_X8_162, wd_X8_26, by decide +kernel⟩, List.forall_mem_cons.mpr ⟨fun _ => ⟨m_X8_part, rfl, Or.inl ⟨rfl, wd_X8_163⟩, wd_X8_164, wd_X8_26, by decide +kernel⟩, List.forall_mem_cons.mpr ⟨fun _ => ⟨m_X8_nameByte, rfl, Or.inl ⟨rfl, wd_X8_165⟩, wd_X8_166, wd_X8_26, by decide +kernel⟩, List.forall_mem_nil _⟩⟩⟩⟩
theorem sm_X8 : ∀ e ∈ sl_X8, x_Ml RX8 e := List.forall_mem_cons.mpr ⟨fun h => absurd h (by decide), List.forall_mem_cons.mpr ⟨fun h => absurd h (by decide), List.forall_mem_cons.mpr ⟨fun h => absurd h (by decide), List.forall_mem_cons.mpr ⟨fun h => absurd h (by decide), List.forall_mem_nil _⟩⟩⟩⟩
set_option maxRecDepth 20000 in
theorem pk_X8 : ∀ e ∈ pl_X8, x_Pl x_MM RX8 e := List.forall_mem_cons.mpr ⟨trivial, List.forall_mem_nil _⟩
theorem tb_X8_init : x_Tb m_X8_init := x_Tb_of true ci_X8_init fj_X8 (fun _ => rfl) kk_X8 nk_X8 ok_X8 sm_X8
theorem tc_X8_init {En : (Nat → Prop) → State → Heap → Prop} (hN : x_NW En) : x_Tc x_MM En m_X8_init := x_Tc_of vk_X8 (sk_X8 hN) pk_X8
theorem tb_X8_thrown : x_Tb m_X8_thrown := x_Tb_of false ci_X8_thrown fk_X8 (fun h => by cases h) kk_X8 nk_X8 ok_X8 sm_X8
theorem tc_X8_thrown {En : (Nat → Prop) → State → Heap → Prop} (hN : x_NW En) : x_Tc x_MM En m_X8_thrown := x_Tc_of vk_X8 (sk_X8 hN) pk_X8
theorem tb_X8_fails : x_Tb m_X8_fails := x_Tb_of false ci_X8_fails fk_X8 (fun h => by cases h) kk_X8 nk_X8 ok_X8 sm_X8
theorem tc_X8_fails {En : (Nat → Prop) → State → Heap → Prop} (hN : x_NW En) : x_Tc x_MM En m_X8_fails := x_Tc_of vk_X8 (sk_X8 hN) pk_X8
theorem tb_X8_cells : x_Tb m_X8_cells := x_Tb_of false ci_X8_cells fk_X8 (fun h => by cases h) kk_X8 nk_X8 ok_X8 sm_X8
theorem tc_X8_cells {En : (Nat → Prop) → State → Heap → Prop} (hN : x_NW En) : x_Tc x_MM En m_X8_cells := x_Tc_of vk_X8 (sk_X8 hN) pk_X8
theorem tb_X8_isCell : x_Tb m_X8_isCell := x_Tb_of false ci_X8_isCell fk_X8 (fun h => by cases h) kk_X8 nk_X8 ok_X8 sm_X8
theorem tc_X8_isCell {En : (Nat → Prop) → State → Heap → Prop} (hN : x_NW En) : x_Tc x_MM En m_X8_isCell := x_Tc_of vk_X8 (sk_X8 hN) pk_X8
theorem tb_X8_isSymbol : x_Tb m_X8_isSymbol := x_Tb_of false ci_X8_isSymbol fk_X8 (fun h => by cases h) kk_X8 nk_X8 ok_X8 sm_X8
theorem tc_X8_isSymbol {En : (Nat → Prop) → State → Heap → Prop} (hN : x_NW En) : x_Tc x_MM En m_X8_isSymbol := x_Tc_of vk_X8 (sk_X8 hN) pk_X8
theorem tb_X8_boxOf : x_Tb m_X8_boxOf := x_Tb_of false ci_X8_boxOf fk_X8 (fun h => by cases h) kk_X8 nk_X8 ok_X8 sm_X8
theorem tc_X8_boxOf {En : (Nat → Prop) → State → Heap → Prop} (hN : x_NW En) : x_Tc x_MM En m_X8_boxOf := x_Tc_of vk_X8 (sk_X8 hN) pk_X8
theorem tb_X8_isIn : x_Tb m_X8_isIn := x_Tb_of false ci_X8_isIn fk_X8 (fun h => by cases h) kk_X8 nk_X8 ok_X8 sm_X8
theorem tc_X8_isIn {En : (Nat → Prop) → State → Heap → Prop} (hN : x_NW En) : x_Tc x_MM En m_X8_isIn := x_Tc_of vk_X8 (sk_X8 hN) pk_X8
theorem tb_X8_at : x_Tb m_X8_at := x_Tb_of false ci_X8_at fk_X8 (fun h => by cases h) kk_X8 nk_X8 ok_X8 sm_X8
theorem tc_X8_at {En : (Nat → Prop) → State → Heap → Prop} (hN : x_NW En) : x_Tc x_MM En m_X8_at := x_Tc_of vk_X8 (sk_X8 hN) pk_X8
theorem tb_X8_sees : x_Tb m_X8_sees := x_Tb_of false ci_X8_sees fk_X8 (fun h => by cases h) kk_X8 nk_X8 ok_X8 sm_X8
theorem tc_X8_sees {En : (Nat → Prop) → State → Heap → Prop} (hN : x_NW En) : x_Tc x_MM En m_X8_sees := x_Tc_of vk_X8 (sk_X8 hN) pk_X8
theorem tb_X8_has : x_Tb m_X8_has := x_Tb_of false ci_X8_has fk_X8 (fun h => by cases h) kk_X8 nk_X8 ok_X8 sm_X8
theorem tc_X8_has {En : (Nat → Prop) → State → Heap → Prop} (hN : x_NW En) : x_Tc x_MM En m_X8_has := x_Tc_of vk_X8 (sk_X8 hN) pk_X8
theorem tb_X8_countOf : x_Tb m_X8_countOf := x_Tb_of false ci_X8_countOf fk_X8 (fun h => by cases h) kk_X8 nk_X8 ok_X8 sm_X8
theorem tc_X8_countOf {En : (Nat → Prop) → State → Heap → Prop} (hN : x_NW En) : x_Tc x_MM En m_X8_countOf := x_Tc_of vk_X8 (sk_X8 hN) pk_X8
theorem tb_X8_places : x_Tb m_X8_places := x_Tb_of false ci_X8_places fk_X8 (fun h => by cases h) kk_X8 nk_X8 ok_X8 sm_X8
theorem tc_X8_places {En : (Nat → Prop) → State → Heap → Prop} (hN : x_NW En) : x_Tc x_MM En m_X8_places := x_Tc_of vk_X8 (sk_X8 hN) pk_X8
theorem tb_X8_isBroken : x_Tb m_X8_isBroken := x_Tb_of false ci_X8_isBroken fk_X8 (fun h => by cases h) kk_X8 nk_X8 ok_X8 sm_X8
theorem tc_X8_isBroken {En : (Nat → Prop) → State → Heap → Prop} (hN : x_NW En) : x_Tc x_MM En m_X8_isBroken := x_Tc_of vk_X8 (sk_X8 hN) pk_X8
theorem tb_X8_put : x_Tb m_X8_put := x_Tb_of false ci_X8_put fk_X8 (fun h => by cases h) kk_X8 nk_X8 ok_X8 sm_X8
theorem tc_X8_put {En : (Nat → Prop) → State → Heap → Prop} (hN : x_NW En) : x_Tc x_MM En m_X8_put := x_Tc_of vk_X8 (sk_X8 hN) pk_X8
theorem tb_X8_changed : x_Tb m_X8_changed := x_Tb_of false ci_X8_changed fk_X8 (fun h => by cases h) kk_X8 nk_X8 ok_X8 sm_X8
theorem tc_X8_changed {En : (Nat → Prop) → State → Heap → Prop} (hN : x_NW En) : x_Tc x_MM En m_X8_changed := x_Tc_of vk_X8 (sk_X8 hN) pk_X8
theorem tb_X8_set : x_Tb m_X8_set := x_Tb_of false ci_X8_set fk_X8 (fun h => by cases h) kk_X8 nk_X8 ok_X8 sm_X8
theorem tc_X8_set {En : (Nat → Prop) → State → Heap → Prop} (hN : x_NW En) : x_Tc x_MM En m_X8_set := x_Tc_of vk_X8 (sk_X8 hN) pk_X8
theorem tb_X8_take : x_Tb m_X8_take := x_Tb_of false ci_X8_take fk_X8 (fun h => by cases h) kk_X8 nk_X8 ok_X8 sm_X8
theorem tc_X8_take {En : (Nat → Prop) → State → Heap → Prop} (hN : x_NW En) : x_Tc x_MM En m_X8_take := x_Tc_of vk_X8 (sk_X8 hN) pk_X8
theorem tb_X8_enable : x_Tb m_X8_enable := x_Tb_of false ci_X8_enable fk_X8 (fun h => by cases h) kk_X8 nk_X8 ok_X8 sm_X8
theorem tc_X8_enable {En : (Nat → Prop) → State → Heap → Prop} (hN : x_NW En) : x_Tc x_MM En m_X8_enable := x_Tc_of vk_X8 (sk_X8 hN) pk_X8
theorem tb_X8_none : x_Tb m_X8_none := x_Tb_of false ci_X8_none fk_X8 (fun h => by cases h) kk_X8 nk_X8 ok_X8 sm_X8
theorem tc_X8_none {En : (Nat → Prop) → State → Heap → Prop} (hN : x_NW En) : x_Tc x_MM En m_X8_none := x_Tc_of vk_X8 (sk_X8 hN) pk_X8
theorem tb_X8_leaves : x_Tb m_X8_leaves := x_Tb_of false ci_X8_leaves fk_X8 (fun h => by cases h) kk_X8 nk_X8 ok_X8 sm_X8
theorem tc_X8_leaves {En : (Nat → Prop) → State → Heap → Prop} (hN : x_NW En) : x_Tc x_MM En m_X8_leaves := x_Tc_of vk_X8 (sk_X8 hN) pk_X8
theorem tb_X8_takes : x_Tb m_X8_takes := x_Tb_of false ci_X8_takes fk_X8 (fun h => by cases h) kk_X8 nk_X8 ok_X8 sm_X8
theorem tc_X8_takes {En : (Nat → Prop) → State → Heap → Prop} (hN : x_NW En) : x_Tc x_MM En m_X8_takes := x_Tc_of vk_X8 (sk_X8 hN) pk_X8
theorem tb_X8_sets : x_Tb m_X8_sets := x_Tb_of false ci_X8_sets fk_X8 (fun h => by cases h) kk_X8 nk_X8 ok_X8 sm_X8
theorem tc_X8_sets {En : (Nat → Prop) → State → Heap → Prop} (hN : x_NW En) : x_Tc x_MM En m_X8_sets := x_Tc_of vk_X8 (sk_X8 hN) pk_X8
theorem tb_X8_first : x_Tb m_X8_first := x_Tb_of false ci_X8_first fk_X8 (fun h => by cases h) kk_X8 nk_X8 ok_X8 sm_X8
theorem tc_X8_first {En : (Nat → Prop) → State → Heap → Prop} (hN : x_NW En) : x_Tc x_MM En m_X8_first := x_Tc_of vk_X8 (sk_X8 hN) pk_X8
theorem tb_X8_next : x_Tb m_X8_next := x_Tb_of false ci_X8_next fk_X8 (fun h => by cases h) kk_X8 nk_X8 ok_X8 sm_X8
theorem tc_X8_next {En : (Nat → Prop) → State → Heap → Prop} (hN : x_NW En) : x_Tc x_MM En m_X8_next := x_Tc_of vk_X8 (sk_X8 hN) pk_X8
theorem tb_X8_isPicked : x_Tb m_X8_isPicked := x_Tb_of false ci_X8_isPicked fk_X8 (fun h => by cases h) kk_X8 nk_X8 ok_X8 sm_X8
theorem tc_X8_isPicked {En : (Nat → Prop) → State → Heap → Prop} (hN : x_NW En) : x_Tc x_MM En m_X8_isPicked := x_Tc_of vk_X8 (sk_X8 hN) pk_X8
theorem tb_X8_last : x_Tb m_X8_last := x_Tb_of false ci_X8_last fk_X8 (fun h => by cases h) kk_X8 nk_X8 ok_X8 sm_X8
theorem tc_X8_last {En : (Nat → Prop) → State → Heap → Prop} (hN : x_NW En) : x_Tc x_MM En m_X8_last := x_Tc_of vk_X8 (sk_X8 hN) pk_X8
theorem tb_X8_lowest : x_Tb m_X8_lowest := x_Tb_of false ci_X8_lowest fk_X8 (fun h => by cases h) kk_X8 nk_X8 ok_X8 sm_X8
theorem tc_X8_lowest {En : (Nat → Prop) → State → Heap → Prop} (hN : x_NW En) : x_Tc x_MM En m_X8_lowest := x_Tc_of vk_X8 (sk_X8 hN) pk_X8
theorem tb_X8_only : x_Tb m_X8_only := x_Tb_of false ci_X8_only fk_X8 (fun h => by cases h) kk_X8 nk_X8 ok_X8 sm_X8
theorem tc_X8_only {En : (Nat → Prop) → State → Heap → Prop} (hN : x_NW En) : x_Tc x_MM En m_X8_only := x_Tc_of vk_X8 (sk_X8 hN) pk_X8
theorem tb_X8_common : x_Tb m_X8_common := x_Tb_of false ci_X8_common fk_X8 (fun h => by cases h) kk_X8 nk_X8 ok_X8 sm_X8
theorem tc_X8_common {En : (Nat → Prop) → State → Heap → Prop} (hN : x_NW En) : x_Tc x_MM En m_X8_common := x_Tc_of vk_X8 (sk_X8 hN) pk_X8
theorem tb_X8_crosses : x_Tb m_X8_crosses := x_Tb_of false ci_X8_crosses fk_X8 (fun h => by cases h) kk_X8 nk_X8 ok_X8 sm_X8
theorem tc_X8_crosses {En : (Nat → Prop) → State → Heap → Prop} (hN : x_NW En) : x_Tc x_MM En m_X8_crosses := x_Tc_of vk_X8 (sk_X8 hN) pk_X8
theorem tb_X8_pointing : x_Tb m_X8_pointing := x_Tb_of false ci_X8_pointing fk_X8 (fun h => by cases h) kk_X8 nk_X8 ok_X8 sm_X8
theorem tc_X8_pointing {En : (Nat → Prop) → State → Heap → Prop} (hN : x_NW En) : x_Tc x_MM En m_X8_pointing := x_Tc_of vk_X8 (sk_X8 hN) pk_X8
theorem tb_X8_claiming : x_Tb m_X8_claiming := x_Tb_of false ci_X8_claiming fk_X8 (fun h => by cases h) kk_X8 nk_X8 ok_X8 sm_X8
theorem tc_X8_claiming {En : (Nat → Prop) → State → Heap → Prop} (hN : x_NW En) : x_Tc x_MM En m_X8_claiming := x_Tc_of vk_X8 (sk_X8 hN) pk_X8
theorem tb_X8_naked : x_Tb m_X8_naked := x_Tb_of false ci_X8_naked fk_X8 (fun h => by cases h) kk_X8 nk_X8 ok_X8 sm_X8
theorem tc_X8_naked {En : (Nat → Prop) → State → Heap → Prop} (hN : x_NW En) : x_Tc x_MM En m_X8_naked := x_Tc_of vk_X8 (sk_X8 hN) pk_X8
theorem tb_X8_isOpenIn : x_Tb m_X8_isOpenIn := x_Tb_of false ci_X8_isOpenIn fk_X8 (fun h => by cases h) kk_X8 nk_X8 ok_X8 sm_X8
theorem tc_X8_isOpenIn {En : (Nat → Prop) → State → Heap → Prop} (hN : x_NW En) : x_Tc x_MM En m_X8_isOpenIn := x_Tc_of vk_X8 (sk_X8 hN) pk_X8
theorem tb_X8_hidden : x_Tb m_X8_hidden := x_Tb_of false ci_X8_hidden fk_X8 (fun h => by cases h) kk_X8 nk_X8 ok_X8 sm_X8
theorem tc_X8_hidden {En : (Nat → Prop) → State → Heap → Prop} (hN : x_NW En) : x_Tc x_MM En m_X8_hidden := x_Tc_of vk_X8 (sk_X8 hN) pk_X8
theorem tb_X8_fish : x_Tb m_X8_fish := x_Tb_of false ci_X8_fish fk_X8 (fun h => by cases h) kk_X8 nk_X8 ok_X8 sm_X8
theorem tc_X8_fish {En : (Nat → Prop) → State → Heap → Prop} (hN : x_NW En) : x_Tc x_MM En m_X8_fish := x_Tc_of vk_X8 (sk_X8 hN) pk_X8
theorem tb_X8_wing : x_Tb m_X8_wing := x_Tb_of false ci_X8_wing fk_X8 (fun h => by cases h) kk_X8 nk_X8 ok_X8 sm_X8
theorem tc_X8_wing {En : (Nat → Prop) → State → Heap → Prop} (hN : x_NW En) : x_Tc x_MM En m_X8_wing := x_Tc_of vk_X8 (sk_X8 hN) pk_X8
theorem tb_X8_isWing : x_Tb m_X8_isWing := x_Tb_of false ci_X8_isWing fk_X8 (fun h => by cases h) kk_X8 nk_X8 ok_X8 sm_X8
theorem tc_X8_isWing {En : (Nat → Prop) → State → Heap → Prop} (hN : x_NW En) : x_Tc x_MM En m_X8_isWing := x_Tc_of vk_X8 (sk_X8 hN) pk_X8
theorem tb_X8_isLinked : x_Tb m_X8_isLinked := x_Tb_of false ci_X8_isLinked fk_X8 (fun h => by cases h) kk_X8 nk_X8 ok_X8 sm_X8
theorem tc_X8_isLinked {En : (Nat → Prop) → State → Heap → Prop} (hN : x_NW En) : x_Tc x_MM En m_X8_isLinked := x_Tc_of vk_X8 (sk_X8 hN) pk_X8
theorem tb_X8_colour : x_Tb m_X8_colour := x_Tb_of false ci_X8_colour fk_X8 (fun h => by cases h) kk_X8 nk_X8 ok_X8 sm_X8
theorem tc_X8_colour {En : (Nat → Prop) → State → Heap → Prop} (hN : x_NW En) : x_Tc x_MM En m_X8_colour := x_Tc_of vk_X8 (sk_X8 hN) pk_X8
theorem tb_X8_clash : x_Tb m_X8_clash := x_Tb_of false ci_X8_clash fk_X8 (fun h => by cases h) kk_X8 nk_X8 ok_X8 sm_X8
theorem tc_X8_clash {En : (Nat → Prop) → State → Heap → Prop} (hN : x_NW En) : x_Tc x_MM En m_X8_clash := x_Tc_of vk_X8 (sk_X8 hN) pk_X8
theorem tb_X8_seesOne : x_Tb m_X8_seesOne := x_Tb_of false ci_X8_seesOne fk_X8 (fun h => by cases h) kk_X8 nk_X8 ok_X8 sm_X8
theorem tc_X8_seesOne {En : (Nat → Prop) → State → Heap → Prop} (hN : x_NW En) : x_Tc x_MM En m_X8_seesOne := x_Tc_of vk_X8 (sk_X8 hN) pk_X8
theorem tb_X8_colours : x_Tb m_X8_colours := x_Tb_of false ci_X8_colours fk_X8 (fun h => by cases h) kk_X8 nk_X8 ok_X8 sm_X8
theorem tc_X8_colours {En : (Nat → Prop) → State → Heap → Prop} (hN : x_NW En) : x_Tc x_MM En m_X8_colours := x_Tc_of vk_X8 (sk_X8 hN) pk_X8
theorem tb_X8_corners : x_Tb m_X8_corners := x_Tb_of false ci_X8_corners fk_X8 (fun h => by cases h) kk_X8 nk_X8 ok_X8 sm_X8
theorem tc_X8_corners {En : (Nat → Prop) → State → Heap → Prop} (hN : x_NW En) : x_Tc x_MM En m_X8_corners := x_Tc_of vk_X8 (sk_X8 hN) pk_X8
theorem tb_X8_rectangle : x_Tb m_X8_rectangle := x_Tb_of false ci_X8_rectangle fk_X8 (fun h => by cases h) kk_X8 nk_X8 ok_X8 sm_X8
theorem tc_X8_rectangle {En : (Nat → Prop) → State → Heap → Prop} (hN : x_NW En) : x_Tc x_MM En m_X8_rectangle := x_Tc_of vk_X8 (sk_X8 hN) pk_X8
theorem tb_X8_look : x_Tb m_X8_look := x_Tb_of false ci_X8_look fk_X8 (fun h => by cases h) kk_X8 nk_X8 ok_X8 sm_X8
theorem tc_X8_look {En : (Nat → Prop) → State → Heap → Prop} (hN : x_NW En) : x_Tc x_MM En m_X8_look := x_Tc_of vk_X8 (sk_X8 hN) pk_X8
theorem tb_X8_search : x_Tb m_X8_search := x_Tb_of false ci_X8_search fk_X8 (fun h => by cases h) kk_X8 nk_X8 ok_X8 sm_X8
theorem tc_X8_search {En : (Nat → Prop) → State → Heap → Prop} (hN : x_NW En) : x_Tc x_MM En m_X8_search := x_Tc_of vk_X8 (sk_X8 hN) pk_X8
theorem tb_X8_find : x_Tb m_X8_find := x_Tb_of false ci_X8_find fk_X8 (fun h => by cases h) kk_X8 nk_X8 ok_X8 sm_X8
theorem tc_X8_find {En : (Nat → Prop) → State → Heap → Prop} (hN : x_NW En) : x_Tc x_MM En m_X8_find := x_Tc_of vk_X8 (sk_X8 hN) pk_X8
theorem tb_X8_goMany : x_Tb m_X8_goMany := x_Tb_of false ci_X8_goMany fk_X8 (fun h => by cases h) kk_X8 nk_X8 ok_X8 sm_X8
theorem tc_X8_goMany {En : (Nat → Prop) → State → Heap → Prop} (hN : x_NW En) : x_Tc x_MM En m_X8_goMany := x_Tc_of vk_X8 (sk_X8 hN) pk_X8
theorem tb_X8_reasonMany : x_Tb m_X8_reasonMany := x_Tb_of false ci_X8_reasonMany fk_X8 (fun h => by cases h) kk_X8 nk_X8 ok_X8 sm_X8
theorem tc_X8_reasonMany {En : (Nat → Prop) → State → Heap → Prop} (hN : x_NW En) : x_Tc x_MM En m_X8_reasonMany := x_Tc_of vk_X8 (sk_X8 hN) pk_X8
theorem tb_X8_found : x_Tb m_X8_found := x_Tb_of false ci_X8_found fk_X8 (fun h => by cases h) kk_X8 nk_X8 ok_X8 sm_X8
theorem tc_X8_found {En : (Nat → Prop) → State → Heap → Prop} (hN : x_NW En) : x_Tc x_MM En m_X8_found := x_Tc_of vk_X8 (sk_X8 hN) pk_X8
theorem tb_X8_reasonAt : x_Tb m_X8_reasonAt := x_Tb_of false ci_X8_reasonAt fk_X8 (fun h => by cases h) kk_X8 nk_X8 ok_X8 sm_X8
theorem tc_X8_reasonAt {En : (Nat → Prop) → State → Heap → Prop} (hN : x_NW En) : x_Tc x_MM En m_X8_reasonAt := x_Tc_of vk_X8 (sk_X8 hN) pk_X8
theorem tb_X8_reason : x_Tb m_X8_reason := x_Tb_of false ci_X8_reason fk_X8 (fun h => by cases h) kk_X8 nk_X8 ok_X8 sm_X8
theorem tc_X8_reason {En : (Nat → Prop) → State → Heap → Prop} (hN : x_NW En) : x_Tc x_MM En m_X8_reason := x_Tc_of vk_X8 (sk_X8 hN) pk_X8
theorem tb_X8_goes : x_Tb m_X8_goes := x_Tb_of false ci_X8_goes fk_X8 (fun h => by cases h) kk_X8 nk_X8 ok_X8 sm_X8
theorem tc_X8_goes {En : (Nat → Prop) → State → Heap → Prop} (hN : x_NW En) : x_Tc x_MM En m_X8_goes := x_Tc_of vk_X8 (sk_X8 hN) pk_X8
theorem tb_X8_act : x_Tb m_X8_act := x_Tb_of false ci_X8_act fk_X8 (fun h => by cases h) kk_X8 nk_X8 ok_X8 sm_X8
theorem tc_X8_act {En : (Nat → Prop) → State → Heap → Prop} (hN : x_NW En) : x_Tc x_MM En m_X8_act := x_Tc_of vk_X8 (sk_X8 hN) pk_X8
theorem tb_X8_apply : x_Tb m_X8_apply := x_Tb_of false ci_X8_apply fk_X8 (fun h => by cases h) kk_X8 nk_X8 ok_X8 sm_X8
theorem tc_X8_apply {En : (Nat → Prop) → State → Heap → Prop} (hN : x_NW En) : x_Tc x_MM En m_X8_apply := x_Tc_of vk_X8 (sk_X8 hN) pk_X8
theorem tb_X8_solve : x_Tb m_X8_solve := x_Tb_of false ci_X8_solve fk_X8 (fun h => by cases h) kk_X8 nk_X8 ok_X8 sm_X8
theorem tc_X8_solve {En : (Nat → Prop) → State → Heap → Prop} (hN : x_NW En) : x_Tc x_MM En m_X8_solve := x_Tc_of vk_X8 (sk_X8 hN) pk_X8
theorem tb_X8_undo : x_Tb m_X8_undo := x_Tb_of false ci_X8_undo fk_X8 (fun h => by cases h) kk_X8 nk_X8 ok_X8 sm_X8
theorem tc_X8_undo {En : (Nat → Prop) → State → Heap → Prop} (hN : x_NW En) : x_Tc x_MM En m_X8_undo := x_Tc_of vk_X8 (sk_X8 hN) pk_X8
theorem tb_X8_done : x_Tb m_X8_done := x_Tb_of false ci_X8_done fk_X8 (fun h => by cases h) kk_X8 nk_X8 ok_X8 sm_X8
theorem tc_X8_done {En : (Nat → Prop) → State → Heap → Prop} (hN : x_NW En) : x_Tc x_MM En m_X8_done := x_Tc_of vk_X8 (sk_X8 hN) pk_X8
theorem tb_X8_candidates : x_Tb m_X8_candidates := x_Tb_of false ci_X8_candidates fk_X8 (fun h => by cases h) kk_X8 nk_X8 ok_X8 sm_X8
theorem tc_X8_candidates {En : (Nat → Prop) → State → Heap → Prop} (hN : x_NW En) : x_Tc x_MM En m_X8_candidates := x_Tc_of vk_X8 (sk_X8 hN) pk_X8
theorem tb_X8_value : x_Tb m_X8_value := x_Tb_of false ci_X8_value fk_X8 (fun h => by cases h) kk_X8 nk_X8 ok_X8 sm_X8
theorem tc_X8_value {En : (Nat → Prop) → State → Heap → Prop} (hN : x_NW En) : x_Tc x_MM En m_X8_value := x_Tc_of vk_X8 (sk_X8 hN) pk_X8
theorem tb_X8_state : x_Tb m_X8_state := x_Tb_of false ci_X8_state fk_X8 (fun h => by cases h) kk_X8 nk_X8 ok_X8 sm_X8
theorem tc_X8_state {En : (Nat → Prop) → State → Heap → Prop} (hN : x_NW En) : x_Tc x_MM En m_X8_state := x_Tc_of vk_X8 (sk_X8 hN) pk_X8
theorem tb_X8_part : x_Tb m_X8_part := x_Tb_of false ci_X8_part fk_X8 (fun h => by cases h) kk_X8 nk_X8 ok_X8 sm_X8
theorem tc_X8_part {En : (Nat → Prop) → State → Heap → Prop} (hN : x_NW En) : x_Tc x_MM En m_X8_part := x_Tc_of vk_X8 (sk_X8 hN) pk_X8
theorem tb_X8_nameByte : x_Tb m_X8_nameByte := x_Tb_of false ci_X8_nameByte fk_X8 (fun h => by cases h) kk_X8 nk_X8 ok_X8 sm_X8
theorem tc_X8_nameByte {En : (Nat → Prop) → State → Heap → Prop} (hN : x_NW En) : x_Tc x_MM En m_X8_nameByte := x_Tc_of vk_X8 (sk_X8 hN) pk_X8
theorem tb_X8_words : x_Tb m_X8_words := x_Tb_of false ci_X8_words fk_X8 (fun h => by cases h) kk_X8 nk_X8 ok_X8 sm_X8
theorem tc_X8_words {En : (Nat → Prop) → State → Heap → Prop} (hN : x_NW En) : x_Tc x_MM En m_X8_words := x_Tc_of vk_X8 (sk_X8 hN) pk_X8
theorem tk_X8_init {En : (Nat → Prop) → State → Heap → Prop} (hN : x_NW En) : x_Ok1 En m_X8_init := ⟨tb_X8_init, tc_X8_init hN, by decide +kernel, rfl, wd_X8_223, ⟨by decide, by decide⟩, by decide⟩
theorem tk_X8_thrown {En : (Nat → Prop) → State → Heap → Prop} (hN : x_NW En) : x_Ok1 En m_X8_thrown := ⟨tb_X8_thrown, tc_X8_thrown hN, by decide +kernel, rfl, wd_X8_224, ⟨by decide, by decide⟩, by decide⟩
theorem tk_X8_fails {En : (Nat → Prop) → State → Heap → Prop} (hN : x_NW En) : x_Ok1 En m_X8_fails := ⟨tb_X8_fails, tc_X8_fails hN, by decide +kernel, rfl, wd_X8_225, ⟨by decide, by decide⟩, by decide⟩
theorem tk_X8_cells {En : (Nat → Prop) → State → Heap → Prop} (hN : x_NW En) : x_Ok1 En m_X8_cells := ⟨tb_X8_cells, tc_X8_cells hN, by decide +kernel, rfl, wd_X8_226, ⟨by decide, by decide⟩, by decide⟩
theorem tk_X8_isCell {En : (Nat → Prop) → State → Heap → Prop} (hN : x_NW En) : x_Ok1 En m_X8_isCell := ⟨tb_X8_isCell, tc_X8_isCell hN, by decide +kernel, rfl, wd_X8_227, ⟨by decide, by decide⟩, by decide⟩
theorem tk_X8_isSymbol {En : (Nat → Prop) → State → Heap → Prop} (hN : x_NW En) : x_Ok1 En m_X8_isSymbol := ⟨tb_X8_isSymbol, tc_X8_isSymbol hN, by decide +kernel, rfl, wd_X8_228, ⟨by decide, by decide⟩, by decide⟩
theorem tk_X8_boxOf {En : (Nat → Prop) → State → Heap → Prop} (hN : x_NW En) : x_Ok1 En m_X8_boxOf := ⟨tb_X8_boxOf, tc_X8_boxOf hN, by decide +kernel, rfl, wd_X8_229, ⟨by decide, by decide⟩, by decide⟩
theorem tk_X8_isIn {En : (Nat → Prop) → State → Heap → Prop} (hN : x_NW En) : x_Ok1 En m_X8_isIn := ⟨tb_X8_isIn, tc_X8_isIn hN, by decide +kernel, rfl, wd_X8_230, ⟨by decide, by decide⟩, by decide⟩
theorem tk_X8_at {En : (Nat → Prop) → State → Heap → Prop} (hN : x_NW En) : x_Ok1 En m_X8_at := ⟨tb_X8_at, tc_X8_at hN, by decide +kernel, rfl, wd_X8_231, ⟨by decide, by decide⟩, by decide⟩
theorem tk_X8_sees {En : (Nat → Prop) → State → Heap → Prop} (hN : x_NW En) : x_Ok1 En m_X8_sees := ⟨tb_X8_sees, tc_X8_sees hN, by decide +kernel, rfl, wd_X8_232, ⟨by decide, by decide⟩, by decide⟩
theorem tk_X8_has {En : (Nat → Prop) → State → Heap → Prop} (hN : x_NW En) : x_Ok1 En m_X8_has := ⟨tb_X8_has, tc_X8_has hN, by decide +kernel, rfl, wd_X8_233, ⟨by decide, by decide⟩, by decide⟩
theorem tk_X8_countOf {En : (Nat → Prop) → State → Heap → Prop} (hN : x_NW En) : x_Ok1 En m_X8_countOf := ⟨tb_X8_countOf, tc_X8_countOf hN, by decide +kernel, rfl, wd_X8_234, ⟨by decide, by decide⟩, by decide⟩
theorem tk_X8_places {En : (Nat → Prop) → State → Heap → Prop} (hN : x_NW En) : x_Ok1 En m_X8_places := ⟨tb_X8_places, tc_X8_places hN, by decide +kernel, rfl, wd_X8_235, ⟨by decide, by decide⟩, by decide⟩
theorem tk_X8_isBroken {En : (Nat → Prop) → State → Heap → Prop} (hN : x_NW En) : x_Ok1 En m_X8_isBroken := ⟨tb_X8_isBroken, tc_X8_isBroken hN, by decide +kernel, rfl, wd_X8_236, ⟨by decide, by decide⟩, by decide⟩
theorem tk_X8_put {En : (Nat → Prop) → State → Heap → Prop} (hN : x_NW En) : x_Ok1 En m_X8_put := ⟨tb_X8_put, tc_X8_put hN, by decide +kernel, rfl, wd_X8_237, ⟨by decide, by decide⟩, by decide⟩
theorem tk_X8_changed {En : (Nat → Prop) → State → Heap → Prop} (hN : x_NW En) : x_Ok1 En m_X8_changed := ⟨tb_X8_changed, tc_X8_changed hN, by decide +kernel, rfl, wd_X8_238, ⟨by decide, by decide⟩, by decide⟩
theorem tk_X8_set {En : (Nat → Prop) → State → Heap → Prop} (hN : x_NW En) : x_Ok1 En m_X8_set := ⟨tb_X8_set, tc_X8_set hN, by decide +kernel, rfl, wd_X8_239, ⟨by decide, by decide⟩, by decide⟩
theorem tk_X8_take {En : (Nat → Prop) → State → Heap → Prop} (hN : x_NW En) : x_Ok1 En m_X8_take := ⟨tb_X8_take, tc_X8_take hN, by decide +kernel, rfl, wd_X8_240, ⟨by decide, by decide⟩, by decide⟩
theorem tk_X8_enable {En : (Nat → Prop) → State → Heap → Prop} (hN : x_NW En) : x_Ok1 En m_X8_enable := ⟨tb_X8_enable, tc_X8_enable hN, by decide +kernel, rfl, wd_X8_241, ⟨by decide, by decide⟩, by decide⟩
theorem tk_X8_none {En : (Nat → Prop) → State → Heap → Prop} (hN : x_NW En) : x_Ok1 En m_X8_none := ⟨tb_X8_none, tc_X8_none hN, by decide +kernel, rfl, wd_X8_242, ⟨by decide, by decide⟩, by decide⟩
theorem tk_X8_leaves {En : (Nat → Prop) → State → Heap → Prop} (hN : x_NW En) : x_Ok1 En m_X8_leaves := ⟨tb_X8_leaves, tc_X8_leaves hN, by decide +kernel, rfl, wd_X8_243, ⟨by decide, by decide⟩, by decide⟩
theorem tk_X8_takes {En : (Nat → Prop) → State → Heap → Prop} (hN : x_NW En) : x_Ok1 En m_X8_takes := ⟨tb_X8_takes, tc_X8_takes hN, by decide +kernel, rfl, wd_X8_244, ⟨by decide, by decide⟩, by decide⟩
theorem tk_X8_sets {En : (Nat → Prop) → State → Heap → Prop} (hN : x_NW En) : x_Ok1 En m_X8_sets := ⟨tb_X8_sets, tc_X8_sets hN, by decide +kernel, rfl, wd_X8_245, ⟨by decide, by decide⟩, by decide⟩
theorem tk_X8_first {En : (Nat → Prop) → State → Heap → Prop} (hN : x_NW En) : x_Ok1 En m_X8_first := ⟨tb_X8_first, tc_X8_first hN, by decide +kernel, rfl, wd_X8_246, ⟨by decide, by decide⟩, by decide⟩
theorem tk_X8_next {En : (Nat → Prop) → State → Heap → Prop} (hN : x_NW En) : x_Ok1 En m_X8_next := ⟨tb_X8_next, tc_X8_next hN, by decide +kernel, rfl, wd_X8_247, ⟨by decide, by decide⟩, by decide⟩
theorem tk_X8_isPicked {En : (Nat → Prop) → State → Heap → Prop} (hN : x_NW En) : x_Ok1 En m_X8_isPicked := ⟨tb_X8_isPicked, tc_X8_isPicked hN, by decide +kernel, rfl, wd_X8_248, ⟨by decide, by decide⟩, by decide⟩
theorem tk_X8_last {En : (Nat → Prop) → State → Heap → Prop} (hN : x_NW En) : x_Ok1 En m_X8_last := ⟨tb_X8_last, tc_X8_last hN, by decide +kernel, rfl, wd_X8_249, ⟨by decide, by decide⟩, by decide⟩
theorem tk_X8_lowest {En : (Nat → Prop) → State → Heap → Prop} (hN : x_NW En) : x_Ok1 En m_X8_lowest := ⟨tb_X8_lowest, tc_X8_lowest hN, by decide +kernel, rfl, wd_X8_250, ⟨by decide, by decide⟩, by decide⟩
theorem tk_X8_only {En : (Nat → Prop) → State → Heap → Prop} (hN : x_NW En) : x_Ok1 En m_X8_only := ⟨tb_X8_only, tc_X8_only hN, by decide +kernel, rfl, wd_X8_251, ⟨by decide, by decide⟩, by decide⟩
theorem tk_X8_common {En : (Nat → Prop) → State → Heap → Prop} (hN : x_NW En) : x_Ok1 En m_X8_common := ⟨tb_X8_common, tc_X8_common hN, by decide +kernel, rfl, wd_X8_252, ⟨by decide, by decide⟩, by decide⟩
theorem tk_X8_crosses {En : (Nat → Prop) → State → Heap → Prop} (hN : x_NW En) : x_Ok1 En m_X8_crosses := ⟨tb_X8_crosses, tc_X8_crosses hN, by decide +kernel, rfl, wd_X8_253, ⟨by decide, by decide⟩, by decide⟩
theorem tk_X8_pointing {En : (Nat → Prop) → State → Heap → Prop} (hN : x_NW En) : x_Ok1 En m_X8_pointing := ⟨tb_X8_pointing, tc_X8_pointing hN, by decide +kernel, rfl, wd_X8_254, ⟨by decide, by decide⟩, by decide⟩
theorem tk_X8_claiming {En : (Nat → Prop) → State → Heap → Prop} (hN : x_NW En) : x_Ok1 En m_X8_claiming := ⟨tb_X8_claiming, tc_X8_claiming hN, by decide +kernel, rfl, wd_X8_255, ⟨by decide, by decide⟩, by decide⟩
theorem tk_X8_naked {En : (Nat → Prop) → State → Heap → Prop} (hN : x_NW En) : x_Ok1 En m_X8_naked := ⟨tb_X8_naked, tc_X8_naked hN, by decide +kernel, rfl, wd_X8_256, ⟨by decide, by decide⟩, by decide⟩
theorem tk_X8_isOpenIn {En : (Nat → Prop) → State → Heap → Prop} (hN : x_NW En) : x_Ok1 En m_X8_isOpenIn := ⟨tb_X8_isOpenIn, tc_X8_isOpenIn hN, by decide +kernel, rfl, wd_X8_257, ⟨by decide, by decide⟩, by decide⟩
theorem tk_X8_hidden {En : (Nat → Prop) → State → Heap → Prop} (hN : x_NW En) : x_Ok1 En m_X8_hidden := ⟨tb_X8_hidden, tc_X8_hidden hN, by decide +kernel, rfl, wd_X8_258, ⟨by decide, by decide⟩, by decide⟩
theorem tk_X8_fish {En : (Nat → Prop) → State → Heap → Prop} (hN : x_NW En) : x_Ok1 En m_X8_fish := ⟨tb_X8_fish, tc_X8_fish hN, by decide +kernel, rfl, wd_X8_259, ⟨by decide, by decide⟩, by decide⟩
theorem tk_X8_wing {En : (Nat → Prop) → State → Heap → Prop} (hN : x_NW En) : x_Ok1 En m_X8_wing := ⟨tb_X8_wing, tc_X8_wing hN, by decide +kernel, rfl, wd_X8_260, ⟨by decide, by decide⟩, by decide⟩
theorem tk_X8_isWing {En : (Nat → Prop) → State → Heap → Prop} (hN : x_NW En) : x_Ok1 En m_X8_isWing := ⟨tb_X8_isWing, tc_X8_isWing hN, by decide +kernel, rfl, wd_X8_261, ⟨by decide, by decide⟩, by decide⟩
theorem tk_X8_isLinked {En : (Nat → Prop) → State → Heap → Prop} (hN : x_NW En) : x_Ok1 En m_X8_isLinked := ⟨tb_X8_isLinked, tc_X8_isLinked hN, by decide +kernel, rfl, wd_X8_262, ⟨by decide, by decide⟩, by decide⟩
theorem tk_X8_colour {En : (Nat → Prop) → State → Heap → Prop} (hN : x_NW En) : x_Ok1 En m_X8_colour := ⟨tb_X8_colour, tc_X8_colour hN, by decide +kernel, rfl, wd_X8_263, ⟨by decide, by decide⟩, by decide⟩
theorem tk_X8_clash {En : (Nat → Prop) → State → Heap → Prop} (hN : x_NW En) : x_Ok1 En m_X8_clash := ⟨tb_X8_clash, tc_X8_clash hN, by decide +kernel, rfl, wd_X8_264, ⟨by decide, by decide⟩, by decide⟩
theorem tk_X8_seesOne {En : (Nat → Prop) → State → Heap → Prop} (hN : x_NW En) : x_Ok1 En m_X8_seesOne := ⟨tb_X8_seesOne, tc_X8_seesOne hN, by decide +kernel, rfl, wd_X8_265, ⟨by decide, by decide⟩, by decide⟩
theorem tk_X8_colours {En : (Nat → Prop) → State → Heap → Prop} (hN : x_NW En) : x_Ok1 En m_X8_colours := ⟨tb_X8_colours, tc_X8_colours hN, by decide +kernel, rfl, wd_X8_266, ⟨by decide, by decide⟩, by decide⟩
theorem tk_X8_corners {En : (Nat → Prop) → State → Heap → Prop} (hN : x_NW En) : x_Ok1 En m_X8_corners := ⟨tb_X8_corners, tc_X8_corners hN, by decide +kernel, rfl, wd_X8_267, ⟨by decide, by decide⟩, by decide⟩
theorem tk_X8_rectangle {En : (Nat → Prop) → State → Heap → Prop} (hN : x_NW En) : x_Ok1 En m_X8_rectangle := ⟨tb_X8_rectangle, tc_X8_rectangle hN, by decide +kernel, rfl, wd_X8_268, ⟨by decide, by decide⟩, by decide⟩
theorem tk_X8_look {En : (Nat → Prop) → State → Heap → Prop} (hN : x_NW En) : x_Ok1 En m_X8_look := ⟨tb_X8_look, tc_X8_look hN, by decide +kernel, rfl, wd_X8_269, ⟨by decide, by decide⟩, by decide⟩
theorem tk_X8_search {En : (Nat → Prop) → State → Heap → Prop} (hN : x_NW En) : x_Ok1 En m_X8_search := ⟨tb_X8_search, tc_X8_search hN, by decide +kernel, rfl, wd_X8_270, ⟨by decide, by decide⟩, by decide⟩
theorem tk_X8_find {En : (Nat → Prop) → State → Heap → Prop} (hN : x_NW En) : x_Ok1 En m_X8_find := ⟨tb_X8_find, tc_X8_find hN, by decide +kernel, rfl, wd_X8_271, ⟨by decide, by decide⟩, by decide⟩
theorem tk_X8_goMany {En : (Nat → Prop) → State → Heap → Prop} (hN : x_NW En) : x_Ok1 En m_X8_goMany := ⟨tb_X8_goMany, tc_X8_goMany hN, by decide +kernel, rfl, wd_X8_272, ⟨by decide, by decide⟩, by decide⟩
theorem tk_X8_reasonMany {En : (Nat → Prop) → State → Heap → Prop} (hN : x_NW En) : x_Ok1 En m_X8_reasonMany := ⟨tb_X8_reasonMany, tc_X8_reasonMany hN, by decide +kernel, rfl, wd_X8_273, ⟨by decide, by decide⟩, by decide⟩
theorem tk_X8_found {En : (Nat → Prop) → State → Heap → Prop} (hN : x_NW En) : x_Ok1 En m_X8_found := ⟨tb_X8_found, tc_X8_found hN, by decide +kernel, rfl, wd_X8_274, ⟨by decide, by decide⟩, by decide⟩
theorem tk_X8_reasonAt {En : (Nat → Prop) → State → Heap → Prop} (hN : x_NW En) : x_Ok1 En m_X8_reasonAt := ⟨tb_X8_reasonAt, tc_X8_reasonAt hN, by decide +kernel, rfl, wd_X8_275, ⟨by decide, by decide⟩, by decide⟩
theorem tk_X8_reason {En : (Nat → Prop) → State → Heap → Prop} (hN : x_NW En) : x_Ok1 En m_X8_reason := ⟨tb_X8_reason, tc_X8_reason hN, by decide +kernel, rfl, wd_X8_276, ⟨by decide, by decide⟩, by decide⟩
theorem tk_X8_goes {En : (Nat → Prop) → State → Heap → Prop} (hN : x_NW En) : x_Ok1 En m_X8_goes := ⟨tb_X8_goes, tc_X8_goes hN, by decide +kernel, rfl, wd_X8_277, ⟨by decide, by decide⟩, by decide⟩
theorem tk_X8_act {En : (Nat → Prop) → State → Heap → Prop} (hN : x_NW En) : x_Ok1 En m_X8_act := ⟨tb_X8_act, tc_X8_act hN, by decide +kernel, rfl, wd_X8_278, ⟨by decide, by decide⟩, by decide⟩
theorem tk_X8_apply {En : (Nat → Prop) → State → Heap → Prop} (hN : x_NW En) : x_Ok1 En m_X8_apply := ⟨tb_X8_apply, tc_X8_apply hN, by decide +kernel, rfl, wd_X8_279, ⟨by decide, by decide⟩, by decide⟩
theorem tk_X8_solve {En : (Nat → Prop) → State → Heap → Prop} (hN : x_NW En) : x_Ok1 En m_X8_solve := ⟨tb_X8_solve, tc_X8_solve hN, by decide +kernel, rfl, wd_X8_280, ⟨by decide, by decide⟩, by decide⟩
theorem tk_X8_undo {En : (Nat → Prop) → State → Heap → Prop} (hN : x_NW En) : x_Ok1 En m_X8_undo := ⟨tb_X8_undo, tc_X8_undo hN, by decide +kernel, rfl, wd_X8_281, ⟨by decide, by decide⟩, by decide⟩
theorem tk_X8_done {En : (Nat → Prop) → State → Heap → Prop} (hN : x_NW En) : x_Ok1 En m_X8_done := ⟨tb_X8_done, tc_X8_done hN, by decide +kernel, rfl, wd_X8_282, ⟨by decide, by decide⟩, by decide⟩
theorem tk_X8_candidates {En : (Nat → Prop) → State → Heap → Prop} (hN : x_NW En) : x_Ok1 En m_X8_candidates := ⟨tb_X8_candidates, tc_X8_candidates hN, by decide +kernel, rfl, wd_X8_283, ⟨by decide, by decide⟩, by decide⟩
theorem tk_X8_value {En : (Nat → Prop) → State → Heap → Prop} (hN : x_NW En) : x_Ok1 En m_X8_value := ⟨tb_X8_value, tc_X8_value hN, by decide +kernel, rfl, wd_X8_284, ⟨by decide, by decide⟩, by decide⟩
theorem tk_X8_state {En : (Nat → Prop) → State → Heap → Prop} (hN : x_NW En) : x_Ok1 En m_X8_state := ⟨tb_X8_state, tc_X8_state hN, by decide +kernel, rfl, wd_X8_285, ⟨by decide, by decide⟩, by decide⟩
theorem tk_X8_part {En : (Nat → Prop) → State → Heap → Prop} (hN : x_NW En) : x_Ok1 En m_X8_part := ⟨tb_X8_part, tc_X8_part hN, by decide +kernel, rfl, wd_X8_286, ⟨by decide, by decide⟩, by decide⟩
theorem tk_X8_nameByte {En : (Nat → Prop) → State → Heap → Prop} (hN : x_NW En) : x_Ok1 En m_X8_nameByte := ⟨tb_X8_nameByte, tc_X8_nameByte hN, by decide +kernel, rfl, wd_X8_287, ⟨by decide, by decide⟩, by decide⟩
theorem tk_X8_words {En : (Nat → Prop) → State → Heap → Prop} (hN : x_NW En) : x_Ok1 En m_X8_words := ⟨tb_X8_words, tc_X8_words hN, by decide +kernel, rfl, wd_X8_288, ⟨by decide, by decide⟩, by decide⟩
set_option maxRecDepth 20000 in
theorem fk_X2 : ∀ e ∈ fl_X2, x_Fl RX2 false e := List.forall_mem_cons.mpr ⟨⟨_, _, _, _, cl_X2, by decide, wd_X2_0, Or.inl rfl⟩, List.forall_mem_cons.mpr ⟨⟨_, _, _, _, cl_X2, by decide, wd_X2_1, Or.inl rfl⟩, List.forall_mem_cons.mpr ⟨⟨_, _, _, _, cl_X2, by decide, wd_X2_2, Or.inl rfl⟩, List.forall_mem_cons.mpr ⟨⟨_, _, _, _, cl_X2, by decide, wd_X2_3, Or.inl rfl⟩, List.forall_mem_cons.mpr ⟨⟨_, _, _, _, cl_X2, by decide, wd_X2_4, Or.inl rfl⟩, List.forall_mem_cons.mpr ⟨⟨_, _, _, _, cl_X2, by decide, wd_X2_5, Or.inl rfl⟩, List.forall_mem_cons.mpr ⟨⟨_, _, _, _, cl_X2, by decide, wd_X2_6, Or.inl rfl⟩, List.forall_mem_cons.mpr ⟨⟨_, _, _, _, cl_X2, by decide, wd_X2_7, Or.inl rfl⟩, List.forall_mem_cons.mpr ⟨⟨_, _, _, _, cl_X2, by decide, wd_X2_8, Or.inl rfl⟩, List.forall_mem_nil _⟩⟩⟩⟩⟩⟩⟩⟩⟩
set_option maxRecDepth 20000 in
theorem fj_X2 : ∀ e ∈ fi_X2, x_Fl RX2 true e := List.forall_mem_cons.mpr ⟨⟨_, _, _, _, cl_X2, by decide, wd_X2_0, Or.inr ⟨by decide +kernel, Or.inr ⟨rfl, rfl, rfl⟩⟩⟩, List.forall_mem_cons.mpr ⟨⟨_, _, _, _, cl_X2, by decide, wd_X2_1, Or.inr ⟨by decide +kernel, Or.inr ⟨rfl, rfl, rfl⟩⟩⟩, List.forall_mem_cons.mpr ⟨⟨_, _, _, _, cl_X2, by decide, wd_X2_2, Or.inr ⟨by decide +kernel, Or.inr ⟨rfl, rfl, rfl⟩⟩⟩, List.forall_mem_cons.mpr ⟨⟨_, _, _, _, cl_X2, by decide, wd_X2_3, Or.inr ⟨by decide +kernel, Or.inr ⟨rfl, rfl, rfl⟩⟩⟩, List.forall_mem_cons.mpr ⟨⟨_, _, _, _, cl_X2, by decide, wd_X2_4, Or.inr ⟨by decide +kernel, Or.inr ⟨rfl, rfl, rfl⟩⟩⟩, List.forall_mem_cons.mpr ⟨⟨_, _, _, _, cl_X2, by decide, wd_X2_5, Or.inr ⟨by decide +kernel, Or.inr ⟨rfl, rfl, rfl⟩⟩⟩, List.forall_mem_cons.mpr ⟨⟨_, _, _, _, cl_X2, by decide, wd_X2_6, Or.inr ⟨by decide +kernel, Or.inr ⟨rfl, rfl, rfl⟩⟩⟩, List.forall_mem_cons.mpr ⟨⟨_, _, _, _, cl_X2, by decide, wd_X2_7, Or.inr ⟨by decide +kernel, Or.inr ⟨rfl, rfl, rfl⟩⟩⟩, List.forall_mem_cons.mpr ⟨⟨_, _, _, _, cl_X2, by decide, wd_X2_8, Or.inr ⟨by decide +kernel, Or.inr ⟨rfl, rfl, rfl⟩⟩⟩, List.forall_mem_nil _⟩⟩⟩⟩⟩⟩⟩⟩⟩
set_option maxRecDepth 20000 in
theorem kk_X2 : ∀ e ∈ kl_X2, x_Kl RX2 e := List.forall_mem_nil _
set_option maxRecDepth 20000 in
theorem nk_X2 : ∀ e ∈ nl_X2, x_Nl RX2 e := List.forall_mem_nil _
set_option maxRecDepth 20000 in
theorem ok_X2 : ∀ e ∈ pl_X2, x_Sl0 RX2 e := List.forall_mem_cons.mpr ⟨wd_X2_31, List.forall_mem_nil _⟩
set_option maxRecDepth 20000 in
theorem vk_X2 : ∀ e ∈ vl_X2, x_Vl x_MM RX2 e := List.forall_mem_cons.mpr ⟨⟨m_X2_layLines, _, rfl, rfl, rfl, rfl, wd_X2_9, wd_X2_10, wd_X2_11, wd_X2_12, by decide +kernel⟩, List.forall_mem_cons.mpr ⟨⟨m_X2_layBoxes, _, rfl, rfl, rfl, rfl, wd_X2_13, wd_X2_14, wd_X2_15, wd_X2_12, by decide +kernel⟩, List.forall_mem_cons.mpr ⟨⟨m_X2_fill, _, rfl, rfl, rfl, rfl, wd_X2_16, wd_X2_17, wd_X2_18, wd_X2_12, by decide +kernel⟩, List.forall_mem_cons.mpr ⟨⟨m_X2_lay, _, rfl, rfl, rfl, rfl, wd_X2_19, wd_X2_20, wd_X2_21, wd_X2_12, by decide +kernel⟩, List.forall_mem_cons.mpr ⟨⟨m_X2_house, _, rfl, rfl, rfl, rfl, wd_X2_22, wd_X2_23, wd_X2_24, wd_X2_12, by decide +kernel⟩, List.forall_mem_cons.mpr ⟨⟨m_X2_isOpen, _, rfl, rfl, rfl, rfl, wd_X2_25, wd_X2_26, wd_X2_27, wd_X2_12, by decide +kernel⟩, List.forall_mem_nil _⟩⟩⟩⟩⟩⟩
set_option maxRecDepth 20000 in
theorem sk_X2 {En : (Nat → Prop) → State → Heap → Prop} (hN : x_NW En) : ∀ e ∈ sl_X2, x_Sl x_MM En RX2 e := List.forall_mem_cons.mpr ⟨fun _ => ⟨m_J6_bitCount, rfl, Or.inl ⟨rfl, wd_X2_28⟩, wd_X2_29, wd_X2_30, by decide +kernel⟩, List.forall_mem_nil _⟩
theorem sm_X2 : ∀ e ∈ sl_X2, x_Ml RX2 e := List.forall_mem_cons.mpr ⟨fun h => absurd h (by decide), List.forall_mem_nil _⟩
set_option maxRecDepth 20000 in
theorem pk_X2 : ∀ e ∈ pl_X2, x_Pl x_MM RX2 e := List.forall_mem_cons.mpr ⟨trivial, List.forall_mem_nil _⟩
theorem tb_X2_init : x_Tb m_X2_init := x_Tb_of true ci_X2_init fj_X2 (fun _ => rfl) kk_X2 nk_X2 ok_X2 sm_X2
theorem tc_X2_init {En : (Nat → Prop) → State → Heap → Prop} (hN : x_NW En) : x_Tc x_MM En m_X2_init := x_Tc_of vk_X2 (sk_X2 hN) pk_X2
theorem tb_X2_layLines : x_Tb m_X2_layLines := x_Tb_of false ci_X2_layLines fk_X2 (fun h => by cases h) kk_X2 nk_X2 ok_X2 sm_X2
theorem tc_X2_layLines {En : (Nat → Prop) → State → Heap → Prop} (hN : x_NW En) : x_Tc x_MM En m_X2_layLines := x_Tc_of vk_X2 (sk_X2 hN) pk_X2
theorem tb_X2_layBoxes : x_Tb m_X2_layBoxes := x_Tb_of false ci_X2_layBoxes fk_X2 (fun h => by cases h) kk_X2 nk_X2 ok_X2 sm_X2
theorem tc_X2_layBoxes {En : (Nat → Prop) → State → Heap → Prop} (hN : x_NW En) : x_Tc x_MM En m_X2_layBoxes := x_Tc_of vk_X2 (sk_X2 hN) pk_X2
theorem tb_X2_lay : x_Tb m_X2_lay := x_Tb_of false ci_X2_lay fk_X2 (fun h => by cases h) kk_X2 nk_X2 ok_X2 sm_X2
theorem tc_X2_lay {En : (Nat → Prop) → State → Heap → Prop} (hN : x_NW En) : x_Tc x_MM En m_X2_lay := x_Tc_of vk_X2 (sk_X2 hN) pk_X2
theorem tb_X2_fill : x_Tb m_X2_fill := x_Tb_of false ci_X2_fill fk_X2 (fun h => by cases h) kk_X2 nk_X2 ok_X2 sm_X2
theorem tc_X2_fill {En : (Nat → Prop) → State → Heap → Prop} (hN : x_NW En) : x_Tc x_MM En m_X2_fill := x_Tc_of vk_X2 (sk_X2 hN) pk_X2
theorem tb_X2_cell : x_Tb m_X2_cell := x_Tb_of false ci_X2_cell fk_X2 (fun h => by cases h) kk_X2 nk_X2 ok_X2 sm_X2
theorem tc_X2_cell {En : (Nat → Prop) → State → Heap → Prop} (hN : x_NW En) : x_Tc x_MM En m_X2_cell := x_Tc_of vk_X2 (sk_X2 hN) pk_X2
theorem tb_X2_house : x_Tb m_X2_house := x_Tb_of false ci_X2_house fk_X2 (fun h => by cases h) kk_X2 nk_X2 ok_X2 sm_X2
theorem tc_X2_house {En : (Nat → Prop) → State → Heap → Prop} (hN : x_NW En) : x_Tc x_MM En m_X2_house := x_Tc_of vk_X2 (sk_X2 hN) pk_X2
theorem tb_X2_rowOf : x_Tb m_X2_rowOf := x_Tb_of false ci_X2_rowOf fk_X2 (fun h => by cases h) kk_X2 nk_X2 ok_X2 sm_X2
theorem tc_X2_rowOf {En : (Nat → Prop) → State → Heap → Prop} (hN : x_NW En) : x_Tc x_MM En m_X2_rowOf := x_Tc_of vk_X2 (sk_X2 hN) pk_X2
theorem tb_X2_columnOf : x_Tb m_X2_columnOf := x_Tb_of false ci_X2_columnOf fk_X2 (fun h => by cases h) kk_X2 nk_X2 ok_X2 sm_X2
theorem tc_X2_columnOf {En : (Nat → Prop) → State → Heap → Prop} (hN : x_NW En) : x_Tc x_MM En m_X2_columnOf := x_Tc_of vk_X2 (sk_X2 hN) pk_X2
theorem tb_X2_places : x_Tb m_X2_places := x_Tb_of false ci_X2_places fk_X2 (fun h => by cases h) kk_X2 nk_X2 ok_X2 sm_X2
theorem tc_X2_places {En : (Nat → Prop) → State → Heap → Prop} (hN : x_NW En) : x_Tc x_MM En m_X2_places := x_Tc_of vk_X2 (sk_X2 hN) pk_X2
theorem tb_X2_isOpen : x_Tb m_X2_isOpen := x_Tb_of false ci_X2_isOpen fk_X2 (fun h => by cases h) kk_X2 nk_X2 ok_X2 sm_X2
theorem tc_X2_isOpen {En : (Nat → Prop) → State → Heap → Prop} (hN : x_NW En) : x_Tc x_MM En m_X2_isOpen := x_Tc_of vk_X2 (sk_X2 hN) pk_X2
theorem tb_X2_isIn : x_Tb m_X2_isIn := x_Tb_of false ci_X2_isIn fk_X2 (fun h => by cases h) kk_X2 nk_X2 ok_X2 sm_X2
theorem tc_X2_isIn {En : (Nat → Prop) → State → Heap → Prop} (hN : x_NW En) : x_Tc x_MM En m_X2_isIn := x_Tc_of vk_X2 (sk_X2 hN) pk_X2
theorem tb_X2_see : x_Tb m_X2_see := x_Tb_of false ci_X2_see fk_X2 (fun h => by cases h) kk_X2 nk_X2 ok_X2 sm_X2
theorem tc_X2_see {En : (Nat → Prop) → State → Heap → Prop} (hN : x_NW En) : x_Tc x_MM En m_X2_see := x_Tc_of vk_X2 (sk_X2 hN) pk_X2
theorem tb_X2_drop : x_Tb m_X2_drop := x_Tb_of false ci_X2_drop fk_X2 (fun h => by cases h) kk_X2 nk_X2 ok_X2 sm_X2
theorem tc_X2_drop {En : (Nat → Prop) → State → Heap → Prop} (hN : x_NW En) : x_Tc x_MM En m_X2_drop := x_Tc_of vk_X2 (sk_X2 hN) pk_X2
theorem tb_X2_giveBack : x_Tb m_X2_giveBack := x_Tb_of false ci_X2_giveBack fk_X2 (fun h => by cases h) kk_X2 nk_X2 ok_X2 sm_X2
theorem tc_X2_giveBack {En : (Nat → Prop) → State → Heap → Prop} (hN : x_NW En) : x_Tc x_MM En m_X2_giveBack := x_Tc_of vk_X2 (sk_X2 hN) pk_X2
theorem tb_X2_isBroken : x_Tb m_X2_isBroken := x_Tb_of false ci_X2_isBroken fk_X2 (fun h => by cases h) kk_X2 nk_X2 ok_X2 sm_X2
theorem tc_X2_isBroken {En : (Nat → Prop) → State → Heap → Prop} (hN : x_NW En) : x_Tc x_MM En m_X2_isBroken := x_Tc_of vk_X2 (sk_X2 hN) pk_X2
theorem tb_X2_openCells : x_Tb m_X2_openCells := x_Tb_of false ci_X2_openCells fk_X2 (fun h => by cases h) kk_X2 nk_X2 ok_X2 sm_X2
theorem tc_X2_openCells {En : (Nat → Prop) → State → Heap → Prop} (hN : x_NW En) : x_Tc x_MM En m_X2_openCells := x_Tc_of vk_X2 (sk_X2 hN) pk_X2
theorem tb_X2_openCandidates : x_Tb m_X2_openCandidates := x_Tb_of false ci_X2_openCandidates fk_X2 (fun h => by cases h) kk_X2 nk_X2 ok_X2 sm_X2
theorem tc_X2_openCandidates {En : (Nat → Prop) → State → Heap → Prop} (hN : x_NW En) : x_Tc x_MM En m_X2_openCandidates := x_Tc_of vk_X2 (sk_X2 hN) pk_X2
theorem tk_X2_init {En : (Nat → Prop) → State → Heap → Prop} (hN : x_NW En) : x_Ok1 En m_X2_init := ⟨tb_X2_init, tc_X2_init hN, by decide +kernel, rfl, wd_X2_32, ⟨by decide, by decide⟩, by decide⟩
theorem tk_X2_layLines {En : (Nat → Prop) → State → Heap → Prop} (hN : x_NW En) : x_Ok1 En m_X2_layLines := ⟨tb_X2_layLines, tc_X2_layLines hN, by decide +kernel, rfl, wd_X2_33, ⟨by decide, by decide⟩, by decide⟩
theorem tk_X2_layBoxes {En : (Nat → Prop) → State → Heap → Prop} (hN : x_NW En) : x_Ok1 En m_X2_layBoxes := ⟨tb_X2_layBoxes, tc_X2_layBoxes hN, by decide +kernel, rfl, wd_X2_34, ⟨by decide, by decide⟩, by decide⟩
theorem tk_X2_lay {En : (Nat → Prop) → State → Heap → Prop} (hN : x_NW En) : x_Ok1 En m_X2_lay := ⟨tb_X2_lay, tc_X2_lay hN, by decide +kernel, rfl, wd_X2_35, ⟨by decide, by decide⟩, by decide⟩
theorem tk_X2_fill {En : (Nat → Prop) → State → Heap → Prop} (hN : x_NW En) : x_Ok1 En m_X2_fill := ⟨tb_X2_fill, tc_X2_fill hN, by decide +kernel, rfl, wd_X2_36, ⟨by decide, by decide⟩, by decide⟩
theorem tk_X2_cell {En : (Nat → Prop) → State → Heap → Prop} (hN : x_NW En) : x_Ok1 En m_X2_cell := ⟨tb_X2_cell, tc_X2_cell hN, by decide +kernel, rfl, wd_X2_37, ⟨by decide, by decide⟩, by decide⟩
theorem tk_X2_house {En : (Nat → Prop) → State → Heap → Prop} (hN : x_NW En) : x_Ok1 En m_X2_house := ⟨tb_X2_house, tc_X2_house hN, by decide +kernel, rfl, wd_X2_38, ⟨by decide, by decide⟩, by decide⟩
theorem tk_X2_rowOf {En : (Nat → Prop) → State → Heap → Prop} (hN : x_NW En) : x_Ok1 En m_X2_rowOf := ⟨tb_X2_rowOf, tc_X2_rowOf hN, by decide +kernel, rfl, wd_X2_39, ⟨by decide, by decide⟩, by decide⟩
theorem tk_X2_columnOf {En : (Nat → Prop) → State → Heap → Prop} (hN : x_NW En) : x_Ok1 En m_X2_columnOf := ⟨tb_X2_columnOf, tc_X2_columnOf hN, by decide +kernel, rfl, wd_X2_40, ⟨by decide, by decide⟩, by decide⟩
theorem tk_X2_places {En : (Nat → Prop) → State → Heap → Prop} (hN : x_NW En) : x_Ok1 En m_X2_places := ⟨tb_X2_places, tc_X2_places hN, by decide +kernel, rfl, wd_X2_41, ⟨by decide, by decide⟩, by decide⟩
theorem tk_X2_isOpen {En : (Nat → Prop) → State → Heap → Prop} (hN : x_NW En) : x_Ok1 En m_X2_isOpen := ⟨tb_X2_isOpen, tc_X2_isOpen hN, by decide +kernel, rfl, wd_X2_42, ⟨by decide, by decide⟩, by decide⟩
theorem tk_X2_isIn {En : (Nat → Prop) → State → Heap → Prop} (hN : x_NW En) : x_Ok1 En m_X2_isIn := ⟨tb_X2_isIn, tc_X2_isIn hN, by decide +kernel, rfl, wd_X2_43, ⟨by decide, by decide⟩, by decide⟩
theorem tk_X2_see {En : (Nat → Prop) → State → Heap → Prop} (hN : x_NW En) : x_Ok1 En m_X2_see := ⟨tb_X2_see, tc_X2_see hN, by decide +kernel, rfl, wd_X2_44, ⟨by decide, by decide⟩, by decide⟩
theorem tk_X2_drop {En : (Nat → Prop) → State → Heap → Prop} (hN : x_NW En) : x_Ok1 En m_X2_drop := ⟨tb_X2_drop, tc_X2_drop hN, by decide +kernel, rfl, wd_X2_45, ⟨by decide, by decide⟩, by decide⟩
theorem tk_X2_giveBack {En : (Nat → Prop) → State → Heap → Prop} (hN : x_NW En) : x_Ok1 En m_X2_giveBack := ⟨tb_X2_giveBack, tc_X2_giveBack hN, by decide +kernel, rfl, wd_X2_46, ⟨by decide, by decide⟩, by decide⟩
theorem tk_X2_isBroken {En : (Nat → Prop) → State → Heap → Prop} (hN : x_NW En) : x_Ok1 En m_X2_isBroken := ⟨tb_X2_isBroken, tc_X2_isBroken hN, by decide +kernel, rfl, wd_X2_47, ⟨by decide, by decide⟩, by decide⟩
theorem tk_X2_openCells {En : (Nat → Prop) → State → Heap → Prop} (hN : x_NW En) : x_Ok1 En m_X2_openCells := ⟨tb_X2_openCells, tc_X2_openCells hN, by decide +kernel, rfl, wd_X2_48, ⟨by decide, by decide⟩, by decide⟩
theorem tk_X2_openCandidates {En : (Nat → Prop) → State → Heap → Prop} (hN : x_NW En) : x_Ok1 En m_X2_openCandidates := ⟨tb_X2_openCandidates, tc_X2_openCandidates hN, by decide +kernel, rfl, wd_X2_49, ⟨by decide, by decide⟩, by decide⟩
set_option maxRecDepth 20000 in
theorem fk_X1 : ∀ e ∈ fl_X1, x_Fl RX1 false e := List.forall_mem_cons.mpr ⟨⟨_, _, _, _, cl_X1, by decide, wd_X1_0, Or.inl rfl⟩, List.forall_mem_cons.mpr ⟨⟨_, _, _, _, cl_X1, by decide, wd_X1_1, Or.inl rfl⟩, List.forall_mem_cons.mpr ⟨⟨_, _, _, _, cl_X1, by decide, wd_X1_2, Or.inr ⟨by decide +kernel, Or.inl ⟨rfl, rfl⟩⟩⟩, List.forall_mem_cons.mpr ⟨⟨_, _, _, _, cl_X1, by decide, wd_X1_3, Or.inr ⟨by decide +kernel, Or.inl ⟨rfl, rfl⟩⟩⟩, List.forall_mem_cons.mpr ⟨⟨_, _, _, _, cl_X1, by decide, wd_X1_4, Or.inr ⟨by decide +kernel, Or.inl ⟨rfl, rfl⟩⟩⟩, List.forall_mem_cons.mpr ⟨⟨_, _, _, _, cl_X1, by decide, wd_X1_5, Or.inr ⟨by decide +kernel, Or.inl ⟨rfl, rfl⟩⟩⟩, List.forall_mem_cons.mpr ⟨⟨_, _, _, _, cl_X1, by decide, wd_X1_6, Or.inr ⟨by decide +kernel, Or.inl ⟨rfl, rfl⟩⟩⟩, List.forall_mem_nil _⟩⟩⟩⟩⟩⟩⟩
set_option maxRecDepth 20000 in
theorem fj_X1 : ∀ e ∈ fi_X1, x_Fl RX1 true e := List.forall_mem_cons.mpr ⟨⟨_, _, _, _, cl_X1, by decide, wd_X1_0, Or.inr ⟨by decide +kernel, Or.inr ⟨rfl, rfl, rfl⟩⟩⟩, List.forall_mem_cons.mpr ⟨⟨_, _, _, _, cl_X1, by decide, wd_X1_1, Or.inr ⟨by decide +kernel, Or.inr ⟨rfl, rfl, rfl⟩⟩⟩, List.forall_mem_cons.mpr ⟨⟨_, _, _, _, cl_X1, by decide, wd_X1_2, Or.inr ⟨by decide +kernel, Or.inl ⟨rfl, rfl⟩⟩⟩, List.forall_mem_cons.mpr ⟨⟨_, _, _, _, cl_X1, by decide, wd_X1_3, Or.inr ⟨by decide +kernel, Or.inl ⟨rfl, rfl⟩⟩⟩, List.forall_mem_cons.mpr ⟨⟨_, _, _, _, cl_X1, by decide, wd_X1_4, Or.inr ⟨by decide +kernel, Or.inl ⟨rfl, rfl⟩⟩⟩, List.forall_mem_cons.mpr ⟨⟨_, _, _, _, cl_X1, by decide, wd_X1_5, Or.inr ⟨by decide +kernel, Or.inl ⟨rfl, rfl⟩⟩⟩, List.forall_mem_cons.mpr ⟨⟨_, _, _, _, cl_X1, by decide, wd_X1_6, Or.inr ⟨by decide +kernel, Or.inl ⟨rfl, rfl⟩⟩⟩, List.forall_mem_nil _⟩⟩⟩⟩⟩⟩⟩
set_option maxRecDepth 20000 in
theorem kk_X1 : ∀ e ∈ kl_X1, x_Kl RX1 e := List.forall_mem_nil _
set_option maxRecDepth 20000 in
theorem nk_X1 : ∀ e ∈ nl_X1, x_Nl RX1 e := List.forall_mem_nil _
set_option maxRecDepth 20000 in
theorem ok_X1 : ∀ e ∈ pl_X1, x_Sl0 RX1 e := List.forall_mem_cons.mpr ⟨wd_X1_15, List.forall_mem_nil _⟩
set_option maxRecDepth 20000 in
theorem vk_X1 : ∀ e ∈ vl_X1, x_Vl x_MM RX1 e := List.forall_mem_nil _
set_option maxRecDepth 20000 in
theorem sk_X1 {En : (Nat → Prop) → State → Heap → Prop} (hN : x_NW En) : ∀ e ∈ sl_X1, x_Sl x_MM En RX1 e := List.forall_mem_cons.mpr ⟨fun _ => ⟨m_J6_bitCount, rfl, Or.inl ⟨rfl, wd_X1_7⟩, wd_X1_8, wd_X1_9, by decide +kernel⟩, List.forall_mem_cons.mpr ⟨fun _ => ⟨m_X1_nthBit, rfl, Or.inl ⟨rfl, wd_X1_10⟩, wd_X1_11, wd_X1_12, by decide +kernel⟩, List.forall_mem_cons.mpr ⟨fun _ => ⟨m_X7_leastBit, rfl, Or.inr ⟨rfl, _, hN.2.2⟩, wd_X1_13, wd_X1_14, by decide +kernel⟩, List.forall_mem_nil _⟩⟩⟩
theorem sm_X1 : ∀ e ∈ sl_X1, x_Ml RX1 e := List.forall_mem_cons.mpr ⟨fun h => absurd h (by decide), List.forall_mem_cons.mpr ⟨fun h => absurd h (by decide), List.forall_mem_cons.mpr ⟨fun h => absurd h (by decide), List.forall_mem_nil _⟩⟩⟩
set_option maxRecDepth 20000 in
theorem pk_X1 : ∀ e ∈ pl_X1, x_Pl x_MM RX1 e := List.forall_mem_cons.mpr ⟨trivial, List.forall_mem_nil _⟩
theorem tb_X1_init : x_Tb m_X1_init := x_Tb_of true ci_X1_init fj_X1 (fun _ => rfl) kk_X1 nk_X1 ok_X1 sm_X1
theorem tc_X1_init {En : (Nat → Prop) → State → Heap → Prop} (hN : x_NW En) : x_Tc x_MM En m_X1_init := x_Tc_of vk_X1 (sk_X1 hN) pk_X1
theorem tb_X1_clear : x_Tb m_X1_clear := x_Tb_of false ci_X1_clear fk_X1 (fun h => by cases h) kk_X1 nk_X1 ok_X1 sm_X1
theorem tc_X1_clear {En : (Nat → Prop) → State → Heap → Prop} (hN : x_NW En) : x_Tc x_MM En m_X1_clear := x_Tc_of vk_X1 (sk_X1 hN) pk_X1
theorem tb_X1_strike : x_Tb m_X1_strike := x_Tb_of false ci_X1_strike fk_X1 (fun h => by cases h) kk_X1 nk_X1 ok_X1 sm_X1
theorem tc_X1_strike {En : (Nat → Prop) → State → Heap → Prop} (hN : x_NW En) : x_Tc x_MM En m_X1_strike := x_Tc_of vk_X1 (sk_X1 hN) pk_X1
theorem tb_X1_because : x_Tb m_X1_because := x_Tb_of false ci_X1_because fk_X1 (fun h => by cases h) kk_X1 nk_X1 ok_X1 sm_X1
theorem tc_X1_because {En : (Nat → Prop) → State → Heap → Prop} (hN : x_NW En) : x_Tc x_MM En m_X1_because := x_Tc_of vk_X1 (sk_X1 hN) pk_X1
theorem tb_X1_goer : x_Tb m_X1_goer := x_Tb_of false ci_X1_goer fk_X1 (fun h => by cases h) kk_X1 nk_X1 ok_X1 sm_X1
theorem tc_X1_goer {En : (Nat → Prop) → State → Heap → Prop} (hN : x_NW En) : x_Tc x_MM En m_X1_goer := x_Tc_of vk_X1 (sk_X1 hN) pk_X1
theorem tb_X1_nthBit : x_Tb m_X1_nthBit := x_Tb_of false ci_X1_nthBit fk_X1 (fun h => by cases h) kk_X1 nk_X1 ok_X1 sm_X1
theorem tc_X1_nthBit {En : (Nat → Prop) → State → Heap → Prop} (hN : x_NW En) : x_Tc x_MM En m_X1_nthBit := x_Tc_of vk_X1 (sk_X1 hN) pk_X1
theorem tk_X1_init {En : (Nat → Prop) → State → Heap → Prop} (hN : x_NW En) : x_Ok1 En m_X1_init := ⟨tb_X1_init, tc_X1_init hN, by decide +kernel, rfl, wd_X1_16, ⟨by decide, by decide⟩, by decide⟩
theorem tk_X1_clear {En : (Nat → Prop) → State → Heap → Prop} (hN : x_NW En) : x_Ok1 En m_X1_clear := ⟨tb_X1_clear, tc_X1_clear hN, by decide +kernel, rfl, wd_X1_17, ⟨by decide, by decide⟩, by decide⟩
theorem tk_X1_strike {En : (Nat → Prop) → State → Heap → Prop} (hN : x_NW En) : x_Ok1 En m_X1_strike := ⟨tb_X1_strike, tc_X1_strike hN, by decide +kernel, rfl, wd_X1_18, ⟨by decide, by decide⟩, by decide⟩
theorem tk_X1_because {En : (Nat → Prop) → State → Heap → Prop} (hN : x_NW En) : x_Ok1 En m_X1_because := ⟨tb_X1_because, tc_X1_because hN, by decide +kernel, rfl, wd_X1_19, ⟨by decide, by decide⟩, by decide⟩
theorem tk_X1_goer {En : (Nat → Prop) → State → Heap → Prop} (hN : x_NW En) : x_Ok1 En m_X1_goer := ⟨tb_X1_goer, tc_X1_goer hN, by decide +kernel, rfl, wd_X1_20, ⟨by decide, by decide⟩, by decide⟩
theorem tk_X1_nthBit {En : (Nat → Prop) → State → Heap → Prop} (hN : x_NW En) : x_Ok1 En m_X1_nthBit := ⟨tb_X1_nthBit, tc_X1_nthBit hN, by decide +kernel, rfl, wd_X1_21, ⟨by decide, by decide⟩, by decide⟩
set_option maxRecDepth 20000 in
theorem fk_X3 : ∀ e ∈ fl_X3, x_Fl RX3 false e := List.forall_mem_cons.mpr ⟨⟨_, _, _, _, cl_X3, by decide, wd_X3_0, Or.inl rfl⟩, List.forall_mem_cons.mpr ⟨⟨_, _, _, _, cl_X3, by decide, wd_X3_1, Or.inl rfl⟩, List.forall_mem_cons.mpr ⟨⟨_, _, _, _, cl_X3, by decide, wd_X3_2, Or.inl rfl⟩, List.forall_mem_cons.mpr ⟨⟨_, _, _, _, cl_X3, by decide, wd_X3_3, Or.inl rfl⟩, List.forall_mem_cons.mpr ⟨⟨_, _, _, _, cl_X3, by decide, wd_X3_4, Or.inr ⟨by decide +kernel, Or.inl ⟨rfl, rfl⟩⟩⟩, List.forall_mem_cons.mpr ⟨⟨_, _, _, _, cl_X3, by decide, wd_X3_5, Or.inr ⟨by decide +kernel, Or.inl ⟨rfl, rfl⟩⟩⟩, List.forall_mem_cons.mpr ⟨⟨_, _, _, _, cl_X2, by decide, wd_X3_6, Or.inl rfl⟩, List.forall_mem_nil _⟩⟩⟩⟩⟩⟩⟩
set_option maxRecDepth 20000 in
theorem fj_X3 : ∀ e ∈ fi_X3, x_Fl RX3 true e := List.forall_mem_cons.mpr ⟨⟨_, _, _, _, cl_X3, by decide, wd_X3_0, Or.inr ⟨by decide +kernel, Or.inr ⟨rfl, rfl, rfl⟩⟩⟩, List.forall_mem_cons.mpr ⟨⟨_, _, _, _, cl_X3, by decide, wd_X3_1, Or.inr ⟨by decide +kernel, Or.inr ⟨rfl, rfl, rfl⟩⟩⟩, List.forall_mem_cons.mpr ⟨⟨_, _, _, _, cl_X3, by decide, wd_X3_2, Or.inr ⟨by decide +kernel, Or.inr ⟨rfl, rfl, rfl⟩⟩⟩, List.forall_mem_cons.mpr ⟨⟨_, _, _, _, cl_X3, by decide, wd_X3_3, Or.inr ⟨by decide +kernel, Or.inr ⟨rfl, rfl, rfl⟩⟩⟩, List.forall_mem_cons.mpr ⟨⟨_, _, _, _, cl_X3, by decide, wd_X3_4, Or.inr ⟨by decide +kernel, Or.inl ⟨rfl, rfl⟩⟩⟩, List.forall_mem_cons.mpr ⟨⟨_, _, _, _, cl_X3, by decide, wd_X3_5, Or.inr ⟨by decide +kernel, Or.inl ⟨rfl, rfl⟩⟩⟩, List.forall_mem_cons.mpr ⟨⟨_, _, _, _, cl_X2, by decide, wd_X3_6, Or.inl rfl⟩, List.forall_mem_nil _⟩⟩⟩⟩⟩⟩⟩
set_option maxRecDepth 20000 in
theorem kk_X3 : ∀ e ∈ kl_X3, x_Kl RX3 e := List.forall_mem_nil _
set_option maxRecDepth 20000 in
theorem nk_X3 : ∀ e ∈ nl_X3, x_Nl RX3 e := List.forall_mem_nil _
set_option maxRecDepth 20000 in
theorem ok_X3 : ∀ e ∈ pl_X3, x_Sl0 RX3 e := List.forall_mem_cons.mpr ⟨wd_X3_11, List.forall_mem_nil _⟩
set_option maxRecDepth 20000 in
theorem vk_X3 : ∀ e ∈ vl_X3, x_Vl x_MM RX3 e := List.forall_mem_cons.mpr ⟨⟨m_X2_giveBack, _, rfl, rfl, rfl, rfl, wd_X3_7, wd_X3_8, wd_X3_9, wd_X3_10, by decide +kernel⟩, List.forall_mem_nil _⟩
set_option maxRecDepth 20000 in
theorem sk_X3 {En : (Nat → Prop) → State → Heap → Prop} (hN : x_NW En) : ∀ e ∈ sl_X3, x_Sl x_MM En RX3 e := List.forall_mem_nil _
theorem sm_X3 : ∀ e ∈ sl_X3, x_Ml RX3 e := List.forall_mem_nil _
set_option maxRecDepth 20000 in
theorem pk_X3 : ∀ e ∈ pl_X3, x_Pl x_MM RX3 e := List.forall_mem_cons.mpr ⟨trivial, List.forall_mem_nil _⟩
theorem tb_X3_init : x_Tb m_X3_init := x_Tb_of true ci_X3_init fj_X3 (fun _ => rfl) kk_X3 nk_X3 ok_X3 sm_X3
theorem tc_X3_init {En : (Nat → Prop) → State → Heap → Prop} (hN : x_NW En) : x_Tc x_MM En m_X3_init := x_Tc_of vk_X3 (sk_X3 hN) pk_X3
theorem tb_X3_mostSteps : x_Tb m_X3_mostSteps := x_Tb_of false ci_X3_mostSteps fk_X3 (fun h => by cases h) kk_X3 nk_X3 ok_X3 sm_X3
theorem tc_X3_mostSteps {En : (Nat → Prop) → State → Heap → Prop} (hN : x_NW En) : x_Tc x_MM En m_X3_mostSteps := x_Tc_of vk_X3 (sk_X3 hN) pk_X3
theorem tb_X3_clear : x_Tb m_X3_clear := x_Tb_of false ci_X3_clear fk_X3 (fun h => by cases h) kk_X3 nk_X3 ok_X3 sm_X3
theorem tc_X3_clear {En : (Nat → Prop) → State → Heap → Prop} (hN : x_NW En) : x_Tc x_MM En m_X3_clear := x_Tc_of vk_X3 (sk_X3 hN) pk_X3
theorem tb_X3_note : x_Tb m_X3_note := x_Tb_of false ci_X3_note fk_X3 (fun h => by cases h) kk_X3 nk_X3 ok_X3 sm_X3
theorem tc_X3_note {En : (Nat → Prop) → State → Heap → Prop} (hN : x_NW En) : x_Tc x_MM En m_X3_note := x_Tc_of vk_X3 (sk_X3 hN) pk_X3
theorem tb_X3_close : x_Tb m_X3_close := x_Tb_of false ci_X3_close fk_X3 (fun h => by cases h) kk_X3 nk_X3 ok_X3 sm_X3
theorem tc_X3_close {En : (Nat → Prop) → State → Heap → Prop} (hN : x_NW En) : x_Tc x_MM En m_X3_close := x_Tc_of vk_X3 (sk_X3 hN) pk_X3
theorem tb_X3_takeBack : x_Tb m_X3_takeBack := x_Tb_of false ci_X3_takeBack fk_X3 (fun h => by cases h) kk_X3 nk_X3 ok_X3 sm_X3
theorem tc_X3_takeBack {En : (Nat → Prop) → State → Heap → Prop} (hN : x_NW En) : x_Tc x_MM En m_X3_takeBack := x_Tc_of vk_X3 (sk_X3 hN) pk_X3
theorem tk_X3_init {En : (Nat → Prop) → State → Heap → Prop} (hN : x_NW En) : x_Ok1 En m_X3_init := ⟨tb_X3_init, tc_X3_init hN, by decide +kernel, rfl, wd_X3_12, ⟨by decide, by decide⟩, by decide⟩
theorem tk_X3_mostSteps {En : (Nat → Prop) → State → Heap → Prop} (hN : x_NW En) : x_Ok1 En m_X3_mostSteps := ⟨tb_X3_mostSteps, tc_X3_mostSteps hN, by decide +kernel, rfl, wd_X3_13, ⟨by decide, by decide⟩, by decide⟩
theorem tk_X3_clear {En : (Nat → Prop) → State → Heap → Prop} (hN : x_NW En) : x_Ok1 En m_X3_clear := ⟨tb_X3_clear, tc_X3_clear hN, by decide +kernel, rfl, wd_X3_14, ⟨by decide, by decide⟩, by decide⟩
theorem tk_X3_note {En : (Nat → Prop) → State → Heap → Prop} (hN : x_NW En) : x_Ok1 En m_X3_note := ⟨tb_X3_note, tc_X3_note hN, by decide +kernel, rfl, wd_X3_15, ⟨by decide, by decide⟩, by decide⟩
theorem tk_X3_close {En : (Nat → Prop) → State → Heap → Prop} (hN : x_NW En) : x_Ok1 En m_X3_close := ⟨tb_X3_close, tc_X3_close hN, by decide +kernel, rfl, wd_X3_16, ⟨by decide, by decide⟩, by decide⟩
theorem tk_X3_takeBack {En : (Nat → Prop) → State → Heap → Prop} (hN : x_NW En) : x_Ok1 En m_X3_takeBack := ⟨tb_X3_takeBack, tc_X3_takeBack hN, by decide +kernel, rfl, wd_X3_17, ⟨by decide, by decide⟩, by decide⟩
set_option maxRecDepth 20000 in
theorem fk_X6 : ∀ e ∈ fl_X6, x_Fl RX6 false e := List.forall_mem_cons.mpr ⟨⟨_, _, _, _, cl_X6, by decide, wd_X6_0, Or.inl rfl⟩, List.forall_mem_cons.mpr ⟨⟨_, _, _, _, cl_X6, by decide, wd_X6_1, Or.inl rfl⟩, List.forall_mem_cons.mpr ⟨⟨_, _, _, _, cl_X6, by decide, wd_X6_2, Or.inl rfl⟩, List.forall_mem_cons.mpr ⟨⟨_, _, _, _, cl_X6, by decide, wd_X6_3, Or.inr ⟨by decide +kernel, Or.inl ⟨rfl, rfl⟩⟩⟩, List.forall_mem_nil _⟩⟩⟩⟩
set_option maxRecDepth 20000 in
theorem fj_X6 : ∀ e ∈ fi_X6, x_Fl RX6 true e := List.forall_mem_cons.mpr ⟨⟨_, _, _, _, cl_X6, by decide, wd_X6_0, Or.inr ⟨by decide +kernel, Or.inr ⟨rfl, rfl, rfl⟩⟩⟩, List.forall_mem_cons.mpr ⟨⟨_, _, _, _, cl_X6, by decide, wd_X6_1, Or.inr ⟨by decide +kernel, Or.inr ⟨rfl, rfl, rfl⟩⟩⟩, List.forall_mem_cons.mpr ⟨⟨_, _, _, _, cl_X6, by decide, wd_X6_2, Or.inr ⟨by decide +kernel, Or.inr ⟨rfl, rfl, rfl⟩⟩⟩, List.forall_mem_cons.mpr ⟨⟨_, _, _, _, cl_X6, by decide, wd_X6_3, Or.inr ⟨by decide +kernel, Or.inl ⟨rfl, rfl⟩⟩⟩, List.forall_mem_nil _⟩⟩⟩⟩
set_option maxRecDepth 20000 in
theorem kk_X6 : ∀ e ∈ kl_X6, x_Kl RX6 e := List.forall_mem_nil _
set_option maxRecDepth 20000 in
theorem nk_X6 : ∀ e ∈ nl_X6, x_Nl RX6 e := List.forall_mem_nil _
set_option maxRecDepth 20000 in
theorem ok_X6 : ∀ e ∈ pl_X6, x_Sl0 RX6 e := List.forall_mem_cons.mpr ⟨wd_X6_8, List.forall_mem_nil _⟩
set_option maxRecDepth 20000 in
theorem vk_X6 : ∀ e ∈ vl_X6, x_Vl x_MM RX6 e := List.forall_mem_cons.mpr ⟨⟨m_X6_gather, _, rfl, rfl, rfl, rfl, wd_X6_4, wd_X6_5, wd_X6_6, wd_X6_7, by decide +kernel⟩, List.forall_mem_nil _⟩
set_option maxRecDepth 20000 in
theorem sk_X6 {En : (Nat → Prop) → State → Heap → Prop} (hN : x_NW En) : ∀ e ∈ sl_X6, x_Sl x_MM En RX6 e := List.forall_mem_nil _
theorem sm_X6 : ∀ e ∈ sl_X6, x_Ml RX6 e := List.forall_mem_nil _
set_option maxRecDepth 20000 in
theorem pk_X6 : ∀ e ∈ pl_X6, x_Pl x_MM RX6 e := List.forall_mem_cons.mpr ⟨trivial, List.forall_mem_nil _⟩
theorem tb_X6_init : x_Tb m_X6_init := x_Tb_of true ci_X6_init fj_X6 (fun _ => rfl) kk_X6 nk_X6 ok_X6 sm_X6
theorem tc_X6_init {En : (Nat → Prop) → State → Heap → Prop} (hN : x_NW En) : x_Tc x_MM En m_X6_init := x_Tc_of vk_X6 (sk_X6 hN) pk_X6
theorem tb_X6_gather : x_Tb m_X6_gather := x_Tb_of false ci_X6_gather fk_X6 (fun h => by cases h) kk_X6 nk_X6 ok_X6 sm_X6
theorem tc_X6_gather {En : (Nat → Prop) → State → Heap → Prop} (hN : x_NW En) : x_Tc x_MM En m_X6_gather := x_Tc_of vk_X6 (sk_X6 hN) pk_X6
theorem tb_X6_start : x_Tb m_X6_start := x_Tb_of false ci_X6_start fk_X6 (fun h => by cases h) kk_X6 nk_X6 ok_X6 sm_X6
theorem tc_X6_start {En : (Nat → Prop) → State → Heap → Prop} (hN : x_NW En) : x_Tc x_MM En m_X6_start := x_Tc_of vk_X6 (sk_X6 hN) pk_X6
theorem tb_X6_end : x_Tb m_X6_end := x_Tb_of false ci_X6_end fk_X6 (fun h => by cases h) kk_X6 nk_X6 ok_X6 sm_X6
theorem tc_X6_end {En : (Nat → Prop) → State → Heap → Prop} (hN : x_NW En) : x_Tc x_MM En m_X6_end := x_Tc_of vk_X6 (sk_X6 hN) pk_X6
theorem tb_X6_get : x_Tb m_X6_get := x_Tb_of false ci_X6_get fk_X6 (fun h => by cases h) kk_X6 nk_X6 ok_X6 sm_X6
theorem tc_X6_get {En : (Nat → Prop) → State → Heap → Prop} (hN : x_NW En) : x_Tc x_MM En m_X6_get := x_Tc_of vk_X6 (sk_X6 hN) pk_X6
theorem tk_X6_init {En : (Nat → Prop) → State → Heap → Prop} (hN : x_NW En) : x_Ok1 En m_X6_init := ⟨tb_X6_init, tc_X6_init hN, by decide +kernel, rfl, wd_X6_9, ⟨by decide, by decide⟩, by decide⟩
theorem tk_X6_gather {En : (Nat → Prop) → State → Heap → Prop} (hN : x_NW En) : x_Ok1 En m_X6_gather := ⟨tb_X6_gather, tc_X6_gather hN, by decide +kernel, rfl, wd_X6_10, ⟨by decide, by decide⟩, by decide⟩
theorem tk_X6_start {En : (Nat → Prop) → State → Heap → Prop} (hN : x_NW En) : x_Ok1 En m_X6_start := ⟨tb_X6_start, tc_X6_start hN, by decide +kernel, rfl, wd_X6_11, ⟨by decide, by decide⟩, by decide⟩
theorem tk_X6_end {En : (Nat → Prop) → State → Heap → Prop} (hN : x_NW En) : x_Ok1 En m_X6_end := ⟨tb_X6_end, tc_X6_end hN, by decide +kernel, rfl, wd_X6_12, ⟨by decide, by decide⟩, by decide⟩
theorem tk_X6_get {En : (Nat → Prop) → State → Heap → Prop} (hN : x_NW En) : x_Ok1 En m_X6_get := ⟨tb_X6_get, tc_X6_get hN, by decide +kernel, rfl, wd_X6_13, ⟨by decide, by decide⟩, by decide⟩
set_option maxRecDepth 20000 in
theorem fk_X0 : ∀ e ∈ fl_X0, x_Fl RX0 false e := List.forall_mem_cons.mpr ⟨⟨_, _, _, _, cl_X0, by decide, wd_X0_0, Or.inl rfl⟩, List.forall_mem_cons.mpr ⟨⟨_, _, _, _, cl_X0, by decide, wd_X0_1, Or.inl rfl⟩, List.forall_mem_cons.mpr ⟨⟨_, _, _, _, cl_X2, by decide, wd_X0_2, Or.inl rfl⟩, List.forall_mem_cons.mpr ⟨⟨_, _, _, _, cl_X2, by decide, wd_X0_3, Or.inl rfl⟩, List.forall_mem_cons.mpr ⟨⟨_, _, _, _, cl_X0, by decide, wd_X0_4, Or.inr ⟨by decide +kernel, Or.inl ⟨rfl, rfl⟩⟩⟩, List.forall_mem_cons.mpr ⟨⟨_, _, _, _, cl_X1, by decide, wd_X0_5, Or.inr ⟨by decide +kernel, Or.inl ⟨rfl, rfl⟩⟩⟩, List.forall_mem_nil _⟩⟩⟩⟩⟩⟩
set_option maxRecDepth 20000 in
theorem fj_X0 : ∀ e ∈ fi_X0, x_Fl RX0 true e := List.forall_mem_cons.mpr ⟨⟨_, _, _, _, cl_X0, by decide, wd_X0_0, Or.inr ⟨by decide +kernel, Or.inr ⟨rfl, rfl, rfl⟩⟩⟩, List.forall_mem_cons.mpr ⟨⟨_, _, _, _, cl_X0, by decide, wd_X0_1, Or.inr ⟨by decide +kernel, Or.inr ⟨rfl, rfl, rfl⟩⟩⟩, List.forall_mem_cons.mpr ⟨⟨_, _, _, _, cl_X2, by decide, wd_X0_2, Or.inl rfl⟩, List.forall_mem_cons.mpr ⟨⟨_, _, _, _, cl_X2, by decide, wd_X0_3, Or.inl rfl⟩, List.forall_mem_cons.mpr ⟨⟨_, _, _, _, cl_X0, by decide, wd_X0_4, Or.inr ⟨by decide +kernel, Or.inl ⟨rfl, rfl⟩⟩⟩, List.forall_mem_cons.mpr ⟨⟨_, _, _, _, cl_X1, by decide, wd_X0_5, Or.inr ⟨by decide +kernel, Or.inl ⟨rfl, rfl⟩⟩⟩, List.forall_mem_nil _⟩⟩⟩⟩⟩⟩
set_option maxRecDepth 20000 in
theorem kk_X0 : ∀ e ∈ kl_X0, x_Kl RX0 e := List.forall_mem_nil _
set_option maxRecDepth 20000 in
theorem nk_X0 : ∀ e ∈ nl_X0, x_Nl RX0 e := List.forall_mem_nil _
set_option maxRecDepth 20000 in
theorem ok_X0 : ∀ e ∈ pl_X0, x_Sl0 RX0 e := List.forall_mem_cons.mpr ⟨wd_X0_56, List.forall_mem_nil _⟩
set_option maxRecDepth 20000 in
theorem vk_X0 : ∀ e ∈ vl_X0, x_Vl x_MM RX0 e := List.forall_mem_cons.mpr ⟨⟨m_X0_join, _, rfl, rfl, rfl, rfl, wd_X0_6, wd_X0_7, wd_X0_8, wd_X0_9, by decide +kernel⟩, List.forall_mem_cons.mpr ⟨⟨m_X0_takes, _, rfl, rfl, rfl, rfl, wd_X0_10, wd_X0_11, wd_X0_12, wd_X0_9, by decide +kernel⟩, List.forall_mem_cons.mpr ⟨⟨m_X0_leaveBehind, _, rfl, rfl, rfl, rfl, wd_X0_13, wd_X0_14, wd_X0_15, wd_X0_9, by decide +kernel⟩, List.forall_mem_cons.mpr ⟨⟨m_X0_colour, _, rfl, rfl, rfl, rfl, wd_X0_16, wd_X0_17, wd_X0_18, wd_X0_9, by decide +kernel⟩, List.forall_mem_cons.mpr ⟨⟨m_X0_linkedCell, _, rfl, rfl, rfl, rfl, wd_X0_19, wd_X0_20, wd_X0_21, wd_X0_9, by decide +kernel⟩, List.forall_mem_cons.mpr ⟨⟨m_X2_house, _, rfl, rfl, rfl, rfl, wd_X0_22, wd_X0_23, wd_X0_24, wd_X0_25, by decide +kernel⟩, List.forall_mem_cons.mpr ⟨⟨m_X2_places, _, rfl, rfl, rfl, rfl, wd_X0_26, wd_X0_27, wd_X0_28, wd_X0_25, by decide +kernel⟩, List.forall_mem_cons.mpr ⟨⟨m_X2_cell, _, rfl, rfl, rfl, rfl, wd_X0_29, wd_X0_30, wd_X0_31, wd_X0_25, by decide +kernel⟩, List.forall_mem_cons.mpr ⟨⟨m_X0_clash, _, rfl, rfl, rfl, rfl, wd_X0_32, wd_X0_33, wd_X0_34, wd_X0_9, by decide +kernel⟩, List.forall_mem_cons.mpr ⟨⟨m_X0_strikeColour, _, rfl, rfl, rfl, rfl, wd_X0_35, wd_X0_36, wd_X0_37, wd_X0_9, by decide +kernel⟩, List.forall_mem_cons.mpr ⟨⟨m_X0_strikeOthers, _, rfl, rfl, rfl, rfl, wd_X0_38, wd_X0_39, wd_X0_40, wd_X0_9, by decide +kernel⟩, List.forall_mem_cons.mpr ⟨⟨m_X1_because, _, rfl, rfl, rfl, rfl, wd_X0_41, wd_X0_42, wd_X0_43, wd_X0_44, by decide +kernel⟩, List.forall_mem_cons.mpr ⟨⟨m_X2_see, _, rfl, rfl, rfl, rfl, wd_X0_45, wd_X0_46, wd_X0_47, wd_X0_25, by decide +kernel⟩, List.forall_mem_cons.mpr ⟨⟨m_X1_strike, _, rfl, rfl, rfl, rfl, wd_X0_48, wd_X0_49, wd_X0_50, wd_X0_44, by decide +kernel⟩, List.forall_mem_nil _⟩⟩⟩⟩⟩⟩⟩⟩⟩⟩⟩⟩⟩⟩
set_option maxRecDepth 20000 in
theorem sk_X0 {En : (Nat → Prop) → State → Heap → Prop} (hN : x_NW En) : ∀ e ∈ sl_X0, x_Sl x_MM En RX0 e := List.forall_mem_cons.mpr ⟨fun _ => ⟨m_J6_bitCount, rfl, Or.inl ⟨rfl, wd_X0_51⟩, wd_X0_52, wd_X0_53, by decide +kernel⟩, List.forall_mem_cons.mpr ⟨fun _ => ⟨m_X7_leastBit, rfl, Or.inr ⟨rfl, _, hN.2.1⟩, wd_X0_54, wd_X0_55, by decide +kernel⟩, List.forall_mem_nil _⟩⟩
theorem sm_X0 : ∀ e ∈ sl_X0, x_Ml RX0 e := List.forall_mem_cons.mpr ⟨fun h => absurd h (by decide), List.forall_mem_cons.mpr ⟨fun h => absurd h (by decide), List.forall_mem_nil _⟩⟩
set_option maxRecDepth 20000 in
theorem pk_X0 : ∀ e ∈ pl_X0, x_Pl x_MM RX0 e := List.forall_mem_cons.mpr ⟨trivial, List.forall_mem_nil _⟩
theorem tb_X0_init : x_Tb m_X0_init := x_Tb_of true ci_X0_init fj_X0 (fun _ => rfl) kk_X0 nk_X0 ok_X0 sm_X0
theorem tc_X0_init {En : (Nat → Prop) → State → Heap → Prop} (hN : x_NW En) : x_Tc x_MM En m_X0_init := x_Tc_of vk_X0 (sk_X0 hN) pk_X0
theorem tb_X0_look : x_Tb m_X0_look := x_Tb_of false ci_X0_look fk_X0 (fun h => by cases h) kk_X0 nk_X0 ok_X0 sm_X0
theorem tc_X0_look {En : (Nat → Prop) → State → Heap → Prop} (hN : x_NW En) : x_Tc x_MM En m_X0_look := x_Tc_of vk_X0 (sk_X0 hN) pk_X0
theorem tb_X0_join : x_Tb m_X0_join := x_Tb_of false ci_X0_join fk_X0 (fun h => by cases h) kk_X0 nk_X0 ok_X0 sm_X0
theorem tc_X0_join {En : (Nat → Prop) → State → Heap → Prop} (hN : x_NW En) : x_Tc x_MM En m_X0_join := x_Tc_of vk_X0 (sk_X0 hN) pk_X0
theorem tb_X0_colour : x_Tb m_X0_colour := x_Tb_of false ci_X0_colour fk_X0 (fun h => by cases h) kk_X0 nk_X0 ok_X0 sm_X0
theorem tc_X0_colour {En : (Nat → Prop) → State → Heap → Prop} (hN : x_NW En) : x_Tc x_MM En m_X0_colour := x_Tc_of vk_X0 (sk_X0 hN) pk_X0
theorem tb_X0_linkedCell : x_Tb m_X0_linkedCell := x_Tb_of false ci_X0_linkedCell fk_X0 (fun h => by cases h) kk_X0 nk_X0 ok_X0 sm_X0
theorem tc_X0_linkedCell {En : (Nat → Prop) → State → Heap → Prop} (hN : x_NW En) : x_Tc x_MM En m_X0_linkedCell := x_Tc_of vk_X0 (sk_X0 hN) pk_X0
theorem tb_X0_takes : x_Tb m_X0_takes := x_Tb_of false ci_X0_takes fk_X0 (fun h => by cases h) kk_X0 nk_X0 ok_X0 sm_X0
theorem tc_X0_takes {En : (Nat → Prop) → State → Heap → Prop} (hN : x_NW En) : x_Tc x_MM En m_X0_takes := x_Tc_of vk_X0 (sk_X0 hN) pk_X0
theorem tb_X0_clash : x_Tb m_X0_clash := x_Tb_of false ci_X0_clash fk_X0 (fun h => by cases h) kk_X0 nk_X0 ok_X0 sm_X0
theorem tc_X0_clash {En : (Nat → Prop) → State → Heap → Prop} (hN : x_NW En) : x_Tc x_MM En m_X0_clash := x_Tc_of vk_X0 (sk_X0 hN) pk_X0
theorem tb_X0_strikeColour : x_Tb m_X0_strikeColour := x_Tb_of false ci_X0_strikeColour fk_X0 (fun h => by cases h) kk_X0 nk_X0 ok_X0 sm_X0
theorem tc_X0_strikeColour {En : (Nat → Prop) → State → Heap → Prop} (hN : x_NW En) : x_Tc x_MM En m_X0_strikeColour := x_Tc_of vk_X0 (sk_X0 hN) pk_X0
theorem tb_X0_strikeOthers : x_Tb m_X0_strikeOthers := x_Tb_of false ci_X0_strikeOthers fk_X0 (fun h => by cases h) kk_X0 nk_X0 ok_X0 sm_X0
theorem tc_X0_strikeOthers {En : (Nat → Prop) → State → Heap → Prop} (hN : x_NW En) : x_Tc x_MM En m_X0_strikeOthers := x_Tc_of vk_X0 (sk_X0 hN) pk_X0
theorem tb_X0_leaveBehind : x_Tb m_X0_leaveBehind := x_Tb_of false ci_X0_leaveBehind fk_X0 (fun h => by cases h) kk_X0 nk_X0 ok_X0 sm_X0
theorem tc_X0_leaveBehind {En : (Nat → Prop) → State → Heap → Prop} (hN : x_NW En) : x_Tc x_MM En m_X0_leaveBehind := x_Tc_of vk_X0 (sk_X0 hN) pk_X0
theorem tk_X0_init {En : (Nat → Prop) → State → Heap → Prop} (hN : x_NW En) : x_Ok1 En m_X0_init := ⟨tb_X0_init, tc_X0_init hN, by decide +kernel, rfl, wd_X0_57, ⟨by decide, by decide⟩, by decide⟩
theorem tk_X0_look {En : (Nat → Prop) → State → Heap → Prop} (hN : x_NW En) : x_Ok1 En m_X0_look := ⟨tb_X0_look, tc_X0_look hN, by decide +kernel, rfl, wd_X0_58, ⟨by decide, by decide⟩, by decide⟩
theorem tk_X0_join {En : (Nat → Prop) → State → Heap → Prop} (hN : x_NW En) : x_Ok1 En m_X0_join := ⟨tb_X0_join, tc_X0_join hN, by decide +kernel, rfl, wd_X0_59, ⟨by decide, by decide⟩, by decide⟩
theorem tk_X0_colour {En : (Nat → Prop) → State → Heap → Prop} (hN : x_NW En) : x_Ok1 En m_X0_colour := ⟨tb_X0_colour, tc_X0_colour hN, by decide +kernel, rfl, wd_X0_60, ⟨by decide, by decide⟩, by decide⟩
theorem tk_X0_linkedCell {En : (Nat → Prop) → State → Heap → Prop} (hN : x_NW En) : x_Ok1 En m_X0_linkedCell := ⟨tb_X0_linkedCell, tc_X0_linkedCell hN, by decide +kernel, rfl, wd_X0_61, ⟨by decide, by decide⟩, by decide⟩
theorem tk_X0_takes {En : (Nat → Prop) → State → Heap → Prop} (hN : x_NW En) : x_Ok1 En m_X0_takes := ⟨tb_X0_takes, tc_X0_takes hN, by decide +kernel, rfl, wd_X0_62, ⟨by decide, by decide⟩, by decide⟩
theorem tk_X0_clash {En : (Nat → Prop) → State → Heap → Prop} (hN : x_NW En) : x_Ok1 En m_X0_clash := ⟨tb_X0_clash, tc_X0_clash hN, by decide +kernel, rfl, wd_X0_63, ⟨by decide, by decide⟩, by decide⟩
theorem tk_X0_strikeColour {En : (Nat → Prop) → State → Heap → Prop} (hN : x_NW En) : x_Ok1 En m_X0_strikeColour := ⟨tb_X0_strikeColour, tc_X0_strikeColour hN, by decide +kernel, rfl, wd_X0_64, ⟨by decide, by decide⟩, by decide⟩
theorem tk_X0_strikeOthers {En : (Nat → Prop) → State → Heap → Prop} (hN : x_NW En) : x_Ok1 En m_X0_strikeOthers := ⟨tb_X0_strikeOthers, tc_X0_strikeOthers hN, by decide +kernel, rfl, wd_X0_65, ⟨by decide, by decide⟩, by decide⟩
theorem tk_X0_leaveBehind {En : (Nat → Prop) → State → Heap → Prop} (hN : x_NW En) : x_Ok1 En m_X0_leaveBehind := ⟨tb_X0_leaveBehind, tc_X0_leaveBehind hN, by decide +kernel, rfl, wd_X0_66, ⟨by decide, by decide⟩, by decide⟩
set_option maxRecDepth 20000 in
theorem fk_X5 : ∀ e ∈ fl_X5, x_Fl RX5 false e := List.forall_mem_cons.mpr ⟨⟨_, _, _, _, cl_X5, by decide, wd_X5_0, Or.inl rfl⟩, List.forall_mem_cons.mpr ⟨⟨_, _, _, _, cl_X2, by decide, wd_X5_1, Or.inl rfl⟩, List.forall_mem_cons.mpr ⟨⟨_, _, _, _, cl_X5, by decide, wd_X5_2, Or.inl rfl⟩, List.forall_mem_cons.mpr ⟨⟨_, _, _, _, cl_X2, by decide, wd_X5_3, Or.inl rfl⟩, List.forall_mem_cons.mpr ⟨⟨_, _, _, _, cl_X5, by decide, wd_X5_4, Or.inl rfl⟩, List.forall_mem_cons.mpr ⟨⟨_, _, _, _, cl_X5, by decide, wd_X5_5, Or.inl rfl⟩, List.forall_mem_cons.mpr ⟨⟨_, _, _, _, cl_X5, by decide, wd_X5_6, Or.inl rfl⟩, List.forall_mem_cons.mpr ⟨⟨_, _, _, _, cl_X5, by decide, wd_X5_7, Or.inl rfl⟩, List.forall_mem_cons.mpr ⟨⟨_, _, _, _, cl_X1, by decide, wd_X5_8, Or.inr ⟨by decide +kernel, Or.inl ⟨rfl, rfl⟩⟩⟩, List.forall_mem_cons.mpr ⟨⟨_, _, _, _, cl_X1, by decide, wd_X5_9, Or.inr ⟨by decide +kernel, Or.inl ⟨rfl, rfl⟩⟩⟩, List.forall_mem_cons.mpr ⟨⟨_, _, _, _, cl_X2, by decide, wd_X5_10, Or.inl rfl⟩, List.forall_mem_cons.mpr ⟨⟨_, _, _, _, cl_X1, by decide, wd_X5_11, Or.inr ⟨by decide +kernel, Or.inl ⟨rfl, rfl⟩⟩⟩, List.forall_mem_cons.mpr ⟨⟨_, _, _, _, cl_X2, by decide, wd_X5_12, Or.inl rfl⟩, List.forall_mem_nil _⟩⟩⟩⟩⟩⟩⟩⟩⟩⟩⟩⟩⟩
set_option maxRecDepth 20000 in
theorem fj_X5 : ∀ e ∈ fi_X5, x_Fl RX5 true e := List.forall_mem_cons.mpr ⟨⟨_, _, _, _, cl_X5, by decide, wd_X5_0, Or.inr ⟨by decide +kernel, Or.inr ⟨rfl, rfl, rfl⟩⟩⟩, List.forall_mem_cons.mpr ⟨⟨_, _, _, _, cl_X2, by decide, wd_X5_1, Or.inl rfl⟩, List.forall_mem_cons.mpr ⟨⟨_, _, _, _, cl_X5, by decide, wd_X5_2, Or.inr ⟨by decide +kernel, Or.inr ⟨rfl, rfl, rfl⟩⟩⟩, List.forall_mem_cons.mpr ⟨⟨_, _, _, _, cl_X2, by decide, wd_X5_3, Or.inl rfl⟩, List.forall_mem_cons.mpr ⟨⟨_, _, _, _, cl_X5, by decide, wd_X5_4, Or.inr ⟨by decide +kernel, Or.inr ⟨rfl, rfl, rfl⟩⟩⟩, List.forall_mem_cons.mpr ⟨⟨_, _, _, _, cl_X5, by decide, wd_X5_5, Or.inr ⟨by decide +kernel, Or.inr ⟨rfl, rfl, rfl⟩⟩⟩, List.forall_mem_cons.mpr ⟨⟨_, _, _, _, cl_X5, by decide, wd_X5_6, Or.inr ⟨by decide +kernel, Or.inr ⟨rfl, rfl, rfl⟩⟩⟩, List.forall_mem_cons.mpr ⟨⟨_, _, _, _, cl_X5, by decide, wd_X5_7, Or.inr ⟨by decide +kernel, Or.inr ⟨rfl, rfl, rfl⟩⟩⟩, List.forall_mem_cons.mpr ⟨⟨_, _, _, _, cl_X1, by decide, wd_X5_8, Or.inr ⟨by decide +kernel, Or.inl ⟨rfl, rfl⟩⟩⟩, List.forall_mem_cons.mpr ⟨⟨_, _, _, _, cl_X1, by decide, wd_X5_9, Or.inr ⟨by decide +kernel, Or.inl ⟨rfl, rfl⟩⟩⟩, List.forall_mem_cons.mpr ⟨⟨_, _, _, _, cl_X2, by decide, wd_X5_10, Or.inl rfl⟩, List.forall_mem_cons.mpr ⟨⟨_, _, _, _, cl_X1, by decide, wd_X5_11, Or.inr ⟨by decide +kernel, Or.inl ⟨rfl, rfl⟩⟩⟩, List.forall_mem_cons.mpr ⟨⟨_, _, _, _, cl_X2, by decide, wd_X5_12, Or.inl rfl⟩, List.forall_mem_nil _⟩⟩⟩⟩⟩⟩⟩⟩⟩⟩⟩⟩⟩
set_option maxRecDepth 20000 in
theorem kk_X5 : ∀ e ∈ kl_X5, x_Kl RX5 e := List.forall_mem_nil _
set_option maxRecDepth 20000 in
theorem nk_X5 : ∀ e ∈ nl_X5, x_Nl RX5 e := List.forall_mem_cons.mpr ⟨⟨_, _, _, _, cl_X2, wd_X5_143, wd_X5_144, wd_X5_52, by decide +kernel, rfl, fun _ => rfl⟩, List.forall_mem_cons.mpr ⟨⟨_, _, _, _, cl_X1, wd_X5_145, wd_X5_146, wd_X5_48, by decide +kernel, rfl, fun _ => rfl⟩, List.forall_mem_cons.mpr ⟨⟨_, _, _, _, cl_X6, wd_X5_147, wd_X5_148, wd_X5_95, by decide +kernel, rfl, fun _ => rfl⟩, List.forall_mem_cons.mpr ⟨⟨_, _, _, _, cl_X0, wd_X5_149, wd_X5_150, wd_X5_41, by decide +kernel, rfl, fun _ => rfl⟩, List.forall_mem_nil _⟩⟩⟩⟩
set_option maxRecDepth 20000 in
theorem ok_X5 : ∀ e ∈ pl_X5, x_Sl0 RX5 e := List.forall_mem_cons.mpr ⟨wd_X5_134, List.forall_mem_cons.mpr ⟨trivial, List.forall_mem_cons.mpr ⟨trivial, List.forall_mem_cons.mpr ⟨trivial, List.forall_mem_cons.mpr ⟨trivial, List.forall_mem_nil _⟩⟩⟩⟩⟩
set_option maxRecDepth 20000 in
theorem vk_X5 : ∀ e ∈ vl_X5, x_Vl x_MM RX5 e := List.forall_mem_cons.mpr ⟨⟨m_X5_last, _, rfl, rfl, rfl, rfl, wd_X5_13, wd_X5_14, wd_X5_15, wd_X5_16, by decide +kernel⟩, List.forall_mem_cons.mpr ⟨⟨m_X5_onlyPlace, _, rfl, rfl, rfl, rfl, wd_X5_17, wd_X5_18, wd_X5_19, wd_X5_16, by decide +kernel⟩, List.forall_mem_cons.mpr ⟨⟨m_X5_pointing, _, rfl, rfl, rfl, rfl, wd_X5_20, wd_X5_21, wd_X5_22, wd_X5_16, by decide +kernel⟩, List.forall_mem_cons.mpr ⟨⟨m_X5_claiming, _, rfl, rfl, rfl, rfl, wd_X5_23, wd_X5_24, wd_X5_25, wd_X5_16, by decide +kernel⟩, List.forall_mem_cons.mpr ⟨⟨m_X5_nakedSet, _, rfl, rfl, rfl, rfl, wd_X5_26, wd_X5_27, wd_X5_28, wd_X5_16, by decide +kernel⟩, List.forall_mem_cons.mpr ⟨⟨m_X5_hiddenSet, _, rfl, rfl, rfl, rfl, wd_X5_29, wd_X5_30, wd_X5_31, wd_X5_16, by decide +kernel⟩, List.forall_mem_cons.mpr ⟨⟨m_X5_crossing, _, rfl, rfl, rfl, rfl, wd_X5_32, wd_X5_33, wd_X5_34, wd_X5_16, by decide +kernel⟩, List.forall_mem_cons.mpr ⟨⟨m_X5_wing, _, rfl, rfl, rfl, rfl, wd_X5_35, wd_X5_36, wd_X5_37, wd_X5_16, by decide +kernel⟩, List.forall_mem_cons.mpr ⟨⟨m_X0_look, _, rfl, rfl, rfl, rfl, wd_X5_38, wd_X5_39, wd_X5_40, wd_X5_41, by decide +kernel⟩, List.forall_mem_cons.mpr ⟨⟨m_X5_onlyOneAnswer, _, rfl, rfl, rfl, rfl, wd_X5_42, wd_X5_43, wd_X5_44, wd_X5_16, by decide +kernel⟩, List.forall_mem_cons.mpr ⟨⟨m_X1_strike, _, rfl, rfl, rfl, rfl, wd_X5_45, wd_X5_46, wd_X5_47, wd_X5_48, by decide +kernel⟩, List.forall_mem_cons.mpr ⟨⟨m_X2_see, _, rfl, rfl, rfl, rfl, wd_X5_49, wd_X5_50, wd_X5_51, wd_X5_52, by decide +kernel⟩, List.forall_mem_cons.mpr ⟨⟨m_X2_cell, _, rfl, rfl, rfl, rfl, wd_X5_53, wd_X5_54, wd_X5_55, wd_X5_52, by decide +kernel⟩, List.forall_mem_cons.mpr ⟨⟨m_X1_because, _, rfl, rfl, rfl, rfl, wd_X5_56, wd_X5_57, wd_X5_58, wd_X5_48, by decide +kernel⟩, List.forall_mem_cons.mpr ⟨⟨m_X2_isOpen, _, rfl, rfl, rfl, rfl, wd_X5_59, wd_X5_60, wd_X5_61, wd_X5_52, by decide +kernel⟩, List.forall_mem_cons.mpr ⟨⟨m_X5_settle, _, rfl, rfl, rfl, rfl, wd_X5_62, wd_X5_63, wd_X5_64, wd_X5_16, by decide +kernel⟩, List.forall_mem_cons.mpr ⟨⟨m_X2_places, _, rfl, rfl, rfl, rfl, wd_X5_65, wd_X5_66, wd_X5_67, wd_X5_52, by decide +kernel⟩, List.forall_mem_cons.mpr ⟨⟨m_X5_isOpenIn, _, rfl, rfl, rfl, rfl, wd_X5_68, wd_X5_69, wd_X5_70, wd_X5_16, by decide +kernel⟩, List.forall_mem_cons.mpr ⟨⟨m_X5_becauseOf, _, rfl, rfl, rfl, rfl, wd_X5_71, wd_X5_72, wd_X5_73, wd_X5_16, by decide +kernel⟩, List.forall_mem_cons.mpr ⟨⟨m_X5_confined, _, rfl, rfl, rfl, rfl, wd_X5_74, wd_X5_75, wd_X5_76, wd_X5_16, by decide +kernel⟩, List.forall_mem_cons.mpr ⟨⟨m_X5_sharedHouse, _, rfl, rfl, rfl, rfl, wd_X5_77, wd_X5_78, wd_X5_79, wd_X5_16, by decide +kernel⟩, List.forall_mem_cons.mpr ⟨⟨m_X2_isIn, _, rfl, rfl, rfl, rfl, wd_X5_80, wd_X5_81, wd_X5_82, wd_X5_52, by decide +kernel⟩, List.forall_mem_cons.mpr ⟨⟨m_X5_takesSome, _, rfl, rfl, rfl, rfl, wd_X5_83, wd_X5_84, wd_X5_85, wd_X5_16, by decide +kernel⟩, List.forall_mem_cons.mpr ⟨⟨m_X2_house, _, rfl, rfl, rfl, rfl, wd_X5_86, wd_X5_87, wd_X5_88, wd_X5_52, by decide +kernel⟩, List.forall_mem_cons.mpr ⟨⟨m_X5_fitItems, _, rfl, rfl, rfl, rfl, wd_X5_89, wd_X5_90, wd_X5_91, wd_X5_16, by decide +kernel⟩, List.forall_mem_cons.mpr ⟨⟨m_X6_start, _, rfl, rfl, rfl, rfl, wd_X5_92, wd_X5_93, wd_X5_94, wd_X5_95, by decide +kernel⟩, List.forall_mem_cons.mpr ⟨⟨m_X6_end, _, rfl, rfl, rfl, rfl, wd_X5_96, wd_X5_97, wd_X5_98, wd_X5_95, by decide +kernel⟩, List.forall_mem_cons.mpr ⟨⟨m_X6_get, _, rfl, rfl, rfl, rfl, wd_X5_99, wd_X5_100, wd_X5_101, wd_X5_95, by decide +kernel⟩, List.forall_mem_cons.mpr ⟨⟨m_X5_isCovered, _, rfl, rfl, rfl, rfl, wd_X5_102, wd_X5_103, wd_X5_104, wd_X5_16, by decide +kernel⟩, List.forall_mem_cons.mpr ⟨⟨m_X5_unionOf, _, rfl, rfl, rfl, rfl, wd_X5_105, wd_X5_106, wd_X5_107, wd_X5_16, by decide +kernel⟩, List.forall_mem_cons.mpr ⟨⟨m_X5_strikePlaces, _, rfl, rfl, rfl, rfl, wd_X5_108, wd_X5_109, wd_X5_110, wd_X5_16, by decide +kernel⟩, List.forall_mem_cons.mpr ⟨⟨m_X5_crossingAt, _, rfl, rfl, rfl, rfl, wd_X5_111, wd_X5_112, wd_X5_113, wd_X5_16, by decide +kernel⟩, List.forall_mem_cons.mpr ⟨⟨m_X5_isWingtip, _, rfl, rfl, rfl, rfl, wd_X5_114, wd_X5_115, wd_X5_116, wd_X5_16, by decide +kernel⟩, List.forall_mem_cons.mpr ⟨⟨m_X5_wingAt, _, rfl, rfl, rfl, rfl, wd_X5_117, wd_X5_118, wd_X5_119, wd_X5_16, by decide +kernel⟩, List.forall_mem_cons.mpr ⟨⟨m_X5_rectangleAt, _, rfl, rfl, rfl, rfl, wd_X5_120, wd_X5_121, wd_X5_122, wd_X5_16, by decide +kernel⟩, List.forall_mem_cons.mpr ⟨⟨m_X5_isInTwoBoxes, _, rfl, rfl, rfl, rfl, wd_X5_123, wd_X5_124, wd_X5_125, wd_X5_16, by decide +kernel⟩, List.forall_mem_cons.mpr ⟨⟨m_X5_fourth, _, rfl, rfl, rfl, rfl, wd_X5_126, wd_X5_127, wd_X5_128, wd_X5_16, by decide +kernel⟩, List.forall_mem_nil _⟩⟩⟩⟩⟩⟩⟩⟩⟩⟩⟩⟩⟩⟩⟩⟩⟩⟩⟩⟩⟩⟩⟩⟩⟩⟩⟩⟩⟩⟩⟩⟩⟩⟩⟩⟩⟩
set_option maxRecDepth 20000 in
theorem sk_X5 {En : (Nat → Prop) → State → Heap → Prop} (hN : x_NW En) : ∀ e ∈ sl_X5, x_Sl x_MM En RX5 e := List.forall_mem_cons.mpr ⟨fun _ => ⟨m_J6_bitCount, rfl, Or.inl ⟨rfl, wd_X5_129⟩, wd_X5_130, wd_X5_131, by decide +kernel⟩, List.forall_mem_cons.mpr ⟨fun _ => ⟨m_X7_leastBit, rfl, Or.inr ⟨rfl, _, hN.1⟩, wd_X5_132, wd_X5_133, by decide +kernel⟩, List.forall_mem_nil _⟩⟩
theorem sm_X5 : ∀ e ∈ sl_X5, x_Ml RX5 e := List.forall_mem_cons.mpr ⟨fun h => absurd h (by decide), List.forall_mem_cons.mpr ⟨fun h => absurd h (by decide), List.forall_mem_nil _⟩⟩
set_option maxRecDepth 20000 in
theorem pk_X5 : ∀ e ∈ pl_X5, x_Pl x_MM RX5 e := List.forall_mem_cons.mpr ⟨trivial, List.forall_mem_cons.mpr ⟨⟨m_X2_init, rfl, rfl, rfl, rfl, wd_X5_135, wd_X5_136, wd_X5_52, by decide +kernel⟩, List.forall_mem_cons.mpr ⟨⟨m_X1_init, rfl, rfl, rfl, rfl, wd_X5_137, wd_X5_138, wd_X5_48, by decide +kernel⟩, List.forall_mem_cons.mpr ⟨⟨m_X6_init, rfl, rfl, rfl, rfl, wd_X5_139, wd_X5_140, wd_X5_95, by decide +kernel⟩, List.forall_mem_cons.mpr ⟨⟨m_X0_init, rfl, rfl, rfl, rfl, wd_X5_141, wd_X5_142, wd_X5_41, by decide +kernel⟩, List.forall_mem_nil _⟩⟩⟩⟩⟩
theorem tb_X5_init : x_Tb m_X5_init := x_Tb_of true ci_X5_init fj_X5 (fun _ => rfl) kk_X5 nk_X5 ok_X5 sm_X5
theorem tc_X5_init {En : (Nat → Prop) → State → Heap → Prop} (hN : x_NW En) : x_Tc x_MM En m_X5_init := x_Tc_of vk_X5 (sk_X5 hN) pk_X5
theorem tb_X5_seek : x_Tb m_X5_seek := x_Tb_of false ci_X5_seek fk_X5 (fun h => by cases h) kk_X5 nk_X5 ok_X5 sm_X5
theorem tc_X5_seek {En : (Nat → Prop) → State → Heap → Prop} (hN : x_NW En) : x_Tc x_MM En m_X5_seek := x_Tc_of vk_X5 (sk_X5 hN) pk_X5
theorem tb_X5_settle : x_Tb m_X5_settle := x_Tb_of false ci_X5_settle fk_X5 (fun h => by cases h) kk_X5 nk_X5 ok_X5 sm_X5
theorem tc_X5_settle {En : (Nat → Prop) → State → Heap → Prop} (hN : x_NW En) : x_Tc x_MM En m_X5_settle := x_Tc_of vk_X5 (sk_X5 hN) pk_X5
theorem tb_X5_strikePlaces : x_Tb m_X5_strikePlaces := x_Tb_of false ci_X5_strikePlaces fk_X5 (fun h => by cases h) kk_X5 nk_X5 ok_X5 sm_X5
theorem tc_X5_strikePlaces {En : (Nat → Prop) → State → Heap → Prop} (hN : x_NW En) : x_Tc x_MM En m_X5_strikePlaces := x_Tc_of vk_X5 (sk_X5 hN) pk_X5
theorem tb_X5_takesSome : x_Tb m_X5_takesSome := x_Tb_of false ci_X5_takesSome fk_X5 (fun h => by cases h) kk_X5 nk_X5 ok_X5 sm_X5
theorem tc_X5_takesSome {En : (Nat → Prop) → State → Heap → Prop} (hN : x_NW En) : x_Tc x_MM En m_X5_takesSome := x_Tc_of vk_X5 (sk_X5 hN) pk_X5
theorem tb_X5_becauseOf : x_Tb m_X5_becauseOf := x_Tb_of false ci_X5_becauseOf fk_X5 (fun h => by cases h) kk_X5 nk_X5 ok_X5 sm_X5
theorem tc_X5_becauseOf {En : (Nat → Prop) → State → Heap → Prop} (hN : x_NW En) : x_Tc x_MM En m_X5_becauseOf := x_Tc_of vk_X5 (sk_X5 hN) pk_X5
theorem tb_X5_last : x_Tb m_X5_last := x_Tb_of false ci_X5_last fk_X5 (fun h => by cases h) kk_X5 nk_X5 ok_X5 sm_X5
theorem tc_X5_last {En : (Nat → Prop) → State → Heap → Prop} (hN : x_NW En) : x_Tc x_MM En m_X5_last := x_Tc_of vk_X5 (sk_X5 hN) pk_X5
theorem tb_X5_onlyPlace : x_Tb m_X5_onlyPlace := x_Tb_of false ci_X5_onlyPlace fk_X5 (fun h => by cases h) kk_X5 nk_X5 ok_X5 sm_X5
theorem tc_X5_onlyPlace {En : (Nat → Prop) → State → Heap → Prop} (hN : x_NW En) : x_Tc x_MM En m_X5_onlyPlace := x_Tc_of vk_X5 (sk_X5 hN) pk_X5
theorem tb_X5_isOpenIn : x_Tb m_X5_isOpenIn := x_Tb_of false ci_X5_isOpenIn fk_X5 (fun h => by cases h) kk_X5 nk_X5 ok_X5 sm_X5
theorem tc_X5_isOpenIn {En : (Nat → Prop) → State → Heap → Prop} (hN : x_NW En) : x_Tc x_MM En m_X5_isOpenIn := x_Tc_of vk_X5 (sk_X5 hN) pk_X5
theorem tb_X5_pointing : x_Tb m_X5_pointing := x_Tb_of false ci_X5_pointing fk_X5 (fun h => by cases h) kk_X5 nk_X5 ok_X5 sm_X5
theorem tc_X5_pointing {En : (Nat → Prop) → State → Heap → Prop} (hN : x_NW En) : x_Tc x_MM En m_X5_pointing := x_Tc_of vk_X5 (sk_X5 hN) pk_X5
theorem tb_X5_claiming : x_Tb m_X5_claiming := x_Tb_of false ci_X5_claiming fk_X5 (fun h => by cases h) kk_X5 nk_X5 ok_X5 sm_X5
theorem tc_X5_claiming {En : (Nat → Prop) → State → Heap → Prop} (hN : x_NW En) : x_Tc x_MM En m_X5_claiming := x_Tc_of vk_X5 (sk_X5 hN) pk_X5
theorem tb_X5_confined : x_Tb m_X5_confined := x_Tb_of false ci_X5_confined fk_X5 (fun h => by cases h) kk_X5 nk_X5 ok_X5 sm_X5
theorem tc_X5_confined {En : (Nat → Prop) → State → Heap → Prop} (hN : x_NW En) : x_Tc x_MM En m_X5_confined := x_Tc_of vk_X5 (sk_X5 hN) pk_X5
theorem tb_X5_sharedHouse : x_Tb m_X5_sharedHouse := x_Tb_of false ci_X5_sharedHouse fk_X5 (fun h => by cases h) kk_X5 nk_X5 ok_X5 sm_X5
theorem tc_X5_sharedHouse {En : (Nat → Prop) → State → Heap → Prop} (hN : x_NW En) : x_Tc x_MM En m_X5_sharedHouse := x_Tc_of vk_X5 (sk_X5 hN) pk_X5
theorem tb_X5_nakedSet : x_Tb m_X5_nakedSet := x_Tb_of false ci_X5_nakedSet fk_X5 (fun h => by cases h) kk_X5 nk_X5 ok_X5 sm_X5
theorem tc_X5_nakedSet {En : (Nat → Prop) → State → Heap → Prop} (hN : x_NW En) : x_Tc x_MM En m_X5_nakedSet := x_Tc_of vk_X5 (sk_X5 hN) pk_X5
theorem tb_X5_hiddenSet : x_Tb m_X5_hiddenSet := x_Tb_of false ci_X5_hiddenSet fk_X5 (fun h => by cases h) kk_X5 nk_X5 ok_X5 sm_X5
theorem tc_X5_hiddenSet {En : (Nat → Prop) → State → Heap → Prop} (hN : x_NW En) : x_Tc x_MM En m_X5_hiddenSet := x_Tc_of vk_X5 (sk_X5 hN) pk_X5
theorem tb_X5_crossing : x_Tb m_X5_crossing := x_Tb_of false ci_X5_crossing fk_X5 (fun h => by cases h) kk_X5 nk_X5 ok_X5 sm_X5
theorem tc_X5_crossing {En : (Nat → Prop) → State → Heap → Prop} (hN : x_NW En) : x_Tc x_MM En m_X5_crossing := x_Tc_of vk_X5 (sk_X5 hN) pk_X5
theorem tb_X5_crossingAt : x_Tb m_X5_crossingAt := x_Tb_of false ci_X5_crossingAt fk_X5 (fun h => by cases h) kk_X5 nk_X5 ok_X5 sm_X5
theorem tc_X5_crossingAt {En : (Nat → Prop) → State → Heap → Prop} (hN : x_NW En) : x_Tc x_MM En m_X5_crossingAt := x_Tc_of vk_X5 (sk_X5 hN) pk_X5
theorem tb_X5_fitItems : x_Tb m_X5_fitItems := x_Tb_of false ci_X5_fitItems fk_X5 (fun h => by cases h) kk_X5 nk_X5 ok_X5 sm_X5
theorem tc_X5_fitItems {En : (Nat → Prop) → State → Heap → Prop} (hN : x_NW En) : x_Tc x_MM En m_X5_fitItems := x_Tc_of vk_X5 (sk_X5 hN) pk_X5
theorem tb_X5_isCovered : x_Tb m_X5_isCovered := x_Tb_of false ci_X5_isCovered fk_X5 (fun h => by cases h) kk_X5 nk_X5 ok_X5 sm_X5
theorem tc_X5_isCovered {En : (Nat → Prop) → State → Heap → Prop} (hN : x_NW En) : x_Tc x_MM En m_X5_isCovered := x_Tc_of vk_X5 (sk_X5 hN) pk_X5
theorem tb_X5_unionOf : x_Tb m_X5_unionOf := x_Tb_of false ci_X5_unionOf fk_X5 (fun h => by cases h) kk_X5 nk_X5 ok_X5 sm_X5
theorem tc_X5_unionOf {En : (Nat → Prop) → State → Heap → Prop} (hN : x_NW En) : x_Tc x_MM En m_X5_unionOf := x_Tc_of vk_X5 (sk_X5 hN) pk_X5
theorem tb_X5_wing : x_Tb m_X5_wing := x_Tb_of false ci_X5_wing fk_X5 (fun h => by cases h) kk_X5 nk_X5 ok_X5 sm_X5
theorem tc_X5_wing {En : (Nat → Prop) → State → Heap → Prop} (hN : x_NW En) : x_Tc x_MM En m_X5_wing := x_Tc_of vk_X5 (sk_X5 hN) pk_X5
theorem tb_X5_isWingtip : x_Tb m_X5_isWingtip := x_Tb_of false ci_X5_isWingtip fk_X5 (fun h => by cases h) kk_X5 nk_X5 ok_X5 sm_X5
theorem tc_X5_isWingtip {En : (Nat → Prop) → State → Heap → Prop} (hN : x_NW En) : x_Tc x_MM En m_X5_isWingtip := x_Tc_of vk_X5 (sk_X5 hN) pk_X5
theorem tb_X5_wingAt : x_Tb m_X5_wingAt := x_Tb_of false ci_X5_wingAt fk_X5 (fun h => by cases h) kk_X5 nk_X5 ok_X5 sm_X5
theorem tc_X5_wingAt {En : (Nat → Prop) → State → Heap → Prop} (hN : x_NW En) : x_Tc x_MM En m_X5_wingAt := x_Tc_of vk_X5 (sk_X5 hN) pk_X5
theorem tb_X5_onlyOneAnswer : x_Tb m_X5_onlyOneAnswer := x_Tb_of false ci_X5_onlyOneAnswer fk_X5 (fun h => by cases h) kk_X5 nk_X5 ok_X5 sm_X5
theorem tc_X5_onlyOneAnswer {En : (Nat → Prop) → State → Heap → Prop} (hN : x_NW En) : x_Tc x_MM En m_X5_onlyOneAnswer := x_Tc_of vk_X5 (sk_X5 hN) pk_X5
theorem tb_X5_rectangleAt : x_Tb m_X5_rectangleAt := x_Tb_of false ci_X5_rectangleAt fk_X5 (fun h => by cases h) kk_X5 nk_X5 ok_X5 sm_X5
theorem tc_X5_rectangleAt {En : (Nat → Prop) → State → Heap → Prop} (hN : x_NW En) : x_Tc x_MM En m_X5_rectangleAt := x_Tc_of vk_X5 (sk_X5 hN) pk_X5
theorem tb_X5_isInTwoBoxes : x_Tb m_X5_isInTwoBoxes := x_Tb_of false ci_X5_isInTwoBoxes fk_X5 (fun h => by cases h) kk_X5 nk_X5 ok_X5 sm_X5
theorem tc_X5_isInTwoBoxes {En : (Nat → Prop) → State → Heap → Prop} (hN : x_NW En) : x_Tc x_MM En m_X5_isInTwoBoxes := x_Tc_of vk_X5 (sk_X5 hN) pk_X5
theorem tb_X5_fourth : x_Tb m_X5_fourth := x_Tb_of false ci_X5_fourth fk_X5 (fun h => by cases h) kk_X5 nk_X5 ok_X5 sm_X5
theorem tc_X5_fourth {En : (Nat → Prop) → State → Heap → Prop} (hN : x_NW En) : x_Tc x_MM En m_X5_fourth := x_Tc_of vk_X5 (sk_X5 hN) pk_X5
theorem tk_X5_init {En : (Nat → Prop) → State → Heap → Prop} (hN : x_NW En) : x_Ok1 En m_X5_init := ⟨tb_X5_init, tc_X5_init hN, by decide +kernel, rfl, wd_X5_151, ⟨by decide, by decide⟩, by decide⟩
theorem tk_X5_seek {En : (Nat → Prop) → State → Heap → Prop} (hN : x_NW En) : x_Ok1 En m_X5_seek := ⟨tb_X5_seek, tc_X5_seek hN, by decide +kernel, rfl, wd_X5_152, ⟨by decide, by decide⟩, by decide⟩
theorem tk_X5_settle {En : (Nat → Prop) → State → Heap → Prop} (hN : x_NW En) : x_Ok1 En m_X5_settle := ⟨tb_X5_settle, tc_X5_settle hN, by decide +kernel, rfl, wd_X5_153, ⟨by decide, by decide⟩, by decide⟩
theorem tk_X5_strikePlaces {En : (Nat → Prop) → State → Heap → Prop} (hN : x_NW En) : x_Ok1 En m_X5_strikePlaces := ⟨tb_X5_strikePlaces, tc_X5_strikePlaces hN, by decide +kernel, rfl, wd_X5_154, ⟨by decide, by decide⟩, by decide⟩
theorem tk_X5_takesSome {En : (Nat → Prop) → State → Heap → Prop} (hN : x_NW En) : x_Ok1 En m_X5_takesSome := ⟨tb_X5_takesSome, tc_X5_takesSome hN, by decide +kernel, rfl, wd_X5_155, ⟨by decide, by decide⟩, by decide⟩
theorem tk_X5_becauseOf {En : (Nat → Prop) → State → Heap → Prop} (hN : x_NW En) : x_Ok1 En m_X5_becauseOf := ⟨tb_X5_becauseOf, tc_X5_becauseOf hN, by decide +kernel, rfl, wd_X5_156, ⟨by decide, by decide⟩, by decide⟩
theorem tk_X5_last {En : (Nat → Prop) → State → Heap → Prop} (hN : x_NW En) : x_Ok1 En m_X5_last := ⟨tb_X5_last, tc_X5_last hN, by decide +kernel, rfl, wd_X5_157, ⟨by decide, by decide⟩, by decide⟩
theorem tk_X5_onlyPlace {En : (Nat → Prop) → State → Heap → Prop} (hN : x_NW En) : x_Ok1 En m_X5_onlyPlace := ⟨tb_X5_onlyPlace, tc_X5_onlyPlace hN, by decide +kernel, rfl, wd_X5_158, ⟨by decide, by decide⟩, by decide⟩
theorem tk_X5_isOpenIn {En : (Nat → Prop) → State → Heap → Prop} (hN : x_NW En) : x_Ok1 En m_X5_isOpenIn := ⟨tb_X5_isOpenIn, tc_X5_isOpenIn hN, by decide +kernel, rfl, wd_X5_159, ⟨by decide, by decide⟩, by decide⟩
theorem tk_X5_pointing {En : (Nat → Prop) → State → Heap → Prop} (hN : x_NW En) : x_Ok1 En m_X5_pointing := ⟨tb_X5_pointing, tc_X5_pointing hN, by decide +kernel, rfl, wd_X5_160, ⟨by decide, by decide⟩, by decide⟩
theorem tk_X5_claiming {En : (Nat → Prop) → State → Heap → Prop} (hN : x_NW En) : x_Ok1 En m_X5_claiming := ⟨tb_X5_claiming, tc_X5_claiming hN, by decide +kernel, rfl, wd_X5_161, ⟨by decide, by decide⟩, by decide⟩
theorem tk_X5_confined {En : (Nat → Prop) → State → Heap → Prop} (hN : x_NW En) : x_Ok1 En m_X5_confined := ⟨tb_X5_confined, tc_X5_confined hN, by decide +kernel, rfl, wd_X5_162, ⟨by decide, by decide⟩, by decide⟩
theorem tk_X5_sharedHouse {En : (Nat → Prop) → State → Heap → Prop} (hN : x_NW En) : x_Ok1 En m_X5_sharedHouse := ⟨tb_X5_sharedHouse, tc_X5_sharedHouse hN, by decide +kernel, rfl, wd_X5_163, ⟨by decide, by decide⟩, by decide⟩
theorem tk_X5_nakedSet {En : (Nat → Prop) → State → Heap → Prop} (hN : x_NW En) : x_Ok1 En m_X5_nakedSet := ⟨tb_X5_nakedSet, tc_X5_nakedSet hN, by decide +kernel, rfl, wd_X5_164, ⟨by decide, by decide⟩, by decide⟩
theorem tk_X5_hiddenSet {En : (Nat → Prop) → State → Heap → Prop} (hN : x_NW En) : x_Ok1 En m_X5_hiddenSet := ⟨tb_X5_hiddenSet, tc_X5_hiddenSet hN, by decide +kernel, rfl, wd_X5_165, ⟨by decide, by decide⟩, by decide⟩
theorem tk_X5_crossing {En : (Nat → Prop) → State → Heap → Prop} (hN : x_NW En) : x_Ok1 En m_X5_crossing := ⟨tb_X5_crossing, tc_X5_crossing hN, by decide +kernel, rfl, wd_X5_166, ⟨by decide, by decide⟩, by decide⟩
theorem tk_X5_crossingAt {En : (Nat → Prop) → State → Heap → Prop} (hN : x_NW En) : x_Ok1 En m_X5_crossingAt := ⟨tb_X5_crossingAt, tc_X5_crossingAt hN, by decide +kernel, rfl, wd_X5_167, ⟨by decide, by decide⟩, by decide⟩
theorem tk_X5_fitItems {En : (Nat → Prop) → State → Heap → Prop} (hN : x_NW En) : x_Ok1 En m_X5_fitItems := ⟨tb_X5_fitItems, tc_X5_fitItems hN, by decide +kernel, rfl, wd_X5_168, ⟨by decide, by decide⟩, by decide⟩
theorem tk_X5_isCovered {En : (Nat → Prop) → State → Heap → Prop} (hN : x_NW En) : x_Ok1 En m_X5_isCovered := ⟨tb_X5_isCovered, tc_X5_isCovered hN, by decide +kernel, rfl, wd_X5_169, ⟨by decide, by decide⟩, by decide⟩
theorem tk_X5_unionOf {En : (Nat → Prop) → State → Heap → Prop} (hN : x_NW En) : x_Ok1 En m_X5_unionOf := ⟨tb_X5_unionOf, tc_X5_unionOf hN, by decide +kernel, rfl, wd_X5_170, ⟨by decide, by decide⟩, by decide⟩
theorem tk_X5_wing {En : (Nat → Prop) → State → Heap → Prop} (hN : x_NW En) : x_Ok1 En m_X5_wing := ⟨tb_X5_wing, tc_X5_wing hN, by decide +kernel, rfl, wd_X5_171, ⟨by decide, by decide⟩, by decide⟩
theorem tk_X5_isWingtip {En : (Nat → Prop) → State → Heap → Prop} (hN : x_NW En) : x_Ok1 En m_X5_isWingtip := ⟨tb_X5_isWingtip, tc_X5_isWingtip hN, by decide +kernel, rfl, wd_X5_172, ⟨by decide, by decide⟩, by decide⟩
theorem tk_X5_wingAt {En : (Nat → Prop) → State → Heap → Prop} (hN : x_NW En) : x_Ok1 En m_X5_wingAt := ⟨tb_X5_wingAt, tc_X5_wingAt hN, by decide +kernel, rfl, wd_X5_173, ⟨by decide, by decide⟩, by decide⟩
theorem tk_X5_onlyOneAnswer {En : (Nat → Prop) → State → Heap → Prop} (hN : x_NW En) : x_Ok1 En m_X5_onlyOneAnswer := ⟨tb_X5_onlyOneAnswer, tc_X5_onlyOneAnswer hN, by decide +kernel, rfl, wd_X5_174, ⟨by decide, by decide⟩, by decide⟩
theorem tk_X5_rectangleAt {En : (Nat → Prop) → State → Heap → Prop} (hN : x_NW En) : x_Ok1 En m_X5_rectangleAt := ⟨tb_X5_rectangleAt, tc_X5_rectangleAt hN, by decide +kernel, rfl, wd_X5_175, ⟨by decide, by decide⟩, by decide⟩
theorem tk_X5_isInTwoBoxes {En : (Nat → Prop) → State → Heap → Prop} (hN : x_NW En) : x_Ok1 En m_X5_isInTwoBoxes := ⟨tb_X5_isInTwoBoxes, tc_X5_isInTwoBoxes hN, by decide +kernel, rfl, wd_X5_176, ⟨by decide, by decide⟩, by decide⟩
theorem tk_X5_fourth {En : (Nat → Prop) → State → Heap → Prop} (hN : x_NW En) : x_Ok1 En m_X5_fourth := ⟨tb_X5_fourth, tc_X5_fourth hN, by decide +kernel, rfl, wd_X5_177, ⟨by decide, by decide⟩, by decide⟩
set_option maxRecDepth 20000 in
theorem fk_X7 : ∀ e ∈ fl_X7, x_Fl RX7 false e := List.forall_mem_cons.mpr ⟨⟨_, _, _, _, cl_X7, by decide, wd_X7_0, Or.inl rfl⟩, List.forall_mem_cons.mpr ⟨⟨_, _, _, _, cl_X5, by decide, wd_X7_1, Or.inl rfl⟩, List.forall_mem_cons.mpr ⟨⟨_, _, _, _, cl_X7, by decide, wd_X7_2, Or.inl rfl⟩, List.forall_mem_cons.mpr ⟨⟨_, _, _, _, cl_X5, by decide, wd_X7_3, Or.inl rfl⟩, List.forall_mem_cons.mpr ⟨⟨_, _, _, _, cl_X7, by decide, wd_X7_4, Or.inl rfl⟩, List.forall_mem_cons.mpr ⟨⟨_, _, _, _, cl_X2, by decide, wd_X7_5, Or.inl rfl⟩, List.forall_mem_cons.mpr ⟨⟨_, _, _, _, cl_X7, by decide, wd_X7_6, Or.inl rfl⟩, List.forall_mem_cons.mpr ⟨⟨_, _, _, _, cl_X7, by decide, wd_X7_7, Or.inl rfl⟩, List.forall_mem_cons.mpr ⟨⟨_, _, _, _, cl_X7, by decide, wd_X7_8, Or.inl rfl⟩, List.forall_mem_cons.mpr ⟨⟨_, _, _, _, cl_X1, by decide, wd_X7_9, Or.inr ⟨by decide +kernel, Or.inl ⟨rfl, rfl⟩⟩⟩, List.forall_mem_cons.mpr ⟨⟨_, _, _, _, cl_X1, by decide, wd_X7_10, Or.inr ⟨by decide +kernel, Or.inl ⟨rfl, rfl⟩⟩⟩, List.forall_mem_cons.mpr ⟨⟨_, _, _, _, cl_X1, by decide, wd_X7_11, Or.inr ⟨by decide +kernel, Or.inl ⟨rfl, rfl⟩⟩⟩, List.forall_mem_cons.mpr ⟨⟨_, _, _, _, cl_X1, by decide, wd_X7_12, Or.inr ⟨by decide +kernel, Or.inl ⟨rfl, rfl⟩⟩⟩, List.forall_mem_cons.mpr ⟨⟨_, _, _, _, cl_X1, by decide, wd_X7_13, Or.inr ⟨by decide +kernel, Or.inl ⟨rfl, rfl⟩⟩⟩, List.forall_mem_cons.mpr ⟨⟨_, _, _, _, cl_X1, by decide, wd_X7_14, Or.inl rfl⟩, List.forall_mem_cons.mpr ⟨⟨_, _, _, _, cl_X3, by decide, wd_X7_15, Or.inr ⟨by decide +kernel, Or.inl ⟨rfl, rfl⟩⟩⟩, List.forall_mem_cons.mpr ⟨⟨_, _, _, _, cl_X2, by decide, wd_X7_16, Or.inl rfl⟩, List.forall_mem_cons.mpr ⟨⟨_, _, _, _, cl_X2, by decide, wd_X7_17, Or.inl rfl⟩, List.forall_mem_cons.mpr ⟨⟨_, _, _, _, cl_X2, by decide, wd_X7_18, Or.inl rfl⟩, List.forall_mem_cons.mpr ⟨⟨_, _, _, _, cl_X1, by decide, wd_X7_19, Or.inl rfl⟩, List.forall_mem_nil _⟩⟩⟩⟩⟩⟩⟩⟩⟩⟩⟩⟩⟩⟩⟩⟩⟩⟩⟩⟩
set_option maxRecDepth 20000 in
theorem fj_X7 : ∀ e ∈ fi_X7, x_Fl RX7 true e := List.forall_mem_cons.mpr ⟨⟨_, _, _, _, cl_X7, by decide, wd_X7_0, Or.inr ⟨by decide +kernel, Or.inr ⟨rfl, rfl, rfl⟩⟩⟩, List.forall_mem_cons.mpr ⟨⟨_, _, _, _, cl_X5, by decide, wd_X7_1, Or.inl rfl⟩, List.forall_mem_cons.mpr ⟨⟨_, _, _, _, cl_X7, by decide, wd_X7_2, Or.inr ⟨by decide +kernel, Or.inr ⟨rfl, rfl, rfl⟩⟩⟩, List.forall_mem_cons.mpr ⟨⟨_, _, _, _, cl_X5, by decide, wd_X7_3, Or.inl rfl⟩, List.forall_mem_cons.mpr ⟨⟨_, _, _, _, cl_X7, by decide, wd_X7_4, Or.inr ⟨by decide +kernel, Or.inr ⟨rfl, rfl, rfl⟩⟩⟩, List.forall_mem_cons.mpr ⟨⟨_, _, _, _, cl_X2, by decide, wd_X7_5, Or.inl rfl⟩, List.forall_mem_cons.mpr ⟨⟨_, _, _, _, cl_X7, by decide, wd_X7_6, Or.inr ⟨by decide +kernel, Or.inr ⟨rfl, rfl, rfl⟩⟩⟩, List.forall_mem_cons.mpr ⟨⟨_, _, _, _, cl_X7, by decide, wd_X7_7, Or.inr ⟨by decide +kernel, Or.inr ⟨rfl, rfl, rfl⟩⟩⟩, List.forall_mem_cons.mpr ⟨⟨_, _, _, _, cl_X7, by decide, wd_X7_8, Or.inr ⟨by decide +kernel, Or.inr ⟨rfl, rfl, rfl⟩⟩⟩, List.forall_mem_cons.mpr ⟨⟨_, _, _, _, cl_X1, by decide, wd_X7_9, Or.inr ⟨by decide +kernel, Or.inl ⟨rfl, rfl⟩⟩⟩, List.forall_mem_cons.mpr ⟨⟨_, _, _, _, cl_X1, by decide, wd_X7_10, Or.inr ⟨by decide +kernel, Or.inl ⟨rfl, rfl⟩⟩⟩, List.forall_mem_cons.mpr ⟨⟨_, _, _, _, cl_X1, by decide, wd_X7_11, Or.inr ⟨by decide +kernel, Or.inl ⟨rfl, rfl⟩⟩⟩, List.forall_mem_cons.mpr ⟨⟨_, _, _, _, cl_X1, by decide, wd_X7_12, Or.inr ⟨by decide +kernel, Or.inl ⟨rfl, rfl⟩⟩⟩, List.forall_mem_cons.mpr ⟨⟨_, _, _, _, cl_X1, by decide, wd_X7_13, Or.inr ⟨by decide +kernel, Or.inl ⟨rfl, rfl⟩⟩⟩, List.forall_mem_cons.mpr ⟨⟨_, _, _, _, cl_X1, by decide, wd_X7_14, Or.inl rfl⟩, List.forall_mem_cons.mpr ⟨⟨_, _, _, _, cl_X3, by decide, wd_X7_15, Or.inr ⟨by decide +kernel, Or.inl ⟨rfl, rfl⟩⟩⟩, List.forall_mem_cons.mpr ⟨⟨_, _, _, _, cl_X2, by decide, wd_X7_16, Or.inl rfl⟩, List.forall_mem_cons.mpr ⟨⟨_, _, _, _, cl_X2, by decide, wd_X7_17, Or.inl rfl⟩, List.forall_mem_cons.mpr ⟨⟨_, _, _, _, cl_X2, by decide, wd_X7_18, Or.inl rfl⟩, List.forall_mem_cons.mpr ⟨⟨_, _, _, _, cl_X1, by decide, wd_X7_19, Or.inl rfl⟩, List.forall_mem_nil _⟩⟩⟩⟩⟩⟩⟩⟩⟩⟩⟩⟩⟩⟩⟩⟩⟩⟩⟩⟩
set_option maxRecDepth 20000 in
theorem kk_X7 : ∀ e ∈ kl_X7, x_Kl RX7 e := List.forall_mem_nil _
set_option maxRecDepth 20000 in
theorem nk_X7 : ∀ e ∈ nl_X7, x_Nl RX7 e := List.forall_mem_cons.mpr ⟨⟨_, _, _, _, cl_X5, wd_X7_109, wd_X7_110, wd_X7_37, by decide +kernel, rfl, fun _ => rfl⟩, List.forall_mem_cons.mpr ⟨⟨_, _, _, _, cl_X3, wd_X7_111, wd_X7_112, wd_X7_66, by decide +kernel, rfl, fun _ => rfl⟩, List.forall_mem_nil _⟩⟩
set_option maxRecDepth 20000 in
theorem ok_X7 : ∀ e ∈ pl_X7, x_Sl0 RX7 e := List.forall_mem_cons.mpr ⟨wd_X7_104, List.forall_mem_cons.mpr ⟨trivial, List.forall_mem_cons.mpr ⟨trivial, List.forall_mem_nil _⟩⟩⟩
set_option maxRecDepth 20000 in
theorem vk_X7 : ∀ e ∈ vl_X7, x_Vl x_MM RX7 e := List.forall_mem_cons.mpr ⟨⟨m_X7_checkCell, _, rfl, rfl, rfl, rfl, wd_X7_20, wd_X7_21, wd_X7_22, wd_X7_23, by decide +kernel⟩, List.forall_mem_cons.mpr ⟨⟨m_X7_checkSymbol, _, rfl, rfl, rfl, rfl, wd_X7_24, wd_X7_25, wd_X7_26, wd_X7_23, by decide +kernel⟩, List.forall_mem_cons.mpr ⟨⟨m_X7_isOpenCandidate, _, rfl, rfl, rfl, rfl, wd_X7_27, wd_X7_28, wd_X7_29, wd_X7_23, by decide +kernel⟩, List.forall_mem_cons.mpr ⟨⟨m_X1_clear, _, rfl, rfl, rfl, rfl, wd_X7_30, wd_X7_31, wd_X7_32, wd_X7_33, by decide +kernel⟩, List.forall_mem_cons.mpr ⟨⟨m_X5_settle, _, rfl, rfl, rfl, rfl, wd_X7_34, wd_X7_35, wd_X7_36, wd_X7_37, by decide +kernel⟩, List.forall_mem_cons.mpr ⟨⟨m_X7_carryOut, _, rfl, rfl, rfl, rfl, wd_X7_38, wd_X7_39, wd_X7_40, wd_X7_23, by decide +kernel⟩, List.forall_mem_cons.mpr ⟨⟨m_X7_forgetSteps, _, rfl, rfl, rfl, rfl, wd_X7_41, wd_X7_42, wd_X7_43, wd_X7_23, by decide +kernel⟩, List.forall_mem_cons.mpr ⟨⟨m_X2_drop, _, rfl, rfl, rfl, rfl, wd_X7_44, wd_X7_45, wd_X7_46, wd_X7_47, by decide +kernel⟩, List.forall_mem_cons.mpr ⟨⟨m_X7_checkStep, _, rfl, rfl, rfl, rfl, wd_X7_48, wd_X7_49, wd_X7_50, wd_X7_23, by decide +kernel⟩, List.forall_mem_cons.mpr ⟨⟨m_X2_isBroken, _, rfl, rfl, rfl, rfl, wd_X7_51, wd_X7_52, wd_X7_53, wd_X7_47, by decide +kernel⟩, List.forall_mem_cons.mpr ⟨⟨m_X5_seek, _, rfl, rfl, rfl, rfl, wd_X7_54, wd_X7_55, wd_X7_56, wd_X7_37, by decide +kernel⟩, List.forall_mem_cons.mpr ⟨⟨m_X1_goer, _, rfl, rfl, rfl, rfl, wd_X7_57, wd_X7_58, wd_X7_59, wd_X7_33, by decide +kernel⟩, List.forall_mem_cons.mpr ⟨⟨m_X7_performFound, _, rfl, rfl, rfl, rfl, wd_X7_60, wd_X7_61, wd_X7_62, wd_X7_23, by decide +kernel⟩, List.forall_mem_cons.mpr ⟨⟨m_X3_mostSteps, _, rfl, rfl, rfl, rfl, wd_X7_63, wd_X7_64, wd_X7_65, wd_X7_66, by decide +kernel⟩, List.forall_mem_cons.mpr ⟨⟨m_X7_find, _, rfl, rfl, rfl, rfl, wd_X7_67, wd_X7_68, wd_X7_69, wd_X7_23, by decide +kernel⟩, List.forall_mem_cons.mpr ⟨⟨m_X3_takeBack, _, rfl, rfl, rfl, rfl, wd_X7_70, wd_X7_71, wd_X7_72, wd_X7_66, by decide +kernel⟩, List.forall_mem_cons.mpr ⟨⟨m_X2_openCells, _, rfl, rfl, rfl, rfl, wd_X7_73, wd_X7_74, wd_X7_75, wd_X7_47, by decide +kernel⟩, List.forall_mem_cons.mpr ⟨⟨m_X2_openCandidates, _, rfl, rfl, rfl, rfl, wd_X7_76, wd_X7_77, wd_X7_78, wd_X7_47, by decide +kernel⟩, List.forall_mem_cons.mpr ⟨⟨m_X7_allTimes, _, rfl, rfl, rfl, rfl, wd_X7_79, wd_X7_80, wd_X7_81, wd_X7_23, by decide +kernel⟩, List.forall_mem_cons.mpr ⟨⟨m_X2_rowOf, _, rfl, rfl, rfl, rfl, wd_X7_82, wd_X7_83, wd_X7_84, wd_X7_47, by decide +kernel⟩, List.forall_mem_cons.mpr ⟨⟨m_X2_columnOf, _, rfl, rfl, rfl, rfl, wd_X7_85, wd_X7_86, wd_X7_87, wd_X7_47, by decide +kernel⟩, List.forall_mem_cons.mpr ⟨⟨m_X3_close, _, rfl, rfl, rfl, rfl, wd_X7_88, wd_X7_89, wd_X7_90, wd_X7_66, by decide +kernel⟩, List.forall_mem_cons.mpr ⟨⟨m_X3_note, _, rfl, rfl, rfl, rfl, wd_X7_91, wd_X7_92, wd_X7_93, wd_X7_66, by decide +kernel⟩, List.forall_mem_cons.mpr ⟨⟨m_X3_clear, _, rfl, rfl, rfl, rfl, wd_X7_94, wd_X7_95, wd_X7_96, wd_X7_66, by decide +kernel⟩, List.forall_mem_cons.mpr ⟨⟨m_X2_isOpen, _, rfl, rfl, rfl, rfl, wd_X7_97, wd_X7_98, wd_X7_99, wd_X7_47, by decide +kernel⟩, List.forall_mem_nil _⟩⟩⟩⟩⟩⟩⟩⟩⟩⟩⟩⟩⟩⟩⟩⟩⟩⟩⟩⟩⟩⟩⟩⟩⟩
set_option maxRecDepth 20000 in
theorem sk_X7 {En : (Nat → Prop) → State → Heap → Prop} (hN : x_NW En) : ∀ e ∈ sl_X7, x_Sl x_MM En RX7 e := List.forall_mem_cons.mpr ⟨fun h => absurd rfl h, List.forall_mem_nil _⟩
theorem sm_X7 : ∀ e ∈ sl_X7, x_Ml RX7 e := List.forall_mem_cons.mpr ⟨fun _ => ⟨wd_X7_100, wd_X7_101, wd_X7_102, wd_X7_103⟩, List.forall_mem_nil _⟩
set_option maxRecDepth 20000 in
theorem pk_X7 : ∀ e ∈ pl_X7, x_Pl x_MM RX7 e := List.forall_mem_cons.mpr ⟨trivial, List.forall_mem_cons.mpr ⟨⟨m_X5_init, rfl, rfl, rfl, rfl, wd_X7_105, wd_X7_106, wd_X7_37, by decide +kernel⟩, List.forall_mem_cons.mpr ⟨⟨m_X3_init, rfl, rfl, rfl, rfl, wd_X7_107, wd_X7_108, wd_X7_66, by decide +kernel⟩, List.forall_mem_nil _⟩⟩⟩
theorem tb_X7_init : x_Tb m_X7_init := x_Tb_of true ci_X7_init fj_X7 (fun _ => rfl) kk_X7 nk_X7 ok_X7 sm_X7
theorem tc_X7_init {En : (Nat → Prop) → State → Heap → Prop} (hN : x_NW En) : x_Tc x_MM En m_X7_init := x_Tc_of vk_X7 (sk_X7 hN) pk_X7
theorem tb_X7_set : x_Tb m_X7_set := x_Tb_of false ci_X7_set fk_X7 (fun h => by cases h) kk_X7 nk_X7 ok_X7 sm_X7
theorem tc_X7_set {En : (Nat → Prop) → State → Heap → Prop} (hN : x_NW En) : x_Tc x_MM En m_X7_set := x_Tc_of vk_X7 (sk_X7 hN) pk_X7
theorem tb_X7_take : x_Tb m_X7_take := x_Tb_of false ci_X7_take fk_X7 (fun h => by cases h) kk_X7 nk_X7 ok_X7 sm_X7
theorem tc_X7_take {En : (Nat → Prop) → State → Heap → Prop} (hN : x_NW En) : x_Tc x_MM En m_X7_take := x_Tc_of vk_X7 (sk_X7 hN) pk_X7
theorem tb_X7_enable : x_Tb m_X7_enable := x_Tb_of false ci_X7_enable fk_X7 (fun h => by cases h) kk_X7 nk_X7 ok_X7 sm_X7
theorem tc_X7_enable {En : (Nat → Prop) → State → Heap → Prop} (hN : x_NW En) : x_Tc x_MM En m_X7_enable := x_Tc_of vk_X7 (sk_X7 hN) pk_X7
theorem tb_X7_find : x_Tb m_X7_find := x_Tb_of false ci_X7_find fk_X7 (fun h => by cases h) kk_X7 nk_X7 ok_X7 sm_X7
theorem tc_X7_find {En : (Nat → Prop) → State → Heap → Prop} (hN : x_NW En) : x_Tc x_MM En m_X7_find := x_Tc_of vk_X7 (sk_X7 hN) pk_X7
theorem tb_X7_found : x_Tb m_X7_found := x_Tb_of false ci_X7_found fk_X7 (fun h => by cases h) kk_X7 nk_X7 ok_X7 sm_X7
theorem tc_X7_found {En : (Nat → Prop) → State → Heap → Prop} (hN : x_NW En) : x_Tc x_MM En m_X7_found := x_Tc_of vk_X7 (sk_X7 hN) pk_X7
theorem tb_X7_reason : x_Tb m_X7_reason := x_Tb_of false ci_X7_reason fk_X7 (fun h => by cases h) kk_X7 nk_X7 ok_X7 sm_X7
theorem tc_X7_reason {En : (Nat → Prop) → State → Heap → Prop} (hN : x_NW En) : x_Tc x_MM En m_X7_reason := x_Tc_of vk_X7 (sk_X7 hN) pk_X7
theorem tb_X7_goes : x_Tb m_X7_goes := x_Tb_of false ci_X7_goes fk_X7 (fun h => by cases h) kk_X7 nk_X7 ok_X7 sm_X7
theorem tc_X7_goes {En : (Nat → Prop) → State → Heap → Prop} (hN : x_NW En) : x_Tc x_MM En m_X7_goes := x_Tc_of vk_X7 (sk_X7 hN) pk_X7
theorem tb_X7_apply : x_Tb m_X7_apply := x_Tb_of false ci_X7_apply fk_X7 (fun h => by cases h) kk_X7 nk_X7 ok_X7 sm_X7
theorem tc_X7_apply {En : (Nat → Prop) → State → Heap → Prop} (hN : x_NW En) : x_Tc x_MM En m_X7_apply := x_Tc_of vk_X7 (sk_X7 hN) pk_X7
theorem tb_X7_solve : x_Tb m_X7_solve := x_Tb_of false ci_X7_solve fk_X7 (fun h => by cases h) kk_X7 nk_X7 ok_X7 sm_X7
theorem tc_X7_solve {En : (Nat → Prop) → State → Heap → Prop} (hN : x_NW En) : x_Tc x_MM En m_X7_solve := x_Tc_of vk_X7 (sk_X7 hN) pk_X7
theorem tb_X7_undo : x_Tb m_X7_undo := x_Tb_of false ci_X7_undo fk_X7 (fun h => by cases h) kk_X7 nk_X7 ok_X7 sm_X7
theorem tc_X7_undo {En : (Nat → Prop) → State → Heap → Prop} (hN : x_NW En) : x_Tc x_MM En m_X7_undo := x_Tc_of vk_X7 (sk_X7 hN) pk_X7
theorem tb_X7_done : x_Tb m_X7_done := x_Tb_of false ci_X7_done fk_X7 (fun h => by cases h) kk_X7 nk_X7 ok_X7 sm_X7
theorem tc_X7_done {En : (Nat → Prop) → State → Heap → Prop} (hN : x_NW En) : x_Tc x_MM En m_X7_done := x_Tc_of vk_X7 (sk_X7 hN) pk_X7
theorem tb_X7_candidates : x_Tb m_X7_candidates := x_Tb_of false ci_X7_candidates fk_X7 (fun h => by cases h) kk_X7 nk_X7 ok_X7 sm_X7
theorem tc_X7_candidates {En : (Nat → Prop) → State → Heap → Prop} (hN : x_NW En) : x_Tc x_MM En m_X7_candidates := x_Tc_of vk_X7 (sk_X7 hN) pk_X7
theorem tb_X7_value : x_Tb m_X7_value := x_Tb_of false ci_X7_value fk_X7 (fun h => by cases h) kk_X7 nk_X7 ok_X7 sm_X7
theorem tc_X7_value {En : (Nat → Prop) → State → Heap → Prop} (hN : x_NW En) : x_Tc x_MM En m_X7_value := x_Tc_of vk_X7 (sk_X7 hN) pk_X7
theorem tb_X7_state : x_Tb m_X7_state := x_Tb_of false ci_X7_state fk_X7 (fun h => by cases h) kk_X7 nk_X7 ok_X7 sm_X7
theorem tc_X7_state {En : (Nat → Prop) → State → Heap → Prop} (hN : x_NW En) : x_Tc x_MM En m_X7_state := x_Tc_of vk_X7 (sk_X7 hN) pk_X7
theorem tb_X7_words : x_Tb m_X7_words := x_Tb_of false ci_X7_words fk_X7 (fun h => by cases h) kk_X7 nk_X7 ok_X7 sm_X7
theorem tc_X7_words {En : (Nat → Prop) → State → Heap → Prop} (hN : x_NW En) : x_Tc x_MM En m_X7_words := x_Tc_of vk_X7 (sk_X7 hN) pk_X7
theorem tb_X7_letterOfCell : x_Tb m_X7_letterOfCell := x_Tb_of false ci_X7_letterOfCell fk_X7 (fun h => by cases h) kk_X7 nk_X7 ok_X7 sm_X7
theorem tc_X7_letterOfCell {En : (Nat → Prop) → State → Heap → Prop} (hN : x_NW En) : x_Tc x_MM En m_X7_letterOfCell := x_Tc_of vk_X7 (sk_X7 hN) pk_X7
theorem tb_X7_performFound : x_Tb m_X7_performFound := x_Tb_of false ci_X7_performFound fk_X7 (fun h => by cases h) kk_X7 nk_X7 ok_X7 sm_X7
theorem tc_X7_performFound {En : (Nat → Prop) → State → Heap → Prop} (hN : x_NW En) : x_Tc x_MM En m_X7_performFound := x_Tc_of vk_X7 (sk_X7 hN) pk_X7
theorem tb_X7_carryOut : x_Tb m_X7_carryOut := x_Tb_of false ci_X7_carryOut fk_X7 (fun h => by cases h) kk_X7 nk_X7 ok_X7 sm_X7
theorem tc_X7_carryOut {En : (Nat → Prop) → State → Heap → Prop} (hN : x_NW En) : x_Tc x_MM En m_X7_carryOut := x_Tc_of vk_X7 (sk_X7 hN) pk_X7
theorem tb_X7_forgetSteps : x_Tb m_X7_forgetSteps := x_Tb_of false ci_X7_forgetSteps fk_X7 (fun h => by cases h) kk_X7 nk_X7 ok_X7 sm_X7
theorem tc_X7_forgetSteps {En : (Nat → Prop) → State → Heap → Prop} (hN : x_NW En) : x_Tc x_MM En m_X7_forgetSteps := x_Tc_of vk_X7 (sk_X7 hN) pk_X7
theorem tb_X7_isOpenCandidate : x_Tb m_X7_isOpenCandidate := x_Tb_of false ci_X7_isOpenCandidate fk_X7 (fun h => by cases h) kk_X7 nk_X7 ok_X7 sm_X7
theorem tc_X7_isOpenCandidate {En : (Nat → Prop) → State → Heap → Prop} (hN : x_NW En) : x_Tc x_MM En m_X7_isOpenCandidate := x_Tc_of vk_X7 (sk_X7 hN) pk_X7
theorem tb_X7_allTimes : x_Tb m_X7_allTimes := x_Tb_of false ci_X7_allTimes fk_X7 (fun h => by cases h) kk_X7 nk_X7 ok_X7 sm_X7
theorem tc_X7_allTimes {En : (Nat → Prop) → State → Heap → Prop} (hN : x_NW En) : x_Tc x_MM En m_X7_allTimes := x_Tc_of vk_X7 (sk_X7 hN) pk_X7
theorem tb_X7_checkCell : x_Tb m_X7_checkCell := x_Tb_of false ci_X7_checkCell fk_X7 (fun h => by cases h) kk_X7 nk_X7 ok_X7 sm_X7
theorem tc_X7_checkCell {En : (Nat → Prop) → State → Heap → Prop} (hN : x_NW En) : x_Tc x_MM En m_X7_checkCell := x_Tc_of vk_X7 (sk_X7 hN) pk_X7
theorem tb_X7_checkSymbol : x_Tb m_X7_checkSymbol := x_Tb_of false ci_X7_checkSymbol fk_X7 (fun h => by cases h) kk_X7 nk_X7 ok_X7 sm_X7
theorem tc_X7_checkSymbol {En : (Nat → Prop) → State → Heap → Prop} (hN : x_NW En) : x_Tc x_MM En m_X7_checkSymbol := x_Tc_of vk_X7 (sk_X7 hN) pk_X7
theorem tb_X7_checkStep : x_Tb m_X7_checkStep := x_Tb_of false ci_X7_checkStep fk_X7 (fun h => by cases h) kk_X7 nk_X7 ok_X7 sm_X7
theorem tc_X7_checkStep {En : (Nat → Prop) → State → Heap → Prop} (hN : x_NW En) : x_Tc x_MM En m_X7_checkStep := x_Tc_of vk_X7 (sk_X7 hN) pk_X7
theorem tb_X7_leastBit : x_Tb m_X7_leastBit := x_Tb_of false ci_X7_leastBit fk_X7 (fun h => by cases h) kk_X7 nk_X7 ok_X7 sm_X7
theorem tc_X7_leastBit {En : (Nat → Prop) → State → Heap → Prop} (hN : x_NW En) : x_Tc x_MM En m_X7_leastBit := x_Tc_of vk_X7 (sk_X7 hN) pk_X7
theorem tk_X7_init {En : (Nat → Prop) → State → Heap → Prop} (hN : x_NW En) : x_Ok1 En m_X7_init := ⟨tb_X7_init, tc_X7_init hN, by decide +kernel, rfl, wd_X7_113, ⟨by decide, by decide⟩, by decide⟩
theorem tk_X7_set {En : (Nat → Prop) → State → Heap → Prop} (hN : x_NW En) : x_Ok1 En m_X7_set := ⟨tb_X7_set, tc_X7_set hN, by decide +kernel, rfl, wd_X7_114, ⟨by decide, by decide⟩, by decide⟩
theorem tk_X7_take {En : (Nat → Prop) → State → Heap → Prop} (hN : x_NW En) : x_Ok1 En m_X7_take := ⟨tb_X7_take, tc_X7_take hN, by decide +kernel, rfl, wd_X7_115, ⟨by decide, by decide⟩, by decide⟩
theorem tk_X7_enable {En : (Nat → Prop) → State → Heap → Prop} (hN : x_NW En) : x_Ok1 En m_X7_enable := ⟨tb_X7_enable, tc_X7_enable hN, by decide +kernel, rfl, wd_X7_116, ⟨by decide, by decide⟩, by decide⟩
theorem tk_X7_find {En : (Nat → Prop) → State → Heap → Prop} (hN : x_NW En) : x_Ok1 En m_X7_find := ⟨tb_X7_find, tc_X7_find hN, by decide +kernel, rfl, wd_X7_117, ⟨by decide, by decide⟩, by decide⟩
theorem tk_X7_found {En : (Nat → Prop) → State → Heap → Prop} (hN : x_NW En) : x_Ok1 En m_X7_found := ⟨tb_X7_found, tc_X7_found hN, by decide +kernel, rfl, wd_X7_118, ⟨by decide, by decide⟩, by decide⟩
theorem tk_X7_reason {En : (Nat → Prop) → State → Heap → Prop} (hN : x_NW En) : x_Ok1 En m_X7_reason := ⟨tb_X7_reason, tc_X7_reason hN, by decide +kernel, rfl, wd_X7_119, ⟨by decide, by decide⟩, by decide⟩
theorem tk_X7_goes {En : (Nat → Prop) → State → Heap → Prop} (hN : x_NW En) : x_Ok1 En m_X7_goes := ⟨tb_X7_goes, tc_X7_goes hN, by decide +kernel, rfl, wd_X7_120, ⟨by decide, by decide⟩, by decide⟩
theorem tk_X7_apply {En : (Nat → Prop) → State → Heap → Prop} (hN : x_NW En) : x_Ok1 En m_X7_apply := ⟨tb_X7_apply, tc_X7_apply hN, by decide +kernel, rfl, wd_X7_121, ⟨by decide, by decide⟩, by decide⟩
theorem tk_X7_solve {En : (Nat → Prop) → State → Heap → Prop} (hN : x_NW En) : x_Ok1 En m_X7_solve := ⟨tb_X7_solve, tc_X7_solve hN, by decide +kernel, rfl, wd_X7_122, ⟨by decide, by decide⟩, by decide⟩
theorem tk_X7_undo {En : (Nat → Prop) → State → Heap → Prop} (hN : x_NW En) : x_Ok1 En m_X7_undo := ⟨tb_X7_undo, tc_X7_undo hN, by decide +kernel, rfl, wd_X7_123, ⟨by decide, by decide⟩, by decide⟩
theorem tk_X7_done {En : (Nat → Prop) → State → Heap → Prop} (hN : x_NW En) : x_Ok1 En m_X7_done := ⟨tb_X7_done, tc_X7_done hN, by decide +kernel, rfl, wd_X7_124, ⟨by decide, by decide⟩, by decide⟩
theorem tk_X7_candidates {En : (Nat → Prop) → State → Heap → Prop} (hN : x_NW En) : x_Ok1 En m_X7_candidates := ⟨tb_X7_candidates, tc_X7_candidates hN, by decide +kernel, rfl, wd_X7_125, ⟨by decide, by decide⟩, by decide⟩
theorem tk_X7_value {En : (Nat → Prop) → State → Heap → Prop} (hN : x_NW En) : x_Ok1 En m_X7_value := ⟨tb_X7_value, tc_X7_value hN, by decide +kernel, rfl, wd_X7_126, ⟨by decide, by decide⟩, by decide⟩
theorem tk_X7_state {En : (Nat → Prop) → State → Heap → Prop} (hN : x_NW En) : x_Ok1 En m_X7_state := ⟨tb_X7_state, tc_X7_state hN, by decide +kernel, rfl, wd_X7_127, ⟨by decide, by decide⟩, by decide⟩
theorem tk_X7_words {En : (Nat → Prop) → State → Heap → Prop} (hN : x_NW En) : x_Ok1 En m_X7_words := ⟨tb_X7_words, tc_X7_words hN, by decide +kernel, rfl, wd_X7_128, ⟨by decide, by decide⟩, by decide⟩
theorem tk_X7_letterOfCell {En : (Nat → Prop) → State → Heap → Prop} (hN : x_NW En) : x_Ok1 En m_X7_letterOfCell := ⟨tb_X7_letterOfCell, tc_X7_letterOfCell hN, by decide +kernel, rfl, wd_X7_129, ⟨by decide, by decide⟩, by decide⟩
theorem tk_X7_performFound {En : (Nat → Prop) → State → Heap → Prop} (hN : x_NW En) : x_Ok1 En m_X7_performFound := ⟨tb_X7_performFound, tc_X7_performFound hN, by decide +kernel, rfl, wd_X7_130, ⟨by decide, by decide⟩, by decide⟩
theorem tk_X7_carryOut {En : (Nat → Prop) → State → Heap → Prop} (hN : x_NW En) : x_Ok1 En m_X7_carryOut := ⟨tb_X7_carryOut, tc_X7_carryOut hN, by decide +kernel, rfl, wd_X7_131, ⟨by decide, by decide⟩, by decide⟩
theorem tk_X7_forgetSteps {En : (Nat → Prop) → State → Heap → Prop} (hN : x_NW En) : x_Ok1 En m_X7_forgetSteps := ⟨tb_X7_forgetSteps, tc_X7_forgetSteps hN, by decide +kernel, rfl, wd_X7_132, ⟨by decide, by decide⟩, by decide⟩
theorem tk_X7_isOpenCandidate {En : (Nat → Prop) → State → Heap → Prop} (hN : x_NW En) : x_Ok1 En m_X7_isOpenCandidate := ⟨tb_X7_isOpenCandidate, tc_X7_isOpenCandidate hN, by decide +kernel, rfl, wd_X7_133, ⟨by decide, by decide⟩, by decide⟩
theorem tk_X7_allTimes {En : (Nat → Prop) → State → Heap → Prop} (hN : x_NW En) : x_Ok1 En m_X7_allTimes := ⟨tb_X7_allTimes, tc_X7_allTimes hN, by decide +kernel, rfl, wd_X7_134, ⟨by decide, by decide⟩, by decide⟩
theorem tk_X7_checkCell {En : (Nat → Prop) → State → Heap → Prop} (hN : x_NW En) : x_Ok1 En m_X7_checkCell := ⟨tb_X7_checkCell, tc_X7_checkCell hN, by decide +kernel, rfl, wd_X7_135, ⟨by decide, by decide⟩, by decide⟩
theorem tk_X7_checkSymbol {En : (Nat → Prop) → State → Heap → Prop} (hN : x_NW En) : x_Ok1 En m_X7_checkSymbol := ⟨tb_X7_checkSymbol, tc_X7_checkSymbol hN, by decide +kernel, rfl, wd_X7_136, ⟨by decide, by decide⟩, by decide⟩
theorem tk_X7_checkStep {En : (Nat → Prop) → State → Heap → Prop} (hN : x_NW En) : x_Ok1 En m_X7_checkStep := ⟨tb_X7_checkStep, tc_X7_checkStep hN, by decide +kernel, rfl, wd_X7_137, ⟨by decide, by decide⟩, by decide⟩
theorem tk_X7_leastBit {En : (Nat → Prop) → State → Heap → Prop} (hN : x_NW En) : x_Ok1 En m_X7_leastBit := ⟨tb_X7_leastBit, tc_X7_leastBit hN, by decide +kernel, rfl, wd_X7_138, ⟨by decide, by decide⟩, by decide⟩
set_option maxRecDepth 20000 in
theorem fk_L : ∀ e ∈ fl_L, x_Fl RL false e := List.forall_mem_nil _
set_option maxRecDepth 20000 in
theorem kk_L : ∀ e ∈ kl_L, x_Kl RL e := List.forall_mem_nil _
set_option maxRecDepth 20000 in
theorem nk_L : ∀ e ∈ nl_L, x_Nl RL e := List.forall_mem_cons.mpr ⟨⟨_, _, _, _, cl_X7, wd_L_114, wd_L_115, wd_L_3, by decide +kernel, rfl, fun _ => rfl⟩, List.forall_mem_cons.mpr ⟨⟨_, _, _, _, cl_X8, wd_L_116, wd_L_117, wd_L_22, by decide +kernel, rfl, fun _ => rfl⟩, List.forall_mem_nil _⟩⟩
set_option maxRecDepth 20000 in
theorem ok_L : ∀ e ∈ pl_L, x_Sl0 RL e := List.forall_mem_cons.mpr ⟨trivial, List.forall_mem_cons.mpr ⟨trivial, List.forall_mem_nil _⟩⟩
set_option maxRecDepth 20000 in
theorem vk_L : ∀ e ∈ vl_L, x_Vl x_MM RL e := List.forall_mem_cons.mpr ⟨⟨m_X7_set, _, rfl, rfl, rfl, rfl, wd_L_0, wd_L_1, wd_L_2, wd_L_3, by decide +kernel⟩, List.forall_mem_cons.mpr ⟨⟨m_X7_take, _, rfl, rfl, rfl, rfl, wd_L_4, wd_L_5, wd_L_6, wd_L_3, by decide +kernel⟩, List.forall_mem_cons.mpr ⟨⟨m_X7_enable, _, rfl, rfl, rfl, rfl, wd_L_7, wd_L_8, wd_L_9, wd_L_3, by decide +kernel⟩, List.forall_mem_cons.mpr ⟨⟨m_X7_done, _, rfl, rfl, rfl, rfl, wd_L_10, wd_L_11, wd_L_12, wd_L_3, by decide +kernel⟩, List.forall_mem_cons.mpr ⟨⟨m_X7_candidates, _, rfl, rfl, rfl, rfl, wd_L_13, wd_L_14, wd_L_15, wd_L_3, by decide +kernel⟩, List.forall_mem_cons.mpr ⟨⟨m_X7_value, _, rfl, rfl, rfl, rfl, wd_L_16, wd_L_17, wd_L_18, wd_L_3, by decide +kernel⟩, List.forall_mem_cons.mpr ⟨⟨m_X8_set, _, rfl, rfl, rfl, rfl, wd_L_19, wd_L_20, wd_L_21, wd_L_22, by decide +kernel⟩, List.forall_mem_cons.mpr ⟨⟨m_X8_thrown, _, rfl, rfl, rfl, rfl, wd_L_23, wd_L_24, wd_L_25, wd_L_22, by decide +kernel⟩, List.forall_mem_cons.mpr ⟨⟨m_X8_take, _, rfl, rfl, rfl, rfl, wd_L_26, wd_L_27, wd_L_28, wd_L_22, by decide +kernel⟩, List.forall_mem_cons.mpr ⟨⟨m_X8_enable, _, rfl, rfl, rfl, rfl, wd_L_29, wd_L_30, wd_L_31, wd_L_22, by decide +kernel⟩, List.forall_mem_cons.mpr ⟨⟨m_X7_find, _, rfl, rfl, rfl, rfl, wd_L_32, wd_L_33, wd_L_34, wd_L_3, by decide +kernel⟩, List.forall_mem_cons.mpr ⟨⟨m_X8_find, _, rfl, rfl, rfl, rfl, wd_L_35, wd_L_36, wd_L_37, wd_L_22, by decide +kernel⟩, List.forall_mem_cons.mpr ⟨⟨m_X7_found, _, rfl, rfl, rfl, rfl, wd_L_38, wd_L_39, wd_L_40, wd_L_3, by decide +kernel⟩, List.forall_mem_cons.mpr ⟨⟨m_X8_found, _, rfl, rfl, rfl, rfl, wd_L_41, wd_L_42, wd_L_43, wd_L_22, by decide +kernel⟩, List.forall_mem_cons.mpr ⟨⟨m_X7_reason, _, rfl, rfl, rfl, rfl, wd_L_44, wd_L_45, wd_L_46, wd_L_3, by decide +kernel⟩, List.forall_mem_cons.mpr ⟨⟨m_X8_reason, _, rfl, rfl, rfl, rfl, wd_L_47, wd_L_48, wd_L_49, wd_L_22, by decide +kernel⟩, List.forall_mem_cons.mpr ⟨⟨m_X7_goes, _, rfl, rfl, rfl, rfl, wd_L_50, wd_L_51, wd_L_52, wd_L_3, by decide +kernel⟩, List.forall_mem_cons.mpr ⟨⟨m_X8_goes, _, rfl, rfl, rfl, rfl, wd_L_53, wd_L_54, wd_L_55, wd_L_22, by decide +kernel⟩, List.forall_mem_cons.mpr ⟨⟨m_X7_apply, _, rfl, rfl, rfl, rfl, wd_L_56, wd_L_57, wd_L_58, wd_L_3, by decide +kernel⟩, List.forall_mem_cons.mpr ⟨⟨m_X8_apply, _, rfl, rfl, rfl, rfl, wd_L_59, wd_L_60, wd_L_61, wd_L_22, by decide +kernel⟩, List.forall_mem_cons.mpr ⟨⟨m_X7_solve, _, rfl, rfl, rfl, rfl, wd_L_62, wd_L_63, wd_L_64, wd_L_3, by decide +kernel⟩, List.forall_mem_cons.mpr ⟨⟨m_X8_solve, _, rfl, rfl, rfl, rfl, wd_L_65, wd_L_66, wd_L_67, wd_L_22, by decide +kernel⟩, List.forall_mem_cons.mpr ⟨⟨m_X7_undo, _, rfl, rfl, rfl, rfl, wd_L_68, wd_L_69, wd_L_70, wd_L_3, by decide +kernel⟩, List.forall_mem_cons.mpr ⟨⟨m_X8_undo, _, rfl, rfl, rfl, rfl, wd_L_71, wd_L_72, wd_L_73, wd_L_22, by decide +kernel⟩, List.forall_mem_cons.mpr ⟨⟨m_X8_done, _, rfl, rfl, rfl, rfl, wd_L_74, wd_L_75, wd_L_76, wd_L_22, by decide +kernel⟩, List.forall_mem_cons.mpr ⟨⟨m_X8_candidates, _, rfl, rfl, rfl, rfl, wd_L_77, wd_L_78, wd_L_79, wd_L_22, by decide +kernel⟩, List.forall_mem_cons.mpr ⟨⟨m_X8_value, _, rfl, rfl, rfl, rfl, wd_L_80, wd_L_81, wd_L_82, wd_L_22, by decide +kernel⟩, List.forall_mem_cons.mpr ⟨⟨m_X7_state, _, rfl, rfl, rfl, rfl, wd_L_83, wd_L_84, wd_L_85, wd_L_3, by decide +kernel⟩, List.forall_mem_cons.mpr ⟨⟨m_X8_state, _, rfl, rfl, rfl, rfl, wd_L_86, wd_L_87, wd_L_88, wd_L_22, by decide +kernel⟩, List.forall_mem_cons.mpr ⟨⟨m_X7_words, _, rfl, rfl, rfl, rfl, wd_L_89, wd_L_90, wd_L_91, wd_L_3, by decide +kernel⟩, List.forall_mem_cons.mpr ⟨⟨m_X8_words, _, rfl, rfl, rfl, rfl, wd_L_92, wd_L_93, wd_L_94, wd_L_22, by decide +kernel⟩, List.forall_mem_nil _⟩⟩⟩⟩⟩⟩⟩⟩⟩⟩⟩⟩⟩⟩⟩⟩⟩⟩⟩⟩⟩⟩⟩⟩⟩⟩⟩⟩⟩⟩⟩
set_option maxRecDepth 20000 in
theorem sk_L {En : (Nat → Prop) → State → Heap → Prop} (hN : x_NW En) : ∀ e ∈ sl_L, x_Sl x_MM En RL e := List.forall_mem_cons.mpr ⟨fun _ => ⟨m_L_cell, rfl, Or.inl ⟨rfl, wd_L_95⟩, wd_L_96, wd_L_97, by decide +kernel⟩, List.forall_mem_cons.mpr ⟨fun _ => ⟨m_L_set, rfl, Or.inl ⟨rfl, wd_L_98⟩, wd_L_99, wd_L_97, by decide +kernel⟩, List.forall_mem_cons.mpr ⟨fun _ => ⟨m_L_take, rfl, Or.inl ⟨rfl, wd_L_100⟩, wd_L_101, wd_L_97, by decide +kernel⟩, List.forall_mem_cons.mpr ⟨fun _ => ⟨m_L_enable, rfl, Or.inl ⟨rfl, wd_L_102⟩, wd_L_103, wd_L_97, by decide +kernel⟩, List.forall_mem_cons.mpr ⟨fun _ => ⟨m_L_done, rfl, Or.inl ⟨rfl, wd_L_104⟩, wd_L_105, wd_L_97, by decide +kernel⟩, List.forall_mem_cons.mpr ⟨fun _ => ⟨m_L_candidates, rfl, Or.inl ⟨rfl, wd_L_106⟩, wd_L_107, wd_L_97, by decide +kernel⟩, List.forall_mem_cons.mpr ⟨fun _ => ⟨m_L_value, rfl, Or.inl ⟨rfl, wd_L_108⟩, wd_L_109, wd_L_97, by decide +kernel⟩, List.forall_mem_nil _⟩⟩⟩⟩⟩⟩⟩
theorem sm_L : ∀ e ∈ sl_L, x_Ml RL e := List.forall_mem_cons.mpr ⟨fun h => absurd h (by decide), List.forall_mem_cons.mpr ⟨fun h => absurd h (by decide), List.forall_mem_cons.mpr ⟨fun h => absurd h (by decide), List.forall_mem_cons.mpr ⟨fun h => absurd h (by decide), List.forall_mem_cons.mpr ⟨fun h => absurd h (by decide), List.forall_mem_cons.mpr ⟨fun h => absurd h (by decide), List.forall_mem_cons.mpr ⟨fun h => absurd h (by decide), List.forall_mem_nil _⟩⟩⟩⟩⟩⟩⟩
set_option maxRecDepth 20000 in
theorem pk_L : ∀ e ∈ pl_L, x_Pl x_MM RL e := List.forall_mem_cons.mpr ⟨⟨m_X7_init, rfl, rfl, rfl, rfl, wd_L_110, wd_L_111, wd_L_3, by decide +kernel⟩, List.forall_mem_cons.mpr ⟨⟨m_X8_init, rfl, rfl, rfl, rfl, wd_L_112, wd_L_113, wd_L_22, by decide +kernel⟩, List.forall_mem_nil _⟩⟩
theorem tb_L_cell : x_Tb m_L_cell := x_Tb_of false ci_L_cell fk_L (fun h => by cases h) kk_L nk_L ok_L sm_L
theorem tc_L_cell {En : (Nat → Prop) → State → Heap → Prop} (hN : x_NW En) : x_Tc x_MM En m_L_cell := x_Tc_of vk_L (sk_L hN) pk_L
theorem tb_L_set : x_Tb m_L_set := x_Tb_of false ci_L_set fk_L (fun h => by cases h) kk_L nk_L ok_L sm_L
theorem tc_L_set {En : (Nat → Prop) → State → Heap → Prop} (hN : x_NW En) : x_Tc x_MM En m_L_set := x_Tc_of vk_L (sk_L hN) pk_L
theorem tb_L_take : x_Tb m_L_take := x_Tb_of false ci_L_take fk_L (fun h => by cases h) kk_L nk_L ok_L sm_L
theorem tc_L_take {En : (Nat → Prop) → State → Heap → Prop} (hN : x_NW En) : x_Tc x_MM En m_L_take := x_Tc_of vk_L (sk_L hN) pk_L
theorem tb_L_enable : x_Tb m_L_enable := x_Tb_of false ci_L_enable fk_L (fun h => by cases h) kk_L nk_L ok_L sm_L
theorem tc_L_enable {En : (Nat → Prop) → State → Heap → Prop} (hN : x_NW En) : x_Tc x_MM En m_L_enable := x_Tc_of vk_L (sk_L hN) pk_L
theorem tb_L_done : x_Tb m_L_done := x_Tb_of false ci_L_done fk_L (fun h => by cases h) kk_L nk_L ok_L sm_L
theorem tc_L_done {En : (Nat → Prop) → State → Heap → Prop} (hN : x_NW En) : x_Tc x_MM En m_L_done := x_Tc_of vk_L (sk_L hN) pk_L
theorem tb_L_candidates : x_Tb m_L_candidates := x_Tb_of false ci_L_candidates fk_L (fun h => by cases h) kk_L nk_L ok_L sm_L
theorem tc_L_candidates {En : (Nat → Prop) → State → Heap → Prop} (hN : x_NW En) : x_Tc x_MM En m_L_candidates := x_Tc_of vk_L (sk_L hN) pk_L
theorem tb_L_value : x_Tb m_L_value := x_Tb_of false ci_L_value fk_L (fun h => by cases h) kk_L nk_L ok_L sm_L
theorem tc_L_value {En : (Nat → Prop) → State → Heap → Prop} (hN : x_NW En) : x_Tc x_MM En m_L_value := x_Tc_of vk_L (sk_L hN) pk_L
theorem tb_L_law : x_Tb m_L_law := x_Tb_of false ci_L_law fk_L (fun h => by cases h) kk_L nk_L ok_L sm_L
theorem tc_L_law {En : (Nat → Prop) → State → Heap → Prop} (hN : x_NW En) : x_Tc x_MM En m_L_law := x_Tc_of vk_L (sk_L hN) pk_L
theorem tk_L_cell {En : (Nat → Prop) → State → Heap → Prop} (hN : x_NW En) : x_Ok1 En m_L_cell := ⟨tb_L_cell, tc_L_cell hN, by decide +kernel, rfl, wd_L_118, ⟨by decide, by decide⟩, by decide⟩
theorem tk_L_set {En : (Nat → Prop) → State → Heap → Prop} (hN : x_NW En) : x_Ok1 En m_L_set := ⟨tb_L_set, tc_L_set hN, by decide +kernel, rfl, wd_L_119, ⟨by decide, by decide⟩, by decide⟩
theorem tk_L_take {En : (Nat → Prop) → State → Heap → Prop} (hN : x_NW En) : x_Ok1 En m_L_take := ⟨tb_L_take, tc_L_take hN, by decide +kernel, rfl, wd_L_120, ⟨by decide, by decide⟩, by decide⟩
theorem tk_L_enable {En : (Nat → Prop) → State → Heap → Prop} (hN : x_NW En) : x_Ok1 En m_L_enable := ⟨tb_L_enable, tc_L_enable hN, by decide +kernel, rfl, wd_L_121, ⟨by decide, by decide⟩, by decide⟩
theorem tk_L_done {En : (Nat → Prop) → State → Heap → Prop} (hN : x_NW En) : x_Ok1 En m_L_done := ⟨tb_L_done, tc_L_done hN, by decide +kernel, rfl, wd_L_122, ⟨by decide, by decide⟩, by decide⟩
theorem tk_L_candidates {En : (Nat → Prop) → State → Heap → Prop} (hN : x_NW En) : x_Ok1 En m_L_candidates := ⟨tb_L_candidates, tc_L_candidates hN, by decide +kernel, rfl, wd_L_123, ⟨by decide, by decide⟩, by decide⟩
theorem tk_L_value {En : (Nat → Prop) → State → Heap → Prop} (hN : x_NW En) : x_Ok1 En m_L_value := ⟨tb_L_value, tc_L_value hN, by decide +kernel, rfl, wd_L_124, ⟨by decide, by decide⟩, by decide⟩
theorem ta_0 {En : (Nat → Prop) → State → Heap → Prop} (hN : x_NW En) : ∀ M ∈ [m_J6_bitCount, m_X8_init, m_X8_thrown, m_X8_fails, m_X8_cells, m_X8_isCell, m_X8_isSymbol, m_X8_boxOf, m_X8_isIn, m_X8_at, m_X8_sees, m_X8_has, m_X8_countOf, m_X8_places, m_X8_isBroken, m_X8_put, m_X8_changed, m_X8_set, m_X8_take, m_X8_enable, m_X8_none, m_X8_leaves, m_X8_takes, m_X8_sets, m_X8_first, m_X8_next, m_X8_isPicked, m_X8_last, m_X8_lowest, m_X8_only, m_X8_common, m_X8_crosses, m_X8_pointing, m_X8_claiming, m_X8_naked, m_X8_isOpenIn, m_X8_hidden, m_X8_fish, m_X8_wing, m_X8_isWing], x_Ok1 En M := List.forall_mem_cons.mpr ⟨tk_J6_bitCount hN, List.forall_mem_cons.mpr ⟨tk_X8_init hN, List.forall_mem_cons.mpr ⟨tk_X8_thrown hN, List.forall_mem_cons.mpr ⟨tk_X8_fails hN, List.forall_mem_cons.mpr ⟨tk_X8_cells hN, List.forall_mem_cons.mpr ⟨tk_X8_isCell hN, List.forall_mem_cons.mpr ⟨tk_X8_isSymbol hN, List.forall_mem_cons.mpr ⟨tk_X8_boxOf hN, List.forall_mem_cons.mpr ⟨tk_X8_isIn hN, List.forall_mem_cons.mpr ⟨tk_X8_at hN, List.forall_mem_cons.mpr ⟨tk_X8_sees hN, List.forall_mem_cons.mpr ⟨tk_X8_has hN, List.forall_mem_cons.mpr ⟨tk_X8_countOf hN, List.forall_mem_cons.mpr ⟨tk_X8_places hN, List.forall_mem_cons.mpr ⟨tk_X8_isBroken hN, List.forall_mem_cons.mpr ⟨tk_X8_put hN, List.forall_mem_cons.mpr ⟨tk_X8_changed hN, List.forall_mem_cons.mpr ⟨tk_X8_set hN, List.forall_mem_cons.mpr ⟨tk_X8_take hN, List.forall_mem_cons.mpr ⟨tk_X8_enable hN, List.forall_mem_cons.mpr ⟨tk_X8_none hN, List.forall_mem_cons.mpr ⟨tk_X8_leaves hN, List.forall_mem_cons.mpr ⟨tk_X8_takes hN, List.forall_mem_cons.mpr ⟨tk_X8_sets hN, List.forall_mem_cons.mpr ⟨tk_X8_first hN, List.forall_mem_cons.mpr ⟨tk_X8_next hN, List.forall_mem_cons.mpr ⟨tk_X8_isPicked hN, List.forall_mem_cons.mpr ⟨tk_X8_last hN, List.forall_mem_cons.mpr ⟨tk_X8_lowest hN, List.forall_mem_cons.mpr ⟨tk_X8_only hN, List.forall_mem_cons.mpr ⟨tk_X8_common hN, List.forall_mem_cons.mpr ⟨tk_X8_crosses hN, List.forall_mem_cons.mpr ⟨tk_X8_pointing hN, List.forall_mem_cons.mpr ⟨tk_X8_claiming hN, List.forall_mem_cons.mpr ⟨tk_X8_naked hN, List.forall_mem_cons.mpr ⟨tk_X8_isOpenIn hN, List.forall_mem_cons.mpr ⟨tk_X8_hidden hN, List.forall_mem_cons.mpr ⟨tk_X8_fish hN, List.forall_mem_cons.mpr ⟨tk_X8_wing hN, List.forall_mem_cons.mpr ⟨tk_X8_isWing hN, List.forall_mem_nil _⟩⟩⟩⟩⟩⟩⟩⟩⟩⟩⟩⟩⟩⟩⟩⟩⟩⟩⟩⟩⟩⟩⟩⟩⟩⟩⟩⟩⟩⟩⟩⟩⟩⟩⟩⟩⟩⟩⟩⟩
theorem ta_1 {En : (Nat → Prop) → State → Heap → Prop} (hN : x_NW En) : ∀ M ∈ [m_X8_isLinked, m_X8_colour, m_X8_clash, m_X8_seesOne, m_X8_colours, m_X8_corners, m_X8_rectangle, m_X8_look, m_X8_search, m_X8_find, m_X8_goMany, m_X8_reasonMany, m_X8_found, m_X8_reasonAt, m_X8_reason, m_X8_goes, m_X8_act, m_X8_apply, m_X8_solve, m_X8_undo, m_X8_done, m_X8_candidates, m_X8_value, m_X8_state, m_X8_part, m_X8_nameByte, m_X8_words, m_X2_init, m_X2_layLines, m_X2_layBoxes, m_X2_lay, m_X2_fill, m_X2_cell, m_X2_house, m_X2_rowOf, m_X2_columnOf, m_X2_places, m_X2_isOpen, m_X2_isIn, m_X2_see], x_Ok1 En M := List.forall_mem_cons.mpr ⟨tk_X8_isLinked hN, List.forall_mem_cons.mpr ⟨tk_X8_colour hN, List.forall_mem_cons.mpr ⟨tk_X8_clash hN, List.forall_mem_cons.mpr ⟨tk_X8_seesOne hN, List.forall_mem_cons.mpr ⟨tk_X8_colours hN, List.forall_mem_cons.mpr ⟨tk_X8_corners hN, List.forall_mem_cons.mpr ⟨tk_X8_rectangle hN, List.forall_mem_cons.mpr ⟨tk_X8_look hN, List.forall_mem_cons.mpr ⟨tk_X8_search hN, List.forall_mem_cons.mpr ⟨tk_X8_find hN, List.forall_mem_cons.mpr ⟨tk_X8_goMany hN, List.forall_mem_cons.mpr ⟨tk_X8_reasonMany hN, List.forall_mem_cons.mpr ⟨tk_X8_found hN, List.forall_mem_cons.mpr ⟨tk_X8_reasonAt hN, List.forall_mem_cons.mpr ⟨tk_X8_reason hN, List.forall_mem_cons.mpr ⟨tk_X8_goes hN, List.forall_mem_cons.mpr ⟨tk_X8_act hN, List.forall_mem_cons.mpr ⟨tk_X8_apply hN, List.forall_mem_cons.mpr ⟨tk_X8_solve hN, List.forall_mem_cons.mpr ⟨tk_X8_undo hN, List.forall_mem_cons.mpr ⟨tk_X8_done hN, List.forall_mem_cons.mpr ⟨tk_X8_candidates hN, List.forall_mem_cons.mpr ⟨tk_X8_value hN, List.forall_mem_cons.mpr ⟨tk_X8_state hN, List.forall_mem_cons.mpr ⟨tk_X8_part hN, List.forall_mem_cons.mpr ⟨tk_X8_nameByte hN, List.forall_mem_cons.mpr ⟨tk_X8_words hN, List.forall_mem_cons.mpr ⟨tk_X2_init hN, List.forall_mem_cons.mpr ⟨tk_X2_layLines hN, List.forall_mem_cons.mpr ⟨tk_X2_layBoxes hN, List.forall_mem_cons.mpr ⟨tk_X2_lay hN, List.forall_mem_cons.mpr ⟨tk_X2_fill hN, List.forall_mem_cons.mpr ⟨tk_X2_cell hN, List.forall_mem_cons.mpr ⟨tk_X2_house hN, List.forall_mem_cons.mpr ⟨tk_X2_rowOf hN, List.forall_mem_cons.mpr ⟨tk_X2_columnOf hN, List.forall_mem_cons.mpr ⟨tk_X2_places hN, List.forall_mem_cons.mpr ⟨tk_X2_isOpen hN, List.forall_mem_cons.mpr ⟨tk_X2_isIn hN, List.forall_mem_cons.mpr ⟨tk_X2_see hN, List.forall_mem_nil _⟩⟩⟩⟩⟩⟩⟩⟩⟩⟩⟩⟩⟩⟩⟩⟩⟩⟩⟩⟩⟩⟩⟩⟩⟩⟩⟩⟩⟩⟩⟩⟩⟩⟩⟩⟩⟩⟩⟩⟩
theorem ta_2 {En : (Nat → Prop) → State → Heap → Prop} (hN : x_NW En) : ∀ M ∈ [m_X2_drop, m_X2_giveBack, m_X2_isBroken, m_X2_openCells, m_X2_openCandidates, m_X1_init, m_X1_clear, m_X1_strike, m_X1_because, m_X1_goer, m_X1_nthBit, m_X3_init, m_X3_mostSteps, m_X3_clear, m_X3_note, m_X3_close, m_X3_takeBack, m_X6_init, m_X6_gather, m_X6_start, m_X6_end, m_X6_get, m_X0_init, m_X0_look, m_X0_join, m_X0_colour, m_X0_linkedCell, m_X0_takes, m_X0_clash, m_X0_strikeColour, m_X0_strikeOthers, m_X0_leaveBehind, m_X5_init, m_X5_seek, m_X5_settle, m_X5_strikePlaces, m_X5_takesSome, m_X5_becauseOf, m_X5_last, m_X5_onlyPlace], x_Ok1 En M := List.forall_mem_cons.mpr ⟨tk_X2_drop hN, List.forall_mem_cons.mpr ⟨tk_X2_giveBack hN, List.forall_mem_cons.mpr ⟨tk_X2_isBroken hN, List.forall_mem_cons.mpr ⟨tk_X2_openCells hN, List.forall_mem_cons.mpr ⟨tk_X2_openCandidates hN, List.forall_mem_cons.mpr ⟨tk_X1_init hN, List.forall_mem_cons.mpr ⟨tk_X1_clear hN, List.forall_mem_cons.mpr ⟨tk_X1_strike hN, List.forall_mem_cons.mpr ⟨tk_X1_because hN, List.forall_mem_cons.mpr ⟨tk_X1_goer hN, List.forall_mem_cons.mpr ⟨tk_X1_nthBit hN, List.forall_mem_cons.mpr ⟨tk_X3_init hN, List.forall_mem_cons.mpr ⟨tk_X3_mostSteps hN, List.forall_mem_cons.mpr ⟨tk_X3_clear hN, List.forall_mem_cons.mpr ⟨tk_X3_note hN, List.forall_mem_cons.mpr ⟨tk_X3_close hN, List.forall_mem_cons.mpr ⟨tk_X3_takeBack hN, List.forall_mem_cons.mpr ⟨tk_X6_init hN, List.forall_mem_cons.mpr ⟨tk_X6_gather hN, List.forall_mem_cons.mpr ⟨tk_X6_start hN, List.forall_mem_cons.mpr ⟨tk_X6_end hN, List.forall_mem_cons.mpr ⟨tk_X6_get hN, List.forall_mem_cons.mpr ⟨tk_X0_init hN, List.forall_mem_cons.mpr ⟨tk_X0_look hN, List.forall_mem_cons.mpr ⟨tk_X0_join hN, List.forall_mem_cons.mpr ⟨tk_X0_colour hN, List.forall_mem_cons.mpr ⟨tk_X0_linkedCell hN, List.forall_mem_cons.mpr ⟨tk_X0_takes hN, List.forall_mem_cons.mpr ⟨tk_X0_clash hN, List.forall_mem_cons.mpr ⟨tk_X0_strikeColour hN, List.forall_mem_cons.mpr ⟨tk_X0_strikeOthers hN, List.forall_mem_cons.mpr ⟨tk_X0_leaveBehind hN, List.forall_mem_cons.mpr ⟨tk_X5_init hN, List.forall_mem_cons.mpr ⟨tk_X5_seek hN, List.forall_mem_cons.mpr ⟨tk_X5_settle hN, List.forall_mem_cons.mpr ⟨tk_X5_strikePlaces hN, List.forall_mem_cons.mpr ⟨tk_X5_takesSome hN, List.forall_mem_cons.mpr ⟨tk_X5_becauseOf hN, List.forall_mem_cons.mpr ⟨tk_X5_last hN, List.forall_mem_cons.mpr ⟨tk_X5_onlyPlace hN, List.forall_mem_nil _⟩⟩⟩⟩⟩⟩⟩⟩⟩⟩⟩⟩⟩⟩⟩⟩⟩⟩⟩⟩⟩⟩⟩⟩⟩⟩⟩⟩⟩⟩⟩⟩⟩⟩⟩⟩⟩⟩⟩⟩
theorem ta_3 {En : (Nat → Prop) → State → Heap → Prop} (hN : x_NW En) : ∀ M ∈ [m_X5_isOpenIn, m_X5_pointing, m_X5_claiming, m_X5_confined, m_X5_sharedHouse, m_X5_nakedSet, m_X5_hiddenSet, m_X5_crossing, m_X5_crossingAt, m_X5_fitItems, m_X5_isCovered, m_X5_unionOf, m_X5_wing, m_X5_isWingtip, m_X5_wingAt, m_X5_onlyOneAnswer, m_X5_rectangleAt, m_X5_isInTwoBoxes, m_X5_fourth, m_X7_init, m_X7_set, m_X7_take, m_X7_enable, m_X7_find, m_X7_found, m_X7_reason, m_X7_goes, m_X7_apply, m_X7_solve, m_X7_undo, m_X7_done, m_X7_candidates, m_X7_value, m_X7_state, m_X7_words, m_X7_letterOfCell, m_X7_performFound, m_X7_carryOut, m_X7_forgetSteps, m_X7_isOpenCandidate], x_Ok1 En M := List.forall_mem_cons.mpr ⟨tk_X5_isOpenIn hN, List.forall_mem_cons.mpr ⟨tk_X5_pointing hN, List.forall_mem_cons.mpr ⟨tk_X5_claiming hN, List.forall_mem_cons.mpr ⟨tk_X5_confined hN, List.forall_mem_cons.mpr ⟨tk_X5_sharedHouse hN, List.forall_mem_cons.mpr ⟨tk_X5_nakedSet hN, List.forall_mem_cons.mpr ⟨tk_X5_hiddenSet hN, List.forall_mem_cons.mpr ⟨tk_X5_crossing hN, List.forall_mem_cons.mpr ⟨tk_X5_crossingAt hN, List.forall_mem_cons.mpr ⟨tk_X5_fitItems hN, List.forall_mem_cons.mpr ⟨tk_X5_isCovered hN, List.forall_mem_cons.mpr ⟨tk_X5_unionOf hN, List.forall_mem_cons.mpr ⟨tk_X5_wing hN, List.forall_mem_cons.mpr ⟨tk_X5_isWingtip hN, List.forall_mem_cons.mpr ⟨tk_X5_wingAt hN, List.forall_mem_cons.mpr ⟨tk_X5_onlyOneAnswer hN, List.forall_mem_cons.mpr ⟨tk_X5_rectangleAt hN, List.forall_mem_cons.mpr ⟨tk_X5_isInTwoBoxes hN, List.forall_mem_cons.mpr ⟨tk_X5_fourth hN, List.forall_mem_cons.mpr ⟨tk_X7_init hN, List.forall_mem_cons.mpr ⟨tk_X7_set hN, List.forall_mem_cons.mpr ⟨tk_X7_take hN, List.forall_mem_cons.mpr ⟨tk_X7_enable hN, List.forall_mem_cons.mpr ⟨tk_X7_find hN, List.forall_mem_cons.mpr ⟨tk_X7_found hN, List.forall_mem_cons.mpr ⟨tk_X7_reason hN, List.forall_mem_cons.mpr ⟨tk_X7_goes hN, List.forall_mem_cons.mpr ⟨tk_X7_apply hN, List.forall_mem_cons.mpr ⟨tk_X7_solve hN, List.forall_mem_cons.mpr ⟨tk_X7_undo hN, List.forall_mem_cons.mpr ⟨tk_X7_done hN, List.forall_mem_cons.mpr ⟨tk_X7_candidates hN, List.forall_mem_cons.mpr ⟨tk_X7_value hN, List.forall_mem_cons.mpr ⟨tk_X7_state hN, List.forall_mem_cons.mpr ⟨tk_X7_words hN, List.forall_mem_cons.mpr ⟨tk_X7_letterOfCell hN, List.forall_mem_cons.mpr ⟨tk_X7_performFound hN, List.forall_mem_cons.mpr ⟨tk_X7_carryOut hN, List.forall_mem_cons.mpr ⟨tk_X7_forgetSteps hN, List.forall_mem_cons.mpr ⟨tk_X7_isOpenCandidate hN, List.forall_mem_nil _⟩⟩⟩⟩⟩⟩⟩⟩⟩⟩⟩⟩⟩⟩⟩⟩⟩⟩⟩⟩⟩⟩⟩⟩⟩⟩⟩⟩⟩⟩⟩⟩⟩⟩⟩⟩⟩⟩⟩⟩
theorem ta_4 {En : (Nat → Prop) → State → Heap → Prop} (hN : x_NW En) : ∀ M ∈ [m_X7_allTimes, m_X7_checkCell, m_X7_checkSymbol, m_X7_checkStep, m_X7_leastBit, m_L_cell, m_L_set, m_L_take, m_L_enable, m_L_done, m_L_candidates, m_L_value], x_Ok1 En M := List.forall_mem_cons.mpr ⟨tk_X7_allTimes hN, List.forall_mem_cons.mpr ⟨tk_X7_checkCell hN, List.forall_mem_cons.mpr ⟨tk_X7_checkSymbol hN, List.forall_mem_cons.mpr ⟨tk_X7_checkStep hN, List.forall_mem_cons.mpr ⟨tk_X7_leastBit hN, List.forall_mem_cons.mpr ⟨tk_L_cell hN, List.forall_mem_cons.mpr ⟨tk_L_set hN, List.forall_mem_cons.mpr ⟨tk_L_take hN, List.forall_mem_cons.mpr ⟨tk_L_enable hN, List.forall_mem_cons.mpr ⟨tk_L_done hN, List.forall_mem_cons.mpr ⟨tk_L_candidates hN, List.forall_mem_cons.mpr ⟨tk_L_value hN, List.forall_mem_nil _⟩⟩⟩⟩⟩⟩⟩⟩⟩⟩⟩⟩
theorem x_All_ok {En : (Nat → Prop) → State → Heap → Prop} (hN : x_NW En) : x_All x_MM En := by
  intro mj M hM
  have h1 : M ∈ x_ML := List.mem_of_getElem? hM
  have h2 : x_ML = [m_J6_bitCount, m_X8_init, m_X8_thrown, m_X8_fails, m_X8_cells, m_X8_isCell, m_X8_isSymbol, m_X8_boxOf, m_X8_isIn, m_X8_at, m_X8_sees, m_X8_has, m_X8_countOf, m_X8_places, m_X8_isBroken, m_X8_put, m_X8_changed, m_X8_set, m_X8_take, m_X8_enable, m_X8_none, m_X8_leaves, m_X8_takes, m_X8_sets, m_X8_first, m_X8_next, m_X8_isPicked, m_X8_last, m_X8_lowest, m_X8_only, m_X8_common, m_X8_crosses, m_X8_pointing, m_X8_claiming, m_X8_naked, m_X8_isOpenIn, m_X8_hidden, m_X8_fish, m_X8_wing, m_X8_isWing] ++ [m_X8_isLinked, m_X8_colour, m_X8_clash, m_X8_seesOne, m_X8_colours, m_X8_corners, m_X8_rectangle, m_X8_look, m_X8_search, m_X8_find, m_X8_goMany, m_X8_reasonMany, m_X8_found, m_X8_reasonAt, m_X8_reason, m_X8_goes, m_X8_act, m_X8_apply, m_X8_solve, m_X8_undo, m_X8_done, m_X8_candidates, m_X8_value, m_X8_state, m_X8_part, m_X8_nameByte, m_X8_words, m_X2_init, m_X2_layLines, m_X2_layBoxes, m_X2_lay, m_X2_fill, m_X2_cell, m_X2_house, m_X2_rowOf, m_X2_columnOf, m_X2_places, m_X2_isOpen, m_X2_isIn, m_X2_see] ++ [m_X2_drop, m_X2_giveBack, m_X2_isBroken, m_X2_openCells, m_X2_openCandidates, m_X1_init, m_X1_clear, m_X1_strike, m_X1_because, m_X1_goer, m_X1_nthBit, m_X3_init, m_X3_mostSteps, m_X3_clear, m_X3_note, m_X3_close, m_X3_takeBack, m_X6_init, m_X6_gather, m_X6_start, m_X6_end, m_X6_get, m_X0_init, m_X0_look, m_X0_join, m_X0_colour, m_X0_linkedCell, m_X0_takes, m_X0_clash, m_X0_strikeColour, m_X0_strikeOthers, m_X0_leaveBehind, m_X5_init, m_X5_seek, m_X5_settle, m_X5_strikePlaces, m_X5_takesSome, m_X5_becauseOf, m_X5_last, m_X5_onlyPlace] ++ [m_X5_isOpenIn, m_X5_pointing, m_X5_claiming, m_X5_confined, m_X5_sharedHouse, m_X5_nakedSet, m_X5_hiddenSet, m_X5_crossing, m_X5_crossingAt, m_X5_fitItems, m_X5_isCovered, m_X5_unionOf, m_X5_wing, m_X5_isWingtip, m_X5_wingAt, m_X5_onlyOneAnswer, m_X5_rectangleAt, m_X5_isInTwoBoxes, m_X5_fourth, m_X7_init, m_X7_set, m_X7_take, m_X7_enable, m_X7_find, m_X7_found, m_X7_reason, m_X7_goes, m_X7_apply, m_X7_solve, m_X7_undo, m_X7_done, m_X7_candidates, m_X7_value, m_X7_state, m_X7_words, m_X7_letterOfCell, m_X7_performFound, m_X7_carryOut, m_X7_forgetSteps, m_X7_isOpenCandidate] ++ [m_X7_allTimes, m_X7_checkCell, m_X7_checkSymbol, m_X7_checkStep, m_X7_leastBit, m_L_cell, m_L_set, m_L_take, m_L_enable, m_L_done, m_L_candidates, m_L_value] := rfl
  rw [h2] at h1
  simp only [List.mem_append] at h1
  rcases h1 with (((h1 | h1) | h1) | h1) | h1
  · exact ta_0 hN M h1
  · exact ta_1 hN M h1
  · exact ta_2 hN M h1
  · exact ta_3 hN M h1
  · exact ta_4 hN M h1
end
section
/-! ===== what words() answers: told from outside (strings), over letterOfCell ===== -/
def x_str (s : String) : List Nat := s.toList.map fun c => c.toNat
/-- the steps' names, by language and number -/
def x_nm (g : Nat) : List (List Nat) := if g = 0 then ["last", "in box", "in row", "in column", "pointing", "claiming", "pair", "triple", "quad", "hidden pair", "hidden triple", "two rows", "two columns", "three rows", "three columns", "wing", "great wing", "colours", "only one answer"].map x_str
  else ["letzte", "im Block", "in der Zeile", "in der Spalte", "zeigend", "fordernd", "Paar", "Tripel", "Quartett", "verstecktes Paar", "verstecktes Tripel", "zwei Zeilen", "zwei Spalten", "drei Zeilen", "drei Spalten", "Schwinge", "grosse Schwinge", "Farben", "nur eine Antwort"].map x_str
/-- words(g, i) over the finding at place 9 and its reason at place 11 -/
def x_words (C : x_TC) (lg i : Int32) (X : x_H) (Q : x_O → x_H → Prop) : Prop := ∃ (a1 a2 a4 a5 a6 : Value) (step b4 b5 b6 reasons : Int32) (rn : Nat) (rf : Nat → Int32), X.1[0]? = some (.inr (7, [a1, a2, .ref 9, a4, a5, a6])) ∧ X.1[9]? = some (.inr (2, [.ref 10, .ref 11, .int step, .int b4, .int b5, .int b6, .int reasons])) ∧ X.1[11]? = some (.inl (.int, rn, .inl rf)) ∧
  ((step = -1 ∨ lg < 0 ∨ 1 < lg ∨ i < 0) → Q (.inl (some (.int (-1)))) X) ∧
  (¬ (step = -1 ∨ lg < 0 ∨ 1 < lg ∨ i < 0) → vp_in step 19 ∧ ∀ t : List Nat, (x_nm lg.toNatClampNeg)[step.toNatClampNeg]? = some t →
    (i < nI t.length → ∀ ch : Nat, t[i.toNatClampNeg]? = some ch → Q (.inl (some (.int (nI ch)))) X) ∧
    (¬ i < nI t.length → (reasons ≤ (i - nI t.length) / 5 → Q (.inl (some (.int (-1)))) X) ∧
      (¬ reasons ≤ (i - nI t.length) / 5 → vp_in ((i - nI t.length) / 5) rn ∧ C k_X7_letterOfCell [.ref 0, .int (rf ((i - nI t.length) / 5).toNatClampNeg), .int (i - nI t.length - (i - nI t.length) / 5 * 5)] X fun o Y => match o with
        | .inl (some (.int x)) => Q (.inl (some (.int x))) (Y.1, X.2)
        | _ => False)))
def x_EX (C : x_TC) : x_TC := fun mj av X Q => mj = k_X7_words ∧ ∃ lg i : Int32, av = [.ref 0, .int lg, .int i] ∧ x_words C lg i X Q
theorem x_EX_mono (C : x_TC) (hC : x_Cm C) : x_Cm (x_EX C) := by
  intro mj av X Q Q' hQ h
  obtain ⟨h0, lg, i, h1, a1, a2, a4, a5, a6, step, b4, b5, b6, reasons, rn, rf, g1, g2, g3, g4, g5⟩ := h
  refine ⟨h0, lg, i, h1, a1, a2, a4, a5, a6, step, b4, b5, b6, reasons, rn, rf, g1, g2, g3, fun c => hQ _ _ (g4 c), fun c => ?_⟩
  obtain ⟨k1, k2⟩ := g5 c
  refine ⟨k1, fun t ht => ⟨fun c2 ch hc => hQ _ _ ((k2 t ht).1 c2 ch hc), fun c2 => ?_⟩⟩
  obtain ⟨k3, k4⟩ := (k2 t ht).2 c2
  refine ⟨fun c3 => hQ _ _ (k3 c3), fun c3 => ⟨(k4 c3).1, hC _ _ _ _ _ (fun o Y h => ?_) (k4 c3).2⟩⟩
  split at h
  · exact hQ _ _ h
  · exact h.elim
theorem x_hC (sc : Nat × (Nat → Int32)) (d : Nat) : x_Cm (x_run sc x_MM x_EX d) := x_run_mono sc x_MM x_EX_mono d
/-- a method's walk begins -/
theorem x_in {sc : Nat × (Nat → Int32)} {d mj : Nat} {M : x_M} {i0 : x_I} {av : List Value} {X : x_H} {Q : x_O → x_H → Prop} (hM : x_MM mj = some M) (ht : M.tab 0 = some i0) (h1 : av.length ≤ M.maxl) (h2 : x_c1 av) (h : x_W sc M (x_run sc x_MM x_EX d) Q 0 (x_ent M av) [] X) : x_run sc x_MM x_EX (d + 1) mj av X Q := by
  unfold x_run; rw [hM]; dsimp only; rw [ht]; exact ⟨h1, h2, h⟩
theorem x_p4 {P : Nat → x_L → List Value → x_H → Prop} {pc : Nat} {L L' : x_L} {st st' : List Value} {X X' : x_H} (h : P pc L st X) (hL : L = L') (hs : st = st') (hX : X = X') : P pc L' st' X' := by subst hL; subst hs; subst hX; exact h
theorem x_q1 {Q : x_O → x_H → Prop} {X : x_H} {x y : Int32} (h : Q (.inl (some (.int x))) X) (e : x = y) : Q (.inl (some (.int y))) X := by subst e; exact h
end
section
/-! ===== numbers: constants as the machine pushes them, bits of small numbers ===== -/
theorem oi0 : Int32.ofInt 0 = nI 0 := by decide
theorem oi1 : Int32.ofInt 1 = nI 1 := by decide
theorem oi2 : Int32.ofInt 2 = nI 2 := by decide
theorem oi3 : Int32.ofInt 3 = nI 3 := by decide
theorem oi4 : Int32.ofInt 4 = nI 4 := by decide
theorem oi5 : Int32.ofInt 5 = nI 5 := by decide
theorem oim : Int32.ofInt (-1) = -1 := by decide
theorem z0 : (0 : Int32) = nI 0 := by decide
theorem z1 : (1 : Int32) = nI 1 := by decide
theorem s_l : ∀ n, n < 32 → ((nI n &&& 31).toBitVec.smod 32).toNat = n := by decide +kernel
theorem nx_and (a b : Nat) : nI a &&& nI b = nI (a &&& b) := by
  apply Int32.toBitVec_inj.1
  show BitVec.ofNat 32 a &&& BitVec.ofNat 32 b = BitVec.ofNat 32 (a &&& b)
  apply BitVec.eq_of_getLsbD_eq
  intro i hi
  simp [hi]
theorem nx_or (a b : Nat) : nI a ||| nI b = nI (a ||| b) := by
  apply Int32.toBitVec_inj.1
  show BitVec.ofNat 32 a ||| BitVec.ofNat 32 b = BitVec.ofNat 32 (a ||| b)
  apply BitVec.eq_of_getLsbD_eq
  intro i hi
  simp [hi]
theorem nx_xor (a b : Nat) : nI a ^^^ nI b = nI (a ^^^ b) := by
  apply Int32.toBitVec_inj.1
  show BitVec.ofNat 32 a ^^^ BitVec.ofNat 32 b = BitVec.ofNat 32 (a ^^^ b)
  apply BitVec.eq_of_getLsbD_eq
  intro i hi
  simp [hi]
/-- the bits of m are cleared in a -/
def clr (a m : Nat) : Nat := a ^^^ (a &&& m)
theorem clr_bit (a m i : Nat) : (clr a m).testBit i = (a.testBit i && !m.testBit i) := by
  unfold clr
  rw [Nat.testBit_xor, Nat.testBit_and]
  cases a.testBit i <;> cases m.testBit i <;> rfl
theorem nx_not (a m : Nat) : nI a &&& (nI m ^^^ (-1)) = nI (clr a m) := by
  apply Int32.toBitVec_inj.1
  have e : (-1 : Int32).toBitVec = BitVec.allOnes 32 := by decide
  rw [Int32.toBitVec_and, Int32.toBitVec_xor, e]
  show BitVec.ofNat 32 a &&& (BitVec.ofNat 32 m ^^^ BitVec.allOnes 32) = BitVec.ofNat 32 (clr a m)
  apply BitVec.eq_of_getLsbD_eq
  intro i hi
  rw [BitVec.getLsbD_and, BitVec.getLsbD_xor, BitVec.getLsbD_allOnes, BitVec.getLsbD_ofNat, BitVec.getLsbD_ofNat, BitVec.getLsbD_ofNat, clr_bit]
  simp [hi]
theorem nI_shr {b s : Nat} (hb : b < 2 ^ 31) (hs : s < 32) : nI b >>> (nI s &&& 31) = nI (b / 2 ^ s) := pk_shrN hb _ s (s_l s hs)
theorem nI_shl {a s : Nat} (hs : s < 32) (h : a * 2 ^ s < 2 ^ 32) : nI a <<< (nI s &&& 31) = nI (a * 2 ^ s) := pk_shlN _ s (s_l s hs) h
/-- bit s of b, as a number -/
def tbN (b s : Nat) : Nat := if b.testBit s then 1 else 0
theorem nI_bit {b s : Nat} (hb : b < 2 ^ 31) (hs : s < 32) : (nI b >>> (nI s &&& 31)) &&& nI 1 = nI (tbN b s) := by
  rw [nI_shr hb hs, nx_and, Nat.and_one_is_mod]
  unfold tbN
  rw [Nat.testBit_eq_decide_div_mod_eq]
  have h := Nat.mod_two_eq_zero_or_one (b / 2 ^ s)
  rcases h with h | h <;> simp [h]
theorem tbN_1 {b s : Nat} : nI (tbN b s) = nI 1 ↔ b.testBit s = true := by
  unfold tbN
  cases h : b.testBit s
  · simp; decide
  · simp
theorem tbN_0 {b s : Nat} : nI (tbN b s) = nI 0 ↔ b.testBit s = false := by
  unfold tbN
  cases h : b.testBit s
  · simp
  · simp; decide
/-- true and false as the machine has them -/
def bI (b : Bool) : Int32 := if b then 1 else 0
theorem bI_nar (b : Bool) : narrow .boolean (.int (bI b)) = .int (bI b) := by cases b <;> rfl
theorem bI_t {b : Bool} : bI b = 0 ↔ b = false := by cases b <;> decide
theorem bI_nb (b : Bool) : vp_nar .boolean (bI b) = bI b := by cases b <;> decide
end
section
/-! ===== the model: its world, geometry ===== -/
abbrev x_S : Type := (Nat → Int32) × (Nat → Nat → Int32)
/-- the world with the model's object at 26 and its arrays behind it; ms.1: its fields by their numbers, ms.2: its arrays by their places -/
def w_M (f : Nat → x_C) (ms : x_S) (tl : List x_C) (bb : Nat × Nat) : x_H :=
  (f 0 :: f 1 :: f 2 :: f 3 :: f 4 :: f 5 :: f 6 :: f 7 :: f 8 :: f 9 :: f 10 :: f 11 :: f 12 :: f 13 :: f 14 :: f 15 :: f 16 :: f 17 :: f 18 :: f 19 :: f 20 :: f 21 :: f 22 :: f 23 :: f 24 :: f 25 ::
   .inr (8, [.int (ms.1 0), .int (ms.1 1), .int (ms.1 2), .int (ms.1 3), .ref 27, .ref 28, .ref 29, .ref 30, .int (ms.1 8), .ref 31, .ref 32, .int (ms.1 11), .int (ms.1 12), .int (ms.1 13), .ref 33, .ref 34, .int (ms.1 16), .ref 35, .ref 36, .ref 37, .ref 38, .ref 39, .ref 40]) ::
   .inl (.int, 81, .inl (ms.2 27)) :: .inl (.int, 81, .inl (ms.2 28)) :: .inl (.boolean, 19, .inl (ms.2 29)) :: .inl (.int, 19, .inl (ms.2 30)) :: .inl (.boolean, 81, .inl (ms.2 31)) :: .inl (.int, 81, .inl (ms.2 32)) :: .inl (.int, 81, .inl (ms.2 33)) :: .inl (.int, 5, .inl (ms.2 34)) :: .inl (.int, 66420, .inl (ms.2 35)) :: .inl (.int, 66420, .inl (ms.2 36)) :: .inl (.int, 820, .inl (ms.2 37)) :: .inl (.boolean, 81, .inl (ms.2 38)) :: .inl (.boolean, 81, .inl (ms.2 39)) :: .inl (.boolean, 81, .inl (ms.2 40)) :: tl, bb)
/-- the three kinds of grids -/
def KD (n w h : Nat) : Prop := (n = 4 ∧ w = 2 ∧ h = 2) ∨ (n = 6 ∧ w = 3 ∧ h = 2) ∨ (n = 9 ∧ w = 3 ∧ h = 3)
def gM (ms : x_S) (n w h : Nat) : Prop := ms.1 1 = nI n ∧ ms.1 2 = nI w ∧ ms.1 3 = nI h ∧ KD n w h
theorem KD.le {n w h : Nat} (k : KD n w h) : 4 ≤ n ∧ n ≤ 9 ∧ 2 ≤ w ∧ w ≤ 3 ∧ 2 ≤ h ∧ h ≤ 3 ∧ n * n ≤ 81 ∧ w * h = n := by
  rcases k with ⟨rfl, rfl, rfl⟩ | ⟨rfl, rfl, rfl⟩ | ⟨rfl, rfl, rfl⟩ <;> decide
def boxN (n w h c : Nat) : Nat := c / n / h * (n / w) + c % n / w
def inN (n w h g c : Nat) : Bool := if g < n then c / n == g else if g < 2 * n then c % n == g - n else boxN n w h c == g - 2 * n
def atN (n w h g i : Nat) : Nat := if g < n then n * g + i else if g < 2 * n then n * i + g - n else n * ((g - 2 * n) / (n / w) * h + i / w) + ((g - 2 * n) % (n / w) * w + i % w)
def seeN (n w h a b : Nat) : Bool := a != b && (a / n == b / n || a % n == b % n || boxN n w h a == boxN n w h b)
section M1
variable {sc : Nat × (Nat → Int32)} {f : Nat → x_C} {ms : x_S} {tl : List x_C} {bb : Nat × Nat} {n w h d : Nat} {Q : x_O → x_H → Prop}
theorem r_cells (hG : gM ms n w h) (hQ : Q (.inl (some (.int (nI (n * n))))) (w_M f ms tl bb)) : x_run sc x_MM x_EX (d + 1) k_X8_cells [.ref 26] (w_M f ms tl bb) Q := by
  obtain ⟨h1, h2, h3, hk⟩ := hG
  refine x_in (M := m_X8_cells) rfl rfl (Nat.le_of_ble_eq_true rfl) ⟨rfl, trivial⟩ ?_
  intro P hP
  iterate 5 refine hP _ _ _ _ ?_
  exact hP _ _ _ _ (x_q1 hQ (by rw [h1, pk_mul]))
theorem r_isCell (hG : gM ms n w h) {c : Int32} (hQ : Q (.inl (some (.int (bI (decide (0 ≤ c.toInt ∧ c.toInt < n * n)))))) (w_M f ms tl bb)) : x_run sc x_MM x_EX (d + 2) k_X8_isCell [.ref 26, .int c] (w_M f ms tl bb) Q := by
  obtain ⟨g1, g2, g3, g4, g5, g6, g7, g8⟩ := hG.2.2.2.le
  refine x_in (M := m_X8_isCell) rfl rfl (Nat.le_of_ble_eq_true rfl) ⟨rfl, rfl, trivial⟩ ?_
  intro P hP
  refine hP _ _ _ _ ?_
  refine hP _ _ _ _ (And.intro (fun hc => ?_) (fun hc => ?_))
  · refine hP _ _ _ _ ?_
    refine hP _ _ _ _ (And.intro rfl (x_q1 hQ ?_))
    rw [decide_eq_false]
    · rfl
    · have hc : c < 0 := hc
      rw [Int32.lt_iff_toInt_lt] at hc
      have : (0 : Int32).toInt = 0 := by decide
      omega
  · iterate 2 refine hP _ _ _ _ ?_
    refine hP _ _ _ _ (r_cells hG ?_)
    refine hP _ _ _ _ (And.intro (fun hb => ?_) (fun hb => ?_))
    · refine hP _ _ _ _ ?_
      refine hP _ _ _ _ (And.intro rfl (x_q1 hQ ?_))
      rw [decide_eq_false]
      · rfl
      · have hb : nI (n * n) ≤ c := hb
        rw [Int32.le_iff_toInt_le, nI_toInt (by omega)] at hb
        omega
    · iterate 2 refine hP _ _ _ _ ?_
      refine hP _ _ _ _ (And.intro rfl (x_q1 hQ ?_))
      rw [decide_eq_true]
      · rfl
      · have hb : ¬ nI (n * n) ≤ c := hb
        have hc : ¬ c < 0 := hc
        rw [Int32.le_iff_toInt_le, nI_toInt (by omega)] at hb
        rw [Int32.lt_iff_toInt_lt] at hc
        have : (0 : Int32).toInt = 0 := by decide
        omega
theorem r_isSymbol (hG : gM ms n w h) {c : Int32} (hQ : Q (.inl (some (.int (bI (decide (0 ≤ c.toInt ∧ c.toInt < n)))))) (w_M f ms tl bb)) : x_run sc x_MM x_EX (d + 1) k_X8_isSymbol [.ref 26, .int c] (w_M f ms tl bb) Q := by
  obtain ⟨g1, g2, g3, g4, g5, g6, g7, g8⟩ := hG.2.2.2.le
  refine x_in (M := m_X8_isSymbol) rfl rfl (Nat.le_of_ble_eq_true rfl) ⟨rfl, rfl, trivial⟩ ?_
  intro P hP
  refine hP _ _ _ _ ?_
  refine hP _ _ _ _ (And.intro (fun hc => ?_) (fun hc => ?_))
  · refine hP _ _ _ _ ?_
    refine hP _ _ _ _ (And.intro rfl (x_q1 hQ ?_))
    rw [decide_eq_false]
    · rfl
    · have hc : c < 0 := hc
      rw [Int32.lt_iff_toInt_lt] at hc
      have : (0 : Int32).toInt = 0 := by decide
      omega
  · iterate 3 refine hP _ _ _ _ ?_
    refine hP _ _ _ _ (And.intro (fun hb => ?_) (fun hb => ?_))
    · refine hP _ _ _ _ ?_
      refine hP _ _ _ _ (And.intro rfl (x_q1 hQ ?_))
      rw [decide_eq_false]
      · rfl
      · have hb : ms.1 1 ≤ c := hb
        rw [hG.1, Int32.le_iff_toInt_le, nI_toInt (by omega)] at hb
        omega
    · iterate 2 refine hP _ _ _ _ ?_
      refine hP _ _ _ _ (And.intro rfl (x_q1 hQ ?_))
      rw [decide_eq_true]
      · rfl
      · have hb : ¬ ms.1 1 ≤ c := hb
        have hc : ¬ c < 0 := hc
        rw [hG.1, Int32.le_iff_toInt_le, nI_toInt (by omega)] at hb
        rw [Int32.lt_iff_toInt_lt] at hc
        have : (0 : Int32).toInt = 0 := by decide
        omega
theorem r_boxOf (hG : gM ms n w h) {c : Nat} (hc : c < 81) (hQ : Q (.inl (some (.int (nI (boxN n w h c))))) (w_M f ms tl bb)) : x_run sc x_MM x_EX (d + 1) k_X8_boxOf [.ref 26, .int (nI c)] (w_M f ms tl bb) Q := by
  obtain ⟨h1, h2, h3, hk⟩ := hG
  obtain ⟨g1, g2, g3, g4, g5, g6, g7, g8⟩ := hk.le
  have e1 : ¬ ms.1 1 = 0 := by rw [h1]; exact nI_ne0 (by omega) (by omega)
  have e2 : ¬ ms.1 2 = 0 := by rw [h2]; exact nI_ne0 (by omega) (by omega)
  have e3 : ¬ ms.1 3 = 0 := by rw [h3]; exact nI_ne0 (by omega) (by omega)
  refine x_in (M := m_X8_boxOf) rfl rfl (Nat.le_of_ble_eq_true rfl) ⟨rfl, rfl, trivial⟩ ?_
  intro P hP
  iterate 3 refine hP _ _ _ _ ?_
  refine hP _ _ _ _ (And.intro e1 ?_)
  iterate 2 refine hP _ _ _ _ ?_
  refine hP _ _ _ _ (And.intro e3 ?_)
  iterate 4 refine hP _ _ _ _ ?_
  refine hP _ _ _ _ (And.intro e2 ?_)
  iterate 4 refine hP _ _ _ _ ?_
  refine hP _ _ _ _ (And.intro e1 ?_)
  iterate 2 refine hP _ _ _ _ ?_
  refine hP _ _ _ _ (And.intro e2 ?_)
  refine hP _ _ _ _ ?_
  refine hP _ _ _ _ (x_q1 hQ ?_)
  have hd1 : c / n < 2 ^ 31 := by have := Nat.div_le_self c n; omega
  have hd2 : c % n < 2 ^ 31 := by have := Nat.mod_le c n; omega
  rw [h1, h2, h3, pk_div (by omega) (by omega) (by omega), pk_div hd1 (by omega) (by omega), pk_div (by omega) (by omega) (by omega), pk_mul, pk_mul, show nI (c / n * n) = nI (c / n) * nI n from (pk_mul _ _).symm, ← pk_div (a := c) (d := n) (by omega) (by omega) (by omega), pk_rem (by omega) (by omega) (by omega), pk_div hd2 (by omega) (by omega), nI_add]
  rfl
end M1
end
section
/-! ===== the model: houses, candidates, places ===== -/
def atI (n w h g i : Int32) : Int32 := n * ((g - nI 2 * n) / (n / w) * h + i / w) + ((g - nI 2 * n - (g - nI 2 * n) / (n / w) * (n / w)) * w + (i - i / w * w))
theorem atI_4 : ∀ g, g < 12 → 8 ≤ g → ∀ i, i < 4 → atI (nI 4) (nI 2) (nI 2) (nI g) (nI i) = nI (atN 4 2 2 g i) := by decide +kernel
theorem atI_6 : ∀ g, g < 18 → 12 ≤ g → ∀ i, i < 6 → atI (nI 6) (nI 3) (nI 2) (nI g) (nI i) = nI (atN 6 3 2 g i) := by decide +kernel
theorem atI_9 : ∀ g, g < 27 → 18 ≤ g → ∀ i, i < 9 → atI (nI 9) (nI 3) (nI 3) (nI g) (nI i) = nI (atN 9 3 3 g i) := by decide +kernel
theorem atI_ok {n w h g i : Nat} (k : KD n w h) (hg : g < 3 * n) (hg2 : 2 * n ≤ g) (hi : i < n) : atI (nI n) (nI w) (nI h) (nI g) (nI i) = nI (atN n w h g i) := by
  rcases k with ⟨rfl, rfl, rfl⟩ | ⟨rfl, rfl, rfl⟩ | ⟨rfl, rfl, rfl⟩
  · exact atI_4 g hg hg2 i hi
  · exact atI_6 g hg hg2 i hi
  · exact atI_9 g hg hg2 i hi
theorem atN_lt {n w h g i : Nat} (k : KD n w h) (hg : g < 3 * n) (hi : i < n) : atN n w h g i < n * n := by
  rcases k with ⟨rfl, rfl, rfl⟩ | ⟨rfl, rfl, rfl⟩ | ⟨rfl, rfl, rfl⟩
  · exact (by decide +kernel : ∀ g, g < 12 → ∀ i, i < 4 → atN 4 2 2 g i < 4 * 4) g hg i hi
  · exact (by decide +kernel : ∀ g, g < 18 → ∀ i, i < 6 → atN 6 3 2 g i < 6 * 6) g hg i hi
  · exact (by decide +kernel : ∀ g, g < 27 → ∀ i, i < 9 → atN 9 3 3 g i < 9 * 9) g hg i hi
/-- the candidates, as numbers of n bits -/
def cM (ms : x_S) (n : Nat) (cb : Nat → Nat) : Prop := ∀ c, c < n * n → ms.2 27 c = nI (cb c) ∧ cb c < 2 ^ n
section M2
variable {sc : Nat × (Nat → Int32)} {f : Nat → x_C} {ms : x_S} {tl : List x_C} {bb : Nat × Nat} {n w h d : Nat} {Q : x_O → x_H → Prop} {cb : Nat → Nat}
theorem r_at (hG : gM ms n w h) {g i : Nat} (hg : g < 3 * n) (hi : i < n) (hQ : Q (.inl (some (.int (nI (atN n w h g i))))) (w_M f ms tl bb)) : x_run sc x_MM x_EX (d + 1) k_X8_at [.ref 26, .int (nI g), .int (nI i)] (w_M f ms tl bb) Q := by
  obtain ⟨h1, h2, h3, hk⟩ := hG
  obtain ⟨g1, g2, g3, g4, g5, g6, g7, g8⟩ := hk.le
  have e2 : ¬ ms.1 2 = 0 := by rw [h2]; exact nI_ne0 (by omega) (by omega)
  have e4 : ¬ ms.1 1 / ms.1 2 = 0 := by
    rw [h1, h2]
    rcases hk with ⟨rfl, rfl, rfl⟩ | ⟨rfl, rfl, rfl⟩ | ⟨rfl, rfl, rfl⟩ <;> decide
  have hmul : nI 2 * nI n = nI (2 * n) := pk_mul 2 n
  refine x_in (M := m_X8_at) rfl rfl (Nat.le_of_ble_eq_true rfl) ⟨rfl, rfl, rfl, trivial⟩ ?_
  intro P hP
  iterate 3 refine hP _ _ _ _ ?_
  refine hP _ _ _ _ (And.intro (fun hb => ?_) (fun hb => ?_))
  · have hb : ms.1 1 ≤ nI g := hb
    rw [h1, nI_leI (by omega) (by omega)] at hb
    iterate 5 refine hP _ _ _ _ ?_
    refine hP _ _ _ _ (And.intro (fun hb2 => ?_) (fun hb2 => ?_))
    · have hb2 : nI 2 * ms.1 1 ≤ nI g := hb2
      rw [h1, hmul, nI_leI (by omega) (by omega)] at hb2
      iterate 12 refine hP _ _ _ _ ?_
      refine hP _ _ _ _ (And.intro e2 ?_)
      refine hP _ _ _ _ (And.intro e4 ?_)
      iterate 6 refine hP _ _ _ _ ?_
      refine hP _ _ _ _ (And.intro e2 ?_)
      iterate 7 refine hP _ _ _ _ ?_
      refine hP _ _ _ _ (And.intro e2 ?_)
      refine hP _ _ _ _ (And.intro e4 ?_)
      iterate 6 refine hP _ _ _ _ ?_
      refine hP _ _ _ _ (And.intro e2 ?_)
      iterate 8 refine hP _ _ _ _ ?_
      refine hP _ _ _ _ (x_q1 hQ ?_)
      rw [← atI_ok hk hg hb2 hi, ← h1, ← h2, ← h3]
      rfl
    · have hb2 : ¬ nI 2 * ms.1 1 ≤ nI g := hb2
      rw [h1, hmul, nI_leI (by omega) (by omega)] at hb2
      iterate 9 refine hP _ _ _ _ ?_
      refine hP _ _ _ _ (x_q1 hQ ?_)
      rw [h1, pk_mul, nI_add, pk_sub (by omega)]
      unfold atN
      rw [if_neg (by omega), if_pos (by omega)]
  · have hb : ¬ ms.1 1 ≤ nI g := hb
    rw [h1, nI_leI (by omega) (by omega)] at hb
    iterate 6 refine hP _ _ _ _ ?_
    refine hP _ _ _ _ (x_q1 hQ ?_)
    rw [h1, pk_mul, nI_add]
    unfold atN
    rw [if_pos (by omega)]
theorem r_has {c s b : Nat} (hc : c < 81) (hs : s < 32) (hb : ms.2 27 c = nI b) (hb9 : b < 512) (hQ : Q (.inl (some (.int (bI (b.testBit s))))) (w_M f ms tl bb)) : x_run sc x_MM x_EX (d + 1) k_X8_has [.ref 26, .int (nI c), .int (nI s)] (w_M f ms tl bb) Q := by
  have hcl : (nI c).toNatClampNeg = c := nI_clamp (by omega)
  have key : ∀ x : Int32, x = nI 1 → ((ms.2 27 (nI c).toNatClampNeg >>> (nI s &&& 31)) &&& x = nI 1 ↔ b.testBit s = true) := by
    intro x hx
    rw [hx, hcl, hb, nI_bit (by omega) hs]
    exact tbN_1
  refine x_in (M := m_X8_has) rfl rfl (Nat.le_of_ble_eq_true rfl) ⟨rfl, rfl, rfl, trivial⟩ ?_
  intro P hP
  iterate 3 refine hP _ _ _ _ ?_
  refine hP _ _ _ _ (And.intro (vp_in_nI hc (by omega)) ?_)
  iterate 5 refine hP _ _ _ _ ?_
  refine hP _ _ _ _ (And.intro (fun h => ?_) (fun h => ?_))
  · have h : ¬ ((ms.2 27 (nI c).toNatClampNeg >>> (nI s &&& 31)) &&& Int32.ofInt 1 = nI 1) := h
    rw [key _ oi1] at h
    refine hP _ _ _ _ ?_
    refine hP _ _ _ _ (And.intro rfl (x_q1 hQ ?_))
    cases hbit : b.testBit s
    · rfl
    · exact absurd hbit h
  · have h : (ms.2 27 (nI c).toNatClampNeg >>> (nI s &&& 31)) &&& Int32.ofInt 1 = nI 1 := Decidable.of_not_not h
    rw [key _ oi1] at h
    iterate 2 refine hP _ _ _ _ ?_
    refine hP _ _ _ _ (And.intro rfl (x_q1 hQ ?_))
    rw [h]
    rfl
/-- the places of s in house g among its first k cells, as bits -/
def plB (cb : Nat → Nat) (n w h g s : Nat) : Nat → Nat
  | 0 => 0
  | k + 1 => plB cb n w h g s k ||| (if (cb (atN n w h g k)).testBit s then 2 ^ k else 0)
theorem r_places (hG : gM ms n w h) (hC : cM ms n cb) {g s : Nat} (hg : g < 3 * n) (hs : s < n) (hQ : Q (.inl (some (.int (nI (plB cb n w h g s n))))) (w_M f ms tl bb)) : x_run sc x_MM x_EX (d + 2) k_X8_places [.ref 26, .int (nI g), .int (nI s)] (w_M f ms tl bb) Q := by
  obtain ⟨g1, g2, g3, g4, g5, g6, g7, g8⟩ := hG.2.2.2.le
  refine x_in (M := m_X8_places) rfl rfl (Nat.le_of_ble_eq_true rfl) ⟨rfl, rfl, rfl, trivial⟩ ?_
  intro P hP
  have loop : ∀ j k, k + j = n → P 5 [some (.ref 26), some (.int (nI g)), some (.int (nI s)), some (.int (nI (plB cb n w h g s k))), some (.int (nI k))] [] (w_M f ms tl bb) := by
    intro j
    induction j with
    | zero =>
      intro k hk
      have hk : k = n := hk
      subst hk
      iterate 3 refine hP _ _ _ _ ?_
      refine hP _ _ _ _ (And.intro (fun _ => ?_) (fun h => absurd (show ms.1 1 ≤ nI k by rw [hG.1]; exact nI_le (Nat.le_refl _) (by omega)) h))
      refine hP _ _ _ _ ?_
      exact hP _ _ _ _ (hQ)
    | succ j ih =>
      intro k hk
      iterate 3 refine hP _ _ _ _ ?_
      refine hP _ _ _ _ (And.intro (fun h => absurd (show ms.1 1 ≤ nI k from h) (by rw [hG.1]; exact nI_ge (by omega) (by omega))) (fun _ => ?_))
      iterate 5 refine hP _ _ _ _ ?_
      refine hP _ _ _ _ (r_at hG hg (by omega) ?_)
      refine hP _ _ _ _ ?_
      have hat := atN_lt (w := w) (h := h) hG.2.2.2 hg (show k < n by omega)
      have h29 : cb (atN n w h g k) < 512 := Nat.lt_of_lt_of_le (hC _ hat).2 (Nat.pow_le_pow_right (by omega) g2)
      refine hP _ _ _ _ (r_has (by omega) (by omega) (hC _ hat).1 h29 ?_)
      have hstep : ∀ x : Int32, x = nI (if (cb (atN n w h g k)).testBit s then 2 ^ k else 0) → nI (plB cb n w h g s k) ||| x = nI (plB cb n w h g s (k + 1)) := by
        intro x hx
        rw [hx, nx_or]
        rfl
      refine hP _ _ _ _ (And.intro (fun hz => ?_) (fun hz => ?_))
      · have hz : bI ((cb (atN n w h g k)).testBit s) = 0 := hz
        rw [bI_t] at hz
        iterate 4 refine hP _ _ _ _ ?_
        refine hP _ _ _ _ (x_p4 (P := P) (ih (k + 1) (by omega)) ?_ rfl rfl)
        rw [← hstep (Int32.ofInt 0) (by rw [hz]; exact oi0), nI_succ]
        rfl
      · have hz : ¬ bI ((cb (atN n w h g k)).testBit s) = 0 := hz
        rw [bI_t] at hz
        have hz : (cb (atN n w h g k)).testBit s = true := by cases hh : (cb (atN n w h g k)).testBit s with | true => rfl | false => exact absurd hh hz
        iterate 7 refine hP _ _ _ _ ?_
        refine hP _ _ _ _ (x_p4 (P := P) (ih (k + 1) (by omega)) ?_ rfl rfl)
        rw [← hstep (Int32.ofInt 1 <<< (nI k &&& 31)) (by
          rw [hz, oi1, nI_shl (by omega) ?_, Nat.one_mul]
          · rfl
          · have : 2 ^ k ≤ 2 ^ 9 := Nat.pow_le_pow_right (by omega) (by omega)
            omega), nI_succ]
        rfl
  iterate 4 refine hP _ _ _ _ ?_
  exact loop n 0 (by omega)
end M2
end
section
/-! ===== the model: counting, seeing, the lowest bit ===== -/
/-- how many of the first k bits are set -/
def pcA (b : Nat) : Nat → Nat
  | 0 => 0
  | k + 1 => pcA b k + tbN b k
def pcN (b : Nat) : Nat := pcA b 9
section M3
variable {sc : Nat × (Nat → Int32)} {f : Nat → x_C} {ms : x_S} {tl : List x_C} {bb : Nat × Nat} {n w h d : Nat} {Q : x_O → x_H → Prop} {cb : Nat → Nat}
theorem r_countOf {b : Nat} {X : x_H} (hb : b < 512) (hQ : Q (.inl (some (.int (nI (pcN b))))) X) : x_run sc x_MM x_EX (d + 1) k_X8_countOf [.int (nI b)] X Q := by
  refine x_in (M := m_X8_countOf) rfl rfl (Nat.le_of_ble_eq_true rfl) ⟨rfl, trivial⟩ ?_
  intro P hP
  have loop : ∀ j k, k + j = 9 → P 4 [some (.int (nI b)), some (.int (nI (pcA b k))), some (.int (nI k))] [] X := by
    intro j
    induction j with
    | zero =>
      intro k hk
      have hk : k = 9 := hk
      subst hk
      iterate 2 refine hP _ _ _ _ ?_
      refine hP _ _ _ _ (And.intro (fun _ => ?_) (fun h => absurd (show (nI 9) ≤ nI 9 by decide) h))
      refine hP _ _ _ _ ?_
      exact hP _ _ _ _ (hQ)
    | succ j ih =>
      intro k hk
      iterate 2 refine hP _ _ _ _ ?_
      refine hP _ _ _ _ (And.intro (fun h => absurd h (show ¬ nI 9 ≤ nI k from nI_ge (by omega) (by decide))) (fun _ => ?_))
      iterate 9 refine hP _ _ _ _ ?_
      refine hP _ _ _ _ (x_p4 (P := P) (ih (k + 1) (by omega)) ?_ rfl rfl)
      have e : nI (pcA b (k + 1)) = nI (pcA b k) + ((nI b >>> (nI k &&& 31)) &&& Int32.ofInt 1) := by
        rw [oi1, nI_bit (by omega) (by omega), nI_add]; rfl
      rw [e, nI_succ]
      rfl
  iterate 4 refine hP _ _ _ _ ?_
  exact loop 9 0 rfl
theorem r_lowest {b s : Nat} {X : x_H} (hb : b < 512) (hs : s < 9) (h1 : b.testBit s = true) (h2 : ∀ t, t < s → b.testBit t = false) (hQ : Q (.inl (some (.int (nI s)))) X) : x_run sc x_MM x_EX (d + 1) k_X8_lowest [.int (nI b)] X Q := by
  refine x_in (M := m_X8_lowest) rfl rfl (Nat.le_of_ble_eq_true rfl) ⟨rfl, trivial⟩ ?_
  intro P hP
  have key : ∀ k, k < 9 → (nI b >>> (nI k &&& 31)) &&& Int32.ofInt 1 = nI (tbN b k) := fun k hk => by rw [oi1, nI_bit (by omega) (by omega)]
  have loop : ∀ j k, k + j = s → P 2 [some (.int (nI b)), some (.int (nI k))] [] X := by
    intro j
    induction j with
    | zero =>
      intro k hk
      have hk : k = s := hk
      subst hk
      iterate 5 refine hP _ _ _ _ ?_
      refine hP _ _ _ _ (And.intro (fun _ => ?_) (fun h => ?_))
      · refine hP _ _ _ _ ?_
        exact hP _ _ _ _ (hQ)
      · exfalso
        have h : ¬ ((nI b >>> (nI k &&& 31)) &&& Int32.ofInt 1 ≠ 0) := h
        rw [key k hs, z0, ne_eq, tbN_0] at h
        rw [h1] at h
        exact h (by decide)
    | succ j ih =>
      intro k hk
      iterate 5 refine hP _ _ _ _ ?_
      refine hP _ _ _ _ (And.intro (fun h => ?_) (fun _ => ?_))
      · exfalso
        have h : (nI b >>> (nI k &&& 31)) &&& Int32.ofInt 1 ≠ 0 := h
        rw [key k (by omega), z0, ne_eq, tbN_0] at h
        exact h (h2 k (by omega))
      · refine hP _ _ _ _ ?_
        refine hP _ _ _ _ (x_p4 (P := P) (ih (k + 1) (by omega)) ?_ rfl rfl)
        rw [nI_succ]
        rfl
  iterate 2 refine hP _ _ _ _ ?_
  exact loop s 0 (by omega)
theorem boxN_lt {n w h c : Nat} (k : KD n w h) (hc : c < n * n) : boxN n w h c < n := by
  rcases k with ⟨rfl, rfl, rfl⟩ | ⟨rfl, rfl, rfl⟩ | ⟨rfl, rfl, rfl⟩
  · exact (by decide +kernel : ∀ c, c < 16 → boxN 4 2 2 c < 4) c hc
  · exact (by decide +kernel : ∀ c, c < 36 → boxN 6 3 2 c < 6) c hc
  · exact (by decide +kernel : ∀ c, c < 81 → boxN 9 3 3 c < 9) c hc
theorem r_sees (hG : gM ms n w h) {a b : Nat} (ha : a < n * n) (hb : b < n * n) (hQ : Q (.inl (some (.int (bI (seeN n w h a b))))) (w_M f ms tl bb)) : x_run sc x_MM x_EX (d + 2) k_X8_sees [.ref 26, .int (nI a), .int (nI b)] (w_M f ms tl bb) Q := by
  have hG0 := hG
  obtain ⟨h1, h2, h3, hk⟩ := hG
  obtain ⟨g1, g2, g3, g4, g5, g6, g7, g8⟩ := hk.le
  have e1 : ¬ ms.1 1 = 0 := by rw [h1]; exact nI_ne0 (by omega) (by omega)
  have hbx := boxN_lt hk ha
  have hby := boxN_lt hk hb
  have da := Nat.div_le_self a n
  have db := Nat.div_le_self b n
  have ma := Nat.mod_le a n
  have mb := Nat.mod_le b n
  have ed : ∀ c, c < 81 → nI c / ms.1 1 = nI (c / n) := fun c hc => by rw [h1, pk_div (by omega) (by omega) (by omega)]
  have er : ∀ c, c < 81 → nI c - nI c / ms.1 1 * ms.1 1 = nI (c % n) := fun c hc => by rw [h1, pk_rem (by omega) (by omega) (by omega)]
  refine x_in (M := m_X8_sees) rfl rfl (Nat.le_of_ble_eq_true rfl) ⟨rfl, rfl, rfl, trivial⟩ ?_
  intro P hP
  have yes : seeN n w h a b = true → P 48 [some (.ref 26), some (.int (nI a)), some (.int (nI b))] [] (w_M f ms tl bb) := by
    intro hy
    iterate 2 refine hP _ _ _ _ ?_
    refine hP _ _ _ _ (And.intro rfl (x_q1 hQ ?_))
    rw [hy]; rfl
  have no : seeN n w h a b = false → P 52 [some (.ref 26), some (.int (nI a)), some (.int (nI b))] [] (w_M f ms tl bb) := by
    intro hy
    refine hP _ _ _ _ ?_
    refine hP _ _ _ _ (And.intro rfl (x_q1 hQ ?_))
    rw [hy]; rfl
  iterate 2 refine hP _ _ _ _ ?_
  refine hP _ _ _ _ (And.intro (fun hq => ?_) (fun hq => ?_))
  · have hq : nI a = nI b := hq
    rw [nI_eq (by omega) (by omega)] at hq
    exact no (by unfold seeN; simp [hq])
  · have hq : ¬ nI a = nI b := hq
    rw [nI_eq (by omega) (by omega)] at hq
    iterate 3 refine hP _ _ _ _ ?_
    refine hP _ _ _ _ (And.intro e1 ?_)
    iterate 3 refine hP _ _ _ _ ?_
    refine hP _ _ _ _ (And.intro e1 ?_)
    refine hP _ _ _ _ (And.intro (fun hr => ?_) (fun hr => ?_))
    · have hr : nI a / ms.1 1 = nI b / ms.1 1 := hr
      rw [ed a (by omega), ed b (by omega), nI_eq (by omega) (by omega)] at hr
      exact yes (by unfold seeN; simp [hq, hr])
    · have hr : ¬ nI a / ms.1 1 = nI b / ms.1 1 := hr
      rw [ed a (by omega), ed b (by omega), nI_eq (by omega) (by omega)] at hr
      iterate 3 refine hP _ _ _ _ ?_
      refine hP _ _ _ _ (And.intro e1 ?_)
      iterate 3 refine hP _ _ _ _ ?_
      refine hP _ _ _ _ (And.intro e1 ?_)
      refine hP _ _ _ _ (And.intro (fun hc => ?_) (fun hc => ?_))
      · have hc : nI a - nI a / ms.1 1 * ms.1 1 = nI b - nI b / ms.1 1 * ms.1 1 := hc
        rw [er a (by omega), er b (by omega), nI_eq (by omega) (by omega)] at hc
        exact yes (by unfold seeN; simp [hq, hc])
      · have hc : ¬ nI a - nI a / ms.1 1 * ms.1 1 = nI b - nI b / ms.1 1 * ms.1 1 := hc
        rw [er a (by omega), er b (by omega), nI_eq (by omega) (by omega)] at hc
        iterate 2 refine hP _ _ _ _ ?_
        refine hP _ _ _ _ (r_boxOf hG0 (by omega) ?_)
        iterate 2 refine hP _ _ _ _ ?_
        refine hP _ _ _ _ (r_boxOf hG0 (by omega) ?_)
        refine hP _ _ _ _ (And.intro (fun hx => ?_) (fun hx => ?_))
        · have hx : ¬ nI (boxN n w h a) = nI (boxN n w h b) := hx
          rw [nI_eq (by omega) (by omega)] at hx
          exact no (by unfold seeN; simp [hr, hc, hx])
        · have hx : nI (boxN n w h a) = nI (boxN n w h b) := Decidable.of_not_not hx
          rw [nI_eq (by omega) (by omega)] at hx
          exact yes (by unfold seeN; simp [hq, hx])
end M3
end
section
/-! ===== the model: small writes, taking, broken grids ===== -/
def sF (ms : x_S) (k : Nat) (v : Int32) : x_S := (upd ms.1 k v, ms.2)
def sA (ms : x_S) (p : Nat) (g : Nat → Int32) : x_S := (ms.1, fun q => if q = p then g else ms.2 q)
theorem x_q2 {Q : x_O → x_H → Prop} {o : x_O} {X X' : x_H} (h : Q o X) (e : X = X') : Q o X' := by subst e; exact h
/-- the first k places are 0 -/
def zr (o : Nat → Int32) (k : Nat) : Nat → Int32 := fun c => if c < k then 0 else o c
theorem zr_0 (o : Nat → Int32) : zr o 0 = o := by funext c; simp [zr]
theorem zr_st {o : Nat → Int32} {k : Nat} {v : Int32} (hk : k < 2 ^ 31) (hv : v = 0) : zr o (k + 1) = upd (zr o k) (nI k).toNatClampNeg v := by
  rw [nI_clamp hk, hv]
  funext c
  by_cases hc : c = k
  · subst hc
    rw [pk_us]
    simp [zr]
  · rw [pk_un hc]
    by_cases h2 : c < k
    · simp [zr, h2, Nat.lt_succ_of_lt h2]
    · have h3 : ¬ c < k + 1 := by omega
      simp [zr, h2, h3]
theorem ob81 : (Int8.ofInt 81).toInt32 = nI 81 := by decide
theorem ob19 : (Int8.ofInt 19).toInt32 = nI 19 := by decide
section M4
variable {sc : Nat × (Nat → Int32)} {f : Nat → x_C} {ms : x_S} {tl : List x_C} {bb : Nat × Nat} {n w h d : Nat} {Q : x_O → x_H → Prop} {cb : Nat → Nat}
theorem r_thrown (hQ : Q (.inl (some (.int (ms.1 0)))) (w_M f ms tl bb)) : x_run sc x_MM x_EX (d + 1) k_X8_thrown [.ref 26] (w_M f ms tl bb) Q := by
  refine x_in (M := m_X8_thrown) rfl rfl (Nat.le_of_ble_eq_true rfl) ⟨rfl, trivial⟩ ?_
  intro P hP
  iterate 2 refine hP _ _ _ _ ?_
  exact hP _ _ _ _ (hQ)
theorem r_fails {code : Int32} {b : Bool} (hQ : Q (.inl (some (.int (bI b)))) (w_M f (sF ms 0 (if b then code else 0)) tl bb)) : x_run sc x_MM x_EX (d + 1) k_X8_fails [.ref 26, .int code, .int (bI b)] (w_M f ms tl bb) Q := by
  refine x_in (M := m_X8_fails) rfl rfl (Nat.le_of_ble_eq_true rfl) ⟨rfl, rfl, rfl, trivial⟩ ?_
  intro P hP
  iterate 2 refine hP _ _ _ _ ?_
  refine hP _ _ _ _ (And.intro (fun h => ?_) (fun h => ?_))
  · have h : bI b = 0 := h
    rw [bI_t] at h
    subst h
    iterate 3 refine hP _ _ _ _ ?_
    exact hP _ _ _ _ (And.intro rfl hQ)
  · cases b
    · exact absurd (show bI false = 0 from rfl) h
    · iterate 4 refine hP _ _ _ _ ?_
      exact hP _ _ _ _ (And.intro rfl hQ)
theorem r_changed (hQ : Q (.inl none) (w_M f (sF (sF ms 8 (-1)) 16 0) tl bb)) : x_run sc x_MM x_EX (d + 1) k_X8_changed [.ref 26] (w_M f ms tl bb) Q := by
  refine x_in (M := m_X8_changed) rfl rfl (Nat.le_of_ble_eq_true rfl) ⟨rfl, trivial⟩ ?_
  intro P hP
  iterate 6 refine hP _ _ _ _ ?_
  exact hP _ _ _ _ (hQ)
/-- what none() leaves -/
def noneM (ms : x_S) : x_S := sA (sA (sF (sF ms 11 (-1)) 12 (-1)) 31 (zr (ms.2 31) 81)) 32 (zr (ms.2 32) 81)
theorem r_none (hQ : Q (.inl none) (w_M f (noneM ms) tl bb)) : x_run sc x_MM x_EX (d + 1) k_X8_none [.ref 26] (w_M f ms tl bb) Q := by
  refine x_in (M := m_X8_none) rfl rfl (Nat.le_of_ble_eq_true rfl) ⟨rfl, trivial⟩ ?_
  intro P hP
  have loop : ∀ j k, k + j = 81 → P 12 [some (.ref 26), some (.int (nI k))] [] (w_M f (sA (sA (sF (sF ms 11 (-1)) 12 (-1)) 31 (zr (ms.2 31) k)) 32 (zr (ms.2 32) k)) tl bb) := by
    intro j
    induction j with
    | zero =>
      intro k hk
      have hk : k = 81 := hk
      subst hk
      iterate 2 refine hP _ _ _ _ ?_
      refine hP _ _ _ _ (And.intro (fun _ => ?_) (fun h => absurd (show (Int8.ofInt 81).toInt32 ≤ nI 81 by decide) h))
      exact hP _ _ _ _ (hQ)
    | succ j ih =>
      intro k hk
      have hin : vp_in (nI k) 81 := vp_in_nI (by omega) (by omega)
      iterate 2 refine hP _ _ _ _ ?_
      refine hP _ _ _ _ (And.intro (fun h => absurd (show (Int8.ofInt 81).toInt32 ≤ nI k from h) (by rw [ob81]; exact nI_ge (by omega) (by omega))) (fun _ => ?_))
      iterate 4 refine hP _ _ _ _ ?_
      refine hP _ _ _ _ (And.intro hin ?_)
      iterate 4 refine hP _ _ _ _ ?_
      refine hP _ _ _ _ (And.intro hin ?_)
      refine hP _ _ _ _ ?_
      refine hP _ _ _ _ (x_p4 (P := P) (ih (k + 1) (by omega)) ?_ rfl ?_)
      · rw [nI_succ]; rfl
      · rw [zr_st (o := ms.2 31) (v := vp_nar .boolean (Int32.ofInt 0)) (by omega) (by decide), zr_st (o := ms.2 32) (v := Int32.ofInt 0) (by omega) (by decide)]
        rfl
  iterate 7 refine hP _ _ _ _ ?_
  refine hP _ _ _ _ (x_p4 (P := P) (loop 81 0 rfl) rfl rfl ?_)
  rw [zr_0, zr_0]
  rfl
theorem r_leaves {c : Nat} {bits : Int32} (hc : c < 81) (hQ : Q (.inl none) (w_M f (sA ms 32 (upd (ms.2 32) c (ms.2 32 c ||| (ms.2 27 c &&& bits)))) tl bb)) : x_run sc x_MM x_EX (d + 1) k_X8_leaves [.ref 26, .int (nI c), .int bits] (w_M f ms tl bb) Q := by
  have hcl : (nI c).toNatClampNeg = c := nI_clamp (by omega)
  have hin : vp_in (nI c) 81 := vp_in_nI (by omega) (by omega)
  refine x_in (M := m_X8_leaves) rfl rfl (Nat.le_of_ble_eq_true rfl) ⟨rfl, rfl, rfl, trivial⟩ ?_
  intro P hP
  iterate 6 refine hP _ _ _ _ ?_
  refine hP _ _ _ _ (And.intro hin ?_)
  iterate 3 refine hP _ _ _ _ ?_
  refine hP _ _ _ _ (And.intro hin ?_)
  iterate 3 refine hP _ _ _ _ ?_
  refine hP _ _ _ _ (And.intro hin ?_)
  refine hP _ _ _ _ (x_q2 hQ ?_)
  rw [hcl]
  rfl
theorem r_takes (hT : (∃ c, c < 81 ∧ ms.2 32 c ≠ 0) → Q (.inl (some (.int (bI true)))) (w_M f ms tl bb)) (hF : (∀ c, c < 81 → ms.2 32 c = 0) → Q (.inl (some (.int (bI false)))) (w_M f ms tl bb)) : x_run sc x_MM x_EX (d + 1) k_X8_takes [.ref 26] (w_M f ms tl bb) Q := by
  refine x_in (M := m_X8_takes) rfl rfl (Nat.le_of_ble_eq_true rfl) ⟨rfl, trivial⟩ ?_
  intro P hP
  have loop : ∀ j k, k + j = 81 → (∀ c, c < k → ms.2 32 c = 0) → P 2 [some (.ref 26), some (.int (nI k))] [] (w_M f ms tl bb) := by
    intro j
    induction j with
    | zero =>
      intro k hk hz
      have hk : k = 81 := hk
      subst hk
      iterate 2 refine hP _ _ _ _ ?_
      refine hP _ _ _ _ (And.intro (fun _ => ?_) (fun h => absurd (show (Int8.ofInt 81).toInt32 ≤ nI 81 by decide) h))
      refine hP _ _ _ _ ?_
      exact hP _ _ _ _ (And.intro rfl (hF hz))
    | succ j ih =>
      intro k hk hz
      have hcl : (nI k).toNatClampNeg = k := nI_clamp (by omega)
      have hin : vp_in (nI k) 81 := vp_in_nI (by omega) (by omega)
      iterate 2 refine hP _ _ _ _ ?_
      refine hP _ _ _ _ (And.intro (fun h => absurd (show (Int8.ofInt 81).toInt32 ≤ nI k from h) (by rw [ob81]; exact nI_ge (by omega) (by omega))) (fun _ => ?_))
      iterate 3 refine hP _ _ _ _ ?_
      refine hP _ _ _ _ (And.intro hin ?_)
      refine hP _ _ _ _ (And.intro (fun h => ?_) (fun h => ?_))
      · have h : ms.2 32 (nI k).toNatClampNeg = 0 := h
        rw [hcl] at h
        refine hP _ _ _ _ ?_
        refine hP _ _ _ _ (x_p4 (P := P) (ih (k + 1) (by omega) ?_) ?_ rfl rfl)
        · intro c hc
          by_cases hck : c = k
          · rw [hck]; exact h
          · exact hz c (by omega)
        · rw [nI_succ]; rfl
      · have h : ¬ ms.2 32 (nI k).toNatClampNeg = 0 := h
        rw [hcl] at h
        refine hP _ _ _ _ ?_
        exact hP _ _ _ _ (And.intro rfl (hT ⟨k, by omega, h⟩))
  iterate 2 refine hP _ _ _ _ ?_
  exact loop 81 0 rfl (fun c hc => absurd hc (Nat.not_lt_zero c))
/-- some cell has no candidate, or some symbol no place in some house -/
def brk (cb : Nat → Nat) (n w h : Nat) : Prop := (∃ c, c < n * n ∧ cb c = 0) ∨ ∃ g s, g < 3 * n ∧ s < n ∧ plB cb n w h g s n = 0
theorem plB_lt (cb : Nat → Nat) (n w h g s : Nat) : ∀ k, plB cb n w h g s k < 2 ^ k
  | 0 => by simp [plB]
  | k + 1 => by
    have h1 := plB_lt cb n w h g s k
    have h2 : plB cb n w h g s k < 2 ^ (k + 1) := by rw [Nat.pow_succ]; omega
    refine Nat.or_lt_two_pow h2 ?_
    split
    · rw [Nat.pow_succ]; have := Nat.two_pow_pos k; omega
    · exact Nat.two_pow_pos _
theorem r_isBroken (hG : gM ms n w h) (hC : cM ms n cb) (hT : brk cb n w h → Q (.inl (some (.int (bI true)))) (w_M f ms tl bb)) (hF : ¬ brk cb n w h → Q (.inl (some (.int (bI false)))) (w_M f ms tl bb)) : x_run sc x_MM x_EX (d + 3) k_X8_isBroken [.ref 26] (w_M f ms tl bb) Q := by
  obtain ⟨g1, g2, g3, g4, g5, g6, g7, g8⟩ := hG.2.2.2.le
  have hcb : ∀ c, c < n * n → cb c < 512 := fun c hc => Nat.lt_of_lt_of_le (hC c hc).2 (Nat.pow_le_pow_right (by omega) g2)
  refine x_in (M := m_X8_isBroken) rfl rfl (Nat.le_of_ble_eq_true rfl) ⟨rfl, trivial⟩ ?_
  intro P hP
  have loop3 : ∀ j g, g + j = 3 * n → (∀ c, c < n * n → cb c ≠ 0) → (∀ a s, a < g → s < n → plB cb n w h a s n ≠ 0) → ∀ x : Option Value, P 29 [some (.ref 26), some (.int (nI g)), x] [] (w_M f ms tl bb) := by
    intro j
    induction j with
    | zero =>
      intro g hg hc hz x
      have hg : g = 3 * n := hg
      iterate 4 refine hP _ _ _ _ ?_
      refine hP _ _ _ _ ?_
      refine hP _ _ _ _ (And.intro (fun _ => ?_) (fun h => absurd (show Int32.ofInt 3 * ms.1 1 ≤ nI g by rw [oi3, hG.1, pk_mul]; exact nI_le (by omega) (by omega)) h))
      refine hP _ _ _ _ ?_
      refine hP _ _ _ _ (And.intro rfl (hF ?_))
      rintro (⟨c, h1, h2⟩ | ⟨a, s, h1, h2, h3⟩)
      · exact hc c h1 h2
      · exact hz a s (by omega) h2 h3
    | succ j ih =>
      intro g hg hc hz x
      iterate 5 refine hP _ _ _ _ ?_
      refine hP _ _ _ _ (And.intro (fun h => absurd (show Int32.ofInt 3 * ms.1 1 ≤ nI g from h) (by rw [oi3, hG.1, pk_mul]; exact nI_ge (by omega) (by omega))) (fun _ => ?_))
      have loop4 : ∀ i s, s + i = n → (∀ t, t < s → plB cb n w h g t n ≠ 0) → P 41 [some (.ref 26), some (.int (nI g)), some (.int (nI s))] [] (w_M f ms tl bb) := by
        intro i
        induction i with
        | zero =>
          intro s hs hzs
          have hs : s = n := hs
          subst hs
          iterate 3 refine hP _ _ _ _ ?_
          refine hP _ _ _ _ (And.intro (fun _ => ?_) (fun h => absurd (show ms.1 1 ≤ nI s by rw [hG.1]; exact nI_le (Nat.le_refl _) (by omega)) h))
          refine hP _ _ _ _ ?_
          refine hP _ _ _ _ (x_p4 (P := P) (ih (g + 1) (by omega) hc ?_ (some (.int (nI s)))) ?_ rfl rfl)
          · intro a s' ha hs'
            by_cases hag : a = g
            · rw [hag]; exact hzs s' hs'
            · exact hz a s' (by omega) hs'
          · rw [nI_succ]; rfl
        | succ i ih2 =>
          intro s hs hzs
          iterate 3 refine hP _ _ _ _ ?_
          refine hP _ _ _ _ (And.intro (fun h => absurd (show ms.1 1 ≤ nI s from h) (by rw [hG.1]; exact nI_ge (by omega) (by omega))) (fun _ => ?_))
          iterate 3 refine hP _ _ _ _ ?_
          refine hP _ _ _ _ (r_places hG hC (by omega) (by omega) ?_)
          have hpl := plB_lt cb n w h g s n
          have h29 : plB cb n w h g s n < 512 := Nat.lt_of_lt_of_le hpl (Nat.pow_le_pow_right (by omega) g2)
          refine hP _ _ _ _ (And.intro (fun hq => ?_) (fun hq => ?_))
          · have hq : ¬ nI (plB cb n w h g s n) = 0 := hq
            rw [z0, nI_eq (by omega) (by omega)] at hq
            refine hP _ _ _ _ ?_
            refine hP _ _ _ _ (x_p4 (P := P) (ih2 (s + 1) (by omega) ?_) ?_ rfl rfl)
            · intro t ht
              by_cases hts : t = s
              · rw [hts]; exact hq
              · exact hzs t (by omega)
            · rw [nI_succ]; rfl
          · have hq : nI (plB cb n w h g s n) = 0 := Decidable.of_not_not hq
            rw [z0, nI_eq (by omega) (by omega)] at hq
            refine hP _ _ _ _ ?_
            exact hP _ _ _ _ (And.intro rfl (hT (Or.inr ⟨g, s, by omega, by omega, hq⟩)))
      iterate 2 refine hP _ _ _ _ ?_
      exact loop4 n 0 (by omega) (fun t ht => absurd ht (Nat.not_lt_zero t))
  have loop1 : ∀ j k, k + j = n * n → (∀ c, c < k → cb c ≠ 0) → P 2 [some (.ref 26), some (.int (nI k)), none] [] (w_M f ms tl bb) := by
    intro j
    induction j with
    | zero =>
      intro k hk hz
      have hk : k = n * n := hk
      iterate 2 refine hP _ _ _ _ ?_
      refine hP _ _ _ _ (r_cells hG ?_)
      refine hP _ _ _ _ (And.intro (fun _ => ?_) (fun h => absurd (show nI (n * n) ≤ nI k from nI_le (by omega) (by omega)) h))
      iterate 2 refine hP _ _ _ _ ?_
      exact loop3 (3 * n) 0 (by omega) (fun c hc => hz c (by omega)) (fun a s ha => absurd ha (Nat.not_lt_zero a)) none
    | succ j ih =>
      intro k hk hz
      have hcl : (nI k).toNatClampNeg = k := nI_clamp (by omega)
      iterate 2 refine hP _ _ _ _ ?_
      refine hP _ _ _ _ (r_cells hG ?_)
      refine hP _ _ _ _ (And.intro (fun h => absurd (show nI (n * n) ≤ nI k from h) (nI_ge (by omega) (by omega))) (fun _ => ?_))
      iterate 3 refine hP _ _ _ _ ?_
      refine hP _ _ _ _ (And.intro (vp_in_nI (by omega) (by omega)) ?_)
      have hc := hcb k (by omega)
      refine hP _ _ _ _ (And.intro (fun hq => ?_) (fun hq => ?_))
      · have hq : ¬ ms.2 27 (nI k).toNatClampNeg = 0 := hq
        rw [hcl, (hC k (by omega)).1, z0, nI_eq (by omega) (by omega)] at hq
        refine hP _ _ _ _ ?_
        refine hP _ _ _ _ (x_p4 (P := P) (ih (k + 1) (by omega) ?_) ?_ rfl rfl)
        · intro c hc
          by_cases hck : c = k
          · rw [hck]; exact hq
          · exact hz c (by omega)
        · rw [nI_succ]; rfl
      · have hq : ms.2 27 (nI k).toNatClampNeg = 0 := Decidable.of_not_not hq
        rw [hcl, (hC k (by omega)).1, z0, nI_eq (by omega) (by omega)] at hq
        refine hP _ _ _ _ ?_
        exact hP _ _ _ _ (And.intro rfl (hT (Or.inl ⟨k, by omega, hq⟩)))
  iterate 2 refine hP _ _ _ _ ?_
  exact loop1 (n * n) 0 (by omega) (fun c hc => absurd hc (Nat.not_lt_zero c))
/-- the candidates behind put(c, s), the first k cells seen to -/
def putA (o : Nat → Int32) (n w h c s k : Nat) : Nat → Int32 := fun e => if e = c then nI (2 ^ s) else if e < k ∧ seeN n w h c e = true then o e &&& (nI (2 ^ s) ^^^ (-1)) else o e
theorem r_put (hG : gM ms n w h) {c s : Nat} (hc : c < n * n) (hs : s < n) (hQ : Q (.inl none) (w_M f (sA (sA ms 28 (upd (ms.2 28) c (nI s))) 27 (putA (ms.2 27) n w h c s (n * n))) tl bb)) : x_run sc x_MM x_EX (d + 3) k_X8_put [.ref 26, .int (nI c), .int (nI s)] (w_M f ms tl bb) Q := by
  obtain ⟨g1, g2, g3, g4, g5, g6, g7, g8⟩ := hG.2.2.2.le
  have hcl : ∀ k, k < 81 → (nI k).toNatClampNeg = k := fun k hk => nI_clamp (by omega)
  have hsh : Int32.ofInt 1 <<< (nI s &&& 31) = nI (2 ^ s) := by
    rw [oi1, nI_shl (by omega), Nat.one_mul]
    have : 2 ^ s ≤ 2 ^ 9 := Nat.pow_le_pow_right (by omega) (by omega)
    omega
  have hcc : seeN n w h c c = false := by unfold seeN; simp
  have hG' : ∀ u v, gM (sA (sA ms 28 u) 27 v) n w h := fun _ _ => hG
  refine x_in (M := m_X8_put) rfl rfl (Nat.le_of_ble_eq_true rfl) ⟨rfl, rfl, rfl, trivial⟩ ?_
  intro P hP
  have loop : ∀ j k, k + j = n * n → P 18 [some (.ref 26), some (.int (nI c)), some (.int (nI s)), some (.int (nI k))] [] (w_M f (sA (sA ms 28 (upd (ms.2 28) c (nI s))) 27 (putA (ms.2 27) n w h c s k)) tl bb) := by
    intro j
    induction j with
    | zero =>
      intro k hk
      have hk : k = n * n := hk
      subst hk
      iterate 2 refine hP _ _ _ _ ?_
      refine hP _ _ _ _ (r_cells (hG' _ _) ?_)
      refine hP _ _ _ _ (And.intro (fun _ => ?_) (fun h => absurd (nI_le (Nat.le_refl _) (by omega)) h))
      exact hP _ _ _ _ (hQ)
    | succ j ih =>
      intro k hk
      iterate 2 refine hP _ _ _ _ ?_
      refine hP _ _ _ _ (r_cells (hG' _ _) ?_)
      refine hP _ _ _ _ (And.intro (fun h => absurd (show nI (n * n) ≤ nI k from h) (nI_ge (by omega) (by omega))) (fun _ => ?_))
      iterate 3 refine hP _ _ _ _ ?_
      refine hP _ _ _ _ (r_sees (hG' _ _) hc (by omega) ?_)
      refine hP _ _ _ _ (And.intro (fun hq => ?_) (fun hq => ?_))
      · have hq : bI (seeN n w h c k) = 0 := hq
        rw [bI_t] at hq
        refine hP _ _ _ _ ?_
        refine hP _ _ _ _ (x_p4 (P := P) (ih (k + 1) (by omega)) ?_ rfl ?_)
        · rw [nI_succ]; rfl
        · have e : putA (ms.2 27) n w h c s (k + 1) = putA (ms.2 27) n w h c s k := by
            funext x
            unfold putA
            by_cases hx : x = k
            · subst hx
              simp [hq]
            · have h1 : (x < k + 1) = (x < k) := by apply propext; constructor <;> omega
              simp only [h1]
          rw [e]
          rfl
      · have hq : ¬ bI (seeN n w h c k) = 0 := hq
        rw [bI_t] at hq
        have hq : seeN n w h c k = true := by cases hh : seeN n w h c k with | true => rfl | false => exact absurd hh hq
        have hkc : k ≠ c := by intro hz; rw [hz, hcc] at hq; cases hq
        have hin : vp_in (nI k) 81 := vp_in_nI (by omega) (by omega)
        iterate 6 refine hP _ _ _ _ ?_
        refine hP _ _ _ _ (And.intro hin ?_)
        iterate 6 refine hP _ _ _ _ ?_
        refine hP _ _ _ _ (And.intro hin ?_)
        refine hP _ _ _ _ ?_
        refine hP _ _ _ _ (x_p4 (P := P) (ih (k + 1) (by omega)) ?_ rfl ?_)
        · rw [nI_succ]; rfl
        · have e : putA (ms.2 27) n w h c s (k + 1) = upd (putA (ms.2 27) n w h c s k) (nI k).toNatClampNeg (putA (ms.2 27) n w h c s k (nI k).toNatClampNeg &&& ((Int32.ofInt 1 <<< (nI s &&& 31)) ^^^ Int32.ofInt (-1))) := by
            rw [hcl k (by omega), hsh]
            funext x
            by_cases hx : x = k
            · subst hx
              rw [pk_us]
              have h9 : ¬ x < x := Nat.lt_irrefl x
              simp [putA, hkc, hq]
            · rw [pk_un hx]
              have h1 : (x < k + 1) = (x < k) := by apply propext; constructor <;> omega
              unfold putA
              simp only [h1]
          rw [e]
          rfl
  have hin : vp_in (nI c) 81 := vp_in_nI (by omega) (by omega)
  iterate 4 refine hP _ _ _ _ ?_
  refine hP _ _ _ _ (And.intro hin ?_)
  iterate 6 refine hP _ _ _ _ ?_
  refine hP _ _ _ _ (And.intro hin ?_)
  refine hP _ _ _ _ ?_
  refine hP _ _ _ _ (x_p4 (P := P) (loop (n * n) 0 (by omega)) rfl rfl ?_)
  have e : putA (ms.2 27) n w h c s 0 = upd (ms.2 27) (nI c).toNatClampNeg (Int32.ofInt 1 <<< (nI s &&& 31)) := by
    rw [hcl c (by omega), hsh]
    funext x
    by_cases hx : x = c
    · subst hx
      rw [pk_us]
      simp [putA]
    · rw [pk_un hx]
      simp [putA, hx]
  rw [e, hcl c (by omega)]
  rfl
end M4
end
section
/-! ===== the model: what is found is read ===== -/
/-- how many of the first k are in it -/
def rcN (rs : Nat → Bool) : Nat → Nat
  | 0 => 0
  | k + 1 => rcN rs k + (if rs k then 1 else 0)
theorem rcN_le (rs : Nat → Bool) : ∀ k, rcN rs k ≤ k
  | 0 => Nat.le_refl _
  | k + 1 => by
    have h := rcN_le rs k
    unfold rcN
    split <;> omega
/-- how many bits go in the first k cells -/
def gcN (go : Nat → Nat) : Nat → Nat
  | 0 => 0
  | k + 1 => gcN go k + pcN (go k)
theorem pcA_le (b : Nat) : ∀ k, pcA b k ≤ k
  | 0 => Nat.le_refl _
  | k + 1 => by
    have h := pcA_le b k
    unfold pcA tbN
    split <;> omega
theorem gcN_le (go : Nat → Nat) : ∀ k, gcN go k ≤ 9 * k
  | 0 => Nat.le_refl _
  | k + 1 => by
    have h := gcN_le go k
    have h2 := pcA_le (go k) 9
    unfold gcN pcN
    omega
def rM (ms : x_S) (rs : Nat → Bool) : Prop := ∀ c, c < 81 → ms.2 31 c = bI (rs c)
def oM (ms : x_S) (go : Nat → Nat) : Prop := ∀ c, c < 81 → ms.2 32 c = nI (go c) ∧ go c < 512
section M5
variable {sc : Nat × (Nat → Int32)} {f : Nat → x_C} {ms : x_S} {tl : List x_C} {bb : Nat × Nat} {n w h d : Nat} {Q : x_O → x_H → Prop} {rs : Nat → Bool} {go : Nat → Nat}
theorem r_reasonMany (hR : rM ms rs) (hQ : Q (.inl (some (.int (nI (rcN rs 81))))) (w_M f ms tl bb)) : x_run sc x_MM x_EX (d + 1) k_X8_reasonMany [.ref 26] (w_M f ms tl bb) Q := by
  refine x_in (M := m_X8_reasonMany) rfl rfl (Nat.le_of_ble_eq_true rfl) ⟨rfl, trivial⟩ ?_
  intro P hP
  have loop : ∀ j k, k + j = 81 → P 4 [some (.ref 26), some (.int (nI (rcN rs k))), some (.int (nI k))] [] (w_M f ms tl bb) := by
    intro j
    induction j with
    | zero =>
      intro k hk
      have hk : k = 81 := hk
      subst hk
      iterate 2 refine hP _ _ _ _ ?_
      refine hP _ _ _ _ (And.intro (fun _ => ?_) (fun h => absurd (show (Int8.ofInt 81).toInt32 ≤ nI 81 by decide) h))
      refine hP _ _ _ _ ?_
      exact hP _ _ _ _ (hQ)
    | succ j ih =>
      intro k hk
      have hcl : (nI k).toNatClampNeg = k := nI_clamp (by omega)
      have hin : vp_in (nI k) 81 := vp_in_nI (by omega) (by omega)
      iterate 2 refine hP _ _ _ _ ?_
      refine hP _ _ _ _ (And.intro (fun h => absurd (show (Int8.ofInt 81).toInt32 ≤ nI k from h) (by rw [ob81]; exact nI_ge (by omega) (by omega))) (fun _ => ?_))
      iterate 4 refine hP _ _ _ _ ?_
      refine hP _ _ _ _ (And.intro hin ?_)
      have hst : ∀ x : Int32, x = nI (if rs k then 1 else 0) → nI (rcN rs (k + 1)) = nI (rcN rs k) + x := fun x hx => by rw [hx, nI_add]; rfl
      refine hP _ _ _ _ (And.intro (fun h => ?_) (fun h => ?_))
      · have h : ms.2 31 (nI k).toNatClampNeg = 0 := h
        rw [hcl, hR k (by omega), bI_t] at h
        iterate 4 refine hP _ _ _ _ ?_
        refine hP _ _ _ _ (x_p4 (P := P) (ih (k + 1) (by omega)) ?_ rfl rfl)
        rw [hst (Int32.ofInt 0) (by rw [h]; exact oi0), nI_succ]; rfl
      · have h : ¬ ms.2 31 (nI k).toNatClampNeg = 0 := h
        rw [hcl, hR k (by omega), bI_t] at h
        have h : rs k = true := by cases hh : rs k with | true => rfl | false => exact absurd hh h
        iterate 5 refine hP _ _ _ _ ?_
        refine hP _ _ _ _ (x_p4 (P := P) (ih (k + 1) (by omega)) ?_ rfl rfl)
        rw [hst (Int32.ofInt 1) (by rw [h]; exact oi1), nI_succ]; rfl
  iterate 4 refine hP _ _ _ _ ?_
  exact loop 81 0 rfl
theorem r_goMany (hO : oM ms go) (hQ : Q (.inl (some (.int (nI (gcN go 81))))) (w_M f ms tl bb)) : x_run sc x_MM x_EX (d + 2) k_X8_goMany [.ref 26] (w_M f ms tl bb) Q := by
  refine x_in (M := m_X8_goMany) rfl rfl (Nat.le_of_ble_eq_true rfl) ⟨rfl, trivial⟩ ?_
  intro P hP
  have loop : ∀ j k, k + j = 81 → P 4 [some (.ref 26), some (.int (nI (gcN go k))), some (.int (nI k))] [] (w_M f ms tl bb) := by
    intro j
    induction j with
    | zero =>
      intro k hk
      have hk : k = 81 := hk
      subst hk
      iterate 2 refine hP _ _ _ _ ?_
      refine hP _ _ _ _ (And.intro (fun _ => ?_) (fun h => absurd (show (Int8.ofInt 81).toInt32 ≤ nI 81 by decide) h))
      refine hP _ _ _ _ ?_
      exact hP _ _ _ _ (hQ)
    | succ j ih =>
      intro k hk
      have hcl : (nI k).toNatClampNeg = k := nI_clamp (by omega)
      have hin : vp_in (nI k) 81 := vp_in_nI (by omega) (by omega)
      have hgo : ms.2 32 (nI k).toNatClampNeg = nI (go k) := by rw [hcl]; exact (hO k (by omega)).1
      iterate 2 refine hP _ _ _ _ ?_
      refine hP _ _ _ _ (And.intro (fun h => absurd (show (Int8.ofInt 81).toInt32 ≤ nI k from h) (by rw [ob81]; exact nI_ge (by omega) (by omega))) (fun _ => ?_))
      iterate 4 refine hP _ _ _ _ ?_
      refine hP _ _ _ _ (And.intro hin ?_)
      rw [hgo]
      refine hP _ _ _ _ (r_countOf (hO k (by omega)).2 ?_)
      iterate 3 refine hP _ _ _ _ ?_
      refine hP _ _ _ _ (x_p4 (P := P) (ih (k + 1) (by omega)) ?_ rfl rfl)
      rw [show nI (gcN go (k + 1)) = nI (gcN go k) + nI (pcN (go k)) from (nI_add _ _).symm, nI_succ]; rfl
  iterate 4 refine hP _ _ _ _ ?_
  exact loop 81 0 rfl
theorem r_reasonAt (hR : rM ms rs) {x : Int32} (hT : ∀ c, c < 81 → rs c = true → x = nI (rcN rs c) → Q (.inl (some (.int (nI c)))) (w_M f ms tl bb)) (hF : (∀ c, c < 81 → rs c = true → x ≠ nI (rcN rs c)) → Q (.inl (some (.int (-1)))) (w_M f ms tl bb)) : x_run sc x_MM x_EX (d + 1) k_X8_reasonAt [.ref 26, .int x] (w_M f ms tl bb) Q := by
  refine x_in (M := m_X8_reasonAt) rfl rfl (Nat.le_of_ble_eq_true rfl) ⟨rfl, rfl, trivial⟩ ?_
  intro P hP
  have loop : ∀ j k, k + j = 81 → (∀ c, c < k → rs c = true → x ≠ nI (rcN rs c)) → P 4 [some (.ref 26), some (.int x), some (.int (nI (rcN rs k))), some (.int (nI k))] [] (w_M f ms tl bb) := by
    intro j
    induction j with
    | zero =>
      intro k hk hz
      have hk : k = 81 := hk
      subst hk
      iterate 2 refine hP _ _ _ _ ?_
      refine hP _ _ _ _ (And.intro (fun _ => ?_) (fun h => absurd (show (Int8.ofInt 81).toInt32 ≤ nI 81 by decide) h))
      refine hP _ _ _ _ ?_
      exact hP _ _ _ _ (hF hz)
    | succ j ih =>
      intro k hk hz
      have hcl : (nI k).toNatClampNeg = k := nI_clamp (by omega)
      have hin : vp_in (nI k) 81 := vp_in_nI (by omega) (by omega)
      iterate 2 refine hP _ _ _ _ ?_
      refine hP _ _ _ _ (And.intro (fun h => absurd (show (Int8.ofInt 81).toInt32 ≤ nI k from h) (by rw [ob81]; exact nI_ge (by omega) (by omega))) (fun _ => ?_))
      iterate 3 refine hP _ _ _ _ ?_
      refine hP _ _ _ _ (And.intro hin ?_)
      refine hP _ _ _ _ (And.intro (fun h => ?_) (fun h => ?_))
      · have h : ¬ ms.2 31 (nI k).toNatClampNeg = 0 := h
        rw [hcl, hR k (by omega), bI_t] at h
        have h : rs k = true := by cases hh : rs k with | true => rfl | false => exact absurd hh h
        iterate 2 refine hP _ _ _ _ ?_
        refine hP _ _ _ _ (And.intro (fun hq => ?_) (fun hq => ?_))
        · have hq : nI (rcN rs k) ≠ x := hq
          iterate 2 refine hP _ _ _ _ ?_
          refine hP _ _ _ _ (x_p4 (P := P) (ih (k + 1) (by omega) ?_) ?_ rfl rfl)
          · intro c hc hrc
            by_cases hck : c = k
            · rw [hck]; exact hq.symm
            · exact hz c (by omega) hrc
          · rw [show rcN rs (k + 1) = rcN rs k + 1 by simp [rcN, h], nI_succ, nI_succ]; rfl
        · have hq : nI (rcN rs k) = x := Decidable.of_not_not hq
          refine hP _ _ _ _ ?_
          exact hP _ _ _ _ (hT k (by omega) h hq.symm)
      · have h : ms.2 31 (nI k).toNatClampNeg = 0 := Decidable.of_not_not h
        rw [hcl, hR k (by omega), bI_t] at h
        iterate 2 refine hP _ _ _ _ ?_
        refine hP _ _ _ _ (x_p4 (P := P) (ih (k + 1) (by omega) ?_) ?_ rfl rfl)
        · intro c hc hrc
          by_cases hck : c = k
          · rw [hck, h] at hrc; cases hrc
          · exact hz c (by omega) hrc
        · rw [show rcN rs (k + 1) = rcN rs k by simp [rcN, h], nI_succ]; rfl
  iterate 4 refine hP _ _ _ _ ?_
  exact loop 81 0 rfl (fun c hc => absurd hc (Nat.not_lt_zero c))
theorem r_reason (hS : ms.1 8 = -1 ∨ ∃ k, k < 19 ∧ ms.1 8 = nI k) (hR : ms.1 8 ≠ -1 → rM ms rs) {x : Int32} (hN : ms.1 8 = -1 → Q (.inl (some (.int (-1)))) (w_M f (sF ms 0 0) tl bb)) (hT : ms.1 8 ≠ -1 → ∀ c, c < 81 → rs c = true → x = nI (rcN rs c) → Q (.inl (some (.int (nI c)))) (w_M f (sF ms 0 0) tl bb)) (hF : ms.1 8 ≠ -1 → (∀ c, c < 81 → rs c = true → x ≠ nI (rcN rs c)) → Q (.inl (some (.int (-1)))) (w_M f (sF ms 0 0) tl bb)) : x_run sc x_MM x_EX (d + 2) k_X8_reason [.ref 26, .int x] (w_M f ms tl bb) Q := by
  have hneg : ¬ (0 : Int32) ≤ -1 := by decide
  refine x_in (M := m_X8_reason) rfl rfl (Nat.le_of_ble_eq_true rfl) ⟨rfl, rfl, trivial⟩ ?_
  intro P hP
  iterate 5 refine hP _ _ _ _ ?_
  refine hP _ _ _ _ (And.intro (fun h => ?_) (fun h => ?_))
  · have h : 0 ≤ ms.1 8 := h
    have hne : ms.1 8 ≠ -1 := fun e => hneg (e ▸ h)
    iterate 2 refine hP _ _ _ _ ?_
    refine hP _ _ _ _ (r_reasonAt (ms := sF ms 0 0) (rs := rs) (hR hne) (fun c h1 h2 h3 => ?_) (fun h1 => ?_))
    · exact hP _ _ _ _ (hT hne c h1 h2 h3)
    · exact hP _ _ _ _ (hF hne h1)
  · have h : ¬ 0 ≤ ms.1 8 := h
    have he : ms.1 8 = -1 := by
      rcases hS with e | ⟨k, hk, e⟩
      · exact e
      · exact absurd (by rw [e]; exact nI_pos' (by omega)) h
    iterate 2 refine hP _ _ _ _ ?_
    exact hP _ _ _ _ (hN he)
theorem r_found (hS : ms.1 8 = -1 ∨ ∃ k, k < 19 ∧ ms.1 8 = nI k) (hR : ms.1 8 ≠ -1 → rM ms rs ∧ oM ms go) {x : Int32} (hN : ms.1 8 = -1 → Q (.inl (some (.int (-1)))) (w_M f (sF ms 0 0) tl bb)) (hT : ms.1 8 ≠ -1 → Q (.inl (some (.int (if x = 0 then ms.1 8 else if x = 1 then nI (rcN rs 81) else if x = 2 then nI (gcN go 81) else if x = 3 then ms.1 11 else if x = 4 then ms.1 12 else -1)))) (w_M f (sF ms 0 0) tl bb)) : x_run sc x_MM x_EX (d + 3) k_X8_found [.ref 26, .int x] (w_M f ms tl bb) Q := by
  have hneg : ¬ (0 : Int32) ≤ -1 := by decide
  have hx : ∀ (k : Nat), k < 5 → x.toInt = (k : Int) → x = nI k := fun k hk h => Int32.toInt_inj.mp (by rw [h, nI_toInt (by omega)])
  refine x_in (M := m_X8_found) rfl rfl (Nat.le_of_ble_eq_true rfl) ⟨rfl, rfl, trivial⟩ ?_
  intro P hP
  iterate 5 refine hP _ _ _ _ ?_
  refine hP _ _ _ _ (And.intro (fun h => ?_) (fun h => ?_))
  · have h : 0 ≤ ms.1 8 := h
    have hne : ms.1 8 ≠ -1 := fun e => hneg (e ▸ h)
    have hT := hT hne
    obtain ⟨hR1, hR2⟩ := hR hne
    refine hP _ _ _ _ ?_
    refine hP _ _ _ _ (And.intro (fun j o hj hxj => ?_) (fun hout => ?_))
    · have hj5 : j < 5 := (Array.getElem?_eq_some_iff.mp hj).1
      have hxe := hx j hj5 (by omega)
      subst hxe
      match j, hj5, hj with
      | 0, _, hj =>
        cases hj
        iterate 2 refine hP _ _ _ _ ?_
        exact hP _ _ _ _ (hT)
      | 1, _, hj =>
        cases hj
        refine hP _ _ _ _ ?_
        refine hP _ _ _ _ (r_reasonMany (ms := sF ms 0 0) hR1 ?_)
        exact hP _ _ _ _ (hT)
      | 2, _, hj =>
        cases hj
        refine hP _ _ _ _ ?_
        refine hP _ _ _ _ (r_goMany (ms := sF ms 0 0) hR2 ?_)
        exact hP _ _ _ _ (hT)
      | 3, _, hj =>
        cases hj
        iterate 2 refine hP _ _ _ _ ?_
        exact hP _ _ _ _ (hT)
      | 4, _, hj =>
        cases hj
        iterate 2 refine hP _ _ _ _ ?_
        exact hP _ _ _ _ (hT)
    · have h0 : ∀ k : Nat, k < 5 → x ≠ nI k := fun k hk e => by
        rw [e, nI_toInt (by omega)] at hout
        omega
      rw [if_neg (show ¬ x = 0 from h0 0 (by omega)), if_neg (show ¬ x = 1 from h0 1 (by omega)), if_neg (show ¬ x = 2 from h0 2 (by omega)), if_neg (show ¬ x = 3 from h0 3 (by omega)), if_neg (show ¬ x = 4 from h0 4 (by omega))] at hT
      refine hP _ _ _ _ ?_
      exact hP _ _ _ _ (hT)
  · have h : ¬ 0 ≤ ms.1 8 := h
    have he : ms.1 8 = -1 := by
      rcases hS with e | ⟨k, hk, e⟩
      · exact e
      · exact absurd (by rw [e]; exact nI_pos' (by omega)) h
    refine hP _ _ _ _ ?_
    exact hP _ _ _ _ (hN he)
end M5
end
section
/-! ===== the model: doing and undoing ===== -/
/-- row D of 81, its first k from src -/
def kpA (o src : Nat → Int32) (D k : Nat) : Nat → Int32 := fun e => if 81 * D ≤ e ∧ e < 81 * D + k then src (e - 81 * D) else o e
theorem kpA_0 (o src : Nat → Int32) (D : Nat) : kpA o src D 0 = o := by
  funext e
  have h : ¬ (81 * D ≤ e ∧ e < 81 * D + 0) := by omega
  simp only [kpA, h, if_false]
theorem kpA_st {o src : Nat → Int32} {D k j : Nat} (hj : j = 81 * D + k) : kpA o src D (k + 1) = upd (kpA o src D k) j (src k) := by
  subst hj
  funext e
  by_cases he : e = 81 * D + k
  · subst he
    rw [pk_us]
    have h : 81 * D ≤ 81 * D + k ∧ 81 * D + k < 81 * D + (k + 1) := by omega
    simp only [kpA, h, and_self, if_true]
    congr 1
    omega
  · rw [pk_un he]
    have h : (81 * D ≤ e ∧ e < 81 * D + (k + 1)) = (81 * D ≤ e ∧ e < 81 * D + k) := by apply propext; constructor <;> (intro h; omega)
    simp only [kpA, h]
/-- the first k lose what goes -/
def andA (o g : Nat → Int32) (k : Nat) : Nat → Int32 := fun c => if c < k then o c &&& (g c ^^^ (-1)) else o c
theorem andA_0 (o g : Nat → Int32) : andA o g 0 = o := by funext c; simp [andA]
theorem andA_st {o g : Nat → Int32} {k : Nat} : andA o g (k + 1) = upd (andA o g k) k (andA o g k k &&& (g k ^^^ (-1))) := by
  funext c
  by_cases hc : c = k
  · subst hc
    rw [pk_us]
    simp [andA]
  · rw [pk_un hc]
    have h : (c < k + 1) = (c < k) := by apply propext; constructor <;> omega
    simp only [andA, h]
/-- the first k are put back from row D -/
def bkA (o src : Nat → Int32) (D k : Nat) : Nat → Int32 := fun c => if c < k then src (81 * D + c) else o c
theorem bkA_0 (o src : Nat → Int32) (D : Nat) : bkA o src D 0 = o := by funext c; simp [bkA]
theorem bkA_st {o src : Nat → Int32} {D k : Nat} : bkA o src D (k + 1) = upd (bkA o src D k) k (src (81 * D + k)) := by
  funext c
  by_cases hc : c = k
  · subst hc
    rw [pk_us]
    simp [bkA]
  · rw [pk_un hc]
    have h : (c < k + 1) = (c < k) := by apply propext; constructor <;> omega
    simp only [bkA, h]
def actM1 (ms : x_S) (D k : Nat) : x_S := sA (sF (sA (sA (sA ms 35 (kpA (ms.2 35) (ms.2 27) D 81)) 36 (kpA (ms.2 36) (ms.2 28) D 81)) 37 (upd (ms.2 37) D (ms.1 8))) 16 (nI (D + 1))) 30 (upd (ms.2 30) k (ms.2 30 k + 1))
def actM2 (ms : x_S) (n w h : Nat) (r : Option (Nat × Nat)) : x_S := match r with
  | none => ms
  | some (c, s) => sA (sA ms 28 (upd (ms.2 28) c (nI s))) 27 (putA (ms.2 27) n w h c s (n * n))
def actM3 (ms : x_S) : x_S := sF (sA ms 27 (andA (ms.2 27) (ms.2 32) 81)) 8 (-1)
def actM (ms : x_S) (n w h D k : Nat) (r : Option (Nat × Nat)) : x_S := actM3 (actM2 (actM1 ms D k) n w h r)
/-- the cell that is set, and its symbol, in the model's fields -/
def setM (ms : x_S) (n : Nat) (r : Option (Nat × Nat)) : Prop := match r with
  | none => ms.1 11 = -1 ∧ ms.1 12 = -1
  | some (c, s) => ms.1 11 = nI c ∧ ms.1 12 = nI s ∧ c < n * n ∧ s < n
theorem x_rX {sc : Nat × (Nat → Int32)} {d mj : Nat} {av av' : List Value} {X X' : x_H} {Q : x_O → x_H → Prop} (h : x_run sc x_MM x_EX d mj av X Q) (ha : av = av') (e : X = X') : x_run sc x_MM x_EX d mj av' X' Q := by subst ha; subst e; exact h
section M6
variable {sc : Nat × (Nat → Int32)} {f : Nat → x_C} {ms : x_S} {tl : List x_C} {bb : Nat × Nat} {n w h d : Nat} {Q : x_O → x_H → Prop}
theorem r_act (hG : gM ms n w h) {D k : Nat} {r : Option (Nat × Nat)} (hD : ms.1 16 = nI D) (hD8 : D < 820) (hk : ms.1 8 = nI k) (hk9 : k < 19) (hr : setM ms n r) (hQ : Q (.inl none) (w_M f (actM ms n w h D k r) tl bb)) : x_run sc x_MM x_EX (d + 4) k_X8_act [.ref 26] (w_M f ms tl bb) Q := by
  obtain ⟨g1, g2, g3, g4, g5, g6, g7, g8⟩ := hG.2.2.2.le
  have hcl : ∀ j, j < 81 → (nI j).toNatClampNeg = j := fun j hj => nI_clamp (by omega)
  have hix : ∀ j, (Int8.ofInt 81).toInt32 * ms.1 16 + nI j = nI (81 * D + j) := fun j => by rw [ob81, hD, pk_mul, nI_add]
  have hcx : ∀ j, j < 81 → (nI (81 * D + j)).toNatClampNeg = 81 * D + j := fun j hj => nI_clamp (by omega)
  refine x_in (M := m_X8_act) rfl rfl (Nat.le_of_ble_eq_true rfl) ⟨rfl, trivial⟩ ?_
  intro P hP
  have loop3 : ∀ m0 : x_S, Q (.inl none) (w_M f (actM3 m0) tl bb) → ∀ j i, i + j = 81 → P 111 [some (.ref 26), some (.int (nI i))] [] (w_M f (sA m0 27 (andA (m0.2 27) (m0.2 32) i)) tl bb) := by
    intro m0 hQ0 j
    induction j with
    | zero =>
      intro i hi
      have hi : i = 81 := hi
      subst hi
      iterate 2 refine hP _ _ _ _ ?_
      refine hP _ _ _ _ (And.intro (fun _ => ?_) (fun h => absurd (show (Int8.ofInt 81).toInt32 ≤ nI 81 by decide) h))
      iterate 3 refine hP _ _ _ _ ?_
      exact hP _ _ _ _ (hQ0)
    | succ j ih =>
      intro i hi
      have hin : vp_in (nI i) 81 := vp_in_nI (by omega) (by omega)
      iterate 2 refine hP _ _ _ _ ?_
      refine hP _ _ _ _ (And.intro (fun h => absurd (show (Int8.ofInt 81).toInt32 ≤ nI i from h) (by rw [ob81]; exact nI_ge (by omega) (by omega))) (fun _ => ?_))
      iterate 6 refine hP _ _ _ _ ?_
      refine hP _ _ _ _ (And.intro hin ?_)
      iterate 3 refine hP _ _ _ _ ?_
      refine hP _ _ _ _ (And.intro hin ?_)
      iterate 3 refine hP _ _ _ _ ?_
      refine hP _ _ _ _ (And.intro hin ?_)
      refine hP _ _ _ _ ?_
      refine hP _ _ _ _ (x_p4 (P := P) (ih (i + 1) (by omega)) ?_ rfl ?_)
      · rw [nI_succ]; rfl
      · rw [andA_st, hcl i (by omega)]
        rfl
  have after : P 109 [some (.ref 26), some (.int (nI 81))] [] (w_M f (actM2 (actM1 ms D k) n w h r) tl bb) := by
    refine hP _ _ _ _ ?_
    refine hP _ _ _ _ (x_p4 (P := P) (loop3 _ hQ 81 0 rfl) rfl rfl ?_)
    rw [andA_0]
    cases r <;> rfl
  have loop1 : ∀ j i, i + j = 81 → P 2 [some (.ref 26), some (.int (nI i))] [] (w_M f (sA (sA ms 35 (kpA (ms.2 35) (ms.2 27) D i)) 36 (kpA (ms.2 36) (ms.2 28) D i)) tl bb) := by
    intro j
    induction j with
    | zero =>
      intro i hi
      have hi : i = 81 := hi
      subst hi
      iterate 2 refine hP _ _ _ _ ?_
      refine hP _ _ _ _ (And.intro (fun _ => ?_) (fun h => absurd (show (Int8.ofInt 81).toInt32 ≤ nI 81 by decide) h))
      iterate 6 refine hP _ _ _ _ ?_
      refine hP _ _ _ _ (And.intro (show vp_in (ms.1 16) 820 by rw [hD]; exact vp_in_nI hD8 (by omega)) ?_)
      iterate 6 refine hP _ _ _ _ ?_
      iterate 5 refine hP _ _ _ _ ?_
      refine hP _ _ _ _ (And.intro (show vp_in (ms.1 8) 19 by rw [hk]; exact vp_in_nI hk9 (by omega)) ?_)
      iterate 2 refine hP _ _ _ _ ?_
      refine hP _ _ _ _ (And.intro (show vp_in (ms.1 8) 19 by rw [hk]; exact vp_in_nI hk9 (by omega)) ?_)
      iterate 2 refine hP _ _ _ _ ?_
      have e8 : (ms.1 8).toNatClampNeg = k := by rw [hk]; exact nI_clamp (by omega)
      have e16 : (ms.1 16).toNatClampNeg = D := by rw [hD]; exact nI_clamp (by omega)
      have hw : ∀ b : Nat × Nat, w_M f (actM1 ms D k) tl b = ((((w_M f (sA (sA ms 35 (kpA (ms.2 35) (ms.2 27) D 81)) 36 (kpA (ms.2 36) (ms.2 28) D 81)) tl b).1.set 37 (.inl (.int, 820, .inl (upd (ms.2 37) (ms.1 16).toNatClampNeg (ms.1 8))))).set 26 (.inr (8, [.int (ms.1 0), .int (ms.1 1), .int (ms.1 2), .int (ms.1 3), .ref 27, .ref 28, .ref 29, .ref 30, .int (ms.1 8), .ref 31, .ref 32, .int (ms.1 11), .int (ms.1 12), .int (ms.1 13), .ref 33, .ref 34, .int (ms.1 16 + Int32.ofInt 1), .ref 35, .ref 36, .ref 37, .ref 38, .ref 39, .ref 40]))).set 30 (.inl (.int, 19, .inl (upd (ms.2 30) (ms.1 8).toNatClampNeg (ms.2 30 (ms.1 8).toNatClampNeg + Int32.ofInt 1)))), b) := by
        intro b
        rw [e8, e16, hD, oi1, nI_add D 1]
        rfl
      refine hP _ _ _ _ (And.intro (fun hlt => ?_) (fun hlt => ?_))
      · have hlt : ms.1 11 < 0 := hlt
        cases r with
        | some cs =>
          obtain ⟨cc, ss⟩ := cs
          exact absurd hlt (by rw [hr.1]; exact nI_pos (by have := hr.2.2.1; omega))
        | none => exact x_p4 after rfl rfl (hw bb)
      · have hlt : ¬ ms.1 11 < 0 := hlt
        cases r with
        | none => exact absurd (show ms.1 11 < 0 by rw [hr.1]; decide) hlt
        | some cs =>
          obtain ⟨cc, ss⟩ := cs
          iterate 5 refine hP _ _ _ _ ?_
          have hr1 : ms.1 11 = nI cc := hr.1
          have hr2 : ms.1 12 = nI ss := hr.2.1
          refine hP _ _ _ _ (x_rX (r_put (ms := actM1 ms D k) hG hr.2.2.1 hr.2.2.2 ?_) (by rw [← hr1, ← hr2]; rfl) (hw (0, 0)))
          exact after
    | succ j ih =>
      intro i hi
      have hin : vp_in (nI i) 81 := vp_in_nI (by omega) (by omega)
      have hin2 : vp_in ((Int8.ofInt 81).toInt32 * ms.1 16 + nI i) 66420 := by rw [hix]; exact vp_in_nI (by omega) (by omega)
      iterate 2 refine hP _ _ _ _ ?_
      refine hP _ _ _ _ (And.intro (fun h => absurd (show (Int8.ofInt 81).toInt32 ≤ nI i from h) (by rw [ob81]; exact nI_ge (by omega) (by omega))) (fun _ => ?_))
      iterate 11 refine hP _ _ _ _ ?_
      refine hP _ _ _ _ (And.intro hin ?_)
      refine hP _ _ _ _ (And.intro hin2 ?_)
      iterate 11 refine hP _ _ _ _ ?_
      refine hP _ _ _ _ (And.intro hin ?_)
      refine hP _ _ _ _ (And.intro hin2 ?_)
      refine hP _ _ _ _ ?_
      refine hP _ _ _ _ (x_p4 (P := P) (ih (i + 1) (by omega)) ?_ rfl ?_)
      · rw [nI_succ]; rfl
      · rw [kpA_st (o := ms.2 35) (src := ms.2 27) (D := D) (k := i) rfl, kpA_st (o := ms.2 36) (src := ms.2 28) (D := D) (k := i) rfl]
        have e1 : ((Int8.ofInt 81).toInt32 * ms.1 16 + nI i).toNatClampNeg = 81 * D + i := by rw [hix]; exact hcx i (by omega)
        have e2 : (nI i).toNatClampNeg = i := hcl i (by omega)
        rw [← e1]
        conv => lhs; rw [show ms.2 27 i = ms.2 27 (nI i).toNatClampNeg by rw [e2], show ms.2 28 i = ms.2 28 (nI i).toNatClampNeg by rw [e2]]
        rfl
  refine hP _ _ _ _ ?_
  refine hP _ _ _ _ (x_p4 (P := P) (loop1 81 0 rfl) rfl rfl ?_)
  rw [kpA_0, kpA_0]
  rfl
end M6
end
section
/-! ===== the model: undo, reads by number, set, take, enable ===== -/
def undoM (ms : x_S) (D k : Nat) : x_S := sF (sA (sA (sA (sF (sF ms 0 0) 16 (nI D)) 27 (bkA (ms.2 27) (ms.2 35) D 81)) 28 (bkA (ms.2 28) (ms.2 36) D 81)) 30 (upd (ms.2 30) k (ms.2 30 k - 1))) 8 (-1)
theorem bI_n0 {b : Bool} (h : ¬ bI b = 0) : b = true := by cases b with | true => rfl | false => exact absurd rfl h
section M7
variable {sc : Nat × (Nat → Int32)} {f : Nat → x_C} {ms : x_S} {tl : List x_C} {bb : Nat × Nat} {n w h d : Nat} {Q : x_O → x_H → Prop} {cb : Nat → Nat}
theorem r_undo {D : Nat} (hD : ms.1 16 = nI D) (hD8 : D ≤ 820) (hN : D = 0 → Q (.inl (some (.int (-1)))) (w_M f (sF ms 0 0) tl bb)) (hT : ∀ E k, D = E + 1 → ms.2 37 E = nI k → Q (.inl (some (.int (nI k)))) (w_M f (undoM ms E k) tl bb)) (hK : ∀ E, D = E + 1 → ∃ k, k < 19 ∧ ms.2 37 E = nI k) : x_run sc x_MM x_EX (d + 1) k_X8_undo [.ref 26] (w_M f ms tl bb) Q := by
  have hcl : ∀ j, j < 81 → (nI j).toNatClampNeg = j := fun j hj => nI_clamp (by omega)
  refine x_in (M := m_X8_undo) rfl rfl (Nat.le_of_ble_eq_true rfl) ⟨rfl, trivial⟩ ?_
  intro P hP
  iterate 5 refine hP _ _ _ _ ?_
  refine hP _ _ _ _ (And.intro (fun h => ?_) (fun h => ?_))
  · have h : ¬ ms.1 16 = 0 := h
    rw [hD, z0, nI_eq (by omega) (by omega)] at h
    obtain ⟨E, rfl⟩ : ∃ E, D = E + 1 := ⟨D - 1, by omega⟩
    obtain ⟨k, hk, hkE⟩ := hK E rfl
    have hix : ∀ j, (Int8.ofInt 81).toInt32 * nI E + nI j = nI (81 * E + j) := fun j => by rw [ob81, pk_mul, nI_add]
    have hcx : ∀ j, j < 81 → (nI (81 * E + j)).toNatClampNeg = 81 * E + j := fun j hj => nI_clamp (by omega)
    have loop : ∀ j i, i + j = 81 → P 26 [some (.ref 26), some (.int (nI i))] [] (w_M f (sA (sA (sF (sF ms 0 0) 16 (nI E)) 27 (bkA (ms.2 27) (ms.2 35) E i)) 28 (bkA (ms.2 28) (ms.2 36) E i)) tl bb) := by
      intro j
      induction j with
      | zero =>
        intro i hi
        have hi : i = 81 := hi
        subst hi
        have eE : (nI E).toNatClampNeg = E := nI_clamp (by omega)
        have ek : (ms.2 37 (nI E).toNatClampNeg).toNatClampNeg = k := by rw [eE, hkE]; exact nI_clamp (by omega)
        have hinE : vp_in (nI E) 820 := vp_in_nI (by omega) (by omega)
        have hink : vp_in (ms.2 37 (nI E).toNatClampNeg) 19 := by rw [eE, hkE]; exact vp_in_nI hk (by omega)
        iterate 2 refine hP _ _ _ _ ?_
        refine hP _ _ _ _ (And.intro (fun _ => ?_) (fun h => absurd (show (Int8.ofInt 81).toInt32 ≤ nI 81 by decide) h))
        iterate 6 refine hP _ _ _ _ ?_
        refine hP _ _ _ _ (And.intro hinE ?_)
        refine hP _ _ _ _ ?_
        refine hP _ _ _ _ (And.intro hink ?_)
        iterate 2 refine hP _ _ _ _ ?_
        refine hP _ _ _ _ (And.intro hink ?_)
        iterate 3 refine hP _ _ _ _ ?_
        iterate 4 refine hP _ _ _ _ ?_
        refine hP _ _ _ _ (And.intro hinE ?_)
        have hq := hT E k rfl hkE
        refine hP _ _ _ _ (x_q2 (x_q1 hq ?_) ?_)
        · show nI k = ms.2 37 (nI E).toNatClampNeg
          rw [eE, hkE]
        · unfold undoM
          have e1 : upd (ms.2 30) k (ms.2 30 k - 1) = upd (ms.2 30) (ms.2 37 (nI E).toNatClampNeg).toNatClampNeg (ms.2 30 (ms.2 37 (nI E).toNatClampNeg).toNatClampNeg - Int32.ofInt 1) := by rw [ek]; rfl
          rw [e1]
          rfl
      | succ j ih =>
        intro i hi
        have hin : vp_in (nI i) 81 := vp_in_nI (by omega) (by omega)
        have hin2 : vp_in ((Int8.ofInt 81).toInt32 * nI E + nI i) 66420 := by rw [hix]; exact vp_in_nI (by omega) (by omega)
        iterate 2 refine hP _ _ _ _ ?_
        refine hP _ _ _ _ (And.intro (fun h => absurd (show (Int8.ofInt 81).toInt32 ≤ nI i from h) (by rw [ob81]; exact nI_ge (by omega) (by omega))) (fun _ => ?_))
        iterate 11 refine hP _ _ _ _ ?_
        refine hP _ _ _ _ (And.intro hin2 ?_)
        refine hP _ _ _ _ (And.intro hin ?_)
        iterate 11 refine hP _ _ _ _ ?_
        refine hP _ _ _ _ (And.intro hin2 ?_)
        refine hP _ _ _ _ (And.intro hin ?_)
        refine hP _ _ _ _ ?_
        refine hP _ _ _ _ (x_p4 (P := P) (ih (i + 1) (by omega)) ?_ rfl ?_)
        · rw [nI_succ]; rfl
        · have e1 : ((Int8.ofInt 81).toInt32 * nI E + nI i).toNatClampNeg = 81 * E + i := by rw [hix]; exact hcx i (by omega)
          have e2 : (nI i).toNatClampNeg = i := hcl i (by omega)
          have u1 : bkA (ms.2 27) (ms.2 35) E (i + 1) = upd (bkA (ms.2 27) (ms.2 35) E i) (nI i).toNatClampNeg (ms.2 35 ((Int8.ofInt 81).toInt32 * nI E + nI i).toNatClampNeg) := by rw [e1, e2]; exact bkA_st
          have u2 : bkA (ms.2 28) (ms.2 36) E (i + 1) = upd (bkA (ms.2 28) (ms.2 36) E i) (nI i).toNatClampNeg (ms.2 36 ((Int8.ofInt 81).toInt32 * nI E + nI i).toNatClampNeg) := by rw [e1, e2]; exact bkA_st
          rw [u1, u2]
          rfl
    iterate 7 refine hP _ _ _ _ ?_
    refine hP _ _ _ _ (x_p4 (P := P) (loop 81 0 rfl) rfl rfl ?_)
    rw [bkA_0, bkA_0, show nI E = ms.1 16 - Int32.ofInt 1 by rw [hD]; exact (nI_pred E).symm]
    rfl
  · have h : ms.1 16 = 0 := Decidable.of_not_not h
    rw [hD, z0, nI_eq (by omega) (by omega)] at h
    refine hP _ _ _ _ ?_
    exact hP _ _ _ _ (hN h)
/-- which numbers are steps -/
def okB (x : Int32) (m : Nat) : Bool := decide (0 ≤ x.toInt ∧ x.toInt < m)
theorem okB_t {x : Int32} {m : Nat} (h : okB x m = true) (hm : m < 2 ^ 31) : ∃ k, k < m ∧ x = nI k := by
  have h := of_decide_eq_true h
  refine ⟨x.toInt.toNat, by omega, Int32.toInt_inj.mp ?_⟩
  rw [nI_toInt (by omega)]
  omega
theorem okB_f {x : Int32} {m : Nat} (h : okB x m = false) : x.toInt < 0 ∨ (m : Int) ≤ x.toInt := by
  have h := of_decide_eq_false h
  omega
theorem i32_neg {x : Int32} : x < 0 ↔ x.toInt < 0 := by rw [Int32.lt_iff_toInt_lt]; rfl
theorem i32_lt {x : Int32} {m : Nat} (hm : m < 2 ^ 31) : x < nI m ↔ x.toInt < m := by rw [Int32.lt_iff_toInt_lt, nI_toInt hm]
theorem i32_ge {x : Int32} {m : Nat} (hm : m < 2 ^ 31) : nI m ≤ x ↔ (m : Int) ≤ x.toInt := by rw [Int32.le_iff_toInt_le, nI_toInt hm]
theorem r_done {x : Int32} (hN : okB x 19 = false → Q (.inl (some (.int 0))) (w_M f (sF ms 0 1) tl bb)) (hT : ∀ k, k < 19 → x = nI k → Q (.inl (some (.int (ms.2 30 k)))) (w_M f (sF ms 0 0) tl bb)) : x_run sc x_MM x_EX (d + 2) k_X8_done [.ref 26, .int x] (w_M f ms tl bb) Q := by
  refine x_in (M := m_X8_done) rfl rfl (Nat.le_of_ble_eq_true rfl) ⟨rfl, rfl, trivial⟩ ?_
  intro P hP
  have fin : P 17 [some (.ref 26), some (.int x)] [.int (bI (!okB x 19)), .int (Int32.ofInt 1), .ref 26] (w_M f ms tl bb) := by
    cases hb : okB x 19
    · refine hP _ _ _ _ (r_fails (b := true) ?_)
      refine hP _ _ _ _ (And.intro (fun h => absurd (show bI true = 0 from h) (by decide)) (fun _ => ?_))
      iterate 2 refine hP _ _ _ _ ?_
      exact hP _ _ _ _ (hN hb)
    · obtain ⟨k, hk, rfl⟩ := okB_t hb (by omega)
      refine hP _ _ _ _ (r_fails (b := false) ?_)
      refine hP _ _ _ _ (And.intro (fun _ => ?_) (fun h => absurd rfl h))
      iterate 3 refine hP _ _ _ _ ?_
      refine hP _ _ _ _ (And.intro (vp_in_nI hk (by omega)) ?_)
      refine hP _ _ _ _ (x_q1 (hT k hk rfl) ?_)
      show ms.2 30 k = ms.2 30 (nI k).toNatClampNeg
      rw [nI_clamp (by omega)]
  iterate 3 refine hP _ _ _ _ ?_
  refine hP _ _ _ _ (And.intro (fun h => ?_) (fun h => ?_))
  · have h : x < 0 := h
    rw [i32_neg] at h
    have hb : okB x 19 = false := decide_eq_false (by omega)
    rw [hb] at fin
    iterate 2 refine hP _ _ _ _ ?_
    exact fin
  · have h : ¬ x < 0 := h
    rw [i32_neg] at h
    iterate 2 refine hP _ _ _ _ ?_
    refine hP _ _ _ _ (And.intro (fun h2 => ?_) (fun h2 => ?_))
    · have h2 : x < (Int8.ofInt 19).toInt32 := h2
      rw [ob19, i32_lt (by omega)] at h2
      have hb : okB x 19 = true := decide_eq_true (by omega)
      rw [hb] at fin
      refine hP _ _ _ _ ?_
      exact fin
    · have h2 : ¬ x < (Int8.ofInt 19).toInt32 := h2
      rw [ob19, i32_lt (by omega)] at h2
      have hb : okB x 19 = false := decide_eq_false (by omega)
      rw [hb] at fin
      iterate 2 refine hP _ _ _ _ ?_
      exact fin
theorem okB_nn (x : Int32) (n : Nat) : decide (0 ≤ x.toInt ∧ x.toInt < (n : Int) * n) = okB x (n * n) := by unfold okB; rw [Int.natCast_mul]
theorem r_candidates (hG : gM ms n w h) {x : Int32} (hN : okB x (n * n) = false → Q (.inl (some (.int 0))) (w_M f (sF ms 0 1) tl bb)) (hT : ∀ c, c < n * n → x = nI c → Q (.inl (some (.int (ms.2 27 c)))) (w_M f (sF ms 0 0) tl bb)) : x_run sc x_MM x_EX (d + 3) k_X8_candidates [.ref 26, .int x] (w_M f ms tl bb) Q := by
  obtain ⟨g1, g2, g3, g4, g5, g6, g7, g8⟩ := hG.2.2.2.le
  refine x_in (M := m_X8_candidates) rfl rfl (Nat.le_of_ble_eq_true rfl) ⟨rfl, rfl, trivial⟩ ?_
  intro P hP
  have fin : P 15 [some (.ref 26), some (.int x)] [.int (bI (!okB x (n * n))), .int (Int32.ofInt 1), .ref 26] (w_M f ms tl bb) := by
    cases hb : okB x (n * n)
    · refine hP _ _ _ _ (r_fails (b := true) ?_)
      refine hP _ _ _ _ (And.intro (fun h => absurd (show bI true = 0 from h) (by decide)) (fun _ => ?_))
      iterate 2 refine hP _ _ _ _ ?_
      exact hP _ _ _ _ (hN hb)
    · obtain ⟨k, hk, rfl⟩ := okB_t hb (by omega)
      refine hP _ _ _ _ (r_fails (b := false) ?_)
      refine hP _ _ _ _ (And.intro (fun _ => ?_) (fun h => absurd rfl h))
      iterate 3 refine hP _ _ _ _ ?_
      refine hP _ _ _ _ (And.intro (vp_in_nI (by omega) (by omega)) ?_)
      refine hP _ _ _ _ (x_q1 (hT k hk rfl) ?_)
      show ms.2 27 k = ms.2 27 (nI k).toNatClampNeg
      rw [nI_clamp (by omega)]
  iterate 4 refine hP _ _ _ _ ?_
  refine hP _ _ _ _ (r_isCell hG ?_)
  rw [okB_nn]
  refine hP _ _ _ _ (And.intro (fun h => ?_) (fun h => ?_))
  · have h : ¬ bI (okB x (n * n)) = 0 := h
    rw [bI_n0 h] at fin
    refine hP _ _ _ _ ?_
    exact fin
  · have h : bI (okB x (n * n)) = 0 := Decidable.of_not_not h
    rw [bI_t.mp h] at fin
    iterate 2 refine hP _ _ _ _ ?_
    exact fin
theorem r_value (hG : gM ms n w h) {x : Int32} (hN : okB x (n * n) = false → Q (.inl (some (.int 0))) (w_M f (sF ms 0 1) tl bb)) (hT : ∀ c, c < n * n → x = nI c → Q (.inl (some (.int (ms.2 28 c)))) (w_M f (sF ms 0 0) tl bb)) : x_run sc x_MM x_EX (d + 3) k_X8_value [.ref 26, .int x] (w_M f ms tl bb) Q := by
  obtain ⟨g1, g2, g3, g4, g5, g6, g7, g8⟩ := hG.2.2.2.le
  refine x_in (M := m_X8_value) rfl rfl (Nat.le_of_ble_eq_true rfl) ⟨rfl, rfl, trivial⟩ ?_
  intro P hP
  have fin : P 15 [some (.ref 26), some (.int x)] [.int (bI (!okB x (n * n))), .int (Int32.ofInt 1), .ref 26] (w_M f ms tl bb) := by
    cases hb : okB x (n * n)
    · refine hP _ _ _ _ (r_fails (b := true) ?_)
      refine hP _ _ _ _ (And.intro (fun h => absurd (show bI true = 0 from h) (by decide)) (fun _ => ?_))
      iterate 2 refine hP _ _ _ _ ?_
      exact hP _ _ _ _ (hN hb)
    · obtain ⟨k, hk, rfl⟩ := okB_t hb (by omega)
      refine hP _ _ _ _ (r_fails (b := false) ?_)
      refine hP _ _ _ _ (And.intro (fun _ => ?_) (fun h => absurd rfl h))
      iterate 3 refine hP _ _ _ _ ?_
      refine hP _ _ _ _ (And.intro (vp_in_nI (by omega) (by omega)) ?_)
      refine hP _ _ _ _ (x_q1 (hT k hk rfl) ?_)
      show ms.2 28 k = ms.2 28 (nI k).toNatClampNeg
      rw [nI_clamp (by omega)]
  iterate 4 refine hP _ _ _ _ ?_
  refine hP _ _ _ _ (r_isCell hG ?_)
  rw [okB_nn]
  refine hP _ _ _ _ (And.intro (fun h => ?_) (fun h => ?_))
  · have h : ¬ bI (okB x (n * n)) = 0 := h
    rw [bI_n0 h] at fin
    refine hP _ _ _ _ ?_
    exact fin
  · have h : bI (okB x (n * n)) = 0 := Decidable.of_not_not h
    rw [bI_t.mp h] at fin
    iterate 2 refine hP _ _ _ _ ?_
    exact fin
/-- what a cell is set to, as the machine has it -/
def vI (o : Option Nat) : Int32 := match o with
  | none => -1
  | some s => nI s
def vM (ms : x_S) (n : Nat) (vb : Nat → Option Nat) : Prop := ∀ c, c < n * n → ms.2 28 c = vI (vb c) ∧ ∀ s, vb c = some s → s < n
theorem vI_neg {o : Option Nat} (h : ∀ s, o = some s → s < 2 ^ 31) : 0 ≤ vI o ↔ o ≠ none := by
  cases o with
  | none => constructor
            · intro h9; exact absurd h9 (by decide)
            · intro h9; exact absurd rfl h9
  | some s => constructor
              · intro _ h9; cases h9
              · intro _; exact nI_pos' (h s rfl)
def setS (ms : x_S) (n w h c s : Nat) : x_S := sF (sF (sA (sA (sF ms 0 0) 28 (upd (ms.2 28) c (nI s))) 27 (putA (ms.2 27) n w h c s (n * n))) 8 (-1)) 16 0
def takeS (ms : x_S) (c s : Nat) : x_S := sF (sF (sA (sF ms 0 0) 27 (upd (ms.2 27) c (ms.2 27 c &&& (nI (2 ^ s) ^^^ (-1))))) 8 (-1)) 16 0
theorem r_set (hG : gM ms n w h) {vb : Nat → Option Nat} (hC : cM ms n cb) (hV : vM ms n vb) {x y : Int32}
    (h1 : okB x (n * n) = false → Q (.inl (some (.int (bI false)))) (w_M f (sF ms 0 1) tl bb)) (h2 : okB x (n * n) = true → okB y n = false → Q (.inl (some (.int (bI false)))) (w_M f (sF ms 0 2) tl bb))
    (h3 : ∀ c s, c < n * n → s < n → x = nI c → y = nI s → (vb c ≠ none ∨ (cb c).testBit s = false) → Q (.inl (some (.int (bI false)))) (w_M f (sF ms 0 0) tl bb))
    (h4 : ∀ c s, c < n * n → s < n → x = nI c → y = nI s → vb c = none → (cb c).testBit s = true → Q (.inl (some (.int (bI true)))) (w_M f (setS ms n w h c s) tl bb)) : x_run sc x_MM x_EX (d + 4) k_X8_set [.ref 26, .int x, .int y] (w_M f ms tl bb) Q := by
  obtain ⟨g1, g2, g3, g4, g5, g6, g7, g8⟩ := hG.2.2.2.le
  refine x_in (M := m_X8_set) rfl rfl (Nat.le_of_ble_eq_true rfl) ⟨rfl, rfl, rfl, trivial⟩ ?_
  intro P hP
  have no : ∀ z : Int32, Q (.inl (some (.int (bI false)))) (w_M f (sF ms 0 z) tl bb) → P 60 [some (.ref 26), some (.int x), some (.int y)] [] (w_M f (sF ms 0 z) tl bb) := by
    intro z hq
    refine hP _ _ _ _ ?_
    exact hP _ _ _ _ (And.intro rfl hq)
  have fin2 : ∀ c, c < n * n → x = nI c → P 36 [some (.ref 26), some (.int x), some (.int y)] [.int (bI (!okB y n)), .int (Int32.ofInt 2), .ref 26] (w_M f (sF ms 0 0) tl bb) := by
    intro c hc hxc
    cases hb : okB y n
    · refine hP _ _ _ _ (r_fails (b := true) ?_)
      refine hP _ _ _ _ (And.intro (fun _ => ?_) (fun h => absurd (show bI true ≠ 0 by decide) h))
      exact no 2 (h2 (by rw [hxc]; exact decide_eq_true (by rw [nI_toInt (by omega)]; omega)) hb)
    · obtain ⟨s, hs, rfl⟩ := okB_t hb (by omega)
      subst hxc
      have hcl : (nI c).toNatClampNeg = c := nI_clamp (by omega)
      refine hP _ _ _ _ (r_fails (b := false) ?_)
      refine hP _ _ _ _ (And.intro (fun h => absurd (show bI false = 0 by decide) (show bI false ≠ 0 from h)) (fun _ => ?_))
      iterate 3 refine hP _ _ _ _ ?_
      refine hP _ _ _ _ (And.intro (vp_in_nI (by omega) (by omega)) ?_)
      refine hP _ _ _ _ (And.intro (fun hv => ?_) (fun hv => ?_))
      · have hv : 0 ≤ ms.2 28 (nI c).toNatClampNeg := hv
        rw [hcl, (hV c hc).1, vI_neg (fun t ht => by have := (hV c hc).2 t ht; omega)] at hv
        exact no 0 (h3 c s hc hs rfl rfl (Or.inl hv))
      · have hv : ¬ 0 ≤ ms.2 28 (nI c).toNatClampNeg := hv
        rw [hcl, (hV c hc).1, vI_neg (fun t ht => by have := (hV c hc).2 t ht; omega)] at hv
        have hv : vb c = none := Decidable.of_not_not hv
        iterate 3 refine hP _ _ _ _ ?_
        have h29 : cb c < 512 := Nat.lt_of_lt_of_le (hC c hc).2 (Nat.pow_le_pow_right (by omega) g2)
        refine hP _ _ _ _ (r_has (ms := sF ms 0 0) (b := cb c) (by omega) (by omega) (hC c hc).1 h29 ?_)
        refine hP _ _ _ _ (And.intro (fun hq => ?_) (fun hq => ?_))
        · have hq := bI_n0 (show ¬ bI ((cb c).testBit s) = 0 from hq)
          iterate 3 refine hP _ _ _ _ ?_
          refine hP _ _ _ _ (r_put (ms := sF ms 0 0) hG hc hs ?_)
          refine hP _ _ _ _ ?_
          refine hP _ _ _ _ (r_changed ?_)
          refine hP _ _ _ _ ?_
          exact hP _ _ _ _ (And.intro rfl (h4 c s hc hs rfl rfl hv hq))
        · have hq : bI ((cb c).testBit s) = 0 := Decidable.of_not_not hq
          exact no 0 (h3 c s hc hs rfl rfl (Or.inr (bI_t.mp hq)))
  have fin : P 15 [some (.ref 26), some (.int x), some (.int y)] [.int (bI (!okB x (n * n))), .int (Int32.ofInt 1), .ref 26] (w_M f ms tl bb) := by
    cases hb : okB x (n * n)
    · refine hP _ _ _ _ (r_fails (b := true) ?_)
      refine hP _ _ _ _ (And.intro (fun _ => ?_) (fun h => absurd (show bI true ≠ 0 by decide) h))
      exact no 1 (h1 hb)
    · obtain ⟨c, hc, hxc⟩ := okB_t hb (by omega)
      refine hP _ _ _ _ (r_fails (b := false) ?_)
      refine hP _ _ _ _ (And.intro (fun h => absurd (show bI false = 0 by decide) (show bI false ≠ 0 from h)) (fun _ => ?_))
      iterate 4 refine hP _ _ _ _ ?_
      refine hP _ _ _ _ (r_isSymbol (ms := sF ms 0 0) hG ?_)
      have fin2 := fin2 c hc hxc
      refine hP _ _ _ _ (And.intro (fun h => ?_) (fun h => ?_))
      · have h : ¬ bI (okB y n) = 0 := h
        rw [bI_n0 h] at fin2
        refine hP _ _ _ _ ?_
        exact fin2
      · have h : bI (okB y n) = 0 := Decidable.of_not_not h
        rw [bI_t.mp h] at fin2
        iterate 2 refine hP _ _ _ _ ?_
        exact fin2
  iterate 4 refine hP _ _ _ _ ?_
  refine hP _ _ _ _ (r_isCell hG ?_)
  rw [okB_nn]
  refine hP _ _ _ _ (And.intro (fun h => ?_) (fun h => ?_))
  · have h : ¬ bI (okB x (n * n)) = 0 := h
    rw [bI_n0 h] at fin
    refine hP _ _ _ _ ?_
    exact fin
  · have h : bI (okB x (n * n)) = 0 := Decidable.of_not_not h
    rw [bI_t.mp h] at fin
    iterate 2 refine hP _ _ _ _ ?_
    exact fin
end M7
end
section
/-! ===== the model: take, enable, goes, open symbols, houses ===== -/
/-- how many bits below n go in the first c cells -/
def gbN (go : Nat → Nat) (n : Nat) : Nat → Nat
  | 0 => 0
  | c + 1 => gbN go n c + pcA (go c) n
section M8
variable {sc : Nat × (Nat → Int32)} {f : Nat → x_C} {ms : x_S} {tl : List x_C} {bb : Nat × Nat} {n w h d : Nat} {Q : x_O → x_H → Prop} {cb : Nat → Nat} {go : Nat → Nat}
theorem r_take (hG : gM ms n w h) {vb : Nat → Option Nat} (hC : cM ms n cb) (hV : vM ms n vb) {x y : Int32}
    (h1 : okB x (n * n) = false → Q (.inl (some (.int (bI false)))) (w_M f (sF ms 0 1) tl bb)) (h2 : okB x (n * n) = true → okB y n = false → Q (.inl (some (.int (bI false)))) (w_M f (sF ms 0 2) tl bb))
    (h3 : ∀ c s, c < n * n → s < n → x = nI c → y = nI s → (vb c ≠ none ∨ (cb c).testBit s = false) → Q (.inl (some (.int (bI false)))) (w_M f (sF ms 0 0) tl bb))
    (h4 : ∀ c s, c < n * n → s < n → x = nI c → y = nI s → vb c = none → (cb c).testBit s = true → Q (.inl (some (.int (bI true)))) (w_M f (takeS ms c s) tl bb)) : x_run sc x_MM x_EX (d + 4) k_X8_take [.ref 26, .int x, .int y] (w_M f ms tl bb) Q := by
  obtain ⟨g1, g2, g3, g4, g5, g6, g7, g8⟩ := hG.2.2.2.le
  refine x_in (M := m_X8_take) rfl rfl (Nat.le_of_ble_eq_true rfl) ⟨rfl, rfl, rfl, trivial⟩ ?_
  intro P hP
  have no : ∀ z : Int32, Q (.inl (some (.int (bI false)))) (w_M f (sF ms 0 z) tl bb) → P 60 [some (.ref 26), some (.int x), some (.int y)] [] (w_M f (sF ms 0 z) tl bb) := by
    intro z hq
    refine hP _ _ _ _ ?_
    exact hP _ _ _ _ (And.intro rfl hq)
  have fin2 : ∀ c, c < n * n → x = nI c → P 36 [some (.ref 26), some (.int x), some (.int y)] [.int (bI (!okB y n)), .int (Int32.ofInt 2), .ref 26] (w_M f (sF ms 0 0) tl bb) := by
    intro c hc hxc
    cases hb : okB y n
    · refine hP _ _ _ _ (r_fails (b := true) ?_)
      refine hP _ _ _ _ (And.intro (fun _ => ?_) (fun h => absurd (show bI true ≠ 0 by decide) h))
      exact no 2 (h2 (by rw [hxc]; exact decide_eq_true (by rw [nI_toInt (by omega)]; omega)) hb)
    · obtain ⟨s, hs, rfl⟩ := okB_t hb (by omega)
      subst hxc
      have hcl : (nI c).toNatClampNeg = c := nI_clamp (by omega)
      have hin : vp_in (nI c) 81 := vp_in_nI (by omega) (by omega)
      refine hP _ _ _ _ (r_fails (b := false) ?_)
      refine hP _ _ _ _ (And.intro (fun h => absurd (show bI false = 0 by decide) (show bI false ≠ 0 from h)) (fun _ => ?_))
      iterate 3 refine hP _ _ _ _ ?_
      refine hP _ _ _ _ (And.intro hin ?_)
      refine hP _ _ _ _ (And.intro (fun hv => ?_) (fun hv => ?_))
      · have hv : 0 ≤ ms.2 28 (nI c).toNatClampNeg := hv
        rw [hcl, (hV c hc).1, vI_neg (fun t ht => by have := (hV c hc).2 t ht; omega)] at hv
        exact no 0 (h3 c s hc hs rfl rfl (Or.inl hv))
      · have hv : ¬ 0 ≤ ms.2 28 (nI c).toNatClampNeg := hv
        rw [hcl, (hV c hc).1, vI_neg (fun t ht => by have := (hV c hc).2 t ht; omega)] at hv
        have hv : vb c = none := Decidable.of_not_not hv
        iterate 3 refine hP _ _ _ _ ?_
        have h29 : cb c < 512 := Nat.lt_of_lt_of_le (hC c hc).2 (Nat.pow_le_pow_right (by omega) g2)
        refine hP _ _ _ _ (r_has (ms := sF ms 0 0) (b := cb c) (by omega) (by omega) (hC c hc).1 h29 ?_)
        refine hP _ _ _ _ (And.intro (fun hq => ?_) (fun hq => ?_))
        · have hq := bI_n0 (show ¬ bI ((cb c).testBit s) = 0 from hq)
          have hsh : Int32.ofInt 1 <<< (nI s &&& 31) = nI (2 ^ s) := by
            rw [oi1, nI_shl (by omega), Nat.one_mul]
            have : 2 ^ s ≤ 2 ^ 9 := Nat.pow_le_pow_right (by omega) (by omega)
            omega
          iterate 6 refine hP _ _ _ _ ?_
          refine hP _ _ _ _ (And.intro hin ?_)
          iterate 6 refine hP _ _ _ _ ?_
          refine hP _ _ _ _ (And.intro hin ?_)
          refine hP _ _ _ _ ?_
          have hA : upd (ms.2 27) (nI c).toNatClampNeg (ms.2 27 (nI c).toNatClampNeg &&& (Int32.ofInt 1 <<< (nI s &&& 31) ^^^ Int32.ofInt (-1))) = upd (ms.2 27) c (ms.2 27 c &&& (nI (2 ^ s) ^^^ (-1))) := by rw [hcl, hsh]; rfl
          refine hP _ _ _ _ (x_rX (r_changed (f := f) (tl := tl) (bb := (0, 0)) (ms := sA (sF ms 0 0) 27 (upd (ms.2 27) c (ms.2 27 c &&& (nI (2 ^ s) ^^^ (-1))))) ?_) rfl ?_)
          · refine hP _ _ _ _ ?_
            exact hP _ _ _ _ (And.intro rfl (h4 c s hc hs rfl rfl hv hq))
          · rw [← hA]
            rfl
        · have hq : bI ((cb c).testBit s) = 0 := Decidable.of_not_not hq
          exact no 0 (h3 c s hc hs rfl rfl (Or.inr (bI_t.mp hq)))
  have fin : P 15 [some (.ref 26), some (.int x), some (.int y)] [.int (bI (!okB x (n * n))), .int (Int32.ofInt 1), .ref 26] (w_M f ms tl bb) := by
    cases hb : okB x (n * n)
    · refine hP _ _ _ _ (r_fails (b := true) ?_)
      refine hP _ _ _ _ (And.intro (fun _ => ?_) (fun h => absurd (show bI true ≠ 0 by decide) h))
      exact no 1 (h1 hb)
    · obtain ⟨c, hc, hxc⟩ := okB_t hb (by omega)
      refine hP _ _ _ _ (r_fails (b := false) ?_)
      refine hP _ _ _ _ (And.intro (fun h => absurd (show bI false = 0 by decide) (show bI false ≠ 0 from h)) (fun _ => ?_))
      iterate 4 refine hP _ _ _ _ ?_
      refine hP _ _ _ _ (r_isSymbol (ms := sF ms 0 0) hG ?_)
      have fin2 := fin2 c hc hxc
      refine hP _ _ _ _ (And.intro (fun h => ?_) (fun h => ?_))
      · have h : ¬ bI (okB y n) = 0 := h
        rw [bI_n0 h] at fin2
        refine hP _ _ _ _ ?_
        exact fin2
      · have h : bI (okB y n) = 0 := Decidable.of_not_not h
        rw [bI_t.mp h] at fin2
        iterate 2 refine hP _ _ _ _ ?_
        exact fin2
  iterate 4 refine hP _ _ _ _ ?_
  refine hP _ _ _ _ (r_isCell hG ?_)
  rw [okB_nn]
  refine hP _ _ _ _ (And.intro (fun h => ?_) (fun h => ?_))
  · have h : ¬ bI (okB x (n * n)) = 0 := h
    rw [bI_n0 h] at fin
    refine hP _ _ _ _ ?_
    exact fin
  · have h : bI (okB x (n * n)) = 0 := Decidable.of_not_not h
    rw [bI_t.mp h] at fin
    iterate 2 refine hP _ _ _ _ ?_
    exact fin
def fM (ms : x_S) (off : Nat → Bool) : Prop := ∀ k, k < 19 → ms.2 29 k = bI (off k)
theorem r_enable {off : Nat → Bool} (hO : fM ms off) {x : Int32} {b : Bool}
    (h1 : okB x 19 = false → Q (.inl (some (.int (bI false)))) (w_M f (sF ms 0 1) tl bb))
    (h2 : ∀ k, k < 19 → x = nI k → off k ≠ b → Q (.inl (some (.int (bI false)))) (w_M f (sF ms 0 0) tl bb))
    (h3 : ∀ k, k < 19 → x = nI k → off k = b → Q (.inl (some (.int (bI true)))) (w_M f (sF (sA (sF ms 0 0) 29 (upd (ms.2 29) k (bI (!b)))) 8 (-1)) tl bb)) : x_run sc x_MM x_EX (d + 2) k_X8_enable [.ref 26, .int x, .int (bI b)] (w_M f ms tl bb) Q := by
  refine x_in (M := m_X8_enable) rfl rfl (Nat.le_of_ble_eq_true rfl) ⟨rfl, rfl, rfl, trivial⟩ ?_
  intro P hP
  have no : ∀ z : Int32, Q (.inl (some (.int (bI false)))) (w_M f (sF ms 0 z) tl bb) → P 33 [some (.ref 26), some (.int x), some (.int (bI b))] [] (w_M f (sF ms 0 z) tl bb) := by
    intro z hq
    refine hP _ _ _ _ ?_
    exact hP _ _ _ _ (And.intro rfl hq)
  have fin : P 17 [some (.ref 26), some (.int x), some (.int (bI b))] [.int (bI (!okB x 19)), .int (Int32.ofInt 1), .ref 26] (w_M f ms tl bb) := by
    cases hb : okB x 19
    · refine hP _ _ _ _ (r_fails (b := true) ?_)
      refine hP _ _ _ _ (And.intro (fun _ => ?_) (fun h => absurd (show bI true ≠ 0 by decide) h))
      exact no 1 (h1 hb)
    · obtain ⟨k, hk, rfl⟩ := okB_t hb (by omega)
      have hcl : (nI k).toNatClampNeg = k := nI_clamp (by omega)
      have hin : vp_in (nI k) 19 := vp_in_nI hk (by omega)
      refine hP _ _ _ _ (r_fails (b := false) ?_)
      refine hP _ _ _ _ (And.intro (fun h => absurd (show bI false = 0 by decide) (show bI false ≠ 0 from h)) (fun _ => ?_))
      iterate 3 refine hP _ _ _ _ ?_
      refine hP _ _ _ _ (And.intro hin ?_)
      refine hP _ _ _ _ ?_
      refine hP _ _ _ _ (And.intro (fun hq => ?_) (fun hq => ?_))
      · have hq : ms.2 29 (nI k).toNatClampNeg = bI b := hq
        rw [hcl, hO k hk] at hq
        have hq : off k = b := by cases h8 : off k <;> cases h9 : b <;> rw [h8, h9] at hq <;> first | rfl | exact absurd hq (by decide)
        have h3 := h3 k hk rfl hq
        have st : P 49 [some (.ref 26), some (.int (nI k)), some (.int (bI b))] [.int (bI (!b)), .int (nI k), .ref 29] (w_M f (sF ms 0 0) tl bb) := by
          refine hP _ _ _ _ (And.intro hin ?_)
          iterate 4 refine hP _ _ _ _ ?_
          refine hP _ _ _ _ (And.intro rfl (x_q2 h3 ?_))
          rw [hcl, bI_nb]
          rfl
        iterate 4 refine hP _ _ _ _ ?_
        cases b
        · refine hP _ _ _ _ (And.intro (fun h => absurd (show bI false = 0 by decide) (show bI false ≠ 0 from h)) (fun _ => ?_))
          iterate 2 refine hP _ _ _ _ ?_
          exact st
        · refine hP _ _ _ _ (And.intro (fun _ => ?_) (fun h => absurd (show bI true ≠ 0 by decide) h))
          refine hP _ _ _ _ ?_
          exact st
      · have hq : ¬ ms.2 29 (nI k).toNatClampNeg = bI b := hq
        rw [hcl, hO k hk] at hq
        exact no 0 (h2 k hk rfl (fun e => hq (by rw [e])))
  iterate 3 refine hP _ _ _ _ ?_
  refine hP _ _ _ _ (And.intro (fun h => ?_) (fun h => ?_))
  · have h : x < 0 := h
    rw [i32_neg] at h
    have hb : okB x 19 = false := decide_eq_false (by omega)
    rw [hb] at fin
    iterate 2 refine hP _ _ _ _ ?_
    exact fin
  · have h : ¬ x < 0 := h
    rw [i32_neg] at h
    iterate 2 refine hP _ _ _ _ ?_
    refine hP _ _ _ _ (And.intro (fun h2 => ?_) (fun h2 => ?_))
    · have h2 : x < (Int8.ofInt 19).toInt32 := h2
      rw [ob19, i32_lt (by omega)] at h2
      have hb : okB x 19 = true := decide_eq_true (by omega)
      rw [hb] at fin
      refine hP _ _ _ _ ?_
      exact fin
    · have h2 : ¬ x < (Int8.ofInt 19).toInt32 := h2
      rw [ob19, i32_lt (by omega)] at h2
      have hb : okB x 19 = false := decide_eq_false (by omega)
      rw [hb] at fin
      iterate 2 refine hP _ _ _ _ ?_
      exact fin
theorem r_apply (hG : gM ms n w h) {D k : Nat} {r : Option (Nat × Nat)} (hD : ms.1 16 = nI D) (hD8 : D < 820) (hS : ms.1 8 = -1 ∨ (ms.1 8 = nI k ∧ k < 19 ∧ setM ms n r)) (hN : ms.1 8 = -1 → Q (.inl (some (.int (bI false)))) (w_M f (sF ms 0 0) tl bb)) (hT : ms.1 8 = nI k → Q (.inl (some (.int (bI true)))) (w_M f (actM (sF ms 0 0) n w h D k r) tl bb)) : x_run sc x_MM x_EX (d + 5) k_X8_apply [.ref 26] (w_M f ms tl bb) Q := by
  refine x_in (M := m_X8_apply) rfl rfl (Nat.le_of_ble_eq_true rfl) ⟨rfl, trivial⟩ ?_
  intro P hP
  iterate 5 refine hP _ _ _ _ ?_
  refine hP _ _ _ _ (And.intro (fun hq => ?_) (fun hq => ?_))
  · have hq : 0 ≤ ms.1 8 := hq
    rcases hS with e | ⟨e, hk, hr⟩
    · rw [e] at hq; exact absurd hq (by decide)
    · refine hP _ _ _ _ ?_
      refine hP _ _ _ _ (r_act (ms := sF ms 0 0) hG hD hD8 e hk (r := r) (by cases r <;> exact hr) ?_)
      refine hP _ _ _ _ ?_
      exact hP _ _ _ _ (And.intro rfl (hT e))
  · have hq : ¬ 0 ≤ ms.1 8 := hq
    rcases hS with e | ⟨e, hk, hr⟩
    · refine hP _ _ _ _ ?_
      exact hP _ _ _ _ (And.intro rfl (hN e))
    · exact absurd (show 0 ≤ ms.1 8 by rw [e]; exact nI_pos' (by omega)) hq
/-- no cell of house g is set to s -/
def opN (vb : Nat → Option Nat) (n w h g s : Nat) : Prop := ∀ i, i < n → vb (atN n w h g i) ≠ some s
theorem r_isOpenIn (hG : gM ms n w h) {vb : Nat → Option Nat} (hV : vM ms n vb) {g s : Nat} (hg : g < 3 * n) (hs : s < n) (hT : opN vb n w h g s → Q (.inl (some (.int (bI true)))) (w_M f ms tl bb)) (hF : ¬ opN vb n w h g s → Q (.inl (some (.int (bI false)))) (w_M f ms tl bb)) : x_run sc x_MM x_EX (d + 2) k_X8_isOpenIn [.ref 26, .int (nI g), .int (nI s)] (w_M f ms tl bb) Q := by
  obtain ⟨g1, g2, g3, g4, g5, g6, g7, g8⟩ := hG.2.2.2.le
  refine x_in (M := m_X8_isOpenIn) rfl rfl (Nat.le_of_ble_eq_true rfl) ⟨rfl, rfl, rfl, trivial⟩ ?_
  intro P hP
  have loop : ∀ j k, k + j = n → (∀ i, i < k → vb (atN n w h g i) ≠ some s) → P 2 [some (.ref 26), some (.int (nI g)), some (.int (nI s)), some (.int (nI k))] [] (w_M f ms tl bb) := by
    intro j
    induction j with
    | zero =>
      intro k hk hz
      have hk : k = n := hk
      subst hk
      iterate 3 refine hP _ _ _ _ ?_
      refine hP _ _ _ _ (And.intro (fun _ => ?_) (fun h => absurd (show ms.1 1 ≤ nI k by rw [hG.1]; exact nI_le (Nat.le_refl _) (by omega)) h))
      refine hP _ _ _ _ ?_
      exact hP _ _ _ _ (And.intro rfl (hT hz))
    | succ j ih =>
      intro k hk hz
      have hat := atN_lt (w := w) (h := h) hG.2.2.2 hg (show k < n by omega)
      have hcl : (nI (atN n w h g k)).toNatClampNeg = atN n w h g k := nI_clamp (by omega)
      iterate 3 refine hP _ _ _ _ ?_
      refine hP _ _ _ _ (And.intro (fun h => absurd (show ms.1 1 ≤ nI k from h) (by rw [hG.1]; exact nI_ge (by omega) (by omega))) (fun _ => ?_))
      iterate 5 refine hP _ _ _ _ ?_
      refine hP _ _ _ _ (r_at hG hg (by omega) ?_)
      refine hP _ _ _ _ (And.intro (vp_in_nI (by omega) (by omega)) ?_)
      refine hP _ _ _ _ ?_
      have hvI : (vI (vb (atN n w h g k)) = nI s) ↔ vb (atN n w h g k) = some s := by
        cases hv : vb (atN n w h g k) with
        | none =>
          constructor
          · intro e
            have e2 : (-1 : Int32) = nI s := e
            have e3 := congrArg Int32.toInt e2
            rw [nI_toInt (by omega)] at e3
            have e4 : (-1 : Int32).toInt = -1 := by decide
            omega
          · intro e; cases e
        | some t =>
          have ht := (hV _ hat).2 t hv
          constructor
          · intro e
            have e2 : nI t = nI s := e
            rw [nI_eq (by omega) (by omega)] at e2
            rw [e2]
          · intro e
            cases e
            rfl
      refine hP _ _ _ _ (And.intro (fun hq => ?_) (fun hq => ?_))
      · have hq : ¬ ms.2 28 (nI (atN n w h g k)).toNatClampNeg = nI s := hq
        rw [hcl, (hV _ hat).1, hvI] at hq
        refine hP _ _ _ _ ?_
        refine hP _ _ _ _ (x_p4 (P := P) (ih (k + 1) (by omega) ?_) ?_ rfl rfl)
        · intro i hi
          by_cases hik : i = k
          · rw [hik]; exact hq
          · exact hz i (by omega)
        · rw [nI_succ]; rfl
      · have hq : ms.2 28 (nI (atN n w h g k)).toNatClampNeg = nI s := Decidable.of_not_not hq
        rw [hcl, (hV _ hat).1, hvI] at hq
        refine hP _ _ _ _ ?_
        exact hP _ _ _ _ (And.intro rfl (hF (fun ho => ho k (by omega) hq)))
  iterate 2 refine hP _ _ _ _ ?_
  exact loop n 0 (by omega) (fun i hi => absurd hi (Nat.not_lt_zero i))
end M8
end
section
/-! ===== the model: what a step finds, setting a cell ===== -/
/-- what is found: the cell that is set and its symbol, the candidates that go, the reason -/
abbrev rS : Type := Option (Nat × Nat) × (Nat → Nat) × (Nat → Bool)
def resM (ms : x_S) (n : Nat) (r : rS) : Prop := setM ms n r.1 ∧ oM ms r.2.1 ∧ rM ms r.2.2
/-- all but the scratch is as it was -/
def scr (ms ms' : x_S) : Prop := (∀ k, k ≠ 11 → k ≠ 12 → k ≠ 13 → ms'.1 k = ms.1 k) ∧ ∀ p, p ≠ 31 → p ≠ 32 → p ≠ 33 → p ≠ 34 → p ≠ 38 → p ≠ 39 → p ≠ 40 → ms'.2 p = ms.2 p
theorem scr.rf (ms : x_S) : scr ms ms := ⟨fun _ _ _ _ => rfl, fun _ _ _ _ _ _ _ _ => rfl⟩
theorem scr.tr {a b c : x_S} (h1 : scr a b) (h2 : scr b c) : scr a c := ⟨fun k x y z => (h2.1 k x y z).trans (h1.1 k x y z), fun p x1 x2 x3 x4 x5 x6 x7 => (h2.2 p x1 x2 x3 x4 x5 x6 x7).trans (h1.2 p x1 x2 x3 x4 x5 x6 x7)⟩
theorem scr.f {ms : x_S} {k : Nat} {v : Int32} (h : k = 11 ∨ k = 12 ∨ k = 13) : scr ms (sF ms k v) := ⟨fun j h1 h2 h3 => by show upd ms.1 k v j = _; rw [pk_un (by omega)], fun _ _ _ _ _ _ _ _ => rfl⟩
theorem scr.a {ms : x_S} {p : Nat} {g : Nat → Int32} (h : p = 31 ∨ p = 32 ∨ p = 33 ∨ p = 34 ∨ p = 38 ∨ p = 39 ∨ p = 40) : scr ms (sA ms p g) := ⟨fun _ _ _ _ => rfl, fun q h1 h2 h3 h4 h5 h6 h7 => by show (if q = p then g else ms.2 q) = _; rw [if_neg (by omega)]⟩
theorem scr.g {a b : x_S} {n w h : Nat} (s : scr a b) (hG : gM a n w h) : gM b n w h := by
  obtain ⟨h1, h2, h3, h4⟩ := hG
  exact ⟨(s.1 1 (by decide) (by decide) (by decide)).trans h1, (s.1 2 (by decide) (by decide) (by decide)).trans h2, (s.1 3 (by decide) (by decide) (by decide)).trans h3, h4⟩
theorem scr.c {a b : x_S} {n : Nat} {cb : Nat → Nat} (s : scr a b) (hC : cM a n cb) : cM b n cb := fun c hc => ⟨by rw [s.2 27 (by decide) (by decide) (by decide) (by decide) (by decide) (by decide) (by decide)]; exact (hC c hc).1, (hC c hc).2⟩
theorem scr.v {a b : x_S} {n : Nat} {vb : Nat → Option Nat} (s : scr a b) (hV : vM a n vb) : vM b n vb := fun c hc => ⟨by rw [s.2 28 (by decide) (by decide) (by decide) (by decide) (by decide) (by decide) (by decide)]; exact (hV c hc).1, (hV c hc).2⟩
/-- nothing is marked -/
def clM (ms : x_S) : Prop := ms.1 11 = -1 ∧ ms.1 12 = -1 ∧ ∀ c, c < 81 → ms.2 31 c = 0 ∧ ms.2 32 c = 0
theorem noneM_cl (ms : x_S) : clM (noneM ms) := by
  refine ⟨rfl, rfl, fun c hc => ⟨?_, ?_⟩⟩
  · show zr (ms.2 31) 81 c = 0
    simp [zr, hc]
  · show zr (ms.2 32) 81 c = 0
    simp [zr, hc]
theorem noneM_scr (ms : x_S) : scr ms (noneM ms) := (((scr.f (Or.inl rfl)).tr (scr.f (Or.inr (Or.inl rfl)))).tr (scr.a (Or.inl rfl))).tr (scr.a (Or.inr (Or.inl rfl)))
/-- the first of them, from i on, j of them -/
def ff {R : Type} (ev : Nat → Option R) : Nat → Nat → Option R
  | 0, _ => none
  | j + 1, i => match ev i with
    | some r => some r
    | none => ff ev j (i + 1)
theorem ff_s {R : Type} {ev : Nat → Option R} {j i : Nat} {r : R} (h : ev i = some r) : ff ev (j + 1) i = some r := by simp only [ff, h]
theorem ff_n {R : Type} {ev : Nat → Option R} {j i : Nat} (h : ev i = none) : ff ev (j + 1) i = ff ev j (i + 1) := by simp only [ff, h]
/-- the lowest bit -/
def lowA (b : Nat) : Nat → Nat → Nat
  | 0, k => k
  | j + 1, k => if b.testBit k then k else lowA b j (k + 1)
def lowN (b : Nat) : Nat := lowA b 9 0
theorem lowN_ok : ∀ b, b < 512 → b ≠ 0 → lowN b < 9 ∧ b.testBit (lowN b) = true ∧ ∀ t, t < lowN b → b.testBit t = false := by decide +kernel
theorem pcN_0 : pcN 0 = 0 := by decide
theorem tb_lt {b s n : Nat} (h : b.testBit s = true) (hb : b < 2 ^ n) : s < n := by
  rcases Nat.lt_or_ge s n with h1 | h1
  · exact h1
  · have h2 : b < 2 ^ s := Nat.lt_of_lt_of_le hb (Nat.pow_le_pow_right (by omega) h1)
    rw [Nat.testBit_lt_two_pow h2] at h
    cases h
/-- what goes when c is set to s; of the cells that c sees, the first k -/
def setGk (cb : Nat → Nat) (n w h c s k : Nat) : Nat → Nat := fun e => if e = c then clr (cb c) (2 ^ s) else if e < k ∧ seeN n w h c e = true then cb e &&& 2 ^ s else 0
def setG (cb : Nat → Nat) (n w h c s : Nat) : Nat → Nat := setGk cb n w h c s (n * n)
theorem clr_le (a m : Nat) : clr a m ≤ a := by
  have h : clr a m = clr a m &&& a := by
    apply Nat.eq_of_testBit_eq
    intro i
    rw [Nat.testBit_and, clr_bit]
    cases a.testBit i <;> cases m.testBit i <;> rfl
  rw [h]
  exact Nat.and_le_right
theorem setGk_lt {cb : Nat → Nat} {n w h c s k e : Nat} (hc : cb c < 512) (he : cb e < 512) : setGk cb n w h c s k e < 512 := by
  unfold setGk
  split
  · exact Nat.lt_of_le_of_lt (clr_le _ _) hc
  · split
    · exact Nat.lt_of_le_of_lt Nat.and_le_left he
    · decide
section S1
variable {sc : Nat × (Nat → Int32)} {f : Nat → x_C} {ms : x_S} {tl : List x_C} {bb : Nat × Nat} {n w h d : Nat} {Q : x_O → x_H → Prop} {cb : Nat → Nat} {vb : Nat → Option Nat}
theorem r_sets (hG : gM ms n w h) (hC : cM ms n cb) {c s : Nat} (hc : c < n * n) (hs : s < n) (hz : ∀ e, e < 81 → ms.2 32 e = 0) (hQ : ∀ g : Nat → Int32, (∀ e, e < 81 → g e = nI (setG cb n w h c s e)) → Q (.inl (some (.int (bI true)))) (w_M f (sA (sF (sF ms 11 (nI c)) 12 (nI s)) 32 g) tl bb)) : x_run sc x_MM x_EX (d + 3) k_X8_sets [.ref 26, .int (nI c), .int (nI s)] (w_M f ms tl bb) Q := by
  obtain ⟨g1, g2, g3, g4, g5, g6, g7, g8⟩ := hG.2.2.2.le
  have hG' : ∀ g, gM (sA (sF (sF ms 11 (nI c)) 12 (nI s)) 32 g) n w h := fun _ => hG
  have hsh : Int32.ofInt 1 <<< (nI s &&& 31) = nI (2 ^ s) := by
    rw [oi1, nI_shl (by omega), Nat.one_mul]
    have : 2 ^ s ≤ 2 ^ 9 := Nat.pow_le_pow_right (by omega) (by omega)
    omega
  have hcc : seeN n w h c c = false := by unfold seeN; simp
  refine x_in (M := m_X8_sets) rfl rfl (Nat.le_of_ble_eq_true rfl) ⟨rfl, rfl, rfl, trivial⟩ ?_
  intro P hP
  have loop : ∀ j k g, k + j = n * n → (∀ e, e < 81 → g e = nI (setGk cb n w h c s k e)) → P 22 [some (.ref 26), some (.int (nI c)), some (.int (nI s)), some (.int (nI k))] [] (w_M f (sA (sF (sF ms 11 (nI c)) 12 (nI s)) 32 g) tl bb) := by
    intro j
    induction j with
    | zero =>
      intro k g hk hg
      have hk : k = n * n := hk
      subst hk
      iterate 2 refine hP _ _ _ _ ?_
      refine hP _ _ _ _ (r_cells (hG' g) ?_)
      refine hP _ _ _ _ (And.intro (fun _ => ?_) (fun h => absurd (nI_le (Nat.le_refl _) (by omega)) h))
      refine hP _ _ _ _ ?_
      exact hP _ _ _ _ (And.intro rfl (hQ g hg))
    | succ j ih =>
      intro k g hk hg
      iterate 2 refine hP _ _ _ _ ?_
      refine hP _ _ _ _ (r_cells (hG' g) ?_)
      refine hP _ _ _ _ (And.intro (fun h => absurd (show nI (n * n) ≤ nI k from h) (nI_ge (by omega) (by omega))) (fun _ => ?_))
      iterate 3 refine hP _ _ _ _ ?_
      refine hP _ _ _ _ (r_sees (hG' g) hc (by omega) ?_)
      refine hP _ _ _ _ (And.intro (fun hq => ?_) (fun hq => ?_))
      · have hq : seeN n w h c k = false := bI_t.mp hq
        refine hP _ _ _ _ ?_
        refine hP _ _ _ _ (x_p4 (P := P) (ih (k + 1) g (by omega) ?_) ?_ rfl rfl)
        · intro e he
          rw [hg e he]
          congr 1
          unfold setGk
          by_cases hek : e = k
          · subst hek
            simp [hq]
          · have h1 : (e < k + 1) = (e < k) := by apply propext; constructor <;> omega
            simp only [h1]
        · rw [nI_succ]; rfl
      · have hq : seeN n w h c k = true := bI_n0 hq
        have hkc : k ≠ c := by intro hz; rw [hz, hcc] at hq; cases hq
        iterate 5 refine hP _ _ _ _ ?_
        refine hP _ _ _ _ (r_leaves (ms := sA (sF (sF ms 11 (nI c)) 12 (nI s)) 32 g) (by omega) ?_)
        refine hP _ _ _ _ ?_
        refine hP _ _ _ _ (x_p4 (P := P) (ih (k + 1) (upd g k (g k ||| (ms.2 27 k &&& (Int32.ofInt 1 <<< (nI s &&& 31))))) (by omega) ?_) ?_ rfl rfl)
        · intro e he
          by_cases hek : e = k
          · subst hek
            rw [pk_us, hg e he, (hC e (by omega)).1, hsh, nx_and, nx_or]
            congr 1
            have h1 : setGk cb n w h c s e e = 0 := by unfold setGk; simp [hkc]
            have h2 : setGk cb n w h c s (e + 1) e = cb e &&& 2 ^ s := by unfold setGk; simp [hkc, hq]
            rw [h1, h2, Nat.zero_or]
          · rw [pk_un hek, hg e he]
            congr 1
            unfold setGk
            have h1 : (e < k + 1) = (e < k) := by apply propext; constructor <;> omega
            simp only [h1]
        · rw [nI_succ]; rfl
  iterate 13 refine hP _ _ _ _ ?_
  refine hP _ _ _ _ (r_leaves (ms := sF (sF ms 11 (nI c)) 12 (nI s)) (by omega) ?_)
  refine hP _ _ _ _ ?_
  refine hP _ _ _ _ (loop (n * n) 0 (upd (ms.2 32) c (ms.2 32 c ||| (ms.2 27 c &&& (Int32.ofInt 1 <<< (nI s &&& 31) ^^^ Int32.ofInt (-1))))) (by omega) ?_)
  intro e he
  by_cases hec : e = c
  · subst hec
    rw [pk_us, hz e he, (hC e hc).1, hsh, show Int32.ofInt (-1) = -1 from oim, nx_not, z0, nx_or, Nat.zero_or]
    congr 1
    unfold setGk
    simp
  · rw [pk_un hec, hz e he, z0]
    congr 1
    unfold setGk
    simp [hec]
end S1
end
section
/-! ===== the model: steps 0 to 3 ===== -/
def lastE (cb : Nat → Nat) (vb : Nat → Option Nat) (n w h c : Nat) : Option rS := if vb c = none ∧ pcN (cb c) = 1 then some (some (c, lowN (cb c)), setG cb n w h c (lowN (cb c)), fun e => e == c) else none
def lastS (cb : Nat → Nat) (vb : Nat → Option Nat) (n w h : Nat) : Option rS := ff (lastE cb vb n w h) (n * n) 0
/-- the cells of house g -/
def hsN (n w h g : Nat) (e : Nat) : Bool := (List.range n).any fun i => atN n w h g i == e
def onlyE (cb : Nat → Nat) (vb : Nat → Option Nat) (n w h g s : Nat) : Option rS := if pcN (plB cb n w h g s n) = 1 ∧ vb (atN n w h g (lowN (plB cb n w h g s n))) = none then some (some (atN n w h g (lowN (plB cb n w h g s n)), s), setG cb n w h (atN n w h g (lowN (plB cb n w h g s n))) s, hsN n w h g) else none
def onlyS (cb : Nat → Nat) (vb : Nat → Option Nat) (n w h fr : Nat) : Option rS := ff (fun g => ff (onlyE cb vb n w h g) n 0) n fr
theorem bI_1 (b : Bool) : bI b = bI true ↔ b = true := by cases b <;> decide
section S2
variable {sc : Nat × (Nat → Int32)} {f : Nat → x_C} {ms : x_S} {tl : List x_C} {bb : Nat × Nat} {n w h d : Nat} {Q : x_O → x_H → Prop} {cb : Nat → Nat} {vb : Nat → Option Nat}
theorem setG_o {ms : x_S} {g : Nat → Int32} {c s : Nat} (hC : cM ms n cb) (hn : n ≤ 9) (hc : c < n * n) (hg : ∀ e, e < 81 → g e = nI (setG cb n w h c s e)) : ∀ e, e < 81 → g e = nI (setG cb n w h c s e) ∧ setG cb n w h c s e < 512 := by
  intro e he
  refine ⟨hg e he, ?_⟩
  have h5 : ∀ k, k < n * n → cb k < 512 := fun k hk => Nat.lt_of_lt_of_le (hC k hk).2 (Nat.pow_le_pow_right (by omega) hn)
  unfold setG setGk
  split
  · exact Nat.lt_of_le_of_lt (clr_le _ _) (h5 c hc)
  · split
    · rename_i h9
      exact Nat.lt_of_le_of_lt Nat.and_le_left (h5 e h9.1)
    · decide
theorem r_last (hG : gM ms n w h) (hC : cM ms n cb) (hV : vM ms n vb) (hZ : clM ms) (hT : ∀ ms' r, scr ms ms' → lastS cb vb n w h = some r → resM ms' n r → Q (.inl (some (.int (bI true)))) (w_M f ms' tl bb)) (hF : lastS cb vb n w h = none → Q (.inl (some (.int (bI false)))) (w_M f ms tl bb)) : x_run sc x_MM x_EX (d + 4) k_X8_last [.ref 26] (w_M f ms tl bb) Q := by
  obtain ⟨g1, g2, g3, g4, g5, g6, g7, g8⟩ := hG.2.2.2.le
  refine x_in (M := m_X8_last) rfl rfl (Nat.le_of_ble_eq_true rfl) ⟨rfl, trivial⟩ ?_
  intro P hP
  have loop : ∀ j k, k + j = n * n → lastS cb vb n w h = ff (lastE cb vb n w h) j k → P 2 [some (.ref 26), some (.int (nI k))] [] (w_M f ms tl bb) := by
    intro j
    induction j with
    | zero =>
      intro k hk hf
      have hk : k = n * n := hk
      subst hk
      iterate 2 refine hP _ _ _ _ ?_
      refine hP _ _ _ _ (r_cells hG ?_)
      refine hP _ _ _ _ (And.intro (fun _ => ?_) (fun h => absurd (nI_le (Nat.le_refl _) (by omega)) h))
      refine hP _ _ _ _ ?_
      exact hP _ _ _ _ (And.intro rfl (hF hf))
    | succ j ih =>
      intro k hk hf
      have hk9 : k < n * n := by omega
      have hcl : (nI k).toNatClampNeg = k := nI_clamp (by omega)
      have hin : vp_in (nI k) 81 := vp_in_nI (by omega) (by omega)
      have h29 : cb k < 512 := Nat.lt_of_lt_of_le (hC k hk9).2 (Nat.pow_le_pow_right (by omega) g2)
      have hcb : ms.2 27 (nI k).toNatClampNeg = nI (cb k) := by rw [hcl]; exact (hC k hk9).1
      have go : lastE cb vb n w h k = none → P 57 [some (.ref 26), some (.int (nI k))] [] (w_M f ms tl bb) := by
        intro he
        refine hP _ _ _ _ ?_
        refine hP _ _ _ _ (x_p4 (P := P) (ih (k + 1) (by omega) (hf.trans (ff_n he))) ?_ rfl rfl)
        rw [nI_succ]; rfl
      iterate 2 refine hP _ _ _ _ ?_
      refine hP _ _ _ _ (r_cells hG ?_)
      refine hP _ _ _ _ (And.intro (fun h => absurd (show nI (n * n) ≤ nI k from h) (nI_ge (by omega) (by omega))) (fun _ => ?_))
      iterate 3 refine hP _ _ _ _ ?_
      refine hP _ _ _ _ (And.intro hin ?_)
      have hvn := vI_neg (o := vb k) (fun t ht => by have := (hV k hk9).2 t ht; omega)
      refine hP _ _ _ _ (And.intro (fun hv => ?_) (fun hv => ?_))
      · have hv : 0 ≤ ms.2 28 (nI k).toNatClampNeg := hv
        rw [hcl, (hV k hk9).1, hvn] at hv
        exact go (by unfold lastE; rw [if_neg (fun h => hv h.1)])
      · have hv : ¬ 0 ≤ ms.2 28 (nI k).toNatClampNeg := hv
        rw [hcl, (hV k hk9).1, hvn] at hv
        have hv : vb k = none := Decidable.of_not_not hv
        iterate 3 refine hP _ _ _ _ ?_
        refine hP _ _ _ _ (And.intro hin ?_)
        rw [hcb]
        refine hP _ _ _ _ (r_countOf h29 ?_)
        refine hP _ _ _ _ ?_
        have hpc : pcN (cb k) ≤ 9 := pcA_le _ _
        refine hP _ _ _ _ (And.intro (fun hq => ?_) (fun hq => ?_))
        · have hq : nI (pcN (cb k)) = nI 1 := hq
          rw [nI_eq (by omega) (by omega)] at hq
          have hne : cb k ≠ 0 := fun e => by rw [e, pcN_0] at hq; omega
          obtain ⟨l1, l2, l3⟩ := lowN_ok _ h29 hne
          have ln : lowN (cb k) < n := tb_lt l2 (hC k hk9).2
          iterate 4 refine hP _ _ _ _ ?_
          refine hP _ _ _ _ (And.intro hin ?_)
          iterate 5 refine hP _ _ _ _ ?_
          refine hP _ _ _ _ (And.intro hin ?_)
          rw [hcb]
          refine hP _ _ _ _ (r_lowest h29 l1 l2 l3 ?_)
          have hU : upd (ms.2 31) (nI k).toNatClampNeg (vp_nar .boolean (Int32.ofInt 1)) = upd (ms.2 31) k 1 := by rw [hcl]; rfl
          rw [hU]
          refine hP _ _ _ _ (r_sets (ms := sA ms 31 (upd (ms.2 31) k 1)) hG hC hk9 ln (fun e he => (hZ.2.2 e he).2) (fun g hg => ?_))
          have hs : lastS cb vb n w h = some (some (k, lowN (cb k)), setG cb n w h k (lowN (cb k)), fun e => e == k) := hf.trans (ff_s (by unfold lastE; rw [if_pos ⟨hv, hq⟩]))
          refine hP _ _ _ _ (And.intro rfl (hT _ _ ?_ hs ⟨⟨rfl, rfl, hk9, ln⟩, setG_o hC g2 hk9 hg, fun e he => ?_⟩))
          · exact (((scr.a (Or.inl rfl)).tr (scr.f (Or.inl rfl))).tr (scr.f (Or.inr (Or.inl rfl)))).tr (scr.a (Or.inr (Or.inl rfl)))
          · show upd (ms.2 31) k 1 e = bI (e == k)
            by_cases hek : e = k
            · subst hek
              rw [pk_us]
              simp [bI]
            · rw [pk_un hek, (hZ.2.2 e he).1]
              simp [bI, hek]
        · have hq : ¬ nI (pcN (cb k)) = nI 1 := hq
          rw [nI_eq (by omega) (by omega)] at hq
          refine hP _ _ _ _ ?_
          exact go (by unfold lastE; rw [if_neg (fun h => hq h.2)])
  iterate 2 refine hP _ _ _ _ ?_
  exact loop (n * n) 0 (by omega) rfl
theorem hsN_t {n w h g e : Nat} : hsN n w h g e = true ↔ ∃ i, i < n ∧ atN n w h g i = e := by
  unfold hsN
  simp only [List.any_eq_true, List.mem_range, beq_iff_eq]
theorem r_only (hG : gM ms n w h) (hC : cM ms n cb) (hV : vM ms n vb) (hZ : clM ms) {fr : Nat} (hfr : fr + n ≤ 3 * n) (hT : ∀ ms' r, scr ms ms' → onlyS cb vb n w h fr = some r → resM ms' n r → Q (.inl (some (.int (bI true)))) (w_M f ms' tl bb)) (hF : onlyS cb vb n w h fr = none → Q (.inl (some (.int (bI false)))) (w_M f ms tl bb)) : x_run sc x_MM x_EX (d + 4) k_X8_only [.ref 26, .int (nI fr)] (w_M f ms tl bb) Q := by
  obtain ⟨g1, g2, g3, g4, g5, g6, g7, g8⟩ := hG.2.2.2.le
  refine x_in (M := m_X8_only) rfl rfl (Nat.le_of_ble_eq_true rfl) ⟨rfl, rfl, trivial⟩ ?_
  intro P hP
  have loop : ∀ j g, g + j = fr + n → onlyS cb vb n w h fr = ff (fun g => ff (onlyE cb vb n w h g) n 0) j g → ∀ x3 x4 x5 : Option Value, P 2 [some (.ref 26), some (.int (nI fr)), some (.int (nI g)), x3, x4, x5] [] (w_M f ms tl bb) := by
    intro j
    induction j with
    | zero =>
      intro g hg hf x3 x4 x5
      have hg : g = fr + n := hg
      iterate 5 refine hP _ _ _ _ ?_
      refine hP _ _ _ _ (And.intro (fun _ => ?_) (fun h => absurd (show nI fr + ms.1 1 ≤ nI g by rw [hG.1, nI_add]; exact nI_le (by omega) (by omega)) h))
      refine hP _ _ _ _ ?_
      exact hP _ _ _ _ (And.intro rfl (hF hf))
    | succ j ih =>
      intro g hg hf x3 x4 x5
      have hg9 : g < 3 * n := by omega
      iterate 5 refine hP _ _ _ _ ?_
      refine hP _ _ _ _ (And.intro (fun h => absurd (show nI fr + ms.1 1 ≤ nI g from h) (by rw [hG.1, nI_add]; exact nI_ge (by omega) (by omega))) (fun _ => ?_))
      have loop2 : ∀ i s, s + i = n → ff (onlyE cb vb n w h g) n 0 = ff (onlyE cb vb n w h g) i s → ∀ x4 x5 : Option Value, P 14 [some (.ref 26), some (.int (nI fr)), some (.int (nI g)), some (.int (nI s)), x4, x5] [] (w_M f ms tl bb) := by
        intro i
        induction i with
        | zero =>
          intro s hs hfs x4 x5
          have hs : s = n := hs
          subst hs
          iterate 3 refine hP _ _ _ _ ?_
          refine hP _ _ _ _ (And.intro (fun _ => ?_) (fun h => absurd (show ms.1 1 ≤ nI s by rw [hG.1]; exact nI_le (Nat.le_refl _) (by omega)) h))
          refine hP _ _ _ _ ?_
          refine hP _ _ _ _ (x_p4 (P := P) (ih (g + 1) (by omega) (hf.trans (ff_n hfs)) (some (.int (nI s))) x4 x5) ?_ rfl rfl)
          rw [nI_succ]; rfl
        | succ i ih2 =>
          intro s hs hfs x4 x5
          have hs9 : s < n := by omega
          have hpl := plB_lt cb n w h g s n
          have h29 : plB cb n w h g s n < 512 := Nat.lt_of_lt_of_le hpl (Nat.pow_le_pow_right (by omega) g2)
          have go : onlyE cb vb n w h g s = none → ∀ x5 : Option Value, P 107 [some (.ref 26), some (.int (nI fr)), some (.int (nI g)), some (.int (nI s)), some (.int (nI (plB cb n w h g s n))), x5] [] (w_M f ms tl bb) := by
            intro he x5
            refine hP _ _ _ _ ?_
            refine hP _ _ _ _ (x_p4 (P := P) (ih2 (s + 1) (by omega) (hfs.trans (ff_n he)) (some (.int (nI (plB cb n w h g s n)))) x5) ?_ rfl rfl)
            rw [nI_succ]; rfl
          iterate 3 refine hP _ _ _ _ ?_
          refine hP _ _ _ _ (And.intro (fun h => absurd (show ms.1 1 ≤ nI s from h) (by rw [hG.1]; exact nI_ge (by omega) (by omega))) (fun _ => ?_))
          iterate 3 refine hP _ _ _ _ ?_
          refine hP _ _ _ _ (r_places hG hC hg9 hs9 ?_)
          iterate 2 refine hP _ _ _ _ ?_
          refine hP _ _ _ _ (r_countOf h29 ?_)
          refine hP _ _ _ _ ?_
          have hpc : pcN (plB cb n w h g s n) ≤ 9 := pcA_le _ _
          refine hP _ _ _ _ (And.intro (fun hq => ?_) (fun hq => ?_))
          · have hq : ¬ nI (pcN (plB cb n w h g s n)) = nI 1 := hq
            rw [nI_eq (by omega) (by omega)] at hq
            exact go (by unfold onlyE; rw [if_neg (fun h => hq h.1)]) x5
          · have hq : nI (pcN (plB cb n w h g s n)) = nI 1 := Decidable.of_not_not hq
            rw [nI_eq (by omega) (by omega)] at hq
            have hne : plB cb n w h g s n ≠ 0 := fun e => by rw [e, pcN_0] at hq; omega
            obtain ⟨l1, l2, l3⟩ := lowN_ok _ h29 hne
            have ln : lowN (plB cb n w h g s n) < n := tb_lt l2 hpl
            have hat := atN_lt (w := w) (h := h) hG.2.2.2 hg9 ln
            have hcl : (nI (atN n w h g (lowN (plB cb n w h g s n)))).toNatClampNeg = atN n w h g (lowN (plB cb n w h g s n)) := nI_clamp (by omega)
            iterate 5 refine hP _ _ _ _ ?_
            refine hP _ _ _ _ (r_lowest h29 l1 l2 l3 ?_)
            refine hP _ _ _ _ (r_at hG hg9 ln ?_)
            refine hP _ _ _ _ (And.intro (vp_in_nI (by omega) (by omega)) ?_)
            have hvn := vI_neg (o := vb (atN n w h g (lowN (plB cb n w h g s n)))) (fun t ht => by have := (hV _ hat).2 t ht; omega)
            have h0 : (0 ≤ ms.2 28 (nI (atN n w h g (lowN (plB cb n w h g s n)))).toNatClampNeg) ↔ vb (atN n w h g (lowN (plB cb n w h g s n))) ≠ none := by rw [hcl, (hV _ hat).1]; exact hvn
            have hlt0 : ∀ x : Int32, x < 0 ↔ ¬ 0 ≤ x := fun x => by rw [Int32.not_le]
            refine hP _ _ _ _ (And.intro (fun hv => ?_) (fun hv => ?_))
            · have hv : ms.2 28 (nI (atN n w h g (lowN (plB cb n w h g s n)))).toNatClampNeg < 0 := hv
              rw [hlt0, h0] at hv
              have hv : vb (atN n w h g (lowN (plB cb n w h g s n))) = none := Decidable.of_not_not hv
              have hs : onlyS cb vb n w h fr = some (some (atN n w h g (lowN (plB cb n w h g s n)), s), setG cb n w h (atN n w h g (lowN (plB cb n w h g s n))) s, hsN n w h g) := hf.trans (ff_s (hfs.trans (ff_s (by unfold onlyE; rw [if_pos ⟨hq, hv⟩]))))
              have loop3 : ∀ j2 k2 (m2 : Nat → Int32), k2 + j2 = n → (∀ e, e < 81 → m2 e = bI (decide (∃ i, i < k2 ∧ atN n w h g i = e))) → P 63 [some (.ref 26), some (.int (nI fr)), some (.int (nI g)), some (.int (nI s)), some (.int (nI (plB cb n w h g s n))), some (.int (nI k2))] [] (w_M f (sA ms 31 m2) tl bb) := by
                intro j2
                induction j2 with
                | zero =>
                  intro k2 m2 hk2 hm2
                  have hk2 : k2 = n := hk2
                  subst hk2
                  iterate 3 refine hP _ _ _ _ ?_
                  refine hP _ _ _ _ (And.intro (fun _ => ?_) (fun h => absurd (show ms.1 1 ≤ nI k2 by rw [hG.1]; exact nI_le (Nat.le_refl _) (by omega)) h))
                  iterate 4 refine hP _ _ _ _ ?_
                  refine hP _ _ _ _ (r_lowest h29 l1 l2 l3 ?_)
                  refine hP _ _ _ _ (r_at (ms := sA ms 31 m2) hG hg9 ln ?_)
                  refine hP _ _ _ _ ?_
                  refine hP _ _ _ _ (r_sets (ms := sA ms 31 m2) hG hC hat hs9 (fun e he => (hZ.2.2 e he).2) (fun gg hgg => ?_))
                  refine hP _ _ _ _ (And.intro rfl (hT _ _ ?_ hs ⟨⟨rfl, rfl, hat, hs9⟩, setG_o hC g2 hat hgg, fun e he => ?_⟩))
                  · exact (((scr.a (Or.inl rfl)).tr (scr.f (Or.inl rfl))).tr (scr.f (Or.inr (Or.inl rfl)))).tr (scr.a (Or.inr (Or.inl rfl)))
                  · show m2 e = bI (hsN k2 w h g e)
                    rw [hm2 e he]
                    congr 1
                    rw [Bool.eq_iff_iff, decide_eq_true_eq, hsN_t]
                | succ j2 ih3 =>
                  intro k2 m2 hk2 hm2
                  have hat2 := atN_lt (w := w) (h := h) hG.2.2.2 hg9 (show k2 < n by omega)
                  have hcl2 : (nI (atN n w h g k2)).toNatClampNeg = atN n w h g k2 := nI_clamp (by omega)
                  iterate 3 refine hP _ _ _ _ ?_
                  refine hP _ _ _ _ (And.intro (fun h => absurd (show ms.1 1 ≤ nI k2 from h) (by rw [hG.1]; exact nI_ge (by omega) (by omega))) (fun _ => ?_))
                  iterate 5 refine hP _ _ _ _ ?_
                  refine hP _ _ _ _ (r_at (ms := sA ms 31 m2) hG hg9 (by omega) ?_)
                  refine hP _ _ _ _ ?_
                  refine hP _ _ _ _ (And.intro (vp_in_nI (by omega) (by omega)) ?_)
                  refine hP _ _ _ _ ?_
                  refine hP _ _ _ _ (x_p4 (P := P) (ih3 (k2 + 1) (upd m2 (nI (atN n w h g k2)).toNatClampNeg (vp_nar .boolean (Int32.ofInt 1))) (by omega) ?_) ?_ rfl rfl)
                  · intro e he
                    rw [hcl2]
                    by_cases hea : e = atN n w h g k2
                    · subst hea
                      rw [pk_us, decide_eq_true ⟨k2, by omega, rfl⟩]
                      rfl
                    · rw [pk_un hea, hm2 e he]
                      congr 2
                      apply propext
                      constructor
                      · rintro ⟨i9, h8, h9⟩
                        exact ⟨i9, by omega, h9⟩
                      · rintro ⟨i9, h8, h9⟩
                        refine ⟨i9, ?_, h9⟩
                        by_cases hik : i9 = k2
                        · rw [hik] at h9; exact absurd h9.symm hea
                        · omega
                  · rw [nI_succ]; rfl
              refine hP _ _ _ _ ?_
              refine hP _ _ _ _ (x_p4 (P := P) (loop3 n 0 (ms.2 31) (by omega) ?_) rfl rfl ?_)
              · intro e he
                rw [(hZ.2.2 e he).1, decide_eq_false (by rintro ⟨i9, h8, -⟩; omega)]
                rfl
              · rfl
            · have hv : ¬ ms.2 28 (nI (atN n w h g (lowN (plB cb n w h g s n)))).toNatClampNeg < 0 := hv
              rw [hlt0, h0, Decidable.not_not] at hv
              refine hP _ _ _ _ ?_
              exact go (by unfold onlyE; rw [if_neg (fun h => hv h.2)]) x5
      iterate 2 refine hP _ _ _ _ ?_
      exact loop2 n 0 (by omega) rfl x4 x5
  iterate 2 refine hP _ _ _ _ ?_
  exact loop n fr rfl rfl none none none
end S2
end
section
/-! ===== the model: steps 4 and 5 ===== -/
/-- the places of s among the first k cells of house g all lie in house q -/
def comB (cb : Nat → Nat) (n w h g s q k : Nat) : Bool := (List.range k).all fun i => !(cb (atN n w h g i)).testBit s || inN n w h q (atN n w h g i)
theorem comB_s (cb : Nat → Nat) (n w h g s q k : Nat) : comB cb n w h g s q (k + 1) = (comB cb n w h g s q k && (!(cb (atN n w h g k)).testBit s || inN n w h q (atN n w h g k))) := by
  unfold comB
  rw [List.range_succ, List.all_append]
  simp
def comS (cb : Nat → Nat) (n w h g s kd : Nat) : Option Nat := ff (fun q => if comB cb n w h g s q n then some q else none) n (kd * n)
def crG (cb : Nat → Nat) (n w h g q s k : Nat) : Nat → Nat := fun e => if ((List.range k).any fun i => atN n w h q i == e) && !inN n w h g e then cb e &&& 2 ^ s else 0
def crR (cb : Nat → Nat) (n w h g s k : Nat) : Nat → Bool := fun e => ((List.range k).any fun i => atN n w h g i == e) && (cb e).testBit s
theorem any_s (p : Nat → Bool) (k : Nat) : (List.range (k + 1)).any p = ((List.range k).any p || p k) := by
  rw [List.range_succ, List.any_append]
  simp
/-- does something go -/
def anyG (go : Nat → Nat) : Bool := (List.range 81).any fun c => go c != 0
def crE (cb : Nat → Nat) (n w h g q s : Nat) : Option rS := if anyG (crG cb n w h g q s n) then some (none, crG cb n w h g q s n, crR cb n w h g s n) else none
def comP (cb : Nat → Nat) (n w h g s : Nat) : Option Nat := match comS cb n w h g s 0 with
  | some q => some q
  | none => comS cb n w h g s 1
def poE (cb : Nat → Nat) (n w h g s : Nat) : Option rS := if pcN (plB cb n w h g s n) < 2 then none else match comP cb n w h g s with
  | some q => crE cb n w h g q s
  | none => none
def poS (cb : Nat → Nat) (n w h : Nat) : Option rS := ff (fun g => ff (poE cb n w h g) n 0) n (2 * n)
def claE (cb : Nat → Nat) (n w h g s : Nat) : Option rS := if pcN (plB cb n w h g s n) < 2 then none else match comS cb n w h g s 2 with
  | some q => crE cb n w h g q s
  | none => none
def claS (cb : Nat → Nat) (n w h : Nat) : Option rS := ff (fun g => ff (claE cb n w h g) n 0) (2 * n) 0
theorem ff_lt {R : Type} {ev : Nat → Option R} : ∀ {j i : Nat} {r : R}, ff ev j i = some r → ∃ k, i ≤ k ∧ k < i + j ∧ ev k = some r
  | 0, _, _, h => by cases h
  | j + 1, i, r, h => by
    cases he : ev i with
    | some r2 => rw [ff_s he] at h; cases h; exact ⟨i, Nat.le_refl _, by omega, he⟩
    | none =>
      rw [ff_n he] at h
      obtain ⟨k, h1, h2, h3⟩ := ff_lt h
      exact ⟨k, by omega, by omega, h3⟩
theorem comS_lt {cb : Nat → Nat} {n w h g s kd q : Nat} (hq : comS cb n w h g s kd = some q) : kd * n ≤ q ∧ q < kd * n + n := by
  obtain ⟨k, h1, h2, h3⟩ := ff_lt hq
  have h4 : q = k := by
    by_cases hc : comB cb n w h g s k n = true
    · simp only [hc, if_true] at h3; exact (Option.some.inj h3).symm
    · simp only [hc, if_false] at h3; cases h3
  omega
section S3
variable {sc : Nat × (Nat → Int32)} {f : Nat → x_C} {ms : x_S} {tl : List x_C} {bb : Nat × Nat} {n w h d : Nat} {Q : x_O → x_H → Prop} {cb : Nat → Nat} {vb : Nat → Option Nat}
theorem r_isIn (hG : gM ms n w h) {g c : Nat} (hg : g < 3 * n) (hc : c < n * n) (hQ : Q (.inl (some (.int (bI (inN n w h g c))))) (w_M f ms tl bb)) : x_run sc x_MM x_EX (d + 2) k_X8_isIn [.ref 26, .int (nI g), .int (nI c)] (w_M f ms tl bb) Q := by
  have hG0 := hG
  obtain ⟨h1, h2, h3, hk⟩ := hG
  obtain ⟨g1, g2, g3, g4, g5, g6, g7, g8⟩ := hk.le
  have e1 : ¬ ms.1 1 = 0 := by rw [h1]; exact nI_ne0 (by omega) (by omega)
  have hbx := boxN_lt hk hc
  have dc := Nat.div_le_self c n
  have mc := Nat.mod_le c n
  have ed : nI c / ms.1 1 = nI (c / n) := by rw [h1, pk_div (by omega) (by omega) (by omega)]
  have er : nI c - nI c / ms.1 1 * ms.1 1 = nI (c % n) := by rw [h1, pk_rem (by omega) (by omega) (by omega)]
  have e2n : Int32.ofInt 2 * ms.1 1 = nI (2 * n) := by rw [oi2, h1, pk_mul]
  refine x_in (M := m_X8_isIn) rfl rfl (Nat.le_of_ble_eq_true rfl) ⟨rfl, rfl, rfl, trivial⟩ ?_
  intro P hP
  have yes : inN n w h g c = true → ∀ x : Int32, x = bI true → P 80 [some (.ref 26), some (.int (nI g)), some (.int (nI c))] [.int x] (w_M f ms tl bb) := by
    intro hy x hx
    subst hx
    rw [hy] at hQ
    exact hP _ _ _ _ (And.intro rfl hQ)
  have no : inN n w h g c = false → ∀ x : Int32, x = bI false → P 80 [some (.ref 26), some (.int (nI g)), some (.int (nI c))] [.int x] (w_M f ms tl bb) := by
    intro hy x hx
    subst hx
    rw [hy] at hQ
    exact hP _ _ _ _ (And.intro rfl hQ)
  iterate 3 refine hP _ _ _ _ ?_
  refine hP _ _ _ _ (And.intro (fun hq => ?_) (fun hq => ?_))
  · have hq : ms.1 1 ≤ nI g := hq
    rw [h1, nI_leI (by omega) (by omega)] at hq
    iterate 5 refine hP _ _ _ _ ?_
    refine hP _ _ _ _ (And.intro (fun hr => ?_) (fun hr => ?_))
    · have hr : Int32.ofInt 2 * ms.1 1 ≤ nI g := hr
      rw [e2n, nI_leI (by omega) (by omega)] at hr
      iterate 2 refine hP _ _ _ _ ?_
      refine hP _ _ _ _ (r_boxOf hG0 (by omega) ?_)
      iterate 6 refine hP _ _ _ _ ?_
      have ex : nI g - Int32.ofInt 2 * ms.1 1 = nI (g - 2 * n) := by rw [e2n, pk_sub (by omega)]
      refine hP _ _ _ _ (And.intro (fun hx => ?_) (fun hx => ?_))
      · have hx : ¬ nI (boxN n w h c) = nI g - Int32.ofInt 2 * ms.1 1 := hx
        rw [ex, nI_eq (by omega) (by omega)] at hx
        refine hP _ _ _ _ (no ?_ _ rfl)
        unfold inN
        rw [if_neg (by omega), if_neg (by omega)]
        simp [hx]
      · have hx : nI (boxN n w h c) = nI g - Int32.ofInt 2 * ms.1 1 := Decidable.of_not_not hx
        rw [ex, nI_eq (by omega) (by omega)] at hx
        refine hP _ _ _ _ ?_
        refine hP _ _ _ _ (yes ?_ _ rfl)
        unfold inN
        rw [if_neg (by omega), if_neg (by omega)]
        simp [hx]
    · have hr : ¬ Int32.ofInt 2 * ms.1 1 ≤ nI g := hr
      rw [e2n, nI_leI (by omega) (by omega)] at hr
      iterate 3 refine hP _ _ _ _ ?_
      refine hP _ _ _ _ (And.intro e1 ?_)
      iterate 4 refine hP _ _ _ _ ?_
      have ex : nI g - ms.1 1 = nI (g - n) := by rw [h1, pk_sub (by omega)]
      refine hP _ _ _ _ (And.intro (fun hx => ?_) (fun hx => ?_))
      · have hx : ¬ nI c - nI c / ms.1 1 * ms.1 1 = nI g - ms.1 1 := hx
        rw [er, ex, nI_eq (by omega) (by omega)] at hx
        refine hP _ _ _ _ ?_
        refine hP _ _ _ _ (no ?_ _ rfl)
        unfold inN
        rw [if_neg (by omega), if_pos (by omega)]
        simp [hx]
      · have hx : nI c - nI c / ms.1 1 * ms.1 1 = nI g - ms.1 1 := Decidable.of_not_not hx
        rw [er, ex, nI_eq (by omega) (by omega)] at hx
        refine hP _ _ _ _ ?_
        refine hP _ _ _ _ (yes ?_ _ rfl)
        unfold inN
        rw [if_neg (by omega), if_pos (by omega)]
        simp [hx]
  · have hq : ¬ ms.1 1 ≤ nI g := hq
    rw [h1, nI_leI (by omega) (by omega)] at hq
    iterate 3 refine hP _ _ _ _ ?_
    refine hP _ _ _ _ (And.intro e1 ?_)
    refine hP _ _ _ _ ?_
    refine hP _ _ _ _ (And.intro (fun hx => ?_) (fun hx => ?_))
    · have hx : ¬ nI c / ms.1 1 = nI g := hx
      rw [ed, nI_eq (by omega) (by omega)] at hx
      refine hP _ _ _ _ ?_
      refine hP _ _ _ _ (no ?_ _ rfl)
      unfold inN
      rw [if_pos (by omega)]
      simp [hx]
    · have hx : nI c / ms.1 1 = nI g := Decidable.of_not_not hx
      rw [ed, nI_eq (by omega) (by omega)] at hx
      refine hP _ _ _ _ ?_
      refine hP _ _ _ _ (yes ?_ _ rfl)
      unfold inN
      rw [if_pos (by omega)]
      simp [hx]
theorem r_common (hG : gM ms n w h) (hC : cM ms n cb) {g s kd : Nat} (hg : g < 3 * n) (hs : s < n) (hkd : kd < 3) (hT : ∀ q, comS cb n w h g s kd = some q → Q (.inl (some (.int (nI q)))) (w_M f ms tl bb)) (hF : comS cb n w h g s kd = none → Q (.inl (some (.int (-1)))) (w_M f ms tl bb)) : x_run sc x_MM x_EX (d + 3) k_X8_common [.ref 26, .int (nI g), .int (nI s), .int (nI kd)] (w_M f ms tl bb) Q := by
  obtain ⟨g1, g2, g3, g4, g5, g6, g7, g8⟩ := hG.2.2.2.le
  have hk3 : kd * n + n ≤ 3 * n := by
    have : (kd + 1) * n ≤ 3 * n := Nat.mul_le_mul_right n (by omega)
    rw [Nat.succ_mul] at this
    exact this
  have ekd : nI kd * ms.1 1 = nI (kd * n) := by rw [hG.1, pk_mul]
  have ekn : nI kd * ms.1 1 + ms.1 1 = nI (kd * n + n) := by rw [ekd, hG.1, nI_add]
  refine x_in (M := m_X8_common) rfl rfl (Nat.le_of_ble_eq_true rfl) ⟨rfl, rfl, rfl, rfl, trivial⟩ ?_
  intro P hP
  have loop : ∀ j q, q + j = kd * n + n → comS cb n w h g s kd = ff (fun q => if comB cb n w h g s q n then some q else none) j q → ∀ x5 x6 : Option Value, P 8 [some (.ref 26), some (.int (nI g)), some (.int (nI s)), some (.int (nI kd)), some (.int (nI q)), x5, x6] [] (w_M f ms tl bb) := by
    intro j
    induction j with
    | zero =>
      intro q hq hf x5 x6
      have hq : q = kd * n + n := hq
      iterate 8 refine hP _ _ _ _ ?_
      refine hP _ _ _ _ (And.intro (fun _ => ?_) (fun h => absurd (show nI kd * ms.1 1 + ms.1 1 ≤ nI q by rw [ekn]; exact nI_le (by omega) (by omega)) h))
      refine hP _ _ _ _ ?_
      exact hP _ _ _ _ (hF hf)
    | succ j ih =>
      intro q hq hf x5 x6
      have hq9 : q < 3 * n := by omega
      iterate 8 refine hP _ _ _ _ ?_
      refine hP _ _ _ _ (And.intro (fun h => absurd (show nI kd * ms.1 1 + ms.1 1 ≤ nI q from h) (by rw [ekn]; exact nI_ge (by omega) (by omega))) (fun _ => ?_))
      have loop2 : ∀ i k, k + i = n → P 30 [some (.ref 26), some (.int (nI g)), some (.int (nI s)), some (.int (nI kd)), some (.int (nI q)), some (.int (bI (comB cb n w h g s q k))), some (.int (nI k))] [] (w_M f ms tl bb) := by
        intro i
        induction i with
        | zero =>
          intro k hk
          have hk : k = n := hk
          subst hk
          iterate 3 refine hP _ _ _ _ ?_
          refine hP _ _ _ _ (And.intro (fun _ => ?_) (fun h => absurd (show ms.1 1 ≤ nI k by rw [hG.1]; exact nI_le (Nat.le_refl _) (by omega)) h))
          refine hP _ _ _ _ ?_
          refine hP _ _ _ _ (And.intro (fun hz => ?_) (fun hz => ?_))
          · have hz : comB cb k w h g s q k = false := bI_t.mp hz
            refine hP _ _ _ _ ?_
            refine hP _ _ _ _ (x_p4 (P := P) (ih (q + 1) (by omega) (hf.trans (ff_n (by simp [hz]))) (some (.int (bI (comB cb k w h g s q k)))) (some (.int (nI k)))) ?_ rfl rfl)
            rw [nI_succ]; rfl
          · have hz : comB cb k w h g s q k = true := bI_n0 hz
            refine hP _ _ _ _ ?_
            exact hP _ _ _ _ (hT q (hf.trans (ff_s (by simp [hz]))))
        | succ i ih2 =>
          intro k hk
          have hat := atN_lt (w := w) (h := h) hG.2.2.2 hg (show k < n by omega)
          have h29 : cb (atN n w h g k) < 512 := Nat.lt_of_lt_of_le (hC _ hat).2 (Nat.pow_le_pow_right (by omega) g2)
          have fin : ∀ (b : Bool) (x : Int32), x = bI b → comB cb n w h g s q (k + 1) = b → P 80 [some (.ref 26), some (.int (nI g)), some (.int (nI s)), some (.int (nI kd)), some (.int (nI q)), some (.int (bI (comB cb n w h g s q k))), some (.int (nI k))] [.int x] (w_M f ms tl bb) := by
            intro b x hx hb
            subst hx
            iterate 2 refine hP _ _ _ _ ?_
            refine hP _ _ _ _ (x_p4 (P := P) (ih2 (k + 1) (by omega)) ?_ rfl rfl)
            rw [nI_succ, hb]; rfl
          iterate 3 refine hP _ _ _ _ ?_
          refine hP _ _ _ _ (And.intro (fun h => absurd (show ms.1 1 ≤ nI k from h) (by rw [hG.1]; exact nI_ge (by omega) (by omega))) (fun _ => ?_))
          refine hP _ _ _ _ ?_
          refine hP _ _ _ _ (And.intro (fun hz => ?_) (fun hz => ?_))
          · have hz : comB cb n w h g s q k = false := bI_t.mp hz
            refine hP _ _ _ _ ?_
            exact fin false _ rfl (by rw [comB_s, hz]; rfl)
          · have hz : comB cb n w h g s q k = true := bI_n0 hz
            iterate 4 refine hP _ _ _ _ ?_
            refine hP _ _ _ _ (r_at hG hg (by omega) ?_)
            refine hP _ _ _ _ ?_
            refine hP _ _ _ _ (r_has (b := cb (atN n w h g k)) (by omega) (by omega) (hC _ hat).1 h29 ?_)
            refine hP _ _ _ _ (And.intro (fun hb => ?_) (fun hb => ?_))
            · have hb : (cb (atN n w h g k)).testBit s = false := bI_t.mp hb
              iterate 2 refine hP _ _ _ _ ?_
              exact fin true _ rfl (by rw [comB_s, hz, hb]; rfl)
            · have hb : (cb (atN n w h g k)).testBit s = true := bI_n0 hb
              iterate 5 refine hP _ _ _ _ ?_
              refine hP _ _ _ _ (r_at hG hg (by omega) ?_)
              refine hP _ _ _ _ (r_isIn hG hq9 hat ?_)
              refine hP _ _ _ _ (And.intro (fun hy => ?_) (fun hy => ?_))
              · have hy : inN n w h q (atN n w h g k) = false := bI_t.mp hy
                refine hP _ _ _ _ ?_
                exact fin false _ rfl (by rw [comB_s, hz, hb, hy]; rfl)
              · have hy : inN n w h q (atN n w h g k) = true := bI_n0 hy
                iterate 2 refine hP _ _ _ _ ?_
                exact fin true _ rfl (by rw [comB_s, hz, hb, hy]; rfl)
      iterate 4 refine hP _ _ _ _ ?_
      exact loop2 n 0 (by omega)
  iterate 4 refine hP _ _ _ _ ?_
  refine hP _ _ _ _ (x_p4 (P := P) (loop n (kd * n) (by omega) rfl none none) ?_ rfl rfl)
  rw [← ekd]
  rfl
end S3
end
section
/-! ===== the model: crosses, pointing, claiming ===== -/
theorem anyG_t {go : Nat → Nat} : anyG go = true ↔ ∃ c, c < 81 ∧ go c ≠ 0 := by
  unfold anyG
  simp only [List.any_eq_true, List.mem_range, bne_iff_ne, ne_eq]
section S4
variable {sc : Nat × (Nat → Int32)} {f : Nat → x_C} {ms : x_S} {tl : List x_C} {bb : Nat × Nat} {n w h d : Nat} {Q : x_O → x_H → Prop} {cb : Nat → Nat} {vb : Nat → Option Nat}
/-- takes() over what goes -/
theorem r_takesN {go : Nat → Nat} (hO : oM ms go) (hQ : Q (.inl (some (.int (bI (anyG go))))) (w_M f ms tl bb)) : x_run sc x_MM x_EX (d + 1) k_X8_takes [.ref 26] (w_M f ms tl bb) Q := by
  refine r_takes (fun hx => ?_) (fun hx => ?_)
  · obtain ⟨c, hc, hne⟩ := hx
    have h1 : anyG go = true := anyG_t.mpr ⟨c, hc, fun e => hne (by rw [(hO c hc).1, e]; rfl)⟩
    rw [h1] at hQ
    exact hQ
  · have h1 : anyG go = false := by
      cases h2 : anyG go with
      | false => rfl
      | true =>
        obtain ⟨c, hc, hne⟩ := anyG_t.mp h2
        have h3 := hx c hc
        rw [(hO c hc).1, z0, nI_eq (by have := (hO c hc).2; omega) (by omega)] at h3
        exact absurd h3 hne
    rw [h1] at hQ
    exact hQ
/-- leaves() over what goes: bits as a number -/
theorem r_leavesN {go : Nat → Nat} (hC : cM ms n cb) (hn : n ≤ 9) (hO : oM ms go) {c m : Nat} (hc : c < n * n) (hc9 : c < 81) {x : Int32} (hx : x = nI m) (hQ : ∀ g : Nat → Int32, oM (sA ms 32 g) (fun e => if e = c then go c ||| (cb c &&& m) else go e) → Q (.inl none) (w_M f (sA ms 32 g) tl bb)) : x_run sc x_MM x_EX (d + 1) k_X8_leaves [.ref 26, .int (nI c), .int x] (w_M f ms tl bb) Q := by
  subst hx
  refine r_leaves hc9 (hQ _ ?_)
  intro e he
  show upd (ms.2 32) c (ms.2 32 c ||| (ms.2 27 c &&& nI m)) e = _ ∧ _
  by_cases hec : e = c
  · subst hec
    rw [pk_us, (hO e he).1, (hC e hc).1, nx_and, nx_or]
    simp only [if_true]
    refine ⟨trivial, Nat.or_lt_two_pow (n := 9) (hO e he).2 (Nat.lt_of_le_of_lt Nat.and_le_left (Nat.lt_of_lt_of_le (hC e hc).2 (Nat.pow_le_pow_right (by omega) hn)))⟩
  · rw [pk_un hec]
    simp only [hec, if_false]
    exact hO e he
theorem oM_congr {ms : x_S} {g1 g2 : Nat → Nat} (h : oM ms g1) (e : ∀ c, c < 81 → g1 c = g2 c) : oM ms g2 := fun c hc => by rw [← e c hc]; exact h c hc
theorem r_crosses (hG : gM ms n w h) (hC : cM ms n cb) {g q s : Nat} (hg : g < 3 * n) (hq : q < 3 * n) (hs : s < n) (hT : ∀ ms' r, scr ms ms' → crE cb n w h g q s = some r → resM ms' n r → Q (.inl (some (.int (bI true)))) (w_M f ms' tl bb)) (hF : ∀ ms', scr ms ms' → crE cb n w h g q s = none → Q (.inl (some (.int (bI false)))) (w_M f ms' tl bb)) : x_run sc x_MM x_EX (d + 3) k_X8_crosses [.ref 26, .int (nI g), .int (nI q), .int (nI s)] (w_M f ms tl bb) Q := by
  obtain ⟨g1, g2, g3, g4, g5, g6, g7, g8⟩ := hG.2.2.2.le
  have hsh : Int32.ofInt 1 <<< (nI s &&& 31) = nI (2 ^ s) := by
    rw [oi1, nI_shl (by omega), Nat.one_mul]
    have : 2 ^ s ≤ 2 ^ 9 := Nat.pow_le_pow_right (by omega) (by omega)
    omega
  refine x_in (M := m_X8_crosses) rfl rfl (Nat.le_of_ble_eq_true rfl) ⟨rfl, rfl, rfl, rfl, trivial⟩ ?_
  intro P hP
  have loop : ∀ j k (m2 : x_S), k + j = n → scr ms m2 → m2.1 11 = -1 → m2.1 12 = -1 → oM m2 (crG cb n w h g q s k) → rM m2 (crR cb n w h g s k) → P 7 [some (.ref 26), some (.int (nI g)), some (.int (nI q)), some (.int (nI s)), some (.int (nI k))] [] (w_M f m2 tl bb) := by
    intro j
    induction j with
    | zero =>
      intro k m2 hk hm h11 h12 hO hR
      have hk : k = n := hk
      subst hk
      have hG2 := hm.g hG
      iterate 3 refine hP _ _ _ _ ?_
      refine hP _ _ _ _ (And.intro (fun _ => ?_) (fun h => absurd (show m2.1 1 ≤ nI k by rw [hG2.1]; exact nI_le (Nat.le_refl _) (by omega)) h))
      refine hP _ _ _ _ ?_
      refine hP _ _ _ _ (r_takesN hO ?_)
      refine hP _ _ _ _ (And.intro (bI_nar _) ?_)
      cases ha : anyG (crG cb k w h g q s k) with
      | true => exact hT m2 (none, crG cb k w h g q s k, crR cb k w h g s k) hm (by unfold crE; rw [ha]; rfl) ⟨⟨h11, h12⟩, hO, hR⟩
      | false => exact hF m2 hm (by unfold crE; rw [ha]; rfl)
    | succ j ih =>
      intro k m2 hk hm h11 h12 hO hR
      have hG2 := hm.g hG
      have hC2 := hm.c hC
      have hat := atN_lt (w := w) (h := h) hG.2.2.2 hq (show k < n by omega)
      have hat2 := atN_lt (w := w) (h := h) hG.2.2.2 hg (show k < n by omega)
      have h29 : cb (atN n w h g k) < 512 := Nat.lt_of_lt_of_le (hC _ hat2).2 (Nat.pow_le_pow_right (by omega) g2)
      have next : ∀ m3 : x_S, scr ms m3 → m3.1 11 = -1 → m3.1 12 = -1 → oM m3 (crG cb n w h g q s (k + 1)) → rM m3 (crR cb n w h g s k) → P 45 [some (.ref 26), some (.int (nI g)), some (.int (nI q)), some (.int (nI s)), some (.int (nI k))] [] (w_M f m3 tl bb) := by
        intro m3 hm3 t11 t12 tO tR
        have hG3 := hm3.g hG
        have hC3 := hm3.c hC
        iterate 4 refine hP _ _ _ _ ?_
        refine hP _ _ _ _ (r_at hG3 hg (by omega) ?_)
        refine hP _ _ _ _ ?_
        refine hP _ _ _ _ (r_has (b := cb (atN n w h g k)) (by omega) (by omega) (hC3 _ hat2).1 h29 ?_)
        refine hP _ _ _ _ (And.intro (fun hb => ?_) (fun hb => ?_))
        · have hb : (cb (atN n w h g k)).testBit s = false := bI_t.mp hb
          refine hP _ _ _ _ ?_
          refine hP _ _ _ _ (x_p4 (P := P) (ih (k + 1) m3 (by omega) hm3 t11 t12 tO ?_) ?_ rfl rfl)
          · intro e he
            rw [tR e he]
            congr 1
            unfold crR
            rw [any_s]
            by_cases hea : atN n w h g k = e
            · subst hea
              rw [hb, Bool.and_false, Bool.and_false]
            · rw [beq_eq_false_iff_ne.mpr hea, Bool.or_false]
          · rw [nI_succ]; rfl
        · have hb : (cb (atN n w h g k)).testBit s = true := bI_n0 hb
          have hcl : (nI (atN n w h g k)).toNatClampNeg = atN n w h g k := nI_clamp (by omega)
          iterate 5 refine hP _ _ _ _ ?_
          refine hP _ _ _ _ (r_at hG3 hg (by omega) ?_)
          refine hP _ _ _ _ ?_
          refine hP _ _ _ _ (And.intro (vp_in_nI (by omega) (by omega)) ?_)
          refine hP _ _ _ _ ?_
          refine hP _ _ _ _ (x_p4 (P := P) (ih (k + 1) (sA m3 31 (upd (m3.2 31) (nI (atN n w h g k)).toNatClampNeg (vp_nar .boolean (Int32.ofInt 1)))) (by omega) (hm3.tr (scr.a (Or.inl rfl))) t11 t12 tO ?_) ?_ rfl rfl)
          · intro e he
            show upd (m3.2 31) (nI (atN n w h g k)).toNatClampNeg (vp_nar .boolean (Int32.ofInt 1)) e = _
            rw [hcl]
            by_cases hea : e = atN n w h g k
            · subst hea
              rw [pk_us]
              unfold crR
              rw [any_s]
              simp [hb]
              rfl
            · rw [pk_un hea, tR e he]
              congr 1
              unfold crR
              rw [any_s]
              have : (atN n w h g k == e) = false := by simp; exact fun h => hea h.symm
              rw [this, Bool.or_false]
          · rw [nI_succ]; rfl
      iterate 3 refine hP _ _ _ _ ?_
      refine hP _ _ _ _ (And.intro (fun h => absurd (show m2.1 1 ≤ nI k from h) (by rw [hG2.1]; exact nI_ge (by omega) (by omega))) (fun _ => ?_))
      iterate 5 refine hP _ _ _ _ ?_
      refine hP _ _ _ _ (r_at hG2 hq (by omega) ?_)
      refine hP _ _ _ _ (r_isIn hG2 hg hat ?_)
      refine hP _ _ _ _ (And.intro (fun hb => ?_) (fun hb => ?_))
      · have hb : inN n w h g (atN n w h q k) = true := bI_n0 hb
        refine next m2 hm h11 h12 (oM_congr hO ?_) hR
        intro e he
        unfold crG
        rw [any_s]
        by_cases hea : atN n w h q k = e
        · subst hea
          simp [hb]
        · simp [hea]
      · have hb : inN n w h g (atN n w h q k) = false := bI_t.mp (Decidable.of_not_not hb)
        iterate 4 refine hP _ _ _ _ ?_
        refine hP _ _ _ _ (r_at hG2 hq (by omega) ?_)
        iterate 3 refine hP _ _ _ _ ?_
        refine hP _ _ _ _ (r_leavesN hC2 g2 hO hat (by omega) hsh (fun gg hgg => ?_))
        refine next (sA m2 32 gg) (hm.tr (scr.a (Or.inr (Or.inl rfl)))) h11 h12 (oM_congr hgg ?_) hR
        intro e he
        by_cases hea : e = atN n w h q k
        · subst hea
          simp only [if_true]
          unfold crG
          rw [any_s]
          simp only [hb, Bool.not_false, Bool.and_true, beq_self_eq_true, Bool.or_true, if_true]
          split
          · rw [Nat.or_self]
          · rw [Nat.zero_or]
        · simp only [hea, if_false]
          unfold crG
          rw [any_s]
          have : (atN n w h q k == e) = false := by simp; exact fun h => hea h.symm
          rw [this, Bool.or_false]
  refine hP _ _ _ _ ?_
  refine hP _ _ _ _ (r_none ?_)
  refine hP _ _ _ _ ?_
  refine hP _ _ _ _ (loop n 0 (noneM ms) (by omega) (noneM_scr ms) (noneM_cl ms).1 (noneM_cl ms).2.1 ?_ ?_)
  · intro e he
    rw [((noneM_cl ms).2.2 e he).2]
    exact ⟨rfl, by unfold crG; simp⟩
  · intro e he
    rw [((noneM_cl ms).2.2 e he).1]
    rfl
theorem r_pointing (hG : gM ms n w h) (hC : cM ms n cb) (hT : ∀ ms' r, scr ms ms' → poS cb n w h = some r → resM ms' n r → Q (.inl (some (.int (bI true)))) (w_M f ms' tl bb)) (hF : ∀ ms', scr ms ms' → poS cb n w h = none → Q (.inl (some (.int (bI false)))) (w_M f ms' tl bb)) : x_run sc x_MM x_EX (d + 4) k_X8_pointing [.ref 26] (w_M f ms tl bb) Q := by
  obtain ⟨g1, g2, g3, g4, g5, g6, g7, g8⟩ := hG.2.2.2.le
  refine x_in (M := m_X8_pointing) rfl rfl (Nat.le_of_ble_eq_true rfl) ⟨rfl, trivial⟩ ?_
  intro P hP
  have loop : ∀ j g (m2 : x_S), g + j = 3 * n → 2 * n ≤ g → scr ms m2 → poS cb n w h = ff (fun g => ff (poE cb n w h g) n 0) j g → ∀ x2 x3 : Option Value, P 7 [some (.ref 26), some (.int (nI g)), x2, x3] [] (w_M f m2 tl bb) := by
    intro j
    induction j with
    | zero =>
      intro g m2 hg hg2 hm hf x2 x3
      have hg : g = 3 * n := hg
      have hG2 := hm.g hG
      iterate 5 refine hP _ _ _ _ ?_
      refine hP _ _ _ _ (And.intro (fun _ => ?_) (fun h => absurd (show Int32.ofInt 3 * m2.1 1 ≤ nI g by rw [oi3, hG2.1, pk_mul]; exact nI_le (by omega) (by omega)) h))
      refine hP _ _ _ _ ?_
      exact hP _ _ _ _ (And.intro rfl (hF m2 hm hf))
    | succ j ih =>
      intro g m2 hg hg2 hm hf x2 x3
      have hg9 : g < 3 * n := by omega
      have hG2 := hm.g hG
      iterate 5 refine hP _ _ _ _ ?_
      refine hP _ _ _ _ (And.intro (fun h => absurd (show Int32.ofInt 3 * m2.1 1 ≤ nI g from h) (by rw [oi3, hG2.1, pk_mul]; exact nI_ge (by omega) (by omega))) (fun _ => ?_))
      have loop2 : ∀ i s (m3 : x_S), s + i = n → scr ms m3 → ff (poE cb n w h g) n 0 = ff (poE cb n w h g) i s → ∀ x3 : Option Value, P 19 [some (.ref 26), some (.int (nI g)), some (.int (nI s)), x3] [] (w_M f m3 tl bb) := by
        intro i
        induction i with
        | zero =>
          intro s m3 hs hm3 hfs x3
          have hs : s = n := hs
          subst hs
          have hG3 := hm3.g hG
          iterate 3 refine hP _ _ _ _ ?_
          refine hP _ _ _ _ (And.intro (fun _ => ?_) (fun h => absurd (show m3.1 1 ≤ nI s by rw [hG3.1]; exact nI_le (Nat.le_refl _) (by omega)) h))
          refine hP _ _ _ _ ?_
          refine hP _ _ _ _ (x_p4 (P := P) (ih (g + 1) m3 (by omega) (by omega) hm3 (hf.trans (ff_n hfs)) (some (.int (nI s))) x3) ?_ rfl rfl)
          rw [nI_succ]; rfl
        | succ i ih2 =>
          intro s m3 hs hm3 hfs x3
          have hs9 : s < n := by omega
          have hG3 := hm3.g hG
          have hC3 := hm3.c hC
          have hpl := plB_lt cb n w h g s n
          have h29 : plB cb n w h g s n < 512 := Nat.lt_of_lt_of_le hpl (Nat.pow_le_pow_right (by omega) g2)
          have hpc : pcN (plB cb n w h g s n) ≤ 9 := pcA_le _ _
          have go : ∀ m4 : x_S, scr ms m4 → poE cb n w h g s = none → ∀ x3 : Option Value, P 83 [some (.ref 26), some (.int (nI g)), some (.int (nI s)), x3] [] (w_M f m4 tl bb) := by
            intro m4 hm4 he x3
            refine hP _ _ _ _ ?_
            refine hP _ _ _ _ (x_p4 (P := P) (ih2 (s + 1) m4 (by omega) hm4 (hfs.trans (ff_n he)) x3) ?_ rfl rfl)
            rw [nI_succ]; rfl
          iterate 3 refine hP _ _ _ _ ?_
          refine hP _ _ _ _ (And.intro (fun h => absurd (show m3.1 1 ≤ nI s from h) (by rw [hG3.1]; exact nI_ge (by omega) (by omega))) (fun _ => ?_))
          iterate 3 refine hP _ _ _ _ ?_
          refine hP _ _ _ _ (r_places hG3 hC3 hg9 hs9 ?_)
          refine hP _ _ _ _ (r_countOf h29 ?_)
          refine hP _ _ _ _ ?_
          refine hP _ _ _ _ (And.intro (fun hq => ?_) (fun hq => ?_))
          · have hq : nI 2 ≤ nI (pcN (plB cb n w h g s n)) := hq
            rw [nI_leI (by omega) (by omega)] at hq
            have fin : ∀ (o : Option Nat), comP cb n w h g s = o → (∀ q, o = some q → q < 3 * n) → ∀ (x : Int32), x = vI o → P 66 [some (.ref 26), some (.int (nI g)), some (.int (nI s)), x3] [.int x] (w_M f m3 tl bb) ∧ ∀ x4, P 66 [some (.ref 26), some (.int (nI g)), some (.int (nI s)), x4] [.int x] (w_M f m3 tl bb) := by
              intro o ho hlt x hx
              subst hx
              have key : ∀ x4 : Option Value, P 66 [some (.ref 26), some (.int (nI g)), some (.int (nI s)), x4] [.int (vI o)] (w_M f m3 tl bb) := by
                intro x4
                iterate 2 refine hP _ _ _ _ ?_
                cases o with
                | none =>
                  refine hP _ _ _ _ (And.intro (fun _ => ?_) (fun h => absurd (show (-1 : Int32) < 0 by decide) h))
                  exact go m3 hm3 (by unfold poE; rw [if_neg (by omega), ho]) _
                | some q =>
                  have hq3 := hlt q rfl
                  refine hP _ _ _ _ (And.intro (fun h => absurd h (nI_pos (by omega))) (fun _ => ?_))
                  iterate 4 refine hP _ _ _ _ ?_
                  refine hP _ _ _ _ (r_crosses hG3 hC3 hg9 hq3 hs9 (fun m4 r hs4 hr hres => ?_) (fun m4 hs4 hr => ?_))
                  · refine hP _ _ _ _ (And.intro (fun h => absurd (show bI true = 0 from h) (by decide)) (fun _ => ?_))
                    refine hP _ _ _ _ ?_
                    refine hP _ _ _ _ (And.intro rfl (hT m4 r (hm3.tr hs4) ?_ hres))
                    exact hf.trans (ff_s (hfs.trans (ff_s (by unfold poE; rw [if_neg (by omega), ho]; exact hr))))
                  · refine hP _ _ _ _ (And.intro (fun _ => ?_) (fun h => absurd (show bI false = 0 by decide) h))
                    exact go m4 (hm3.tr hs4) (by unfold poE; rw [if_neg (by omega), ho]; exact hr) _
              exact ⟨key x3, key⟩
            iterate 4 refine hP _ _ _ _ ?_
            refine hP _ _ _ _ (r_common hG3 hC3 hg9 hs9 (kd := 0) (by omega) (fun q hq0 => ?_) (fun hq0 => ?_))
            · have hlt := comS_lt hq0
              iterate 2 refine hP _ _ _ _ ?_
              refine hP _ _ _ _ (And.intro (fun _ => ?_) (fun h => absurd (nI_pos' (by omega)) h))
              refine hP _ _ _ _ ?_
              exact (fin (some q) (by unfold comP; rw [hq0]) (fun q9 h9 => by cases h9; omega) _ rfl).2 _
            · iterate 2 refine hP _ _ _ _ ?_
              refine hP _ _ _ _ (And.intro (fun h => absurd (show (0 : Int32) ≤ -1 from h) (by decide)) (fun _ => ?_))
              iterate 4 refine hP _ _ _ _ ?_
              refine hP _ _ _ _ (r_common hG3 hC3 hg9 hs9 (kd := 1) (by omega) (fun q hq1 => ?_) (fun hq1 => ?_))
              · have hlt := comS_lt hq1
                refine hP _ _ _ _ ?_
                exact (fin (some q) (by unfold comP; rw [hq0]; exact hq1) (fun q9 h9 => by cases h9; omega) _ rfl).2 _
              · refine hP _ _ _ _ ?_
                exact (fin none (by unfold comP; rw [hq0]; exact hq1) (fun q9 h9 => by cases h9) _ rfl).2 _
          · have hq : ¬ nI 2 ≤ nI (pcN (plB cb n w h g s n)) := hq
            rw [nI_leI (by omega) (by omega)] at hq
            refine hP _ _ _ _ ?_
            exact go m3 hm3 (by unfold poE; rw [if_pos (by omega)]) x3
      iterate 2 refine hP _ _ _ _ ?_
      exact loop2 n 0 m2 (by omega) hm rfl x3
  iterate 4 refine hP _ _ _ _ ?_
  refine hP _ _ _ _ (x_p4 (P := P) (loop n (2 * n) ms (by omega) (Nat.le_refl _) (scr.rf ms) rfl none none) ?_ rfl rfl)
  rw [show nI (2 * n) = Int32.ofInt 2 * ms.1 1 by rw [oi2, hG.1, pk_mul]]
  rfl
theorem r_claiming (hG : gM ms n w h) (hC : cM ms n cb) (hT : ∀ ms' r, scr ms ms' → claS cb n w h = some r → resM ms' n r → Q (.inl (some (.int (bI true)))) (w_M f ms' tl bb)) (hF : ∀ ms', scr ms ms' → claS cb n w h = none → Q (.inl (some (.int (bI false)))) (w_M f ms' tl bb)) : x_run sc x_MM x_EX (d + 4) k_X8_claiming [.ref 26] (w_M f ms tl bb) Q := by
  obtain ⟨g1, g2, g3, g4, g5, g6, g7, g8⟩ := hG.2.2.2.le
  refine x_in (M := m_X8_claiming) rfl rfl (Nat.le_of_ble_eq_true rfl) ⟨rfl, trivial⟩ ?_
  intro P hP
  have loop : ∀ j g (m2 : x_S), g + j = 2 * n → scr ms m2 → claS cb n w h = ff (fun g => ff (claE cb n w h g) n 0) j g → ∀ x2 x3 : Option Value, P 2 [some (.ref 26), some (.int (nI g)), x2, x3] [] (w_M f m2 tl bb) := by
    intro j
    induction j with
    | zero =>
      intro g m2 hg hm hf x2 x3
      have hg : g = 2 * n := hg
      have hG2 := hm.g hG
      iterate 5 refine hP _ _ _ _ ?_
      refine hP _ _ _ _ (And.intro (fun _ => ?_) (fun h => absurd (show Int32.ofInt 2 * m2.1 1 ≤ nI g by rw [oi2, hG2.1, pk_mul]; exact nI_le (by omega) (by omega)) h))
      refine hP _ _ _ _ ?_
      exact hP _ _ _ _ (And.intro rfl (hF m2 hm hf))
    | succ j ih =>
      intro g m2 hg hm hf x2 x3
      have hg9 : g < 3 * n := by omega
      have hG2 := hm.g hG
      iterate 5 refine hP _ _ _ _ ?_
      refine hP _ _ _ _ (And.intro (fun h => absurd (show Int32.ofInt 2 * m2.1 1 ≤ nI g from h) (by rw [oi2, hG2.1, pk_mul]; exact nI_ge (by omega) (by omega))) (fun _ => ?_))
      have loop2 : ∀ i s (m3 : x_S), s + i = n → scr ms m3 → ff (claE cb n w h g) n 0 = ff (claE cb n w h g) i s → ∀ x3 : Option Value, P 14 [some (.ref 26), some (.int (nI g)), some (.int (nI s)), x3] [] (w_M f m3 tl bb) := by
        intro i
        induction i with
        | zero =>
          intro s m3 hs hm3 hfs x3
          have hs : s = n := hs
          subst hs
          have hG3 := hm3.g hG
          iterate 3 refine hP _ _ _ _ ?_
          refine hP _ _ _ _ (And.intro (fun _ => ?_) (fun h => absurd (show m3.1 1 ≤ nI s by rw [hG3.1]; exact nI_le (Nat.le_refl _) (by omega)) h))
          refine hP _ _ _ _ ?_
          refine hP _ _ _ _ (x_p4 (P := P) (ih (g + 1) m3 (by omega) hm3 (hf.trans (ff_n hfs)) (some (.int (nI s))) x3) ?_ rfl rfl)
          rw [nI_succ]; rfl
        | succ i ih2 =>
          intro s m3 hs hm3 hfs x3
          have hs9 : s < n := by omega
          have hG3 := hm3.g hG
          have hC3 := hm3.c hC
          have hpl := plB_lt cb n w h g s n
          have h29 : plB cb n w h g s n < 512 := Nat.lt_of_lt_of_le hpl (Nat.pow_le_pow_right (by omega) g2)
          have hpc : pcN (plB cb n w h g s n) ≤ 9 := pcA_le _ _
          have go : ∀ m4 : x_S, scr ms m4 → claE cb n w h g s = none → ∀ x3 : Option Value, P 62 [some (.ref 26), some (.int (nI g)), some (.int (nI s)), x3] [] (w_M f m4 tl bb) := by
            intro m4 hm4 he x3
            refine hP _ _ _ _ ?_
            refine hP _ _ _ _ (x_p4 (P := P) (ih2 (s + 1) m4 (by omega) hm4 (hfs.trans (ff_n he)) x3) ?_ rfl rfl)
            rw [nI_succ]; rfl
          iterate 3 refine hP _ _ _ _ ?_
          refine hP _ _ _ _ (And.intro (fun h => absurd (show m3.1 1 ≤ nI s from h) (by rw [hG3.1]; exact nI_ge (by omega) (by omega))) (fun _ => ?_))
          iterate 3 refine hP _ _ _ _ ?_
          refine hP _ _ _ _ (r_places hG3 hC3 hg9 hs9 ?_)
          refine hP _ _ _ _ (r_countOf h29 ?_)
          refine hP _ _ _ _ ?_
          refine hP _ _ _ _ (And.intro (fun hq => ?_) (fun hq => ?_))
          · have hq : nI 2 ≤ nI (pcN (plB cb n w h g s n)) := hq
            rw [nI_leI (by omega) (by omega)] at hq
            iterate 4 refine hP _ _ _ _ ?_
            refine hP _ _ _ _ (r_common hG3 hC3 hg9 hs9 (kd := 2) (by omega) (fun q hq2 => ?_) (fun hq2 => ?_))
            · have hlt := comS_lt hq2
              iterate 2 refine hP _ _ _ _ ?_
              refine hP _ _ _ _ (And.intro (fun h => absurd h (nI_pos (by omega))) (fun _ => ?_))
              iterate 4 refine hP _ _ _ _ ?_
              refine hP _ _ _ _ (r_crosses hG3 hC3 hg9 (by omega) hs9 (fun m4 r hs4 hr hres => ?_) (fun m4 hs4 hr => ?_))
              · refine hP _ _ _ _ (And.intro (fun h => absurd (show bI true = 0 from h) (by decide)) (fun _ => ?_))
                refine hP _ _ _ _ ?_
                refine hP _ _ _ _ (And.intro rfl (hT m4 r (hm3.tr hs4) ?_ hres))
                exact hf.trans (ff_s (hfs.trans (ff_s (by unfold claE; rw [if_neg (by omega), hq2]; exact hr))))
              · refine hP _ _ _ _ (And.intro (fun _ => ?_) (fun h => absurd (show bI false = 0 by decide) h))
                exact go m4 (hm3.tr hs4) (by unfold claE; rw [if_neg (by omega), hq2]; exact hr) _
            · iterate 2 refine hP _ _ _ _ ?_
              refine hP _ _ _ _ (And.intro (fun _ => ?_) (fun h => absurd (show (-1 : Int32) < 0 by decide) h))
              exact go m3 hm3 (by unfold claE; rw [if_neg (by omega), hq2]) _
          · have hq : ¬ nI 2 ≤ nI (pcN (plB cb n w h g s n)) := hq
            rw [nI_leI (by omega) (by omega)] at hq
            refine hP _ _ _ _ ?_
            exact go m3 hm3 (by unfold claE; rw [if_pos (by omega)]) x3
      iterate 2 refine hP _ _ _ _ ?_
      exact loop2 n 0 m2 (by omega) hm rfl x3
  iterate 2 refine hP _ _ _ _ ?_
  exact loop (2 * n) 0 ms (by omega) (scr.rf ms) rfl none none
end S4
end
section
/-! ===== walking: branches over numbers, loops ===== -/
theorem x_lp {R : Nat → Prop} (n : Nat) (hs : ∀ k, k ≤ n → (k < n → R (k + 1)) → R k) : ∀ k, k ≤ n → R k := by
  have h : ∀ j k, k + j = n → R k := by
    intro j
    induction j with
    | zero => exact fun k hk => hs k (by omega) (fun h => by omega)
    | succ j ih => exact fun k hk => hs k (by omega) (fun _ => ih (k + 1) (by omega))
  exact fun k hk => h (n - k) k (by omega)
section B
variable {x y : Int32} {A B : Prop}
theorem b_ge (a b : Nat) (f : b ≤ a → A) (g : a < b → B) (hx : x = nI a) (hy : y = nI b) (ha : a < 2 ^ 31) (hb : b < 2 ^ 31) : (x_ic .ge x y → A) ∧ (¬ x_ic .ge x y → B) := by
  subst hx; subst hy
  exact ⟨fun h => f ((nI_leI hb ha).mp h), fun h => g (Nat.lt_of_not_le fun h2 => h ((nI_leI hb ha).mpr h2))⟩
theorem b_le (a b : Nat) (f : a ≤ b → A) (g : b < a → B) (hx : x = nI a) (hy : y = nI b) (ha : a < 2 ^ 31) (hb : b < 2 ^ 31) : (x_ic .le x y → A) ∧ (¬ x_ic .le x y → B) := by
  subst hx; subst hy
  exact ⟨fun h => f ((nI_leI ha hb).mp h), fun h => g (Nat.lt_of_not_le fun h2 => h ((nI_leI ha hb).mpr h2))⟩
theorem b_lt (a b : Nat) (f : a < b → A) (g : b ≤ a → B) (hx : x = nI a) (hy : y = nI b) (ha : a < 2 ^ 31) (hb : b < 2 ^ 31) : (x_ic .lt x y → A) ∧ (¬ x_ic .lt x y → B) := by
  subst hx; subst hy
  exact ⟨fun h => f ((nI_ltI ha hb).mp h), fun h => g (Nat.le_of_not_lt fun h2 => h ((nI_ltI ha hb).mpr h2))⟩
theorem b_gt (a b : Nat) (f : b < a → A) (g : a ≤ b → B) (hx : x = nI a) (hy : y = nI b) (ha : a < 2 ^ 31) (hb : b < 2 ^ 31) : (x_ic .gt x y → A) ∧ (¬ x_ic .gt x y → B) := by
  subst hx; subst hy
  exact ⟨fun h => f ((nI_ltI hb ha).mp h), fun h => g (Nat.le_of_not_lt fun h2 => h ((nI_ltI hb ha).mpr h2))⟩
theorem b_eq (a b : Nat) (f : a = b → A) (g : a ≠ b → B) (hx : x = nI a) (hy : y = nI b) (ha : a < 2 ^ 31) (hb : b < 2 ^ 31) : (x_ic .eq x y → A) ∧ (¬ x_ic .eq x y → B) := by
  subst hx; subst hy
  exact ⟨fun h => f ((nI_eq ha hb).mp h), fun h => g fun h2 => h ((nI_eq ha hb).mpr h2)⟩
theorem b_ne (a b : Nat) (f : a ≠ b → A) (g : a = b → B) (hx : x = nI a) (hy : y = nI b) (ha : a < 2 ^ 31) (hb : b < 2 ^ 31) : (x_ic .ne x y → A) ∧ (¬ x_ic .ne x y → B) := by
  subst hx; subst hy
  exact ⟨fun h => f fun h2 => h ((nI_eq ha hb).mpr h2), fun h => g ((nI_eq ha hb).mp (Decidable.of_not_not h))⟩
theorem b_ifeq {b : Bool} (f : b = false → A) (g : b = true → B) (hx : x = bI b) : (x_ic .eq x 0 → A) ∧ (¬ x_ic .eq x 0 → B) := by
  subst hx
  exact ⟨fun h => f (bI_t.mp h), fun h => g (bI_n0 h)⟩
theorem b_ifne {b : Bool} (f : b = true → A) (g : b = false → B) (hx : x = bI b) : (x_ic .ne x 0 → A) ∧ (¬ x_ic .ne x 0 → B) := by
  subst hx
  exact ⟨fun h => f (bI_n0 h), fun h => g (bI_t.mp (Decidable.of_not_not h))⟩
theorem b_vge {o : Option Nat} (f : o ≠ none → A) (g : o = none → B) (hx : x = vI o) (ho : ∀ s, o = some s → s < 2 ^ 31) : (x_ic .ge x 0 → A) ∧ (¬ x_ic .ge x 0 → B) := by
  subst hx
  exact ⟨fun h => f ((vI_neg ho).mp h), fun h => g (Decidable.of_not_not fun h2 => h ((vI_neg ho).mpr h2))⟩
theorem b_vlt {o : Option Nat} (f : o = none → A) (g : o ≠ none → B) (hx : x = vI o) (ho : ∀ s, o = some s → s < 2 ^ 31) : (x_ic .lt x 0 → A) ∧ (¬ x_ic .lt x 0 → B) := by
  subst hx
  have e : vI o < 0 ↔ ¬ 0 ≤ vI o := by rw [Int32.not_le]
  exact ⟨fun h => f (Decidable.of_not_not fun h2 => (e.mp h) ((vI_neg ho).mpr h2)), fun h => g fun h2 => h (e.mpr fun h3 => (vI_neg ho).mp h3 h2)⟩
end B
theorem ldv {f : Nat → Int32} {i : Nat} {v : Int32} (h : f i = v) (hi : i < 2 ^ 31) : f (nI i).toNatClampNeg = v := by rw [nI_clamp hi]; exact h
theorem upv {f : Nat → Int32} {i : Nat} {v : Int32} (hi : i < 2 ^ 31) : upd f (nI i).toNatClampNeg v = upd f i v := by rw [nI_clamp hi]
theorem sh1 {s : Nat} (hs : s < 10) : Int32.ofInt 1 <<< (nI s &&& 31) = nI (2 ^ s) := by
  rw [oi1, nI_shl (by omega), Nat.one_mul]
  have : 2 ^ s ≤ 2 ^ 9 := Nat.pow_le_pow_right (by omega) (by omega)
  omega
theorem bit1 {b s : Nat} (hb : b < 512) (hs : s < 32) : (nI b >>> (nI s &&& 31)) &&& Int32.ofInt 1 = bI (b.testBit s) := by
  rw [oi1, nI_bit (by omega) hs]
  unfold tbN bI
  split <;> rfl
/-- a number or -1, from 0 on and from 1 on -/
def iM : Nat → Int32
  | 0 => -1
  | i + 1 => nI i
theorem iM_1 (k : Nat) : nI k - Int32.ofInt 1 = iM k := by
  cases k with
  | zero => decide
  | succ k => rw [show Int32.ofInt 1 = 1 from rfl, nI_pred]; rfl
theorem iM_s (k : Nat) : iM (k + 1) + Int32.ofInt (-1) = iM k := by
  cases k with
  | zero => decide
  | succ k => show nI (k + 1) + (-1) = nI k; exact pk_m1 k
theorem b_iM {A B : Prop} (k : Nat) {x : Int32} (hk : k < 2 ^ 31) (hx : x = iM k) (f : k = 0 → A) (g : k ≠ 0 → B) : (x_ic .lt x 0 → A) ∧ (¬ x_ic .lt x 0 → B) := by
  subst hx
  cases k with
  | zero => exact ⟨fun _ => f rfl, fun h => absurd (show (-1 : Int32) < 0 by decide) h⟩
  | succ k => exact ⟨fun h => absurd h (nI_pos (by omega)), fun _ => g (by omega)⟩
theorem b_iMg {A B : Prop} (k : Nat) {x : Int32} (hk : k < 2 ^ 31) (hx : x = iM k) (f : k ≠ 0 → A) (g : k = 0 → B) : (x_ic .ge x 0 → A) ∧ (¬ x_ic .ge x 0 → B) := by
  subst hx
  cases k with
  | zero => exact ⟨fun h => absurd h (show ¬ (0 : Int32) ≤ -1 by decide), fun _ => g rfl⟩
  | succ k => exact ⟨fun _ => f (by omega), fun h => absurd (nI_pos' (by omega)) h⟩
end
section
/-! ===== the model: picking k of a list ===== -/
/-- the last of the first i picks that can move on -/
def nxA (p : Nat → Nat) (k m : Nat) : Nat → Option Nat
  | 0 => none
  | i + 1 => if p i = m - k + i then nxA p k m i else some i
def nxP (p : Nat → Nat) (i : Nat) : Nat → Nat := fun j => if j < i then p j else p i + 1 + (j - i)
def pkM (ms : x_S) (k m : Nat) (p l : Nat → Nat) : Prop := ms.1 13 = nI m ∧ (∀ i, i < k → ms.2 34 i = nI (p i) ∧ p i < m) ∧ ∀ j, j < m → ms.2 33 j = nI (l j) ∧ l j < 81
section PK
variable {sc : Nat × (Nat → Int32)} {f : Nat → x_C} {ms : x_S} {tl : List x_C} {bb : Nat × Nat} {n w h d : Nat} {Q : x_O → x_H → Prop}
theorem r_first {k : Nat} (hk : k ≤ 5) (hQ : ∀ g : Nat → Int32, (∀ i, i < k → g i = nI i) → Q (.inl none) (w_M f (sA ms 34 g) tl bb)) : x_run sc x_MM x_EX (d + 1) k_X8_first [.ref 26, .int (nI k)] (w_M f ms tl bb) Q := by
  refine x_in (M := m_X8_first) rfl rfl (Nat.le_of_ble_eq_true rfl) ⟨rfl, rfl, trivial⟩ ?_
  intro P hP
  have loop : ∀ i, i ≤ k → ∀ g : Nat → Int32, (∀ t, t < i → g t = nI t) → P 2 [some (.ref 26), some (.int (nI k)), some (.int (nI i))] [] (w_M f (sA ms 34 g) tl bb) := by
    refine x_lp k (fun i hi ih g hg => ?_)
    repeat refine hP _ _ _ _ ?_
    refine b_ge (i) (k) (fun hq => ?_) (fun hq => ?_) (rfl) (rfl) (by omega) (by omega)
    · repeat refine hP _ _ _ _ ?_
      exact hQ g (fun t ht => hg t (by omega))
    · repeat refine hP _ _ _ _ ?_
      refine And.intro (vp_in_nI (by omega) (by omega)) ?_
      repeat (first | (refine x_p4 (P := P) (ih hq (upd g (nI i).toNatClampNeg (nI i)) ?_) ?_ rfl ?_ <;> try (first | rfl | (rw [nI_succ]; rfl))) | refine hP _ _ _ _ ?_)
      intro t ht
      rw [upv (by omega)]
      by_cases hti : t = i
      · subst hti; rw [pk_us]
      · rw [pk_un hti]; exact hg t (by omega)
  repeat (first | (refine x_p4 (P := P) (loop 0 (by omega) (ms.2 34) (fun t ht => by omega)) ?_ rfl ?_ <;> try (first | rfl | (rw [nI_succ]; rfl))) | refine hP _ _ _ _ ?_)
theorem r_isPicked {k m x : Nat} {p l : Nat → Nat} (hk : k ≤ 5) (hm : m ≤ 81) (hx : x < 2 ^ 31) (hP : pkM ms k m p l) (hQ : Q (.inl (some (.int (bI ((List.range k).any fun i => l (p i) == x))))) (w_M f ms tl bb)) : x_run sc x_MM x_EX (d + 1) k_X8_isPicked [.ref 26, .int (nI x), .int (nI k)] (w_M f ms tl bb) Q := by
  obtain ⟨p1, p2, p3⟩ := hP
  refine x_in (M := m_X8_isPicked) rfl rfl (Nat.le_of_ble_eq_true rfl) ⟨rfl, rfl, rfl, trivial⟩ ?_
  intro P hP
  have loop : ∀ i, i ≤ k → ((List.range i).any fun i => l (p i) == x) = false → P 2 [some (.ref 26), some (.int (nI x)), some (.int (nI k)), some (.int (nI i))] [] (w_M f ms tl bb) := by
    refine x_lp k (fun i hi ih hz => ?_)
    repeat refine hP _ _ _ _ ?_
    refine b_ge (i) (k) (fun hq => ?_) (fun hq => ?_) (rfl) (rfl) (by omega) (by omega)
    · have hik : i = k := by omega
      subst hik
      rw [hz] at hQ
      repeat refine hP _ _ _ _ ?_
      exact And.intro rfl hQ
    · have h1 := p2 i hq
      have h2 := p3 (p i) h1.2
      repeat refine hP _ _ _ _ ?_
      refine And.intro (vp_in_nI (by omega) (by omega)) ?_
      rw [ldv h1.1 (by omega)]
      repeat refine hP _ _ _ _ ?_
      refine And.intro (vp_in_nI (by omega) (by omega)) ?_
      rw [ldv h2.1 (by omega)]
      repeat refine hP _ _ _ _ ?_
      refine b_ne ((l (p i))) (x) (fun hr => ?_) (fun hr => ?_) (rfl) (rfl) (by omega) (by omega)
      · repeat (first | (refine x_p4 (P := P) (ih hq (by rw [any_s, hz, beq_eq_false_iff_ne.mpr hr]; rfl)) ?_ rfl ?_ <;> try (first | rfl | (rw [nI_succ]; rfl))) | refine hP _ _ _ _ ?_)
      · have hy : ((List.range k).any fun i => l (p i) == x) = true := List.any_eq_true.mpr ⟨i, List.mem_range.mpr hq, beq_iff_eq.mpr hr⟩
        rw [hy] at hQ
        repeat refine hP _ _ _ _ ?_
        exact And.intro rfl hQ
  repeat (first | (refine x_p4 (P := P) (loop 0 (by omega) rfl) ?_ rfl ?_ <;> try (first | rfl | (rw [nI_succ]; rfl))) | refine hP _ _ _ _ ?_)
theorem r_next {k m : Nat} {p l : Nat → Nat} (hk : k ≤ 5) (hkm : k ≤ m) (hm : m ≤ 81) (hP : pkM ms k m p l) (hT : ∀ i (g : Nat → Int32), nxA p k m k = some i → (∀ j, j < k → g j = nI (nxP p i j)) → Q (.inl (some (.int (bI true)))) (w_M f (sA ms 34 g) tl bb)) (hF : nxA p k m k = none → Q (.inl (some (.int (bI false)))) (w_M f ms tl bb)) : x_run sc x_MM x_EX (d + 1) k_X8_next [.ref 26, .int (nI k)] (w_M f ms tl bb) Q := by
  obtain ⟨p1, p2, p3⟩ := hP
  refine x_in (M := m_X8_next) rfl rfl (Nat.le_of_ble_eq_true rfl) ⟨rfl, rfl, trivial⟩ ?_
  intro P hP
  have fin : ∀ i, i < k → nxA p k m k = some i → P 31 [some (.ref 26), some (.int (nI k)), some (.int (nI i)), none] [] (w_M f ms tl bb) := by
    intro i hi hn
    have hpi := p2 i hi
    have loop : ∀ j, j ≤ k → i + 1 ≤ j → ∀ g : Nat → Int32, (∀ t, t < j → g t = nI (nxP p i t)) → P 51 [some (.ref 26), some (.int (nI k)), some (.int (nI i)), some (.int (nI j))] [] (w_M f (sA ms 34 g) tl bb) := by
      refine x_lp k (fun j hj ih hij g hg => ?_)
      repeat refine hP _ _ _ _ ?_
      refine b_ge (j) (k) (fun hq => ?_) (fun hq => ?_) (rfl) (rfl) (by omega) (by omega)
      · repeat refine hP _ _ _ _ ?_
        exact And.intro rfl (hT i g hn (fun t ht => hg t (by omega)))
      · have e1 : nI j - Int32.ofInt 1 = nI (j - 1) := by rw [oi1, pk_sub (by omega)]
        repeat refine hP _ _ _ _ ?_
        rw [e1]
        refine And.intro (vp_in_nI (by omega) (by omega)) ?_
        repeat refine hP _ _ _ _ ?_
        refine And.intro (vp_in_nI (by omega) (by omega)) ?_
        repeat (first | (refine x_p4 (P := P) (ih hq (by omega) (upd g (nI j).toNatClampNeg (g (nI (j - 1)).toNatClampNeg + Int32.ofInt 1)) ?_) ?_ rfl ?_ <;> try (first | rfl | (rw [nI_succ]; rfl))) | refine hP _ _ _ _ ?_)
        intro t ht
        rw [upv (by omega), nI_clamp (by omega)]
        by_cases htj : t = j
        · subst htj
          rw [pk_us, hg (t - 1) (by omega), oi1, nI_add]
          congr 1
          unfold nxP
          split <;> split <;> omega
        · rw [pk_un htj]; exact hg t (by omega)
    repeat refine hP _ _ _ _ ?_
    refine And.intro (fun _ => ?_) (fun h => absurd (nI_pos' (by omega)) h)
    repeat refine hP _ _ _ _ ?_
    refine And.intro (vp_in_nI (by omega) (by omega)) ?_
    repeat refine hP _ _ _ _ ?_
    refine And.intro (vp_in_nI (by omega) (by omega)) ?_
    repeat (first | (refine x_p4 (P := P) (loop (i + 1) (by omega) (by omega) (upd (ms.2 34) (nI i).toNatClampNeg (ms.2 34 (nI i).toNatClampNeg + Int32.ofInt 1)) ?_) ?_ rfl ?_ <;> try (first | rfl | (rw [nI_succ]; rfl))) | refine hP _ _ _ _ ?_)
    intro t ht
    rw [upv (by omega), nI_clamp (by omega)]
    by_cases hti : t = i
    · subst hti
      rw [pk_us, hpi.1, oi1, nI_add]
      congr 1
      unfold nxP
      simp
    · rw [pk_un hti, (p2 t (by omega)).1]
      congr 1
      unfold nxP
      rw [if_pos (by omega)]
  have loop : ∀ i, i ≤ k → nxA p k m k = nxA p k m i → P 4 [some (.ref 26), some (.int (nI k)), some (.int (iM i)), none] [] (w_M f ms tl bb) := by
    intro i
    induction i with
    | zero =>
      intro _ hn
      repeat refine hP _ _ _ _ ?_
      refine b_iM 0 (by omega) rfl (fun _ => ?_) (fun h => absurd rfl h)
      repeat refine hP _ _ _ _ ?_
      refine b_iMg 0 (by omega) rfl (fun h => absurd rfl h) (fun _ => ?_)
      repeat refine hP _ _ _ _ ?_
      exact And.intro rfl (hF hn)
    | succ i ih =>
      intro hi hn
      have hpi := p2 i (by omega)
      repeat refine hP _ _ _ _ ?_
      refine b_iM (i + 1) (by omega) rfl (fun h => by omega) (fun _ => ?_)
      repeat refine hP _ _ _ _ ?_
      refine And.intro (vp_in_nI (by omega) (by omega)) ?_
      rw [show iM (i + 1) = nI i from rfl, ldv hpi.1 (by omega)]
      repeat refine hP _ _ _ _ ?_
      refine b_ne ((p i)) ((m - k + i)) (fun hq => ?_) (fun hq => ?_) (rfl) ((by show ms.1 13 - nI k + nI i = _; rw [p1, pk_sub hkm, nI_add])) (by omega) (by omega)
      · repeat (first | (refine x_p4 (P := P) (fin i (by omega) (hn.trans (by simp [nxA, hq]))) ?_ rfl ?_ <;> try (first | rfl | (rw [nI_succ]; rfl))) | refine hP _ _ _ _ ?_)
      · repeat (first | (refine x_p4 (P := P) (ih (by omega) (hn.trans (by simp [nxA, hq]))) ?_ rfl ?_) | refine hP _ _ _ _ ?_)
        · rw [← iM_s i]; rfl
        · rfl
  repeat (first | (refine x_p4 (P := P) (loop k (Nat.le_refl _) rfl) ?_ rfl ?_) | refine hP _ _ _ _ ?_)
  · rw [← iM_1 k]; rfl
  · rfl
end PK
end
section
/-! ===== the model: all sets of k of a list, in order; step naked ===== -/
def cmb : Nat → List Nat → List (List Nat)
  | 0, _ => [[]]
  | _ + 1, [] => []
  | k + 1, a :: l => (cmb k l).map (a :: ·) ++ cmb (k + 1) l
def CC (k m : Nat) : List (List Nat) := cmb k (List.range m)
def pF (c : List Nat) : Nat → Nat := fun i => c.getD i 0
def nxOK (k m : Nat) : Bool := (List.range (CC k m).length).all fun t => match (CC k m)[t]? with
  | none => false
  | some c => (List.range k).all (fun i => decide (pF c i < m)) && match nxA (pF c) k m k with
    | none => decide (t + 1 = (CC k m).length)
    | some i => decide ((CC k m)[t + 1]? = some ((List.range k).map (nxP (pF c) i)))
theorem nxOK_all : ∀ k, k < 5 → 2 ≤ k → ∀ m, m < 10 → nxOK k m = true := by decide +kernel
theorem CC_0a : ∀ k, k < 5 → 2 ≤ k → ∀ m, m < 10 → (if k ≤ m then decide ((CC k m)[0]? = some (List.range k)) else decide (CC k m = [])) = true := by decide +kernel
theorem CC_0 (k : Nat) (hk : k < 5) (hk2 : 2 ≤ k) (m : Nat) (hm : m < 10) : (k ≤ m → (CC k m)[0]? = some (List.range k)) ∧ (m < k → CC k m = []) := by
  have h := CC_0a k hk hk2 m hm
  refine ⟨fun h1 => ?_, fun h1 => ?_⟩
  · rw [if_pos h1] at h; exact of_decide_eq_true h
  · rw [if_neg (by omega)] at h; exact of_decide_eq_true h
theorem nx_at {k m t : Nat} {c : List Nat} (hk : k < 5) (hk2 : 2 ≤ k) (hm : m < 10) (hc : (CC k m)[t]? = some c) : (∀ i, i < k → pF c i < m) ∧ (nxA (pF c) k m k = none → t + 1 = (CC k m).length) ∧ ∀ i, nxA (pF c) k m k = some i → ∃ c', (CC k m)[t + 1]? = some c' ∧ ∀ j, j < k → pF c' j = nxP (pF c) i j := by
  have h1 := nxOK_all k hk hk2 m hm
  have ht : t < (CC k m).length := (List.getElem?_eq_some_iff.mp hc).1
  unfold nxOK at h1
  have h2 := List.all_eq_true.mp h1 t (List.mem_range.mpr ht)
  rw [hc] at h2
  simp only [Bool.and_eq_true] at h2
  refine ⟨fun i hi => of_decide_eq_true (List.all_eq_true.mp h2.1 i (List.mem_range.mpr hi)), fun hn => ?_, fun i hn => ?_⟩
  · rw [hn] at h2; exact of_decide_eq_true h2.2
  · rw [hn] at h2
    refine ⟨_, of_decide_eq_true h2.2, fun j hj => ?_⟩
    unfold pF
    simp [List.getD, hj]
theorem fs_s {α β : Type} {L : List α} {t : Nat} {c : α} {ev : α → Option β} {r : β} (hc : L[t]? = some c) (he : ev c = some r) : (L.drop t).findSome? ev = some r := by
  obtain ⟨h1, h2⟩ := List.getElem?_eq_some_iff.mp hc
  rw [List.drop_eq_getElem_cons h1, h2, List.findSome?_cons, he]
theorem fs_n {α β : Type} {L : List α} {t : Nat} {c : α} {ev : α → Option β} (hc : L[t]? = some c) (he : ev c = none) : (L.drop t).findSome? ev = (L.drop (t + 1)).findSome? ev := by
  obtain ⟨h1, h2⟩ := List.getElem?_eq_some_iff.mp hc
  rw [List.drop_eq_getElem_cons h1, h2, List.findSome?_cons, he]
theorem fs_e {α β : Type} {L : List α} {t : Nat} {ev : α → Option β} (h : L.length ≤ t) : (L.drop t).findSome? ev = none := by
  rw [List.drop_eq_nil_of_le h]; rfl
/-- the list that sets are picked from -/
def lsM (ms : x_S) (l : List Nat) (B : Nat) : Prop := ms.1 13 = nI l.length ∧ ∀ j, j < l.length → ms.2 33 j = nI (pF l j) ∧ pF l j < B
theorem lsM_0 (ms : x_S) (B : Nat) : lsM (sF ms 13 0) [] B := ⟨rfl, fun j hj => absurd hj (Nat.not_lt_zero j)⟩
theorem lsM_p {ms : x_S} {l : List Nat} {B x : Nat} (h : lsM ms l B) (hx : x < B) : lsM (sF (sA ms 33 (upd (ms.2 33) l.length (nI x))) 13 (nI (l.length + 1))) (l ++ [x]) B := by
  refine ⟨by rw [List.length_append]; rfl, fun j hj => ?_⟩
  rw [List.length_append] at hj
  have hj : j < l.length + 1 := hj
  show upd (ms.2 33) l.length (nI x) j = _ ∧ _
  by_cases hjl : j = l.length
  · subst hjl
    rw [pk_us]
    have e : pF (l ++ [x]) l.length = x := by unfold pF; simp [List.getD]
    rw [e]
    exact ⟨rfl, hx⟩
  · rw [pk_un hjl]
    have e : pF (l ++ [x]) j = pF l j := by unfold pF; simp [List.getD, List.getElem?_append_left (show j < l.length by omega)]
    rw [e]
    exact h.2 j (by omega)
/-- bits of the first i together -/
def orA (v : Nat → Nat) : Nat → Nat
  | 0 => 0
  | i + 1 => orA v i ||| v i
theorem orA_lt {v : Nat → Nat} {k : Nat} : ∀ {i}, i ≤ k → (∀ j, j < k → v j < 512) → orA v i < 512
  | 0, _, _ => by unfold orA; decide
  | i + 1, hi, hv => Nat.or_lt_two_pow (n := 9) (orA_lt (by omega) hv) (hv i (by omega))
/-- the open cells of the first i of house g -/
def openLk (vb : Nat → Option Nat) (n w h g i : Nat) : List Nat := ((List.range i).map (atN n w h g)).filter fun c => (vb c).isNone
def openL (vb : Nat → Option Nat) (n w h g : Nat) : List Nat := openLk vb n w h g n
theorem openLk_s (vb : Nat → Option Nat) (n w h g i : Nat) : openLk vb n w h g (i + 1) = openLk vb n w h g i ++ (if (vb (atN n w h g i)).isNone then [atN n w h g i] else []) := by
  unfold openLk
  rw [List.range_succ, List.map_append, List.filter_append]
  congr 1
  simp only [List.map_cons, List.map_nil, List.filter_cons, List.filter_nil]
theorem fl_le {α : Type} (l : List α) (p : α → Bool) {m : Nat} (h : l.length = m) : (l.filter p).length ≤ m := by rw [← h]; exact List.length_filter_le p l
def nakG (cb : Nat → Nat) (n w h g k : Nat) (u : Nat → Nat) (j : Nat) : Nat → Nat := fun e => if ((List.range j).any fun i => atN n w h g i == e) && !((List.range k).any fun i => u i == e) then cb e &&& orA (fun i => cb (u i)) k else 0
def nakR (n w h g k : Nat) (u : Nat → Nat) (j : Nat) : Nat → Bool := fun e => ((List.range j).any fun i => atN n w h g i == e) && ((List.range k).any fun i => u i == e)
def rOf (go : Nat → Nat) (rs : Nat → Bool) : Option rS := if anyG go then some (none, go, rs) else none
def nakE (cb : Nat → Nat) (n w h g k : Nat) (u : Nat → Nat) : Option rS := if pcN (orA (fun i => cb (u i)) k) = k then rOf (nakG cb n w h g k u n) (nakR n w h g k u n) else none
def nakH (cb : Nat → Nat) (vb : Nat → Option Nat) (n w h k g : Nat) : Option rS := ((CC k (openL vb n w h g).length).drop 0).findSome? fun c => nakE cb n w h g k (fun i => pF (openL vb n w h g) (pF c i))
def nakS (cb : Nat → Nat) (vb : Nat → Option Nat) (n w h k : Nat) : Option rS := ff (nakH cb vb n w h k) (3 * n) 0
theorem b_len {t N : Nat} (h : t < N) : bI (decide (t < N)) = bI true := by rw [decide_eq_true h]
theorem b_nle {t N : Nat} (h : ¬ t < N) : bI (decide (t < N)) = bI false := by rw [decide_eq_false h]
section NK
variable {sc : Nat × (Nat → Int32)} {f : Nat → x_C} {ms : x_S} {tl : List x_C} {bb : Nat × Nat} {n w h d : Nat} {Q : x_O → x_H → Prop} {cb : Nat → Nat} {vb : Nat → Option Nat}
theorem cM.lt {ms : x_S} (hC : cM ms n cb) (hn : n ≤ 9) {c : Nat} (hc : c < n * n) : cb c < 512 := Nat.lt_of_lt_of_le (hC c hc).2 (Nat.pow_le_pow_right (by omega) hn)
theorem vM.lt {ms : x_S} (hV : vM ms n vb) (hn : n ≤ 9) {c : Nat} (hc : c < n * n) : ∀ s, vb c = some s → s < 2 ^ 31 := fun s hs => by have := (hV c hc).2 s hs; omega
theorem r_naked (hG : gM ms n w h) (hC : cM ms n cb) (hV : vM ms n vb) {k : Nat} (hk2 : 2 ≤ k) (hk5 : k < 5) (hT : ∀ ms' r, scr ms ms' → nakS cb vb n w h k = some r → resM ms' n r → Q (.inl (some (.int (bI true)))) (w_M f ms' tl bb)) (hF : ∀ ms', scr ms ms' → nakS cb vb n w h k = none → Q (.inl (some (.int (bI false)))) (w_M f ms' tl bb)) : x_run sc x_MM x_EX (d + 2) k_X8_naked [.ref 26, .int (nI k)] (w_M f ms tl bb) Q := by
  obtain ⟨g1, g2, g3, g4, g5, g6, g7, g8⟩ := hG.2.2.2.le
  refine x_in (M := m_X8_naked) rfl rfl (Nat.le_of_ble_eq_true rfl) ⟨rfl, rfl, trivial⟩ ?_
  intro P hP
  have loop : ∀ g, g ≤ 3 * n → ∀ m2, scr ms m2 → nakS cb vb n w h k = ff (nakH cb vb n w h k) (3 * n - g) g → ∀ x3 x4 x5 : Option Value, P 2 [some (.ref 26), some (.int (nI k)), some (.int (nI g)), x3, x4, x5] [] (w_M f m2 tl bb) := by
    refine x_lp (3 * n) (fun g hg ih m2 hm hf x3 x4 x5 => ?_)
    have hG2 := hm.g hG
    repeat refine hP _ _ _ _ ?_
    refine b_ge (g) (3 * n) (fun hg9 => ?_) (fun hg9 => ?_) (rfl) (by show Int32.ofInt 3 * m2.1 1 = _; rw [oi3, hG2.1, pk_mul]) (by omega) (by omega)
    · repeat refine hP _ _ _ _ ?_
      exact And.intro rfl (hF m2 hm (by rw [hf, show 3 * n - g = 0 by omega]; rfl))
    · have ih := ih hg9
      have hff : 3 * n - g = 3 * n - (g + 1) + 1 := by omega
      rw [hff] at hf
      have hlm : (openL vb n w h g).length ≤ n := fl_le _ _ (by simp)
      generalize hl : openL vb n w h g = l at hlm
      have hm9 : l.length < 10 := by omega
      have hev : nakH cb vb n w h k g = ((CC k l.length).drop 0).findSome? fun c => nakE cb n w h g k (fun i => pF l (pF c i)) := by unfold nakH; rw [hl]
      have whl : ∀ t, t ≤ (CC k l.length).length → ∀ m4, scr ms m4 → lsM m4 l (n * n) → (∀ c, (CC k l.length)[t]? = some c → ∀ i, i < k → m4.2 34 i = nI (pF c i)) → nakH cb vb n w h k g = ((CC k l.length).drop t).findSome? (fun c => nakE cb n w h g k (fun i => pF l (pF c i))) → ∀ x4 x5 : Option Value, P 94 [some (.ref 26), some (.int (nI k)), some (.int (nI g)), some (.int (bI (decide (t < (CC k l.length).length)))), x4, x5] [] (w_M f m4 tl bb) := by
        refine x_lp _ (fun t ht ih2 m4 hm4 hl4 hp hfs x4 x5 => ?_)
        repeat refine hP _ _ _ _ ?_
        refine b_ifeq (fun hq => ?_) (fun hq => ?_) (rfl)
        · have hq := of_decide_eq_false hq
          iterate 2 refine hP _ _ _ _ ?_
          refine x_p4 (P := P) (ih m4 hm4 (hf.trans (ff_n (hfs.trans (fs_e (by omega))))) (some (.int (bI (decide (t < (CC k l.length).length))))) x4 x5) ?_ rfl ?_ <;> try (first | rfl | (rw [nI_succ]; rfl))
        · have hq := of_decide_eq_true hq
          have ih2 := ih2 hq
          obtain ⟨c, hc⟩ : ∃ c, (CC k l.length)[t]? = some c := ⟨_, List.getElem?_eq_getElem hq⟩
          obtain ⟨c1, c2, c3⟩ := nx_at hk5 hk2 hm9 hc
          have hp := hp c hc
          have hpk : ∀ m5 : x_S, lsM m5 l (n * n) → (∀ i, i < k → m5.2 34 i = nI (pF c i)) → pkM m5 k l.length (pF c) (pF l) := fun m5 e1 e2 => ⟨e1.1, fun i hi => ⟨e2 i hi, c1 i hi⟩, fun j hj => ⟨(e1.2 j hj).1, by have := (e1.2 j hj).2; omega⟩⟩
          have hcell : ∀ i, i < k → pF l (pF c i) < n * n := fun i hi => (hl4.2 _ (c1 i hi)).2
          generalize hu : (fun i => pF l (pF c i)) = u
          have hue : ∀ i, u i = pF l (pF c i) := fun i => by rw [← hu]
          generalize hall : orA (fun i => cb (u i)) k = all
          have hall9 : all < 512 := by rw [← hall]; exact orA_lt (Nat.le_refl k) (fun j hj => hC.lt g2 (by rw [hue]; exact hcell j hj))
          have hEv : nakE cb n w h g k (fun i => pF l (pF c i)) = if pcN all = k then rOf (nakG cb n w h g k u n) (nakR n w h g k u n) else none := by rw [hu]; unfold nakE; rw [hall]
          have tk : ∀ m5 go rs, scr ms m5 → lsM m5 l (n * n) → (∀ i, i < k → m5.2 34 i = nI (pF c i)) → m5.1 11 = -1 → m5.1 12 = -1 → oM m5 go → rM m5 rs → nakE cb n w h g k (fun i => pF l (pF c i)) = rOf go rs → ∀ x5 : Option Value, P 213 [some (.ref 26), some (.int (nI k)), some (.int (nI g)), some (.int (bI true)), some (.int (nI all)), x5] [] (w_M f m5 tl bb) := by
            intro m5 go rs hm5 hl5 hp5 h11 h12 hO hR he x5
            repeat refine hP _ _ _ _ ?_
            refine r_takesN hO ?_
            repeat refine hP _ _ _ _ ?_
            refine b_ifeq (fun ha => ?_) (fun ha => ?_) (rfl)
            · have he : nakE cb n w h g k (fun i => pF l (pF c i)) = none := he.trans (by unfold rOf; rw [ha]; rfl)
              have hfs9 := hfs.trans (fs_n hc he)
              repeat refine hP _ _ _ _ ?_
              refine r_next (k := k) (m := l.length) (by omega) ?_ (by omega) (hpk m5 hl5 hp5) (fun i gg hn hgg => ?_) (fun hn => ?_)
              · rcases Nat.lt_or_ge l.length k with h9 | h9
                · rw [(CC_0 k hk5 hk2 _ hm9).2 h9] at hq; exact absurd hq (Nat.not_lt_zero _)
                · exact h9
              · obtain ⟨c', d1, d2⟩ := c3 i hn
                iterate 2 refine hP _ _ _ _ ?_
                refine x_p4 (P := P) (ih2 (sA m5 34 gg) (hm5.tr (scr.a (by decide))) hl5 (fun c9 h9 i9 hi9 => by rw [d1] at h9; cases h9; rw [d2 i9 hi9]; exact hgg i9 hi9) hfs9 (some (.int (nI all))) x5) ?_ rfl ?_
                · rw [b_len (List.getElem?_eq_some_iff.mp d1).1]; rfl
                · rfl
              · have h9 := c2 hn
                iterate 2 refine hP _ _ _ _ ?_
                refine x_p4 (P := P) (ih2 m5 hm5 hl5 (fun c9 h9 => by rw [List.getElem?_eq_none (by omega)] at h9; cases h9) hfs9 (some (.int (nI all))) x5) ?_ rfl ?_
                · rw [b_nle (by omega)]; rfl
                · rfl
            · repeat refine hP _ _ _ _ ?_
              refine And.intro rfl (hT m5 (none, go, rs) hm5 ?_ ⟨⟨h11, h12⟩, hO, hR⟩)
              exact hf.trans (ff_s (hfs.trans (fs_s hc (he.trans (by unfold rOf; rw [ha]; rfl)))))
          have hm5 : scr ms (noneM m4) := hm4.tr (noneM_scr m4)
          have hC5 := hm5.c hC
          have hG5 := hm5.g hG
          have hcl5 := noneM_cl m4
          rw [b_len hq]
          have mid : P 145 [some (.ref 26), some (.int (nI k)), some (.int (nI g)), some (.int (bI true)), some (.int (nI all)), some (.int (nI 0))] [] (w_M f (noneM m4) tl bb) := by
            by_cases hpc : pcN all = k
            · rw [if_pos hpc] at hEv
              have lp3 : ∀ i, i ≤ n → ∀ m6, scr ms m6 → lsM m6 l (n * n) → (∀ i, i < k → m6.2 34 i = nI (pF c i)) → m6.1 11 = -1 → m6.1 12 = -1 → oM m6 (nakG cb n w h g k u i) → rM m6 (nakR n w h g k u i) → P 145 [some (.ref 26), some (.int (nI k)), some (.int (nI g)), some (.int (bI true)), some (.int (nI all)), some (.int (nI i))] [] (w_M f m6 tl bb) := by
                refine x_lp n (fun i hi ih3 m6 hm6 hl6 hp6 h11 h12 hO hR => ?_)
                have hG6 := hm6.g hG
                have hC6 := hm6.c hC
                repeat refine hP _ _ _ _ ?_
                refine b_ge (i) (n) (fun hi9 => ?_) (fun hi9 => ?_) (rfl) (hG6.1) (by omega) (by omega)
                · have hin : i = n := by omega
                  subst hin
                  refine x_p4 (P := P) (tk m6 _ _ hm6 hl6 hp6 h11 h12 hO hR hEv (some (.int (nI i)))) ?_ rfl ?_ <;> try (first | rfl | (rw [nI_succ]; rfl))
                · have hat := atN_lt (w := w) (h := h) hG.2.2.2 hg9 hi9
                  have ih3 := ih3 hi9
                  have hpk6 := hpk m6 hl6 hp6
                  repeat refine hP _ _ _ _ ?_
                  refine r_countOf hall9 ?_
                  repeat refine hP _ _ _ _ ?_
                  refine b_ne ((pcN all)) (k) (fun h8 => ?_) (fun h8 => ?_) (rfl) (rfl) (by omega) (by omega)
                  · exact absurd hpc h8
                  · repeat refine hP _ _ _ _ ?_
                    refine r_at hG6 hg9 hi9 ?_
                    repeat refine hP _ _ _ _ ?_
                    refine r_isPicked (k := k) (m := l.length) (by omega) (by omega) (by omega) hpk6 ?_
                    have hpe : ((List.range k).any fun j => pF l (pF c j) == atN n w h g i) = ((List.range k).any fun j => u j == atN n w h g i) := by rw [← hu]
                    rw [hpe]
                    repeat refine hP _ _ _ _ ?_
                    refine b_ifeq (fun h7 => ?_) (fun h7 => ?_) (rfl)
                    · repeat refine hP _ _ _ _ ?_
                      refine r_at hG6 hg9 hi9 ?_
                      repeat refine hP _ _ _ _ ?_
                      refine r_leavesN hC6 g2 hO hat (by omega) rfl (fun gg hgg => ?_)
                      iterate 2 refine hP _ _ _ _ ?_
                      refine x_p4 (P := P) (ih3 (sA m6 32 gg) (hm6.tr (scr.a (by decide))) hl6 hp6 h11 h12 (oM_congr hgg ?_) ?_) ?_ rfl ?_ <;> try (first | rfl | (rw [nI_succ]; rfl))
                      · intro e he
                        by_cases hea : e = atN n w h g i
                        · subst hea
                          simp only [if_true]
                          unfold nakG
                          rw [any_s, h7, hall]
                          simp only [Bool.not_false, Bool.and_true, beq_self_eq_true, Bool.or_true, if_true]
                          split
                          · rw [Nat.or_self]
                          · rw [Nat.zero_or]
                        · simp only [hea, if_false]
                          unfold nakG
                          rw [any_s, beq_eq_false_iff_ne.mpr (fun h => hea h.symm), Bool.or_false]
                      · intro e he
                        have hRe := hR e he
                        show m6.2 31 e = _
                        rw [hRe]
                        congr 1
                        unfold nakR
                        rw [any_s]
                        by_cases hea : atN n w h g i = e
                        · subst hea
                          rw [h7, Bool.and_false, Bool.and_false]
                        · rw [beq_eq_false_iff_ne.mpr hea, Bool.or_false]
                    · repeat refine hP _ _ _ _ ?_
                      refine r_at hG6 hg9 hi9 ?_
                      repeat refine hP _ _ _ _ ?_
                      refine And.intro (vp_in_nI (by omega) (by omega)) ?_
                      iterate 3 refine hP _ _ _ _ ?_
                      refine x_p4 (P := P) (ih3 (sA m6 31 (upd (m6.2 31) (nI (atN n w h g i)).toNatClampNeg (vp_nar .boolean (Int32.ofInt 1)))) (hm6.tr (scr.a (by decide))) hl6 hp6 h11 h12 (oM_congr (show oM _ (nakG cb n w h g k u i) from hO) ?_) ?_) ?_ rfl ?_ <;> try (first | rfl | (rw [nI_succ]; rfl))
                      · intro e he
                        unfold nakG
                        rw [any_s]
                        by_cases hea : atN n w h g i = e
                        · subst hea
                          rw [h7, Bool.not_true, Bool.and_false, Bool.and_false]
                        · rw [beq_eq_false_iff_ne.mpr hea, Bool.or_false]
                      · intro e he
                        show upd (m6.2 31) (nI (atN n w h g i)).toNatClampNeg (vp_nar .boolean (Int32.ofInt 1)) e = _
                        rw [upv (by omega)]
                        unfold nakR
                        rw [any_s]
                        by_cases hea : e = atN n w h g i
                        · subst hea
                          rw [pk_us, h7, beq_self_eq_true, Bool.or_true, Bool.and_true]
                          rfl
                        · rw [pk_un hea, hR e he, beq_eq_false_iff_ne.mpr (fun h => hea h.symm), Bool.or_false]
                          rfl
              exact lp3 0 (by omega) (noneM m4) hm5 hl4 hp hcl5.1 hcl5.2.1 (fun e he => ⟨(hcl5.2.2 e he).2, by unfold nakG; simp⟩) (fun e he => (hcl5.2.2 e he).1)
            · rw [if_neg hpc] at hEv
              repeat refine hP _ _ _ _ ?_
              refine b_ge 0 n (fun h0 => by omega) (fun _ => ?_) rfl hG5.1 (by omega) (by omega)
              repeat refine hP _ _ _ _ ?_
              refine r_countOf hall9 ?_
              have hpl : pcN all ≤ 9 := pcA_le _ _
              repeat refine hP _ _ _ _ ?_
              refine b_ne ((pcN all)) (k) (fun h8 => ?_) (fun h8 => ?_) (rfl) (rfl) (by omega) (by omega)
              · refine x_p4 (P := P) (tk (noneM m4) (fun _ => 0) (fun _ => false) hm5 hl4 hp hcl5.1 hcl5.2.1 (fun e he => ⟨(hcl5.2.2 e he).2, show 0 < 512 by decide⟩) (fun e he => (hcl5.2.2 e he).1) (hEv.trans rfl) (some (.int (nI 0)))) ?_ rfl ?_ <;> try (first | rfl | (rw [nI_succ]; rfl))
              · exact absurd h8 hpc
          have orl : ∀ i, i ≤ k → P 108 [some (.ref 26), some (.int (nI k)), some (.int (nI g)), some (.int (bI true)), some (.int (nI (orA (fun i => cb (u i)) i))), some (.int (nI i))] [] (w_M f (noneM m4) tl bb) := by
            refine x_lp k (fun i hi ih3 => ?_)
            repeat refine hP _ _ _ _ ?_
            refine b_ge (i) (k) (fun hi9 => ?_) (fun hi9 => ?_) (rfl) (rfl) (by omega) (by omega)
            · have hik : i = k := by omega
              subst hik
              rw [hall]
              iterate 2 refine hP _ _ _ _ ?_
              refine x_p4 (P := P) (mid) ?_ rfl ?_ <;> try (first | rfl | (rw [nI_succ]; rfl))
            · have e1 := c1 i hi9
              have e2 := hcell i hi9
              repeat refine hP _ _ _ _ ?_
              refine And.intro (vp_in_nI (by omega) (by omega)) ?_
              rw [ldv (f := (noneM m4).2 34) (hp i hi9) (by omega)]
              repeat refine hP _ _ _ _ ?_
              refine And.intro (vp_in_nI (by omega) (by omega)) ?_
              rw [ldv (f := (noneM m4).2 33) (hl4.2 _ e1).1 (by omega)]
              repeat refine hP _ _ _ _ ?_
              refine And.intro (vp_in_nI (by omega) (by omega)) ?_
              rw [ldv (f := (noneM m4).2 27) (hC5 _ e2).1 (by omega)]
              iterate 4 refine hP _ _ _ _ ?_
              refine x_p4 (P := P) (ih3 hi9) ?_ rfl ?_
              · rw [show orA (fun i => cb (u i)) (i + 1) = orA (fun i => cb (u i)) i ||| cb (pF l (pF c i)) by rw [← hue]; rfl, ← nx_or, nI_succ]; rfl
              · rfl
          repeat refine hP _ _ _ _ ?_
          refine r_none ?_
          iterate 4 refine hP _ _ _ _ ?_
          refine x_p4 (P := P) (orl 0 (by omega)) ?_ rfl ?_ <;> try (first | rfl | (rw [nI_succ]; rfl))
      have fin : ∀ m3, scr ms m3 → lsM m3 l (n * n) → P 75 [some (.ref 26), some (.int (nI k)), some (.int (nI g)), some (.int (nI n)), x4, x5] [] (w_M f m3 tl bb) := by
        intro m3 hm3 hl3
        have go : ∀ x : Int32, x = bI (decide (0 < (CC k l.length).length)) → P 88 [some (.ref 26), some (.int (nI k)), some (.int (nI g)), some (.int (nI n)), x4, x5] [.int x] (w_M f m3 tl bb) := by
          intro x hx
          subst hx
          repeat refine hP _ _ _ _ ?_
          refine r_first (by omega) (fun gg hgg => ?_)
          refine x_p4 (P := P) (whl 0 (by omega) (sA m3 34 gg) (hm3.tr (scr.a (by decide))) hl3 (fun c hc i hi => ?_) hev x4 x5) ?_ rfl ?_ <;> try (first | rfl | (rw [nI_succ]; rfl))
          show gg i = _
          rw [hgg i hi]
          rcases Nat.lt_or_ge l.length k with h9 | h9
          · rw [(CC_0 k hk5 hk2 _ hm9).2 h9] at hc; cases hc
          · rw [(CC_0 k hk5 hk2 _ hm9).1 h9] at hc
            cases hc
            unfold pF
            simp [List.getD, hi]
        repeat refine hP _ _ _ _ ?_
        refine b_lt (l.length) (k) (fun h9 => ?_) (fun h9 => ?_) (hl3.1) (rfl) (by omega) (by omega)
        · refine hP _ _ _ _ ?_
          refine x_p4 (P := P) (go (bI false) ?_) ?_ rfl ?_
          · rw [(CC_0 k hk5 hk2 _ hm9).2 h9]; rfl
          · rfl
          · rfl
        · iterate 2 refine hP _ _ _ _ ?_
          refine x_p4 (P := P) (go (bI true) ?_) ?_ rfl ?_
          · rw [b_len]
            exact (List.getElem?_eq_some_iff.mp ((CC_0 k hk5 hk2 _ hm9).1 h9)).1
          · rfl
          · rfl
      have lst : ∀ i, i ≤ n → ∀ m3, scr ms m3 → lsM m3 (openLk vb n w h g i) (n * n) → P 19 [some (.ref 26), some (.int (nI k)), some (.int (nI g)), some (.int (nI i)), x4, x5] [] (w_M f m3 tl bb) := by
        refine x_lp n (fun i hi ih2 m3 hm3 hl3 => ?_)
        have hG3 := hm3.g hG
        have hV3 := hm3.v hV
        repeat refine hP _ _ _ _ ?_
        refine b_ge (i) (n) (fun hi9 => ?_) (fun hi9 => ?_) (rfl) (hG3.1) (by omega) (by omega)
        · have hin : i = n := by omega
          subst hin
          refine x_p4 (P := P) (fin m3 hm3 (hl ▸ hl3)) ?_ rfl ?_ <;> try (first | rfl | (rw [nI_succ]; rfl))
        · have hat := atN_lt (w := w) (h := h) hG.2.2.2 hg9 hi9
          have hlk : (openLk vb n w h g i).length ≤ i := fl_le _ _ (by simp)
          have ih2 := ih2 hi9
          rw [openLk_s] at ih2
          repeat refine hP _ _ _ _ ?_
          refine r_at hG3 hg9 hi9 ?_
          repeat refine hP _ _ _ _ ?_
          refine And.intro (vp_in_nI (by omega) (by omega)) ?_
          rw [ldv (hV3 _ hat).1 (by omega)]
          repeat refine hP _ _ _ _ ?_
          refine b_vlt (fun hv => ?_) (fun hv => ?_) (rfl) ((hV.lt g2 hat))
          · rw [hv] at ih2
            repeat refine hP _ _ _ _ ?_
            refine r_at hG3 hg9 hi9 ?_
            repeat refine hP _ _ _ _ ?_
            rw [hl3.1]
            refine And.intro (vp_in_nI (by omega) (by omega)) ?_
            iterate 8 refine hP _ _ _ _ ?_
            refine x_p4 (P := P) (ih2 (sF (sA m3 33 (upd (m3.2 33) (openLk vb n w h g i).length (nI (atN n w h g i)))) 13 (nI ((openLk vb n w h g i).length + 1))) (hm3.tr ((scr.a (by decide)).tr (scr.f (by decide)))) (lsM_p hl3 hat)) ?_ rfl ?_
            · rw [nI_succ]; rfl
            · rw [← upv (i := (openLk vb n w h g i).length) (by omega), nI_succ, ← hl3.1]; rfl
          · have hv : (vb (atN n w h g i)).isNone = false := by cases h8 : vb (atN n w h g i) with
              | none => exact absurd h8 hv
              | some s => rfl
            rw [hv] at ih2
            iterate 3 refine hP _ _ _ _ ?_
            refine x_p4 (P := P) (ih2 m3 hm3 (by rw [if_neg (by decide), List.append_nil]; exact hl3)) ?_ rfl ?_ <;> try (first | rfl | (rw [nI_succ]; rfl))
      iterate 5 refine hP _ _ _ _ ?_
      refine x_p4 (P := P) (lst 0 (by omega) (sF m2 13 0) (hm.tr (scr.f (by decide))) (lsM_0 m2 _)) ?_ rfl ?_ <;> try (first | rfl | (rw [nI_succ]; rfl))
  iterate 2 refine hP _ _ _ _ ?_
  refine x_p4 (P := P) (loop 0 (by omega) ms (scr.rf ms) rfl none none none) ?_ rfl ?_ <;> try (first | rfl | (rw [nI_succ]; rfl))
end NK
end
section
/-! ===== the model: step hidden ===== -/
def opB (vb : Nat → Option Nat) (n w h g s : Nat) : Bool := (List.range n).all fun i => vb (atN n w h g i) != some s
theorem opB_t {vb : Nat → Option Nat} {n w h g s : Nat} : opB vb n w h g s = true ↔ opN vb n w h g s := by
  unfold opB opN
  simp only [List.all_eq_true, List.mem_range, bne_iff_ne, ne_eq]
def hidLk (vb : Nat → Option Nat) (n w h g i : Nat) : List Nat := (List.range i).filter (opB vb n w h g)
def hidL (vb : Nat → Option Nat) (n w h g : Nat) : List Nat := hidLk vb n w h g n
theorem hidLk_s (vb : Nat → Option Nat) (n w h g i : Nat) : hidLk vb n w h g (i + 1) = hidLk vb n w h g i ++ (if opB vb n w h g i then [i] else []) := by
  unfold hidLk
  rw [List.range_succ, List.filter_append]
  congr 1
  simp only [List.filter_cons, List.filter_nil]
def hidR (n w h g all : Nat) (j : Nat) : Nat → Bool := fun e => (List.range j).any fun i => atN n w h g i == e && all.testBit i
def hidG (cb : Nat → Nat) (n w h g all sy : Nat) (j : Nat) : Nat → Nat := fun e => if hidR n w h g all j e then clr (cb e) sy else 0
def hidE (cb : Nat → Nat) (n w h g k : Nat) (u : Nat → Nat) : Option rS := if pcN (orA (fun i => plB cb n w h g (u i) n) k) = k then rOf (hidG cb n w h g (orA (fun i => plB cb n w h g (u i) n) k) (orA (fun i => 2 ^ u i) k) n) (hidR n w h g (orA (fun i => plB cb n w h g (u i) n) k) n) else none
def hidH (cb : Nat → Nat) (vb : Nat → Option Nat) (n w h k g : Nat) : Option rS := ((CC k (hidL vb n w h g).length).drop 0).findSome? fun c => hidE cb n w h g k (fun i => pF (hidL vb n w h g) (pF c i))
def hidS (cb : Nat → Nat) (vb : Nat → Option Nat) (n w h k : Nat) : Option rS := ff (hidH cb vb n w h k) (3 * n) 0
section HD
variable {sc : Nat × (Nat → Int32)} {f : Nat → x_C} {ms : x_S} {tl : List x_C} {bb : Nat × Nat} {n w h d : Nat} {Q : x_O → x_H → Prop} {cb : Nat → Nat} {vb : Nat → Option Nat}
theorem r_leavesC {go : Nat → Nat} (hC : cM ms n cb) (hn : n ≤ 9) (hO : oM ms go) {c m : Nat} (hc : c < n * n) (hc9 : c < 81) {x : Int32} (hx : x = nI m ^^^ (-1)) (hQ : ∀ g : Nat → Int32, oM (sA ms 32 g) (fun e => if e = c then go c ||| clr (cb c) m else go e) → Q (.inl none) (w_M f (sA ms 32 g) tl bb)) : x_run sc x_MM x_EX (d + 1) k_X8_leaves [.ref 26, .int (nI c), .int x] (w_M f ms tl bb) Q := by
  subst hx
  refine r_leaves hc9 (hQ _ ?_)
  intro e he
  show upd (ms.2 32) c (ms.2 32 c ||| (ms.2 27 c &&& (nI m ^^^ (-1)))) e = _ ∧ _
  by_cases hec : e = c
  · subst hec
    rw [pk_us, (hO e he).1, (hC e hc).1, nx_not, nx_or]
    simp only [if_true]
    refine ⟨trivial, Nat.or_lt_two_pow (n := 9) (hO e he).2 (Nat.lt_of_le_of_lt (clr_le _ _) (Nat.lt_of_lt_of_le (hC e hc).2 (Nat.pow_le_pow_right (by omega) hn)))⟩
  · rw [pk_un hec]
    simp only [hec, if_false]
    exact hO e he
theorem plB_9 (cb : Nat → Nat) {n : Nat} (w h g s : Nat) (hn : n ≤ 9) : plB cb n w h g s n < 512 := Nat.lt_of_lt_of_le (plB_lt cb n w h g s n) (Nat.pow_le_pow_right (by omega) hn)
theorem r_hidden (hG : gM ms n w h) (hC : cM ms n cb) (hV : vM ms n vb) {k : Nat} (hk2 : 2 ≤ k) (hk5 : k < 5) (hT : ∀ ms' r, scr ms ms' → hidS cb vb n w h k = some r → resM ms' n r → Q (.inl (some (.int (bI true)))) (w_M f ms' tl bb)) (hF : ∀ ms', scr ms ms' → hidS cb vb n w h k = none → Q (.inl (some (.int (bI false)))) (w_M f ms' tl bb)) : x_run sc x_MM x_EX (d + 3) k_X8_hidden [.ref 26, .int (nI k)] (w_M f ms tl bb) Q := by
  obtain ⟨g1, g2, g3, g4, g5, g6, g7, g8⟩ := hG.2.2.2.le
  refine x_in (M := m_X8_hidden) rfl rfl (Nat.le_of_ble_eq_true rfl) ⟨rfl, rfl, trivial⟩ ?_
  intro P hP
  have loop : ∀ g, g ≤ 3 * n → ∀ m2, scr ms m2 → hidS cb vb n w h k = ff (hidH cb vb n w h k) (3 * n - g) g → ∀ x3 x4 x5 x6 : Option Value, P 2 [some (.ref 26), some (.int (nI k)), some (.int (nI g)), x3, x4, x5, x6] [] (w_M f m2 tl bb) := by
    refine x_lp (3 * n) (fun g hg ih m2 hm hf x3 x4 x5 x6 => ?_)
    have hG2 := hm.g hG
    repeat refine hP _ _ _ _ ?_
    refine b_ge (g) (3 * n) (fun hg9 => ?_) (fun hg9 => ?_) (rfl) (by show Int32.ofInt 3 * m2.1 1 = _; rw [oi3, hG2.1, pk_mul]) (by omega) (by omega)
    · repeat refine hP _ _ _ _ ?_
      exact And.intro rfl (hF m2 hm (by rw [hf, show 3 * n - g = 0 by omega]; rfl))
    · have ih := ih hg9
      have hff : 3 * n - g = 3 * n - (g + 1) + 1 := by omega
      rw [hff] at hf
      have hlm : (hidL vb n w h g).length ≤ n := fl_le _ _ (by simp)
      generalize hl : hidL vb n w h g = l at hlm
      have hm9 : l.length < 10 := by omega
      have hev : hidH cb vb n w h k g = ((CC k l.length).drop 0).findSome? fun c => hidE cb n w h g k (fun i => pF l (pF c i)) := by unfold hidH; rw [hl]
      have whl : ∀ t, t ≤ (CC k l.length).length → ∀ m4, scr ms m4 → lsM m4 l n → (∀ c, (CC k l.length)[t]? = some c → ∀ i, i < k → m4.2 34 i = nI (pF c i)) → hidH cb vb n w h k g = ((CC k l.length).drop t).findSome? (fun c => hidE cb n w h g k (fun i => pF l (pF c i))) → ∀ x4 x5 x6 : Option Value, P 84 [some (.ref 26), some (.int (nI k)), some (.int (nI g)), some (.int (bI (decide (t < (CC k l.length).length)))), x4, x5, x6] [] (w_M f m4 tl bb) := by
        refine x_lp _ (fun t ht ih2 m4 hm4 hl4 hp hfs x4 x5 x6 => ?_)
        repeat refine hP _ _ _ _ ?_
        refine b_ifeq (fun hq => ?_) (fun hq => ?_) (rfl)
        · have hq := of_decide_eq_false hq
          iterate 2 refine hP _ _ _ _ ?_
          refine x_p4 (P := P) (ih m4 hm4 (hf.trans (ff_n (hfs.trans (fs_e (by omega))))) (some (.int (bI (decide (t < (CC k l.length).length))))) x4 x5 x6) ?_ rfl ?_ <;> try (first | rfl | (rw [nI_succ]; rfl))
        · have hq := of_decide_eq_true hq
          have ih2 := ih2 hq
          obtain ⟨c, hc⟩ : ∃ c, (CC k l.length)[t]? = some c := ⟨_, List.getElem?_eq_getElem hq⟩
          obtain ⟨c1, c2, c3⟩ := nx_at hk5 hk2 hm9 hc
          have hp := hp c hc
          have hpk : ∀ m5 : x_S, lsM m5 l n → (∀ i, i < k → m5.2 34 i = nI (pF c i)) → pkM m5 k l.length (pF c) (pF l) := fun m5 e1 e2 => ⟨e1.1, fun i hi => ⟨e2 i hi, c1 i hi⟩, fun j hj => ⟨(e1.2 j hj).1, by have := (e1.2 j hj).2; omega⟩⟩
          have hcell : ∀ i, i < k → pF l (pF c i) < n := fun i hi => (hl4.2 _ (c1 i hi)).2
          generalize hu : (fun i => pF l (pF c i)) = u
          have hue : ∀ i, u i = pF l (pF c i) := fun i => by rw [← hu]
          generalize hall : orA (fun i => plB cb n w h g (u i) n) k = all
          generalize hsy : orA (fun i => 2 ^ u i) k = sy
          have hall9 : all < 512 := by rw [← hall]; exact orA_lt (Nat.le_refl k) (fun j hj => plB_9 cb w h g _ g2)
          have hEv : hidE cb n w h g k (fun i => pF l (pF c i)) = if pcN all = k then rOf (hidG cb n w h g all sy n) (hidR n w h g all n) else none := by rw [hu]; unfold hidE; rw [hall, hsy]
          have tk : ∀ m5 go rs, scr ms m5 → lsM m5 l n → (∀ i, i < k → m5.2 34 i = nI (pF c i)) → m5.1 11 = -1 → m5.1 12 = -1 → oM m5 go → rM m5 rs → hidE cb n w h g k (fun i => pF l (pF c i)) = rOf go rs → ∀ x6 : Option Value, P 222 [some (.ref 26), some (.int (nI k)), some (.int (nI g)), some (.int (bI true)), some (.int (nI all)), some (.int (nI sy)), x6] [] (w_M f m5 tl bb) := by
            intro m5 go rs hm5 hl5 hp5 h11 h12 hO hR he x6
            repeat refine hP _ _ _ _ ?_
            refine r_takesN hO ?_
            repeat refine hP _ _ _ _ ?_
            refine b_ifeq (fun ha => ?_) (fun ha => ?_) (rfl)
            · have he : hidE cb n w h g k (fun i => pF l (pF c i)) = none := he.trans (by unfold rOf; rw [ha]; rfl)
              have hfs9 := hfs.trans (fs_n hc he)
              repeat refine hP _ _ _ _ ?_
              refine r_next (k := k) (m := l.length) (by omega) ?_ (by omega) (hpk m5 hl5 hp5) (fun i gg hn hgg => ?_) (fun hn => ?_)
              · rcases Nat.lt_or_ge l.length k with h9 | h9
                · rw [(CC_0 k hk5 hk2 _ hm9).2 h9] at hq; exact absurd hq (Nat.not_lt_zero _)
                · exact h9
              · obtain ⟨c', d1, d2⟩ := c3 i hn
                iterate 2 refine hP _ _ _ _ ?_
                refine x_p4 (P := P) (ih2 (sA m5 34 gg) (hm5.tr (scr.a (by decide))) hl5 (fun c9 h9 i9 hi9 => by rw [d1] at h9; cases h9; rw [d2 i9 hi9]; exact hgg i9 hi9) hfs9 (some (.int (nI all))) (some (.int (nI sy))) x6) ?_ rfl ?_
                · rw [b_len (List.getElem?_eq_some_iff.mp d1).1]; rfl
                · rfl
              · have h9 := c2 hn
                iterate 2 refine hP _ _ _ _ ?_
                refine x_p4 (P := P) (ih2 m5 hm5 hl5 (fun c9 h9 => by rw [List.getElem?_eq_none (by omega)] at h9; cases h9) hfs9 (some (.int (nI all))) (some (.int (nI sy))) x6) ?_ rfl ?_
                · rw [b_nle (by omega)]; rfl
                · rfl
            · repeat refine hP _ _ _ _ ?_
              refine And.intro rfl (hT m5 (none, go, rs) hm5 ?_ ⟨⟨h11, h12⟩, hO, hR⟩)
              exact hf.trans (ff_s (hfs.trans (fs_s hc (he.trans (by unfold rOf; rw [ha]; rfl)))))
          have hm5 : scr ms (noneM m4) := hm4.tr (noneM_scr m4)
          have hC5 := hm5.c hC
          have hG5 := hm5.g hG
          have hcl5 := noneM_cl m4
          rw [b_len hq]
          have mid : P 157 [some (.ref 26), some (.int (nI k)), some (.int (nI g)), some (.int (bI true)), some (.int (nI all)), some (.int (nI sy)), some (.int (nI 0))] [] (w_M f (noneM m4) tl bb) := by
            by_cases hpc : pcN all = k
            · rw [if_pos hpc] at hEv
              have lp3 : ∀ i, i ≤ n → ∀ m6, scr ms m6 → lsM m6 l n → (∀ i, i < k → m6.2 34 i = nI (pF c i)) → m6.1 11 = -1 → m6.1 12 = -1 → oM m6 (hidG cb n w h g all sy i) → rM m6 (hidR n w h g all i) → P 157 [some (.ref 26), some (.int (nI k)), some (.int (nI g)), some (.int (bI true)), some (.int (nI all)), some (.int (nI sy)), some (.int (nI i))] [] (w_M f m6 tl bb) := by
                refine x_lp n (fun i hi ih3 m6 hm6 hl6 hp6 h11 h12 hO hR => ?_)
                have hG6 := hm6.g hG
                have hC6 := hm6.c hC
                repeat refine hP _ _ _ _ ?_
                refine b_ge (i) (n) (fun hi9 => ?_) (fun hi9 => ?_) (rfl) (hG6.1) (by omega) (by omega)
                · have hin : i = n := by omega
                  subst hin
                  refine x_p4 (P := P) (tk m6 _ _ hm6 hl6 hp6 h11 h12 hO hR hEv (some (.int (nI i)))) ?_ rfl ?_ <;> try (first | rfl | (rw [nI_succ]; rfl))
                · have hat := atN_lt (w := w) (h := h) hG.2.2.2 hg9 hi9
                  have ih3 := ih3 hi9
                  repeat refine hP _ _ _ _ ?_
                  refine r_countOf hall9 ?_
                  repeat refine hP _ _ _ _ ?_
                  refine b_ne ((pcN all)) (k) (fun h8 => ?_) (fun h8 => ?_) (rfl) (rfl) (by omega) (by omega)
                  · exact absurd hpc h8
                  · repeat refine hP _ _ _ _ ?_
                    refine b_ifne (fun h7 => ?_) (fun h7 => ?_) (bit1 hall9 (by omega))
                    · repeat refine hP _ _ _ _ ?_
                      refine r_at hG6 hg9 hi9 ?_
                      repeat refine hP _ _ _ _ ?_
                      refine And.intro (vp_in_nI (by omega) (by omega)) ?_
                      repeat refine hP _ _ _ _ ?_
                      refine r_at (ms := sA m6 31 (upd (m6.2 31) (nI (atN n w h g i)).toNatClampNeg (vp_nar .boolean (Int32.ofInt 1)))) hG6 hg9 hi9 ?_
                      repeat refine hP _ _ _ _ ?_
                      refine r_leavesC (ms := sA m6 31 (upd (m6.2 31) (nI (atN n w h g i)).toNatClampNeg (vp_nar .boolean (Int32.ofInt 1)))) hC6 g2 hO hat (by omega) rfl (fun gg hgg => ?_)
                      iterate 2 refine hP _ _ _ _ ?_
                      refine x_p4 (P := P) (ih3 (sA (sA m6 31 (upd (m6.2 31) (nI (atN n w h g i)).toNatClampNeg (vp_nar .boolean (Int32.ofInt 1)))) 32 gg) (hm6.tr ((scr.a (by decide)).tr (scr.a (by decide)))) hl6 hp6 h11 h12 (oM_congr hgg ?_) ?_) ?_ rfl ?_ <;> try (first | rfl | (rw [nI_succ]; rfl))
                      · intro e he
                        by_cases hea : e = atN n w h g i
                        · subst hea
                          simp only [if_true]
                          unfold hidG hidR
                          rw [any_s, h7]
                          simp only [Bool.and_true, beq_self_eq_true, Bool.or_true, if_true]
                          split
                          · rw [Nat.or_self]
                          · rw [Nat.zero_or]
                        · simp only [hea, if_false]
                          unfold hidG hidR
                          rw [any_s, beq_eq_false_iff_ne.mpr (fun h => hea h.symm), Bool.false_and, Bool.or_false]
                      · intro e he
                        show upd (m6.2 31) (nI (atN n w h g i)).toNatClampNeg (vp_nar .boolean (Int32.ofInt 1)) e = _
                        rw [upv (by omega)]
                        unfold hidR
                        rw [any_s]
                        by_cases hea : e = atN n w h g i
                        · subst hea
                          rw [pk_us, h7, beq_self_eq_true, Bool.and_true, Bool.or_true]
                          rfl
                        · rw [pk_un hea, hR e he, beq_eq_false_iff_ne.mpr (fun h => hea h.symm), Bool.false_and, Bool.or_false]
                          rfl
                    · iterate 3 refine hP _ _ _ _ ?_
                      refine x_p4 (P := P) (ih3 m6 hm6 hl6 hp6 h11 h12 (oM_congr hO ?_) ?_) ?_ rfl ?_ <;> try (first | rfl | (rw [nI_succ]; rfl))
                      · intro e he
                        unfold hidG hidR
                        rw [any_s, h7, Bool.and_false, Bool.or_false]
                      · intro e he
                        rw [hR e he]
                        unfold hidR
                        rw [any_s, h7, Bool.and_false, Bool.or_false]
              exact lp3 0 (by omega) (noneM m4) hm5 hl4 hp hcl5.1 hcl5.2.1 (fun e he => ⟨(hcl5.2.2 e he).2, by unfold hidG hidR; simp⟩) (fun e he => (hcl5.2.2 e he).1)
            · rw [if_neg hpc] at hEv
              repeat refine hP _ _ _ _ ?_
              refine b_ge 0 n (fun h0 => by omega) (fun _ => ?_) rfl hG5.1 (by omega) (by omega)
              repeat refine hP _ _ _ _ ?_
              refine r_countOf hall9 ?_
              have hpl : pcN all ≤ 9 := pcA_le _ _
              repeat refine hP _ _ _ _ ?_
              refine b_ne ((pcN all)) (k) (fun h8 => ?_) (fun h8 => ?_) (rfl) (rfl) (by omega) (by omega)
              · refine x_p4 (P := P) (tk (noneM m4) (fun _ => 0) (fun _ => false) hm5 hl4 hp hcl5.1 hcl5.2.1 (fun e he => ⟨(hcl5.2.2 e he).2, show 0 < 512 by decide⟩) (fun e he => (hcl5.2.2 e he).1) (hEv.trans rfl) (some (.int (nI 0)))) ?_ rfl ?_ <;> try (first | rfl | (rw [nI_succ]; rfl))
              · exact absurd h8 hpc
          have orl : ∀ i, i ≤ k → P 101 [some (.ref 26), some (.int (nI k)), some (.int (nI g)), some (.int (bI true)), some (.int (nI (orA (fun i => plB cb n w h g (u i) n) i))), some (.int (nI (orA (fun i => 2 ^ u i) i))), some (.int (nI i))] [] (w_M f (noneM m4) tl bb) := by
            refine x_lp k (fun i hi ih3 => ?_)
            repeat refine hP _ _ _ _ ?_
            refine b_ge (i) (k) (fun hi9 => ?_) (fun hi9 => ?_) (rfl) (rfl) (by omega) (by omega)
            · have hik : i = k := by omega
              subst hik
              rw [hall, hsy]
              iterate 2 refine hP _ _ _ _ ?_
              refine x_p4 (P := P) (mid) ?_ rfl ?_ <;> try (first | rfl | (rw [nI_succ]; rfl))
            · have e1 := c1 i hi9
              have e2 := hcell i hi9
              repeat refine hP _ _ _ _ ?_
              refine And.intro (vp_in_nI (by omega) (by omega)) ?_
              rw [ldv (f := (noneM m4).2 34) (hp i hi9) (by omega)]
              repeat refine hP _ _ _ _ ?_
              refine And.intro (vp_in_nI (by omega) (by omega)) ?_
              rw [ldv (f := (noneM m4).2 33) (hl4.2 _ e1).1 (by omega)]
              repeat refine hP _ _ _ _ ?_
              refine r_places hG5 hC5 hg9 e2 ?_
              repeat refine hP _ _ _ _ ?_
              refine And.intro (vp_in_nI (by omega) (by omega)) ?_
              rw [ldv (f := (noneM m4).2 34) (hp i hi9) (by omega)]
              repeat refine hP _ _ _ _ ?_
              refine And.intro (vp_in_nI (by omega) (by omega)) ?_
              rw [ldv (f := (noneM m4).2 33) (hl4.2 _ e1).1 (by omega)]
              iterate 5 refine hP _ _ _ _ ?_
              refine x_p4 (P := P) (ih3 hi9) ?_ rfl ?_
              · rw [show orA (fun i => plB cb n w h g (u i) n) (i + 1) = orA (fun i => plB cb n w h g (u i) n) i ||| plB cb n w h g (pF l (pF c i)) n by rw [← hue]; rfl, show orA (fun i => 2 ^ u i) (i + 1) = orA (fun i => 2 ^ u i) i ||| 2 ^ (pF l (pF c i)) by rw [← hue]; rfl, ← nx_or, ← nx_or, ← sh1 (by omega), nI_succ]; rfl
              · rfl
          repeat refine hP _ _ _ _ ?_
          refine r_none ?_
          iterate 6 refine hP _ _ _ _ ?_
          refine x_p4 (P := P) (orl 0 (by omega)) ?_ rfl ?_ <;> try (first | rfl | (rw [nI_succ]; rfl))
      have fin : ∀ m3, scr ms m3 → lsM m3 l n → P 65 [some (.ref 26), some (.int (nI k)), some (.int (nI g)), some (.int (nI n)), x4, x5, x6] [] (w_M f m3 tl bb) := by
        intro m3 hm3 hl3
        have go : ∀ x : Int32, x = bI (decide (0 < (CC k l.length).length)) → P 78 [some (.ref 26), some (.int (nI k)), some (.int (nI g)), some (.int (nI n)), x4, x5, x6] [.int x] (w_M f m3 tl bb) := by
          intro x hx
          subst hx
          repeat refine hP _ _ _ _ ?_
          refine r_first (by omega) (fun gg hgg => ?_)
          refine x_p4 (P := P) (whl 0 (by omega) (sA m3 34 gg) (hm3.tr (scr.a (by decide))) hl3 (fun c hc i hi => ?_) hev x4 x5 x6) ?_ rfl ?_ <;> try (first | rfl | (rw [nI_succ]; rfl))
          show gg i = _
          rw [hgg i hi]
          rcases Nat.lt_or_ge l.length k with h9 | h9
          · rw [(CC_0 k hk5 hk2 _ hm9).2 h9] at hc; cases hc
          · rw [(CC_0 k hk5 hk2 _ hm9).1 h9] at hc
            cases hc
            unfold pF
            simp [List.getD, hi]
        repeat refine hP _ _ _ _ ?_
        refine b_lt (l.length) (k) (fun h9 => ?_) (fun h9 => ?_) (hl3.1) (rfl) (by omega) (by omega)
        · refine hP _ _ _ _ ?_
          refine x_p4 (P := P) (go (bI false) ?_) ?_ rfl ?_
          · rw [(CC_0 k hk5 hk2 _ hm9).2 h9]; rfl
          · rfl
          · rfl
        · iterate 2 refine hP _ _ _ _ ?_
          refine x_p4 (P := P) (go (bI true) ?_) ?_ rfl ?_
          · rw [b_len]
            exact (List.getElem?_eq_some_iff.mp ((CC_0 k hk5 hk2 _ hm9).1 h9)).1
          · rfl
          · rfl
      have lst : ∀ i, i ≤ n → ∀ m3, scr ms m3 → lsM m3 (hidLk vb n w h g i) n → P 19 [some (.ref 26), some (.int (nI k)), some (.int (nI g)), some (.int (nI i)), x4, x5, x6] [] (w_M f m3 tl bb) := by
        refine x_lp n (fun i hi ih2 m3 hm3 hl3 => ?_)
        have hG3 := hm3.g hG
        have hV3 := hm3.v hV
        repeat refine hP _ _ _ _ ?_
        refine b_ge (i) (n) (fun hi9 => ?_) (fun hi9 => ?_) (rfl) (hG3.1) (by omega) (by omega)
        · have hin : i = n := by omega
          subst hin
          refine x_p4 (P := P) (fin m3 hm3 (hl ▸ hl3)) ?_ rfl ?_ <;> try (first | rfl | (rw [nI_succ]; rfl))
        · have hlk : (hidLk vb n w h g i).length ≤ i := fl_le _ _ (by simp)
          have ih2 := ih2 hi9
          rw [hidLk_s] at ih2
          have hpush : opB vb n w h g i = true → P 39 [some (.ref 26), some (.int (nI k)), some (.int (nI g)), some (.int (nI i)), x4, x5, x6] [] (w_M f m3 tl bb) := by
            intro hv
            rw [hv] at ih2
            repeat refine hP _ _ _ _ ?_
            rw [hl3.1]
            refine And.intro (vp_in_nI (by omega) (by omega)) ?_
            iterate 8 refine hP _ _ _ _ ?_
            refine x_p4 (P := P) (ih2 (sF (sA m3 33 (upd (m3.2 33) (hidLk vb n w h g i).length (nI i))) 13 (nI ((hidLk vb n w h g i).length + 1))) (hm3.tr ((scr.a (by decide)).tr (scr.f (by decide)))) (lsM_p hl3 hi9)) ?_ rfl ?_
            · rw [nI_succ]; rfl
            · rw [← upv (i := (hidLk vb n w h g i).length) (by omega), nI_succ, ← hl3.1]; rfl
          repeat refine hP _ _ _ _ ?_
          refine r_isOpenIn hG3 hV3 hg9 hi9 (fun ho => ?_) (fun ho => ?_)
          · repeat refine hP _ _ _ _ ?_
            refine And.intro (fun _ => ?_) (fun h => absurd (show bI true ≠ 0 by decide) h)
            exact hpush (opB_t.mpr ho)
          · have hv : opB vb n w h g i = false := by cases h8 : opB vb n w h g i with
              | true => exact absurd (opB_t.mp h8) ho
              | false => rfl
            rw [hv] at ih2
            repeat refine hP _ _ _ _ ?_
            refine And.intro (fun h => absurd (show bI false = 0 by decide) h) (fun _ => ?_)
            iterate 3 refine hP _ _ _ _ ?_
            refine x_p4 (P := P) (ih2 m3 hm3 (by rw [if_neg (by decide), List.append_nil]; exact hl3)) ?_ rfl ?_ <;> try (first | rfl | (rw [nI_succ]; rfl))
      iterate 5 refine hP _ _ _ _ ?_
      refine x_p4 (P := P) (lst 0 (by omega) (sF m2 13 0) (hm.tr (scr.f (by decide))) (lsM_0 m2 _)) ?_ rfl ?_ <;> try (first | rfl | (rw [nI_succ]; rfl))
  iterate 2 refine hP _ _ _ _ ?_
  refine x_p4 (P := P) (loop 0 (by omega) ms (scr.rf ms) rfl none none none none) ?_ rfl ?_ <;> try (first | rfl | (rw [nI_succ]; rfl))
end HD
end
section
/-! ===== the model: step fish ===== -/
def fisLk (cb : Nat → Nat) (n w h fr s i : Nat) : List Nat := ((List.range i).map (fr + ·)).filter fun g => decide (2 ≤ pcN (plB cb n w h g s n))
def fisL (cb : Nat → Nat) (n w h fr s : Nat) : List Nat := fisLk cb n w h fr s n
theorem fisLk_s (cb : Nat → Nat) (n w h fr s i : Nat) : fisLk cb n w h fr s (i + 1) = fisLk cb n w h fr s i ++ (if decide (2 ≤ pcN (plB cb n w h (fr + i) s n)) then [fr + i] else []) := by
  unfold fisLk
  rw [List.range_succ, List.map_append, List.filter_append]
  congr 1
  simp only [List.map_cons, List.map_nil, List.filter_cons, List.filter_nil]
/-- e is met in the lines before, or among the first j places of line fr + a; lines by pk -/
def fsX (n w h fr all : Nat) (pk : Nat → Bool) (a j e : Nat) : Bool := ((List.range a).any fun t => pk (fr + t) && (List.range n).any fun i => atN n w h (fr + t) i == e && all.testBit i) || (pk (fr + a) && (List.range j).any fun i => atN n w h (fr + a) i == e && all.testBit i)
theorem fsX_n (n w h fr all : Nat) (pk : Nat → Bool) (a e : Nat) : fsX n w h fr all pk (a + 1) 0 e = fsX n w h fr all pk a n e := by
  unfold fsX
  rw [any_s]
  simp
theorem fsX_s (n w h fr all : Nat) (pk : Nat → Bool) (a j e : Nat) : fsX n w h fr all pk a (j + 1) e = (fsX n w h fr all pk a j e || (pk (fr + a) && (atN n w h (fr + a) j == e && all.testBit j))) := by
  unfold fsX
  rw [any_s, Bool.or_assoc, ← Bool.and_or_distrib_left]
def fpk (k : Nat) (u : Nat → Nat) (g : Nat) : Bool := (List.range k).any fun i => u i == g
def fisR (cb : Nat → Nat) (n w h fr s all k : Nat) (u : Nat → Nat) (a j : Nat) : Nat → Bool := fun e => (cb e).testBit s && fsX n w h fr all (fpk k u) a j e
def fisG (cb : Nat → Nat) (n w h fr s all k : Nat) (u : Nat → Nat) (a j : Nat) : Nat → Nat := fun e => if (cb e).testBit s && fsX n w h fr all (fun g => !fpk k u g) a j e then cb e &&& 2 ^ s else 0
def fisE (cb : Nat → Nat) (n w h fr s k : Nat) (u : Nat → Nat) : Option rS := if pcN (orA (fun i => plB cb n w h (u i) s n) k) = k then rOf (fisG cb n w h fr s (orA (fun i => plB cb n w h (u i) s n) k) k u n 0) (fisR cb n w h fr s (orA (fun i => plB cb n w h (u i) s n) k) k u n 0) else none
def fisH (cb : Nat → Nat) (n w h fr k s : Nat) : Option rS := ((CC k (fisL cb n w h fr s).length).drop 0).findSome? fun c => fisE cb n w h fr s k (fun i => pF (fisL cb n w h fr s) (pF c i))
def fisS (cb : Nat → Nat) (n w h fr k : Nat) : Option rS := ff (fisH cb n w h fr k) n 0
section FI
variable {sc : Nat × (Nat → Int32)} {f : Nat → x_C} {ms : x_S} {tl : List x_C} {bb : Nat × Nat} {n w h d : Nat} {Q : x_O → x_H → Prop} {cb : Nat → Nat}
theorem r_fish (hG : gM ms n w h) (hC : cM ms n cb) {k fr : Nat} (hk2 : 2 ≤ k) (hk5 : k < 5) (hfr : fr + n ≤ 2 * n) (hT : ∀ ms' r, scr ms ms' → fisS cb n w h fr k = some r → resM ms' n r → Q (.inl (some (.int (bI true)))) (w_M f ms' tl bb)) (hF : ∀ ms', scr ms ms' → fisS cb n w h fr k = none → Q (.inl (some (.int (bI false)))) (w_M f ms' tl bb)) : x_run sc x_MM x_EX (d + 3) k_X8_fish [.ref 26, .int (nI k), .int (nI fr)] (w_M f ms tl bb) Q := by
  obtain ⟨g1, g2, g3, g4, g5, g6, g7, g8⟩ := hG.2.2.2.le
  refine x_in (M := m_X8_fish) rfl rfl (Nat.le_of_ble_eq_true rfl) ⟨rfl, rfl, rfl, trivial⟩ ?_
  intro P hP
  have loop : ∀ s, s ≤ n → ∀ m2, scr ms m2 → fisS cb n w h fr k = ff (fisH cb n w h fr k) (n - s) s → ∀ x4 x5 x6 x7 : Option Value, P 2 [some (.ref 26), some (.int (nI k)), some (.int (nI fr)), some (.int (nI s)), x4, x5, x6, x7] [] (w_M f m2 tl bb) := by
    refine x_lp n (fun s hs ih m2 hm hf x4 x5 x6 x7 => ?_)
    have hG2 := hm.g hG
    repeat refine hP _ _ _ _ ?_
    refine b_ge (s) (n) (fun hs9 => ?_) (fun hs9 => ?_) (rfl) (hG2.1) (by omega) (by omega)
    · repeat refine hP _ _ _ _ ?_
      exact And.intro rfl (hF m2 hm (by rw [hf, show n - s = 0 by omega]; rfl))
    · have ih := ih hs9
      have hff : n - s = n - (s + 1) + 1 := by omega
      rw [hff] at hf
      have hlm : (fisL cb n w h fr s).length ≤ n := fl_le _ _ (by simp)
      generalize hl : fisL cb n w h fr s = l at hlm
      have hm9 : l.length < 10 := by omega
      have hev : fisH cb n w h fr k s = ((CC k l.length).drop 0).findSome? fun c => fisE cb n w h fr s k (fun i => pF l (pF c i)) := by unfold fisH; rw [hl]
      have whl : ∀ t, t ≤ (CC k l.length).length → ∀ m4, scr ms m4 → lsM m4 l (3 * n) → (∀ c, (CC k l.length)[t]? = some c → ∀ i, i < k → m4.2 34 i = nI (pF c i)) → fisH cb n w h fr k s = ((CC k l.length).drop t).findSome? (fun c => fisE cb n w h fr s k (fun i => pF l (pF c i))) → ∀ x5 x6 x7 : Option Value, P 93 [some (.ref 26), some (.int (nI k)), some (.int (nI fr)), some (.int (nI s)), some (.int (bI (decide (t < (CC k l.length).length)))), x5, x6, x7] [] (w_M f m4 tl bb) := by
        refine x_lp _ (fun t ht ih2 m4 hm4 hl4 hp hfs x5 x6 x7 => ?_)
        repeat refine hP _ _ _ _ ?_
        refine b_ifeq (fun hq => ?_) (fun hq => ?_) (rfl)
        · have hq := of_decide_eq_false hq
          iterate 2 refine hP _ _ _ _ ?_
          refine x_p4 (P := P) (ih m4 hm4 (hf.trans (ff_n (hfs.trans (fs_e (by omega))))) (some (.int (bI (decide (t < (CC k l.length).length))))) x5 x6 x7) ?_ rfl ?_ <;> try (first | rfl | (rw [nI_succ]; rfl))
        · have hq := of_decide_eq_true hq
          have ih2 := ih2 hq
          obtain ⟨c, hc⟩ : ∃ c, (CC k l.length)[t]? = some c := ⟨_, List.getElem?_eq_getElem hq⟩
          obtain ⟨c1, c2, c3⟩ := nx_at hk5 hk2 hm9 hc
          have hp := hp c hc
          have hpk : ∀ m5 : x_S, lsM m5 l (3 * n) → (∀ i, i < k → m5.2 34 i = nI (pF c i)) → pkM m5 k l.length (pF c) (pF l) := fun m5 e1 e2 => ⟨e1.1, fun i hi => ⟨e2 i hi, c1 i hi⟩, fun j hj => ⟨(e1.2 j hj).1, by have := (e1.2 j hj).2; omega⟩⟩
          have hcell : ∀ i, i < k → pF l (pF c i) < 3 * n := fun i hi => (hl4.2 _ (c1 i hi)).2
          generalize hu : (fun i => pF l (pF c i)) = u
          have hue : ∀ i, u i = pF l (pF c i) := fun i => by rw [← hu]
          generalize hall : orA (fun i => plB cb n w h (u i) s n) k = all
          have hall9 : all < 512 := by rw [← hall]; exact orA_lt (Nat.le_refl k) (fun j hj => plB_9 cb w h _ s g2)
          have hEv : fisE cb n w h fr s k (fun i => pF l (pF c i)) = if pcN all = k then rOf (fisG cb n w h fr s all k u n 0) (fisR cb n w h fr s all k u n 0) else none := by rw [hu]; unfold fisE; rw [hall]
          have tk : ∀ m5 go rs, scr ms m5 → lsM m5 l (3 * n) → (∀ i, i < k → m5.2 34 i = nI (pF c i)) → m5.1 11 = -1 → m5.1 12 = -1 → oM m5 go → rM m5 rs → fisE cb n w h fr s k (fun i => pF l (pF c i)) = rOf go rs → ∀ x6 x7 : Option Value, P 260 [some (.ref 26), some (.int (nI k)), some (.int (nI fr)), some (.int (nI s)), some (.int (bI true)), some (.int (nI all)), x6, x7] [] (w_M f m5 tl bb) := by
            intro m5 go rs hm5 hl5 hp5 h11 h12 hO hR he x6 x7
            repeat refine hP _ _ _ _ ?_
            refine r_takesN hO ?_
            repeat refine hP _ _ _ _ ?_
            refine b_ifeq (fun ha => ?_) (fun ha => ?_) (rfl)
            · have he : fisE cb n w h fr s k (fun i => pF l (pF c i)) = none := he.trans (by unfold rOf; rw [ha]; rfl)
              have hfs9 := hfs.trans (fs_n hc he)
              repeat refine hP _ _ _ _ ?_
              refine r_next (k := k) (m := l.length) (by omega) ?_ (by omega) (hpk m5 hl5 hp5) (fun i gg hn hgg => ?_) (fun hn => ?_)
              · rcases Nat.lt_or_ge l.length k with h9 | h9
                · rw [(CC_0 k hk5 hk2 _ hm9).2 h9] at hq; exact absurd hq (Nat.not_lt_zero _)
                · exact h9
              · obtain ⟨c', d1, d2⟩ := c3 i hn
                iterate 2 refine hP _ _ _ _ ?_
                refine x_p4 (P := P) (ih2 (sA m5 34 gg) (hm5.tr (scr.a (by decide))) hl5 (fun c9 h9 i9 hi9 => by rw [d1] at h9; cases h9; rw [d2 i9 hi9]; exact hgg i9 hi9) hfs9 (some (.int (nI all))) x6 x7) ?_ rfl ?_
                · rw [b_len (List.getElem?_eq_some_iff.mp d1).1]; rfl
                · rfl
              · have h9 := c2 hn
                iterate 2 refine hP _ _ _ _ ?_
                refine x_p4 (P := P) (ih2 m5 hm5 hl5 (fun c9 h9 => by rw [List.getElem?_eq_none (by omega)] at h9; cases h9) hfs9 (some (.int (nI all))) x6 x7) ?_ rfl ?_
                · rw [b_nle (by omega)]; rfl
                · rfl
            · repeat refine hP _ _ _ _ ?_
              refine And.intro rfl (hT m5 (none, go, rs) hm5 ?_ ⟨⟨h11, h12⟩, hO, hR⟩)
              exact hf.trans (ff_s (hfs.trans (fs_s hc (he.trans (by unfold rOf; rw [ha]; rfl)))))
          have hm5 : scr ms (noneM m4) := hm4.tr (noneM_scr m4)
          have hC5 := hm5.c hC
          have hG5 := hm5.g hG
          have hcl5 := noneM_cl m4
          rw [b_len hq]
          have mid : P 145 [some (.ref 26), some (.int (nI k)), some (.int (nI fr)), some (.int (nI s)), some (.int (bI true)), some (.int (nI all)), some (.int (nI fr)), x7] [] (w_M f (noneM m4) tl bb) := by
            by_cases hpc : pcN all = k
            · rw [if_pos hpc] at hEv
              have lp3 : ∀ a, a ≤ n → ∀ m6, scr ms m6 → lsM m6 l (3 * n) → (∀ i, i < k → m6.2 34 i = nI (pF c i)) → m6.1 11 = -1 → m6.1 12 = -1 → oM m6 (fisG cb n w h fr s all k u a 0) → rM m6 (fisR cb n w h fr s all k u a 0) → ∀ x7 : Option Value, P 145 [some (.ref 26), some (.int (nI k)), some (.int (nI fr)), some (.int (nI s)), some (.int (bI true)), some (.int (nI all)), some (.int (nI (fr + a))), x7] [] (w_M f m6 tl bb) := by
                refine x_lp n (fun a ha ih3 m6 hm6 hl6 hp6 h11 h12 hO hR x7 => ?_)
                have hG6 := hm6.g hG
                repeat refine hP _ _ _ _ ?_
                refine b_ge (fr + a) (fr + n) (fun ha9 => ?_) (fun ha9 => ?_) (rfl) (by show nI fr + m6.1 1 = _; rw [hG6.1, nI_add]) (by omega) (by omega)
                · have hin : a = n := by omega
                  subst hin
                  refine x_p4 (P := P) (tk m6 _ _ hm6 hl6 hp6 h11 h12 hO hR hEv (some (.int (nI (fr + a)))) x7) ?_ rfl ?_ <;> try (first | rfl | (rw [nI_succ]; rfl))
                · have ha9 : a < n := by omega
                  have ih3 := ih3 ha9
                  have hga : fr + a < 3 * n := by omega
                  have lp4 : ∀ j, j ≤ n → ∀ m7, scr ms m7 → lsM m7 l (3 * n) → (∀ i, i < k → m7.2 34 i = nI (pF c i)) → m7.1 11 = -1 → m7.1 12 = -1 → oM m7 (fisG cb n w h fr s all k u a j) → rM m7 (fisR cb n w h fr s all k u a j) → P 168 [some (.ref 26), some (.int (nI k)), some (.int (nI fr)), some (.int (nI s)), some (.int (bI true)), some (.int (nI all)), some (.int (nI (fr + a))), some (.int (nI j))] [] (w_M f m7 tl bb) := by
                    refine x_lp n (fun j hj ih4 m7 hm7 hl7 hp7 h11 h12 hO hR => ?_)
                    have hG7 := hm7.g hG
                    have hC7 := hm7.c hC
                    repeat refine hP _ _ _ _ ?_
                    refine b_ge (j) (n) (fun hj9 => ?_) (fun hj9 => ?_) (rfl) (hG7.1) (by omega) (by omega)
                    · have hjn : j = n := by omega
                      subst hjn
                      iterate 2 refine hP _ _ _ _ ?_
                      refine x_p4 (P := P) (ih3 m7 hm7 hl7 hp7 h11 h12 (oM_congr hO (fun e he => by unfold fisG; rw [fsX_n])) (fun e he => by rw [hR e he]; unfold fisR; rw [fsX_n]) (some (.int (nI j)))) ?_ rfl ?_
                      · rw [show nI (fr + (a + 1)) = nI (fr + a) + 1 from nI_succ _]; rfl
                      · rfl
                    · have hat := atN_lt (w := w) (h := h) hG.2.2.2 hga hj9
                      have ih4 := ih4 hj9
                      have h29 := hC.lt g2 hat
                      have skip : ((cb (atN n w h (fr + a) j)).testBit s && all.testBit j) = false → P 248 [some (.ref 26), some (.int (nI k)), some (.int (nI fr)), some (.int (nI s)), some (.int (bI true)), some (.int (nI all)), some (.int (nI (fr + a))), some (.int (nI j))] [] (w_M f m7 tl bb) := by
                        intro hno
                        have key : ∀ (pk : Nat → Bool) e, ((cb e).testBit s && fsX n w h fr all pk a (j + 1) e) = ((cb e).testBit s && fsX n w h fr all pk a j e) := by
                          intro pk e
                          rw [fsX_s]
                          by_cases hea : atN n w h (fr + a) j = e
                          · subst hea
                            cases h8 : (cb (atN n w h (fr + a) j)).testBit s with
                            | false => rfl
                            | true =>
                              rw [h8, Bool.true_and] at hno
                              rw [hno, Bool.and_false, Bool.and_false, Bool.or_false]
                          · rw [beq_eq_false_iff_ne.mpr hea, Bool.false_and, Bool.and_false, Bool.or_false]
                        iterate 2 refine hP _ _ _ _ ?_
                        refine x_p4 (P := P) (ih4 m7 hm7 hl7 hp7 h11 h12 (oM_congr hO (fun e he => by unfold fisG; rw [key])) (fun e he => by rw [hR e he]; unfold fisR; rw [key])) ?_ rfl ?_ <;> try (first | rfl | (rw [nI_succ]; rfl))
                      repeat refine hP _ _ _ _ ?_
                      refine b_ifeq (fun hb => ?_) (fun hb => ?_) (bit1 hall9 (by omega))
                      · exact skip (by rw [hb, Bool.and_false])
                      · repeat refine hP _ _ _ _ ?_
                        refine r_at hG7 hga hj9 ?_
                        repeat refine hP _ _ _ _ ?_
                        refine r_has (b := cb (atN n w h (fr + a) j)) (by omega) (by omega) (hC7 _ hat).1 h29 ?_
                        repeat refine hP _ _ _ _ ?_
                        refine b_ifne (fun hh => ?_) (fun hh => ?_) (rfl)
                        · repeat refine hP _ _ _ _ ?_
                          refine r_isPicked (k := k) (m := l.length) (by omega) (by omega) (by omega) (hpk m7 hl7 hp7) ?_
                          have hpe : ((List.range k).any fun i => pF l (pF c i) == fr + a) = fpk k u (fr + a) := by rw [← hu]; rfl
                          rw [hpe]
                          repeat refine hP _ _ _ _ ?_
                          refine b_ifeq (fun h7 => ?_) (fun h7 => ?_) (rfl)
                          · repeat refine hP _ _ _ _ ?_
                            refine r_at hG7 hga hj9 ?_
                            repeat refine hP _ _ _ _ ?_
                            refine r_leavesN hC7 g2 hO hat (by omega) (sh1 (by omega)) (fun gg hgg => ?_)
                            iterate 2 refine hP _ _ _ _ ?_
                            refine x_p4 (P := P) (ih4 (sA m7 32 gg) (hm7.tr (scr.a (by decide))) hl7 hp7 h11 h12 (oM_congr hgg ?_) ?_) ?_ rfl ?_ <;> try (first | rfl | (rw [nI_succ]; rfl))
                            · intro e he
                              by_cases hea : e = atN n w h (fr + a) j
                              · subst hea
                                simp only [if_true]
                                unfold fisG
                                rw [fsX_s, h7, hh, hb]
                                simp only [Bool.not_false, Bool.true_and, Bool.and_true, beq_self_eq_true, Bool.or_true, if_true]
                                split
                                · rw [Nat.or_self]
                                · rw [Nat.zero_or]
                              · simp only [hea, if_false]
                                unfold fisG
                                rw [fsX_s, beq_eq_false_iff_ne.mpr (fun h => hea h.symm), Bool.false_and, Bool.and_false, Bool.or_false]
                            · intro e he
                              show m7.2 31 e = _
                              rw [hR e he]
                              unfold fisR
                              rw [fsX_s, h7, Bool.false_and, Bool.or_false]
                          · repeat refine hP _ _ _ _ ?_
                            refine r_at hG7 hga hj9 ?_
                            repeat refine hP _ _ _ _ ?_
                            refine And.intro (vp_in_nI (by omega) (by omega)) ?_
                            iterate 3 refine hP _ _ _ _ ?_
                            refine x_p4 (P := P) (ih4 (sA m7 31 (upd (m7.2 31) (nI (atN n w h (fr + a) j)).toNatClampNeg (vp_nar .boolean (Int32.ofInt 1)))) (hm7.tr (scr.a (by decide))) hl7 hp7 h11 h12 (oM_congr (show oM _ (fisG cb n w h fr s all k u a j) from hO) ?_) ?_) ?_ rfl ?_ <;> try (first | rfl | (rw [nI_succ]; rfl))
                            · intro e he
                              unfold fisG
                              rw [fsX_s, h7, Bool.not_true, Bool.false_and, Bool.or_false]
                            · intro e he
                              show upd (m7.2 31) (nI (atN n w h (fr + a) j)).toNatClampNeg (vp_nar .boolean (Int32.ofInt 1)) e = _
                              rw [upv (by omega)]
                              unfold fisR
                              rw [fsX_s, h7]
                              by_cases hea : e = atN n w h (fr + a) j
                              · subst hea
                                rw [pk_us, hh, hb, beq_self_eq_true, Bool.true_and, Bool.true_and, Bool.true_and, Bool.or_true]
                                rfl
                              · rw [pk_un hea, hR e he, beq_eq_false_iff_ne.mpr (fun h => hea h.symm), Bool.false_and, Bool.and_false, Bool.or_false]
                                rfl
                        · refine hP _ _ _ _ ?_
                          refine x_p4 (P := P) (skip (by rw [hh, Bool.false_and])) ?_ rfl ?_ <;> try (first | rfl | (rw [nI_succ]; rfl))
                  repeat refine hP _ _ _ _ ?_
                  refine r_countOf hall9 ?_
                  repeat refine hP _ _ _ _ ?_
                  refine b_ne ((pcN all)) (k) (fun h8 => ?_) (fun h8 => ?_) (rfl) (rfl) (by omega) (by omega)
                  · exact absurd hpc h8
                  · iterate 2 refine hP _ _ _ _ ?_
                    refine x_p4 (P := P) (lp4 0 (by omega) m6 hm6 hl6 hp6 h11 h12 hO hR) ?_ rfl ?_ <;> try (first | rfl | (rw [nI_succ]; rfl))
              have h0 : ∀ e : Nat, fisG cb n w h fr s all k u 0 0 e = 0 := fun e => by unfold fisG fsX; simp
              have h1 : ∀ e : Nat, fisR cb n w h fr s all k u 0 0 e = false := fun e => by unfold fisR fsX; simp
              exact lp3 0 (by omega) (noneM m4) hm5 hl4 hp hcl5.1 hcl5.2.1 (fun e he => ⟨by rw [h0, (hcl5.2.2 e he).2]; rfl, by rw [h0]; decide⟩) (fun e he => by rw [h1, (hcl5.2.2 e he).1]; rfl) x7
            · rw [if_neg hpc] at hEv
              repeat refine hP _ _ _ _ ?_
              refine b_ge fr (fr + n) (fun h0 => by omega) (fun _ => ?_) rfl (by show nI fr + (noneM m4).1 1 = _; rw [hG5.1, nI_add]) (by omega) (by omega)
              repeat refine hP _ _ _ _ ?_
              refine r_countOf hall9 ?_
              have hpl : pcN all ≤ 9 := pcA_le _ _
              repeat refine hP _ _ _ _ ?_
              refine b_ne ((pcN all)) (k) (fun h8 => ?_) (fun h8 => ?_) (rfl) (rfl) (by omega) (by omega)
              · refine x_p4 (P := P) (tk (noneM m4) (fun _ => 0) (fun _ => false) hm5 hl4 hp hcl5.1 hcl5.2.1 (fun e he => ⟨(hcl5.2.2 e he).2, show 0 < 512 by decide⟩) (fun e he => (hcl5.2.2 e he).1) (hEv.trans rfl) (some (.int (nI fr))) x7) ?_ rfl ?_ <;> try (first | rfl | (rw [nI_succ]; rfl))
              · exact absurd h8 hpc
          have orl : ∀ i, i ≤ k → P 108 [some (.ref 26), some (.int (nI k)), some (.int (nI fr)), some (.int (nI s)), some (.int (bI true)), some (.int (nI (orA (fun i => plB cb n w h (u i) s n) i))), some (.int (nI i)), x7] [] (w_M f (noneM m4) tl bb) := by
            refine x_lp k (fun i hi ih3 => ?_)
            repeat refine hP _ _ _ _ ?_
            refine b_ge (i) (k) (fun hi9 => ?_) (fun hi9 => ?_) (rfl) (rfl) (by omega) (by omega)
            · have hik : i = k := by omega
              subst hik
              rw [hall]
              iterate 2 refine hP _ _ _ _ ?_
              refine x_p4 (P := P) (mid) ?_ rfl ?_ <;> try (first | rfl | (rw [nI_succ]; rfl))
            · have e1 := c1 i hi9
              have e2 := hcell i hi9
              repeat refine hP _ _ _ _ ?_
              refine And.intro (vp_in_nI (by omega) (by omega)) ?_
              rw [ldv (f := (noneM m4).2 34) (hp i hi9) (by omega)]
              repeat refine hP _ _ _ _ ?_
              refine And.intro (vp_in_nI (by omega) (by omega)) ?_
              rw [ldv (f := (noneM m4).2 33) (hl4.2 _ e1).1 (by omega)]
              repeat refine hP _ _ _ _ ?_
              refine r_places hG5 hC5 e2 hs9 ?_
              iterate 4 refine hP _ _ _ _ ?_
              refine x_p4 (P := P) (ih3 hi9) ?_ rfl ?_
              · rw [show orA (fun i => plB cb n w h (u i) s n) (i + 1) = orA (fun i => plB cb n w h (u i) s n) i ||| plB cb n w h (pF l (pF c i)) s n by rw [← hue]; rfl, ← nx_or, nI_succ]; rfl
              · rfl
          repeat refine hP _ _ _ _ ?_
          refine r_none ?_
          iterate 4 refine hP _ _ _ _ ?_
          refine x_p4 (P := P) (orl 0 (by omega)) ?_ rfl ?_ <;> try (first | rfl | (rw [nI_succ]; rfl))
      have fin : ∀ m3, scr ms m3 → lsM m3 l (3 * n) → P 73 [some (.ref 26), some (.int (nI k)), some (.int (nI fr)), some (.int (nI s)), some (.int (nI (fr + n))), x5, x6, x7] [] (w_M f m3 tl bb) := by
        intro m3 hm3 hl3
        have go : ∀ x : Int32, x = bI (decide (0 < (CC k l.length).length)) → P 86 [some (.ref 26), some (.int (nI k)), some (.int (nI fr)), some (.int (nI s)), some (.int (nI (fr + n))), x5, x6, x7] [.int x] (w_M f m3 tl bb) := by
          intro x hx
          subst hx
          repeat refine hP _ _ _ _ ?_
          refine r_first (by omega) (fun gg hgg => ?_)
          refine x_p4 (P := P) (whl 0 (by omega) (sA m3 34 gg) (hm3.tr (scr.a (by decide))) hl3 (fun c hc i hi => ?_) hev x5 x6 x7) ?_ rfl ?_ <;> try (first | rfl | (rw [nI_succ]; rfl))
          show gg i = _
          rw [hgg i hi]
          rcases Nat.lt_or_ge l.length k with h9 | h9
          · rw [(CC_0 k hk5 hk2 _ hm9).2 h9] at hc; cases hc
          · rw [(CC_0 k hk5 hk2 _ hm9).1 h9] at hc
            cases hc
            unfold pF
            simp [List.getD, hi]
        repeat refine hP _ _ _ _ ?_
        refine b_lt (l.length) (k) (fun h9 => ?_) (fun h9 => ?_) (hl3.1) (rfl) (by omega) (by omega)
        · refine hP _ _ _ _ ?_
          refine x_p4 (P := P) (go (bI false) ?_) ?_ rfl ?_
          · rw [(CC_0 k hk5 hk2 _ hm9).2 h9]; rfl
          · rfl
          · rfl
        · iterate 2 refine hP _ _ _ _ ?_
          refine x_p4 (P := P) (go (bI true) ?_) ?_ rfl ?_
          · rw [b_len]
            exact (List.getElem?_eq_some_iff.mp ((CC_0 k hk5 hk2 _ hm9).1 h9)).1
          · rfl
          · rfl
      have lst : ∀ i, i ≤ n → ∀ m3, scr ms m3 → lsM m3 (fisLk cb n w h fr s i) (3 * n) → P 18 [some (.ref 26), some (.int (nI k)), some (.int (nI fr)), some (.int (nI s)), some (.int (nI (fr + i))), x5, x6, x7] [] (w_M f m3 tl bb) := by
        refine x_lp n (fun i hi ih2 m3 hm3 hl3 => ?_)
        have hG3 := hm3.g hG
        have hC3 := hm3.c hC
        repeat refine hP _ _ _ _ ?_
        refine b_ge (fr + i) (fr + n) (fun hi9 => ?_) (fun hi9 => ?_) (rfl) (by show nI fr + m3.1 1 = _; rw [hG3.1, nI_add]) (by omega) (by omega)
        · have hin : i = n := by omega
          subst hin
          refine x_p4 (P := P) (fin m3 hm3 (hl ▸ hl3)) ?_ rfl ?_ <;> try (first | rfl | (rw [nI_succ]; rfl))
        · have hi9 : i < n := by omega
          have hlk : (fisLk cb n w h fr s i).length ≤ i := fl_le _ _ (by simp)
          have ih2 := ih2 hi9
          rw [fisLk_s] at ih2
          have hpl : pcN (plB cb n w h (fr + i) s n) ≤ 9 := pcA_le _ _
          repeat refine hP _ _ _ _ ?_
          refine r_places hG3 hC3 (by omega) hs9 ?_
          repeat refine hP _ _ _ _ ?_
          refine r_countOf (plB_9 cb w h _ s g2) ?_
          repeat refine hP _ _ _ _ ?_
          refine b_ge ((pcN (plB cb n w h (fr + i) s n))) (2) (fun hv => ?_) (fun hv => ?_) (rfl) (rfl) (by omega) (by omega)
          · rw [decide_eq_true hv] at ih2
            repeat refine hP _ _ _ _ ?_
            rw [hl3.1]
            refine And.intro (vp_in_nI (by omega) (by omega)) ?_
            iterate 8 refine hP _ _ _ _ ?_
            refine x_p4 (P := P) (ih2 (sF (sA m3 33 (upd (m3.2 33) (fisLk cb n w h fr s i).length (nI (fr + i)))) 13 (nI ((fisLk cb n w h fr s i).length + 1))) (hm3.tr ((scr.a (by decide)).tr (scr.f (by decide)))) (lsM_p hl3 (by omega))) ?_ rfl ?_
            · rw [show nI (fr + (i + 1)) = nI (fr + i) + 1 from nI_succ _]; rfl
            · rw [← upv (i := (fisLk cb n w h fr s i).length) (by omega), nI_succ, ← hl3.1]; rfl
          · rw [decide_eq_false (by omega)] at ih2
            iterate 3 refine hP _ _ _ _ ?_
            refine x_p4 (P := P) (ih2 m3 hm3 (by rw [if_neg (by decide), List.append_nil]; exact hl3)) ?_ rfl ?_
            · rw [show nI (fr + (i + 1)) = nI (fr + i) + 1 from nI_succ _]; rfl
            · rfl
      iterate 5 refine hP _ _ _ _ ?_
      refine x_p4 (P := P) (lst 0 (by omega) (sF m2 13 0) (hm.tr (scr.f (by decide))) (lsM_0 m2 _)) ?_ rfl ?_ <;> try (first | rfl | (rw [nI_succ]; rfl))
  iterate 2 refine hP _ _ _ _ ?_
  refine x_p4 (P := P) (loop 0 (by omega) ms (scr.rf ms) rfl none none none none) ?_ rfl ?_ <;> try (first | rfl | (rw [nI_succ]; rfl))
end FI
end
