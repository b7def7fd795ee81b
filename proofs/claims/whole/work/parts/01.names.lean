-- ===== PART A: goes FIRST, ahead of the names: the tables' words, and 'selects' of the private methods out of them =====
/-- a private method of a class that the tables say can be made, by its rows of tables_1 -/
def lw_okq (q : MethodName × Nat) : Prop := (q.1.cls ≠ "java/lang/invoke/MethodHandle" ∧ q.1.cls ≠ "java/lang/invoke/VarHandle") ∧ Cond.instantiable q.1.cls q.2 ∈ tables_1 ∧ Cond.privateMethod q.1 ∈ tables_1 ∧ Cond.instanceMethod q.1 ∈ tables_1
theorem lw_p0 : lw_okq (⟨"LessonWays", "beginAnew", "()V"⟩, 7) := ⟨⟨by decide +kernel, by decide +kernel⟩, List.mem_of_getElem? (i := 15) (by decide +kernel), List.mem_of_getElem? (i := 242) (by decide +kernel), List.mem_of_getElem? (i := 243) (by decide +kernel)⟩
theorem lw_p1 : lw_okq (⟨"LessonWays$Space", "enter", "(I)V"⟩, 7) := ⟨⟨by decide +kernel, by decide +kernel⟩, List.mem_of_getElem? (i := 74) (by decide +kernel), List.mem_of_getElem? (i := 263) (by decide +kernel), List.mem_of_getElem? (i := 264) (by decide +kernel)⟩
theorem lw_p2 : lw_okq (⟨"LessonWays$Space", "measure", "()V"⟩, 7) := ⟨⟨by decide +kernel, by decide +kernel⟩, List.mem_of_getElem? (i := 74) (by decide +kernel), List.mem_of_getElem? (i := 283) (by decide +kernel), List.mem_of_getElem? (i := 284) (by decide +kernel)⟩
theorem lw_p3 : lw_okq (⟨"LessonWays$Space", "compare", "(II)V"⟩, 7) := ⟨⟨by decide +kernel, by decide +kernel⟩, List.mem_of_getElem? (i := 74) (by decide +kernel), List.mem_of_getElem? (i := 288) (by decide +kernel), List.mem_of_getElem? (i := 289) (by decide +kernel)⟩
theorem lw_p4 : lw_okq (⟨"LessonWays$Items", "gatherGroup", "(I)V"⟩, 8) := ⟨⟨by decide +kernel, by decide +kernel⟩, List.mem_of_getElem? (i := 23) (by decide +kernel), List.mem_of_getElem? (i := 343) (by decide +kernel), List.mem_of_getElem? (i := 344) (by decide +kernel)⟩
theorem lw_p5 : lw_okq (⟨"LessonWays$Items", "isInGroup", "(II)Z"⟩, 8) := ⟨⟨by decide +kernel, by decide +kernel⟩, List.mem_of_getElem? (i := 23) (by decide +kernel), List.mem_of_getElem? (i := 347) (by decide +kernel), List.mem_of_getElem? (i := 348) (by decide +kernel)⟩
theorem lw_p6 : lw_okq (⟨"LessonWays", "refusalOfState", "(I)I"⟩, 7) := ⟨⟨by decide +kernel, by decide +kernel⟩, List.mem_of_getElem? (i := 15) (by decide +kernel), List.mem_of_getElem? (i := 402) (by decide +kernel), List.mem_of_getElem? (i := 403) (by decide +kernel)⟩
theorem lw_p7 : lw_okq (⟨"LessonWays$Exam", "leftWith", "(I)I"⟩, 9) := ⟨⟨by decide +kernel, by decide +kernel⟩, List.mem_of_getElem? (i := 132) (by decide +kernel), List.mem_of_getElem? (i := 455) (by decide +kernel), List.mem_of_getElem? (i := 456) (by decide +kernel)⟩
theorem lw_p8 : lw_okq (⟨"LessonWays$Exam", "weigh", "(III)Z"⟩, 9) := ⟨⟨by decide +kernel, by decide +kernel⟩, List.mem_of_getElem? (i := 132) (by decide +kernel), List.mem_of_getElem? (i := 470) (by decide +kernel), List.mem_of_getElem? (i := 471) (by decide +kernel)⟩
theorem lw_p9 : lw_okq (⟨"LessonWays$Exam", "gatherFamily", "()V"⟩, 9) := ⟨⟨by decide +kernel, by decide +kernel⟩, List.mem_of_getElem? (i := 132) (by decide +kernel), List.mem_of_getElem? (i := 511) (by decide +kernel), List.mem_of_getElem? (i := 512) (by decide +kernel)⟩
theorem lw_p10 : lw_okq (⟨"LessonWays$Exam", "markHaving", "(II)V"⟩, 9) := ⟨⟨by decide +kernel, by decide +kernel⟩, List.mem_of_getElem? (i := 132) (by decide +kernel), List.mem_of_getElem? (i := 516) (by decide +kernel), List.mem_of_getElem? (i := 517) (by decide +kernel)⟩
theorem lw_p11 : lw_okq (⟨"LessonWays$Exam", "fewestFor", "(I)I"⟩, 9) := ⟨⟨by decide +kernel, by decide +kernel⟩, List.mem_of_getElem? (i := 132) (by decide +kernel), List.mem_of_getElem? (i := 520) (by decide +kernel), List.mem_of_getElem? (i := 521) (by decide +kernel)⟩
theorem lw_p12 : lw_okq (⟨"LessonWays", "refusalOfWay", "(II)I"⟩, 7) := ⟨⟨by decide +kernel, by decide +kernel⟩, List.mem_of_getElem? (i := 15) (by decide +kernel), List.mem_of_getElem? (i := 535) (by decide +kernel), List.mem_of_getElem? (i := 536) (by decide +kernel)⟩
theorem lw_p13 : lw_okq (⟨"LessonWays$Routes", "sumCosts", "(I)V"⟩, 4) := ⟨⟨by decide +kernel, by decide +kernel⟩, List.mem_of_getElem? (i := 113) (by decide +kernel), List.mem_of_getElem? (i := 543) (by decide +kernel), List.mem_of_getElem? (i := 544) (by decide +kernel)⟩
theorem lw_p14 : lw_okq (⟨"LessonWays$Routes", "leastThroughNext", "(I)I"⟩, 4) := ⟨⟨by decide +kernel, by decide +kernel⟩, List.mem_of_getElem? (i := 113) (by decide +kernel), List.mem_of_getElem? (i := 551) (by decide +kernel), List.mem_of_getElem? (i := 552) (by decide +kernel)⟩
theorem lw_p15 : lw_okq (⟨"LessonWays$Routes", "costThrough", "(II)I"⟩, 4) := ⟨⟨by decide +kernel, by decide +kernel⟩, List.mem_of_getElem? (i := 113) (by decide +kernel), List.mem_of_getElem? (i := 555) (by decide +kernel), List.mem_of_getElem? (i := 556) (by decide +kernel)⟩
def lw_privs_1 : List (MethodName × Nat) := [(⟨"LessonWays", "beginAnew", "()V"⟩, 7), (⟨"LessonWays$Space", "enter", "(I)V"⟩, 7), (⟨"LessonWays$Space", "measure", "()V"⟩, 7), (⟨"LessonWays$Space", "compare", "(II)V"⟩, 7), (⟨"LessonWays$Items", "gatherGroup", "(I)V"⟩, 8), (⟨"LessonWays$Items", "isInGroup", "(II)Z"⟩, 8), (⟨"LessonWays", "refusalOfState", "(I)I"⟩, 7), (⟨"LessonWays$Exam", "leftWith", "(I)I"⟩, 9), (⟨"LessonWays$Exam", "weigh", "(III)Z"⟩, 9), (⟨"LessonWays$Exam", "gatherFamily", "()V"⟩, 9), (⟨"LessonWays$Exam", "markHaving", "(II)V"⟩, 9), (⟨"LessonWays$Exam", "fewestFor", "(I)I"⟩, 9), (⟨"LessonWays", "refusalOfWay", "(II)I"⟩, 7), (⟨"LessonWays$Routes", "sumCosts", "(I)V"⟩, 4), (⟨"LessonWays$Routes", "leastThroughNext", "(I)I"⟩, 4), (⟨"LessonWays$Routes", "costThrough", "(II)I"⟩, 4)]
theorem lw_r1 : ∀ q ∈ lw_privs_1, lw_okq q := List.forall_mem_cons.mpr ⟨lw_p0, List.forall_mem_cons.mpr ⟨lw_p1, List.forall_mem_cons.mpr ⟨lw_p2, List.forall_mem_cons.mpr ⟨lw_p3, List.forall_mem_cons.mpr ⟨lw_p4, List.forall_mem_cons.mpr ⟨lw_p5, List.forall_mem_cons.mpr ⟨lw_p6, List.forall_mem_cons.mpr ⟨lw_p7, List.forall_mem_cons.mpr ⟨lw_p8, List.forall_mem_cons.mpr ⟨lw_p9, List.forall_mem_cons.mpr ⟨lw_p10, List.forall_mem_cons.mpr ⟨lw_p11, List.forall_mem_cons.mpr ⟨lw_p12, List.forall_mem_cons.mpr ⟨lw_p13, List.forall_mem_cons.mpr ⟨lw_p14, List.forall_mem_cons.mpr ⟨lw_p15, fun _ h => absurd h List.not_mem_nil⟩⟩⟩⟩⟩⟩⟩⟩⟩⟩⟩⟩⟩⟩⟩⟩
theorem lw_p16 : lw_okq (⟨"LessonWays$Routes", "firstStep", "(I)I"⟩, 4) := ⟨⟨by decide +kernel, by decide +kernel⟩, List.mem_of_getElem? (i := 113) (by decide +kernel), List.mem_of_getElem? (i := 568) (by decide +kernel), List.mem_of_getElem? (i := 569) (by decide +kernel)⟩
theorem lw_p17 : lw_okq (⟨"LessonWays$Learner", "forgottenNow", "()I"⟩, 6) := ⟨⟨by decide +kernel, by decide +kernel⟩, List.mem_of_getElem? (i := 172) (by decide +kernel), List.mem_of_getElem? (i := 606) (by decide +kernel), List.mem_of_getElem? (i := 607) (by decide +kernel)⟩
theorem lw_p18 : lw_okq (⟨"LessonWays", "refusalOfSheet", "(I)I"⟩, 7) := ⟨⟨by decide +kernel, by decide +kernel⟩, List.mem_of_getElem? (i := 15) (by decide +kernel), List.mem_of_getElem? (i := 638) (by decide +kernel), List.mem_of_getElem? (i := 639) (by decide +kernel)⟩
theorem lw_p19 : lw_okq (⟨"LessonWays", "refusalOfMark", "(III)I"⟩, 7) := ⟨⟨by decide +kernel, by decide +kernel⟩, List.mem_of_getElem? (i := 15) (by decide +kernel), List.mem_of_getElem? (i := 654) (by decide +kernel), List.mem_of_getElem? (i := 655) (by decide +kernel)⟩
theorem lw_p20 : lw_okq (⟨"LessonWays$Answers", "countAgainst", "(III)I"⟩, 3) := ⟨⟨by decide +kernel, by decide +kernel⟩, List.mem_of_getElem? (i := 226) (by decide +kernel), List.mem_of_getElem? (i := 753) (by decide +kernel), List.mem_of_getElem? (i := 754) (by decide +kernel)⟩
theorem lw_p21 : lw_okq (⟨"LessonWays$Answers", "countNearest", "(II)I"⟩, 3) := ⟨⟨by decide +kernel, by decide +kernel⟩, List.mem_of_getElem? (i := 226) (by decide +kernel), List.mem_of_getElem? (i := 765) (by decide +kernel), List.mem_of_getElem? (i := 766) (by decide +kernel)⟩
theorem lw_p22 : lw_okq (⟨"LessonWaysModel", "anew", "()V"⟩, 28) := ⟨⟨by decide +kernel, by decide +kernel⟩, List.mem_of_getElem? (i := 792) (by decide +kernel), List.mem_of_getElem? (i := 798) (by decide +kernel), List.mem_of_getElem? (i := 799) (by decide +kernel)⟩
theorem lw_p23 : lw_okq (⟨"LessonWaysModel", "bottom", "()I"⟩, 28) := ⟨⟨by decide +kernel, by decide +kernel⟩, List.mem_of_getElem? (i := 792) (by decide +kernel), List.mem_of_getElem? (i := 802) (by decide +kernel), List.mem_of_getElem? (i := 803) (by decide +kernel)⟩
theorem lw_p24 : lw_okq (⟨"LessonWaysModel", "isLeast", "(I)Z"⟩, 28) := ⟨⟨by decide +kernel, by decide +kernel⟩, List.mem_of_getElem? (i := 792) (by decide +kernel), List.mem_of_getElem? (i := 806) (by decide +kernel), List.mem_of_getElem? (i := 807) (by decide +kernel)⟩
theorem lw_p25 : lw_okq (⟨"LessonWaysModel", "lessonOf", "(I)I"⟩, 28) := ⟨⟨by decide +kernel, by decide +kernel⟩, List.mem_of_getElem? (i := 792) (by decide +kernel), List.mem_of_getElem? (i := 810) (by decide +kernel), List.mem_of_getElem? (i := 811) (by decide +kernel)⟩
theorem lw_p26 : lw_okq (⟨"LessonWaysModel", "fits", "(II)Z"⟩, 28) := ⟨⟨by decide +kernel, by decide +kernel⟩, List.mem_of_getElem? (i := 792) (by decide +kernel), List.mem_of_getElem? (i := 814) (by decide +kernel), List.mem_of_getElem? (i := 815) (by decide +kernel)⟩
theorem lw_p27 : lw_okq (⟨"LessonWaysModel", "isServed", "(II)Z"⟩, 28) := ⟨⟨by decide +kernel, by decide +kernel⟩, List.mem_of_getElem? (i := 792) (by decide +kernel), List.mem_of_getElem? (i := 818) (by decide +kernel), List.mem_of_getElem? (i := 819) (by decide +kernel)⟩
theorem lw_p28 : lw_okq (⟨"LessonWaysModel", "beginTest", "()V"⟩, 28) := ⟨⟨by decide +kernel, by decide +kernel⟩, List.mem_of_getElem? (i := 792) (by decide +kernel), List.mem_of_getElem? (i := 825) (by decide +kernel), List.mem_of_getElem? (i := 826) (by decide +kernel)⟩
theorem lw_p29 : lw_okq (⟨"LessonWaysModel", "beginPupil", "(I)V"⟩, 28) := ⟨⟨by decide +kernel, by decide +kernel⟩, List.mem_of_getElem? (i := 792) (by decide +kernel), List.mem_of_getElem? (i := 829) (by decide +kernel), List.mem_of_getElem? (i := 830) (by decide +kernel)⟩
theorem lw_p30 : lw_okq (⟨"LessonWaysModel", "isItem", "(I)Z"⟩, 28) := ⟨⟨by decide +kernel, by decide +kernel⟩, List.mem_of_getElem? (i := 792) (by decide +kernel), List.mem_of_getElem? (i := 930) (by decide +kernel), List.mem_of_getElem? (i := 931) (by decide +kernel)⟩
theorem lw_p31 : lw_okq (⟨"LessonWaysModel", "isSet", "(I)Z"⟩, 28) := ⟨⟨by decide +kernel, by decide +kernel⟩, List.mem_of_getElem? (i := 792) (by decide +kernel), List.mem_of_getElem? (i := 946) (by decide +kernel), List.mem_of_getElem? (i := 947) (by decide +kernel)⟩
def lw_privs_2 : List (MethodName × Nat) := [(⟨"LessonWays$Routes", "firstStep", "(I)I"⟩, 4), (⟨"LessonWays$Learner", "forgottenNow", "()I"⟩, 6), (⟨"LessonWays", "refusalOfSheet", "(I)I"⟩, 7), (⟨"LessonWays", "refusalOfMark", "(III)I"⟩, 7), (⟨"LessonWays$Answers", "countAgainst", "(III)I"⟩, 3), (⟨"LessonWays$Answers", "countNearest", "(II)I"⟩, 3), (⟨"LessonWaysModel", "anew", "()V"⟩, 28), (⟨"LessonWaysModel", "bottom", "()I"⟩, 28), (⟨"LessonWaysModel", "isLeast", "(I)Z"⟩, 28), (⟨"LessonWaysModel", "lessonOf", "(I)I"⟩, 28), (⟨"LessonWaysModel", "fits", "(II)Z"⟩, 28), (⟨"LessonWaysModel", "isServed", "(II)Z"⟩, 28), (⟨"LessonWaysModel", "beginTest", "()V"⟩, 28), (⟨"LessonWaysModel", "beginPupil", "(I)V"⟩, 28), (⟨"LessonWaysModel", "isItem", "(I)Z"⟩, 28), (⟨"LessonWaysModel", "isSet", "(I)Z"⟩, 28)]
theorem lw_r2 : ∀ q ∈ lw_privs_2, lw_okq q := List.forall_mem_cons.mpr ⟨lw_p16, List.forall_mem_cons.mpr ⟨lw_p17, List.forall_mem_cons.mpr ⟨lw_p18, List.forall_mem_cons.mpr ⟨lw_p19, List.forall_mem_cons.mpr ⟨lw_p20, List.forall_mem_cons.mpr ⟨lw_p21, List.forall_mem_cons.mpr ⟨lw_p22, List.forall_mem_cons.mpr ⟨lw_p23, List.forall_mem_cons.mpr ⟨lw_p24, List.forall_mem_cons.mpr ⟨lw_p25, List.forall_mem_cons.mpr ⟨lw_p26, List.forall_mem_cons.mpr ⟨lw_p27, List.forall_mem_cons.mpr ⟨lw_p28, List.forall_mem_cons.mpr ⟨lw_p29, List.forall_mem_cons.mpr ⟨lw_p30, List.forall_mem_cons.mpr ⟨lw_p31, fun _ h => absurd h List.not_mem_nil⟩⟩⟩⟩⟩⟩⟩⟩⟩⟩⟩⟩⟩⟩⟩⟩
theorem lw_p32 : lw_okq (⟨"LessonWaysModel", "coreOf", "(I)I"⟩, 28) := ⟨⟨by decide +kernel, by decide +kernel⟩, List.mem_of_getElem? (i := 792) (by decide +kernel), List.mem_of_getElem? (i := 966) (by decide +kernel), List.mem_of_getElem? (i := 967) (by decide +kernel)⟩
theorem lw_p33 : lw_okq (⟨"LessonWaysModel", "nextOf", "(I)I"⟩, 28) := ⟨⟨by decide +kernel, by decide +kernel⟩, List.mem_of_getElem? (i := 792) (by decide +kernel), List.mem_of_getElem? (i := 974) (by decide +kernel), List.mem_of_getElem? (i := 975) (by decide +kernel)⟩
theorem lw_p34 : lw_okq (⟨"LessonWaysModel", "isLast", "(II)Z"⟩, 28) := ⟨⟨by decide +kernel, by decide +kernel⟩, List.mem_of_getElem? (i := 792) (by decide +kernel), List.mem_of_getElem? (i := 982) (by decide +kernel), List.mem_of_getElem? (i := 983) (by decide +kernel)⟩
theorem lw_p35 : lw_okq (⟨"LessonWaysModel", "leftNow", "()I"⟩, 28) := ⟨⟨by decide +kernel, by decide +kernel⟩, List.mem_of_getElem? (i := 792) (by decide +kernel), List.mem_of_getElem? (i := 1005) (by decide +kernel), List.mem_of_getElem? (i := 1006) (by decide +kernel)⟩
theorem lw_p36 : lw_okq (⟨"LessonWaysModel", "having", "(I)I"⟩, 28) := ⟨⟨by decide +kernel, by decide +kernel⟩, List.mem_of_getElem? (i := 792) (by decide +kernel), List.mem_of_getElem? (i := 1013) (by decide +kernel), List.mem_of_getElem? (i := 1014) (by decide +kernel)⟩
theorem lw_p37 : lw_okq (⟨"LessonWaysModel", "answers", "(IZ)I"⟩, 28) := ⟨⟨by decide +kernel, by decide +kernel⟩, List.mem_of_getElem? (i := 792) (by decide +kernel), List.mem_of_getElem? (i := 1025) (by decide +kernel), List.mem_of_getElem? (i := 1026) (by decide +kernel)⟩
theorem lw_p38 : lw_okq (⟨"LessonWaysModel", "factor", "(IIZ)I"⟩, 28) := ⟨⟨by decide +kernel, by decide +kernel⟩, List.mem_of_getElem? (i := 792) (by decide +kernel), List.mem_of_getElem? (i := 1029) (by decide +kernel), List.mem_of_getElem? (i := 1030) (by decide +kernel)⟩
theorem lw_p39 : lw_okq (⟨"LessonWaysModel", "reckon", "(I)V"⟩, 28) := ⟨⟨by decide +kernel, by decide +kernel⟩, List.mem_of_getElem? (i := 792) (by decide +kernel), List.mem_of_getElem? (i := 1057) (by decide +kernel), List.mem_of_getElem? (i := 1058) (by decide +kernel)⟩
theorem lw_p40 : lw_okq (⟨"LessonWaysModel", "hoursOf", "(I)I"⟩, 28) := ⟨⟨by decide +kernel, by decide +kernel⟩, List.mem_of_getElem? (i := 792) (by decide +kernel), List.mem_of_getElem? (i := 1061) (by decide +kernel), List.mem_of_getElem? (i := 1062) (by decide +kernel)⟩
theorem lw_p41 : lw_okq (⟨"LessonWaysModel", "goesOn", "(II)Z"⟩, 28) := ⟨⟨by decide +kernel, by decide +kernel⟩, List.mem_of_getElem? (i := 792) (by decide +kernel), List.mem_of_getElem? (i := 1069) (by decide +kernel), List.mem_of_getElem? (i := 1070) (by decide +kernel)⟩
theorem lw_p42 : lw_okq (⟨"LessonWaysModel", "faded", "()I"⟩, 28) := ⟨⟨by decide +kernel, by decide +kernel⟩, List.mem_of_getElem? (i := 792) (by decide +kernel), List.mem_of_getElem? (i := 1089) (by decide +kernel), List.mem_of_getElem? (i := 1090) (by decide +kernel)⟩
theorem lw_p43 : lw_okq (⟨"LessonWaysModel", "meets", "(I)I"⟩, 28) := ⟨⟨by decide +kernel, by decide +kernel⟩, List.mem_of_getElem? (i := 792) (by decide +kernel), List.mem_of_getElem? (i := 1104) (by decide +kernel), List.mem_of_getElem? (i := 1105) (by decide +kernel)⟩
theorem lw_p44 : lw_okq (⟨"LessonWaysModel", "lacks", "(III)I"⟩, 28) := ⟨⟨by decide +kernel, by decide +kernel⟩, List.mem_of_getElem? (i := 792) (by decide +kernel), List.mem_of_getElem? (i := 1116) (by decide +kernel), List.mem_of_getElem? (i := 1117) (by decide +kernel)⟩
theorem lw_p45 : lw_okq (⟨"LessonWaysModel", "nearestOf", "(I)I"⟩, 28) := ⟨⟨by decide +kernel, by decide +kernel⟩, List.mem_of_getElem? (i := 792) (by decide +kernel), List.mem_of_getElem? (i := 1133) (by decide +kernel), List.mem_of_getElem? (i := 1134) (by decide +kernel)⟩
theorem lw_p46 : lw_okq (⟨"LessonWaysModel", "isBase", "(I)Z"⟩, 28) := ⟨⟨by decide +kernel, by decide +kernel⟩, List.mem_of_getElem? (i := 792) (by decide +kernel), List.mem_of_getElem? (i := 1145) (by decide +kernel), List.mem_of_getElem? (i := 1146) (by decide +kernel)⟩
theorem lw_p47 : lw_okq (⟨"LessonWaysModel", "isAtom", "(II)Z"⟩, 28) := ⟨⟨by decide +kernel, by decide +kernel⟩, List.mem_of_getElem? (i := 792) (by decide +kernel), List.mem_of_getElem? (i := 1153) (by decide +kernel), List.mem_of_getElem? (i := 1154) (by decide +kernel)⟩
def lw_privs_3 : List (MethodName × Nat) := [(⟨"LessonWaysModel", "coreOf", "(I)I"⟩, 28), (⟨"LessonWaysModel", "nextOf", "(I)I"⟩, 28), (⟨"LessonWaysModel", "isLast", "(II)Z"⟩, 28), (⟨"LessonWaysModel", "leftNow", "()I"⟩, 28), (⟨"LessonWaysModel", "having", "(I)I"⟩, 28), (⟨"LessonWaysModel", "answers", "(IZ)I"⟩, 28), (⟨"LessonWaysModel", "factor", "(IIZ)I"⟩, 28), (⟨"LessonWaysModel", "reckon", "(I)V"⟩, 28), (⟨"LessonWaysModel", "hoursOf", "(I)I"⟩, 28), (⟨"LessonWaysModel", "goesOn", "(II)Z"⟩, 28), (⟨"LessonWaysModel", "faded", "()I"⟩, 28), (⟨"LessonWaysModel", "meets", "(I)I"⟩, 28), (⟨"LessonWaysModel", "lacks", "(III)I"⟩, 28), (⟨"LessonWaysModel", "nearestOf", "(I)I"⟩, 28), (⟨"LessonWaysModel", "isBase", "(I)Z"⟩, 28), (⟨"LessonWaysModel", "isAtom", "(II)Z"⟩, 28)]
theorem lw_r3 : ∀ q ∈ lw_privs_3, lw_okq q := List.forall_mem_cons.mpr ⟨lw_p32, List.forall_mem_cons.mpr ⟨lw_p33, List.forall_mem_cons.mpr ⟨lw_p34, List.forall_mem_cons.mpr ⟨lw_p35, List.forall_mem_cons.mpr ⟨lw_p36, List.forall_mem_cons.mpr ⟨lw_p37, List.forall_mem_cons.mpr ⟨lw_p38, List.forall_mem_cons.mpr ⟨lw_p39, List.forall_mem_cons.mpr ⟨lw_p40, List.forall_mem_cons.mpr ⟨lw_p41, List.forall_mem_cons.mpr ⟨lw_p42, List.forall_mem_cons.mpr ⟨lw_p43, List.forall_mem_cons.mpr ⟨lw_p44, List.forall_mem_cons.mpr ⟨lw_p45, List.forall_mem_cons.mpr ⟨lw_p46, List.forall_mem_cons.mpr ⟨lw_p47, fun _ h => absurd h List.not_mem_nil⟩⟩⟩⟩⟩⟩⟩⟩⟩⟩⟩⟩⟩⟩⟩⟩
theorem lw_p48 : lw_okq (⟨"LessonWaysModel", "answersOf", "(II)I"⟩, 28) := ⟨⟨by decide +kernel, by decide +kernel⟩, List.mem_of_getElem? (i := 792) (by decide +kernel), List.mem_of_getElem? (i := 1161) (by decide +kernel), List.mem_of_getElem? (i := 1162) (by decide +kernel)⟩
def lw_privs_4 : List (MethodName × Nat) := [(⟨"LessonWaysModel", "answersOf", "(II)I"⟩, 28)]
theorem lw_r4 : ∀ q ∈ lw_privs_4, lw_okq q := List.forall_mem_cons.mpr ⟨lw_p48, fun _ h => absurd h List.not_mem_nil⟩
def lw_privs : List (MethodName × Nat) := lw_privs_1 ++ (lw_privs_2 ++ (lw_privs_3 ++ (lw_privs_4)))
def lw_tbl : List Cond := k2_sels lw_privs ++ tables_1
theorem lw_privs_ok : ∀ q ∈ lw_privs, lw_okq q := by
  show ∀ q ∈ lw_privs_1 ++ (lw_privs_2 ++ (lw_privs_3 ++ (lw_privs_4))), lw_okq q
  exact List.forall_mem_append.mpr ⟨lw_r1, List.forall_mem_append.mpr ⟨lw_r2, List.forall_mem_append.mpr ⟨lw_r3, lw_r4⟩⟩⟩
-- ===== end of PART A; then your names; then what follows =====
/-! ===== BEGIN words of one list among another's, by their places ===== -/
theorem goodIn_r {big : List Cond} (ws : List Cond) (ps : List Nat) (hp : ws = ps.filterMap (fun i => big[i]?)) (h : ws.all goodWord = true) : GoodIn big ws := by
  intro w hw
  have h1 := List.all_eq_true.mp h w hw
  rw [hp] at hw
  obtain ⟨i, -, hi⟩ := List.mem_filterMap.mp hw
  have hm : w ∈ big := by first | exact List.mem_of_getElem? hi | exact List.getElem?_mem hi
  exact ⟨hm, good_of_word h1⟩
theorem goodIn_app {big a b : List Cond} (ha : GoodIn big a) (hb : GoodIn big b) : GoodIn big (a ++ b) := fun w h => (List.mem_append.mp h).elim (ha w) (hb w)
theorem goodIn_ca {big a b : List Cond} {c : Cond} (ha : GoodIn big (c :: a)) (hb : GoodIn big b) : GoodIn big (c :: (a ++ b)) := fun w h => (List.mem_cons.mp h).elim (fun e => ha w (List.mem_cons.mpr (Or.inl e))) (fun h => (List.mem_append.mp h).elim (fun h => ha w (List.mem_cons.mpr (Or.inr h))) (hb w))
theorem goodIn_sub {big ws : List Cond} (hm : ∀ w ∈ ws, w ∈ big) (h : ws.all goodWord = true) : GoodIn big ws := fun w hw => ⟨hm w hw, good_of_word (List.all_eq_true.mp h w hw)⟩
/-! ===== END ===== -/

/-! ===== BEGIN new T[n][m]: the outer array a place, the inner ones among the pooled ===== -/
/-- f, but v at every address of l -/
def vr_up {α : Type} (f : Nat → α) (l : List Nat) (v : α) : Nat → α := fun a => if a ∈ l then v else f a
theorem vr_up_in {α : Type} {f : Nat → α} {l : List Nat} {v : α} {a : Nat} (h : a ∈ l) : vr_up f l v a = v := if_pos h
theorem vr_up_ne {α : Type} {f : Nat → α} {l : List Nat} {v : α} {a : Nat} (h : a ∉ l) : vr_up f l v a = f a := if_neg h
theorem vr_rows {L l : List Nat} {f : Nat → va_E} {e : va_E} (h : ∀ a, a ∈ l → a ∉ L) : va_pl L f ++ l.map (fun a => (a, e)) = va_pl (L ++ l) (vr_up f l e) := by
  unfold va_pl
  rw [List.map_append]
  congr 1
  · apply List.map_congr_left
    intro a ha
    rw [vr_up_ne (fun q => h a q ha)]
  · apply List.map_congr_left
    intro a ha
    rw [vr_up_in ha]
theorem vr_lay {X rows : va_W} {x : Nat × va_E} {pl : va_W} {D : va_G} {cl : List vw_C} {H : Heap} (hP : va_P D cl (((X ++ pl) ++ [x]) ++ rows) H) : va_P D cl ((X ++ [x]) ++ (pl ++ rows)) H := by
  rw [List.append_assoc (X ++ pl)] at hP
  have h := va_P.swap hP
  rw [← List.append_assoc X] at h
  have h2 := va_P.swap h
  rw [List.append_assoc (X ++ [x])] at h2
  exact h2
theorem vr_layD {X rows : va_W} {x : Nat × va_E} {pl : va_W} {A : Nat → Prop} (hD : va_D A (((X ++ pl) ++ [x]) ++ rows)) : va_D A ((X ++ [x]) ++ (pl ++ rows)) := by
  rw [List.append_assoc (X ++ pl)] at hD
  have h := va_D.swap hD
  rw [← List.append_assoc X] at h
  have h2 := va_D.swap h
  rw [List.append_assoc (X ++ [x])] at h2
  exact h2
theorem vr_outer (c : ClassId) (N h0 : Nat) : ∀ i : Nat, Jvm.Free.Multi.outerC c N h0 i = arrV c N (fun j => va_rf (if j < i then some (h0 + 1 + j) else none))
  | 0 => by
    show ({ cls := c, slots := Array.replicate N .null, vm := .none } : Cell) = _
    rw [arrV_new]
    refine congrArg (arrV c N) (funext fun j => ?_)
    simp [va_rf]
  | i + 1 => by
    show (Jvm.Free.Multi.outerC c N h0 i).setSlot i (.ref (h0 + 1 + i)) = _
    rw [vr_outer c N h0 i, arrV_store]
    refine congrArg (arrV c N) (funext fun j => ?_)
    by_cases e : j = i
    · subst e
      simp [updV, va_rf]
    · by_cases h : j < i
      · simp [updV, e, h, Nat.lt_succ_of_lt h]
      · simp [updV, e, h, show ¬ j < i + 1 by omega]
def va_AOA (t : FieldType) (U : State) : Prop := (Cond.arrayOver (.array t)).before #[] U = true
theorem va_AOA.of {t : FieldType} {A : Array Value} {U : State} (h : (Cond.arrayOver (.array t)).before A U = true) : va_AOA t U := h
theorem va_AOA.use {t : FieldType} {A : Array Value} {U : State} (h : va_AOA t U) : (Cond.arrayOver (.array t)).before A U = true := h
section VGM
variable {p : Program} {l : Launch} {e : Env} {R : Room} {s : State} {m : MethodId} {args : Array Value} {below : List Frame} {meth : Method} {c : Code} {H : Heap} {locs : List Loc} {cells slots : Nat} {Q : State → Prop}
variable {cc : ByteArray} {pc : Nat} {ls : Array Slot} {rest : List Value} {D : va_G} {cl : List vw_C} {A : Nat → Prop} {a : Nat} {tys : List (ClassId × FieldType)} {ws : va_W} {H0 : Heap}
theorem va_mna {X : va_W} {L : List Nat} {f : Nat → va_E} {cc : ByteArray} (hexec : p.tables.exec = Jvm.exec) (hb : c.code = cc) {own : String} {index : Nat} {ty : FieldType} {cy : ClassId} (hown : s.vm.findClass own = some m.cls) (hclink : (Cond.classLink own index ("[" ++ (FieldType.array ty).toString)).before args s = true) (hover : va_AOA ty s) (harr : (Cond.arrayClass ty).before args s = true) (hcy : s.vm.findClass (FieldType.array ty).toString = some cy)
    (hK : va_K D cl tys s) (hP : va_P D cl (X ++ va_pl L f) H) (hD : va_D A (X ++ va_pl L f)) (hS : va_S A H0 H locs) (hA : ∀ q, H0.size ≤ q → A q) {n k : Int32} {N' K' : Nat} {z : vp_A} (hn : ¬ n < 0) (hk : ¬ k < 0) (hN : n.toNatClampNeg = N') (hM : k.toNatClampNeg = K')
    (hb1 : N' * 4 ≤ 536870912) (hb2 : K' * componentBytes ty ≤ 536870912) (hb3 : K' ≤ 536870912) (hdf : fits ty (defaultValue ty) = true) (hdd : (defaultValue ty).isDefault = true) (hcells : cells + (1 + N') ≤ R.cells) (hslots : slots + (N' + N' * K') ≤ R.slots) (hz : ∀ c : ClassId, Jvm.Free.Multi.innerC c K' (defaultValue ty) = vp_cell c z) (hdg : decode cc pc = .ok (.multianewarray index 2, 4))
    (kk : ∀ (q : Nat) (r : Nat → Nat) (cA : ClassId) (H1 : Heap), (∀ i j : Nat, i < N' → j < N' → r i = r j → i = j) → (∀ i : Nat, i < N' → r i ∉ L) → va_K D cl (tys ++ [(cA, .array ty)]) s →
      va_P D cl ((X ++ [(q, .inl (cA, N', .inr (.inr (.inr (.inr (fun i => if i < N' then some (r i) else none))))))]) ++ va_pl (L ++ (List.range N').map r) (vr_up f ((List.range N').map r) (.inl (cy, z)))) H1 → va_D A ((X ++ [(q, .inl (cA, N', .inr (.inr (.inr (.inr (fun i => if i < N' then some (r i) else none))))))]) ++ va_pl (L ++ (List.range N').map r) (vr_up f ((List.range N').map r) (.inl (cy, z)))) → va_S A H0 H1 locs →
      W p l e R s m args below meth c H1 locs (cells + 1 + N') (slots + N' + N' * K') Q (F0 m (pc + 4) ls (.ref q :: rest))) : W p l e R s m args below meth c H locs cells slots Q (F0 m pc ls (.int k :: .int n :: rest)) := by
  subst hN
  subst hM
  intro T hT Xs
  obtain ⟨vm₁, cA, comp, -, fA, fC, hO, -, X', step⟩ := Xs.multianewarray2F hexec hown hclink (va_AOA.use hover) harr (g := F0 m pc ls (.int k :: .int n :: rest)) rfl (by rw [hb]; exact hdg) rfl hn hk hb1 hb2 hb3 hdf hdd hcells hslots
  have ec : some cy = some comp := hcy.symm.trans fC
  cases ec
  generalize hF : Jvm.Free.Multi.fill (T.setVm vm₁) cA cy n.toNatClampNeg k.toNatClampNeg (defaultValue ty) n.toNatClampNeg = F at X' step
  have hTh : (T.setVm vm₁).heap = H := hT
  obtain ⟨f1, f2, -, -⟩ := Jvm.Free.Multi.fill_facts (T.setVm vm₁) cA cy n.toNatClampNeg k.toNatClampNeg (defaultValue ty) n.toNatClampNeg
  rw [hF, hTh] at f1 f2
  have hold : ∀ x : Nat, x < H.size → F.heap[x]? = H[x]? := fun x hx => by
    have := Jvm.Free.Multi.fill_old (T.setVm vm₁) cA cy n.toNatClampNeg k.toNatClampNeg (defaultValue ty) (a := x) (by rw [hTh]; exact hx) n.toNatClampNeg
    rw [hF, hTh] at this
    exact this
  have hrow : ∀ j : Nat, j < n.toNatClampNeg → F.heap[H.size + 1 + j]? = some (vp_cell cy z) := fun j hj => by
    have := Jvm.Free.Multi.fill_inner (T.setVm vm₁) cA cy n.toNatClampNeg k.toNatClampNeg (defaultValue ty) n.toNatClampNeg j hj
    rw [hF, hTh, hz] at this
    exact this
  have hout : Jvm.Free.Multi.outerC cA n.toNatClampNeg H.size n.toNatClampNeg = vp_cell cA (n.toNatClampNeg, .inr (.inr (.inr (.inr (fun i => if i < n.toNatClampNeg then some (H.size + 1 + i) else none))))) := by
    rw [vp_cell_q]
    exact vr_outer cA n.toNatClampNeg H.size n.toNatClampNeg
  rw [hout] at f2
  have hlt : ∀ a, a ∈ L → a < H.size := fun a ha => by
    obtain ⟨k9, hk9⟩ := va_pl_get (X := X) (f := f) ha
    exact (hP k9 _ hk9).lt
  have hnl : ∀ i : Nat, i < n.toNatClampNeg → H.size + 1 + i ∉ L := fun i _ h => by
    have := hlt _ h
    omega
  have hnm : ∀ a, a ∈ (List.range n.toNatClampNeg).map (fun i => H.size + 1 + i) → a ∉ L := fun a ha h => by
    obtain ⟨i, -, rfl⟩ := List.mem_map.mp ha
    have := hlt _ h
    omega
  have hP0 : va_P D cl (X ++ va_pl L f) F.heap := hP.kept (fun k9 x hx => hold x.1 ((hP k9 x hx).lt))
  have hP1 : va_P D cl ((X ++ va_pl L f) ++ [(H.size, .inl (cA, n.toNatClampNeg, .inr (.inr (.inr (.inr (fun i => if i < n.toNatClampNeg then some (H.size + 1 + i) else none))))))]) F.heap := hP0.app (fun k9 x hx => by
    have h0 : k9 < 1 := (List.getElem?_eq_some_iff.mp hx).1
    rw [show k9 = 0 by omega] at hx
    cases hx
    exact f2)
  have hP2 : va_P D cl (((X ++ va_pl L f) ++ [(H.size, .inl (cA, n.toNatClampNeg, .inr (.inr (.inr (.inr (fun i => if i < n.toNatClampNeg then some (H.size + 1 + i) else none))))))]) ++ ((List.range n.toNatClampNeg).map (fun i => H.size + 1 + i)).map (fun a => (a, .inl (cy, z)))) F.heap := hP1.app (fun k9 x hx => by
    obtain ⟨a, ha, rfl⟩ := List.mem_map.mp (List.mem_of_getElem? hx)
    obtain ⟨i, hi, rfl⟩ := List.mem_map.mp ha
    exact hrow i (List.mem_range.mp hi))
  have hD2 : va_D A (((X ++ va_pl L f) ++ [(H.size, .inl (cA, n.toNatClampNeg, .inr (.inr (.inr (.inr (fun i => if i < n.toNatClampNeg then some (H.size + 1 + i) else none))))))]) ++ ((List.range n.toNatClampNeg).map (fun i => H.size + 1 + i)).map (fun a => (a, .inl (cy, z)))) := by
    have hD1 := hD.push (e := .inl (cA, n.toNatClampNeg, .inr (.inr (.inr (.inr (fun i => if i < n.toNatClampNeg then some (H.size + 1 + i) else none)))))) hP rfl (hA _ hS.1)
    generalize hW1 : (X ++ va_pl L f) ++ [(H.size, .inl (cA, n.toNatClampNeg, .inr (.inr (.inr (.inr (fun i => if i < n.toNatClampNeg then some (H.size + 1 + i) else none))))))] = W1 at hD1 hP1 ⊢
    have hle : ∀ (k9 : Nat) (x : Nat × va_E), W1[k9]? = some x → x.1 ≤ H.size := fun k9 x hx => by
      rw [← hW1] at hx
      by_cases hl : k9 < (X ++ va_pl L f).length
      · rw [List.getElem?_append_left hl] at hx
        exact Nat.le_of_lt ((hP k9 x hx).lt)
      · rw [List.getElem?_append_right (by omega)] at hx
        have h0 : k9 - (X ++ va_pl L f).length < 1 := (List.getElem?_eq_some_iff.mp hx).1
        rw [show k9 - (X ++ va_pl L f).length = 0 by omega] at hx
        cases hx
        exact Nat.le_refl _
    have hr : ∀ (k9 : Nat) (x : Nat × va_E), (((List.range n.toNatClampNeg).map (fun i => H.size + 1 + i)).map (fun a => ((a, .inl (cy, z)) : Nat × va_E)))[k9]? = some x → x.1 = H.size + 1 + k9 := fun k9 x hx => by
      rw [List.getElem?_map, List.getElem?_map] at hx
      by_cases h9 : k9 < n.toNatClampNeg
      · rw [List.getElem?_range h9] at hx
        cases hx
        rfl
      · have hn0 : (List.range n.toNatClampNeg)[k9]? = none := List.getElem?_eq_none (by rw [List.length_range]; omega)
        rw [hn0] at hx
        cases hx
    refine ⟨fun i j x y hi hj hxy => ?_, fun k9 x hx => ?_⟩
    · by_cases h1 : i < W1.length <;> by_cases h2 : j < W1.length
      · rw [List.getElem?_append_left h1] at hi
        rw [List.getElem?_append_left h2] at hj
        exact hD1.1 i j x y hi hj hxy
      · rw [List.getElem?_append_left h1] at hi
        rw [List.getElem?_append_right (by omega)] at hj
        have := hle _ _ hi
        have := hr _ _ hj
        omega
      · rw [List.getElem?_append_right (by omega)] at hi
        rw [List.getElem?_append_left h2] at hj
        have := hle _ _ hj
        have := hr _ _ hi
        omega
      · rw [List.getElem?_append_right (by omega)] at hi hj
        have := hr _ _ hi
        have := hr _ _ hj
        omega
    · by_cases h1 : k9 < W1.length
      · rw [List.getElem?_append_left h1] at hx
        exact hD1.2 k9 x hx
      · rw [List.getElem?_append_right (by omega)] at hx
        have := hr _ _ hx
        exact hA _ (by have := hS.1; omega)
  have hAr : ArrOfT s cA (.array ty) := fun N9 z9 => by
    obtain ⟨-, k9, hk9, cm9, hkk9⟩ := (hO 0 0 0).1
    exact ⟨(fun q hq => by cases hq), k9, hk9, cm9, hkk9⟩
  have hK2 : va_K D cl (tys ++ [(cA, .array ty)]) s := ⟨hK.1, fun k9 x hx => by
    by_cases hl : k9 < tys.length
    · rw [List.getElem?_append_left hl] at hx
      exact hK.2 k9 x hx
    · rw [List.getElem?_append_right (by omega)] at hx
      have h0 : k9 - tys.length < 1 := (List.getElem?_eq_some_iff.mp hx).1
      rw [show k9 - tys.length = 0 by omega] at hx
      cases hx
      exact ⟨hAr, fA⟩⟩
  obtain ⟨t, a1, b1⟩ := kk H.size (fun i => H.size + 1 + i) cA F.heap (fun i j _ _ h => by have h9 : H.size + 1 + i = H.size + 1 + j := h; omega) hnl hK2 (by rw [← vr_rows hnm]; exact vr_lay hP2) (by rw [← vr_rows hnm]; exact vr_layD hD2) ⟨by rw [f1]; have := hS.1; omega, fun x h1 h2 => (hold x (Nat.lt_of_lt_of_le h1 hS.1)).trans (hS.2.1 x h1 h2), hS.2.2⟩ F rfl X'
  refine ⟨t, step t ?_, b1⟩
  have e : T.heap.size = H.size := by rw [hT]
  rw [e]
  exact a1
end VGM
/-! ===== END ===== -/

/-! ===== BEGIN printed: names, fields, word lists, decode rows ===== -/
def RX0 : String := "LessonWays$Answers"
def TX0 : u_T := fun k => match k with
  | 0 => ("LessonWays$Answers", "items", "LLessonWays$Items;", true)
  | 1 => ("LessonWays$Answers", "space", "LLessonWays$Space;", true)
  | _ => ("LessonWays$Answers", "sheets", "LLessonWays$Sheets;", true)
def tyX0 : Nat → FieldType := fun k => match k with
  | 0 => .object "LessonWays$Items"
  | 1 => .object "LessonWays$Space"
  | _ => .object "LessonWays$Sheets"
abbrev wsX00 : List Cond := u_ws RX0 TX0 3
theorem nmX0 : ∀ a, a < 3 → ∀ b, b < 3 → a ≠ b → (TX0 a).2.1 ≠ (TX0 b).2.1 := by decide +kernel
theorem tyX0_ok : ∀ k, k < 3 → parseFieldDescriptor (TX0 k).2.2.1 = some (tyX0 k) := by decide +kernel
abbrev cX0_init : ByteArray := prog_2_method_1_code
def yX0_init : MethodName := ⟨RX0, "<init>", "(LLessonWays$Items;LLessonWays$Space;LLessonWays$Sheets;)V"⟩
abbrev cX0_rightIn : ByteArray := prog_2_method_2_code
def yX0_rightIn : MethodName := ⟨RX0, "rightIn", "(II)I"⟩
abbrev cX0_sumOfMisfits : ByteArray := prog_2_method_3_code
def yX0_sumOfMisfits : MethodName := ⟨RX0, "sumOfMisfits", "(I)I"⟩
abbrev cX0_oddAnswers : ByteArray := prog_2_method_4_code
def yX0_oddAnswers : MethodName := ⟨RX0, "oddAnswers", "(III)I"⟩
abbrev cX0_seenNeeds : ByteArray := prog_2_method_5_code
def yX0_seenNeeds : MethodName := ⟨RX0, "seenNeeds", "(III)I"⟩
abbrev cX0_countAgainst : ByteArray := prog_2_method_6_code
def yX0_countAgainst : MethodName := ⟨RX0, "countAgainst", "(III)I"⟩
abbrev cX0_commonState : ByteArray := prog_2_method_7_code
def yX0_commonState : MethodName := ⟨RX0, "commonState", "(I)I"⟩
abbrev cX0_countNearest : ByteArray := prog_2_method_8_code
def yX0_countNearest : MethodName := ⟨RX0, "countNearest", "(II)I"⟩
def RX1 : String := "LessonWays$Exam"
def TX1 : u_T := fun k => match k with
  | 0 => ("LessonWays$Exam", "items", "LLessonWays$Items;", true)
  | 1 => ("LessonWays$Exam", "space", "LLessonWays$Space;", true)
  | 2 => ("LessonWays$Exam", "weightOf", "[J", true)
  | 3 => ("LessonWays$Exam", "having", "[I", true)
  | 4 => ("LessonWays$Exam", "questions", "[I", true)
  | 5 => ("LessonWays$Exam", "size", "I", false)
  | 6 => ("LessonWays$Exam", "luck", "I", false)
  | 7 => ("LessonWays$Exam", "slip", "I", false)
  | _ => ("LessonWays$Exam", "unsureAnswers", "I", false)
def tyX1 : Nat → FieldType := fun k => match k with
  | 0 => .object "LessonWays$Items"
  | 1 => .object "LessonWays$Space"
  | 2 => .array .long
  | 3 => .array .int
  | 4 => .array .int
  | 5 => .int
  | 6 => .int
  | 7 => .int
  | _ => .int
abbrev wsX10 : List Cond := u_ws RX1 TX1 9
theorem nmX1 : ∀ a, a < 9 → ∀ b, b < 9 → a ≠ b → (TX1 a).2.1 ≠ (TX1 b).2.1 := by decide +kernel
theorem tyX1_ok : ∀ k, k < 9 → parseFieldDescriptor (TX1 k).2.2.1 = some (tyX1 k) := by decide +kernel
abbrev cX1_init : ByteArray := prog_3_method_1_code
def yX1_init : MethodName := ⟨RX1, "<init>", "(LLessonWays$Items;LLessonWays$Space;)V"⟩
abbrev cX1_begin : ByteArray := prog_3_method_2_code
def yX1_begin : MethodName := ⟨RX1, "begin", "(II)V"⟩
abbrev cX1_leftWith : ByteArray := prog_3_method_3_code
def yX1_leftWith : MethodName := ⟨RX1, "leftWith", "(I)I"⟩
abbrev cX1_bestItem : ByteArray := prog_3_method_4_code
def yX1_bestItem : MethodName := ⟨RX1, "bestItem", "()I"⟩
abbrev cX1_takeSure : ByteArray := prog_3_method_5_code
def yX1_takeSure : MethodName := ⟨RX1, "takeSure", "(IZ)I"⟩
abbrev cX1_takeUnsure : ByteArray := prog_3_method_6_code
def yX1_takeUnsure : MethodName := ⟨RX1, "takeUnsure", "(IZ)I"⟩
abbrev cX1_weigh : ByteArray := prog_3_method_7_code
def yX1_weigh : MethodName := ⟨RX1, "weigh", "(III)Z"⟩
abbrev cX1_takeAll : ByteArray := prog_3_method_8_code
def yX1_takeAll : MethodName := ⟨RX1, "takeAll", "(I)I"⟩
abbrev cX1_heaviest : ByteArray := prog_3_method_9_code
def yX1_heaviest : MethodName := ⟨RX1, "heaviest", "()I"⟩
abbrev cX1_sumOfWeights : ByteArray := prog_3_method_10_code
def yX1_sumOfWeights : MethodName := ⟨RX1, "sumOfWeights", "()J"⟩
abbrev cX1_fewestQuestions : ByteArray := prog_3_method_11_code
def yX1_fewestQuestions : MethodName := ⟨RX1, "fewestQuestions", "()I"⟩
abbrev cX1_gatherFamily : ByteArray := prog_3_method_12_code
def yX1_gatherFamily : MethodName := ⟨RX1, "gatherFamily", "()V"⟩
abbrev cX1_markHaving : ByteArray := prog_3_method_13_code
def yX1_markHaving : MethodName := ⟨RX1, "markHaving", "(II)V"⟩
abbrev cX1_fewestFor : ByteArray := prog_3_method_14_code
def yX1_fewestFor : MethodName := ⟨RX1, "fewestFor", "(I)I"⟩
def RX2 : String := "LessonWays$Items"
def TX2 : u_T := fun k => match k with
  | 0 => ("LessonWays$Items", "kinds", "[I", true)
  | 1 => ("LessonWays$Items", "needs", "[I", true)
  | 2 => ("LessonWays$Items", "extras", "[I", true)
  | 3 => ("LessonWays$Items", "hours", "[I", true)
  | 4 => ("LessonWays$Items", "others", "[I", true)
  | 5 => ("LessonWays$Items", "otherSets", "[[I", true)
  | 6 => ("LessonWays$Items", "lessons", "[I", true)
  | _ => ("LessonWays$Items", "size", "I", false)
def tyX2 : Nat → FieldType := fun k => match k with
  | 0 => .array .int
  | 1 => .array .int
  | 2 => .array .int
  | 3 => .array .int
  | 4 => .array .int
  | 5 => .array (.array .int)
  | 6 => .array .int
  | _ => .int
abbrev wsX20 : List Cond := u_ws RX2 TX2 8
theorem nmX2 : ∀ a, a < 8 → ∀ b, b < 8 → a ≠ b → (TX2 a).2.1 ≠ (TX2 b).2.1 := by decide +kernel
theorem tyX2_ok : ∀ k, k < 8 → parseFieldDescriptor (TX2 k).2.2.1 = some (tyX2 k) := by decide +kernel
abbrev cX2_init : ByteArray := prog_4_method_1_code
def yX2_init : MethodName := ⟨RX2, "<init>", "()V"⟩
abbrev cX2_canBeSet : ByteArray := prog_4_method_2_code
def yX2_canBeSet : MethodName := ⟨RX2, "canBeSet", "(I)Z"⟩
abbrev cX2_canBe : ByteArray := prog_4_method_3_code
def yX2_canBe : MethodName := ⟨RX2, "canBe", "(III)Z"⟩
abbrev cX2_has : ByteArray := prog_4_method_4_code
def yX2_has : MethodName := ⟨RX2, "has", "(I)Z"⟩
abbrev cX2_hasAll : ByteArray := prog_4_method_5_code
def yX2_hasAll : MethodName := ⟨RX2, "hasAll", "(I)Z"⟩
abbrev cX2_all : ByteArray := prog_4_method_6_code
def yX2_all : MethodName := ⟨RX2, "all", "()I"⟩
abbrev cX2_add : ByteArray := prog_4_method_7_code
def yX2_add : MethodName := ⟨RX2, "add", "(III)I"⟩
abbrev cX2_addOther : ByteArray := prog_4_method_8_code
def yX2_addOther : MethodName := ⟨RX2, "addOther", "(II)I"⟩
abbrev cX2_gatherGroup : ByteArray := prog_4_method_9_code
def yX2_gatherGroup : MethodName := ⟨RX2, "gatherGroup", "(I)V"⟩
abbrev cX2_isInGroup : ByteArray := prog_4_method_10_code
def yX2_isInGroup : MethodName := ⟨RX2, "isInGroup", "(II)Z"⟩
abbrev cX2_leads : ByteArray := prog_4_method_11_code
def yX2_leads : MethodName := ⟨RX2, "leads", "(I)Z"⟩
abbrev cX2_allOf : ByteArray := prog_4_method_12_code
def yX2_allOf : MethodName := ⟨RX2, "allOf", "(I)I"⟩
abbrev cX2_ofKind : ByteArray := prog_4_method_13_code
def yX2_ofKind : MethodName := ⟨RX2, "ofKind", "(I)I"⟩
abbrev cX2_servingSet : ByteArray := prog_4_method_14_code
def yX2_servingSet : MethodName := ⟨RX2, "servingSet", "(II)I"⟩
abbrev cX2_isServed : ByteArray := prog_4_method_15_code
def yX2_isServed : MethodName := ⟨RX2, "isServed", "(II)Z"⟩
abbrev cX2_fits : ByteArray := prog_4_method_16_code
def yX2_fits : MethodName := ⟨RX2, "fits", "(II)Z"⟩
abbrev cX2_hoursOf : ByteArray := prog_4_method_17_code
def yX2_hoursOf : MethodName := ⟨RX2, "hoursOf", "(I)I"⟩
def RX3 : String := "LessonWays$Learner"
def TX3 : u_T := fun k => match k with
  | 0 => ("LessonWays$Learner", "items", "LLessonWays$Items;", true)
  | 1 => ("LessonWays$Learner", "space", "LLessonWays$Space;", true)
  | 2 => ("LessonWays$Learner", "usedOn", "[I", true)
  | 3 => ("LessonWays$Learner", "known", "I", false)
  | 4 => ("LessonWays$Learner", "day", "I", false)
  | _ => ("LessonWays$Learner", "lost", "I", false)
def tyX3 : Nat → FieldType := fun k => match k with
  | 0 => .object "LessonWays$Items"
  | 1 => .object "LessonWays$Space"
  | 2 => .array .int
  | 3 => .int
  | 4 => .int
  | _ => .int
abbrev wsX30 : List Cond := u_ws RX3 TX3 6
theorem nmX3 : ∀ a, a < 6 → ∀ b, b < 6 → a ≠ b → (TX3 a).2.1 ≠ (TX3 b).2.1 := by decide +kernel
theorem tyX3_ok : ∀ k, k < 6 → parseFieldDescriptor (TX3 k).2.2.1 = some (tyX3 k) := by decide +kernel
abbrev cX3_init : ByteArray := prog_5_method_1_code
def yX3_init : MethodName := ⟨RX3, "<init>", "(LLessonWays$Items;LLessonWays$Space;)V"⟩
abbrev cX3_begin : ByteArray := prog_5_method_2_code
def yX3_begin : MethodName := ⟨RX3, "begin", "(I)V"⟩
abbrev cX3_takeLesson : ByteArray := prog_5_method_3_code
def yX3_takeLesson : MethodName := ⟨RX3, "takeLesson", "(I)I"⟩
abbrev cX3_practise : ByteArray := prog_5_method_4_code
def yX3_practise : MethodName := ⟨RX3, "practise", "(I)I"⟩
abbrev cX3_liveOneDay : ByteArray := prog_5_method_5_code
def yX3_liveOneDay : MethodName := ⟨RX3, "liveOneDay", "()V"⟩
abbrev cX3_forgottenNow : ByteArray := prog_5_method_6_code
def yX3_forgottenNow : MethodName := ⟨RX3, "forgottenNow", "()I"⟩
def RX4 : String := "LessonWays$Routes"
def TX4 : u_T := fun k => match k with
  | 0 => ("LessonWays$Routes", "items", "LLessonWays$Items;", true)
  | 1 => ("LessonWays$Routes", "space", "LLessonWays$Space;", true)
  | 2 => ("LessonWays$Routes", "sums", "[I", true)
  | _ => ("LessonWays$Routes", "lessonHours", "[I", true)
def tyX4 : Nat → FieldType := fun k => match k with
  | 0 => .object "LessonWays$Items"
  | 1 => .object "LessonWays$Space"
  | 2 => .array .int
  | _ => .array .int
abbrev wsX40 : List Cond := u_ws RX4 TX4 4
theorem nmX4 : ∀ a, a < 4 → ∀ b, b < 4 → a ≠ b → (TX4 a).2.1 ≠ (TX4 b).2.1 := by decide +kernel
theorem tyX4_ok : ∀ k, k < 4 → parseFieldDescriptor (TX4 k).2.2.1 = some (tyX4 k) := by decide +kernel
abbrev cX4_init : ByteArray := prog_6_method_1_code
def yX4_init : MethodName := ⟨RX4, "<init>", "(LLessonWays$Items;LLessonWays$Space;)V"⟩
abbrev cX4_leastCost : ByteArray := prog_6_method_2_code
def yX4_leastCost : MethodName := ⟨RX4, "leastCost", "(II)I"⟩
abbrev cX4_lessonOnWay : ByteArray := prog_6_method_3_code
def yX4_lessonOnWay : MethodName := ⟨RX4, "lessonOnWay", "(III)I"⟩
abbrev cX4_rowsTo : ByteArray := prog_6_method_4_code
def yX4_rowsTo : MethodName := ⟨RX4, "rowsTo", "(I)I"⟩
abbrev cX4_sumCosts : ByteArray := prog_6_method_5_code
def yX4_sumCosts : MethodName := ⟨RX4, "sumCosts", "(I)V"⟩
abbrev cX4_leastThroughNext : ByteArray := prog_6_method_6_code
def yX4_leastThroughNext : MethodName := ⟨RX4, "leastThroughNext", "(I)I"⟩
abbrev cX4_costThrough : ByteArray := prog_6_method_7_code
def yX4_costThrough : MethodName := ⟨RX4, "costThrough", "(II)I"⟩
abbrev cX4_firstStep : ByteArray := prog_6_method_8_code
def yX4_firstStep : MethodName := ⟨RX4, "firstStep", "(I)I"⟩
def RX5 : String := "LessonWays$Sheets"
def TX5 : u_T := fun k => match k with
  | 0 => ("LessonWays$Sheets", "forms", "[I", true)
  | 1 => ("LessonWays$Sheets", "sizes", "[I", true)
  | 2 => ("LessonWays$Sheets", "marks", "[[I", true)
  | _ => ("LessonWays$Sheets", "latestFinding", "I", false)
def tyX5 : Nat → FieldType := fun k => match k with
  | 0 => .array .int
  | 1 => .array .int
  | 2 => .array (.array .int)
  | _ => .int
abbrev wsX50 : List Cond := u_ws RX5 TX5 4
theorem nmX5 : ∀ a, a < 4 → ∀ b, b < 4 → a ≠ b → (TX5 a).2.1 ≠ (TX5 b).2.1 := by decide +kernel
theorem tyX5_ok : ∀ k, k < 4 → parseFieldDescriptor (TX5 k).2.2.1 = some (tyX5 k) := by decide +kernel
abbrev cX5_init : ByteArray := prog_7_method_1_code
def yX5_init : MethodName := ⟨RX5, "<init>", "()V"⟩
abbrev cX5_canBe : ByteArray := prog_7_method_2_code
def yX5_canBe : MethodName := ⟨RX5, "canBe", "(I)Z"⟩
abbrev cX5_canBeForm : ByteArray := prog_7_method_3_code
def yX5_canBeForm : MethodName := ⟨RX5, "canBeForm", "(I)Z"⟩
abbrev cX5_find : ByteArray := prog_7_method_4_code
def yX5_find : MethodName := ⟨RX5, "find", "(I)I"⟩
abbrev cX5_isLost : ByteArray := prog_7_method_5_code
def yX5_isLost : MethodName := ⟨RX5, "isLost", "(I)Z"⟩
abbrev cX5_hasMark : ByteArray := prog_7_method_6_code
def yX5_hasMark : MethodName := ⟨RX5, "hasMark", "(II)Z"⟩
abbrev cX5_hasRange : ByteArray := prog_7_method_7_code
def yX5_hasRange : MethodName := ⟨RX5, "hasRange", "(III)Z"⟩
abbrev cX5_begin : ByteArray := prog_7_method_8_code
def yX5_begin : MethodName := ⟨RX5, "begin", "(III)V"⟩
abbrev cX5_drop : ByteArray := prog_7_method_9_code
def yX5_drop : MethodName := ⟨RX5, "drop", "(I)I"⟩
abbrev cX5_read : ByteArray := prog_7_method_10_code
def yX5_read : MethodName := ⟨RX5, "read", "(II)I"⟩
abbrev cX5_write : ByteArray := prog_7_method_11_code
def yX5_write : MethodName := ⟨RX5, "write", "(III)V"⟩
abbrev cX5_move : ByteArray := prog_7_method_12_code
def yX5_move : MethodName := ⟨RX5, "move", "(IIIII)V"⟩
def RX6 : String := "LessonWays$Space"
def TX6 : u_T := fun k => match k with
  | 0 => ("LessonWays$Space", "items", "LLessonWays$Items;", true)
  | 1 => ("LessonWays$Space", "numbers", "[I", true)
  | 2 => ("LessonWays$Space", "fitting", "[I", true)
  | 3 => ("LessonWays$Space", "nearby", "[I", true)
  | 4 => ("LessonWays$Space", "size", "I", false)
  | 5 => ("LessonWays$Space", "bottom", "I", false)
  | _ => ("LessonWays$Space", "top", "I", false)
def tyX6 : Nat → FieldType := fun k => match k with
  | 0 => .object "LessonWays$Items"
  | 1 => .array .int
  | 2 => .array .int
  | 3 => .array .int
  | 4 => .int
  | 5 => .int
  | _ => .int
abbrev wsX60 : List Cond := u_ws RX6 TX6 7
theorem nmX6 : ∀ a, a < 7 → ∀ b, b < 7 → a ≠ b → (TX6 a).2.1 ≠ (TX6 b).2.1 := by decide +kernel
theorem tyX6_ok : ∀ k, k < 7 → parseFieldDescriptor (TX6 k).2.2.1 = some (tyX6 k) := by decide +kernel
abbrev cX6_init : ByteArray := prog_8_method_1_code
def yX6_init : MethodName := ⟨RX6, "<init>", "(LLessonWays$Items;)V"⟩
abbrev cX6_chart : ByteArray := prog_8_method_2_code
def yX6_chart : MethodName := ⟨RX6, "chart", "()V"⟩
abbrev cX6_enter : ByteArray := prog_8_method_3_code
def yX6_enter : MethodName := ⟨RX6, "enter", "(I)V"⟩
abbrev cX6_measure : ByteArray := prog_8_method_4_code
def yX6_measure : MethodName := ⟨RX6, "measure", "()V"⟩
abbrev cX6_compare : ByteArray := prog_8_method_5_code
def yX6_compare : MethodName := ⟨RX6, "compare", "(II)V"⟩
abbrev cX6_isState : ByteArray := prog_8_method_6_code
def yX6_isState : MethodName := ⟨RX6, "isState", "(I)Z"⟩
abbrev cX6_isNext : ByteArray := prog_8_method_7_code
def yX6_isNext : MethodName := ⟨RX6, "isNext", "(II)Z"⟩
abbrev cX6_lastOf : ByteArray := prog_8_method_8_code
def yX6_lastOf : MethodName := ⟨RX6, "lastOf", "(I)I"⟩
abbrev cX6_coreOf : ByteArray := prog_8_method_9_code
def yX6_coreOf : MethodName := ⟨RX6, "coreOf", "(I)I"⟩
abbrev cX6_nearestTo : ByteArray := prog_8_method_10_code
def yX6_nearestTo : MethodName := ⟨RX6, "nearestTo", "(I)I"⟩
abbrev cX6_farFromNearest : ByteArray := prog_8_method_11_code
def yX6_farFromNearest : MethodName := ⟨RX6, "farFromNearest", "(I)I"⟩
abbrev cX6_baseState : ByteArray := prog_8_method_12_code
def yX6_baseState : MethodName := ⟨RX6, "baseState", "(II)I"⟩
def RX7 : String := "LessonWays"
def TX7 : u_T := fun k => match k with
  | 0 => ("LessonWays", "items", "LLessonWays$Items;", true)
  | 1 => ("LessonWays", "space", "LLessonWays$Space;", true)
  | 2 => ("LessonWays", "routes", "LLessonWays$Routes;", true)
  | 3 => ("LessonWays", "exam", "LLessonWays$Exam;", true)
  | 4 => ("LessonWays", "learner", "LLessonWays$Learner;", true)
  | 5 => ("LessonWays", "sheets", "LLessonWays$Sheets;", true)
  | _ => ("LessonWays", "answers", "LLessonWays$Answers;", true)
def tyX7 : Nat → FieldType := fun k => match k with
  | 0 => .object "LessonWays$Items"
  | 1 => .object "LessonWays$Space"
  | 2 => .object "LessonWays$Routes"
  | 3 => .object "LessonWays$Exam"
  | 4 => .object "LessonWays$Learner"
  | 5 => .object "LessonWays$Sheets"
  | _ => .object "LessonWays$Answers"
abbrev wsX70 : List Cond := u_ws RX7 TX7 7
theorem nmX7 : ∀ a, a < 7 → ∀ b, b < 7 → a ≠ b → (TX7 a).2.1 ≠ (TX7 b).2.1 := by decide +kernel
theorem tyX7_ok : ∀ k, k < 7 → parseFieldDescriptor (TX7 k).2.2.1 = some (tyX7 k) := by decide +kernel
abbrev cX7_init : ByteArray := prog_1_method_1_code
def yX7_init : MethodName := ⟨RX7, "<init>", "()V"⟩
abbrev cX7_item : ByteArray := prog_1_method_2_code
def yX7_item : MethodName := ⟨RX7, "item", "(III)I"⟩
abbrev cX7_other : ByteArray := prog_1_method_3_code
def yX7_other : MethodName := ⟨RX7, "other", "(II)I"⟩
abbrev cX7_hours : ByteArray := prog_1_method_4_code
def yX7_hours : MethodName := ⟨RX7, "hours", "(II)I"⟩
abbrev cX7_about : ByteArray := prog_1_method_5_code
def yX7_about : MethodName := ⟨RX7, "about", "(II)I"⟩
abbrev cX7_served : ByteArray := prog_1_method_6_code
def yX7_served : MethodName := ⟨RX7, "served", "(II)I"⟩
abbrev cX7_states : ByteArray := prog_1_method_7_code
def yX7_states : MethodName := ⟨RX7, "states", "()I"⟩
abbrev cX7_state : ByteArray := prog_1_method_8_code
def yX7_state : MethodName := ⟨RX7, "state", "(I)I"⟩
abbrev cX7_at : ByteArray := prog_1_method_9_code
def yX7_at : MethodName := ⟨RX7, "at", "(I)I"⟩
abbrev cX7_top : ByteArray := prog_1_method_10_code
def yX7_top : MethodName := ⟨RX7, "top", "()I"⟩
abbrev cX7_next : ByteArray := prog_1_method_11_code
def yX7_next : MethodName := ⟨RX7, "next", "(I)I"⟩
abbrev cX7_last : ByteArray := prog_1_method_12_code
def yX7_last : MethodName := ⟨RX7, "last", "(I)I"⟩
abbrev cX7_core : ByteArray := prog_1_method_13_code
def yX7_core : MethodName := ⟨RX7, "core", "(I)I"⟩
abbrev cX7_reason : ByteArray := prog_1_method_14_code
def yX7_reason : MethodName := ⟨RX7, "reason", "(II)I"⟩
abbrev cX7_test : ByteArray := prog_1_method_15_code
def yX7_test : MethodName := ⟨RX7, "test", "(II)I"⟩
abbrev cX7_left : ByteArray := prog_1_method_16_code
def yX7_left : MethodName := ⟨RX7, "left", "()I"⟩
abbrev cX7_ask : ByteArray := prog_1_method_17_code
def yX7_ask : MethodName := ⟨RX7, "ask", "()I"⟩
abbrev cX7_answer : ByteArray := prog_1_method_18_code
def yX7_answer : MethodName := ⟨RX7, "answer", "(IZ)I"⟩
abbrev cX7_unsure : ByteArray := prog_1_method_19_code
def yX7_unsure : MethodName := ⟨RX7, "unsure", "(IZ)I"⟩
abbrev cX7_likely : ByteArray := prog_1_method_20_code
def yX7_likely : MethodName := ⟨RX7, "likely", "()I"⟩
abbrev cX7_weight : ByteArray := prog_1_method_21_code
def yX7_weight : MethodName := ⟨RX7, "weight", "(I)J"⟩
abbrev cX7_weights : ByteArray := prog_1_method_22_code
def yX7_weights : MethodName := ⟨RX7, "weights", "()J"⟩
abbrev cX7_worst : ByteArray := prog_1_method_23_code
def yX7_worst : MethodName := ⟨RX7, "worst", "()I"⟩
abbrev cX7_cost : ByteArray := prog_1_method_24_code
def yX7_cost : MethodName := ⟨RX7, "cost", "(II)I"⟩
abbrev cX7_way : ByteArray := prog_1_method_25_code
def yX7_way : MethodName := ⟨RX7, "way", "(III)I"⟩
abbrev cX7_ways : ByteArray := prog_1_method_26_code
def yX7_ways : MethodName := ⟨RX7, "ways", "(I)I"⟩
abbrev cX7_learn : ByteArray := prog_1_method_27_code
def yX7_learn : MethodName := ⟨RX7, "learn", "(I)I"⟩
abbrev cX7_use : ByteArray := prog_1_method_28_code
def yX7_use : MethodName := ⟨RX7, "use", "(I)I"⟩
abbrev cX7_pass : ByteArray := prog_1_method_29_code
def yX7_pass : MethodName := ⟨RX7, "pass", "(I)I"⟩
abbrev cX7_pupil : ByteArray := prog_1_method_30_code
def yX7_pupil : MethodName := ⟨RX7, "pupil", "(I)I"⟩
abbrev cX7_sheet : ByteArray := prog_1_method_31_code
def yX7_sheet : MethodName := ⟨RX7, "sheet", "(III)I"⟩
abbrev cX7_lose : ByteArray := prog_1_method_32_code
def yX7_lose : MethodName := ⟨RX7, "lose", "(I)I"⟩
abbrev cX7_put : ByteArray := prog_1_method_33_code
def yX7_put : MethodName := ⟨RX7, "put", "(IIII)I"⟩
abbrev cX7_get : ByteArray := prog_1_method_34_code
def yX7_get : MethodName := ⟨RX7, "get", "(III)I"⟩
abbrev cX7_copy : ByteArray := prog_1_method_35_code
def yX7_copy : MethodName := ⟨RX7, "copy", "(IIIII)I"⟩
abbrev cX7_nearest : ByteArray := prog_1_method_36_code
def yX7_nearest : MethodName := ⟨RX7, "nearest", "(I)I"⟩
abbrev cX7_far : ByteArray := prog_1_method_37_code
def yX7_far : MethodName := ⟨RX7, "far", "(II)I"⟩
abbrev cX7_base : ByteArray := prog_1_method_38_code
def yX7_base : MethodName := ⟨RX7, "base", "(I)I"⟩
abbrev cX7_atom : ByteArray := prog_1_method_39_code
def yX7_atom : MethodName := ⟨RX7, "atom", "(II)I"⟩
abbrev cX7_misfit : ByteArray := prog_1_method_40_code
def yX7_misfit : MethodName := ⟨RX7, "misfit", "(I)I"⟩
abbrev cX7_odd : ByteArray := prog_1_method_41_code
def yX7_odd : MethodName := ⟨RX7, "odd", "(III)I"⟩
abbrev cX7_seen : ByteArray := prog_1_method_42_code
def yX7_seen : MethodName := ⟨RX7, "seen", "(III)I"⟩
abbrev cX7_common : ByteArray := prog_1_method_43_code
def yX7_common : MethodName := ⟨RX7, "common", "(I)I"⟩
abbrev cX7_judge : ByteArray := prog_1_method_44_code
def yX7_judge : MethodName := ⟨RX7, "judge", "(II)I"⟩
abbrev cX7_count : ByteArray := prog_1_method_45_code
def yX7_count : MethodName := ⟨RX7, "count", "(I)I"⟩
abbrev cX7_digest : ByteArray := prog_1_method_46_code
def yX7_digest : MethodName := ⟨RX7, "digest", "()J"⟩
abbrev cX7_beginAnew : ByteArray := prog_1_method_47_code
def yX7_beginAnew : MethodName := ⟨RX7, "beginAnew", "()V"⟩
abbrev cX7_refusalOfState : ByteArray := prog_1_method_48_code
def yX7_refusalOfState : MethodName := ⟨RX7, "refusalOfState", "(I)I"⟩
abbrev cX7_refusalOfWay : ByteArray := prog_1_method_49_code
def yX7_refusalOfWay : MethodName := ⟨RX7, "refusalOfWay", "(II)I"⟩
abbrev cX7_refusalOfSheet : ByteArray := prog_1_method_50_code
def yX7_refusalOfSheet : MethodName := ⟨RX7, "refusalOfSheet", "(I)I"⟩
abbrev cX7_refusalOfMark : ByteArray := prog_1_method_51_code
def yX7_refusalOfMark : MethodName := ⟨RX7, "refusalOfMark", "(III)I"⟩
def RX8 : String := "LessonWaysModel"
def TX8 : u_T := fun k => match k with
  | 0 => ("LessonWaysModel", "items", "I", false)
  | 1 => ("LessonWaysModel", "kinds", "[I", true)
  | 2 => ("LessonWaysModel", "needs", "[I", true)
  | 3 => ("LessonWaysModel", "extras", "[I", true)
  | 4 => ("LessonWaysModel", "hours", "[I", true)
  | 5 => ("LessonWaysModel", "otherMany", "[I", true)
  | 6 => ("LessonWaysModel", "others", "[I", true)
  | 7 => ("LessonWaysModel", "isState", "[Z", true)
  | 8 => ("LessonWaysModel", "states", "I", false)
  | 9 => ("LessonWaysModel", "weights", "[J", true)
  | 10 => ("LessonWaysModel", "luck", "I", false)
  | 11 => ("LessonWaysModel", "slip", "I", false)
  | 12 => ("LessonWaysModel", "unsures", "I", false)
  | 13 => ("LessonWaysModel", "pupil", "I", false)
  | 14 => ("LessonWaysModel", "day", "I", false)
  | 15 => ("LessonWaysModel", "gone", "I", false)
  | 16 => ("LessonWaysModel", "usedOn", "[I", true)
  | 17 => ("LessonWaysModel", "family", "[I", true)
  | 18 => ("LessonWaysModel", "questions", "[I", true)
  | 19 => ("LessonWaysModel", "yet", "[I", true)
  | 20 => ("LessonWaysModel", "rowsTo", "[I", true)
  | 21 => ("LessonWaysModel", "isThere", "[Z", true)
  | 22 => ("LessonWaysModel", "forms", "[I", true)
  | 23 => ("LessonWaysModel", "sizes", "[I", true)
  | 24 => ("LessonWaysModel", "answered", "[I", true)
  | 25 => ("LessonWaysModel", "moved", "[I", true)
  | 26 => ("LessonWaysModel", "finding", "I", false)
  | _ => ("LessonWaysModel", "votes", "[I", true)
def tyX8 : Nat → FieldType := fun k => match k with
  | 0 => .int
  | 1 => .array .int
  | 2 => .array .int
  | 3 => .array .int
  | 4 => .array .int
  | 5 => .array .int
  | 6 => .array .int
  | 7 => .array .boolean
  | 8 => .int
  | 9 => .array .long
  | 10 => .int
  | 11 => .int
  | 12 => .int
  | 13 => .int
  | 14 => .int
  | 15 => .int
  | 16 => .array .int
  | 17 => .array .int
  | 18 => .array .int
  | 19 => .array .int
  | 20 => .array .int
  | 21 => .array .boolean
  | 22 => .array .int
  | 23 => .array .int
  | 24 => .array .int
  | 25 => .array .int
  | 26 => .int
  | _ => .array .int
abbrev wsX80 : List Cond := u_ws RX8 TX8 28
theorem nmX8 : ∀ a, a < 28 → ∀ b, b < 28 → a ≠ b → (TX8 a).2.1 ≠ (TX8 b).2.1 := by decide +kernel
theorem tyX8_ok : ∀ k, k < 28 → parseFieldDescriptor (TX8 k).2.2.1 = some (tyX8 k) := by decide +kernel
abbrev cX8_init : ByteArray := prog_10_method_1_code
def yX8_init : MethodName := ⟨RX8, "<init>", "()V"⟩
abbrev cX8_in : ByteArray := prog_10_method_3_code
def yX8_in : MethodName := ⟨RX8, "in", "(III)Z"⟩
abbrev cX8_has : ByteArray := prog_10_method_4_code
def yX8_has : MethodName := ⟨RX8, "has", "(II)Z"⟩
abbrev cX8_many : ByteArray := prog_10_method_5_code
def yX8_many : MethodName := ⟨RX8, "many", "(I)I"⟩
abbrev cX8_isItem : ByteArray := prog_10_method_6_code
def yX8_isItem : MethodName := ⟨RX8, "isItem", "(I)Z"⟩
abbrev cX8_isSet : ByteArray := prog_10_method_7_code
def yX8_isSet : MethodName := ⟨RX8, "isSet", "(I)Z"⟩
abbrev cX8_isServed : ByteArray := prog_10_method_8_code
def yX8_isServed : MethodName := ⟨RX8, "isServed", "(II)Z"⟩
abbrev cX8_lessonOf : ByteArray := prog_10_method_9_code
def yX8_lessonOf : MethodName := ⟨RX8, "lessonOf", "(I)I"⟩
abbrev cX8_isLeast : ByteArray := prog_10_method_10_code
def yX8_isLeast : MethodName := ⟨RX8, "isLeast", "(I)Z"⟩
abbrev cX8_fits : ByteArray := prog_10_method_11_code
def yX8_fits : MethodName := ⟨RX8, "fits", "(II)Z"⟩
abbrev cX8_bottom : ByteArray := prog_10_method_12_code
def yX8_bottom : MethodName := ⟨RX8, "bottom", "()I"⟩
abbrev cX8_anew : ByteArray := prog_10_method_13_code
def yX8_anew : MethodName := ⟨RX8, "anew", "()V"⟩
abbrev cX8_beginTest : ByteArray := prog_10_method_14_code
def yX8_beginTest : MethodName := ⟨RX8, "beginTest", "()V"⟩
abbrev cX8_beginPupil : ByteArray := prog_10_method_15_code
def yX8_beginPupil : MethodName := ⟨RX8, "beginPupil", "(I)V"⟩
abbrev cX8_item : ByteArray := prog_10_method_16_code
def yX8_item : MethodName := ⟨RX8, "item", "(III)I"⟩
abbrev cX8_other : ByteArray := prog_10_method_17_code
def yX8_other : MethodName := ⟨RX8, "other", "(II)I"⟩
abbrev cX8_hours : ByteArray := prog_10_method_18_code
def yX8_hours : MethodName := ⟨RX8, "hours", "(II)I"⟩
abbrev cX8_about : ByteArray := prog_10_method_19_code
def yX8_about : MethodName := ⟨RX8, "about", "(II)I"⟩
abbrev cX8_served : ByteArray := prog_10_method_20_code
def yX8_served : MethodName := ⟨RX8, "served", "(II)I"⟩
abbrev cX8_states : ByteArray := prog_10_method_21_code
def yX8_states : MethodName := ⟨RX8, "states", "()I"⟩
abbrev cX8_state : ByteArray := prog_10_method_22_code
def yX8_state : MethodName := ⟨RX8, "state", "(I)I"⟩
abbrev cX8_at : ByteArray := prog_10_method_23_code
def yX8_at : MethodName := ⟨RX8, "at", "(I)I"⟩
abbrev cX8_coreOf : ByteArray := prog_10_method_24_code
def yX8_coreOf : MethodName := ⟨RX8, "coreOf", "(I)I"⟩
abbrev cX8_top : ByteArray := prog_10_method_25_code
def yX8_top : MethodName := ⟨RX8, "top", "()I"⟩
abbrev cX8_nextOf : ByteArray := prog_10_method_26_code
def yX8_nextOf : MethodName := ⟨RX8, "nextOf", "(I)I"⟩
abbrev cX8_next : ByteArray := prog_10_method_27_code
def yX8_next : MethodName := ⟨RX8, "next", "(I)I"⟩
abbrev cX8_isLast : ByteArray := prog_10_method_28_code
def yX8_isLast : MethodName := ⟨RX8, "isLast", "(II)Z"⟩
abbrev cX8_last : ByteArray := prog_10_method_29_code
def yX8_last : MethodName := ⟨RX8, "last", "(I)I"⟩
abbrev cX8_core : ByteArray := prog_10_method_30_code
def yX8_core : MethodName := ⟨RX8, "core", "(I)I"⟩
abbrev cX8_leastOf : ByteArray := prog_10_method_31_code
def yX8_leastOf : MethodName := ⟨RX8, "leastOf", "(I)I"⟩
abbrev cX8_reason : ByteArray := prog_10_method_32_code
def yX8_reason : MethodName := ⟨RX8, "reason", "(II)I"⟩
abbrev cX8_leftNow : ByteArray := prog_10_method_33_code
def yX8_leftNow : MethodName := ⟨RX8, "leftNow", "()I"⟩
abbrev cX8_test : ByteArray := prog_10_method_34_code
def yX8_test : MethodName := ⟨RX8, "test", "(II)I"⟩
abbrev cX8_left : ByteArray := prog_10_method_35_code
def yX8_left : MethodName := ⟨RX8, "left", "()I"⟩
abbrev cX8_having : ByteArray := prog_10_method_36_code
def yX8_having : MethodName := ⟨RX8, "having", "(I)I"⟩
abbrev cX8_ask : ByteArray := prog_10_method_37_code
def yX8_ask : MethodName := ⟨RX8, "ask", "()I"⟩
abbrev cX8_answer : ByteArray := prog_10_method_38_code
def yX8_answer : MethodName := ⟨RX8, "answer", "(IZ)I"⟩
abbrev cX8_factor : ByteArray := prog_10_method_39_code
def yX8_factor : MethodName := ⟨RX8, "factor", "(IIZ)I"⟩
abbrev cX8_answers : ByteArray := prog_10_method_40_code
def yX8_answers : MethodName := ⟨RX8, "answers", "(IZ)I"⟩
abbrev cX8_unsure : ByteArray := prog_10_method_41_code
def yX8_unsure : MethodName := ⟨RX8, "unsure", "(IZ)I"⟩
abbrev cX8_likely : ByteArray := prog_10_method_42_code
def yX8_likely : MethodName := ⟨RX8, "likely", "()I"⟩
abbrev cX8_weight : ByteArray := prog_10_method_43_code
def yX8_weight : MethodName := ⟨RX8, "weight", "(I)J"⟩
abbrev cX8_weights : ByteArray := prog_10_method_44_code
def yX8_weights : MethodName := ⟨RX8, "weights", "()J"⟩
abbrev cX8_worst : ByteArray := prog_10_method_45_code
def yX8_worst : MethodName := ⟨RX8, "worst", "()I"⟩
abbrev cX8_hoursOf : ByteArray := prog_10_method_46_code
def yX8_hoursOf : MethodName := ⟨RX8, "hoursOf", "(I)I"⟩
abbrev cX8_reckon : ByteArray := prog_10_method_47_code
def yX8_reckon : MethodName := ⟨RX8, "reckon", "(I)V"⟩
abbrev cX8_cost : ByteArray := prog_10_method_48_code
def yX8_cost : MethodName := ⟨RX8, "cost", "(II)I"⟩
abbrev cX8_goesOn : ByteArray := prog_10_method_49_code
def yX8_goesOn : MethodName := ⟨RX8, "goesOn", "(II)Z"⟩
abbrev cX8_way : ByteArray := prog_10_method_50_code
def yX8_way : MethodName := ⟨RX8, "way", "(III)I"⟩
abbrev cX8_ways : ByteArray := prog_10_method_51_code
def yX8_ways : MethodName := ⟨RX8, "ways", "(I)I"⟩
abbrev cX8_learn : ByteArray := prog_10_method_52_code
def yX8_learn : MethodName := ⟨RX8, "learn", "(I)I"⟩
abbrev cX8_use : ByteArray := prog_10_method_53_code
def yX8_use : MethodName := ⟨RX8, "use", "(I)I"⟩
abbrev cX8_faded : ByteArray := prog_10_method_54_code
def yX8_faded : MethodName := ⟨RX8, "faded", "()I"⟩
abbrev cX8_pass : ByteArray := prog_10_method_55_code
def yX8_pass : MethodName := ⟨RX8, "pass", "(I)I"⟩
abbrev cX8_pupil : ByteArray := prog_10_method_56_code
def yX8_pupil : MethodName := ⟨RX8, "pupil", "(I)I"⟩
abbrev cX8_meets : ByteArray := prog_10_method_57_code
def yX8_meets : MethodName := ⟨RX8, "meets", "(I)I"⟩
abbrev cX8_isSheet : ByteArray := prog_10_method_58_code
def yX8_isSheet : MethodName := ⟨RX8, "isSheet", "(I)Z"⟩
abbrev cX8_sheet : ByteArray := prog_10_method_59_code
def yX8_sheet : MethodName := ⟨RX8, "sheet", "(III)I"⟩
abbrev cX8_lose : ByteArray := prog_10_method_60_code
def yX8_lose : MethodName := ⟨RX8, "lose", "(I)I"⟩
abbrev cX8_lacks : ByteArray := prog_10_method_61_code
def yX8_lacks : MethodName := ⟨RX8, "lacks", "(III)I"⟩
abbrev cX8_put : ByteArray := prog_10_method_62_code
def yX8_put : MethodName := ⟨RX8, "put", "(IIII)I"⟩
abbrev cX8_get : ByteArray := prog_10_method_63_code
def yX8_get : MethodName := ⟨RX8, "get", "(III)I"⟩
abbrev cX8_copy : ByteArray := prog_10_method_64_code
def yX8_copy : MethodName := ⟨RX8, "copy", "(IIIII)I"⟩
abbrev cX8_answersOf : ByteArray := prog_10_method_65_code
def yX8_answersOf : MethodName := ⟨RX8, "answersOf", "(II)I"⟩
abbrev cX8_nearestOf : ByteArray := prog_10_method_66_code
def yX8_nearestOf : MethodName := ⟨RX8, "nearestOf", "(I)I"⟩
abbrev cX8_nearest : ByteArray := prog_10_method_67_code
def yX8_nearest : MethodName := ⟨RX8, "nearest", "(I)I"⟩
abbrev cX8_far : ByteArray := prog_10_method_68_code
def yX8_far : MethodName := ⟨RX8, "far", "(II)I"⟩
abbrev cX8_isBase : ByteArray := prog_10_method_69_code
def yX8_isBase : MethodName := ⟨RX8, "isBase", "(I)Z"⟩
abbrev cX8_base : ByteArray := prog_10_method_70_code
def yX8_base : MethodName := ⟨RX8, "base", "(I)I"⟩
abbrev cX8_isAtom : ByteArray := prog_10_method_71_code
def yX8_isAtom : MethodName := ⟨RX8, "isAtom", "(II)Z"⟩
abbrev cX8_atom : ByteArray := prog_10_method_72_code
def yX8_atom : MethodName := ⟨RX8, "atom", "(II)I"⟩
abbrev cX8_misfit : ByteArray := prog_10_method_73_code
def yX8_misfit : MethodName := ⟨RX8, "misfit", "(I)I"⟩
abbrev cX8_odd : ByteArray := prog_10_method_74_code
def yX8_odd : MethodName := ⟨RX8, "odd", "(III)I"⟩
abbrev cX8_seen : ByteArray := prog_10_method_75_code
def yX8_seen : MethodName := ⟨RX8, "seen", "(III)I"⟩
abbrev cX8_common : ByteArray := prog_10_method_76_code
def yX8_common : MethodName := ⟨RX8, "common", "(I)I"⟩
abbrev cX8_judge : ByteArray := prog_10_method_77_code
def yX8_judge : MethodName := ⟨RX8, "judge", "(II)I"⟩
abbrev cX8_count : ByteArray := prog_10_method_78_code
def yX8_count : MethodName := ⟨RX8, "count", "(I)I"⟩
abbrev cX8_digest : ByteArray := prog_10_method_79_code
def yX8_digest : MethodName := ⟨RX8, "digest", "()J"⟩
def RJ6 : String := "java/lang/Integer"
def TJ6 : u_T := fun k => match k with
  | _ => ("", "", "", false)
def tyJ6 : Nat → FieldType := fun k => match k with
  | _ => .int
abbrev wsJ60 : List Cond := u_ws RJ6 TJ6 0
theorem nmJ6 : ∀ a, a < 0 → ∀ b, b < 0 → a ≠ b → (TJ6 a).2.1 ≠ (TJ6 b).2.1 := by decide +kernel
theorem tyJ6_ok : ∀ k, k < 0 → parseFieldDescriptor (TJ6 k).2.2.1 = some (tyJ6 k) := by decide +kernel
abbrev cJ6_numberOfTrailingZeros_0f7a4 : ByteArray := prog_11_method_48_code
def yJ6_numberOfTrailingZeros_0f7a4 : MethodName := ⟨RJ6, "numberOfTrailingZeros", "(I)I"⟩
abbrev cJ6_bitCount_0f7a4 : ByteArray := prog_11_method_49_code
def yJ6_bitCount_0f7a4 : MethodName := ⟨RJ6, "bitCount", "(I)I"⟩
def RJ9 : String := "java/lang/Math"
def TJ9 : u_T := fun k => match k with
  | _ => ("", "", "", false)
def tyJ9 : Nat → FieldType := fun k => match k with
  | _ => .int
abbrev wsJ90 : List Cond := u_ws RJ9 TJ9 0
theorem nmJ9 : ∀ a, a < 0 → ∀ b, b < 0 → a ≠ b → (TJ9 a).2.1 ≠ (TJ9 b).2.1 := by decide +kernel
theorem tyJ9_ok : ∀ k, k < 0 → parseFieldDescriptor (TJ9 k).2.2.1 = some (tyJ9 k) := by decide +kernel
abbrev cJ9_max_7cf53 : ByteArray := prog_12_method_65_code
def yJ9_max_7cf53 : MethodName := ⟨RJ9, "max", "(II)I"⟩
abbrev cJ9_min_7cf53 : ByteArray := prog_12_method_69_code
def yJ9_min_7cf53 : MethodName := ⟨RJ9, "min", "(II)I"⟩
def RJ10 : String := "java/lang/System"
def TJ10 : u_T := fun k => match k with
  | _ => ("", "", "", false)
def tyJ10 : Nat → FieldType := fun k => match k with
  | _ => .int
abbrev wsJ100 : List Cond := u_ws RJ10 TJ10 0
theorem nmJ10 : ∀ a, a < 0 → ∀ b, b < 0 → a ≠ b → (TJ10 a).2.1 ≠ (TJ10 b).2.1 := by decide +kernel
theorem tyJ10_ok : ∀ k, k < 0 → parseFieldDescriptor (TJ10 k).2.2.1 = some (tyJ10 k) := by decide +kernel
def RJ7 : String := "java/util/Arrays"
def TJ7 : u_T := fun k => match k with
  | _ => ("", "", "", false)
def tyJ7 : Nat → FieldType := fun k => match k with
  | _ => .int
abbrev wsJ70 : List Cond := u_ws RJ7 TJ7 0
theorem nmJ7 : ∀ a, a < 0 → ∀ b, b < 0 → a ≠ b → (TJ7 a).2.1 ≠ (TJ7 b).2.1 := by decide +kernel
theorem tyJ7_ok : ∀ k, k < 0 → parseFieldDescriptor (TJ7 k).2.2.1 = some (tyJ7 k) := by decide +kernel
abbrev cJ7_fill_d0a16 : ByteArray := prog_14_method_101_code
def yJ7_fill_d0a16 : MethodName := ⟨RJ7, "fill", "([JJ)V"⟩
abbrev cJ7_fill_53178 : ByteArray := prog_14_method_103_code
def yJ7_fill_53178 : MethodName := ⟨RJ7, "fill", "([II)V"⟩
def RL : String := "LessonWaysLaw"
abbrev cL_law : ByteArray := code
def yL_law : MethodName := ⟨RL, "law", "([I)Z"⟩
abbrev vwCl : List vw_C := [(RX0, TX0, 3), (RX1, TX1, 9), (RX2, TX2, 8), (RX3, TX3, 6), (RX4, TX4, 4), (RX5, TX5, 4), (RX6, TX6, 7), (RX7, TX7, 7), (RX8, TX8, 28)]
