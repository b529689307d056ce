section
-- ===== PART A: goes FIRST, ahead of the names: the tables' words, and 'selects' of the private methods out of them =====
/-- a private method of a class that the tables say can be made, by its rows of tables_1 -/
def lw_okq (q : MethodName × Nat) : Prop := (q.1.cls ≠ "java/lang/invoke/MethodHandle" ∧ q.1.cls ≠ "java/lang/invoke/VarHandle") ∧ Cond.instantiable q.1.cls q.2 ∈ tables_1 ∧ Cond.privateMethod q.1 ∈ tables_1 ∧ Cond.instanceMethod q.1 ∈ tables_1
theorem lw_p0 : lw_okq (⟨"OneWord$Tape", "putNumber", "(I)V"⟩, 2) := ⟨⟨by decide +kernel, by decide +kernel⟩, List.mem_of_getElem? (i := 70) (by decide +kernel), List.mem_of_getElem? (i := 436) (by decide +kernel), List.mem_of_getElem? (i := 437) (by decide +kernel)⟩
theorem lw_p1 : lw_okq (⟨"OneWord$Grammar", "clause", "()V"⟩, 6) := ⟨⟨by decide +kernel, by decide +kernel⟩, List.mem_of_getElem? (i := 211) (by decide +kernel), List.mem_of_getElem? (i := 463) (by decide +kernel), List.mem_of_getElem? (i := 464) (by decide +kernel)⟩
theorem lw_p2 : lw_okq (⟨"OneWord$Grammar", "next", "()I"⟩, 6) := ⟨⟨by decide +kernel, by decide +kernel⟩, List.mem_of_getElem? (i := 211) (by decide +kernel), List.mem_of_getElem? (i := 467) (by decide +kernel), List.mem_of_getElem? (i := 468) (by decide +kernel)⟩
theorem lw_p3 : lw_okq (⟨"OneWord$Grammar", "fail", "(I)V"⟩, 6) := ⟨⟨by decide +kernel, by decide +kernel⟩, List.mem_of_getElem? (i := 211) (by decide +kernel), List.mem_of_getElem? (i := 471) (by decide +kernel), List.mem_of_getElem? (i := 472) (by decide +kernel)⟩
theorem lw_p4 : lw_okq (⟨"OneWord$Grammar", "sum", "()V"⟩, 6) := ⟨⟨by decide +kernel, by decide +kernel⟩, List.mem_of_getElem? (i := 211) (by decide +kernel), List.mem_of_getElem? (i := 479) (by decide +kernel), List.mem_of_getElem? (i := 480) (by decide +kernel)⟩
theorem lw_p5 : lw_okq (⟨"OneWord$Grammar", "product", "()V"⟩, 6) := ⟨⟨by decide +kernel, by decide +kernel⟩, List.mem_of_getElem? (i := 211) (by decide +kernel), List.mem_of_getElem? (i := 483) (by decide +kernel), List.mem_of_getElem? (i := 484) (by decide +kernel)⟩
theorem lw_p6 : lw_okq (⟨"OneWord$Grammar", "factor", "()V"⟩, 6) := ⟨⟨by decide +kernel, by decide +kernel⟩, List.mem_of_getElem? (i := 211) (by decide +kernel), List.mem_of_getElem? (i := 487) (by decide +kernel), List.mem_of_getElem? (i := 488) (by decide +kernel)⟩
theorem lw_p7 : lw_okq (⟨"OneWord$Grammar", "enter", "()V"⟩, 6) := ⟨⟨by decide +kernel, by decide +kernel⟩, List.mem_of_getElem? (i := 211) (by decide +kernel), List.mem_of_getElem? (i := 491) (by decide +kernel), List.mem_of_getElem? (i := 492) (by decide +kernel)⟩
theorem lw_p8 : lw_okq (⟨"OneWord$Grammar", "pass", "(C)V"⟩, 6) := ⟨⟨by decide +kernel, by decide +kernel⟩, List.mem_of_getElem? (i := 211) (by decide +kernel), List.mem_of_getElem? (i := 495) (by decide +kernel), List.mem_of_getElem? (i := 496) (by decide +kernel)⟩
theorem lw_p9 : lw_okq (⟨"OneWord$Grammar", "number", "()V"⟩, 6) := ⟨⟨by decide +kernel, by decide +kernel⟩, List.mem_of_getElem? (i := 211) (by decide +kernel), List.mem_of_getElem? (i := 502) (by decide +kernel), List.mem_of_getElem? (i := 503) (by decide +kernel)⟩
theorem lw_p10 : lw_okq (⟨"OneWord$Grammar", "letter", "(I)V"⟩, 6) := ⟨⟨by decide +kernel, by decide +kernel⟩, List.mem_of_getElem? (i := 211) (by decide +kernel), List.mem_of_getElem? (i := 510) (by decide +kernel), List.mem_of_getElem? (i := 511) (by decide +kernel)⟩
theorem lw_p11 : lw_okq (⟨"OneWord$Grammar", "group", "()V"⟩, 6) := ⟨⟨by decide +kernel, by decide +kernel⟩, List.mem_of_getElem? (i := 211) (by decide +kernel), List.mem_of_getElem? (i := 603) (by decide +kernel), List.mem_of_getElem? (i := 604) (by decide +kernel)⟩
theorem lw_p12 : lw_okq (⟨"OneWord$Grammar", "condition", "()V"⟩, 6) := ⟨⟨by decide +kernel, by decide +kernel⟩, List.mem_of_getElem? (i := 211) (by decide +kernel), List.mem_of_getElem? (i := 607) (by decide +kernel), List.mem_of_getElem? (i := 608) (by decide +kernel)⟩
theorem lw_p13 : lw_okq (⟨"OneWord$Grammar", "allOf", "()V"⟩, 6) := ⟨⟨by decide +kernel, by decide +kernel⟩, List.mem_of_getElem? (i := 211) (by decide +kernel), List.mem_of_getElem? (i := 611) (by decide +kernel), List.mem_of_getElem? (i := 612) (by decide +kernel)⟩
theorem lw_p14 : lw_okq (⟨"OneWord$Grammar", "piece", "()V"⟩, 6) := ⟨⟨by decide +kernel, by decide +kernel⟩, List.mem_of_getElem? (i := 211) (by decide +kernel), List.mem_of_getElem? (i := 615) (by decide +kernel), List.mem_of_getElem? (i := 616) (by decide +kernel)⟩
theorem lw_p15 : lw_okq (⟨"OneWord$Grammar", "comparison", "()V"⟩, 6) := ⟨⟨by decide +kernel, by decide +kernel⟩, List.mem_of_getElem? (i := 211) (by decide +kernel), List.mem_of_getElem? (i := 619) (by decide +kernel), List.mem_of_getElem? (i := 620) (by decide +kernel)⟩
def lw_privs_1 : List (MethodName × Nat) := [(⟨"OneWord$Tape", "putNumber", "(I)V"⟩, 2), (⟨"OneWord$Grammar", "clause", "()V"⟩, 6), (⟨"OneWord$Grammar", "next", "()I"⟩, 6), (⟨"OneWord$Grammar", "fail", "(I)V"⟩, 6), (⟨"OneWord$Grammar", "sum", "()V"⟩, 6), (⟨"OneWord$Grammar", "product", "()V"⟩, 6), (⟨"OneWord$Grammar", "factor", "()V"⟩, 6), (⟨"OneWord$Grammar", "enter", "()V"⟩, 6), (⟨"OneWord$Grammar", "pass", "(C)V"⟩, 6), (⟨"OneWord$Grammar", "number", "()V"⟩, 6), (⟨"OneWord$Grammar", "letter", "(I)V"⟩, 6), (⟨"OneWord$Grammar", "group", "()V"⟩, 6), (⟨"OneWord$Grammar", "condition", "()V"⟩, 6), (⟨"OneWord$Grammar", "allOf", "()V"⟩, 6), (⟨"OneWord$Grammar", "piece", "()V"⟩, 6), (⟨"OneWord$Grammar", "comparison", "()V"⟩, 6)]
theorem lw_r1 : ∀ q ∈ lw_privs_1, lw_okq q := List.forall_mem_cons.mpr ⟨lw_p0, List.forall_mem_cons.mpr ⟨lw_p1, List.forall_mem_cons.mpr ⟨lw_p2, List.forall_mem_cons.mpr ⟨lw_p3, List.forall_mem_cons.mpr ⟨lw_p4, List.forall_mem_cons.mpr ⟨lw_p5, List.forall_mem_cons.mpr ⟨lw_p6, List.forall_mem_cons.mpr ⟨lw_p7, List.forall_mem_cons.mpr ⟨lw_p8, List.forall_mem_cons.mpr ⟨lw_p9, List.forall_mem_cons.mpr ⟨lw_p10, List.forall_mem_cons.mpr ⟨lw_p11, List.forall_mem_cons.mpr ⟨lw_p12, List.forall_mem_cons.mpr ⟨lw_p13, List.forall_mem_cons.mpr ⟨lw_p14, List.forall_mem_cons.mpr ⟨lw_p15, fun _ h => absurd h List.not_mem_nil⟩⟩⟩⟩⟩⟩⟩⟩⟩⟩⟩⟩⟩⟩⟩⟩
theorem lw_p16 : lw_okq (⟨"OneWord$Hearings", "arrival", "(II)I"⟩, 6) := ⟨⟨by decide +kernel, by decide +kernel⟩, List.mem_of_getElem? (i := 118) (by decide +kernel), List.mem_of_getElem? (i := 690) (by decide +kernel), List.mem_of_getElem? (i := 691) (by decide +kernel)⟩
theorem lw_p17 : lw_okq (⟨"OneWord$Hearings", "place", "(II)V"⟩, 6) := ⟨⟨by decide +kernel, by decide +kernel⟩, List.mem_of_getElem? (i := 118) (by decide +kernel), List.mem_of_getElem? (i := 700) (by decide +kernel), List.mem_of_getElem? (i := 701) (by decide +kernel)⟩
theorem lw_p18 : lw_okq (⟨"OneWord$Hearings", "nearer", "(III)Z"⟩, 6) := ⟨⟨by decide +kernel, by decide +kernel⟩, List.mem_of_getElem? (i := 118) (by decide +kernel), List.mem_of_getElem? (i := 704) (by decide +kernel), List.mem_of_getElem? (i := 705) (by decide +kernel)⟩
theorem lw_p19 : lw_okq (⟨"OneWord", "meaningOf", "(II)I"⟩, 9) := ⟨⟨by decide +kernel, by decide +kernel⟩, List.mem_of_getElem? (i := 23) (by decide +kernel), List.mem_of_getElem? (i := 725) (by decide +kernel), List.mem_of_getElem? (i := 726) (by decide +kernel)⟩
theorem lw_p20 : lw_okq (⟨"OneWord$Sense", "set", "(IIIIII)V"⟩, 6) := ⟨⟨by decide +kernel, by decide +kernel⟩, List.mem_of_getElem? (i := 145) (by decide +kernel), List.mem_of_getElem? (i := 734) (by decide +kernel), List.mem_of_getElem? (i := 735) (by decide +kernel)⟩
theorem lw_p21 : lw_okq (⟨"OneWord$Sense", "firstHolding", "(II)I"⟩, 6) := ⟨⟨by decide +kernel, by decide +kernel⟩, List.mem_of_getElem? (i := 145) (by decide +kernel), List.mem_of_getElem? (i := 738) (by decide +kernel), List.mem_of_getElem? (i := 739) (by decide +kernel)⟩
theorem lw_p22 : lw_okq (⟨"OneWord$Sense", "run", "(II)I"⟩, 6) := ⟨⟨by decide +kernel, by decide +kernel⟩, List.mem_of_getElem? (i := 145) (by decide +kernel), List.mem_of_getElem? (i := 746) (by decide +kernel), List.mem_of_getElem? (i := 747) (by decide +kernel)⟩
theorem lw_p23 : lw_okq (⟨"OneWord$Sense", "letterAt", "(I)I"⟩, 6) := ⟨⟨by decide +kernel, by decide +kernel⟩, List.mem_of_getElem? (i := 145) (by decide +kernel), List.mem_of_getElem? (i := 750) (by decide +kernel), List.mem_of_getElem? (i := 751) (by decide +kernel)⟩
theorem lw_p24 : lw_okq (⟨"OneWord$Sense", "reckon", "(III)I"⟩, 6) := ⟨⟨by decide +kernel, by decide +kernel⟩, List.mem_of_getElem? (i := 145) (by decide +kernel), List.mem_of_getElem? (i := 755) (by decide +kernel), List.mem_of_getElem? (i := 756) (by decide +kernel)⟩
theorem lw_p25 : lw_okq (⟨"OneWord$ReadBack", "allSuch", "(I)Z"⟩, 15) := ⟨⟨by decide +kernel, by decide +kernel⟩, List.mem_of_getElem? (i := 236) (by decide +kernel), List.mem_of_getElem? (i := 780) (by decide +kernel), List.mem_of_getElem? (i := 781) (by decide +kernel)⟩
theorem lw_p26 : lw_okq (⟨"OneWord$ReadBack", "followers", "(II)I"⟩, 15) := ⟨⟨by decide +kernel, by decide +kernel⟩, List.mem_of_getElem? (i := 236) (by decide +kernel), List.mem_of_getElem? (i := 796) (by decide +kernel), List.mem_of_getElem? (i := 797) (by decide +kernel)⟩
theorem lw_p27 : lw_okq (⟨"OneWord$ReadBack", "fits", "(IIIII)Z"⟩, 15) := ⟨⟨by decide +kernel, by decide +kernel⟩, List.mem_of_getElem? (i := 236) (by decide +kernel), List.mem_of_getElem? (i := 800) (by decide +kernel), List.mem_of_getElem? (i := 801) (by decide +kernel)⟩
theorem lw_p28 : lw_okq (⟨"OneWord$ReadBack", "judgeRest", "(I)V"⟩, 15) := ⟨⟨by decide +kernel, by decide +kernel⟩, List.mem_of_getElem? (i := 236) (by decide +kernel), List.mem_of_getElem? (i := 831) (by decide +kernel), List.mem_of_getElem? (i := 832) (by decide +kernel)⟩
theorem lw_p29 : lw_okq (⟨"OneWord$ReadBack", "missWithin", "(IIII)V"⟩, 15) := ⟨⟨by decide +kernel, by decide +kernel⟩, List.mem_of_getElem? (i := 236) (by decide +kernel), List.mem_of_getElem? (i := 835) (by decide +kernel), List.mem_of_getElem? (i := 836) (by decide +kernel)⟩
theorem lw_p30 : lw_okq (⟨"OneWord$ReadBack", "note", "(III)V"⟩, 15) := ⟨⟨by decide +kernel, by decide +kernel⟩, List.mem_of_getElem? (i := 236) (by decide +kernel), List.mem_of_getElem? (i := 839) (by decide +kernel), List.mem_of_getElem? (i := 840) (by decide +kernel)⟩
theorem lw_p31 : lw_okq (⟨"OneWord$Crowd", "reach", "(II)V"⟩, 15) := ⟨⟨by decide +kernel, by decide +kernel⟩, List.mem_of_getElem? (i := 290) (by decide +kernel), List.mem_of_getElem? (i := 892) (by decide +kernel), List.mem_of_getElem? (i := 893) (by decide +kernel)⟩
def lw_privs_2 : List (MethodName × Nat) := [(⟨"OneWord$Hearings", "arrival", "(II)I"⟩, 6), (⟨"OneWord$Hearings", "place", "(II)V"⟩, 6), (⟨"OneWord$Hearings", "nearer", "(III)Z"⟩, 6), (⟨"OneWord", "meaningOf", "(II)I"⟩, 9), (⟨"OneWord$Sense", "set", "(IIIIII)V"⟩, 6), (⟨"OneWord$Sense", "firstHolding", "(II)I"⟩, 6), (⟨"OneWord$Sense", "run", "(II)I"⟩, 6), (⟨"OneWord$Sense", "letterAt", "(I)I"⟩, 6), (⟨"OneWord$Sense", "reckon", "(III)I"⟩, 6), (⟨"OneWord$ReadBack", "allSuch", "(I)Z"⟩, 15), (⟨"OneWord$ReadBack", "followers", "(II)I"⟩, 15), (⟨"OneWord$ReadBack", "fits", "(IIIII)Z"⟩, 15), (⟨"OneWord$ReadBack", "judgeRest", "(I)V"⟩, 15), (⟨"OneWord$ReadBack", "missWithin", "(IIII)V"⟩, 15), (⟨"OneWord$ReadBack", "note", "(III)V"⟩, 15), (⟨"OneWord$Crowd", "reach", "(II)V"⟩, 15)]
theorem lw_r2 : ∀ q ∈ lw_privs_2, lw_okq q := List.forall_mem_cons.mpr ⟨lw_p16, List.forall_mem_cons.mpr ⟨lw_p17, List.forall_mem_cons.mpr ⟨lw_p18, List.forall_mem_cons.mpr ⟨lw_p19, List.forall_mem_cons.mpr ⟨lw_p20, List.forall_mem_cons.mpr ⟨lw_p21, List.forall_mem_cons.mpr ⟨lw_p22, List.forall_mem_cons.mpr ⟨lw_p23, List.forall_mem_cons.mpr ⟨lw_p24, List.forall_mem_cons.mpr ⟨lw_p25, List.forall_mem_cons.mpr ⟨lw_p26, List.forall_mem_cons.mpr ⟨lw_p27, List.forall_mem_cons.mpr ⟨lw_p28, List.forall_mem_cons.mpr ⟨lw_p29, List.forall_mem_cons.mpr ⟨lw_p30, List.forall_mem_cons.mpr ⟨lw_p31, fun _ h => absurd h List.not_mem_nil⟩⟩⟩⟩⟩⟩⟩⟩⟩⟩⟩⟩⟩⟩⟩⟩
theorem lw_p32 : lw_okq (⟨"OneWord$Crowd", "askBehind", "(II)V"⟩, 15) := ⟨⟨by decide +kernel, by decide +kernel⟩, List.mem_of_getElem? (i := 290) (by decide +kernel), List.mem_of_getElem? (i := 896) (by decide +kernel), List.mem_of_getElem? (i := 897) (by decide +kernel)⟩
theorem lw_p33 : lw_okq (⟨"OneWord$Crowd", "costBegunBy", "(I)I"⟩, 15) := ⟨⟨by decide +kernel, by decide +kernel⟩, List.mem_of_getElem? (i := 290) (by decide +kernel), List.mem_of_getElem? (i := 905) (by decide +kernel), List.mem_of_getElem? (i := 906) (by decide +kernel)⟩
theorem lw_p34 : lw_okq (⟨"OneWord$Crowd", "cost", "(IIII)I"⟩, 15) := ⟨⟨by decide +kernel, by decide +kernel⟩, List.mem_of_getElem? (i := 290) (by decide +kernel), List.mem_of_getElem? (i := 909) (by decide +kernel), List.mem_of_getElem? (i := 910) (by decide +kernel)⟩
theorem lw_p35 : lw_okq (⟨"OneWord$Crowd", "wordsOut", "(II)I"⟩, 15) := ⟨⟨by decide +kernel, by decide +kernel⟩, List.mem_of_getElem? (i := 290) (by decide +kernel), List.mem_of_getElem? (i := 913) (by decide +kernel), List.mem_of_getElem? (i := 914) (by decide +kernel)⟩
theorem lw_p36 : lw_okq (⟨"OneWord$Crowd", "fittingGaps", "(IIII)I"⟩, 15) := ⟨⟨by decide +kernel, by decide +kernel⟩, List.mem_of_getElem? (i := 290) (by decide +kernel), List.mem_of_getElem? (i := 917) (by decide +kernel), List.mem_of_getElem? (i := 918) (by decide +kernel)⟩
theorem lw_p37 : lw_okq (⟨"OneWord$Crowd", "losslessGaps", "(IIIII)I"⟩, 15) := ⟨⟨by decide +kernel, by decide +kernel⟩, List.mem_of_getElem? (i := 290) (by decide +kernel), List.mem_of_getElem? (i := 930) (by decide +kernel), List.mem_of_getElem? (i := 931) (by decide +kernel)⟩
theorem lw_p38 : lw_okq (⟨"OneWord$Crowd", "dropDeadEnds", "()I"⟩, 15) := ⟨⟨by decide +kernel, by decide +kernel⟩, List.mem_of_getElem? (i := 290) (by decide +kernel), List.mem_of_getElem? (i := 938) (by decide +kernel), List.mem_of_getElem? (i := 939) (by decide +kernel)⟩
theorem lw_p39 : lw_okq (⟨"OneWord$Rules", "begin", "(I)V"⟩, 9) := ⟨⟨by decide +kernel, by decide +kernel⟩, List.mem_of_getElem? (i := 343) (by decide +kernel), List.mem_of_getElem? (i := 963) (by decide +kernel), List.mem_of_getElem? (i := 964) (by decide +kernel)⟩
theorem lw_p40 : lw_okq (⟨"OneWord$Rules", "mostEager", "(II)I"⟩, 9) := ⟨⟨by decide +kernel, by decide +kernel⟩, List.mem_of_getElem? (i := 343) (by decide +kernel), List.mem_of_getElem? (i := 969) (by decide +kernel), List.mem_of_getElem? (i := 970) (by decide +kernel)⟩
theorem lw_p41 : lw_okq (⟨"OneWord$Rules", "speak", "(III)V"⟩, 9) := ⟨⟨by decide +kernel, by decide +kernel⟩, List.mem_of_getElem? (i := 343) (by decide +kernel), List.mem_of_getElem? (i := 980) (by decide +kernel), List.mem_of_getElem? (i := 981) (by decide +kernel)⟩
theorem lw_p42 : lw_okq (⟨"OneWord$Hearings", "drowned", "(II)Z"⟩, 6) := ⟨⟨by decide +kernel, by decide +kernel⟩, List.mem_of_getElem? (i := 118) (by decide +kernel), List.mem_of_getElem? (i := 1076) (by decide +kernel), List.mem_of_getElem? (i := 1077) (by decide +kernel)⟩
theorem lw_p43 : lw_okq (⟨"OneWord", "firstWrong", "(II)I"⟩, 9) := ⟨⟨by decide +kernel, by decide +kernel⟩, List.mem_of_getElem? (i := 23) (by decide +kernel), List.mem_of_getElem? (i := 1084) (by decide +kernel), List.mem_of_getElem? (i := 1085) (by decide +kernel)⟩
theorem lw_p44 : lw_okq (⟨"OneWord", "countWords", "(I)I"⟩, 9) := ⟨⟨by decide +kernel, by decide +kernel⟩, List.mem_of_getElem? (i := 23) (by decide +kernel), List.mem_of_getElem? (i := 1101) (by decide +kernel), List.mem_of_getElem? (i := 1102) (by decide +kernel)⟩
theorem lw_p45 : lw_okq (⟨"OneWordModel", "push", "(I)V"⟩, 73) := ⟨⟨by decide +kernel, by decide +kernel⟩, List.mem_of_getElem? (i := 1107) (by decide +kernel), List.mem_of_getElem? (i := 1354) (by decide +kernel), List.mem_of_getElem? (i := 1355) (by decide +kernel)⟩
theorem lw_p46 : lw_okq (⟨"OneWordModel", "isGood", "()Z"⟩, 73) := ⟨⟨by decide +kernel, by decide +kernel⟩, List.mem_of_getElem? (i := 1107) (by decide +kernel), List.mem_of_getElem? (i := 1362) (by decide +kernel), List.mem_of_getElem? (i := 1363) (by decide +kernel)⟩
theorem lw_p47 : lw_okq (⟨"OneWordModel", "clause", "()V"⟩, 73) := ⟨⟨by decide +kernel, by decide +kernel⟩, List.mem_of_getElem? (i := 1107) (by decide +kernel), List.mem_of_getElem? (i := 1366) (by decide +kernel), List.mem_of_getElem? (i := 1367) (by decide +kernel)⟩
def lw_privs_3 : List (MethodName × Nat) := [(⟨"OneWord$Crowd", "askBehind", "(II)V"⟩, 15), (⟨"OneWord$Crowd", "costBegunBy", "(I)I"⟩, 15), (⟨"OneWord$Crowd", "cost", "(IIII)I"⟩, 15), (⟨"OneWord$Crowd", "wordsOut", "(II)I"⟩, 15), (⟨"OneWord$Crowd", "fittingGaps", "(IIII)I"⟩, 15), (⟨"OneWord$Crowd", "losslessGaps", "(IIIII)I"⟩, 15), (⟨"OneWord$Crowd", "dropDeadEnds", "()I"⟩, 15), (⟨"OneWord$Rules", "begin", "(I)V"⟩, 9), (⟨"OneWord$Rules", "mostEager", "(II)I"⟩, 9), (⟨"OneWord$Rules", "speak", "(III)V"⟩, 9), (⟨"OneWord$Hearings", "drowned", "(II)Z"⟩, 6), (⟨"OneWord", "firstWrong", "(II)I"⟩, 9), (⟨"OneWord", "countWords", "(I)I"⟩, 9), (⟨"OneWordModel", "push", "(I)V"⟩, 73), (⟨"OneWordModel", "isGood", "()Z"⟩, 73), (⟨"OneWordModel", "clause", "()V"⟩, 73)]
theorem lw_r3 : ∀ q ∈ lw_privs_3, lw_okq q := List.forall_mem_cons.mpr ⟨lw_p32, List.forall_mem_cons.mpr ⟨lw_p33, List.forall_mem_cons.mpr ⟨lw_p34, List.forall_mem_cons.mpr ⟨lw_p35, List.forall_mem_cons.mpr ⟨lw_p36, List.forall_mem_cons.mpr ⟨lw_p37, List.forall_mem_cons.mpr ⟨lw_p38, List.forall_mem_cons.mpr ⟨lw_p39, List.forall_mem_cons.mpr ⟨lw_p40, List.forall_mem_cons.mpr ⟨lw_p41, List.forall_mem_cons.mpr ⟨lw_p42, List.forall_mem_cons.mpr ⟨lw_p43, List.forall_mem_cons.mpr ⟨lw_p44, List.forall_mem_cons.mpr ⟨lw_p45, List.forall_mem_cons.mpr ⟨lw_p46, List.forall_mem_cons.mpr ⟨lw_p47, fun _ h => absurd h List.not_mem_nil⟩⟩⟩⟩⟩⟩⟩⟩⟩⟩⟩⟩⟩⟩⟩⟩
theorem lw_p48 : lw_okq (⟨"OneWordModel", "here", "()I"⟩, 73) := ⟨⟨by decide +kernel, by decide +kernel⟩, List.mem_of_getElem? (i := 1107) (by decide +kernel), List.mem_of_getElem? (i := 1370) (by decide +kernel), List.mem_of_getElem? (i := 1371) (by decide +kernel)⟩
theorem lw_p49 : lw_okq (⟨"OneWordModel", "wrongs", "(II)V"⟩, 73) := ⟨⟨by decide +kernel, by decide +kernel⟩, List.mem_of_getElem? (i := 1107) (by decide +kernel), List.mem_of_getElem? (i := 1374) (by decide +kernel), List.mem_of_getElem? (i := 1375) (by decide +kernel)⟩
theorem lw_p50 : lw_okq (⟨"OneWordModel", "value", "()V"⟩, 73) := ⟨⟨by decide +kernel, by decide +kernel⟩, List.mem_of_getElem? (i := 1107) (by decide +kernel), List.mem_of_getElem? (i := 1378) (by decide +kernel), List.mem_of_getElem? (i := 1379) (by decide +kernel)⟩
theorem lw_p51 : lw_okq (⟨"OneWordModel", "factor", "()V"⟩, 73) := ⟨⟨by decide +kernel, by decide +kernel⟩, List.mem_of_getElem? (i := 1107) (by decide +kernel), List.mem_of_getElem? (i := 1382) (by decide +kernel), List.mem_of_getElem? (i := 1383) (by decide +kernel)⟩
theorem lw_p52 : lw_okq (⟨"OneWordModel", "opens", "()V"⟩, 73) := ⟨⟨by decide +kernel, by decide +kernel⟩, List.mem_of_getElem? (i := 1107) (by decide +kernel), List.mem_of_getElem? (i := 1386) (by decide +kernel), List.mem_of_getElem? (i := 1387) (by decide +kernel)⟩
theorem lw_p53 : lw_okq (⟨"OneWordModel", "puts", "(I)V"⟩, 73) := ⟨⟨by decide +kernel, by decide +kernel⟩, List.mem_of_getElem? (i := 1107) (by decide +kernel), List.mem_of_getElem? (i := 1390) (by decide +kernel), List.mem_of_getElem? (i := 1391) (by decide +kernel)⟩
theorem lw_p54 : lw_okq (⟨"OneWordModel", "seesDigit", "()Z"⟩, 73) := ⟨⟨by decide +kernel, by decide +kernel⟩, List.mem_of_getElem? (i := 1107) (by decide +kernel), List.mem_of_getElem? (i := 1394) (by decide +kernel), List.mem_of_getElem? (i := 1395) (by decide +kernel)⟩
theorem lw_p55 : lw_okq (⟨"OneWordModel", "reads", "()I"⟩, 73) := ⟨⟨by decide +kernel, by decide +kernel⟩, List.mem_of_getElem? (i := 1107) (by decide +kernel), List.mem_of_getElem? (i := 1400) (by decide +kernel), List.mem_of_getElem? (i := 1401) (by decide +kernel)⟩
theorem lw_p56 : lw_okq (⟨"OneWordModel", "emit", "(II)V"⟩, 73) := ⟨⟨by decide +kernel, by decide +kernel⟩, List.mem_of_getElem? (i := 1107) (by decide +kernel), List.mem_of_getElem? (i := 1404) (by decide +kernel), List.mem_of_getElem? (i := 1405) (by decide +kernel)⟩
theorem lw_p57 : lw_okq (⟨"OneWordModel", "stays", "()Z"⟩, 73) := ⟨⟨by decide +kernel, by decide +kernel⟩, List.mem_of_getElem? (i := 1107) (by decide +kernel), List.mem_of_getElem? (i := 1411) (by decide +kernel), List.mem_of_getElem? (i := 1412) (by decide +kernel)⟩
theorem lw_p58 : lw_okq (⟨"OneWordModel", "sums", "(Z)V"⟩, 73) := ⟨⟨by decide +kernel, by decide +kernel⟩, List.mem_of_getElem? (i := 1107) (by decide +kernel), List.mem_of_getElem? (i := 1421) (by decide +kernel), List.mem_of_getElem? (i := 1422) (by decide +kernel)⟩
theorem lw_p59 : lw_okq (⟨"OneWordModel", "top", "()I"⟩, 73) := ⟨⟨by decide +kernel, by decide +kernel⟩, List.mem_of_getElem? (i := 1107) (by decide +kernel), List.mem_of_getElem? (i := 1425) (by decide +kernel), List.mem_of_getElem? (i := 1426) (by decide +kernel)⟩
theorem lw_p60 : lw_okq (⟨"OneWordModel", "condition", "()V"⟩, 73) := ⟨⟨by decide +kernel, by decide +kernel⟩, List.mem_of_getElem? (i := 1107) (by decide +kernel), List.mem_of_getElem? (i := 1429) (by decide +kernel), List.mem_of_getElem? (i := 1430) (by decide +kernel)⟩
theorem lw_p61 : lw_okq (⟨"OneWordModel", "pieceOfC", "()V"⟩, 73) := ⟨⟨by decide +kernel, by decide +kernel⟩, List.mem_of_getElem? (i := 1107) (by decide +kernel), List.mem_of_getElem? (i := 1433) (by decide +kernel), List.mem_of_getElem? (i := 1434) (by decide +kernel)⟩
theorem lw_p62 : lw_okq (⟨"OneWordModel", "ends", "()V"⟩, 73) := ⟨⟨by decide +kernel, by decide +kernel⟩, List.mem_of_getElem? (i := 1107) (by decide +kernel), List.mem_of_getElem? (i := 1440) (by decide +kernel), List.mem_of_getElem? (i := 1441) (by decide +kernel)⟩
theorem lw_p63 : lw_okq (⟨"OneWordModel", "goesBehind", "()Z"⟩, 73) := ⟨⟨by decide +kernel, by decide +kernel⟩, List.mem_of_getElem? (i := 1107) (by decide +kernel), List.mem_of_getElem? (i := 1444) (by decide +kernel), List.mem_of_getElem? (i := 1445) (by decide +kernel)⟩
def lw_privs_4 : List (MethodName × Nat) := [(⟨"OneWordModel", "here", "()I"⟩, 73), (⟨"OneWordModel", "wrongs", "(II)V"⟩, 73), (⟨"OneWordModel", "value", "()V"⟩, 73), (⟨"OneWordModel", "factor", "()V"⟩, 73), (⟨"OneWordModel", "opens", "()V"⟩, 73), (⟨"OneWordModel", "puts", "(I)V"⟩, 73), (⟨"OneWordModel", "seesDigit", "()Z"⟩, 73), (⟨"OneWordModel", "reads", "()I"⟩, 73), (⟨"OneWordModel", "emit", "(II)V"⟩, 73), (⟨"OneWordModel", "stays", "()Z"⟩, 73), (⟨"OneWordModel", "sums", "(Z)V"⟩, 73), (⟨"OneWordModel", "top", "()I"⟩, 73), (⟨"OneWordModel", "condition", "()V"⟩, 73), (⟨"OneWordModel", "pieceOfC", "()V"⟩, 73), (⟨"OneWordModel", "ends", "()V"⟩, 73), (⟨"OneWordModel", "goesBehind", "()Z"⟩, 73)]
theorem lw_r4 : ∀ q ∈ lw_privs_4, lw_okq q := List.forall_mem_cons.mpr ⟨lw_p48, List.forall_mem_cons.mpr ⟨lw_p49, List.forall_mem_cons.mpr ⟨lw_p50, List.forall_mem_cons.mpr ⟨lw_p51, List.forall_mem_cons.mpr ⟨lw_p52, List.forall_mem_cons.mpr ⟨lw_p53, List.forall_mem_cons.mpr ⟨lw_p54, List.forall_mem_cons.mpr ⟨lw_p55, List.forall_mem_cons.mpr ⟨lw_p56, List.forall_mem_cons.mpr ⟨lw_p57, List.forall_mem_cons.mpr ⟨lw_p58, List.forall_mem_cons.mpr ⟨lw_p59, List.forall_mem_cons.mpr ⟨lw_p60, List.forall_mem_cons.mpr ⟨lw_p61, List.forall_mem_cons.mpr ⟨lw_p62, List.forall_mem_cons.mpr ⟨lw_p63, fun _ h => absurd h List.not_mem_nil⟩⟩⟩⟩⟩⟩⟩⟩⟩⟩⟩⟩⟩⟩⟩⟩
theorem lw_p64 : lw_okq (⟨"OneWordModel", "joins", "(Z)V"⟩, 73) := ⟨⟨by decide +kernel, by decide +kernel⟩, List.mem_of_getElem? (i := 1107) (by decide +kernel), List.mem_of_getElem? (i := 1448) (by decide +kernel), List.mem_of_getElem? (i := 1449) (by decide +kernel)⟩
theorem lw_p65 : lw_okq (⟨"OneWordModel", "isMouth", "(I)Z"⟩, 73) := ⟨⟨by decide +kernel, by decide +kernel⟩, List.mem_of_getElem? (i := 1107) (by decide +kernel), List.mem_of_getElem? (i := 1456) (by decide +kernel), List.mem_of_getElem? (i := 1457) (by decide +kernel)⟩
theorem lw_p66 : lw_okq (⟨"OneWordModel", "byteAt", "(I)I"⟩, 73) := ⟨⟨by decide +kernel, by decide +kernel⟩, List.mem_of_getElem? (i := 1107) (by decide +kernel), List.mem_of_getElem? (i := 1461) (by decide +kernel), List.mem_of_getElem? (i := 1462) (by decide +kernel)⟩
theorem lw_p67 : lw_okq (⟨"OneWordModel", "wayOf", "(II)I"⟩, 73) := ⟨⟨by decide +kernel, by decide +kernel⟩, List.mem_of_getElem? (i := 1107) (by decide +kernel), List.mem_of_getElem? (i := 1475) (by decide +kernel), List.mem_of_getElem? (i := 1476) (by decide +kernel)⟩
theorem lw_p68 : lw_okq (⟨"OneWordModel", "laysHearings", "(I)V"⟩, 73) := ⟨⟨by decide +kernel, by decide +kernel⟩, List.mem_of_getElem? (i := 1107) (by decide +kernel), List.mem_of_getElem? (i := 1486) (by decide +kernel), List.mem_of_getElem? (i := 1487) (by decide +kernel)⟩
theorem lw_p69 : lw_okq (⟨"OneWordModel", "isNear", "(II)Z"⟩, 73) := ⟨⟨by decide +kernel, by decide +kernel⟩, List.mem_of_getElem? (i := 1107) (by decide +kernel), List.mem_of_getElem? (i := 1490) (by decide +kernel), List.mem_of_getElem? (i := 1491) (by decide +kernel)⟩
theorem lw_p70 : lw_okq (⟨"OneWordModel", "comes", "(II)V"⟩, 73) := ⟨⟨by decide +kernel, by decide +kernel⟩, List.mem_of_getElem? (i := 1107) (by decide +kernel), List.mem_of_getElem? (i := 1494) (by decide +kernel), List.mem_of_getElem? (i := 1495) (by decide +kernel)⟩
theorem lw_p71 : lw_okq (⟨"OneWordModel", "isBefore", "(III)Z"⟩, 73) := ⟨⟨by decide +kernel, by decide +kernel⟩, List.mem_of_getElem? (i := 1107) (by decide +kernel), List.mem_of_getElem? (i := 1498) (by decide +kernel), List.mem_of_getElem? (i := 1499) (by decide +kernel)⟩
theorem lw_p72 : lw_okq (⟨"OneWordModel", "gapAt", "(I)I"⟩, 73) := ⟨⟨by decide +kernel, by decide +kernel⟩, List.mem_of_getElem? (i := 1107) (by decide +kernel), List.mem_of_getElem? (i := 1507) (by decide +kernel), List.mem_of_getElem? (i := 1508) (by decide +kernel)⟩
theorem lw_p73 : lw_okq (⟨"OneWordModel", "meaningAt", "(II)I"⟩, 73) := ⟨⟨by decide +kernel, by decide +kernel⟩, List.mem_of_getElem? (i := 1107) (by decide +kernel), List.mem_of_getElem? (i := 1511) (by decide +kernel), List.mem_of_getElem? (i := 1512) (by decide +kernel)⟩
theorem lw_p74 : lw_okq (⟨"OneWordModel", "means", "(IIIIII)I"⟩, 73) := ⟨⟨by decide +kernel, by decide +kernel⟩, List.mem_of_getElem? (i := 1107) (by decide +kernel), List.mem_of_getElem? (i := 1515) (by decide +kernel), List.mem_of_getElem? (i := 1516) (by decide +kernel)⟩
theorem lw_p75 : lw_okq (⟨"OneWordModel", "tells", "(II)I"⟩, 73) := ⟨⟨by decide +kernel, by decide +kernel⟩, List.mem_of_getElem? (i := 1107) (by decide +kernel), List.mem_of_getElem? (i := 1519) (by decide +kernel), List.mem_of_getElem? (i := 1520) (by decide +kernel)⟩
theorem lw_p76 : lw_okq (⟨"OneWordModel", "works", "(II)V"⟩, 73) := ⟨⟨by decide +kernel, by decide +kernel⟩, List.mem_of_getElem? (i := 1107) (by decide +kernel), List.mem_of_getElem? (i := 1523) (by decide +kernel), List.mem_of_getElem? (i := 1524) (by decide +kernel)⟩
theorem lw_p77 : lw_okq (⟨"OneWordModel", "does", "(II)V"⟩, 73) := ⟨⟨by decide +kernel, by decide +kernel⟩, List.mem_of_getElem? (i := 1107) (by decide +kernel), List.mem_of_getElem? (i := 1527) (by decide +kernel), List.mem_of_getElem? (i := 1528) (by decide +kernel)⟩
theorem lw_p78 : lw_okq (⟨"OneWordModel", "valueOf", "(I)I"⟩, 73) := ⟨⟨by decide +kernel, by decide +kernel⟩, List.mem_of_getElem? (i := 1107) (by decide +kernel), List.mem_of_getElem? (i := 1534) (by decide +kernel), List.mem_of_getElem? (i := 1535) (by decide +kernel)⟩
theorem lw_p79 : lw_okq (⟨"OneWordModel", "laysLast", "(I)V"⟩, 73) := ⟨⟨by decide +kernel, by decide +kernel⟩, List.mem_of_getElem? (i := 1107) (by decide +kernel), List.mem_of_getElem? (i := 1557) (by decide +kernel), List.mem_of_getElem? (i := 1558) (by decide +kernel)⟩
def lw_privs_5 : List (MethodName × Nat) := [(⟨"OneWordModel", "joins", "(Z)V"⟩, 73), (⟨"OneWordModel", "isMouth", "(I)Z"⟩, 73), (⟨"OneWordModel", "byteAt", "(I)I"⟩, 73), (⟨"OneWordModel", "wayOf", "(II)I"⟩, 73), (⟨"OneWordModel", "laysHearings", "(I)V"⟩, 73), (⟨"OneWordModel", "isNear", "(II)Z"⟩, 73), (⟨"OneWordModel", "comes", "(II)V"⟩, 73), (⟨"OneWordModel", "isBefore", "(III)Z"⟩, 73), (⟨"OneWordModel", "gapAt", "(I)I"⟩, 73), (⟨"OneWordModel", "meaningAt", "(II)I"⟩, 73), (⟨"OneWordModel", "means", "(IIIIII)I"⟩, 73), (⟨"OneWordModel", "tells", "(II)I"⟩, 73), (⟨"OneWordModel", "works", "(II)V"⟩, 73), (⟨"OneWordModel", "does", "(II)V"⟩, 73), (⟨"OneWordModel", "valueOf", "(I)I"⟩, 73), (⟨"OneWordModel", "laysLast", "(I)V"⟩, 73)]
theorem lw_r5 : ∀ q ∈ lw_privs_5, lw_okq q := List.forall_mem_cons.mpr ⟨lw_p64, List.forall_mem_cons.mpr ⟨lw_p65, List.forall_mem_cons.mpr ⟨lw_p66, List.forall_mem_cons.mpr ⟨lw_p67, List.forall_mem_cons.mpr ⟨lw_p68, List.forall_mem_cons.mpr ⟨lw_p69, List.forall_mem_cons.mpr ⟨lw_p70, List.forall_mem_cons.mpr ⟨lw_p71, List.forall_mem_cons.mpr ⟨lw_p72, List.forall_mem_cons.mpr ⟨lw_p73, List.forall_mem_cons.mpr ⟨lw_p74, List.forall_mem_cons.mpr ⟨lw_p75, List.forall_mem_cons.mpr ⟨lw_p76, List.forall_mem_cons.mpr ⟨lw_p77, List.forall_mem_cons.mpr ⟨lw_p78, List.forall_mem_cons.mpr ⟨lw_p79, fun _ h => absurd h List.not_mem_nil⟩⟩⟩⟩⟩⟩⟩⟩⟩⟩⟩⟩⟩⟩⟩⟩
theorem lw_p80 : lw_okq (⟨"OneWordModel", "fits", "(IIII)Z"⟩, 73) := ⟨⟨by decide +kernel, by decide +kernel⟩, List.mem_of_getElem? (i := 1107) (by decide +kernel), List.mem_of_getElem? (i := 1561) (by decide +kernel), List.mem_of_getElem? (i := 1562) (by decide +kernel)⟩
theorem lw_p81 : lw_okq (⟨"OneWordModel", "isAs", "(II)Z"⟩, 73) := ⟨⟨by decide +kernel, by decide +kernel⟩, List.mem_of_getElem? (i := 1107) (by decide +kernel), List.mem_of_getElem? (i := 1565) (by decide +kernel), List.mem_of_getElem? (i := 1566) (by decide +kernel)⟩
theorem lw_p82 : lw_okq (⟨"OneWordModel", "isMissed", "(IIIIII)Z"⟩, 73) := ⟨⟨by decide +kernel, by decide +kernel⟩, List.mem_of_getElem? (i := 1107) (by decide +kernel), List.mem_of_getElem? (i := 1574) (by decide +kernel), List.mem_of_getElem? (i := 1575) (by decide +kernel)⟩
theorem lw_p83 : lw_okq (⟨"OneWordModel", "areMouths", "(I)Z"⟩, 73) := ⟨⟨by decide +kernel, by decide +kernel⟩, List.mem_of_getElem? (i := 1107) (by decide +kernel), List.mem_of_getElem? (i := 1582) (by decide +kernel), List.mem_of_getElem? (i := 1583) (by decide +kernel)⟩
theorem lw_p84 : lw_okq (⟨"OneWordModel", "laysCrowd", "(I)V"⟩, 73) := ⟨⟨by decide +kernel, by decide +kernel⟩, List.mem_of_getElem? (i := 1107) (by decide +kernel), List.mem_of_getElem? (i := 1592) (by decide +kernel), List.mem_of_getElem? (i := 1593) (by decide +kernel)⟩
theorem lw_p85 : lw_okq (⟨"OneWordModel", "laysSoon", "()V"⟩, 73) := ⟨⟨by decide +kernel, by decide +kernel⟩, List.mem_of_getElem? (i := 1107) (by decide +kernel), List.mem_of_getElem? (i := 1602) (by decide +kernel), List.mem_of_getElem? (i := 1603) (by decide +kernel)⟩
theorem lw_p86 : lw_okq (⟨"OneWordModel", "isState", "(I)Z"⟩, 73) := ⟨⟨by decide +kernel, by decide +kernel⟩, List.mem_of_getElem? (i := 1107) (by decide +kernel), List.mem_of_getElem? (i := 1606) (by decide +kernel), List.mem_of_getElem? (i := 1607) (by decide +kernel)⟩
theorem lw_p87 : lw_okq (⟨"OneWordModel", "isDone", "(I)Z"⟩, 73) := ⟨⟨by decide +kernel, by decide +kernel⟩, List.mem_of_getElem? (i := 1107) (by decide +kernel), List.mem_of_getElem? (i := 1613) (by decide +kernel), List.mem_of_getElem? (i := 1614) (by decide +kernel)⟩
theorem lw_p88 : lw_okq (⟨"OneWordModel", "says", "(IIIII)Z"⟩, 73) := ⟨⟨by decide +kernel, by decide +kernel⟩, List.mem_of_getElem? (i := 1107) (by decide +kernel), List.mem_of_getElem? (i := 1618) (by decide +kernel), List.mem_of_getElem? (i := 1619) (by decide +kernel)⟩
theorem lw_p89 : lw_okq (⟨"OneWordModel", "findsWho", "()V"⟩, 73) := ⟨⟨by decide +kernel, by decide +kernel⟩, List.mem_of_getElem? (i := 1107) (by decide +kernel), List.mem_of_getElem? (i := 1631) (by decide +kernel), List.mem_of_getElem? (i := 1632) (by decide +kernel)⟩
theorem lw_p90 : lw_okq (⟨"OneWordModel", "goesBy", "(IIIZ)Z"⟩, 73) := ⟨⟨by decide +kernel, by decide +kernel⟩, List.mem_of_getElem? (i := 1107) (by decide +kernel), List.mem_of_getElem? (i := 1635) (by decide +kernel), List.mem_of_getElem? (i := 1636) (by decide +kernel)⟩
theorem lw_p91 : lw_okq (⟨"OneWordModel", "findsGaps", "()V"⟩, 73) := ⟨⟨by decide +kernel, by decide +kernel⟩, List.mem_of_getElem? (i := 1107) (by decide +kernel), List.mem_of_getElem? (i := 1639) (by decide +kernel), List.mem_of_getElem? (i := 1640) (by decide +kernel)⟩
theorem lw_p92 : lw_okq (⟨"OneWordModel", "follows", "(III)Z"⟩, 73) := ⟨⟨by decide +kernel, by decide +kernel⟩, List.mem_of_getElem? (i := 1107) (by decide +kernel), List.mem_of_getElem? (i := 1643) (by decide +kernel), List.mem_of_getElem? (i := 1644) (by decide +kernel)⟩
theorem lw_p93 : lw_okq (⟨"OneWordModel", "stateAfter", "(I)I"⟩, 73) := ⟨⟨by decide +kernel, by decide +kernel⟩, List.mem_of_getElem? (i := 1107) (by decide +kernel), List.mem_of_getElem? (i := 1647) (by decide +kernel), List.mem_of_getElem? (i := 1648) (by decide +kernel)⟩
theorem lw_p94 : lw_okq (⟨"OneWordModel", "wish", "(IIII)I"⟩, 73) := ⟨⟨by decide +kernel, by decide +kernel⟩, List.mem_of_getElem? (i := 1107) (by decide +kernel), List.mem_of_getElem? (i := 1656) (by decide +kernel), List.mem_of_getElem? (i := 1657) (by decide +kernel)⟩
theorem lw_p95 : lw_okq (⟨"OneWordModel", "nextOf", "(I)I"⟩, 73) := ⟨⟨by decide +kernel, by decide +kernel⟩, List.mem_of_getElem? (i := 1107) (by decide +kernel), List.mem_of_getElem? (i := 1660) (by decide +kernel), List.mem_of_getElem? (i := 1661) (by decide +kernel)⟩
def lw_privs_6 : List (MethodName × Nat) := [(⟨"OneWordModel", "fits", "(IIII)Z"⟩, 73), (⟨"OneWordModel", "isAs", "(II)Z"⟩, 73), (⟨"OneWordModel", "isMissed", "(IIIIII)Z"⟩, 73), (⟨"OneWordModel", "areMouths", "(I)Z"⟩, 73), (⟨"OneWordModel", "laysCrowd", "(I)V"⟩, 73), (⟨"OneWordModel", "laysSoon", "()V"⟩, 73), (⟨"OneWordModel", "isState", "(I)Z"⟩, 73), (⟨"OneWordModel", "isDone", "(I)Z"⟩, 73), (⟨"OneWordModel", "says", "(IIIII)Z"⟩, 73), (⟨"OneWordModel", "findsWho", "()V"⟩, 73), (⟨"OneWordModel", "goesBy", "(IIIZ)Z"⟩, 73), (⟨"OneWordModel", "findsGaps", "()V"⟩, 73), (⟨"OneWordModel", "follows", "(III)Z"⟩, 73), (⟨"OneWordModel", "stateAfter", "(I)I"⟩, 73), (⟨"OneWordModel", "wish", "(IIII)I"⟩, 73), (⟨"OneWordModel", "nextOf", "(I)I"⟩, 73)]
theorem lw_r6 : ∀ q ∈ lw_privs_6, lw_okq q := List.forall_mem_cons.mpr ⟨lw_p80, List.forall_mem_cons.mpr ⟨lw_p81, List.forall_mem_cons.mpr ⟨lw_p82, List.forall_mem_cons.mpr ⟨lw_p83, List.forall_mem_cons.mpr ⟨lw_p84, List.forall_mem_cons.mpr ⟨lw_p85, List.forall_mem_cons.mpr ⟨lw_p86, List.forall_mem_cons.mpr ⟨lw_p87, List.forall_mem_cons.mpr ⟨lw_p88, List.forall_mem_cons.mpr ⟨lw_p89, List.forall_mem_cons.mpr ⟨lw_p90, List.forall_mem_cons.mpr ⟨lw_p91, List.forall_mem_cons.mpr ⟨lw_p92, List.forall_mem_cons.mpr ⟨lw_p93, List.forall_mem_cons.mpr ⟨lw_p94, List.forall_mem_cons.mpr ⟨lw_p95, fun _ h => absurd h List.not_mem_nil⟩⟩⟩⟩⟩⟩⟩⟩⟩⟩⟩⟩⟩⟩⟩⟩
theorem lw_p96 : lw_okq (⟨"OneWordModel", "meaningFor", "(II)I"⟩, 73) := ⟨⟨by decide +kernel, by decide +kernel⟩, List.mem_of_getElem? (i := 1107) (by decide +kernel), List.mem_of_getElem? (i := 1673) (by decide +kernel), List.mem_of_getElem? (i := 1674) (by decide +kernel)⟩
theorem lw_p97 : lw_okq (⟨"OneWordModel", "numberAt", "(I)I"⟩, 73) := ⟨⟨by decide +kernel, by decide +kernel⟩, List.mem_of_getElem? (i := 1107) (by decide +kernel), List.mem_of_getElem? (i := 1704) (by decide +kernel), List.mem_of_getElem? (i := 1705) (by decide +kernel)⟩
def lw_privs_7 : List (MethodName × Nat) := [(⟨"OneWordModel", "meaningFor", "(II)I"⟩, 73), (⟨"OneWordModel", "numberAt", "(I)I"⟩, 73)]
theorem lw_r7 : ∀ q ∈ lw_privs_7, lw_okq q := List.forall_mem_cons.mpr ⟨lw_p96, List.forall_mem_cons.mpr ⟨lw_p97, fun _ h => absurd h List.not_mem_nil⟩⟩
def lw_privs : List (MethodName × Nat) := lw_privs_1 ++ (lw_privs_2 ++ (lw_privs_3 ++ (lw_privs_4 ++ (lw_privs_5 ++ (lw_privs_6 ++ (lw_privs_7))))))
def lw_tbl : List Cond := k2_sels lw_privs ++ tables_1
theorem lw_privs_ok : ∀ q ∈ lw_privs, lw_okq q := by
  show ∀ q ∈ lw_privs_1 ++ (lw_privs_2 ++ (lw_privs_3 ++ (lw_privs_4 ++ (lw_privs_5 ++ (lw_privs_6 ++ (lw_privs_7)))))), lw_okq q
  exact List.forall_mem_append.mpr ⟨lw_r1, List.forall_mem_append.mpr ⟨lw_r2, List.forall_mem_append.mpr ⟨lw_r3, List.forall_mem_append.mpr ⟨lw_r4, List.forall_mem_append.mpr ⟨lw_r5, List.forall_mem_append.mpr ⟨lw_r6, lw_r7⟩⟩⟩⟩⟩⟩
end
section
def RX0 : String := "OneWord$Code"
def TX0 : u_T := fun k => match k with
  | 0 => ("OneWord$Code", "does", "[I", true)
  | 1 => ("OneWord$Code", "with", "[I", true)
  | 2 => ("OneWord$Code", "clauseLetter", "[I", true)
  | 3 => ("OneWord$Code", "numberFrom", "[I", true)
  | 4 => ("OneWord$Code", "conditionFrom", "[I", true)
  | 5 => ("OneWord$Code", "size", "I", false)
  | 6 => ("OneWord$Code", "clauses", "I", false)
  | _ => ("OneWord$Code", "asksFit", "Z", false)
def tyX0 : Nat → FieldType := fun k => match k with
  | 0 => .array .int
  | 1 => .array .int
  | 2 => .array .int
  | 3 => .array .int
  | 4 => .array .int
  | 5 => .int
  | 6 => .int
  | _ => .boolean
theorem nmX0 : ∀ a, a < 8 → ∀ b, b < 8 → a ≠ b → (TX0 a).2.1 ≠ (TX0 b).2.1 := by decide +kernel
theorem tyX0_ok : ∀ k, k < 8 → parseFieldDescriptor (TX0 k).2.2.1 = some (tyX0 k) := by decide +kernel
def RX1 : String := "OneWord$Crowd"
def TX1 : u_T := fun k => match k with
  | 0 => ("OneWord$Crowd", "people", "LOneWord$People;", true)
  | 1 => ("OneWord$Crowd", "sense", "LOneWord$Sense;", true)
  | 2 => ("OneWord$Crowd", "chosen", "[I", true)
  | 3 => ("OneWord$Crowd", "fitting", "[I", true)
  | 4 => ("OneWord$Crowd", "reached", "[Z", true)
  | 5 => ("OneWord$Crowd", "queue", "[I", true)
  | 6 => ("OneWord$Crowd", "speakers", "[I", true)
  | 7 => ("OneWord$Crowd", "gaps", "[I", true)
  | 8 => ("OneWord$Crowd", "lossless", "[I", true)
  | 9 => ("OneWord$Crowd", "costs", "[I", false)
  | 10 => ("OneWord$Crowd", "bits", "I", false)
  | 11 => ("OneWord$Crowd", "size", "I", false)
  | 12 => ("OneWord$Crowd", "steps", "I", false)
  | 13 => ("OneWord$Crowd", "pairs", "I", false)
  | _ => ("OneWord$Crowd", "least", "I", false)
def tyX1 : Nat → FieldType := fun k => match k with
  | 0 => .object "OneWord$People"
  | 1 => .object "OneWord$Sense"
  | 2 => .array .int
  | 3 => .array .int
  | 4 => .array .boolean
  | 5 => .array .int
  | 6 => .array .int
  | 7 => .array .int
  | 8 => .array .int
  | 9 => .array .int
  | 10 => .int
  | 11 => .int
  | 12 => .int
  | 13 => .int
  | _ => .int
theorem nmX1 : ∀ a, a < 15 → ∀ b, b < 15 → a ≠ b → (TX1 a).2.1 ≠ (TX1 b).2.1 := by decide +kernel
theorem tyX1_ok : ∀ k, k < 15 → parseFieldDescriptor (TX1 k).2.2.1 = some (tyX1 k) := by decide +kernel
def RX2 : String := "OneWord$Grammar"
def TX2 : u_T := fun k => match k with
  | 0 => ("OneWord$Grammar", "text", "[I", true)
  | 1 => ("OneWord$Grammar", "code", "LOneWord$Code;", false)
  | 2 => ("OneWord$Grammar", "length", "I", false)
  | 3 => ("OneWord$Grammar", "at", "I", false)
  | 4 => ("OneWord$Grammar", "open", "I", false)
  | _ => ("OneWord$Grammar", "fault", "I", false)
def tyX2 : Nat → FieldType := fun k => match k with
  | 0 => .array .int
  | 1 => .object "OneWord$Code"
  | 2 => .int
  | 3 => .int
  | 4 => .int
  | _ => .int
theorem nmX2 : ∀ a, a < 6 → ∀ b, b < 6 → a ≠ b → (TX2 a).2.1 ≠ (TX2 b).2.1 := by decide +kernel
theorem tyX2_ok : ∀ k, k < 6 → parseFieldDescriptor (TX2 k).2.2.1 = some (tyX2 k) := by decide +kernel
def RX3 : String := "OneWord$Hearings"
def TX3 : u_T := fun k => match k with
  | 0 => ("OneWord$Hearings", "people", "LOneWord$People;", true)
  | 1 => ("OneWord$Hearings", "talk", "LOneWord$Talk;", true)
  | 2 => ("OneWord$Hearings", "who", "[I", true)
  | 3 => ("OneWord$Hearings", "breath", "[I", true)
  | 4 => ("OneWord$Hearings", "size", "I", false)
  | _ => ("OneWord$Hearings", "listener", "I", false)
def tyX3 : Nat → FieldType := fun k => match k with
  | 0 => .object "OneWord$People"
  | 1 => .object "OneWord$Talk"
  | 2 => .array .int
  | 3 => .array .int
  | 4 => .int
  | _ => .int
theorem nmX3 : ∀ a, a < 6 → ∀ b, b < 6 → a ≠ b → (TX3 a).2.1 ≠ (TX3 b).2.1 := by decide +kernel
theorem tyX3_ok : ∀ k, k < 6 → parseFieldDescriptor (TX3 k).2.2.1 = some (tyX3 k) := by decide +kernel
def RX4 : String := "OneWord$People"
def TX4 : u_T := fun k => match k with
  | 0 => ("OneWord$People", "xs", "[I", true)
  | 1 => ("OneWord$People", "ys", "[I", true)
  | 2 => ("OneWord$People", "thousandths", "[I", true)
  | 3 => ("OneWord$People", "lengths", "[I", true)
  | 4 => ("OneWord$People", "words", "[I", true)
  | 5 => ("OneWord$People", "size", "I", false)
  | 6 => ("OneWord$People", "range", "I", false)
  | _ => ("OneWord$People", "speed", "I", false)
def tyX4 : Nat → FieldType := fun k => match k with
  | 0 => .array .int
  | 1 => .array .int
  | 2 => .array .int
  | 3 => .array .int
  | 4 => .array .int
  | 5 => .int
  | 6 => .int
  | _ => .int
theorem nmX4 : ∀ a, a < 8 → ∀ b, b < 8 → a ≠ b → (TX4 a).2.1 ≠ (TX4 b).2.1 := by decide +kernel
theorem tyX4_ok : ∀ k, k < 8 → parseFieldDescriptor (TX4 k).2.2.1 = some (tyX4 k) := by decide +kernel
def RX5 : String := "OneWord$ReadBack"
def TX5 : u_T := fun k => match k with
  | 0 => ("OneWord$ReadBack", "people", "LOneWord$People;", true)
  | 1 => ("OneWord$ReadBack", "sense", "LOneWord$Sense;", true)
  | 2 => ("OneWord$ReadBack", "gaps", "[I", true)
  | 3 => ("OneWord$ReadBack", "told", "[I", true)
  | 4 => ("OneWord$ReadBack", "follow", "[I", true)
  | 5 => ("OneWord$ReadBack", "may", "[I", true)
  | 6 => ("OneWord$ReadBack", "first", "[I", true)
  | 7 => ("OneWord$ReadBack", "restFits", "[Z", true)
  | 8 => ("OneWord$ReadBack", "rows", "[J", false)
  | 9 => ("OneWord$ReadBack", "rowsAhead", "[J", false)
  | 10 => ("OneWord$ReadBack", "size", "I", false)
  | 11 => ("OneWord$ReadBack", "ear", "I", false)
  | 12 => ("OneWord$ReadBack", "lastHeard", "I", false)
  | 13 => ("OneWord$ReadBack", "lastGap", "I", false)
  | _ => ("OneWord$ReadBack", "ways", "I", false)
def tyX5 : Nat → FieldType := fun k => match k with
  | 0 => .object "OneWord$People"
  | 1 => .object "OneWord$Sense"
  | 2 => .array .int
  | 3 => .array .int
  | 4 => .array .int
  | 5 => .array .int
  | 6 => .array .int
  | 7 => .array .boolean
  | 8 => .array .long
  | 9 => .array .long
  | 10 => .int
  | 11 => .int
  | 12 => .int
  | 13 => .int
  | _ => .int
theorem nmX5 : ∀ a, a < 15 → ∀ b, b < 15 → a ≠ b → (TX5 a).2.1 ≠ (TX5 b).2.1 := by decide +kernel
theorem tyX5_ok : ∀ k, k < 15 → parseFieldDescriptor (TX5 k).2.2.1 = some (tyX5 k) := by decide +kernel
def RX6 : String := "OneWord$Rules"
def TX6 : u_T := fun k => match k with
  | 0 => ("OneWord$Rules", "people", "LOneWord$People;", true)
  | 1 => ("OneWord$Rules", "sense", "LOneWord$Sense;", true)
  | 2 => ("OneWord$Rules", "wordsOut", "[I", true)
  | 3 => ("OneWord$Rules", "left", "I", false)
  | 4 => ("OneWord$Rules", "meant", "I", false)
  | 5 => ("OneWord$Rules", "sayings", "I", false)
  | 6 => ("OneWord$Rules", "lastMeantAt", "I", false)
  | 7 => ("OneWord$Rules", "last", "I", false)
  | _ => ("OneWord$Rules", "before", "I", false)
def tyX6 : Nat → FieldType := fun k => match k with
  | 0 => .object "OneWord$People"
  | 1 => .object "OneWord$Sense"
  | 2 => .array .int
  | 3 => .int
  | 4 => .int
  | 5 => .int
  | 6 => .int
  | 7 => .int
  | _ => .int
theorem nmX6 : ∀ a, a < 9 → ∀ b, b < 9 → a ≠ b → (TX6 a).2.1 ≠ (TX6 b).2.1 := by decide +kernel
theorem tyX6_ok : ∀ k, k < 9 → parseFieldDescriptor (TX6 k).2.2.1 = some (tyX6 k) := by decide +kernel
def RX7 : String := "OneWord$Sense"
def TX7 : u_T := fun k => match k with
  | 0 => ("OneWord$Sense", "people", "LOneWord$People;", true)
  | 1 => ("OneWord$Sense", "letters", "[I", true)
  | 2 => ("OneWord$Sense", "stack", "[I", true)
  | 3 => ("OneWord$Sense", "code", "LOneWord$Code;", false)
  | 4 => ("OneWord$Sense", "spare", "LOneWord$Code;", false)
  | _ => ("OneWord$Sense", "refused", "Z", false)
def tyX7 : Nat → FieldType := fun k => match k with
  | 0 => .object "OneWord$People"
  | 1 => .array .int
  | 2 => .array .int
  | 3 => .object "OneWord$Code"
  | 4 => .object "OneWord$Code"
  | _ => .boolean
theorem nmX7 : ∀ a, a < 6 → ∀ b, b < 6 → a ≠ b → (TX7 a).2.1 ≠ (TX7 b).2.1 := by decide +kernel
theorem tyX7_ok : ∀ k, k < 6 → parseFieldDescriptor (TX7 k).2.2.1 = some (tyX7 k) := by decide +kernel
def RX8 : String := "OneWord$Tables"
def RX9 : String := "OneWord$Talk"
def TX9 : u_T := fun k => match k with
  | 0 => ("OneWord$Talk", "who", "[I", true)
  | 1 => ("OneWord$Talk", "breath", "[I", true)
  | 2 => ("OneWord$Talk", "keptWho", "[I", true)
  | 3 => ("OneWord$Talk", "keptBreath", "[I", true)
  | 4 => ("OneWord$Talk", "size", "I", false)
  | 5 => ("OneWord$Talk", "x", "I", false)
  | 6 => ("OneWord$Talk", "keptSize", "I", false)
  | _ => ("OneWord$Talk", "keptX", "I", false)
def tyX9 : Nat → FieldType := fun k => match k with
  | 0 => .array .int
  | 1 => .array .int
  | 2 => .array .int
  | 3 => .array .int
  | 4 => .int
  | 5 => .int
  | 6 => .int
  | _ => .int
theorem nmX9 : ∀ a, a < 8 → ∀ b, b < 8 → a ≠ b → (TX9 a).2.1 ≠ (TX9 b).2.1 := by decide +kernel
theorem tyX9_ok : ∀ k, k < 8 → parseFieldDescriptor (TX9 k).2.2.1 = some (tyX9 k) := by decide +kernel
def RX10 : String := "OneWord$Tape"
def TX10 : u_T := fun k => match k with
  | 0 => ("OneWord$Tape", "bytes", "[I", true)
  | _ => ("OneWord$Tape", "size", "I", false)
def tyX10 : Nat → FieldType := fun k => match k with
  | 0 => .array .int
  | _ => .int
theorem nmX10 : ∀ a, a < 2 → ∀ b, b < 2 → a ≠ b → (TX10 a).2.1 ≠ (TX10 b).2.1 := by decide +kernel
theorem tyX10_ok : ∀ k, k < 2 → parseFieldDescriptor (TX10 k).2.2.1 = some (tyX10 k) := by decide +kernel
def RX11 : String := "OneWord"
def TX11 : u_T := fun k => match k with
  | 0 => ("OneWord", "people", "LOneWord$People;", true)
  | 1 => ("OneWord", "tape", "LOneWord$Tape;", true)
  | 2 => ("OneWord", "talk", "LOneWord$Talk;", true)
  | 3 => ("OneWord", "hearings", "LOneWord$Hearings;", true)
  | 4 => ("OneWord", "sense", "LOneWord$Sense;", true)
  | 5 => ("OneWord", "grammar", "LOneWord$Grammar;", true)
  | 6 => ("OneWord", "readBack", "LOneWord$ReadBack;", true)
  | 7 => ("OneWord", "crowd", "LOneWord$Crowd;", true)
  | _ => ("OneWord", "rules", "LOneWord$Rules;", true)
def tyX11 : Nat → FieldType := fun k => match k with
  | 0 => .object "OneWord$People"
  | 1 => .object "OneWord$Tape"
  | 2 => .object "OneWord$Talk"
  | 3 => .object "OneWord$Hearings"
  | 4 => .object "OneWord$Sense"
  | 5 => .object "OneWord$Grammar"
  | 6 => .object "OneWord$ReadBack"
  | 7 => .object "OneWord$Crowd"
  | _ => .object "OneWord$Rules"
theorem nmX11 : ∀ a, a < 9 → ∀ b, b < 9 → a ≠ b → (TX11 a).2.1 ≠ (TX11 b).2.1 := by decide +kernel
theorem tyX11_ok : ∀ k, k < 9 → parseFieldDescriptor (TX11 k).2.2.1 = some (tyX11 k) := by decide +kernel
def RX12 : String := "OneWordModel"
def TX12 : u_T := fun k => match k with
  | 0 => ("OneWordModel", "tape", "[B", true)
  | 1 => ("OneWordModel", "taped", "I", false)
  | 2 => ("OneWordModel", "mouths", "I", false)
  | 3 => ("OneWordModel", "range", "I", false)
  | 4 => ("OneWordModel", "speed", "I", false)
  | 5 => ("OneWordModel", "sayings", "I", false)
  | 6 => ("OneWordModel", "luck", "I", false)
  | 7 => ("OneWordModel", "atX", "[I", true)
  | 8 => ("OneWordModel", "atY", "[I", true)
  | 9 => ("OneWordModel", "thousandths", "[I", true)
  | 10 => ("OneWordModel", "sentenceMany", "[I", true)
  | 11 => ("OneWordModel", "sentenceOf", "[I", true)
  | 12 => ("OneWordModel", "sayer", "[I", true)
  | 13 => ("OneWordModel", "saidOn", "[I", true)
  | 14 => ("OneWordModel", "clauseMany", "I", false)
  | 15 => ("OneWordModel", "clauseLetter", "[I", true)
  | 16 => ("OneWordModel", "sumFrom", "[I", true)
  | 17 => ("OneWordModel", "codeFrom", "[I", true)
  | 18 => ("OneWordModel", "codeTo", "[I", true)
  | 19 => ("OneWordModel", "code", "[I", true)
  | 20 => ("OneWordModel", "codeArg", "[I", true)
  | 21 => ("OneWordModel", "newLetter", "[I", true)
  | 22 => ("OneWordModel", "newSum", "[I", true)
  | 23 => ("OneWordModel", "newFrom", "[I", true)
  | 24 => ("OneWordModel", "newTo", "[I", true)
  | 25 => ("OneWordModel", "newCode", "[I", true)
  | 26 => ("OneWordModel", "newArg", "[I", true)
  | 27 => ("OneWordModel", "place", "I", false)
  | 28 => ("OneWordModel", "end", "I", false)
  | 29 => ("OneWordModel", "bad", "I", false)
  | 30 => ("OneWordModel", "clauses", "I", false)
  | 31 => ("OneWordModel", "codes", "I", false)
  | 32 => ("OneWordModel", "open", "I", false)
  | 33 => ("OneWordModel", "stacked", "I", false)
  | 34 => ("OneWordModel", "isOver", "Z", false)
  | 35 => ("OneWordModel", "isBehind", "Z", false)
  | 36 => ("OneWordModel", "stack", "[I", true)
  | 37 => ("OneWordModel", "atGap", "I", false)
  | 38 => ("OneWordModel", "atWho", "I", false)
  | 39 => ("OneWordModel", "atLast", "I", false)
  | 40 => ("OneWordModel", "atBefore", "I", false)
  | 41 => ("OneWordModel", "atWay", "I", false)
  | 42 => ("OneWordModel", "atEar", "I", false)
  | 43 => ("OneWordModel", "atLeft", "I", false)
  | 44 => ("OneWordModel", "atNext", "I", false)
  | 45 => ("OneWordModel", "atFits", "I", false)
  | 46 => ("OneWordModel", "worths", "[I", true)
  | 47 => ("OneWordModel", "isRefused", "[Z", true)
  | 48 => ("OneWordModel", "hearings", "I", false)
  | 49 => ("OneWordModel", "heardOn", "[I", true)
  | 50 => ("OneWordModel", "heardWho", "[I", true)
  | 51 => ("OneWordModel", "gaps", "[I", true)
  | 52 => ("OneWordModel", "told", "[I", true)
  | 53 => ("OneWordModel", "ahead", "[J", true)
  | 54 => ("OneWordModel", "behind", "[J", true)
  | 55 => ("OneWordModel", "lastWho", "I", false)
  | 56 => ("OneWordModel", "lastGap", "I", false)
  | 57 => ("OneWordModel", "crowdMany", "I", false)
  | 58 => ("OneWordModel", "crowd", "[I", true)
  | 59 => ("OneWordModel", "crowdMeans", "[I", true)
  | 60 => ("OneWordModel", "soon", "[I", true)
  | 61 => ("OneWordModel", "rowWho", "[I", true)
  | 62 => ("OneWordModel", "rowGap", "[I", true)
  | 63 => ("OneWordModel", "rowMany", "I", false)
  | 64 => ("OneWordModel", "mayGap", "[Z", true)
  | 65 => ("OneWordModel", "saidYet", "[I", true)
  | 66 => ("OneWordModel", "uses", "[I", true)
  | 67 => ("OneWordModel", "tableGap", "[I", true)
  | 68 => ("OneWordModel", "isKept", "Z", false)
  | 69 => ("OneWordModel", "keptMany", "I", false)
  | 70 => ("OneWordModel", "keptLuck", "I", false)
  | 71 => ("OneWordModel", "keptWho", "[I", true)
  | _ => ("OneWordModel", "keptOn", "[I", true)
def tyX12 : Nat → FieldType := fun k => match k with
  | 0 => .array .byte
  | 1 => .int
  | 2 => .int
  | 3 => .int
  | 4 => .int
  | 5 => .int
  | 6 => .int
  | 7 => .array .int
  | 8 => .array .int
  | 9 => .array .int
  | 10 => .array .int
  | 11 => .array .int
  | 12 => .array .int
  | 13 => .array .int
  | 14 => .int
  | 15 => .array .int
  | 16 => .array .int
  | 17 => .array .int
  | 18 => .array .int
  | 19 => .array .int
  | 20 => .array .int
  | 21 => .array .int
  | 22 => .array .int
  | 23 => .array .int
  | 24 => .array .int
  | 25 => .array .int
  | 26 => .array .int
  | 27 => .int
  | 28 => .int
  | 29 => .int
  | 30 => .int
  | 31 => .int
  | 32 => .int
  | 33 => .int
  | 34 => .boolean
  | 35 => .boolean
  | 36 => .array .int
  | 37 => .int
  | 38 => .int
  | 39 => .int
  | 40 => .int
  | 41 => .int
  | 42 => .int
  | 43 => .int
  | 44 => .int
  | 45 => .int
  | 46 => .array .int
  | 47 => .array .boolean
  | 48 => .int
  | 49 => .array .int
  | 50 => .array .int
  | 51 => .array .int
  | 52 => .array .int
  | 53 => .array .long
  | 54 => .array .long
  | 55 => .int
  | 56 => .int
  | 57 => .int
  | 58 => .array .int
  | 59 => .array .int
  | 60 => .array .int
  | 61 => .array .int
  | 62 => .array .int
  | 63 => .int
  | 64 => .array .boolean
  | 65 => .array .int
  | 66 => .array .int
  | 67 => .array .int
  | 68 => .boolean
  | 69 => .int
  | 70 => .int
  | 71 => .array .int
  | _ => .array .int
theorem nmX12 : ∀ a, a < 73 → ∀ b, b < 73 → a ≠ b → (TX12 a).2.1 ≠ (TX12 b).2.1 := by decide +kernel
theorem tyX12_ok : ∀ k, k < 73 → parseFieldDescriptor (TX12 k).2.2.1 = some (tyX12 k) := by decide +kernel
def RJ11 : String := "java/lang/Character"
def RJ6 : String := "java/lang/Integer"
def RJ9 : String := "java/lang/Math"
def RJ0 : String := "java/lang/String"
def RJ1 : String := "java/lang/StringLatin1"
def RJ2 : String := "java/lang/StringUTF16"
def RJ10 : String := "java/lang/System"
def RJ3 : String := "jdk/internal/util/Preconditions"
def RL : String := "OneWordLaw"
abbrev cX0_init : ByteArray := prog_2_method_1_code
def yX0_init : MethodName := ⟨RX0, "<init>", "()V"⟩
abbrev cX0_clear : ByteArray := prog_2_method_2_code
def yX0_clear : MethodName := ⟨RX0, "clear", "()V"⟩
abbrev cX0_add : ByteArray := prog_2_method_3_code
def yX0_add : MethodName := ⟨RX0, "add", "(II)I"⟩
abbrev cX0_landHere : ByteArray := prog_2_method_4_code
def yX0_landHere : MethodName := ⟨RX0, "landHere", "(I)V"⟩
abbrev cX0_beginClause : ByteArray := prog_2_method_5_code
def yX0_beginClause : MethodName := ⟨RX0, "beginClause", "(I)V"⟩
abbrev cX0_beginCondition : ByteArray := prog_2_method_6_code
def yX0_beginCondition : MethodName := ⟨RX0, "beginCondition", "()V"⟩
abbrev cX0_endOf : ByteArray := prog_2_method_7_code
def yX0_endOf : MethodName := ⟨RX0, "endOf", "(I)I"⟩
abbrev cX1_init : ByteArray := prog_3_method_1_code
def yX1_init : MethodName := ⟨RX1, "<init>", "(LOneWord$People;LOneWord$Sense;)V"⟩
abbrev cX1_forget : ByteArray := prog_3_method_2_code
def yX1_forget : MethodName := ⟨RX1, "forget", "()V"⟩
abbrev cX1_knows : ByteArray := prog_3_method_3_code
def yX1_knows : MethodName := ⟨RX1, "knows", "(I)Z"⟩
abbrev cX1_canBe : ByteArray := prog_3_method_4_code
def yX1_canBe : MethodName := ⟨RX1, "canBe", "()Z"⟩
abbrev cX1_speakerOf : ByteArray := prog_3_method_5_code
def yX1_speakerOf : MethodName := ⟨RX1, "speakerOf", "(I)I"⟩
abbrev cX1_gapOf : ByteArray := prog_3_method_6_code
def yX1_gapOf : MethodName := ⟨RX1, "gapOf", "(I)I"⟩
abbrev cX1_choose : ByteArray := prog_3_method_7_code
def yX1_choose : MethodName := ⟨RX1, "choose", "(I)V"⟩
abbrev cX1_askGaps : ByteArray := prog_3_method_8_code
def yX1_askGaps : MethodName := ⟨RX1, "askGaps", "()V"⟩
abbrev cX1_reach : ByteArray := prog_3_method_9_code
def yX1_reach : MethodName := ⟨RX1, "reach", "(II)V"⟩
abbrev cX1_askBehind : ByteArray := prog_3_method_10_code
def yX1_askBehind : MethodName := ⟨RX1, "askBehind", "(II)V"⟩
abbrev cX1_findLeast : ByteArray := prog_3_method_11_code
def yX1_findLeast : MethodName := ⟨RX1, "findLeast", "()V"⟩
abbrev cX1_costBegunBy : ByteArray := prog_3_method_12_code
def yX1_costBegunBy : MethodName := ⟨RX1, "costBegunBy", "(I)I"⟩
abbrev cX1_wordsOut : ByteArray := prog_3_method_13_code
def yX1_wordsOut : MethodName := ⟨RX1, "wordsOut", "(II)I"⟩
abbrev cX1_cost : ByteArray := prog_3_method_14_code
def yX1_cost : MethodName := ⟨RX1, "cost", "(IIII)I"⟩
abbrev cX1_fittingGaps : ByteArray := prog_3_method_15_code
def yX1_fittingGaps : MethodName := ⟨RX1, "fittingGaps", "(IIII)I"⟩
abbrev cX1_losslessGaps : ByteArray := prog_3_method_16_code
def yX1_losslessGaps : MethodName := ⟨RX1, "losslessGaps", "(IIIII)I"⟩
abbrev cX1_findSpeakers : ByteArray := prog_3_method_17_code
def yX1_findSpeakers : MethodName := ⟨RX1, "findSpeakers", "()V"⟩
abbrev cX1_findGaps : ByteArray := prog_3_method_18_code
def yX1_findGaps : MethodName := ⟨RX1, "findGaps", "()V"⟩
abbrev cX1_dropDeadEnds : ByteArray := prog_3_method_19_code
def yX1_dropDeadEnds : MethodName := ⟨RX1, "dropDeadEnds", "()I"⟩
abbrev cX2_init : ByteArray := prog_4_method_1_code
def yX2_init : MethodName := ⟨RX2, "<init>", "(LOneWord$Code;)V"⟩
abbrev cX2_translate : ByteArray := prog_4_method_2_code
def yX2_translate : MethodName := ⟨RX2, "translate", "(LOneWord$Tape;ILOneWord$Code;)I"⟩
abbrev cX2_next : ByteArray := prog_4_method_3_code
def yX2_next : MethodName := ⟨RX2, "next", "()I"⟩
abbrev cX2_fail : ByteArray := prog_4_method_4_code
def yX2_fail : MethodName := ⟨RX2, "fail", "(I)V"⟩
abbrev cX2_pass : ByteArray := prog_4_method_5_code
def yX2_pass : MethodName := ⟨RX2, "pass", "(C)V"⟩
abbrev cX2_enter : ByteArray := prog_4_method_6_code
def yX2_enter : MethodName := ⟨RX2, "enter", "()V"⟩
abbrev cX2_clause : ByteArray := prog_4_method_7_code
def yX2_clause : MethodName := ⟨RX2, "clause", "()V"⟩
abbrev cX2_group : ByteArray := prog_4_method_8_code
def yX2_group : MethodName := ⟨RX2, "group", "()V"⟩
abbrev cX2_condition : ByteArray := prog_4_method_9_code
def yX2_condition : MethodName := ⟨RX2, "condition", "()V"⟩
abbrev cX2_allOf : ByteArray := prog_4_method_10_code
def yX2_allOf : MethodName := ⟨RX2, "allOf", "()V"⟩
abbrev cX2_piece : ByteArray := prog_4_method_11_code
def yX2_piece : MethodName := ⟨RX2, "piece", "()V"⟩
abbrev cX2_comparison : ByteArray := prog_4_method_12_code
def yX2_comparison : MethodName := ⟨RX2, "comparison", "()V"⟩
abbrev cX2_sum : ByteArray := prog_4_method_13_code
def yX2_sum : MethodName := ⟨RX2, "sum", "()V"⟩
abbrev cX2_product : ByteArray := prog_4_method_14_code
def yX2_product : MethodName := ⟨RX2, "product", "()V"⟩
abbrev cX2_factor : ByteArray := prog_4_method_15_code
def yX2_factor : MethodName := ⟨RX2, "factor", "()V"⟩
abbrev cX2_isDigit : ByteArray := prog_4_method_16_code
def yX2_isDigit : MethodName := ⟨RX2, "isDigit", "(I)Z"⟩
abbrev cX2_number : ByteArray := prog_4_method_17_code
def yX2_number : MethodName := ⟨RX2, "number", "()V"⟩
abbrev cX2_letter : ByteArray := prog_4_method_18_code
def yX2_letter : MethodName := ⟨RX2, "letter", "(I)V"⟩
abbrev cX3_init : ByteArray := prog_5_method_1_code
def yX3_init : MethodName := ⟨RX3, "<init>", "(LOneWord$People;LOneWord$Talk;)V"⟩
abbrev cX3_forget : ByteArray := prog_5_method_2_code
def yX3_forget : MethodName := ⟨RX3, "forget", "()V"⟩
abbrev cX3_listen : ByteArray := prog_5_method_3_code
def yX3_listen : MethodName := ⟨RX3, "listen", "(I)V"⟩
abbrev cX3_arrival : ByteArray := prog_5_method_4_code
def yX3_arrival : MethodName := ⟨RX3, "arrival", "(II)I"⟩
abbrev cX3_place : ByteArray := prog_5_method_5_code
def yX3_place : MethodName := ⟨RX3, "place", "(II)V"⟩
abbrev cX3_nearer : ByteArray := prog_5_method_6_code
def yX3_nearer : MethodName := ⟨RX3, "nearer", "(III)Z"⟩
abbrev cX3_breathOf : ByteArray := prog_5_method_7_code
def yX3_breathOf : MethodName := ⟨RX3, "breathOf", "(I)I"⟩
abbrev cX3_whoOf : ByteArray := prog_5_method_8_code
def yX3_whoOf : MethodName := ⟨RX3, "whoOf", "(I)I"⟩
abbrev cX3_gapOf : ByteArray := prog_5_method_9_code
def yX3_gapOf : MethodName := ⟨RX3, "gapOf", "(I)I"⟩
abbrev cX3_earsOf : ByteArray := prog_5_method_10_code
def yX3_earsOf : MethodName := ⟨RX3, "earsOf", "(I)I"⟩
abbrev cX3_drowned : ByteArray := prog_5_method_11_code
def yX3_drowned : MethodName := ⟨RX3, "drowned", "(II)Z"⟩
abbrev cX4_init : ByteArray := prog_6_method_1_code
def yX4_init : MethodName := ⟨RX4, "<init>", "()V"⟩
abbrev cX4_join : ByteArray := prog_6_method_2_code
def yX4_join : MethodName := ⟨RX4, "join", "(III)I"⟩
abbrev cX4_has : ByteArray := prog_6_method_3_code
def yX4_has : MethodName := ⟨RX4, "has", "(I)Z"⟩
abbrev cX4_hasAll : ByteArray := prog_6_method_4_code
def yX4_hasAll : MethodName := ⟨RX4, "hasAll", "(I)Z"⟩
abbrev cX4_wayBetween : ByteArray := prog_6_method_5_code
def yX4_wayBetween : MethodName := ⟨RX4, "wayBetween", "(II)I"⟩
abbrev cX4_reaches : ByteArray := prog_6_method_6_code
def yX4_reaches : MethodName := ⟨RX4, "reaches", "(II)Z"⟩
abbrev cX4_breathsFor : ByteArray := prog_6_method_7_code
def yX4_breathsFor : MethodName := ⟨RX4, "breathsFor", "(I)I"⟩
abbrev cX4_thousandthsOf : ByteArray := prog_6_method_8_code
def yX4_thousandthsOf : MethodName := ⟨RX4, "thousandthsOf", "(I)I"⟩
abbrev cX4_takeSentence : ByteArray := prog_6_method_9_code
def yX4_takeSentence : MethodName := ⟨RX4, "takeSentence", "(ILOneWord$Tape;I)Z"⟩
abbrev cX4_wordsBy : ByteArray := prog_6_method_10_code
def yX4_wordsBy : MethodName := ⟨RX4, "wordsBy", "(I)I"⟩
abbrev cX4_wordOf : ByteArray := prog_6_method_11_code
def yX4_wordOf : MethodName := ⟨RX4, "wordOf", "(II)I"⟩
abbrev cX4_wordsOf : ByteArray := prog_6_method_12_code
def yX4_wordsOf : MethodName := ⟨RX4, "wordsOf", "(I)I"⟩
abbrev cX5_init : ByteArray := prog_7_method_1_code
def yX5_init : MethodName := ⟨RX5, "<init>", "(LOneWord$People;LOneWord$Sense;)V"⟩
abbrev cX5_takePairs : ByteArray := prog_7_method_2_code
def yX5_takePairs : MethodName := ⟨RX5, "takePairs", "(LOneWord$Tape;I)Z"⟩
abbrev cX5_takeGapsThenMeanings : ByteArray := prog_7_method_3_code
def yX5_takeGapsThenMeanings : MethodName := ⟨RX5, "takeGapsThenMeanings", "(LOneWord$Tape;I)Z"⟩
abbrev cX5_allSuch : ByteArray := prog_7_method_4_code
def yX5_allSuch : MethodName := ⟨RX5, "allSuch", "(I)Z"⟩
abbrev cX5_beginBehind : ByteArray := prog_7_method_5_code
def yX5_beginBehind : MethodName := ⟨RX5, "beginBehind", "(ILOneWord$Hearings;)V"⟩
abbrev cX5_fits : ByteArray := prog_7_method_6_code
def yX5_fits : MethodName := ⟨RX5, "fits", "(IIIII)Z"⟩
abbrev cX5_followers : ByteArray := prog_7_method_7_code
def yX5_followers : MethodName := ⟨RX5, "followers", "(II)I"⟩
abbrev cX5_goOn : ByteArray := prog_7_method_8_code
def yX5_goOn : MethodName := ⟨RX5, "goOn", "(I)V"⟩
abbrev cX5_howManyRows : ByteArray := prog_7_method_9_code
def yX5_howManyRows : MethodName := ⟨RX5, "howManyRows", "()J"⟩
abbrev cX5_keepWhatGoesOn : ByteArray := prog_7_method_10_code
def yX5_keepWhatGoesOn : MethodName := ⟨RX5, "keepWhatGoesOn", "()V"⟩
abbrev cX5_whoMay : ByteArray := prog_7_method_11_code
def yX5_whoMay : MethodName := ⟨RX5, "whoMay", "(I)I"⟩
abbrev cX5_firstMissed : ByteArray := prog_7_method_12_code
def yX5_firstMissed : MethodName := ⟨RX5, "firstMissed", "(I)I"⟩
abbrev cX5_waysToMiss : ByteArray := prog_7_method_13_code
def yX5_waysToMiss : MethodName := ⟨RX5, "waysToMiss", "(I)I"⟩
abbrev cX5_judgeRest : ByteArray := prog_7_method_14_code
def yX5_judgeRest : MethodName := ⟨RX5, "judgeRest", "(I)V"⟩
abbrev cX5_missWithin : ByteArray := prog_7_method_15_code
def yX5_missWithin : MethodName := ⟨RX5, "missWithin", "(IIII)V"⟩
abbrev cX5_note : ByteArray := prog_7_method_16_code
def yX5_note : MethodName := ⟨RX5, "note", "(III)V"⟩
abbrev cX6_init : ByteArray := prog_8_method_1_code
def yX6_init : MethodName := ⟨RX6, "<init>", "(LOneWord$People;LOneWord$Sense;)V"⟩
abbrev cX6_play : ByteArray := prog_8_method_2_code
def yX6_play : MethodName := ⟨RX6, "play", "(II)V"⟩
abbrev cX6_begin : ByteArray := prog_8_method_3_code
def yX6_begin : MethodName := ⟨RX6, "begin", "(I)V"⟩
abbrev cX6_mostEager : ByteArray := prog_8_method_4_code
def yX6_mostEager : MethodName := ⟨RX6, "mostEager", "(II)I"⟩
abbrev cX6_speak : ByteArray := prog_8_method_5_code
def yX6_speak : MethodName := ⟨RX6, "speak", "(III)V"⟩
abbrev cX7_init : ByteArray := prog_9_method_1_code
def yX7_init : MethodName := ⟨RX7, "<init>", "(LOneWord$People;)V"⟩
abbrev cX7_clauses : ByteArray := prog_9_method_2_code
def yX7_clauses : MethodName := ⟨RX7, "clauses", "()I"⟩
abbrev cX7_takeSpare : ByteArray := prog_9_method_3_code
def yX7_takeSpare : MethodName := ⟨RX7, "takeSpare", "()V"⟩
abbrev cX7_byEar : ByteArray := prog_9_method_4_code
def yX7_byEar : MethodName := ⟨RX7, "byEar", "(IIIII)I"⟩
abbrev cX7_inCrowd : ByteArray := prog_9_method_5_code
def yX7_inCrowd : MethodName := ⟨RX7, "inCrowd", "(IIII)I"⟩
abbrev cX7_wish : ByteArray := prog_9_method_6_code
def yX7_wish : MethodName := ⟨RX7, "wish", "(IIIIII)I"⟩
abbrev cX7_set : ByteArray := prog_9_method_7_code
def yX7_set : MethodName := ⟨RX7, "set", "(IIIIII)V"⟩
abbrev cX7_letterAt : ByteArray := prog_9_method_8_code
def yX7_letterAt : MethodName := ⟨RX7, "letterAt", "(I)I"⟩
abbrev cX7_firstHolding : ByteArray := prog_9_method_9_code
def yX7_firstHolding : MethodName := ⟨RX7, "firstHolding", "(II)I"⟩
abbrev cX7_run : ByteArray := prog_9_method_10_code
def yX7_run : MethodName := ⟨RX7, "run", "(II)I"⟩
abbrev cX7_reckon : ByteArray := prog_9_method_11_code
def yX7_reckon : MethodName := ⟨RX7, "reckon", "(III)I"⟩
abbrev cX8_leastGap : ByteArray := prog_10_method_2_code
def yX8_leastGap : MethodName := ⟨RX8, "leastGap", "(LOneWord$Tape;III)I"⟩
abbrev cX8_leastSum : ByteArray := prog_10_method_3_code
def yX8_leastSum : MethodName := ⟨RX8, "leastSum", "(LOneWord$Tape;II)I"⟩
abbrev cX8_areGaps : ByteArray := prog_10_method_4_code
def yX8_areGaps : MethodName := ⟨RX8, "areGaps", "(LOneWord$Tape;I)Z"⟩
abbrev cX8_meaningOf : ByteArray := prog_10_method_5_code
def yX8_meaningOf : MethodName := ⟨RX8, "meaningOf", "(LOneWord$Tape;II)I"⟩
abbrev cX8_shifted : ByteArray := prog_10_method_6_code
def yX8_shifted : MethodName := ⟨RX8, "shifted", "(LOneWord$Tape;III)I"⟩
abbrev cX8_firstShifted : ByteArray := prog_10_method_7_code
def yX8_firstShifted : MethodName := ⟨RX8, "firstShifted", "(LOneWord$Tape;II)I"⟩
abbrev cX8_howManyShifted : ByteArray := prog_10_method_8_code
def yX8_howManyShifted : MethodName := ⟨RX8, "howManyShifted", "(LOneWord$Tape;II)I"⟩
abbrev cX8_howManyAlike : ByteArray := prog_10_method_9_code
def yX8_howManyAlike : MethodName := ⟨RX8, "howManyAlike", "(LOneWord$Tape;I)I"⟩
abbrev cX8_firstAlike : ByteArray := prog_10_method_10_code
def yX8_firstAlike : MethodName := ⟨RX8, "firstAlike", "(LOneWord$Tape;II)I"⟩
abbrev cX9_init : ByteArray := prog_11_method_1_code
def yX9_init : MethodName := ⟨RX9, "<init>", "()V"⟩
abbrev cX9_add : ByteArray := prog_11_method_2_code
def yX9_add : MethodName := ⟨RX9, "add", "(II)Z"⟩
abbrev cX9_whoOf : ByteArray := prog_11_method_3_code
def yX9_whoOf : MethodName := ⟨RX9, "whoOf", "(I)I"⟩
abbrev cX9_breathOf : ByteArray := prog_11_method_4_code
def yX9_breathOf : MethodName := ⟨RX9, "breathOf", "(I)I"⟩
abbrev cX9_goOn : ByteArray := prog_11_method_5_code
def yX9_goOn : MethodName := ⟨RX9, "goOn", "(ILOneWord$People;)I"⟩
abbrev cX9_store : ByteArray := prog_11_method_6_code
def yX9_store : MethodName := ⟨RX9, "store", "()V"⟩
abbrev cX9_restore : ByteArray := prog_11_method_7_code
def yX9_restore : MethodName := ⟨RX9, "restore", "()Z"⟩
abbrev cX10_init : ByteArray := prog_12_method_1_code
def yX10_init : MethodName := ⟨RX10, "<init>", "()V"⟩
abbrev cX10_put : ByteArray := prog_12_method_2_code
def yX10_put : MethodName := ⟨RX10, "put", "(IIIII)I"⟩
abbrev cX10_putNumber : ByteArray := prog_12_method_3_code
def yX10_putNumber : MethodName := ⟨RX10, "putNumber", "(I)V"⟩
abbrev cX10_has : ByteArray := prog_12_method_4_code
def yX10_has : MethodName := ⟨RX10, "has", "(I)Z"⟩
abbrev cX10_byteAt : ByteArray := prog_12_method_5_code
def yX10_byteAt : MethodName := ⟨RX10, "byteAt", "(I)I"⟩
abbrev cX10_numberAt : ByteArray := prog_12_method_6_code
def yX10_numberAt : MethodName := ⟨RX10, "numberAt", "(I)I"⟩
abbrev cX10_empty : ByteArray := prog_12_method_7_code
def yX10_empty : MethodName := ⟨RX10, "empty", "()V"⟩
abbrev cX11_init : ByteArray := prog_1_method_1_code
def yX11_init : MethodName := ⟨RX11, "<init>", "()V"⟩
abbrev cX11_mouth : ByteArray := prog_1_method_2_code
def yX11_mouth : MethodName := ⟨RX11, "mouth", "(III)I"⟩
abbrev cX11_air : ByteArray := prog_1_method_3_code
def yX11_air : MethodName := ⟨RX11, "air", "(II)Z"⟩
abbrev cX11_feed : ByteArray := prog_1_method_4_code
def yX11_feed : MethodName := ⟨RX11, "feed", "(IIIII)I"⟩
abbrev cX11_tongue : ByteArray := prog_1_method_5_code
def yX11_tongue : MethodName := ⟨RX11, "tongue", "(I)I"⟩
abbrev cX11_sentence : ByteArray := prog_1_method_6_code
def yX11_sentence : MethodName := ⟨RX11, "sentence", "(II)I"⟩
abbrev cX11_say : ByteArray := prog_1_method_7_code
def yX11_say : MethodName := ⟨RX11, "say", "(II)I"⟩
abbrev cX11_heard : ByteArray := prog_1_method_8_code
def yX11_heard : MethodName := ⟨RX11, "heard", "(I)I"⟩
abbrev cX11_hearing : ByteArray := prog_1_method_9_code
def yX11_hearing : MethodName := ⟨RX11, "hearing", "(III)I"⟩
abbrev cX11_way : ByteArray := prog_1_method_10_code
def yX11_way : MethodName := ⟨RX11, "way", "(II)I"⟩
abbrev cX11_meaning : ByteArray := prog_1_method_11_code
def yX11_meaning : MethodName := ⟨RX11, "meaning", "(IIIII)I"⟩
abbrev cX11_read : ByteArray := prog_1_method_12_code
def yX11_read : MethodName := ⟨RX11, "read", "(III)J"⟩
abbrev cX11_missed : ByteArray := prog_1_method_13_code
def yX11_missed : MethodName := ⟨RX11, "missed", "(IIII)I"⟩
abbrev cX11_soonest : ByteArray := prog_1_method_14_code
def yX11_soonest : MethodName := ⟨RX11, "soonest", "(II)I"⟩
abbrev cX11_byRules : ByteArray := prog_1_method_15_code
def yX11_byRules : MethodName := ⟨RX11, "byRules", "(III)I"⟩
abbrev cX11_table : ByteArray := prog_1_method_16_code
def yX11_table : MethodName := ⟨RX11, "table", "(III)I"⟩
abbrev cX11_alike : ByteArray := prog_1_method_17_code
def yX11_alike : MethodName := ⟨RX11, "alike", "(II)I"⟩
abbrev cX11_seed : ByteArray := prog_1_method_18_code
def yX11_seed : MethodName := ⟨RX11, "seed", "(I)Z"⟩
abbrev cX11_draw : ByteArray := prog_1_method_19_code
def yX11_draw : MethodName := ⟨RX11, "draw", "(I)I"⟩
abbrev cX11_keep : ByteArray := prog_1_method_20_code
def yX11_keep : MethodName := ⟨RX11, "keep", "()I"⟩
abbrev cX11_undo : ByteArray := prog_1_method_21_code
def yX11_undo : MethodName := ⟨RX11, "undo", "()Z"⟩
abbrev cX11_quiet : ByteArray := prog_1_method_22_code
def yX11_quiet : MethodName := ⟨RX11, "quiet", "()I"⟩
abbrev cX11_said : ByteArray := prog_1_method_23_code
def yX11_said : MethodName := ⟨RX11, "said", "(II)I"⟩
abbrev cX11_check : ByteArray := prog_1_method_24_code
def yX11_check : MethodName := ⟨RX11, "check", "(II)I"⟩
abbrev cX11_count : ByteArray := prog_1_method_25_code
def yX11_count : MethodName := ⟨RX11, "count", "(I)I"⟩
abbrev cX11_countWords : ByteArray := prog_1_method_26_code
def yX11_countWords : MethodName := ⟨RX11, "countWords", "(I)I"⟩
abbrev cX11_meaningOf : ByteArray := prog_1_method_27_code
def yX11_meaningOf : MethodName := ⟨RX11, "meaningOf", "(II)I"⟩
abbrev cX11_firstWrong : ByteArray := prog_1_method_28_code
def yX11_firstWrong : MethodName := ⟨RX11, "firstWrong", "(II)I"⟩
abbrev cX11_within : ByteArray := prog_1_method_29_code
def yX11_within : MethodName := ⟨RX11, "within", "(III)Z"⟩
abbrev cX12_init : ByteArray := prog_14_method_1_code
def yX12_init : MethodName := ⟨RX12, "<init>", "()V"⟩
abbrev cX12_lies : ByteArray := prog_14_method_2_code
def yX12_lies : MethodName := ⟨RX12, "lies", "(JJJ)Z"⟩
abbrev cX12_has : ByteArray := prog_14_method_3_code
def yX12_has : MethodName := ⟨RX12, "has", "(II)Z"⟩
abbrev cX12_isMouth : ByteArray := prog_14_method_4_code
def yX12_isMouth : MethodName := ⟨RX12, "isMouth", "(I)Z"⟩
abbrev cX12_mouth : ByteArray := prog_14_method_5_code
def yX12_mouth : MethodName := ⟨RX12, "mouth", "(III)I"⟩
abbrev cX12_air : ByteArray := prog_14_method_6_code
def yX12_air : MethodName := ⟨RX12, "air", "(II)Z"⟩
abbrev cX12_push : ByteArray := prog_14_method_7_code
def yX12_push : MethodName := ⟨RX12, "push", "(I)V"⟩
abbrev cX12_feed : ByteArray := prog_14_method_8_code
def yX12_feed : MethodName := ⟨RX12, "feed", "(IIIII)I"⟩
abbrev cX12_byteAt : ByteArray := prog_14_method_9_code
def yX12_byteAt : MethodName := ⟨RX12, "byteAt", "(I)I"⟩
abbrev cX12_here : ByteArray := prog_14_method_10_code
def yX12_here : MethodName := ⟨RX12, "here", "()I"⟩
abbrev cX12_wrongs : ByteArray := prog_14_method_11_code
def yX12_wrongs : MethodName := ⟨RX12, "wrongs", "(II)V"⟩
abbrev cX12_isGood : ByteArray := prog_14_method_12_code
def yX12_isGood : MethodName := ⟨RX12, "isGood", "()Z"⟩
abbrev cX12_emit : ByteArray := prog_14_method_13_code
def yX12_emit : MethodName := ⟨RX12, "emit", "(II)V"⟩
abbrev cX12_top : ByteArray := prog_14_method_14_code
def yX12_top : MethodName := ⟨RX12, "top", "()I"⟩
abbrev cX12_puts : ByteArray := prog_14_method_15_code
def yX12_puts : MethodName := ⟨RX12, "puts", "(I)V"⟩
abbrev cX12_opens : ByteArray := prog_14_method_16_code
def yX12_opens : MethodName := ⟨RX12, "opens", "()V"⟩
abbrev cX12_seesDigit : ByteArray := prog_14_method_17_code
def yX12_seesDigit : MethodName := ⟨RX12, "seesDigit", "()Z"⟩
abbrev cX12_reads : ByteArray := prog_14_method_18_code
def yX12_reads : MethodName := ⟨RX12, "reads", "()I"⟩
abbrev cX12_isTimes : ByteArray := prog_14_method_19_code
def yX12_isTimes : MethodName := ⟨RX12, "isTimes", "(I)Z"⟩
abbrev cX12_isPlus : ByteArray := prog_14_method_20_code
def yX12_isPlus : MethodName := ⟨RX12, "isPlus", "(I)Z"⟩
abbrev cX12_isSign : ByteArray := prog_14_method_21_code
def yX12_isSign : MethodName := ⟨RX12, "isSign", "(I)Z"⟩
abbrev cX12_isValue : ByteArray := prog_14_method_22_code
def yX12_isValue : MethodName := ⟨RX12, "isValue", "(I)Z"⟩
abbrev cX12_sums : ByteArray := prog_14_method_23_code
def yX12_sums : MethodName := ⟨RX12, "sums", "(Z)V"⟩
abbrev cX12_joins : ByteArray := prog_14_method_24_code
def yX12_joins : MethodName := ⟨RX12, "joins", "(Z)V"⟩
abbrev cX12_ends : ByteArray := prog_14_method_25_code
def yX12_ends : MethodName := ⟨RX12, "ends", "()V"⟩
abbrev cX12_factor : ByteArray := prog_14_method_26_code
def yX12_factor : MethodName := ⟨RX12, "factor", "()V"⟩
abbrev cX12_stays : ByteArray := prog_14_method_27_code
def yX12_stays : MethodName := ⟨RX12, "stays", "()Z"⟩
abbrev cX12_value : ByteArray := prog_14_method_28_code
def yX12_value : MethodName := ⟨RX12, "value", "()V"⟩
abbrev cX12_pieceOfC : ByteArray := prog_14_method_29_code
def yX12_pieceOfC : MethodName := ⟨RX12, "pieceOfC", "()V"⟩
abbrev cX12_goesBehind : ByteArray := prog_14_method_30_code
def yX12_goesBehind : MethodName := ⟨RX12, "goesBehind", "()Z"⟩
abbrev cX12_condition : ByteArray := prog_14_method_31_code
def yX12_condition : MethodName := ⟨RX12, "condition", "()V"⟩
abbrev cX12_clause : ByteArray := prog_14_method_32_code
def yX12_clause : MethodName := ⟨RX12, "clause", "()V"⟩
abbrev cX12_tongue : ByteArray := prog_14_method_33_code
def yX12_tongue : MethodName := ⟨RX12, "tongue", "(I)I"⟩
abbrev cX12_valueOf : ByteArray := prog_14_method_34_code
def yX12_valueOf : MethodName := ⟨RX12, "valueOf", "(I)I"⟩
abbrev cX12_worked : ByteArray := prog_14_method_35_code
def yX12_worked : MethodName := ⟨RX12, "worked", "(III)I"⟩
abbrev cX12_does : ByteArray := prog_14_method_36_code
def yX12_does : MethodName := ⟨RX12, "does", "(II)V"⟩
abbrev cX12_works : ByteArray := prog_14_method_37_code
def yX12_works : MethodName := ⟨RX12, "works", "(II)V"⟩
abbrev cX12_tells : ByteArray := prog_14_method_38_code
def yX12_tells : MethodName := ⟨RX12, "tells", "(II)I"⟩
abbrev cX12_means : ByteArray := prog_14_method_39_code
def yX12_means : MethodName := ⟨RX12, "means", "(IIIIII)I"⟩
abbrev cX12_sentence : ByteArray := prog_14_method_40_code
def yX12_sentence : MethodName := ⟨RX12, "sentence", "(II)I"⟩
abbrev cX12_say : ByteArray := prog_14_method_41_code
def yX12_say : MethodName := ⟨RX12, "say", "(II)I"⟩
abbrev cX12_size : ByteArray := prog_14_method_42_code
def yX12_size : MethodName := ⟨RX12, "size", "(I)I"⟩
abbrev cX12_wayOf : ByteArray := prog_14_method_43_code
def yX12_wayOf : MethodName := ⟨RX12, "wayOf", "(II)I"⟩
abbrev cX12_way : ByteArray := prog_14_method_44_code
def yX12_way : MethodName := ⟨RX12, "way", "(II)I"⟩
abbrev cX12_isNear : ByteArray := prog_14_method_45_code
def yX12_isNear : MethodName := ⟨RX12, "isNear", "(II)Z"⟩
abbrev cX12_isBefore : ByteArray := prog_14_method_46_code
def yX12_isBefore : MethodName := ⟨RX12, "isBefore", "(III)Z"⟩
abbrev cX12_comes : ByteArray := prog_14_method_47_code
def yX12_comes : MethodName := ⟨RX12, "comes", "(II)V"⟩
abbrev cX12_laysHearings : ByteArray := prog_14_method_48_code
def yX12_laysHearings : MethodName := ⟨RX12, "laysHearings", "(I)V"⟩
abbrev cX12_gapAt : ByteArray := prog_14_method_49_code
def yX12_gapAt : MethodName := ⟨RX12, "gapAt", "(I)I"⟩
abbrev cX12_meaningAt : ByteArray := prog_14_method_50_code
def yX12_meaningAt : MethodName := ⟨RX12, "meaningAt", "(II)I"⟩
abbrev cX12_heard : ByteArray := prog_14_method_51_code
def yX12_heard : MethodName := ⟨RX12, "heard", "(I)I"⟩
abbrev cX12_hearing : ByteArray := prog_14_method_52_code
def yX12_hearing : MethodName := ⟨RX12, "hearing", "(III)I"⟩
abbrev cX12_meaning : ByteArray := prog_14_method_53_code
def yX12_meaning : MethodName := ⟨RX12, "meaning", "(IIIII)I"⟩
abbrev cX12_said : ByteArray := prog_14_method_54_code
def yX12_said : MethodName := ⟨RX12, "said", "(II)I"⟩
abbrev cX12_laysLast : ByteArray := prog_14_method_55_code
def yX12_laysLast : MethodName := ⟨RX12, "laysLast", "(I)V"⟩
abbrev cX12_isAs : ByteArray := prog_14_method_56_code
def yX12_isAs : MethodName := ⟨RX12, "isAs", "(II)Z"⟩
abbrev cX12_fits : ByteArray := prog_14_method_57_code
def yX12_fits : MethodName := ⟨RX12, "fits", "(IIII)Z"⟩
abbrev cX12_read : ByteArray := prog_14_method_58_code
def yX12_read : MethodName := ⟨RX12, "read", "(III)J"⟩
abbrev cX12_isMissed : ByteArray := prog_14_method_59_code
def yX12_isMissed : MethodName := ⟨RX12, "isMissed", "(IIIIII)Z"⟩
abbrev cX12_missed : ByteArray := prog_14_method_60_code
def yX12_missed : MethodName := ⟨RX12, "missed", "(IIII)I"⟩
abbrev cX12_gapOf : ByteArray := prog_14_method_61_code
def yX12_gapOf : MethodName := ⟨RX12, "gapOf", "(I)I"⟩
abbrev cX12_meansPlace : ByteArray := prog_14_method_62_code
def yX12_meansPlace : MethodName := ⟨RX12, "meansPlace", "(IIII)I"⟩
abbrev cX12_laysCrowd : ByteArray := prog_14_method_63_code
def yX12_laysCrowd : MethodName := ⟨RX12, "laysCrowd", "(I)V"⟩
abbrev cX12_saidBy : ByteArray := prog_14_method_64_code
def yX12_saidBy : MethodName := ⟨RX12, "saidBy", "(II)I"⟩
abbrev cX12_fives : ByteArray := prog_14_method_65_code
def yX12_fives : MethodName := ⟨RX12, "fives", "(I)I"⟩
abbrev cX12_isDone : ByteArray := prog_14_method_66_code
def yX12_isDone : MethodName := ⟨RX12, "isDone", "(I)Z"⟩
abbrev cX12_isState : ByteArray := prog_14_method_67_code
def yX12_isState : MethodName := ⟨RX12, "isState", "(I)Z"⟩
abbrev cX12_soonPlace : ByteArray := prog_14_method_68_code
def yX12_soonPlace : MethodName := ⟨RX12, "soonPlace", "(III)I"⟩
abbrev cX12_says : ByteArray := prog_14_method_69_code
def yX12_says : MethodName := ⟨RX12, "says", "(IIIII)Z"⟩
abbrev cX12_costOf : ByteArray := prog_14_method_70_code
def yX12_costOf : MethodName := ⟨RX12, "costOf", "(I)I"⟩
abbrev cX12_laysSoon : ByteArray := prog_14_method_71_code
def yX12_laysSoon : MethodName := ⟨RX12, "laysSoon", "()V"⟩
abbrev cX12_findsWho : ByteArray := prog_14_method_72_code
def yX12_findsWho : MethodName := ⟨RX12, "findsWho", "()V"⟩
abbrev cX12_goesBy : ByteArray := prog_14_method_73_code
def yX12_goesBy : MethodName := ⟨RX12, "goesBy", "(IIIZ)Z"⟩
abbrev cX12_stateAfter : ByteArray := prog_14_method_74_code
def yX12_stateAfter : MethodName := ⟨RX12, "stateAfter", "(I)I"⟩
abbrev cX12_follows : ByteArray := prog_14_method_75_code
def yX12_follows : MethodName := ⟨RX12, "follows", "(III)Z"⟩
abbrev cX12_findsGaps : ByteArray := prog_14_method_76_code
def yX12_findsGaps : MethodName := ⟨RX12, "findsGaps", "()V"⟩
abbrev cX12_sizeOf : ByteArray := prog_14_method_77_code
def yX12_sizeOf : MethodName := ⟨RX12, "sizeOf", "(I)I"⟩
abbrev cX12_areMouths : ByteArray := prog_14_method_78_code
def yX12_areMouths : MethodName := ⟨RX12, "areMouths", "(I)Z"⟩
abbrev cX12_soonest : ByteArray := prog_14_method_79_code
def yX12_soonest : MethodName := ⟨RX12, "soonest", "(II)I"⟩
abbrev cX12_nextOf : ByteArray := prog_14_method_80_code
def yX12_nextOf : MethodName := ⟨RX12, "nextOf", "(I)I"⟩
abbrev cX12_wish : ByteArray := prog_14_method_81_code
def yX12_wish : MethodName := ⟨RX12, "wish", "(IIII)I"⟩
abbrev cX12_byRules : ByteArray := prog_14_method_82_code
def yX12_byRules : MethodName := ⟨RX12, "byRules", "(III)I"⟩
abbrev cX12_table : ByteArray := prog_14_method_83_code
def yX12_table : MethodName := ⟨RX12, "table", "(III)I"⟩
abbrev cX12_meaningFor : ByteArray := prog_14_method_84_code
def yX12_meaningFor : MethodName := ⟨RX12, "meaningFor", "(II)I"⟩
abbrev cX12_alike : ByteArray := prog_14_method_85_code
def yX12_alike : MethodName := ⟨RX12, "alike", "(II)I"⟩
abbrev cX12_seed : ByteArray := prog_14_method_86_code
def yX12_seed : MethodName := ⟨RX12, "seed", "(I)Z"⟩
abbrev cX12_draw : ByteArray := prog_14_method_87_code
def yX12_draw : MethodName := ⟨RX12, "draw", "(I)I"⟩
abbrev cX12_keep : ByteArray := prog_14_method_88_code
def yX12_keep : MethodName := ⟨RX12, "keep", "()I"⟩
abbrev cX12_undo : ByteArray := prog_14_method_89_code
def yX12_undo : MethodName := ⟨RX12, "undo", "()Z"⟩
abbrev cX12_quiet : ByteArray := prog_14_method_90_code
def yX12_quiet : MethodName := ⟨RX12, "quiet", "()I"⟩
abbrev cX12_numberAt : ByteArray := prog_14_method_91_code
def yX12_numberAt : MethodName := ⟨RX12, "numberAt", "(I)I"⟩
abbrev cX12_check : ByteArray := prog_14_method_92_code
def yX12_check : MethodName := ⟨RX12, "check", "(II)I"⟩
abbrev cX12_count : ByteArray := prog_14_method_93_code
def yX12_count : MethodName := ⟨RX12, "count", "(I)I"⟩
abbrev cJ11_isValidCodePoint_9a6ad : ByteArray := prog_15_method_11_code
def yJ11_isValidCodePoint_9a6ad : MethodName := ⟨RJ11, "isValidCodePoint", "(I)Z"⟩
abbrev cJ11_highSurrogate_5068e : ByteArray := prog_15_method_28_code
def yJ11_highSurrogate_5068e : MethodName := ⟨RJ11, "highSurrogate", "(I)C"⟩
abbrev cJ11_lowSurrogate_5068e : ByteArray := prog_15_method_29_code
def yJ11_lowSurrogate_5068e : MethodName := ⟨RJ11, "lowSurrogate", "(I)C"⟩
abbrev cJ6_numberOfTrailingZeros_0f7a4 : ByteArray := prog_16_method_48_code
def yJ6_numberOfTrailingZeros_0f7a4 : MethodName := ⟨RJ6, "numberOfTrailingZeros", "(I)I"⟩
abbrev cJ6_bitCount_0f7a4 : ByteArray := prog_16_method_49_code
def yJ6_bitCount_0f7a4 : MethodName := ⟨RJ6, "bitCount", "(I)I"⟩
abbrev cJ9_abs_0f7a4 : ByteArray := prog_17_method_59_code
def yJ9_abs_0f7a4 : MethodName := ⟨RJ9, "abs", "(I)I"⟩
abbrev cJ9_max_7cf53 : ByteArray := prog_17_method_65_code
def yJ9_max_7cf53 : MethodName := ⟨RJ9, "max", "(II)I"⟩
abbrev cJ9_min_7cf53 : ByteArray := prog_17_method_69_code
def yJ9_min_7cf53 : MethodName := ⟨RJ9, "min", "(II)I"⟩
abbrev cJ0_length_8abf5 : ByteArray := prog_18_method_54_code
def yJ0_length_8abf5 : MethodName := ⟨RJ0, "length", "()I"⟩
abbrev cJ0_indexOf_0f7a4 : ByteArray := prog_18_method_79_code
def yJ0_indexOf_0f7a4 : MethodName := ⟨RJ0, "indexOf", "(I)I"⟩
abbrev cJ0_indexOf_7cf53 : ByteArray := prog_18_method_80_code
def yJ0_indexOf_7cf53 : MethodName := ⟨RJ0, "indexOf", "(II)I"⟩
abbrev cJ0_coder_7d493 : ByteArray := prog_18_method_152_code
def yJ0_coder_7d493 : MethodName := ⟨RJ0, "coder", "()B"⟩
abbrev cJ0_isLatin1_aae02 : ByteArray := prog_18_method_154_code
def yJ0_isLatin1_aae02 : MethodName := ⟨RJ0, "isLatin1", "()Z"⟩
abbrev cJ0_checkBoundsBeginEnd_23922 : ByteArray := prog_18_method_158_code
def yJ0_checkBoundsBeginEnd_23922 : MethodName := ⟨RJ0, "checkBoundsBeginEnd", "(III)V"⟩
abbrev cJ1_canEncode_9a6ad : ByteArray := prog_19_method_4_code
def yJ1_canEncode_9a6ad : MethodName := ⟨RJ1, "canEncode", "(I)Z"⟩
abbrev cJ1_indexOf_4cfef : ByteArray := prog_19_method_22_code
def yJ1_indexOf_4cfef : MethodName := ⟨RJ1, "indexOf", "([BIII)I"⟩
abbrev cJ1_indexOfChar_4cfef : ByteArray := prog_19_method_23_code
def yJ1_indexOfChar_4cfef : MethodName := ⟨RJ1, "indexOfChar", "([BIII)I"⟩
abbrev cJ2_getChar_3b067 : ByteArray := prog_20_method_5_code
def yJ2_getChar_3b067 : MethodName := ⟨RJ2, "getChar", "([BI)C"⟩
abbrev cJ2_length_9d52b : ByteArray := prog_20_method_6_code
def yJ2_length_9d52b : MethodName := ⟨RJ2, "length", "([B)I"⟩
abbrev cJ2_indexOf_4cfef : ByteArray := prog_20_method_40_code
def yJ2_indexOf_4cfef : MethodName := ⟨RJ2, "indexOf", "([BIII)I"⟩
abbrev cJ2_indexOfChar_4cfef : ByteArray := prog_20_method_47_code
def yJ2_indexOfChar_4cfef : MethodName := ⟨RJ2, "indexOfChar", "([BIII)I"⟩
abbrev cJ2_indexOfCharUnsafe_4cfef : ByteArray := prog_20_method_48_code
def yJ2_indexOfCharUnsafe_4cfef : MethodName := ⟨RJ2, "indexOfCharUnsafe", "([BIII)I"⟩
abbrev cJ2_indexOfSupplementary_4cfef : ByteArray := prog_20_method_49_code
def yJ2_indexOfSupplementary_4cfef : MethodName := ⟨RJ2, "indexOfSupplementary", "([BIII)I"⟩
abbrev cJ2_checkBoundsBeginEnd_d044e : ByteArray := prog_20_method_93_code
def yJ2_checkBoundsBeginEnd_d044e : MethodName := ⟨RJ2, "checkBoundsBeginEnd", "(II[B)V"⟩
abbrev cJ3_checkFromToIndex_8c36e : ByteArray := prog_22_method_12_code
def yJ3_checkFromToIndex_8c36e : MethodName := ⟨RJ3, "checkFromToIndex", "(IIILjava/util/function/BiFunction;)I"⟩
abbrev cL_law : ByteArray := code
abbrev vwCl : List vw_C := [(RX0, TX0, 8), (RX1, TX1, 15), (RX2, TX2, 6), (RX3, TX3, 6), (RX4, TX4, 8), (RX5, TX5, 15), (RX6, TX6, 9), (RX7, TX7, 6), (RX9, TX9, 8), (RX10, TX10, 2), (RX11, TX11, 9), (RX12, TX12, 73)]
end
section
/-! whole numbers for the machine's ints and longs; memory as a function; the words that methods are said in -/
def wr (x : Int) : Int := (x + 2147483648) % 4294967296 - 2147483648
def wl (x : Int) : Int := (x + 9223372036854775808) % 18446744073709551616 - 9223372036854775808
def inR (x : Int) : Prop := -2147483648 ≤ x ∧ x ≤ 2147483647
def inL (x : Int) : Prop := -9223372036854775808 ≤ x ∧ x ≤ 9223372036854775807
def iV (x : Int) : Value := .int (Int32.ofInt x)
def lV (x : Int) : Value := .long (Int64.ofInt x)
theorem wr_bmod (x : Int) : x.bmod 4294967296 = wr x := by unfold wr Int.bmod; dsimp only; split <;> omega
theorem wl_bmod (x : Int) : x.bmod 18446744073709551616 = wl x := by unfold wl Int.bmod; dsimp only; split <;> omega
theorem rg_wr (x : Int) : inR (wr x) := by unfold wr inR; omega
theorem rg_wl (x : Int) : inL (wl x) := by unfold wl inL; omega
theorem wr_id {x : Int} (h : inR x) : wr x = x := by unfold inR at h; unfold wr; omega
theorem wl_id {x : Int} (h : inL x) : wl x = x := by unfold inL at h; unfold wl; omega
theorem rg_RL {x : Int} (h : inR x) : inL x := by unfold inR at h; unfold inL; omega
theorem rg_01 {x : Int} (h : x = 0 ∨ x = 1) : inR x := by unfold inR; omega
theorem t_ofI (x : Int) : (Int32.ofInt x).toInt = wr x := by rw [Int32.toInt_ofInt]; exact wr_bmod x
theorem t_ofL (x : Int) : (Int64.ofInt x).toInt = wl x := by rw [Int64.toInt_ofInt]; exact wl_bmod x
theorem t_ofI' {x : Int} (h : inR x) : (Int32.ofInt x).toInt = x := by rw [t_ofI, wr_id h]
theorem t_ofL' {x : Int} (h : inL x) : (Int64.ofInt x).toInt = x := by rw [t_ofL, wl_id h]
theorem rg_tI (x : Int32) : inR x.toInt := by
  have h1 := x.toInt_lt; have h2 := x.le_toInt; unfold inR; omega
theorem rg_tL (x : Int64) : inL x.toInt := by
  have h1 := x.toInt_lt; have h2 := x.le_toInt; unfold inL; omega
theorem of_wr (x : Int) : Int32.ofInt (wr x) = Int32.ofInt x := Int32.toInt_inj.mp (by rw [t_ofI, t_ofI, wr_id (rg_wr x)])
theorem of_wl (x : Int) : Int64.ofInt (wl x) = Int64.ofInt x := Int64.toInt_inj.mp (by rw [t_ofL, t_ofL, wl_id (rg_wl x)])
theorem o_add (x y : Int) : Int32.ofInt x + Int32.ofInt y = Int32.ofInt (wr (x + y)) := by rw [of_wr, Int32.ofInt_add]
theorem o_sub (x y : Int) : Int32.ofInt x - Int32.ofInt y = Int32.ofInt (wr (x - y)) := by rw [of_wr, Int32.ofInt_sub]
theorem o_mul (x y : Int) : Int32.ofInt x * Int32.ofInt y = Int32.ofInt (wr (x * y)) := by rw [of_wr, Int32.ofInt_mul]
theorem o_neg (x : Int) : - Int32.ofInt x = Int32.ofInt (wr (-x)) := by rw [of_wr, Int32.ofInt_neg]
theorem o_addL (x y : Int) : Int64.ofInt x + Int64.ofInt y = Int64.ofInt (wl (x + y)) := by rw [of_wl, Int64.ofInt_add]
theorem o_mulL (x y : Int) : Int64.ofInt x * Int64.ofInt y = Int64.ofInt (wl (x * y)) := by rw [of_wl, Int64.ofInt_mul]
theorem mn32 : Int32.minValue.toInt = -2147483648 := by decide
theorem mx32 : Int32.maxValue.toInt = 2147483647 := by decide
theorem o_div {x y : Int} (hx : inR x) (hy : inR y) : Int32.ofInt x / Int32.ofInt y = Int32.ofInt (wr (x.tdiv y)) := by
  rw [of_wr, Int32.ofInt_tdiv (by rw [mn32]; exact hx.1) (by rw [mx32]; exact hx.2) (by rw [mn32]; exact hy.1) (by rw [mx32]; exact hy.2)]
theorem o_rem {x y : Int} (hx : inR x) (hy : inR y) : Int32.ofInt x - Int32.ofInt x / Int32.ofInt y * Int32.ofInt y = Int32.ofInt (wr (x.tmod y)) := by
  rw [o_div hx hy, of_wr, of_wr, ← Int32.ofInt_mul, ← Int32.ofInt_sub]
  congr 1
  have h := Int.mul_tdiv_add_tmod x y
  rw [Int.mul_comm] at h
  omega
theorem o_ne0 {y : Int} (hy : inR y) (h : ¬ y = 0) : ¬ Int32.ofInt y = 0 := by
  intro e
  have h2 : (Int32.ofInt y).toInt = (0 : Int32).toInt := by rw [e]
  rw [t_ofI' hy] at h2
  exact h h2
theorem o_lt {x y : Int} (hx : inR x) (hy : inR y) : Int32.ofInt x < Int32.ofInt y ↔ x < y := by rw [Int32.lt_iff_toInt_lt, t_ofI' hx, t_ofI' hy]
theorem o_le {x y : Int} (hx : inR x) (hy : inR y) : Int32.ofInt x ≤ Int32.ofInt y ↔ x ≤ y := by rw [Int32.le_iff_toInt_le, t_ofI' hx, t_ofI' hy]
theorem o_eq {x y : Int} (hx : inR x) (hy : inR y) : Int32.ofInt x = Int32.ofInt y ↔ x = y := by rw [← Int32.toInt_inj, t_ofI' hx, t_ofI' hy]
theorem o_ltL {x y : Int} (hx : inL x) (hy : inL y) : Int64.ofInt x < Int64.ofInt y ↔ x < y := by rw [Int64.lt_iff_toInt_lt, t_ofL' hx, t_ofL' hy]
theorem o_eqL {x y : Int} (hx : inL x) (hy : inL y) : Int64.ofInt x = Int64.ofInt y ↔ x = y := by rw [← Int64.toInt_inj, t_ofL' hx, t_ofL' hy]
theorem o_i2l {x : Int} (hx : inR x) : (Int32.ofInt x).toInt64 = Int64.ofInt x := Int64.toInt_inj.mp (by rw [Int32.toInt_toInt64, t_ofI' hx, t_ofL' (rg_RL hx)])
theorem o_z : (0 : Int32) = Int32.ofInt 0 := rfl
def iand (x y : Int) : Int := (Int32.ofInt x &&& Int32.ofInt y).toInt
def ior (x y : Int) : Int := (Int32.ofInt x ||| Int32.ofInt y).toInt
def ixor (x y : Int) : Int := (Int32.ofInt x ^^^ Int32.ofInt y).toInt
def ishl (x y : Int) : Int := (Int32.ofInt x <<< (Int32.ofInt y &&& 31)).toInt
def ishr (x y : Int) : Int := (Int32.ofInt x >>> (Int32.ofInt y &&& 31)).toInt
def iushr (x y : Int) : Int := ((Int32.ofInt x).toUInt32 >>> ((Int32.ofInt y).toUInt32 &&& Int32.toUInt32 31)).toInt32.toInt
def i2b (x : Int) : Int := ((Int32.ofInt x).toInt8.toInt32).toInt
def i2c (x : Int) : Int := (((Int32.ofInt x).toUInt32 % 65536).toInt32).toInt
def lor (x y : Int) : Int := (Int64.ofInt x ||| Int64.ofInt y).toInt
def lshl (x y : Int) : Int := (Int64.ofInt x <<< ((Int32.ofInt y).toInt64 &&& 63)).toInt
def lcmp (x y : Int) : Int := if x < y then -1 else if x = y then 0 else 1
theorem of_tI (x : Int32) : Int32.ofInt x.toInt = x := Int32.ofInt_toInt x
theorem of_tL (x : Int64) : Int64.ofInt x.toInt = x := Int64.ofInt_toInt x
theorem rg_lcmp (x y : Int) : inR (lcmp x y) := by unfold lcmp inR; split <;> (try split) <;> omega
/-! memory: cell, place -/
abbrev Mm : Type := Nat → Nat → Int
abbrev Rs : Type := Option (Int × Mm)
def upr (r : Nat → Int) (i : Nat) (v : Int) : Nat → Int := fun j => if j = i then v else r j
def upd2 (m : Mm) (c i : Nat) (v : Int) : Mm := fun k => if k = c then upr (m c) i v else m k
def okR (o : Rs) (Q : Int → Mm → Prop) : Prop := match o with
  | some q => Q q.1 q.2
  | none => False
def nmv (v : Int) (K : Int → Rs) : Rs := K v
def stf (m : Mm) (c i : Nat) (v : Int) (K : Mm → Rs) : Rs := K (upd2 m c i v)
def ald (m : Mm) (a n : Nat) (i : Int) (K : Int → Rs) : Rs := if 0 ≤ i ∧ i < (n : Int) then K (m a i.toNat) else none
def ast (m : Mm) (a n : Nat) (i v : Int) (K : Mm → Rs) : Rs := if 0 ≤ i ∧ i < (n : Int) then K (upd2 m a i.toNat v) else none
def dvn (y : Int) (K : Rs) : Rs := if y = 0 then none else K
def grd (c : Prop) [Decidable c] (K : Rs) : Rs := if c then K else none
def cll (o : Rs) (K : Int → Mm → Rs) : Rs := match o with
  | some q => K q.1 q.2
  | none => none
theorem okR_ite {c : Prop} [Decidable c] {A B : Rs} {Q : Int → Mm → Prop} (h : okR (if c then A else B) Q) : (c → okR A Q) ∧ (¬ c → okR B Q) := by
  by_cases hc : c
  · rw [if_pos hc] at h; exact ⟨fun _ => h, fun n => absurd hc n⟩
  · rw [if_neg hc] at h; exact ⟨fun n => absurd n hc, fun _ => h⟩
theorem okR_cll {o : Rs} {K : Int → Mm → Rs} {Q : Int → Mm → Prop} (h : okR (cll o K) Q) : ∃ r m, o = some (r, m) ∧ okR (K r m) Q := by
  cases o with
  | none => exact absurd h (fun x => x)
  | some q => exact ⟨q.1, q.2, rfl, h⟩
theorem okR_some {o : Rs} {r : Int} {m : Mm} (h : o = some (r, m)) : okR o (fun a b => o = some (a, b)) := by
  subst h; exact rfl
theorem c_lcmp {x y : Int} (hx : inL x) (hy : inL y) : lg_cmp (Int64.ofInt x) (Int64.ofInt y) = Int32.ofInt (lcmp x y) := by
  unfold lg_cmp lcmp
  simp only [o_ltL hx hy, o_eqL hx hy, o_ltL hy hx]
  by_cases h1 : x < y
  · have h2 : ¬ y < x := by omega
    have h3 : ¬ x = y := by omega
    simp [h1, h2, h3]
  · by_cases h2 : x = y
    · simp [h2]
    · have h3 : y < x := by omega
      simp [h1, h2, h3]
end
section
/-! the cells, in the order in which they are made: kind (0 int[], 1 byte[], 2 long[], 3 boolean[], 4 + the number of its kind in vwCl), length -/
def cknd : Nat → Nat × Nat := fun k => match k with
  | 0 => (14, 0)
  | 1 => (8, 0)
  | 2 => (0, 8)
  | 3 => (0, 8)
  | 4 => (0, 8)
  | 5 => (0, 8)
  | 6 => (0, 32)
  | 7 => (13, 0)
  | 8 => (0, 220)
  | 9 => (12, 0)
  | 10 => (0, 150)
  | 11 => (0, 150)
  | 12 => (0, 150)
  | 13 => (0, 150)
  | 14 => (7, 0)
  | 15 => (0, 150)
  | 16 => (0, 150)
  | 17 => (11, 0)
  | 18 => (0, 10)
  | 19 => (0, 24)
  | 20 => (4, 0)
  | 21 => (0, 200)
  | 22 => (0, 200)
  | 23 => (0, 14)
  | 24 => (0, 14)
  | 25 => (0, 14)
  | 26 => (4, 0)
  | 27 => (0, 200)
  | 28 => (0, 200)
  | 29 => (0, 14)
  | 30 => (0, 14)
  | 31 => (0, 14)
  | 32 => (6, 0)
  | 33 => (0, 200)
  | 34 => (9, 0)
  | 35 => (0, 12)
  | 36 => (0, 12)
  | 37 => (0, 108)
  | 38 => (0, 12)
  | 39 => (0, 3)
  | 40 => (3, 12)
  | 41 => (2, 9)
  | 42 => (2, 9)
  | 43 => (5, 0)
  | 44 => (0, 4)
  | 45 => (0, 1344)
  | 46 => (3, 84)
  | 47 => (0, 84)
  | 48 => (0, 16)
  | 49 => (0, 16)
  | 50 => (0, 16)
  | 51 => (0, 0)
  | 52 => (10, 0)
  | 53 => (0, 8)
  | 54 => (15, 0)
  | 55 => (1, 220)
  | 56 => (0, 8)
  | 57 => (0, 8)
  | 58 => (0, 8)
  | 59 => (0, 8)
  | 60 => (0, 32)
  | 61 => (0, 150)
  | 62 => (0, 150)
  | 63 => (0, 14)
  | 64 => (0, 14)
  | 65 => (0, 14)
  | 66 => (0, 14)
  | 67 => (0, 200)
  | 68 => (0, 200)
  | 69 => (0, 14)
  | 70 => (0, 14)
  | 71 => (0, 14)
  | 72 => (0, 14)
  | 73 => (0, 200)
  | 74 => (0, 200)
  | 75 => (0, 240)
  | 76 => (0, 240)
  | 77 => (3, 240)
  | 78 => (0, 150)
  | 79 => (0, 150)
  | 80 => (0, 13)
  | 81 => (0, 13)
  | 82 => (2, 126)
  | 83 => (2, 126)
  | 84 => (0, 4)
  | 85 => (0, 9680)
  | 86 => (0, 68750)
  | 87 => (0, 16)
  | 88 => (0, 16)
  | 89 => (3, 374)
  | 90 => (0, 8)
  | 91 => (0, 12)
  | 92 => (0, 12)
  | 93 => (0, 150)
  | 94 => (0, 150)
  | _ => (99, 0)
def nfl : Nat → Nat := fun n => match n with
  | 0 => 8
  | 1 => 15
  | 2 => 6
  | 3 => 6
  | 4 => 8
  | 5 => 15
  | 6 => 9
  | 7 => 6
  | 8 => 8
  | 9 => 2
  | 10 => 9
  | 11 => 73
  | _ => 0
/-- a field: 0 an int or boolean, 1 a reference that stays, 2 one that moves -/
def fty : Nat → Nat → Nat := fun n j => match n, j with
  | 0, 0 => 1
  | 0, 1 => 1
  | 0, 2 => 1
  | 0, 3 => 1
  | 0, 4 => 1
  | 1, 0 => 1
  | 1, 1 => 1
  | 1, 2 => 1
  | 1, 3 => 1
  | 1, 4 => 1
  | 1, 5 => 1
  | 1, 6 => 1
  | 1, 7 => 1
  | 1, 8 => 1
  | 1, 9 => 2
  | 2, 0 => 1
  | 2, 1 => 2
  | 3, 0 => 1
  | 3, 1 => 1
  | 3, 2 => 1
  | 3, 3 => 1
  | 4, 0 => 1
  | 4, 1 => 1
  | 4, 2 => 1
  | 4, 3 => 1
  | 4, 4 => 1
  | 5, 0 => 1
  | 5, 1 => 1
  | 5, 2 => 1
  | 5, 3 => 1
  | 5, 4 => 1
  | 5, 5 => 1
  | 5, 6 => 1
  | 5, 7 => 1
  | 5, 8 => 2
  | 5, 9 => 2
  | 6, 0 => 1
  | 6, 1 => 1
  | 6, 2 => 1
  | 7, 0 => 1
  | 7, 1 => 1
  | 7, 2 => 1
  | 7, 3 => 2
  | 7, 4 => 2
  | 8, 0 => 1
  | 8, 1 => 1
  | 8, 2 => 1
  | 8, 3 => 1
  | 9, 0 => 1
  | 10, 0 => 1
  | 10, 1 => 1
  | 10, 2 => 1
  | 10, 3 => 1
  | 10, 4 => 1
  | 10, 5 => 1
  | 10, 6 => 1
  | 10, 7 => 1
  | 10, 8 => 1
  | 11, 0 => 1
  | 11, 7 => 1
  | 11, 8 => 1
  | 11, 9 => 1
  | 11, 10 => 1
  | 11, 11 => 1
  | 11, 12 => 1
  | 11, 13 => 1
  | 11, 15 => 1
  | 11, 16 => 1
  | 11, 17 => 1
  | 11, 18 => 1
  | 11, 19 => 1
  | 11, 20 => 1
  | 11, 21 => 1
  | 11, 22 => 1
  | 11, 23 => 1
  | 11, 24 => 1
  | 11, 25 => 1
  | 11, 26 => 1
  | 11, 36 => 1
  | 11, 46 => 1
  | 11, 47 => 1
  | 11, 49 => 1
  | 11, 50 => 1
  | 11, 51 => 1
  | 11, 52 => 1
  | 11, 53 => 1
  | 11, 54 => 1
  | 11, 58 => 1
  | 11, 59 => 1
  | 11, 60 => 1
  | 11, 61 => 1
  | 11, 62 => 1
  | 11, 64 => 1
  | 11, 65 => 1
  | 11, 66 => 1
  | 11, 67 => 1
  | 11, 71 => 1
  | 11, 72 => 1
  | _, _ => 0
/-- where a reference that stays leads -/
def ftg : Nat → Nat → Nat := fun k j => match k, j with
  | 0, 0 => 1
  | 0, 1 => 7
  | 0, 2 => 9
  | 0, 3 => 14
  | 0, 4 => 17
  | 0, 5 => 32
  | 0, 6 => 34
  | 0, 7 => 43
  | 0, 8 => 52
  | 1, 0 => 2
  | 1, 1 => 3
  | 1, 2 => 4
  | 1, 3 => 5
  | 1, 4 => 6
  | 7, 0 => 8
  | 9, 0 => 10
  | 9, 1 => 11
  | 9, 2 => 12
  | 9, 3 => 13
  | 14, 0 => 1
  | 14, 1 => 9
  | 14, 2 => 15
  | 14, 3 => 16
  | 17, 0 => 1
  | 17, 1 => 18
  | 17, 2 => 19
  | 20, 0 => 21
  | 20, 1 => 22
  | 20, 2 => 23
  | 20, 3 => 24
  | 20, 4 => 25
  | 26, 0 => 27
  | 26, 1 => 28
  | 26, 2 => 29
  | 26, 3 => 30
  | 26, 4 => 31
  | 32, 0 => 33
  | 34, 0 => 1
  | 34, 1 => 17
  | 34, 2 => 35
  | 34, 3 => 36
  | 34, 4 => 37
  | 34, 5 => 38
  | 34, 6 => 39
  | 34, 7 => 40
  | 43, 0 => 1
  | 43, 1 => 17
  | 43, 2 => 44
  | 43, 3 => 45
  | 43, 4 => 46
  | 43, 5 => 47
  | 43, 6 => 48
  | 43, 7 => 49
  | 43, 8 => 50
  | 52, 0 => 1
  | 52, 1 => 17
  | 52, 2 => 53
  | 54, 0 => 55
  | 54, 7 => 56
  | 54, 8 => 57
  | 54, 9 => 58
  | 54, 10 => 59
  | 54, 11 => 60
  | 54, 12 => 61
  | 54, 13 => 62
  | 54, 15 => 63
  | 54, 16 => 64
  | 54, 17 => 65
  | 54, 18 => 66
  | 54, 19 => 67
  | 54, 20 => 68
  | 54, 21 => 69
  | 54, 22 => 70
  | 54, 23 => 71
  | 54, 24 => 72
  | 54, 25 => 73
  | 54, 26 => 74
  | 54, 36 => 75
  | 54, 46 => 76
  | 54, 47 => 77
  | 54, 49 => 78
  | 54, 50 => 79
  | 54, 51 => 80
  | 54, 52 => 81
  | 54, 53 => 82
  | 54, 54 => 83
  | 54, 58 => 84
  | 54, 59 => 85
  | 54, 60 => 86
  | 54, 61 => 87
  | 54, 62 => 88
  | 54, 64 => 89
  | 54, 65 => 90
  | 54, 66 => 91
  | 54, 67 => 92
  | 54, 71 => 93
  | 54, 72 => 94
  | _, _ => 0
theorem uwX0 : ∀ w ∈ u_ws RX0 TX0 8, w ∈ lw_tbl := by decide +kernel
theorem uwX1 : ∀ w ∈ u_ws RX1 TX1 15, w ∈ lw_tbl := by decide +kernel
theorem uwX2 : ∀ w ∈ u_ws RX2 TX2 6, w ∈ lw_tbl := by decide +kernel
theorem uwX3 : ∀ w ∈ u_ws RX3 TX3 6, w ∈ lw_tbl := by decide +kernel
theorem uwX4 : ∀ w ∈ u_ws RX4 TX4 8, w ∈ lw_tbl := by decide +kernel
theorem uwX5 : ∀ w ∈ u_ws RX5 TX5 15, w ∈ lw_tbl := by decide +kernel
theorem uwX6 : ∀ w ∈ u_ws RX6 TX6 9, w ∈ lw_tbl := by decide +kernel
theorem uwX7 : ∀ w ∈ u_ws RX7 TX7 6, w ∈ lw_tbl := by decide +kernel
theorem uwX9 : ∀ w ∈ u_ws RX9 TX9 8, w ∈ lw_tbl := by decide +kernel
theorem uwX10 : ∀ w ∈ u_ws RX10 TX10 2, w ∈ lw_tbl := by decide +kernel
theorem uwX11 : ∀ w ∈ u_ws RX11 TX11 9, w ∈ lw_tbl := by decide +kernel
theorem uwX12 : ∀ w ∈ u_ws RX12 TX12 73, w ∈ lw_tbl := by decide +kernel
end
section
/-! the words that calls carry on, the world, the judgement X -/
def gtb : List Cond := lw_tbl.filter goodWord
theorem mt {w : Cond} (i : Nat) (h : tables_1[i]? = some w) : w ∈ lw_tbl := List.mem_append_right _ (List.mem_of_getElem? h)
theorem msl {w : Cond} (i : Nat) (h : (k2_sels lw_privs)[i]? = some w) : w ∈ lw_tbl := List.mem_append_left _ (List.mem_of_getElem? h)
theorem mg {w : Cond} (h : w ∈ lw_tbl) (hg : goodWord w = true) : w ∈ gtb := List.mem_filter.mpr ⟨h, hg⟩
theorem gtb_tbl {w : Cond} (h : w ∈ gtb) : w ∈ lw_tbl := (List.mem_filter.mp h).1
theorem gtb_in {w : Cond} (h : w ∈ gtb) : GoodIn gtb (w :: gtb) := by
  have key : ∀ v ∈ gtb, v ∈ gtb ∧ ((v.onTables && v.keeps) = true ∨ ∃ ty, v = .arrayClass ty) := fun v hv => ⟨hv, good_of_word (List.mem_filter.mp hv).2⟩
  intro v hv
  rcases List.mem_cons.mp hv with rfl | hv
  · exact key _ h
  · exact key _ hv
theorem uw_g {ws : List Cond} (h : ∀ w ∈ ws, w ∈ lw_tbl) (hg : ws.all goodWord = true) : ∀ w ∈ ws, w ∈ gtb := fun w hw => mg (h w hw) (List.all_eq_true.mp hg w hw)
abbrev Gx : Type := Program × Launch × Env × Room × State × MethodId × Array Value × List Frame × Method × Code
/-- base address, the classes' numbers, int[] byte[] long[] boolean[], ONE_BY, the constant text -/
abbrev Bs : Type := Nat × va_G × ClassId × ClassId × ClassId × ClassId × Nat × Nat
def tysB (b : Bs) : List (ClassId × FieldType) := [(b.2.2.1, .int), (b.2.2.2.1, .byte), (b.2.2.2.2.1, .long), (b.2.2.2.2.2.1, .boolean)]
def fvl (b : Bs) (k n j : Nat) (x : Int) : Value := match fty n j with
  | 0 => iV x
  | 1 => .ref (b.1 + ftg k j)
  | _ => .ref (b.1 + x.toNat)
def cntD (m : Mm) : Nat := 95 + (m 0 100).toNat
def lenA (m : Mm) (k : Nat) : Nat := if k < 95 then (cknd k).2 else (m 0 (200 + k)).toNat
def kndA (k : Nat) : Nat := if k < 95 then (cknd k).1 else 0
def celF (b : Bs) (m : Mm) (k : Nat) : va_E := match kndA k with
  | 0 => .inl (b.2.2.1, lenA m k, .inl (fun j => Int32.ofInt (m k j)))
  | 1 => .inl (b.2.2.2.1, lenA m k, .inl (fun j => Int32.ofInt (m k j)))
  | 2 => .inl (b.2.2.2.2.1, lenA m k, .inr (.inl (fun j => Int64.ofInt (m k j))))
  | 3 => .inl (b.2.2.2.2.2.1, lenA m k, .inl (fun j => Int32.ofInt (m k j)))
  | n + 4 => .inr (n, (List.range (nfl n)).map (fun j => fvl b k n j (m k j)))
def wsF (b : Bs) (m : Mm) : va_W := (List.range (cntD m)).map (fun k => (b.1 + k, celF b m k))
def Hc (b : Bs) (m : Mm) (H : Heap) : Prop := H.size = b.1 + cntD m ∧ va_P b.2.1 vwCl (wsF b m) H
theorem wsF_get (b : Bs) (m : Mm) {k : Nat} (h : k < cntD m) : (wsF b m)[k]? = some (b.1 + k, celF b m k) := by
  unfold wsF
  rw [List.getElem?_map, List.getElem?_range h]
  rfl
theorem wsF_len (b : Bs) (m : Mm) : (wsF b m).length = cntD m := by unfold wsF; rw [List.length_map, List.length_range]
theorem wsF_D (b : Bs) (m : Mm) : va_D (fun q => b.1 ≤ q) (wsF b m) := by
  refine ⟨fun i j p q hi hj h => ?_, fun k q hk => ?_⟩
  · have h1 : i < cntD m := by have := (List.getElem?_eq_some_iff.mp hi).1; rwa [wsF_len] at this
    have h2 : j < cntD m := by have := (List.getElem?_eq_some_iff.mp hj).1; rwa [wsF_len] at this
    rw [wsF_get b m h1] at hi
    rw [wsF_get b m h2] at hj
    cases hi; cases hj
    simp only at h
    omega
  · have h1 : k < cntD m := by have := (List.getElem?_eq_some_iff.mp hk).1; rwa [wsF_len] at this
    rw [wsF_get b m h1] at hk
    cases hk
    exact Nat.le_add_right _ _
theorem wsF_set (b : Bs) {m m' : Mm} {k : Nat} (h : k < cntD m) (hc : cntD m' = cntD m) (ho : ∀ k', k' ≠ k → celF b m' k' = celF b m k') : (wsF b m).set k (b.1 + k, celF b m' k) = wsF b m' := by
  apply List.ext_getElem?
  intro i
  by_cases hi : i < cntD m
  · rw [wsF_get b m' (by rw [hc]; exact hi)]
    by_cases e : i = k
    · subst e
      rw [List.getElem?_set_self (by rw [wsF_len]; exact h)]
    · rw [List.getElem?_set_ne (fun z => e z.symm), wsF_get b m hi, ho i e]
  · rw [List.getElem?_eq_none (by rw [List.length_set, wsF_len]; omega), List.getElem?_eq_none (by rw [wsF_len, hc]; omega)]
theorem u2_same (m : Mm) (c i : Nat) (v : Int) : upd2 m c i v c i = v := by unfold upd2 upr; rw [if_pos rfl, if_pos rfl]
theorem u2_row (m : Mm) (c i : Nat) (v : Int) : upd2 m c i v c = upr (m c) i v := by unfold upd2; rw [if_pos rfl]
theorem u2_ne (m : Mm) {c k : Nat} (i : Nat) (v : Int) (h : k ≠ c) : upd2 m c i v k = m k := by unfold upd2; rw [if_neg h]
theorem cntD_u2 {m : Mm} {c i : Nat} {v : Int} (h : c ≠ 0) : cntD (upd2 m c i v) = cntD m := by unfold cntD; rw [u2_ne _ _ _ (fun z => h z.symm)]
theorem lenA_u2 {m : Mm} {c i : Nat} {v : Int} (h : c ≠ 0) (k : Nat) : lenA (upd2 m c i v) k = lenA m k := by unfold lenA; rw [u2_ne _ _ _ (fun z => h z.symm)]
theorem celF_ne {b : Bs} {m : Mm} {c i : Nat} {v : Int} (h : c ≠ 0) (k : Nat) (hk : k ≠ c) : celF b (upd2 m c i v) k = celF b m k := by
  unfold celF; rw [lenA_u2 h, u2_ne _ _ _ hk]
/-- two sides: true the class's cells, false the reference's; q.2 the other side's memory -/
abbrev Sd : Type := Bool × Mm
def own2 (k : Nat) : Bool := !(decide (54 ≤ k) && decide (k < 95))
def fm (q : Sd) (m : Mm) : Mm := fun k => if own2 k = q.1 then m k else q.2 k
theorem fm_at {q : Sd} {m : Mm} {k : Nat} (h : own2 k = q.1) : fm q m k = m k := by unfold fm; rw [if_pos h]
theorem fm_u2 {q : Sd} {m : Mm} {k : Nat} (h : own2 k = q.1) (i : Nat) (v : Int) : fm q (upd2 m k i v) = upd2 (fm q m) k i v := by
  funext c
  by_cases hc : c = k
  · subst hc
    rw [fm_at h, u2_row, u2_row, fm_at h]
  · rw [u2_ne _ _ _ hc]
    unfold fm
    rw [u2_ne _ _ _ hc]
def lngk (k : Nat) : Bool := kndA k == 2
def rgk (k : Nat) (x : Int) : Prop := if lngk k = true then inL x else inR x
def Rg (m : Mm) : Prop := ∀ k j, rgk k (m k j)
theorem Rg.i {m : Mm} (h : Rg m) (k j : Nat) (hk : lngk k = false) : inR (m k j) := by
  have h1 := h k j
  unfold rgk at h1
  rwa [hk, if_neg (by decide)] at h1
theorem Rg.l {m : Mm} (h : Rg m) (k j : Nat) (hk : lngk k = true) : inL (m k j) := by
  have h1 := h k j
  unfold rgk at h1
  rwa [hk, if_pos rfl] at h1
theorem Rg.u {m : Mm} (h : Rg m) {k : Nat} (i : Nat) {v : Int} (hv : rgk k v) : Rg (upd2 m k i v) := by
  intro c j
  by_cases hc : c = k
  · subst hc
    rw [u2_row]
    unfold upr
    by_cases e : j = i
    · rw [if_pos e]; exact hv
    · rw [if_neg e]; exact h c j
  · rw [u2_ne _ _ _ hc]; exact h c j
theorem rgk_i {k : Nat} {v : Int} (hk : lngk k = false) (h : inR v) : rgk k v := by unfold rgk; rw [hk, if_neg (by decide)]; exact h
theorem rgk_l {k : Nat} {v : Int} (hk : lngk k = true) (h : inL v) : rgk k v := by unfold rgk; rw [hk, if_pos rfl]; exact h
/-- ONE_BY -/
def oneF (j : Nat) : Int := match j with
  | 0 => 1
  | 1 => 5
  | 2 => 25
  | 3 => 125
  | _ => 625
/-- what the tables and the cells below the base say, at a state -/
def Kx (b : Bs) (U : State) : Prop := va_K b.2.1 vwCl (tysB b) U ∧ b.1 ≤ U.heap.size ∧ va_Z "OneWord$Crowd" "ONE_BY" "[I" (.ref b.2.2.2.2.2.2.1) (fun q => b.1 ≤ q) U U.heap ∧ (b.2.2.2.2.2.2.1 < b.1 ∧ va_X b.2.2.2.2.2.2.1 5 (fun j => Int32.ofInt (oneF j)) U U.heap)
theorem va_X.mv {b L : Nat} {xs : Nat → Int32} {s U : State} {H H' : Heap} (hvm : s.vm.Alike U.vm) (h : va_X b L xs s H) (hq : H'[b]? = H[b]?) : va_X b L xs U H' := by
  obtain ⟨scr, h1, h2, h3, h4, h5⟩ := h
  refine ⟨scr, hq.trans h1, ?_, h3, h4, h5⟩
  obtain ⟨g1, k, g2, comp, g3⟩ := h2
  obtain ⟨k', hk', he⟩ := hvm.2.2 _ _ g2
  exact ⟨g1, k', hk', comp, by rw [he]; exact g3⟩
theorem Kx.mv {b : Bs} {s U : State} (h : Kx b s) (hvm : s.vm.Alike U.vm) (hz : s.heap.size ≤ U.heap.size) (hq : ∀ q, q < s.heap.size → ¬ b.1 ≤ q → U.heap[q]? = s.heap[q]?) : Kx b U := by
  obtain ⟨h1, h2, h3, h4, h5⟩ := h
  exact ⟨h1.moved hvm, Nat.le_trans h2 hz, (h3.moved hvm).kept hq, h4, h5.mv hvm (hq _ (by omega) (by omega))⟩
/-- a world at a state: the cells, the tables, the ranges -/
def Wd (b : Bs) (q : Sd) (m : Mm) (U : State) : Prop := Hc b (fm q m) U.heap ∧ Kx b U ∧ Rg m
def gP (g : Gx) : Program := g.1
def gR (g : Gx) : Room := g.2.2.2.1
def gS (g : Gx) : State := g.2.2.2.2.1
def gA (g : Gx) : Array Value := g.2.2.2.2.2.2.1
def gT (g : Gx) : Method := g.2.2.2.2.2.2.2.2.1
def gW (g : Gx) (H : Heap) (locs : List Loc) (cells slots : Nat) (Q : State → Prop) (pc : Nat) (ls : Array Slot) (st : List Value) : Prop :=
  W g.1 g.2.1 g.2.2.1 g.2.2.2.1 g.2.2.2.2.1 g.2.2.2.2.2.1 g.2.2.2.2.2.2.1 g.2.2.2.2.2.2.2.1 g.2.2.2.2.2.2.2.2.1 g.2.2.2.2.2.2.2.2.2 H locs cells slots Q (F0 g.2.2.2.2.2.1 pc ls st)
/-- what is known of a method that runs -/
def Cok (g : Gx) (b : Bs) (ow : String) (cc : ByteArray) (nL dep : Nat) (ret : Option FieldType) : Prop :=
  g.1.tables.exec = Jvm.exec ∧ g.2.2.2.2.2.2.2.2.2.code = cc ∧ g.2.2.2.2.2.2.2.2.2.maxLocals = nL ∧ (gS g).vm.findClass ow = some g.2.2.2.2.2.1.cls ∧ (∀ w ∈ gtb, w.before (gA g) (gS g) = true) ∧ (gT g).locks = false ∧ Kx b (gS g) ∧ (gR g).frames = dep ∧ (gR g).locals = 60 * dep ∧ (gT g).sig.returnType = ret
/-- from here on, at pc, with these locals, this stack and this memory, and room for kc more cells of ks slots, the machine comes to Z -/
def X (g : Gx) (b : Bs) (q : Sd) (nL : Nat) (Z : State → Prop) (pc : Nat) (lv : List (Nat × Value)) (st : List Value) (m : Mm) (kc ks : Nat) : Prop :=
  ∀ (H : Heap) (locs : List Loc) (cells slots : Nat) (ls : Array Slot), Hc b (fm q m) H → va_S (fun a => b.1 ≤ a) (gS g).heap H locs → cells + kc ≤ (gR g).cells → slots + ks ≤ (gR g).slots → lv_has ls nL lv → gW g H locs cells slots Z pc ls st
def rtV (rt : Nat) (r : Int) : Option Value := match rt with
  | 0 => none
  | 1 => some (iV r)
  | 2 => some (lV r)
  | _ => some (iV r)
def rtO (rt : Nat) (r : Int) : Prop := match rt with
  | 0 => r = 0
  | 1 => inR r
  | 2 => inL r
  | _ => r = 0 ∨ r = 1
/-- a method's end -/
def QcM (b : Bs) (q : Sd) (rt : Nat) (Q : Int → Mm → Prop) : Array Value → State → Outcome → State → Prop := fun _ s o t =>
  (∃ r m', Q r m' ∧ rtO rt r ∧ o = .returned (rtV rt r) ∧ Wd b q m' t) ∧ va_F (fun a => b.1 ≤ a) s t
def ZM (g : Gx) (b : Bs) (q : Sd) (rt : Nat) (Q : Int → Mm → Prop) : State → Prop := MQ g.2.2.2.2.2.2.2.1 (QcM b q rt Q) (gA g) (gS g) (gR g).cells (gR g).slots (fun a => b.1 ≤ a)
def PcM (b : Bs) (q : Sd) (m : Mm) (av : List Value) : Array Value → State → Prop := va_Pc av (Wd b q m)
def rmM (dep kc ks : Nat) : Room := { frames := dep, cells := kc, slots := ks, locals := 60 * dep }
/-- a method's contract: y with these arguments at memory m does what o says -/
def Cn (y : MethodName) (cc : ByteArray) (nL : Nat) (ret : Option FieldType) (dep kc ks rt : Nat) (b : Bs) (q : Sd) (m : Mm) (av : List Value) (o : Rs) : Prop :=
  ∀ l : Launch, Met l y (.code y cc nL ret :: gtb) (rmM dep kc ks) (PcM b q m av) (QcM b q rt (fun r m' => o = some (r, m'))) kc ks (fun a => b.1 ≤ a)
end
section
/-! a row an instruction, over X -/
section XR
variable {g : Gx} {b : Bs} {q : Sd} {nL dep : Nat} {Z : State → Prop} {ow : String} {cc : ByteArray} {ret : Option FieldType} {pc n : Nat} {lv : List (Nat × Value)} {st : List Value} {m : Mm} {kc ks : Nat} {Q : Int → Mm → Prop}
theorem x_sub (is : List Nat) {lv' : List (Nat × Value)} (h : is.filterMap (fun i => lv[i]?) = lv') (kk : X g b q nL Z pc lv' st m kc ks) : X g b q nL Z pc lv st m kc ks :=
  fun H locs cells slots ls hH hS hc hs hl => kk H locs cells slots ls hH hS hc hs (lv_sub hl is h)
theorem x_goto {tgt : Nat} {off : Int} (hC : Cok g b ow cc nL dep ret) (hd : decode cc pc = .ok (.goto off, 3)) (ht : (pc : Int) + off = (tgt : Int)) (kk : X g b q nL Z tgt lv st m kc ks) : X g b q nL Z pc lv st m kc ks :=
  fun H locs cells slots ls hH hS hc hs hl => lv_goto hC.1 hC.2.1 hd ht (kk H locs cells slots ls hH hS hc hs hl)
theorem x_iload_n {f : Fin 4} {x : Int} (hC : Cok g b ow cc nL dep ret) (hd : decode cc pc = .ok (.iload_n f, 1)) (hn : pc + 1 = n) (p : Nat) (hp : lv[p]? = some ((f : Nat), iV x)) (kk : X g b q nL Z n lv (iV x :: st) m kc ks) : X g b q nL Z pc lv (st) m kc ks := by
  subst hn
  intro H locs cells slots ls hH hS hc hs hl
  have k := kk H locs cells slots ls hH hS hc hs hl
  exact lv_iload_n hC.1 hC.2.1 hd rfl (lv_at hl p hp) k
theorem x_iload {i : Nat} {x : Int} (hC : Cok g b ow cc nL dep ret) (hd : decode cc pc = .ok (.iload i, 2)) (hn : pc + 2 = n) (p : Nat) (hp : lv[p]? = some (i, iV x)) (kk : X g b q nL Z n lv (iV x :: st) m kc ks) : X g b q nL Z pc lv (st) m kc ks := by
  subst hn
  intro H locs cells slots ls hH hS hc hs hl
  have k := kk H locs cells slots ls hH hS hc hs hl
  exact lv_iload hC.1 hC.2.1 hd (lv_at hl p hp) k
theorem x_lload_n {f : Fin 4} {x : Int} (hC : Cok g b ow cc nL dep ret) (hd : decode cc pc = .ok (.lload_n f, 1)) (hn : pc + 1 = n) (p : Nat) (hp : lv[p]? = some ((f : Nat), lV x)) (kk : X g b q nL Z n lv (lV x :: st) m kc ks) : X g b q nL Z pc lv (st) m kc ks := by
  subst hn
  intro H locs cells slots ls hH hS hc hs hl
  have k := kk H locs cells slots ls hH hS hc hs hl
  exact lv_lload_n hC.1 hC.2.1 hd rfl (lv_at hl p hp) k
theorem x_lload {i : Nat} {x : Int} (hC : Cok g b ow cc nL dep ret) (hd : decode cc pc = .ok (.lload i, 2)) (hn : pc + 2 = n) (p : Nat) (hp : lv[p]? = some (i, lV x)) (kk : X g b q nL Z n lv (lV x :: st) m kc ks) : X g b q nL Z pc lv (st) m kc ks := by
  subst hn
  intro H locs cells slots ls hH hS hc hs hl
  have k := kk H locs cells slots ls hH hS hc hs hl
  exact lv_lload hC.1 hC.2.1 hd (lv_at hl p hp) k
theorem x_aload_n {f : Fin 4} {x : Nat} (hC : Cok g b ow cc nL dep ret) (hd : decode cc pc = .ok (.aload_n f, 1)) (hn : pc + 1 = n) (p : Nat) (hp : lv[p]? = some ((f : Nat), .ref x)) (kk : X g b q nL Z n lv (.ref x :: st) m kc ks) : X g b q nL Z pc lv (st) m kc ks := by
  subst hn
  intro H locs cells slots ls hH hS hc hs hl
  have k := kk H locs cells slots ls hH hS hc hs hl
  exact lv_aload_n hC.1 hC.2.1 hd rfl (lv_at hl p hp) k
theorem x_aload {i : Nat} {x : Nat} (hC : Cok g b ow cc nL dep ret) (hd : decode cc pc = .ok (.aload i, 2)) (hn : pc + 2 = n) (p : Nat) (hp : lv[p]? = some (i, .ref x)) (kk : X g b q nL Z n lv (.ref x :: st) m kc ks) : X g b q nL Z pc lv (st) m kc ks := by
  subst hn
  intro H locs cells slots ls hH hS hc hs hl
  have k := kk H locs cells slots ls hH hS hc hs hl
  exact lv_aload hC.1 hC.2.1 hd (lv_at hl p hp) k
theorem x_istore_n {f : Fin 4} {i : Nat} {v : Int} {K : Int → Rs} {lv' : List (Nat × Value)} (hC : Cok g b ow cc nL dep ret) (hd : decode cc pc = .ok (.istore_n f, 1)) (hn : pc + 1 = n) (hi : (f : Nat) = i) (hi2 : i < nL) (hlv : lv.filter (fun q => !(q.1 == i) && !(q.1 + 1 == i && q.2.category == 2)) = lv') (hv : inR v) (hF : okR (nmv v K) Q) (kk : ∀ x, inR x → okR (K x) Q → X g b q nL Z n ((i, iV x) :: lv') st m kc ks) : X g b q nL Z pc lv (iV v :: st) m kc ks := by
  subst hn
  intro H locs cells slots ls hH hS hc hs hl
  exact lv_istore_n (lv' := (i, iV v) :: lv') hC.1 hC.2.1 hd hi hl hi2 (congrArg _ hlv) (fun ls' hl' => kk v hv hF H locs cells slots ls' hH hS hc hs hl')
theorem x_istore {i : Nat} {v : Int} {K : Int → Rs} {lv' : List (Nat × Value)} (hC : Cok g b ow cc nL dep ret) (hd : decode cc pc = .ok (.istore i, 2)) (hn : pc + 2 = n) (hi2 : i < nL) (hlv : lv.filter (fun q => !(q.1 == i) && !(q.1 + 1 == i && q.2.category == 2)) = lv') (hv : inR v) (hF : okR (nmv v K) Q) (kk : ∀ x, inR x → okR (K x) Q → X g b q nL Z n ((i, iV x) :: lv') st m kc ks) : X g b q nL Z pc lv (iV v :: st) m kc ks := by
  subst hn
  intro H locs cells slots ls hH hS hc hs hl
  exact lv_istore (lv' := (i, iV v) :: lv') hC.1 hC.2.1 hd hl hi2 (congrArg _ hlv) (fun ls' hl' => kk v hv hF H locs cells slots ls' hH hS hc hs hl')
theorem x_lstore_n {f : Fin 4} {i : Nat} {v : Int} {K : Int → Rs} {lv' : List (Nat × Value)} (hC : Cok g b ow cc nL dep ret) (hd : decode cc pc = .ok (.lstore_n f, 1)) (hn : pc + 1 = n) (hi : (f : Nat) = i) (hi2 : i + 1 < nL) (hlv : lv.filter (fun q => !(q.1 == i) && (!(q.1 == i + 1) && !(q.1 + 1 == i && q.2.category == 2))) = lv') (hv : inL v) (hF : okR (nmv v K) Q) (kk : ∀ x, inL x → okR (K x) Q → X g b q nL Z n ((i, lV x) :: lv') st m kc ks) : X g b q nL Z pc lv (lV v :: st) m kc ks := by
  subst hn
  intro H locs cells slots ls hH hS hc hs hl
  exact lv_lstore_n (lv' := (i, lV v) :: lv') hC.1 hC.2.1 hd hi hl hi2 (congrArg _ hlv) (fun ls' hl' => kk v hv hF H locs cells slots ls' hH hS hc hs hl')
theorem x_lstore {i : Nat} {v : Int} {K : Int → Rs} {lv' : List (Nat × Value)} (hC : Cok g b ow cc nL dep ret) (hd : decode cc pc = .ok (.lstore i, 2)) (hn : pc + 2 = n) (hi2 : i + 1 < nL) (hlv : lv.filter (fun q => !(q.1 == i) && (!(q.1 == i + 1) && !(q.1 + 1 == i && q.2.category == 2))) = lv') (hv : inL v) (hF : okR (nmv v K) Q) (kk : ∀ x, inL x → okR (K x) Q → X g b q nL Z n ((i, lV x) :: lv') st m kc ks) : X g b q nL Z pc lv (lV v :: st) m kc ks := by
  subst hn
  intro H locs cells slots ls hH hS hc hs hl
  exact lv_lstore (lv' := (i, lV v) :: lv') hC.1 hC.2.1 hd hl hi2 (congrArg _ hlv) (fun ls' hl' => kk v hv hF H locs cells slots ls' hH hS hc hs hl')
theorem x_astore_n {f : Fin 4} {i x : Nat} {lv' : List (Nat × Value)} (hC : Cok g b ow cc nL dep ret) (hd : decode cc pc = .ok (.astore_n f, 1)) (hn : pc + 1 = n) (hi : (f : Nat) = i) (hi2 : i < nL) (hlv : lv.filter (fun q => !(q.1 == i) && !(q.1 + 1 == i && q.2.category == 2)) = lv') (kk : X g b q nL Z n ((i, .ref x) :: lv') st m kc ks) : X g b q nL Z pc lv (.ref x :: st) m kc ks := by
  subst hn
  intro H locs cells slots ls hH hS hc hs hl
  exact lv_astore_n (lv' := (i, .ref x) :: lv') hC.1 hC.2.1 hd hi hl hi2 (congrArg _ hlv) (fun ls' hl' => kk H locs cells slots ls' hH hS hc hs hl')
theorem x_astore {i x : Nat} {lv' : List (Nat × Value)} (hC : Cok g b ow cc nL dep ret) (hd : decode cc pc = .ok (.astore i, 2)) (hn : pc + 2 = n) (hi2 : i < nL) (hlv : lv.filter (fun q => !(q.1 == i) && !(q.1 + 1 == i && q.2.category == 2)) = lv') (kk : X g b q nL Z n ((i, .ref x) :: lv') st m kc ks) : X g b q nL Z pc lv (.ref x :: st) m kc ks := by
  subst hn
  intro H locs cells slots ls hH hS hc hs hl
  exact lv_astore (lv' := (i, .ref x) :: lv') hC.1 hC.2.1 hd hl hi2 (congrArg _ hlv) (fun ls' hl' => kk H locs cells slots ls' hH hS hc hs hl')
theorem x_iinc {i p : Nat} {c x : Int} {K : Int → Rs} {lv' : List (Nat × Value)} (hC : Cok g b ow cc nL dep ret) (hd : decode cc pc = .ok (.iinc i c, 3)) (hn : pc + 3 = n) (hp : lv[p]? = some (i, iV x)) (hi2 : i < nL) (hlv : lv.filter (fun q => !(q.1 == i) && !(q.1 + 1 == i && q.2.category == 2)) = lv') (hF : okR (nmv (wr (x + c)) K) Q) (kk : ∀ x, inR x → okR (K x) Q → X g b q nL Z n ((i, iV x) :: lv') st m kc ks) : X g b q nL Z pc lv st m kc ks := by
  subst hn
  intro H locs cells slots ls hH hS hc hs hl
  refine lv_iinc (v := Int32.ofInt (wr (x + c))) (k := p) (lv' := (i, iV (wr (x + c))) :: lv') hC.1 hC.2.1 hd hl hp (by rw [of_wr, Int32.ofInt_add]) hi2 (congrArg _ hlv) (fun ls' hl' => kk _ (rg_wr _) hF H locs cells slots ls' hH hS hc hs hl')
theorem x_iconst {c : Int} (hC : Cok g b ow cc nL dep ret) (hd : decode cc pc = .ok (.iconst c, 1)) (hn : pc + 1 = n) (kk : X g b q nL Z n lv (iV c :: st) m kc ks) : X g b q nL Z pc lv (st) m kc ks := by
  subst hn
  intro H locs cells slots ls hH hS hc hs hl
  have k := kk H locs cells slots ls hH hS hc hs hl
  exact lv_iconst hC.1 hC.2.1 hd rfl k
theorem x_bipush {c : Int} (hC : Cok g b ow cc nL dep ret) (hd : decode cc pc = .ok (.bipush c, 2)) (hn : pc + 2 = n) (hv : (Int8.ofInt c).toInt32 = Int32.ofInt c) (kk : X g b q nL Z n lv (iV c :: st) m kc ks) : X g b q nL Z pc lv (st) m kc ks := by
  subst hn
  intro H locs cells slots ls hH hS hc hs hl
  have k := kk H locs cells slots ls hH hS hc hs hl
  exact lv_bipush hC.1 hC.2.1 hd hv k
theorem x_sipush {c : Int} (hC : Cok g b ow cc nL dep ret) (hd : decode cc pc = .ok (.sipush c, 3)) (hn : pc + 3 = n) (hv : (Int16.ofInt c).toInt32 = Int32.ofInt c) (kk : X g b q nL Z n lv (iV c :: st) m kc ks) : X g b q nL Z pc lv (st) m kc ks := by
  subst hn
  intro H locs cells slots ls hH hS hc hs hl
  have k := kk H locs cells slots ls hH hS hc hs hl
  exact lv_sipush hC.1 hC.2.1 hd hv k
theorem x_lconst {c : Fin 2} {x : Int} (hC : Cok g b ow cc nL dep ret) (hd : decode cc pc = .ok (.lconst c, 1)) (hn : pc + 1 = n) (hv : Int64.ofNat (c : Nat) = Int64.ofInt x) (kk : X g b q nL Z n lv (lV x :: st) m kc ks) : X g b q nL Z pc lv (st) m kc ks := by
  subst hn
  intro H locs cells slots ls hH hS hc hs hl
  have k := kk H locs cells slots ls hH hS hc hs hl
  exact lv_lconst hC.1 hC.2.1 hd hv k
theorem x_ldc {idx : Nat} {x : Int} (hC : Cok g b ow cc nL dep ret) (hd : decode cc pc = .ok (.ldc idx, 2)) (hn : pc + 2 = n) (hw : Cond.constant ow idx (Int32.ofInt x) ∈ gtb) (kk : X g b q nL Z n lv (iV x :: st) m kc ks) : X g b q nL Z pc lv (st) m kc ks := by
  subst hn
  intro H locs cells slots ls hH hS hc hs hl
  have k := kk H locs cells slots ls hH hS hc hs hl
  exact lv_ldc hC.1 hC.2.1 hC.2.2.2.1 (hC.2.2.2.2.1 _ hw) hd k
theorem x_ldc_w {idx : Nat} {x : Int} (hC : Cok g b ow cc nL dep ret) (hd : decode cc pc = .ok (.ldc_w idx, 3)) (hn : pc + 3 = n) (hw : Cond.constant ow idx (Int32.ofInt x) ∈ gtb) (kk : X g b q nL Z n lv (iV x :: st) m kc ks) : X g b q nL Z pc lv (st) m kc ks := by
  subst hn
  intro H locs cells slots ls hH hS hc hs hl
  have k := kk H locs cells slots ls hH hS hc hs hl
  exact lv_ldcw hC.1 hC.2.1 hC.2.2.2.1 (hC.2.2.2.2.1 _ hw) hd k
theorem x_ldc2 {idx : Nat} {x : Int} (hC : Cok g b ow cc nL dep ret) (hd : decode cc pc = .ok (.ldc2_w idx, 3)) (hn : pc + 3 = n) (hw : Cond.constantLong ow idx (Int64.ofInt x) ∈ gtb) (kk : X g b q nL Z n lv (lV x :: st) m kc ks) : X g b q nL Z pc lv (st) m kc ks := by
  subst hn
  intro H locs cells slots ls hH hS hc hs hl
  have k := kk H locs cells slots ls hH hS hc hs hl
  exact lv_ldc2 hC.1 hC.2.1 hC.2.2.2.1 (hC.2.2.2.2.1 _ hw) hd k
theorem x_dup {v : Value} (hC : Cok g b ow cc nL dep ret) (hd : decode cc pc = .ok (.dup, 1)) (hn : pc + 1 = n) (hv : v.category = 1) (kk : X g b q nL Z n lv (v :: v :: st) m kc ks) : X g b q nL Z pc lv (v :: st) m kc ks := by
  subst hn
  intro H locs cells slots ls hH hS hc hs hl
  have k := kk H locs cells slots ls hH hS hc hs hl
  exact lv_dup hC.1 hC.2.1 hd hv k
theorem x_pop {v : Value} (hC : Cok g b ow cc nL dep ret) (hd : decode cc pc = .ok (.pop, 1)) (hn : pc + 1 = n) (hv : v.category = 1) (kk : X g b q nL Z n lv (st) m kc ks) : X g b q nL Z pc lv (v :: st) m kc ks := by
  subst hn
  intro H locs cells slots ls hH hS hc hs hl
  have k := kk H locs cells slots ls hH hS hc hs hl
  exact lv_pop hC.1 hC.2.1 hd hv k
theorem x_dup2 {v w : Value} (hC : Cok g b ow cc nL dep ret) (hd : decode cc pc = .ok (.dup2, 1)) (hn : pc + 1 = n) (hv : v.category = 1) (hw : w.category = 1) (kk : X g b q nL Z n lv (v :: w :: v :: w :: st) m kc ks) : X g b q nL Z pc lv (v :: w :: st) m kc ks := by
  subst hn
  intro H locs cells slots ls hH hS hc hs hl
  have k := kk H locs cells slots ls hH hS hc hs hl
  exact lv_dup2_11 hC.1 hC.2.1 hd hv hw k
theorem x_iadd {x y : Int} (hC : Cok g b ow cc nL dep ret) (hd : decode cc pc = .ok (.iadd, 1)) (hn : pc + 1 = n) (kk : X g b q nL Z n lv (iV (wr (x + y)) :: st) m kc ks) : X g b q nL Z pc lv (iV y :: iV x :: st) m kc ks := by
  subst hn
  intro H locs cells slots ls hH hS hc hs hl
  have k := kk H locs cells slots ls hH hS hc hs hl
  unfold iV at k ⊢
  rw [← o_add] at k
  exact lv_iadd hC.1 hC.2.1 hd k
theorem x_isub {x y : Int} (hC : Cok g b ow cc nL dep ret) (hd : decode cc pc = .ok (.isub, 1)) (hn : pc + 1 = n) (kk : X g b q nL Z n lv (iV (wr (x - y)) :: st) m kc ks) : X g b q nL Z pc lv (iV y :: iV x :: st) m kc ks := by
  subst hn
  intro H locs cells slots ls hH hS hc hs hl
  have k := kk H locs cells slots ls hH hS hc hs hl
  unfold iV at k ⊢
  rw [← o_sub] at k
  exact lv_isub hC.1 hC.2.1 hd k
theorem x_imul {x y : Int} (hC : Cok g b ow cc nL dep ret) (hd : decode cc pc = .ok (.imul, 1)) (hn : pc + 1 = n) (kk : X g b q nL Z n lv (iV (wr (x * y)) :: st) m kc ks) : X g b q nL Z pc lv (iV y :: iV x :: st) m kc ks := by
  subst hn
  intro H locs cells slots ls hH hS hc hs hl
  have k := kk H locs cells slots ls hH hS hc hs hl
  unfold iV at k ⊢
  rw [← o_mul] at k
  exact lv_imul hC.1 hC.2.1 hd k
theorem x_ineg {x : Int} (hC : Cok g b ow cc nL dep ret) (hd : decode cc pc = .ok (.ineg, 1)) (hn : pc + 1 = n) (kk : X g b q nL Z n lv (iV (wr (-x)) :: st) m kc ks) : X g b q nL Z pc lv (iV x :: st) m kc ks := by
  subst hn
  intro H locs cells slots ls hH hS hc hs hl
  have k := kk H locs cells slots ls hH hS hc hs hl
  unfold iV at k ⊢
  rw [← o_neg] at k
  exact lv_ineg hC.1 hC.2.1 hd k
theorem x_iand {x y : Int} (hC : Cok g b ow cc nL dep ret) (hd : decode cc pc = .ok (.iand, 1)) (hn : pc + 1 = n) (kk : X g b q nL Z n lv (iV (iand x y) :: st) m kc ks) : X g b q nL Z pc lv (iV y :: iV x :: st) m kc ks := by
  subst hn
  intro H locs cells slots ls hH hS hc hs hl
  have k := kk H locs cells slots ls hH hS hc hs hl
  unfold iV iand at k
  unfold iV
  rw [of_tI] at k
  exact lv_iand hC.1 hC.2.1 hd k
theorem x_ior {x y : Int} (hC : Cok g b ow cc nL dep ret) (hd : decode cc pc = .ok (.ior, 1)) (hn : pc + 1 = n) (kk : X g b q nL Z n lv (iV (ior x y) :: st) m kc ks) : X g b q nL Z pc lv (iV y :: iV x :: st) m kc ks := by
  subst hn
  intro H locs cells slots ls hH hS hc hs hl
  have k := kk H locs cells slots ls hH hS hc hs hl
  unfold iV ior at k
  unfold iV
  rw [of_tI] at k
  exact lv_ior hC.1 hC.2.1 hd k
theorem x_ixor {x y : Int} (hC : Cok g b ow cc nL dep ret) (hd : decode cc pc = .ok (.ixor, 1)) (hn : pc + 1 = n) (kk : X g b q nL Z n lv (iV (ixor x y) :: st) m kc ks) : X g b q nL Z pc lv (iV y :: iV x :: st) m kc ks := by
  subst hn
  intro H locs cells slots ls hH hS hc hs hl
  have k := kk H locs cells slots ls hH hS hc hs hl
  unfold iV ixor at k
  unfold iV
  rw [of_tI] at k
  exact lv_ixor hC.1 hC.2.1 hd k
theorem x_ishl {x y : Int} (hC : Cok g b ow cc nL dep ret) (hd : decode cc pc = .ok (.ishl, 1)) (hn : pc + 1 = n) (kk : X g b q nL Z n lv (iV (ishl x y) :: st) m kc ks) : X g b q nL Z pc lv (iV y :: iV x :: st) m kc ks := by
  subst hn
  intro H locs cells slots ls hH hS hc hs hl
  have k := kk H locs cells slots ls hH hS hc hs hl
  unfold iV ishl at k
  unfold iV
  rw [of_tI] at k
  exact lv_ishl hC.1 hC.2.1 hd k
theorem x_ishr {x y : Int} (hC : Cok g b ow cc nL dep ret) (hd : decode cc pc = .ok (.ishr, 1)) (hn : pc + 1 = n) (kk : X g b q nL Z n lv (iV (ishr x y) :: st) m kc ks) : X g b q nL Z pc lv (iV y :: iV x :: st) m kc ks := by
  subst hn
  intro H locs cells slots ls hH hS hc hs hl
  have k := kk H locs cells slots ls hH hS hc hs hl
  unfold iV ishr at k
  unfold iV
  rw [of_tI] at k
  exact lv_ishr hC.1 hC.2.1 hd k
theorem x_iushr {x y : Int} (hC : Cok g b ow cc nL dep ret) (hd : decode cc pc = .ok (.iushr, 1)) (hn : pc + 1 = n) (kk : X g b q nL Z n lv (iV (iushr x y) :: st) m kc ks) : X g b q nL Z pc lv (iV y :: iV x :: st) m kc ks := by
  subst hn
  intro H locs cells slots ls hH hS hc hs hl
  have k := kk H locs cells slots ls hH hS hc hs hl
  unfold iV iushr at k
  unfold iV
  exact lv_iushr hC.1 hC.2.1 hd (of_tI _).symm k
theorem x_i2b {x : Int} (hC : Cok g b ow cc nL dep ret) (hd : decode cc pc = .ok (.i2b, 1)) (hn : pc + 1 = n) (kk : X g b q nL Z n lv (iV (i2b x) :: st) m kc ks) : X g b q nL Z pc lv (iV x :: st) m kc ks := by
  subst hn
  intro H locs cells slots ls hH hS hc hs hl
  have k := kk H locs cells slots ls hH hS hc hs hl
  unfold iV i2b at k
  unfold iV
  exact lv_i2b hC.1 hC.2.1 hd (of_tI _).symm k
theorem x_i2c {x : Int} (hC : Cok g b ow cc nL dep ret) (hd : decode cc pc = .ok (.i2c, 1)) (hn : pc + 1 = n) (kk : X g b q nL Z n lv (iV (i2c x) :: st) m kc ks) : X g b q nL Z pc lv (iV x :: st) m kc ks := by
  subst hn
  intro H locs cells slots ls hH hS hc hs hl
  have k := kk H locs cells slots ls hH hS hc hs hl
  unfold iV i2c at k
  unfold iV
  exact lv_i2c hC.1 hC.2.1 hd (of_tI _).symm k
theorem x_i2l {x : Int} (hC : Cok g b ow cc nL dep ret) (hd : decode cc pc = .ok (.i2l, 1)) (hn : pc + 1 = n) (hx : inR x) (kk : X g b q nL Z n lv (lV x :: st) m kc ks) : X g b q nL Z pc lv (iV x :: st) m kc ks := by
  subst hn
  intro H locs cells slots ls hH hS hc hs hl
  have k := kk H locs cells slots ls hH hS hc hs hl
  exact lv_i2l hC.1 hC.2.1 hd (o_i2l hx) k
theorem x_ladd {x y : Int} (hC : Cok g b ow cc nL dep ret) (hd : decode cc pc = .ok (.ladd, 1)) (hn : pc + 1 = n) (kk : X g b q nL Z n lv (lV (wl (x + y)) :: st) m kc ks) : X g b q nL Z pc lv (lV y :: lV x :: st) m kc ks := by
  subst hn
  intro H locs cells slots ls hH hS hc hs hl
  have k := kk H locs cells slots ls hH hS hc hs hl
  unfold lV at k ⊢
  rw [← o_addL] at k
  exact lv_ladd hC.1 hC.2.1 hd k
theorem x_lmul {x y : Int} (hC : Cok g b ow cc nL dep ret) (hd : decode cc pc = .ok (.lmul, 1)) (hn : pc + 1 = n) (kk : X g b q nL Z n lv (lV (wl (x * y)) :: st) m kc ks) : X g b q nL Z pc lv (lV y :: lV x :: st) m kc ks := by
  subst hn
  intro H locs cells slots ls hH hS hc hs hl
  have k := kk H locs cells slots ls hH hS hc hs hl
  unfold lV at k ⊢
  rw [← o_mulL] at k
  exact lv_lmul hC.1 hC.2.1 hd k
theorem x_lor {x y : Int} (hC : Cok g b ow cc nL dep ret) (hd : decode cc pc = .ok (.lor, 1)) (hn : pc + 1 = n) (kk : X g b q nL Z n lv (lV (lor x y) :: st) m kc ks) : X g b q nL Z pc lv (lV y :: lV x :: st) m kc ks := by
  subst hn
  intro H locs cells slots ls hH hS hc hs hl
  have k := kk H locs cells slots ls hH hS hc hs hl
  unfold lV lor at k
  unfold lV
  rw [of_tL] at k
  exact lv_lor hC.1 hC.2.1 hd k
theorem x_lshl {x y : Int} (hC : Cok g b ow cc nL dep ret) (hd : decode cc pc = .ok (.lshl, 1)) (hn : pc + 1 = n) (kk : X g b q nL Z n lv (lV (lshl x y) :: st) m kc ks) : X g b q nL Z pc lv (iV y :: lV x :: st) m kc ks := by
  subst hn
  intro H locs cells slots ls hH hS hc hs hl
  have k := kk H locs cells slots ls hH hS hc hs hl
  unfold lV lshl at k
  unfold lV
  exact lv_lshl hC.1 hC.2.1 hd (of_tL _).symm k
theorem x_lcmp {x y : Int} (hC : Cok g b ow cc nL dep ret) (hd : decode cc pc = .ok (.lcmp, 1)) (hn : pc + 1 = n) (hx : inL x) (hy : inL y) (kk : X g b q nL Z n lv (iV (lcmp x y) :: st) m kc ks) : X g b q nL Z pc lv (lV y :: lV x :: st) m kc ks := by
  subst hn
  intro H locs cells slots ls hH hS hc hs hl
  have k := kk H locs cells slots ls hH hS hc hs hl
  unfold iV at k
  unfold lV
  rw [← c_lcmp hx hy] at k
  exact W.lcmp hC.1 hC.2.1 hd k
theorem x_idiv {x y : Int} {K : Rs} (hC : Cok g b ow cc nL dep ret) (hd : decode cc pc = .ok (.idiv, 1)) (hn : pc + 1 = n) (hx : inR x) (hy : inR y) (hF : okR (dvn y K) Q) (kk : ¬ y = 0 → okR K Q → X g b q nL Z n lv (iV (wr (x.tdiv y)) :: st) m kc ks) : X g b q nL Z pc lv (iV y :: iV x :: st) m kc ks := by
  subst hn
  intro H locs cells slots ls hH hS hc hs hl
  have h0 := okR_ite hF
  by_cases hz : y = 0
  · exact absurd (h0.1 hz) (fun z => z)
  have k := kk hz (h0.2 hz) H locs cells slots ls hH hS hc hs hl
  unfold iV at k ⊢
  rw [← o_div hx hy] at k
  exact lv_idiv hC.1 hC.2.1 hd (o_ne0 hy hz) k
theorem x_irem {x y : Int} {K : Rs} (hC : Cok g b ow cc nL dep ret) (hd : decode cc pc = .ok (.irem, 1)) (hn : pc + 1 = n) (hx : inR x) (hy : inR y) (hF : okR (dvn y K) Q) (kk : ¬ y = 0 → okR K Q → X g b q nL Z n lv (iV (wr (x.tmod y)) :: st) m kc ks) : X g b q nL Z pc lv (iV y :: iV x :: st) m kc ks := by
  subst hn
  intro H locs cells slots ls hH hS hc hs hl
  have h0 := okR_ite hF
  by_cases hz : y = 0
  · exact absurd (h0.1 hz) (fun z => z)
  have k := kk hz (h0.2 hz) H locs cells slots ls hH hS hc hs hl
  unfold iV at k ⊢
  rw [← o_rem hx hy] at k
  exact lv_irem hC.1 hC.2.1 hd (o_ne0 hy hz) k
theorem x_if_eq {x : Int} {off : Int} {tgt : Nat} {A B : Rs} (hC : Cok g b ow cc nL dep ret) (hd : decode cc pc = .ok (.ifCond .eq off, 3)) (hn : pc + 3 = n) (ht : (pc : Int) + off = (tgt : Int)) (hx : inR x) (hF : okR (if x = 0 then A else B) Q) (kt : x = 0 → okR A Q → X g b q nL Z tgt lv st m kc ks) (kf : ¬ (x = 0) → okR B Q → X g b q nL Z n lv st m kc ks) : X g b q nL Z pc lv (iV x :: st) m kc ks := by
  subst hn
  intro H locs cells slots ls hH hS hc hs hl
  have h0 := okR_ite hF
  have e := (o_eq hx (show inR 0 from ⟨by decide, by decide⟩))
  exact lv_if_eq hC.1 hC.2.1 hd ht (fun z => kt (e.mp z) (h0.1 (e.mp z)) H locs cells slots ls hH hS hc hs hl) (fun z => kf (fun w => z (e.mpr w)) (h0.2 (fun w => z (e.mpr w))) H locs cells slots ls hH hS hc hs hl)
theorem x_icmp_eq {x y : Int} {off : Int} {tgt : Nat} {A B : Rs} (hC : Cok g b ow cc nL dep ret) (hd : decode cc pc = .ok (.if_icmp .eq off, 3)) (hn : pc + 3 = n) (ht : (pc : Int) + off = (tgt : Int)) (hx : inR x) (hy : inR y) (hF : okR (if x = y then A else B) Q) (kt : x = y → okR A Q → X g b q nL Z tgt lv st m kc ks) (kf : ¬ (x = y) → okR B Q → X g b q nL Z n lv st m kc ks) : X g b q nL Z pc lv (iV y :: iV x :: st) m kc ks := by
  subst hn
  intro H locs cells slots ls hH hS hc hs hl
  have h0 := okR_ite hF
  have e := (o_eq hx hy)
  exact lv_icmp_eq hC.1 hC.2.1 hd ht (fun z => kt (e.mp z) (h0.1 (e.mp z)) H locs cells slots ls hH hS hc hs hl) (fun z => kf (fun w => z (e.mpr w)) (h0.2 (fun w => z (e.mpr w))) H locs cells slots ls hH hS hc hs hl)
theorem x_if_ne {x : Int} {off : Int} {tgt : Nat} {A B : Rs} (hC : Cok g b ow cc nL dep ret) (hd : decode cc pc = .ok (.ifCond .ne off, 3)) (hn : pc + 3 = n) (ht : (pc : Int) + off = (tgt : Int)) (hx : inR x) (hF : okR (if ¬ x = 0 then A else B) Q) (kt : ¬ x = 0 → okR A Q → X g b q nL Z tgt lv st m kc ks) (kf : ¬ (¬ x = 0) → okR B Q → X g b q nL Z n lv st m kc ks) : X g b q nL Z pc lv (iV x :: st) m kc ks := by
  subst hn
  intro H locs cells slots ls hH hS hc hs hl
  have h0 := okR_ite hF
  have e := (not_congr (o_eq hx (show inR 0 from ⟨by decide, by decide⟩)))
  have e0 := (o_eq hx (show inR 0 from ⟨by decide, by decide⟩))
  exact lv_if_ne hC.1 hC.2.1 hd ht (fun z => kt (e.mp z) (h0.1 (e.mp z)) H locs cells slots ls hH hS hc hs hl) (fun z => kf (fun w => w (e0.mp z)) (h0.2 (fun w => w (e0.mp z))) H locs cells slots ls hH hS hc hs hl)
theorem x_icmp_ne {x y : Int} {off : Int} {tgt : Nat} {A B : Rs} (hC : Cok g b ow cc nL dep ret) (hd : decode cc pc = .ok (.if_icmp .ne off, 3)) (hn : pc + 3 = n) (ht : (pc : Int) + off = (tgt : Int)) (hx : inR x) (hy : inR y) (hF : okR (if ¬ x = y then A else B) Q) (kt : ¬ x = y → okR A Q → X g b q nL Z tgt lv st m kc ks) (kf : ¬ (¬ x = y) → okR B Q → X g b q nL Z n lv st m kc ks) : X g b q nL Z pc lv (iV y :: iV x :: st) m kc ks := by
  subst hn
  intro H locs cells slots ls hH hS hc hs hl
  have h0 := okR_ite hF
  have e := (not_congr (o_eq hx hy))
  have e0 := (o_eq hx hy)
  exact lv_icmp_ne hC.1 hC.2.1 hd ht (fun z => kt (e.mp z) (h0.1 (e.mp z)) H locs cells slots ls hH hS hc hs hl) (fun z => kf (fun w => w (e0.mp z)) (h0.2 (fun w => w (e0.mp z))) H locs cells slots ls hH hS hc hs hl)
theorem x_if_lt {x : Int} {off : Int} {tgt : Nat} {A B : Rs} (hC : Cok g b ow cc nL dep ret) (hd : decode cc pc = .ok (.ifCond .lt off, 3)) (hn : pc + 3 = n) (ht : (pc : Int) + off = (tgt : Int)) (hx : inR x) (hF : okR (if x < 0 then A else B) Q) (kt : x < 0 → okR A Q → X g b q nL Z tgt lv st m kc ks) (kf : ¬ (x < 0) → okR B Q → X g b q nL Z n lv st m kc ks) : X g b q nL Z pc lv (iV x :: st) m kc ks := by
  subst hn
  intro H locs cells slots ls hH hS hc hs hl
  have h0 := okR_ite hF
  have e := (o_lt hx (show inR 0 from ⟨by decide, by decide⟩))
  exact lv_if_lt hC.1 hC.2.1 hd ht (fun z => kt (e.mp z) (h0.1 (e.mp z)) H locs cells slots ls hH hS hc hs hl) (fun z => kf (fun w => z (e.mpr w)) (h0.2 (fun w => z (e.mpr w))) H locs cells slots ls hH hS hc hs hl)
theorem x_icmp_lt {x y : Int} {off : Int} {tgt : Nat} {A B : Rs} (hC : Cok g b ow cc nL dep ret) (hd : decode cc pc = .ok (.if_icmp .lt off, 3)) (hn : pc + 3 = n) (ht : (pc : Int) + off = (tgt : Int)) (hx : inR x) (hy : inR y) (hF : okR (if x < y then A else B) Q) (kt : x < y → okR A Q → X g b q nL Z tgt lv st m kc ks) (kf : ¬ (x < y) → okR B Q → X g b q nL Z n lv st m kc ks) : X g b q nL Z pc lv (iV y :: iV x :: st) m kc ks := by
  subst hn
  intro H locs cells slots ls hH hS hc hs hl
  have h0 := okR_ite hF
  have e := (o_lt hx hy)
  exact lv_icmp_lt hC.1 hC.2.1 hd ht (fun z => kt (e.mp z) (h0.1 (e.mp z)) H locs cells slots ls hH hS hc hs hl) (fun z => kf (fun w => z (e.mpr w)) (h0.2 (fun w => z (e.mpr w))) H locs cells slots ls hH hS hc hs hl)
theorem x_if_ge {x : Int} {off : Int} {tgt : Nat} {A B : Rs} (hC : Cok g b ow cc nL dep ret) (hd : decode cc pc = .ok (.ifCond .ge off, 3)) (hn : pc + 3 = n) (ht : (pc : Int) + off = (tgt : Int)) (hx : inR x) (hF : okR (if 0 ≤ x then A else B) Q) (kt : 0 ≤ x → okR A Q → X g b q nL Z tgt lv st m kc ks) (kf : ¬ (0 ≤ x) → okR B Q → X g b q nL Z n lv st m kc ks) : X g b q nL Z pc lv (iV x :: st) m kc ks := by
  subst hn
  intro H locs cells slots ls hH hS hc hs hl
  have h0 := okR_ite hF
  have e := (o_le (show inR 0 from ⟨by decide, by decide⟩) hx)
  exact lv_if_ge hC.1 hC.2.1 hd ht (fun z => kt (e.mp z) (h0.1 (e.mp z)) H locs cells slots ls hH hS hc hs hl) (fun z => kf (fun w => z (e.mpr w)) (h0.2 (fun w => z (e.mpr w))) H locs cells slots ls hH hS hc hs hl)
theorem x_icmp_ge {x y : Int} {off : Int} {tgt : Nat} {A B : Rs} (hC : Cok g b ow cc nL dep ret) (hd : decode cc pc = .ok (.if_icmp .ge off, 3)) (hn : pc + 3 = n) (ht : (pc : Int) + off = (tgt : Int)) (hx : inR x) (hy : inR y) (hF : okR (if y ≤ x then A else B) Q) (kt : y ≤ x → okR A Q → X g b q nL Z tgt lv st m kc ks) (kf : ¬ (y ≤ x) → okR B Q → X g b q nL Z n lv st m kc ks) : X g b q nL Z pc lv (iV y :: iV x :: st) m kc ks := by
  subst hn
  intro H locs cells slots ls hH hS hc hs hl
  have h0 := okR_ite hF
  have e := (o_le hy hx)
  exact lv_icmp_ge hC.1 hC.2.1 hd ht (fun z => kt (e.mp z) (h0.1 (e.mp z)) H locs cells slots ls hH hS hc hs hl) (fun z => kf (fun w => z (e.mpr w)) (h0.2 (fun w => z (e.mpr w))) H locs cells slots ls hH hS hc hs hl)
theorem x_if_gt {x : Int} {off : Int} {tgt : Nat} {A B : Rs} (hC : Cok g b ow cc nL dep ret) (hd : decode cc pc = .ok (.ifCond .gt off, 3)) (hn : pc + 3 = n) (ht : (pc : Int) + off = (tgt : Int)) (hx : inR x) (hF : okR (if 0 < x then A else B) Q) (kt : 0 < x → okR A Q → X g b q nL Z tgt lv st m kc ks) (kf : ¬ (0 < x) → okR B Q → X g b q nL Z n lv st m kc ks) : X g b q nL Z pc lv (iV x :: st) m kc ks := by
  subst hn
  intro H locs cells slots ls hH hS hc hs hl
  have h0 := okR_ite hF
  have e := (o_lt (show inR 0 from ⟨by decide, by decide⟩) hx)
  exact lv_if_gt hC.1 hC.2.1 hd ht (fun z => kt (e.mp z) (h0.1 (e.mp z)) H locs cells slots ls hH hS hc hs hl) (fun z => kf (fun w => z (e.mpr w)) (h0.2 (fun w => z (e.mpr w))) H locs cells slots ls hH hS hc hs hl)
theorem x_icmp_gt {x y : Int} {off : Int} {tgt : Nat} {A B : Rs} (hC : Cok g b ow cc nL dep ret) (hd : decode cc pc = .ok (.if_icmp .gt off, 3)) (hn : pc + 3 = n) (ht : (pc : Int) + off = (tgt : Int)) (hx : inR x) (hy : inR y) (hF : okR (if y < x then A else B) Q) (kt : y < x → okR A Q → X g b q nL Z tgt lv st m kc ks) (kf : ¬ (y < x) → okR B Q → X g b q nL Z n lv st m kc ks) : X g b q nL Z pc lv (iV y :: iV x :: st) m kc ks := by
  subst hn
  intro H locs cells slots ls hH hS hc hs hl
  have h0 := okR_ite hF
  have e := (o_lt hy hx)
  exact lv_icmp_gt hC.1 hC.2.1 hd ht (fun z => kt (e.mp z) (h0.1 (e.mp z)) H locs cells slots ls hH hS hc hs hl) (fun z => kf (fun w => z (e.mpr w)) (h0.2 (fun w => z (e.mpr w))) H locs cells slots ls hH hS hc hs hl)
theorem x_if_le {x : Int} {off : Int} {tgt : Nat} {A B : Rs} (hC : Cok g b ow cc nL dep ret) (hd : decode cc pc = .ok (.ifCond .le off, 3)) (hn : pc + 3 = n) (ht : (pc : Int) + off = (tgt : Int)) (hx : inR x) (hF : okR (if x ≤ 0 then A else B) Q) (kt : x ≤ 0 → okR A Q → X g b q nL Z tgt lv st m kc ks) (kf : ¬ (x ≤ 0) → okR B Q → X g b q nL Z n lv st m kc ks) : X g b q nL Z pc lv (iV x :: st) m kc ks := by
  subst hn
  intro H locs cells slots ls hH hS hc hs hl
  have h0 := okR_ite hF
  have e := (o_le hx (show inR 0 from ⟨by decide, by decide⟩))
  exact lv_if_le hC.1 hC.2.1 hd ht (fun z => kt (e.mp z) (h0.1 (e.mp z)) H locs cells slots ls hH hS hc hs hl) (fun z => kf (fun w => z (e.mpr w)) (h0.2 (fun w => z (e.mpr w))) H locs cells slots ls hH hS hc hs hl)
theorem x_icmp_le {x y : Int} {off : Int} {tgt : Nat} {A B : Rs} (hC : Cok g b ow cc nL dep ret) (hd : decode cc pc = .ok (.if_icmp .le off, 3)) (hn : pc + 3 = n) (ht : (pc : Int) + off = (tgt : Int)) (hx : inR x) (hy : inR y) (hF : okR (if x ≤ y then A else B) Q) (kt : x ≤ y → okR A Q → X g b q nL Z tgt lv st m kc ks) (kf : ¬ (x ≤ y) → okR B Q → X g b q nL Z n lv st m kc ks) : X g b q nL Z pc lv (iV y :: iV x :: st) m kc ks := by
  subst hn
  intro H locs cells slots ls hH hS hc hs hl
  have h0 := okR_ite hF
  have e := (o_le hx hy)
  exact lv_icmp_le hC.1 hC.2.1 hd ht (fun z => kt (e.mp z) (h0.1 (e.mp z)) H locs cells slots ls hH hS hc hs hl) (fun z => kf (fun w => z (e.mpr w)) (h0.2 (fun w => z (e.mpr w))) H locs cells slots ls hH hS hc hs hl)
end XR
end
section
/-! fields, arrays, calls, ends over X -/
section ZP
variable {p : Program} {l : Launch} {e : Env} {R : Room} {s : State} {m : MethodId} {args : Array Value} {below : List Frame} {meth : Method} {c : Code} {H : Heap} {locs : List Loc} {cells slots : Nat} {Q : State → Prop}
variable {cc : ByteArray} {pc : Nat} {ls : Array Slot} {rest : List Value} {A : Nat → Prop} {H0 : Heap} {D : va_G} {cl : List vw_C} {ws : va_W} {tys : List (ClassId × FieldType)} {a : Nat}
theorem zp_put (hexec : p.tables.exec = Jvm.exec) (hb : c.code = cc) {own ref C : String} {T : u_T} {N ci index : Nat} {Ts : List Cond} (hts : ∀ w ∈ Ts, w.before args s = true) (hin : ∀ w ∈ u_ws C T N, w ∈ Ts) (ty0 : Nat → FieldType) (hty : ∀ k, k < N → parseFieldDescriptor (T k).2.2.1 = some (ty0 k)) (hnm : ∀ a, a < N → ∀ b, b < N → a ≠ b → (T a).2.1 ≠ (T b).2.1) (hown : s.vm.findClass own = some m.cls) (hK : va_K D cl tys s) (hP : va_P D cl ws H) (hD : va_D A ws) (hS0 : va_S A H0 H locs) (q0 : Nat) {fs : List Value} (he : ws[q0]? = some (a, .inr (ci, fs))) (hc : cl[ci]? = some (C, T, N)) (k : Nat) (hk : k < N) (hlink : (Cond.fieldLink own index ref (T k).2.1 (T k).2.2.1).before args s = true) (hsame : ∀ x, s.fieldFound? (T k).1 (T k).2.1 (T k).2.2.1 = some x → s.fieldFound? ref (T k).2.1 (T k).2.2.1 = some x) (hfin : (T k).2.2.2 = false) {ty : FieldType} {v : Value} (hd : parseFieldDescriptor (T k).2.2.1 = some ty) (hn : narrow ty v = v) (hfit : fits ty v = true) (hl : k < fs.length)
    (hdg : decode cc pc = .ok (.putfield index, 3)) (kk : ∀ (H1 : Heap) (locs1 : List Loc), va_P D cl (ws.set q0 (a, .inr (ci, fs.set k v))) H1 → H1.size = H.size → va_S A H0 H1 locs1 → W p l e R s m args below meth c H1 locs1 cells slots Q (F0 m (pc + 3) ls rest)) : W p l e R s m args below meth c H locs cells slots Q (F0 m pc ls (v :: .ref a :: rest)) := by
  have hap := va_apart (own := own) hts hin ty0 hty hnm hK hc
  obtain ⟨r, h1, cell, q1, q2, q3, q4⟩ := hP q0 _ he
  have hr : r = (C, T, N) := Option.some.inj (h1.symm.trans hc)
  subst hr
  obtain ⟨hS, hfc, kC, hkC, hkind⟩ := hK.1 ci _ hc
  obtain ⟨cf, kf, fi, f, hi, hsl⟩ := hS k hk
  have hlay := hts _ (hin _ (u_in_lay hk))
  unfold u_lay at hlay
  rw [if_neg (by rw [hfin]; decide)] at hlay
  have hst := (u_facts hfc hkC (u_lays hts hin hk) hi).1
  have h6 := u_store hfc hkC hkind hlay hi hd hn hfit
  refine W.putK hexec hb (f := f) ⟨hown, hlink, ⟨_, _, _, hsame _ hi⟩, hst⟩ (by rw [q2]; exact h6) q1 q3 (by rw [hsl]; exact k2_hasslot (q4 k hk)) rfl rfl hdg fun H' e1 e2 e3 => ?_
  rw [hsl] at e1 ⊢
  exact kk H' _ (hP.set hD he ⟨_, hc, t_OB.to (V := updV (vp_V fs) k v) ⟨_, e1, q2, q3, t_set q4 hap hk v⟩ (fun j _ => vp_updV_set hl v j)⟩ e3) e2 (hS0.put e2 e3 (hD.2 q0 _ he))
theorem zp_iast (hexec : p.tables.exec = Jvm.exec) (hb : c.code = cc) (hK : va_K D cl tys s) (hP : va_P D cl ws H) (hD : va_D A ws) (hS : va_S A H0 H locs) (q0 t0 : Nat) {cA : ClassId} {n : Nat} {f : Nat → Int32} (ha : ws[q0]? = some (a, .inl (cA, n, .inl f))) (ht : tys[t0]? = some (cA, .int)) {i : Int32} {x : Int32} (hin : vp_in i n) (hdg : decode cc pc = .ok (.iastore, 1))
    (kk : ∀ (H1 : Heap) (locs1 : List Loc), va_P D cl (ws.set q0 (a, .inl (cA, n, .inl (upd f i.toNatClampNeg x)))) H1 → H1.size = H.size → va_S A H0 H1 locs1 → W p l e R s m args below meth c H1 locs1 cells slots Q (F0 m (pc + 1) ls rest)) : W p l e R s m args below meth c H locs cells slots Q (F0 m pc ls (.int x :: .int i :: .ref a :: rest)) := by
  refine W.iast hexec hb (hP q0 _ ha) ((hK.2 t0 _ ht).1 n (fun j => .int (f j))) (fun q => by cases q) (by show ¬ (i < 0 ∨ (arrV _ _ _).slots.size ≤ _); rw [arrV_size]; exact hin) rfl rfl hdg fun H1 e z oq => ?_
  refine kk H1 _ (hP.set hD ha ?_ oq) z (hS.put z oq (hD.2 q0 _ ha))
  show H1[a]? = some (vp_cell _ _)
  rw [e]
  rw [vp_cell_i, vp_cell_i, arrV_store]
  congr 2
  funext q
  by_cases hq : q = i.toNatClampNeg
  · subst hq
    simp [updV, upd]
  · simp [updV, upd, hq]
theorem zp_bast (hexec : p.tables.exec = Jvm.exec) (hb : c.code = cc) (hK : va_K D cl tys s) (hP : va_P D cl ws H) (hD : va_D A ws) (hS : va_S A H0 H locs) (q0 t0 : Nat) {cA : ClassId} {n : Nat} {f : Nat → Int32} (ha : ws[q0]? = some (a, .inl (cA, n, .inl f))) (ht : tys[t0]? = some (cA, .byte)) {i : Int32} {x : Int32} (hin : vp_in i n) (hdg : decode cc pc = .ok (.bastore, 1))
    (kk : ∀ (H1 : Heap) (locs1 : List Loc), va_P D cl (ws.set q0 (a, .inl (cA, n, .inl (upd f i.toNatClampNeg (vp_nar .byte x))))) H1 → H1.size = H.size → va_S A H0 H1 locs1 → W p l e R s m args below meth c H1 locs1 cells slots Q (F0 m (pc + 1) ls rest)) : W p l e R s m args below meth c H locs cells slots Q (F0 m pc ls (.int x :: .int i :: .ref a :: rest)) := by
  refine W.bast hexec hb (hP q0 _ ha) ((hK.2 t0 _ ht).1 n (fun j => .int (f j))) (fun q => by cases q) (by show ¬ (i < 0 ∨ (arrV _ _ _).slots.size ≤ _); rw [arrV_size]; exact hin) rfl rfl hdg fun H1 e z oq => ?_
  refine kk H1 _ (hP.set hD ha ?_ oq) z (hS.put z oq (hD.2 q0 _ ha))
  show H1[a]? = some (vp_cell _ _)
  rw [e]
  rw [vp_cell_i, vp_cell_i, arrV_store]
  congr 2
  funext q
  by_cases hq : q = i.toNatClampNeg
  · subst hq
    simp [updV, upd, vp_nar, narrow]
  · simp [updV, upd, hq]
theorem zp_zast (hexec : p.tables.exec = Jvm.exec) (hb : c.code = cc) (hK : va_K D cl tys s) (hP : va_P D cl ws H) (hD : va_D A ws) (hS : va_S A H0 H locs) (q0 t0 : Nat) {cA : ClassId} {n : Nat} {f : Nat → Int32} (ha : ws[q0]? = some (a, .inl (cA, n, .inl f))) (ht : tys[t0]? = some (cA, .boolean)) {i : Int32} {x : Int32} (hin : vp_in i n) (hdg : decode cc pc = .ok (.bastore, 1))
    (kk : ∀ (H1 : Heap) (locs1 : List Loc), va_P D cl (ws.set q0 (a, .inl (cA, n, .inl (upd f i.toNatClampNeg (vp_nar .boolean x))))) H1 → H1.size = H.size → va_S A H0 H1 locs1 → W p l e R s m args below meth c H1 locs1 cells slots Q (F0 m (pc + 1) ls rest)) : W p l e R s m args below meth c H locs cells slots Q (F0 m pc ls (.int x :: .int i :: .ref a :: rest)) := by
  refine W.zast hexec hb (hP q0 _ ha) ((hK.2 t0 _ ht).1 n (fun j => .int (f j))) (fun q => by cases q) (by show ¬ (i < 0 ∨ (arrV _ _ _).slots.size ≤ _); rw [arrV_size]; exact hin) rfl rfl hdg fun H1 e z oq => ?_
  refine kk H1 _ (hP.set hD ha ?_ oq) z (hS.put z oq (hD.2 q0 _ ha))
  show H1[a]? = some (vp_cell _ _)
  rw [e]
  rw [vp_cell_i, vp_cell_i, arrV_store]
  congr 2
  funext q
  by_cases hq : q = i.toNatClampNeg
  · subst hq
    simp [updV, upd, vp_nar, narrow]
  · simp [updV, upd, hq]
theorem zp_last (hexec : p.tables.exec = Jvm.exec) (hb : c.code = cc) (hK : va_K D cl tys s) (hP : va_P D cl ws H) (hD : va_D A ws) (hS : va_S A H0 H locs) (q0 t0 : Nat) {cA : ClassId} {n : Nat} {f : Nat → Int64} (ha : ws[q0]? = some (a, .inl (cA, n, .inr (.inl f)))) (ht : tys[t0]? = some (cA, .long)) {i : Int32} {x : Int64} (hin : vp_in i n) (hdg : decode cc pc = .ok (.lastore, 1))
    (kk : ∀ (H1 : Heap) (locs1 : List Loc), va_P D cl (ws.set q0 (a, .inl (cA, n, .inr (.inl (vp_updL f i.toNatClampNeg x))))) H1 → H1.size = H.size → va_S A H0 H1 locs1 → W p l e R s m args below meth c H1 locs1 cells slots Q (F0 m (pc + 1) ls rest)) : W p l e R s m args below meth c H locs cells slots Q (F0 m pc ls (.long x :: .int i :: .ref a :: rest)) := by
  refine W.last hexec hb (hP q0 _ ha) ((hK.2 t0 _ ht).1 n (fun j => .long (f j))) (fun q => by cases q) (by show ¬ (i < 0 ∨ (arrV _ _ _).slots.size ≤ _); rw [arrV_size]; exact hin) rfl rfl hdg fun H1 e z oq => ?_
  refine kk H1 _ (hP.set hD ha ?_ oq) z (hS.put z oq (hD.2 q0 _ ha))
  show H1[a]? = some (vp_cell _ _)
  rw [e]
  rw [vp_cell_l, vp_cell_l, arrV_store]
  congr 2
  funext q
  by_cases hq : q = i.toNatClampNeg
  · subst hq
    simp [updV, vp_updL]
  · simp [updV, vp_updL, hq]
end ZP
def Cls (n : Nat) (C : String) (T : u_T) (N : Nat) (ty : Nat → FieldType) : Prop := vwCl[n]? = some (C, T, N) ∧ (∀ w ∈ u_ws C T N, w ∈ gtb) ∧ (∀ k, k < N → parseFieldDescriptor (T k).2.2.1 = some (ty k)) ∧ (∀ a, a < N → ∀ b, b < N → a ≠ b → (T a).2.1 ≠ (T b).2.1) ∧ nfl n = N
def FLk (ow : String) (idx n j : Nat) : Prop := ∃ C T N ty, Cls n C T N ty ∧ j < N ∧ Cond.fieldLink ow idx (T j).1 (T j).2.1 (T j).2.2.1 ∈ gtb
def FPk (ow : String) (idx n j : Nat) (t : FieldType) : Prop := ∃ C T N ty, Cls n C T N ty ∧ j < N ∧ Cond.fieldLink ow idx (T j).1 (T j).2.1 (T j).2.2.1 ∈ gtb ∧ ty j = t ∧ (T j).2.2.2 = false
theorem cel_obj {b : Bs} {M : Mm} {k n : Nat} (h : kndA k = n + 4) : celF b M k = .inr (n, (List.range (nfl n)).map (fun j => fvl b k n j (M k j))) := by unfold celF; rw [h]
theorem cel_i {b : Bs} {M : Mm} {k : Nat} (h : kndA k = 0) : celF b M k = .inl (b.2.2.1, lenA M k, .inl (fun j => Int32.ofInt (M k j))) := by unfold celF; rw [h]
theorem cel_b {b : Bs} {M : Mm} {k : Nat} (h : kndA k = 1) : celF b M k = .inl (b.2.2.2.1, lenA M k, .inl (fun j => Int32.ofInt (M k j))) := by unfold celF; rw [h]
theorem cel_l {b : Bs} {M : Mm} {k : Nat} (h : kndA k = 2) : celF b M k = .inl (b.2.2.2.2.1, lenA M k, .inr (.inl (fun j => Int64.ofInt (M k j)))) := by unfold celF; rw [h]
theorem cel_z {b : Bs} {M : Mm} {k : Nat} (h : kndA k = 3) : celF b M k = .inl (b.2.2.2.2.2.1, lenA M k, .inl (fun j => Int32.ofInt (M k j))) := by unfold celF; rw [h]
theorem rmap_get {N j : Nat} {f : Nat → Value} (h : j < N) : ((List.range N).map f)[j]? = some (f j) := by rw [List.getElem?_map, List.getElem?_range h]; rfl
theorem rmap_set {N j : Nat} {f f' : Nat → Value} (h : j < N) (ho : ∀ i, i ≠ j → f' i = f i) : ((List.range N).map f).set j (f' j) = (List.range N).map f' := by
  apply List.ext_getElem?
  intro i
  by_cases hi : i < N
  · rw [rmap_get hi]
    by_cases e : i = j
    · subst e; rw [List.getElem?_set_self (by rw [List.length_map, List.length_range]; exact h)]
    · rw [List.getElem?_set_ne (fun z => e z.symm), rmap_get hi, ho i e]
  · rw [List.getElem?_eq_none (by rw [List.length_set, List.length_map, List.length_range]; omega), List.getElem?_eq_none (by rw [List.length_map, List.length_range]; omega)]
theorem lt95 (m : Mm) {k : Nat} (h : k < 95) : k < cntD m := by unfold cntD; omega
theorem vin {i : Int} {n : Nat} (hi : inR i) (h : 0 ≤ i ∧ i < (n : Int)) : vp_in (Int32.ofInt i) n := by rw [vp_in_iff, t_ofI' hi]; exact h
theorem clamp {i : Int} (hi : inR i) : (Int32.ofInt i).toNatClampNeg = i.toNat := Int32.toNatClampNeg_ofInt_of_le (by have := hi.1; omega) (by have := hi.2; omega)
theorem Hc_set {b : Bs} {M : Mm} {k i : Nat} {v : Int} {H H1 : Heap} {e : va_E} (h0 : k ≠ 0) (hk : k < cntD M) (hsz : H.size = b.1 + cntD M) (hz : H1.size = H.size) (he : celF b (upd2 M k i v) k = e) (hP : va_P b.2.1 vwCl ((wsF b M).set k (b.1 + k, e)) H1) : Hc b (upd2 M k i v) H1 := by
  subst he
  refine ⟨by rw [hz, hsz, cntD_u2 h0], ?_⟩
  rw [wsF_set b hk (cntD_u2 h0) (fun k' hk' => celF_ne h0 k' hk')] at hP
  exact hP
section XH
variable {g : Gx} {b : Bs} {q : Sd} {nL dep : Nat} {Z : State → Prop} {ow : String} {cc : ByteArray} {ret : Option FieldType} {pc n' : Nat} {lv : List (Nat × Value)} {st : List Value} {m : Mm} {kc ks : Nat} {Q : Int → Mm → Prop}
theorem x_getI {k n j idx : Nat} (hC : Cok g b ow cc nL dep ret) (hd : decode cc pc = .ok (.getfield idx, 3)) (hn : pc + 3 = n') (hf : FLk ow idx n j) (hk : kndA k = n + 4) (hk9 : k < 95) (hty : fty n j = 0) (hs : own2 k = q.1) (kk : X g b q nL Z n' lv (iV (m k j) :: st) m kc ks) : X g b q nL Z pc lv (.ref (b.1 + k) :: st) m kc ks := by
  subst hn
  intro H locs cells slots ls hH hS hc hs' hl
  have kx := kk H locs cells slots ls hH hS hc hs' hl
  obtain ⟨C, T, N, ty, ⟨c1, c2, c3, c4, c5⟩, hj, hlk⟩ := hf
  obtain ⟨hx, hb, -, hown, hts, -, hK, -⟩ := hC
  refine va_get (D := b.2.1) (ci := n) (v := iV (m k j)) hx hb hts c2 hown hK.1 hH.2 k (by rw [wsF_get b _ (lt95 _ hk9), cel_obj hk]) c1 j hj (hts _ hlk) (fun _ h => h) ?_ hd kx
  rw [rmap_get (by rw [c5]; exact hj)]
  unfold fvl
  rw [hty, fm_at hs]
  rfl
theorem x_getR {k n j idx t : Nat} (hC : Cok g b ow cc nL dep ret) (hd : decode cc pc = .ok (.getfield idx, 3)) (hn : pc + 3 = n') (hf : FLk ow idx n j) (hk : kndA k = n + 4) (hk9 : k < 95) (hty : fty n j = 1) (ht : ftg k j = t) (kk : X g b q nL Z n' lv (.ref (b.1 + t) :: st) m kc ks) : X g b q nL Z pc lv (.ref (b.1 + k) :: st) m kc ks := by
  subst hn
  subst ht
  intro H locs cells slots ls hH hS hc hs' hl
  have kx := kk H locs cells slots ls hH hS hc hs' hl
  obtain ⟨C, T, N, ty, ⟨c1, c2, c3, c4, c5⟩, hj, hlk⟩ := hf
  obtain ⟨hx, hb, -, hown, hts, -, hK, -⟩ := hC
  refine va_get (D := b.2.1) (ci := n) (v := .ref (b.1 + ftg k j)) hx hb hts c2 hown hK.1 hH.2 k (by rw [wsF_get b _ (lt95 _ hk9), cel_obj hk]) c1 j hj (hts _ hlk) (fun _ h => h) ?_ hd kx
  rw [rmap_get (by rw [c5]; exact hj)]
  unfold fvl
  rw [hty]
  rfl
theorem x_getD {k n j idx : Nat} (hC : Cok g b ow cc nL dep ret) (hd : decode cc pc = .ok (.getfield idx, 3)) (hn : pc + 3 = n') (hf : FLk ow idx n j) (hk : kndA k = n + 4) (hk9 : k < 95) (hty : fty n j = 2) (hs : own2 k = q.1) (kk : X g b q nL Z n' lv (.ref (b.1 + (m k j).toNat) :: st) m kc ks) : X g b q nL Z pc lv (.ref (b.1 + k) :: st) m kc ks := by
  subst hn
  intro H locs cells slots ls hH hS hc hs' hl
  have kx := kk H locs cells slots ls hH hS hc hs' hl
  obtain ⟨C, T, N, ty, ⟨c1, c2, c3, c4, c5⟩, hj, hlk⟩ := hf
  obtain ⟨hx, hb, -, hown, hts, -, hK, -⟩ := hC
  refine va_get (D := b.2.1) (ci := n) (v := .ref (b.1 + (m k j).toNat)) hx hb hts c2 hown hK.1 hH.2 k (by rw [wsF_get b _ (lt95 _ hk9), cel_obj hk]) c1 j hj (hts _ hlk) (fun _ h => h) ?_ hd kx
  rw [rmap_get (by rw [c5]; exact hj)]
  unfold fvl
  rw [hty, fm_at hs]
  rfl
theorem x_putG {k n j idx : Nat} {v : Int} {w : Value} {t : FieldType} {K : Mm → Rs} (hC : Cok g b ow cc nL dep ret) (hd : decode cc pc = .ok (.putfield idx, 3)) (hn : pc + 3 = n') (hf : FPk ow idx n j t) (hk : kndA k = n + 4) (hk9 : k < 95) (h0 : k ≠ 0) (hw : fvl b k n j v = w) (hnr : narrow t w = w) (hft : fits t w = true) (hs : own2 k = q.1) (hm : Rg m) (hv : rgk k v) (hF : okR (stf m k j v K) Q) (kk : ∀ m', Rg m' → okR (K m') Q → X g b q nL Z n' lv st m' kc ks) : X g b q nL Z pc lv (w :: .ref (b.1 + k) :: st) m kc ks := by
  subst hn
  intro H locs cells slots ls hH hS hc hs' hl
  obtain ⟨C, T, N, ty, ⟨c1, c2, c3, c4, c5⟩, hj, hlk, ht, hfin⟩ := hf
  obtain ⟨hx, hb, -, hown, hts, -, hK, -⟩ := hC
  refine zp_put (D := b.2.1) (ci := n) (ty := t) hx hb hts c2 ty c3 c4 hown hK.1 hH.2 (wsF_D b _) hS k (by rw [wsF_get b _ (lt95 _ hk9), cel_obj hk]) c1 j hj (hts _ hlk) (fun _ h => h) hfin (by rw [c3 j hj, ht]) hnr hft (by rw [List.length_map, List.length_range, c5]; exact hj) hd (fun H1 locs1 hP1 hz hS1 => ?_)
  refine kk (upd2 m k j v) (hm.u j hv) hF H1 locs1 cells slots ls ?_ hS1 hc hs' hl
  rw [fm_u2 hs]
  refine Hc_set h0 (lt95 _ hk9) hH.1 hz ?_ hP1
  rw [cel_obj hk, ← hw]
  have e := rmap_set (N := nfl n) (j := j) (f := fun i => fvl b k n i (fm q m k i)) (f' := fun i => fvl b k n i (upd2 (fm q m) k j v k i)) (by rw [c5]; exact hj) (fun i hi => by
    show fvl b k n i (upd2 (fm q m) k j v k i) = fvl b k n i (fm q m k i)
    rw [u2_row]; unfold upr; rw [if_neg hi])
  rw [u2_same] at e
  rw [← e]
theorem x_putI {k n j idx : Nat} {v : Int} {K : Mm → Rs} (hC : Cok g b ow cc nL dep ret) (hd : decode cc pc = .ok (.putfield idx, 3)) (hn : pc + 3 = n') (hf : FPk ow idx n j .int) (hk : kndA k = n + 4) (hk9 : k < 95) (h0 : k ≠ 0) (hty : fty n j = 0) (hs : own2 k = q.1) (hm : Rg m) (hv : inR v) (hlg : lngk k = false) (hF : okR (stf m k j v K) Q) (kk : ∀ m', Rg m' → okR (K m') Q → X g b q nL Z n' lv st m' kc ks) : X g b q nL Z pc lv (iV v :: .ref (b.1 + k) :: st) m kc ks :=
  x_putG hC hd hn hf hk hk9 h0 (by unfold fvl; rw [hty]; rfl) rfl rfl hs hm (rgk_i hlg hv) hF kk
theorem x_putZ {k n j idx : Nat} {v : Int} {K : Mm → Rs} (hC : Cok g b ow cc nL dep ret) (hd : decode cc pc = .ok (.putfield idx, 3)) (hn : pc + 3 = n') (hf : FPk ow idx n j .boolean) (hk : kndA k = n + 4) (hk9 : k < 95) (h0 : k ≠ 0) (hty : fty n j = 0) (hs : own2 k = q.1) (hm : Rg m) (hv : v = 0 ∨ v = 1) (hlg : lngk k = false) (hF : okR (stf m k j v K) Q) (kk : ∀ m', Rg m' → okR (K m') Q → X g b q nL Z n' lv st m' kc ks) : X g b q nL Z pc lv (iV v :: .ref (b.1 + k) :: st) m kc ks :=
  x_putG hC hd hn hf hk hk9 h0 (by unfold fvl; rw [hty]; rfl) (by rcases hv with rfl | rfl <;> rfl) (by rcases hv with rfl | rfl <;> rfl) hs hm (rgk_i hlg (rg_01 hv)) hF kk
theorem x_putD {k n j idx t : Nat} {ft : FieldType} {K : Mm → Rs} (hC : Cok g b ow cc nL dep ret) (hd : decode cc pc = .ok (.putfield idx, 3)) (hn : pc + 3 = n') (hf : FPk ow idx n j ft) (hk : kndA k = n + 4) (hk9 : k < 95) (h0 : k ≠ 0) (hty : fty n j = 2) (hnr : ∀ a, narrow ft (.ref a) = .ref a) (hft : ∀ a, fits ft (.ref a) = true) (hs : own2 k = q.1) (hm : Rg m) (hv : inR (t : Int)) (hlg : lngk k = false) (hF : okR (stf m k j (t : Int) K) Q) (kk : ∀ m', Rg m' → okR (K m') Q → X g b q nL Z n' lv st m' kc ks) : X g b q nL Z pc lv (.ref (b.1 + t) :: .ref (b.1 + k) :: st) m kc ks :=
  x_putG hC hd hn hf hk hk9 h0 (by unfold fvl; rw [hty]; rfl) (hnr _) (hft _) hs hm (rgk_i hlg hv) hF kk
theorem x_ialdG {k L : Nat} {i : Int} {K : Int → Rs} (hC : Cok g b ow cc nL dep ret) (hd : decode cc pc = .ok (.iaload, 1)) (hn : pc + 1 = n') (hk : kndA k = 0) (hkc : k < cntD (fm q m)) (hL : lenA (fm q m) k = L) (hs : own2 k = q.1) (hlg : lngk k = false) (hm : Rg m) (hi : inR i) (hF : okR (ald m k L i K) Q) (kk : ∀ v, inR v → okR (K v) Q → X g b q nL Z n' lv (iV v :: st) m kc ks) : X g b q nL Z pc lv (iV i :: .ref (b.1 + k) :: st) m kc ks := by
  subst hn
  intro H locs cells slots ls hH hS hc hs' hl
  have h0 := okR_ite hF
  by_cases hb0 : 0 ≤ i ∧ i < (L : Int)
  · have kx := kk (m k i.toNat) (hm.i k _ hlg) (h0.1 hb0) H locs cells slots ls hH hS hc hs' hl
    obtain ⟨hx, hb, -, hown, hts, -, hK, -⟩ := hC
    refine va_iald (i := Int32.ofInt i) hx hb hK.1 hH.2 k 0 (by rw [wsF_get b _ hkc, cel_i hk]) rfl (vin hi (by rw [hL]; exact hb0)) hd ?_
    rw [clamp hi, fm_at hs]
    exact kx
  · exact absurd (h0.2 hb0) (fun z => z)
theorem x_iald {k L : Nat} {i : Int} {K : Int → Rs} (hC : Cok g b ow cc nL dep ret) (hd : decode cc pc = .ok (.iaload, 1)) (hn : pc + 1 = n') (hk : cknd k = (0, L)) (hk9 : k < 95) (hs : own2 k = q.1) (hm : Rg m) (hi : inR i) (hF : okR (ald m k L i K) Q) (kk : ∀ v, inR v → okR (K v) Q → X g b q nL Z n' lv (iV v :: st) m kc ks) : X g b q nL Z pc lv (iV i :: .ref (b.1 + k) :: st) m kc ks := by
  have e : kndA k = 0 := by unfold kndA; rw [if_pos hk9, hk]
  exact x_ialdG hC hd hn e (lt95 _ hk9) (by unfold lenA; rw [if_pos hk9, hk]) hs (by unfold lngk; rw [e]; rfl) hm hi hF kk
theorem x_iastG {k L : Nat} {i v : Int} {K : Mm → Rs} (hC : Cok g b ow cc nL dep ret) (hd : decode cc pc = .ok (.iastore, 1)) (hn : pc + 1 = n') (hk : kndA k = 0) (hkc : k < cntD (fm q m)) (hk0 : k ≠ 0) (hL : lenA (fm q m) k = L) (hs : own2 k = q.1) (hlg : lngk k = false) (hm : Rg m) (hi : inR i) (hv : inR v) (hF : okR (ast m k L i v K) Q) (kk : ∀ m', Rg m' → okR (K m') Q → X g b q nL Z n' lv st m' kc ks) : X g b q nL Z pc lv (iV v :: iV i :: .ref (b.1 + k) :: st) m kc ks := by
  subst hn
  intro H locs cells slots ls hH hS hc hs' hl
  have h0 := okR_ite hF
  by_cases hb0 : 0 ≤ i ∧ i < (L : Int)
  · have kx := kk (upd2 m k i.toNat v) (hm.u _ (rgk_i hlg hv)) (h0.1 hb0)
    obtain ⟨hx, hb, -, hown, hts, -, hK, -⟩ := hC
    refine zp_iast (i := Int32.ofInt i) (x := Int32.ofInt v) hx hb hK.1 hH.2 (wsF_D b _) hS k 0 (by rw [wsF_get b _ hkc, cel_i hk]) rfl (vin hi (by rw [hL]; exact hb0)) hd (fun H1 locs1 hP1 hz hS1 => ?_)
    refine kx H1 locs1 cells slots ls ?_ hS1 hc hs' hl
    rw [fm_u2 hs]
    refine Hc_set hk0 hkc hH.1 hz ?_ hP1
    rw [cel_i hk, lenA_u2 hk0, clamp hi]
    refine congrArg (fun z => Sum.inl (b.2.2.1, lenA (fm q m) k, Sum.inl z)) ?_
    funext j
    rw [u2_row]
    unfold upd upr
    split <;> rfl
  · exact absurd (h0.2 hb0) (fun z => z)
theorem x_iast {k L : Nat} {i v : Int} {K : Mm → Rs} (hC : Cok g b ow cc nL dep ret) (hd : decode cc pc = .ok (.iastore, 1)) (hn : pc + 1 = n') (hk : cknd k = (0, L)) (hk9 : k < 95) (hs : own2 k = q.1) (hm : Rg m) (hi : inR i) (hv : inR v) (hF : okR (ast m k L i v K) Q) (kk : ∀ m', Rg m' → okR (K m') Q → X g b q nL Z n' lv st m' kc ks) : X g b q nL Z pc lv (iV v :: iV i :: .ref (b.1 + k) :: st) m kc ks := by
  have e : kndA k = 0 := by unfold kndA; rw [if_pos hk9, hk]
  exact x_iastG hC hd hn e (lt95 _ hk9) (fun z => by subst z; cases hk) (by unfold lenA; rw [if_pos hk9, hk]) hs (by unfold lngk; rw [e]; rfl) hm hi hv hF kk
theorem x_bald {k L : Nat} {i : Int} {K : Int → Rs} (hC : Cok g b ow cc nL dep ret) (hd : decode cc pc = .ok (.baload, 1)) (hn : pc + 1 = n') (hk : cknd k = (1, L)) (hk9 : k < 95) (hs : own2 k = q.1) (hm : Rg m) (hi : inR i) (hF : okR (ald m k L i K) Q) (kk : ∀ v, inR v → okR (K v) Q → X g b q nL Z n' lv (iV v :: st) m kc ks) : X g b q nL Z pc lv (iV i :: .ref (b.1 + k) :: st) m kc ks := by
  have e : kndA k = 1 := by unfold kndA; rw [if_pos hk9, hk]
  have hL : lenA (fm q m) k = L := by unfold lenA; rw [if_pos hk9, hk]
  have hlg : lngk k = false := by unfold lngk; rw [e]; rfl
  subst hn
  intro H locs cells slots ls hH hS hc hs' hl
  have h0 := okR_ite hF
  by_cases hb0 : 0 ≤ i ∧ i < (L : Int)
  · have kx := kk (m k i.toNat) (hm.i k _ hlg) (h0.1 hb0) H locs cells slots ls hH hS hc hs' hl
    obtain ⟨hx, hb, -, hown, hts, -, hK, -⟩ := hC
    refine va_bald (i := Int32.ofInt i) hx hb hK.1 hH.2 k 1 (by rw [wsF_get b _ (lt95 _ hk9), cel_b e]) rfl (vin hi (by rw [hL]; exact hb0)) hd ?_
    rw [clamp hi, fm_at hs]
    exact kx
  · exact absurd (h0.2 hb0) (fun z => z)
theorem x_zald {k L : Nat} {i : Int} {K : Int → Rs} (hC : Cok g b ow cc nL dep ret) (hd : decode cc pc = .ok (.baload, 1)) (hn : pc + 1 = n') (hk : cknd k = (3, L)) (hk9 : k < 95) (hs : own2 k = q.1) (hm : Rg m) (hi : inR i) (hF : okR (ald m k L i K) Q) (kk : ∀ v, inR v → okR (K v) Q → X g b q nL Z n' lv (iV v :: st) m kc ks) : X g b q nL Z pc lv (iV i :: .ref (b.1 + k) :: st) m kc ks := by
  have e : kndA k = 3 := by unfold kndA; rw [if_pos hk9, hk]
  have hL : lenA (fm q m) k = L := by unfold lenA; rw [if_pos hk9, hk]
  have hlg : lngk k = false := by unfold lngk; rw [e]; rfl
  subst hn
  intro H locs cells slots ls hH hS hc hs' hl
  have h0 := okR_ite hF
  by_cases hb0 : 0 ≤ i ∧ i < (L : Int)
  · have kx := kk (m k i.toNat) (hm.i k _ hlg) (h0.1 hb0) H locs cells slots ls hH hS hc hs' hl
    obtain ⟨hx, hb, -, hown, hts, -, hK, -⟩ := hC
    refine va_zald (i := Int32.ofInt i) hx hb hK.1 hH.2 k 3 (by rw [wsF_get b _ (lt95 _ hk9), cel_z e]) rfl (vin hi (by rw [hL]; exact hb0)) hd ?_
    rw [clamp hi, fm_at hs]
    exact kx
  · exact absurd (h0.2 hb0) (fun z => z)
theorem x_bast {k L : Nat} {i v : Int} {K : Mm → Rs} (hC : Cok g b ow cc nL dep ret) (hd : decode cc pc = .ok (.bastore, 1)) (hn : pc + 1 = n') (hk : cknd k = (1, L)) (hk9 : k < 95) (hs : own2 k = q.1) (hm : Rg m) (hi : inR i) (hv : vp_nar .byte (Int32.ofInt v) = Int32.ofInt v) (hv2 : inR v) (hF : okR (ast m k L i v K) Q) (kk : ∀ m', Rg m' → okR (K m') Q → X g b q nL Z n' lv st m' kc ks) : X g b q nL Z pc lv (iV v :: iV i :: .ref (b.1 + k) :: st) m kc ks := by
  have e : kndA k = 1 := by unfold kndA; rw [if_pos hk9, hk]
  have hL : lenA (fm q m) k = L := by unfold lenA; rw [if_pos hk9, hk]
  have hlg : lngk k = false := by unfold lngk; rw [e]; rfl
  have hk0 : k ≠ 0 := fun z => by subst z; cases hk
  subst hn
  intro H locs cells slots ls hH hS hc hs' hl
  have h0 := okR_ite hF
  by_cases hb0 : 0 ≤ i ∧ i < (L : Int)
  · have kx := kk (upd2 m k i.toNat v) (hm.u _ (rgk_i hlg hv2)) (h0.1 hb0)
    obtain ⟨hx, hb, -, hown, hts, -, hK, -⟩ := hC
    refine zp_bast (i := Int32.ofInt i) (x := Int32.ofInt v) hx hb hK.1 hH.2 (wsF_D b _) hS k 1 (by rw [wsF_get b _ (lt95 _ hk9), cel_b e]) rfl (vin hi (by rw [hL]; exact hb0)) hd (fun H1 locs1 hP1 hz hS1 => ?_)
    refine kx H1 locs1 cells slots ls ?_ hS1 hc hs' hl
    rw [fm_u2 hs]
    refine Hc_set hk0 (lt95 _ hk9) hH.1 hz ?_ hP1
    rw [cel_b e, lenA_u2 hk0, clamp hi, hv]
    refine congrArg (fun z => Sum.inl (b.2.2.2.1, lenA (fm q m) k, Sum.inl z)) ?_
    funext j
    rw [u2_row]
    unfold upd upr
    split <;> rfl
  · exact absurd (h0.2 hb0) (fun z => z)
theorem x_zast {k L : Nat} {i v : Int} {K : Mm → Rs} (hC : Cok g b ow cc nL dep ret) (hd : decode cc pc = .ok (.bastore, 1)) (hn : pc + 1 = n') (hk : cknd k = (3, L)) (hk9 : k < 95) (hs : own2 k = q.1) (hm : Rg m) (hi : inR i) (hv : v = 0 ∨ v = 1) (hF : okR (ast m k L i v K) Q) (kk : ∀ m', Rg m' → okR (K m') Q → X g b q nL Z n' lv st m' kc ks) : X g b q nL Z pc lv (iV v :: iV i :: .ref (b.1 + k) :: st) m kc ks := by
  have e : kndA k = 3 := by unfold kndA; rw [if_pos hk9, hk]
  have hL : lenA (fm q m) k = L := by unfold lenA; rw [if_pos hk9, hk]
  have hlg : lngk k = false := by unfold lngk; rw [e]; rfl
  have hk0 : k ≠ 0 := fun z => by subst z; cases hk
  subst hn
  intro H locs cells slots ls hH hS hc hs' hl
  have h0 := okR_ite hF
  by_cases hb0 : 0 ≤ i ∧ i < (L : Int)
  · have kx := kk (upd2 m k i.toNat v) (hm.u _ (rgk_i hlg (rg_01 hv))) (h0.1 hb0)
    obtain ⟨hx, hb, -, hown, hts, -, hK, -⟩ := hC
    refine zp_zast (i := Int32.ofInt i) (x := Int32.ofInt v) hx hb hK.1 hH.2 (wsF_D b _) hS k 3 (by rw [wsF_get b _ (lt95 _ hk9), cel_z e]) rfl (vin hi (by rw [hL]; exact hb0)) hd (fun H1 locs1 hP1 hz hS1 => ?_)
    refine kx H1 locs1 cells slots ls ?_ hS1 hc hs' hl
    rw [fm_u2 hs]
    refine Hc_set hk0 (lt95 _ hk9) hH.1 hz ?_ hP1
    rw [cel_z e, lenA_u2 hk0, clamp hi, show vp_nar .boolean (Int32.ofInt v) = Int32.ofInt v by rcases hv with rfl | rfl <;> rfl]
    refine congrArg (fun z => Sum.inl (b.2.2.2.2.2.1, lenA (fm q m) k, Sum.inl z)) ?_
    funext j
    rw [u2_row]
    unfold upd upr
    split <;> rfl
  · exact absurd (h0.2 hb0) (fun z => z)
theorem x_lald {k L : Nat} {i : Int} {K : Int → Rs} (hC : Cok g b ow cc nL dep ret) (hd : decode cc pc = .ok (.laload, 1)) (hn : pc + 1 = n') (hk : cknd k = (2, L)) (hk9 : k < 95) (hs : own2 k = q.1) (hm : Rg m) (hi : inR i) (hF : okR (ald m k L i K) Q) (kk : ∀ v, inL v → okR (K v) Q → X g b q nL Z n' lv (lV v :: st) m kc ks) : X g b q nL Z pc lv (iV i :: .ref (b.1 + k) :: st) m kc ks := by
  have e : kndA k = 2 := by unfold kndA; rw [if_pos hk9, hk]
  have hL : lenA (fm q m) k = L := by unfold lenA; rw [if_pos hk9, hk]
  have hlg : lngk k = true := by unfold lngk; rw [e]; rfl
  subst hn
  intro H locs cells slots ls hH hS hc hs' hl
  have h0 := okR_ite hF
  by_cases hb0 : 0 ≤ i ∧ i < (L : Int)
  · have kx := kk (m k i.toNat) (hm.l k _ hlg) (h0.1 hb0) H locs cells slots ls hH hS hc hs' hl
    obtain ⟨hx, hb, -, hown, hts, -, hK, -⟩ := hC
    refine va_lald (i := Int32.ofInt i) hx hb hK.1 hH.2 k 2 (by rw [wsF_get b _ (lt95 _ hk9), cel_l e]) rfl (vin hi (by rw [hL]; exact hb0)) hd ?_
    rw [clamp hi, fm_at hs]
    exact kx
  · exact absurd (h0.2 hb0) (fun z => z)
theorem x_last {k L : Nat} {i v : Int} {K : Mm → Rs} (hC : Cok g b ow cc nL dep ret) (hd : decode cc pc = .ok (.lastore, 1)) (hn : pc + 1 = n') (hk : cknd k = (2, L)) (hk9 : k < 95) (hs : own2 k = q.1) (hm : Rg m) (hi : inR i) (hv : inL v) (hF : okR (ast m k L i v K) Q) (kk : ∀ m', Rg m' → okR (K m') Q → X g b q nL Z n' lv st m' kc ks) : X g b q nL Z pc lv (lV v :: iV i :: .ref (b.1 + k) :: st) m kc ks := by
  have e : kndA k = 2 := by unfold kndA; rw [if_pos hk9, hk]
  have hL : lenA (fm q m) k = L := by unfold lenA; rw [if_pos hk9, hk]
  have hlg : lngk k = true := by unfold lngk; rw [e]; rfl
  have hk0 : k ≠ 0 := fun z => by subst z; cases hk
  subst hn
  intro H locs cells slots ls hH hS hc hs' hl
  have h0 := okR_ite hF
  by_cases hb0 : 0 ≤ i ∧ i < (L : Int)
  · have kx := kk (upd2 m k i.toNat v) (hm.u _ (rgk_l hlg hv)) (h0.1 hb0)
    obtain ⟨hx, hb, -, hown, hts, -, hK, -⟩ := hC
    refine zp_last (i := Int32.ofInt i) (x := Int64.ofInt v) hx hb hK.1 hH.2 (wsF_D b _) hS k 2 (by rw [wsF_get b _ (lt95 _ hk9), cel_l e]) rfl (vin hi (by rw [hL]; exact hb0)) hd (fun H1 locs1 hP1 hz hS1 => ?_)
    refine kx H1 locs1 cells slots ls ?_ hS1 hc hs' hl
    rw [fm_u2 hs]
    refine Hc_set hk0 (lt95 _ hk9) hH.1 hz ?_ hP1
    rw [cel_l e, lenA_u2 hk0, clamp hi]
    refine congrArg (fun z => Sum.inl (b.2.2.2.2.1, lenA (fm q m) k, Sum.inr (Sum.inl z))) ?_
    funext j
    rw [u2_row]
    unfold vp_updL upr
    split <;> rfl
  · exact absurd (h0.2 hb0) (fun z => z)
theorem x_alenI {k L : Nat} (hC : Cok g b ow cc nL dep ret) (hd : decode cc pc = .ok (.arraylength, 1)) (hn : pc + 1 = n') (hk : kndA k = 0) (hkc : k < cntD (fm q m)) (hL : lenA (fm q m) k = L) (kk : X g b q nL Z n' lv (iV (L : Int) :: st) m kc ks) : X g b q nL Z pc lv (.ref (b.1 + k) :: st) m kc ks := by
  subst hn
  intro H locs cells slots ls hH hS hc hs' hl
  have kx := kk H locs cells slots ls hH hS hc hs' hl
  obtain ⟨hx, hb, -, hown, hts, -, hK, -⟩ := hC
  exact va_alen hx hb hK.1 hH.2 k 0 (by rw [wsF_get b _ hkc, cel_i hk]) rfl (by show Int32.ofNat (lenA (fm q m) k) = _; rw [hL, ← Int32.ofInt_eq_ofNat]) hd kx
/-- ONE_BY: the static, and a place of it -/
theorem x_one {idx : Nat} (hC : Cok g b ow cc nL dep ret) (hd : decode cc pc = .ok (.getstatic idx, 3)) (hn : pc + 3 = n') (hw : Cond.fieldLink ow idx "OneWord$Crowd" "ONE_BY" "[I" ∈ gtb) (kk : X g b q nL Z n' lv (.ref b.2.2.2.2.2.2.1 :: st) m kc ks) : X g b q nL Z pc lv st m kc ks := by
  subst hn
  intro H locs cells slots ls hH hS hc hs' hl
  have kx := kk H locs cells slots ls hH hS hc hs' hl
  obtain ⟨hx, hb, -, hown, hts, -, hK, -⟩ := hC
  exact va_gets hx hb hK.2.2.1 hS hown (hts _ hw) (fun _ h => h) hd kx
theorem x_oneld {i : Int} {K : Int → Rs} (hC : Cok g b ow cc nL dep ret) (hd : decode cc pc = .ok (.iaload, 1)) (hn : pc + 1 = n') (hi : inR i) (hF : okR (if 0 ≤ i ∧ i < 5 then K (oneF i.toNat) else none) Q) (kk : ∀ v, inR v → okR (K v) Q → X g b q nL Z n' lv (iV v :: st) m kc ks) : X g b q nL Z pc lv (iV i :: .ref b.2.2.2.2.2.2.1 :: st) m kc ks := by
  subst hn
  intro H locs cells slots ls hH hS hc hs' hl
  have h0 := okR_ite hF
  by_cases hb0 : 0 ≤ i ∧ i < 5
  · have kx := kk (oneF i.toNat) (by unfold oneF inR; split <;> omega) (h0.1 hb0) H locs cells slots ls hH hS hc hs' hl
    obtain ⟨hx, hb, -, hown, hts, -, hK, -⟩ := hC
    have hlt := hK.2.2.2.1
    refine va_sld (i := Int32.ofInt i) hx hb hK.2.2.2.2 (by have := hK.2.1; omega) (by omega) hS (vin hi hb0) hd ?_
    rw [clamp hi]
    exact kx
  · exact absurd (h0.2 hb0) (fun z => z)
end XH
end
