theorem dX0_clear_0 : decode cX0_clear 0 = .ok (.aload_n 0, 1) := by decide +kernel
theorem dX0_clear_1 : decode cX0_clear 1 = .ok (.iconst 0, 1) := by decide +kernel
theorem dX0_clear_2 : decode cX0_clear 2 = .ok (.putfield 27, 3) := by decide +kernel
theorem dX0_clear_5 : decode cX0_clear 5 = .ok (.aload_n 0, 1) := by decide +kernel
theorem dX0_clear_6 : decode cX0_clear 6 = .ok (.iconst 0, 1) := by decide +kernel
theorem dX0_clear_7 : decode cX0_clear 7 = .ok (.putfield 31, 3) := by decide +kernel
theorem dX0_clear_10 : decode cX0_clear 10 = .ok (.aload_n 0, 1) := by decide +kernel
theorem dX0_clear_11 : decode cX0_clear 11 = .ok (.iconst 0, 1) := by decide +kernel
theorem dX0_clear_12 : decode cX0_clear 12 = .ok (.putfield 34, 3) := by decide +kernel
theorem dX0_clear_15 : decode cX0_clear 15 = .ok (.return_, 1) := by decide +kernel
theorem dX0_add_0 : decode cX0_add 0 = .ok (.aload_n 0, 1) := by decide +kernel
theorem dX0_add_1 : decode cX0_add 1 = .ok (.getfield 27, 3) := by decide +kernel
theorem dX0_add_4 : decode cX0_add 4 = .ok (.sipush 200, 3) := by decide +kernel
theorem dX0_add_7 : decode cX0_add 7 = .ok (.if_icmp .ge 33, 3) := by decide +kernel
theorem dX0_add_10 : decode cX0_add 10 = .ok (.aload_n 0, 1) := by decide +kernel
theorem dX0_add_11 : decode cX0_add 11 = .ok (.getfield 9, 3) := by decide +kernel
theorem dX0_add_14 : decode cX0_add 14 = .ok (.aload_n 0, 1) := by decide +kernel
theorem dX0_add_15 : decode cX0_add 15 = .ok (.getfield 27, 3) := by decide +kernel
theorem dX0_add_18 : decode cX0_add 18 = .ok (.iload_n 1, 1) := by decide +kernel
theorem dX0_add_19 : decode cX0_add 19 = .ok (.iastore, 1) := by decide +kernel
theorem dX0_add_20 : decode cX0_add 20 = .ok (.aload_n 0, 1) := by decide +kernel
theorem dX0_add_21 : decode cX0_add 21 = .ok (.getfield 15, 3) := by decide +kernel
theorem dX0_add_24 : decode cX0_add 24 = .ok (.aload_n 0, 1) := by decide +kernel
theorem dX0_add_25 : decode cX0_add 25 = .ok (.getfield 27, 3) := by decide +kernel
theorem dX0_add_28 : decode cX0_add 28 = .ok (.iload_n 2, 1) := by decide +kernel
theorem dX0_add_29 : decode cX0_add 29 = .ok (.iastore, 1) := by decide +kernel
theorem dX0_add_30 : decode cX0_add 30 = .ok (.aload_n 0, 1) := by decide +kernel
theorem dX0_add_31 : decode cX0_add 31 = .ok (.dup, 1) := by decide +kernel
theorem dX0_add_32 : decode cX0_add 32 = .ok (.getfield 27, 3) := by decide +kernel
theorem dX0_add_35 : decode cX0_add 35 = .ok (.iconst 1, 1) := by decide +kernel
theorem dX0_add_36 : decode cX0_add 36 = .ok (.iadd, 1) := by decide +kernel
theorem dX0_add_37 : decode cX0_add 37 = .ok (.putfield 27, 3) := by decide +kernel
theorem dX0_add_40 : decode cX0_add 40 = .ok (.aload_n 0, 1) := by decide +kernel
theorem dX0_add_41 : decode cX0_add 41 = .ok (.getfield 27, 3) := by decide +kernel
theorem dX0_add_44 : decode cX0_add 44 = .ok (.iconst 1, 1) := by decide +kernel
theorem dX0_add_45 : decode cX0_add 45 = .ok (.isub, 1) := by decide +kernel
theorem dX0_add_46 : decode cX0_add 46 = .ok (.ireturn, 1) := by decide +kernel
theorem dX0_landHere_0 : decode cX0_landHere 0 = .ok (.iload_n 1, 1) := by decide +kernel
theorem dX0_landHere_1 : decode cX0_landHere 1 = .ok (.ifCond .lt 21, 3) := by decide +kernel
theorem dX0_landHere_4 : decode cX0_landHere 4 = .ok (.iload_n 1, 1) := by decide +kernel
theorem dX0_landHere_5 : decode cX0_landHere 5 = .ok (.aload_n 0, 1) := by decide +kernel
theorem dX0_landHere_6 : decode cX0_landHere 6 = .ok (.getfield 27, 3) := by decide +kernel
theorem dX0_landHere_9 : decode cX0_landHere 9 = .ok (.if_icmp .ge 13, 3) := by decide +kernel
theorem dX0_landHere_12 : decode cX0_landHere 12 = .ok (.aload_n 0, 1) := by decide +kernel
theorem dX0_landHere_13 : decode cX0_landHere 13 = .ok (.getfield 15, 3) := by decide +kernel
theorem dX0_landHere_16 : decode cX0_landHere 16 = .ok (.iload_n 1, 1) := by decide +kernel
theorem dX0_landHere_17 : decode cX0_landHere 17 = .ok (.aload_n 0, 1) := by decide +kernel
theorem dX0_landHere_18 : decode cX0_landHere 18 = .ok (.getfield 27, 3) := by decide +kernel
theorem dX0_landHere_21 : decode cX0_landHere 21 = .ok (.iastore, 1) := by decide +kernel
theorem dX0_landHere_22 : decode cX0_landHere 22 = .ok (.return_, 1) := by decide +kernel
theorem dX0_beginClause_0 : decode cX0_beginClause 0 = .ok (.aload_n 0, 1) := by decide +kernel
theorem dX0_beginClause_1 : decode cX0_beginClause 1 = .ok (.getfield 31, 3) := by decide +kernel
theorem dX0_beginClause_4 : decode cX0_beginClause 4 = .ok (.bipush 14, 2) := by decide +kernel
theorem dX0_beginClause_6 : decode cX0_beginClause 6 = .ok (.if_icmp .ge 36, 3) := by decide +kernel
theorem dX0_beginClause_9 : decode cX0_beginClause 9 = .ok (.aload_n 0, 1) := by decide +kernel
theorem dX0_beginClause_10 : decode cX0_beginClause 10 = .ok (.getfield 18, 3) := by decide +kernel
theorem dX0_beginClause_13 : decode cX0_beginClause 13 = .ok (.aload_n 0, 1) := by decide +kernel
theorem dX0_beginClause_14 : decode cX0_beginClause 14 = .ok (.getfield 31, 3) := by decide +kernel
theorem dX0_beginClause_17 : decode cX0_beginClause 17 = .ok (.iload_n 1, 1) := by decide +kernel
theorem dX0_beginClause_18 : decode cX0_beginClause 18 = .ok (.iastore, 1) := by decide +kernel
theorem dX0_beginClause_19 : decode cX0_beginClause 19 = .ok (.aload_n 0, 1) := by decide +kernel
theorem dX0_beginClause_20 : decode cX0_beginClause 20 = .ok (.getfield 21, 3) := by decide +kernel
theorem dX0_beginClause_23 : decode cX0_beginClause 23 = .ok (.aload_n 0, 1) := by decide +kernel
theorem dX0_beginClause_24 : decode cX0_beginClause 24 = .ok (.getfield 31, 3) := by decide +kernel
theorem dX0_beginClause_27 : decode cX0_beginClause 27 = .ok (.aload_n 0, 1) := by decide +kernel
theorem dX0_beginClause_28 : decode cX0_beginClause 28 = .ok (.getfield 27, 3) := by decide +kernel
theorem dX0_beginClause_31 : decode cX0_beginClause 31 = .ok (.iastore, 1) := by decide +kernel
theorem dX0_beginClause_32 : decode cX0_beginClause 32 = .ok (.aload_n 0, 1) := by decide +kernel
theorem dX0_beginClause_33 : decode cX0_beginClause 33 = .ok (.dup, 1) := by decide +kernel
theorem dX0_beginClause_34 : decode cX0_beginClause 34 = .ok (.getfield 31, 3) := by decide +kernel
theorem dX0_beginClause_37 : decode cX0_beginClause 37 = .ok (.iconst 1, 1) := by decide +kernel
theorem dX0_beginClause_38 : decode cX0_beginClause 38 = .ok (.iadd, 1) := by decide +kernel
theorem dX0_beginClause_39 : decode cX0_beginClause 39 = .ok (.putfield 31, 3) := by decide +kernel
theorem dX0_beginClause_42 : decode cX0_beginClause 42 = .ok (.return_, 1) := by decide +kernel
theorem dX0_beginCondition_0 : decode cX0_beginCondition 0 = .ok (.aload_n 0, 1) := by decide +kernel
theorem dX0_beginCondition_1 : decode cX0_beginCondition 1 = .ok (.getfield 31, 3) := by decide +kernel
theorem dX0_beginCondition_4 : decode cX0_beginCondition 4 = .ok (.ifCond .le 27, 3) := by decide +kernel
theorem dX0_beginCondition_7 : decode cX0_beginCondition 7 = .ok (.aload_n 0, 1) := by decide +kernel
theorem dX0_beginCondition_8 : decode cX0_beginCondition 8 = .ok (.getfield 31, 3) := by decide +kernel
theorem dX0_beginCondition_11 : decode cX0_beginCondition 11 = .ok (.bipush 14, 2) := by decide +kernel
theorem dX0_beginCondition_13 : decode cX0_beginCondition 13 = .ok (.if_icmp .gt 18, 3) := by decide +kernel
theorem dX0_beginCondition_16 : decode cX0_beginCondition 16 = .ok (.aload_n 0, 1) := by decide +kernel
theorem dX0_beginCondition_17 : decode cX0_beginCondition 17 = .ok (.getfield 24, 3) := by decide +kernel
theorem dX0_beginCondition_20 : decode cX0_beginCondition 20 = .ok (.aload_n 0, 1) := by decide +kernel
theorem dX0_beginCondition_21 : decode cX0_beginCondition 21 = .ok (.getfield 31, 3) := by decide +kernel
theorem dX0_beginCondition_24 : decode cX0_beginCondition 24 = .ok (.iconst 1, 1) := by decide +kernel
theorem dX0_beginCondition_25 : decode cX0_beginCondition 25 = .ok (.isub, 1) := by decide +kernel
theorem dX0_beginCondition_26 : decode cX0_beginCondition 26 = .ok (.aload_n 0, 1) := by decide +kernel
theorem dX0_beginCondition_27 : decode cX0_beginCondition 27 = .ok (.getfield 27, 3) := by decide +kernel
theorem dX0_beginCondition_30 : decode cX0_beginCondition 30 = .ok (.iastore, 1) := by decide +kernel
theorem dX0_beginCondition_31 : decode cX0_beginCondition 31 = .ok (.return_, 1) := by decide +kernel
theorem dX0_endOf_0 : decode cX0_endOf 0 = .ok (.iload_n 1, 1) := by decide +kernel
theorem dX0_endOf_1 : decode cX0_endOf 1 = .ok (.ifCond .lt 24, 3) := by decide +kernel
theorem dX0_endOf_4 : decode cX0_endOf 4 = .ok (.iload_n 1, 1) := by decide +kernel
theorem dX0_endOf_5 : decode cX0_endOf 5 = .ok (.iconst 1, 1) := by decide +kernel
theorem dX0_endOf_6 : decode cX0_endOf 6 = .ok (.iadd, 1) := by decide +kernel
theorem dX0_endOf_7 : decode cX0_endOf 7 = .ok (.aload_n 0, 1) := by decide +kernel
theorem dX0_endOf_8 : decode cX0_endOf 8 = .ok (.getfield 31, 3) := by decide +kernel
theorem dX0_endOf_11 : decode cX0_endOf 11 = .ok (.if_icmp .ge 14, 3) := by decide +kernel
theorem dX0_endOf_14 : decode cX0_endOf 14 = .ok (.aload_n 0, 1) := by decide +kernel
theorem dX0_endOf_15 : decode cX0_endOf 15 = .ok (.getfield 21, 3) := by decide +kernel
theorem dX0_endOf_18 : decode cX0_endOf 18 = .ok (.iload_n 1, 1) := by decide +kernel
theorem dX0_endOf_19 : decode cX0_endOf 19 = .ok (.iconst 1, 1) := by decide +kernel
theorem dX0_endOf_20 : decode cX0_endOf 20 = .ok (.iadd, 1) := by decide +kernel
theorem dX0_endOf_21 : decode cX0_endOf 21 = .ok (.iaload, 1) := by decide +kernel
theorem dX0_endOf_22 : decode cX0_endOf 22 = .ok (.goto 7, 3) := by decide +kernel
theorem dX0_endOf_25 : decode cX0_endOf 25 = .ok (.aload_n 0, 1) := by decide +kernel
theorem dX0_endOf_26 : decode cX0_endOf 26 = .ok (.getfield 27, 3) := by decide +kernel
theorem dX0_endOf_29 : decode cX0_endOf 29 = .ok (.ireturn, 1) := by decide +kernel
theorem dX1_forget_0 : decode cX1_forget 0 = .ok (.aload_n 0, 1) := by decide +kernel
theorem dX1_forget_1 : decode cX1_forget 1 = .ok (.iconst 0, 1) := by decide +kernel
theorem dX1_forget_2 : decode cX1_forget 2 = .ok (.putfield 45, 3) := by decide +kernel
theorem dX1_forget_5 : decode cX1_forget 5 = .ok (.return_, 1) := by decide +kernel
theorem dX1_knows_0 : decode cX1_knows 0 = .ok (.aload_n 0, 1) := by decide +kernel
theorem dX1_knows_1 : decode cX1_knows 1 = .ok (.getfield 45, 3) := by decide +kernel
theorem dX1_knows_4 : decode cX1_knows 4 = .ok (.iload_n 1, 1) := by decide +kernel
theorem dX1_knows_5 : decode cX1_knows 5 = .ok (.if_icmp .ne 7, 3) := by decide +kernel
theorem dX1_knows_8 : decode cX1_knows 8 = .ok (.iconst 1, 1) := by decide +kernel
theorem dX1_knows_9 : decode cX1_knows 9 = .ok (.goto 4, 3) := by decide +kernel
theorem dX1_knows_12 : decode cX1_knows 12 = .ok (.iconst 0, 1) := by decide +kernel
theorem dX1_knows_13 : decode cX1_knows 13 = .ok (.ireturn, 1) := by decide +kernel
theorem dX1_canBe_0 : decode cX1_canBe 0 = .ok (.aload_n 0, 1) := by decide +kernel
theorem dX1_canBe_1 : decode cX1_canBe 1 = .ok (.getfield 49, 3) := by decide +kernel
theorem dX1_canBe_4 : decode cX1_canBe 4 = .ok (.ldc 52, 2) := by decide +kernel
theorem dX1_canBe_6 : decode cX1_canBe 6 = .ok (.if_icmp .ge 7, 3) := by decide +kernel
theorem dX1_canBe_9 : decode cX1_canBe 9 = .ok (.iconst 1, 1) := by decide +kernel
theorem dX1_canBe_10 : decode cX1_canBe 10 = .ok (.goto 4, 3) := by decide +kernel
theorem dX1_canBe_13 : decode cX1_canBe 13 = .ok (.iconst 0, 1) := by decide +kernel
theorem dX1_canBe_14 : decode cX1_canBe 14 = .ok (.ireturn, 1) := by decide +kernel
theorem dX1_speakerOf_0 : decode cX1_speakerOf 0 = .ok (.iload_n 1, 1) := by decide +kernel
theorem dX1_speakerOf_1 : decode cX1_speakerOf 1 = .ok (.ifCond .lt 25, 3) := by decide +kernel
theorem dX1_speakerOf_4 : decode cX1_speakerOf 4 = .ok (.iload_n 1, 1) := by decide +kernel
theorem dX1_speakerOf_5 : decode cX1_speakerOf 5 = .ok (.aload_n 0, 1) := by decide +kernel
theorem dX1_speakerOf_6 : decode cX1_speakerOf 6 = .ok (.getfield 53, 3) := by decide +kernel
theorem dX1_speakerOf_9 : decode cX1_speakerOf 9 = .ok (.if_icmp .ge 17, 3) := by decide +kernel
theorem dX1_speakerOf_12 : decode cX1_speakerOf 12 = .ok (.aload_n 0, 1) := by decide +kernel
theorem dX1_speakerOf_13 : decode cX1_speakerOf 13 = .ok (.getfield 11, 3) := by decide +kernel
theorem dX1_speakerOf_16 : decode cX1_speakerOf 16 = .ok (.aload_n 0, 1) := by decide +kernel
theorem dX1_speakerOf_17 : decode cX1_speakerOf 17 = .ok (.getfield 25, 3) := by decide +kernel
theorem dX1_speakerOf_20 : decode cX1_speakerOf 20 = .ok (.iload_n 1, 1) := by decide +kernel
theorem dX1_speakerOf_21 : decode cX1_speakerOf 21 = .ok (.iaload, 1) := by decide +kernel
theorem dX1_speakerOf_22 : decode cX1_speakerOf 22 = .ok (.iaload, 1) := by decide +kernel
theorem dX1_speakerOf_23 : decode cX1_speakerOf 23 = .ok (.goto 4, 3) := by decide +kernel
theorem dX1_speakerOf_26 : decode cX1_speakerOf 26 = .ok (.iconst (-1), 1) := by decide +kernel
theorem dX1_speakerOf_27 : decode cX1_speakerOf 27 = .ok (.ireturn, 1) := by decide +kernel
theorem dX1_gapOf_0 : decode cX1_gapOf 0 = .ok (.iload_n 1, 1) := by decide +kernel
theorem dX1_gapOf_1 : decode cX1_gapOf 1 = .ok (.ifCond .lt 20, 3) := by decide +kernel
theorem dX1_gapOf_4 : decode cX1_gapOf 4 = .ok (.iload_n 1, 1) := by decide +kernel
theorem dX1_gapOf_5 : decode cX1_gapOf 5 = .ok (.aload_n 0, 1) := by decide +kernel
theorem dX1_gapOf_6 : decode cX1_gapOf 6 = .ok (.getfield 53, 3) := by decide +kernel
theorem dX1_gapOf_9 : decode cX1_gapOf 9 = .ok (.if_icmp .ge 12, 3) := by decide +kernel
theorem dX1_gapOf_12 : decode cX1_gapOf 12 = .ok (.aload_n 0, 1) := by decide +kernel
theorem dX1_gapOf_13 : decode cX1_gapOf 13 = .ok (.getfield 28, 3) := by decide +kernel
theorem dX1_gapOf_16 : decode cX1_gapOf 16 = .ok (.iload_n 1, 1) := by decide +kernel
theorem dX1_gapOf_17 : decode cX1_gapOf 17 = .ok (.iaload, 1) := by decide +kernel
theorem dX1_gapOf_18 : decode cX1_gapOf 18 = .ok (.goto 4, 3) := by decide +kernel
theorem dX1_gapOf_21 : decode cX1_gapOf 21 = .ok (.iconst (-1), 1) := by decide +kernel
theorem dX1_gapOf_22 : decode cX1_gapOf 22 = .ok (.ireturn, 1) := by decide +kernel
theorem dX4_has_0 : decode cX4_has 0 = .ok (.iload_n 1, 1) := by decide +kernel
theorem dX4_has_1 : decode cX4_has 1 = .ok (.ifCond .lt 15, 3) := by decide +kernel
theorem dX4_has_4 : decode cX4_has 4 = .ok (.iload_n 1, 1) := by decide +kernel
theorem dX4_has_5 : decode cX4_has 5 = .ok (.aload_n 0, 1) := by decide +kernel
theorem dX4_has_6 : decode cX4_has 6 = .ok (.getfield 34, 3) := by decide +kernel
theorem dX4_has_9 : decode cX4_has 9 = .ok (.if_icmp .ge 7, 3) := by decide +kernel
theorem dX4_has_12 : decode cX4_has 12 = .ok (.iconst 1, 1) := by decide +kernel
theorem dX4_has_13 : decode cX4_has 13 = .ok (.goto 4, 3) := by decide +kernel
theorem dX4_has_16 : decode cX4_has 16 = .ok (.iconst 0, 1) := by decide +kernel
theorem dX4_has_17 : decode cX4_has 17 = .ok (.ireturn, 1) := by decide +kernel
theorem dX4_wordsBy_0 : decode cX4_wordsBy 0 = .ok (.aload_n 0, 1) := by decide +kernel
theorem dX4_wordsBy_1 : decode cX4_wordsBy 1 = .ok (.iload_n 1, 1) := by decide +kernel
theorem dX4_wordsBy_2 : decode cX4_wordsBy 2 = .ok (.invokevirtual 37, 3) := by decide +kernel
theorem dX4_wordsBy_5 : decode cX4_wordsBy 5 = .ok (.ifCond .eq 12, 3) := by decide +kernel
theorem dX4_wordsBy_8 : decode cX4_wordsBy 8 = .ok (.aload_n 0, 1) := by decide +kernel
theorem dX4_wordsBy_9 : decode cX4_wordsBy 9 = .ok (.getfield 21, 3) := by decide +kernel
theorem dX4_wordsBy_12 : decode cX4_wordsBy 12 = .ok (.iload_n 1, 1) := by decide +kernel
theorem dX4_wordsBy_13 : decode cX4_wordsBy 13 = .ok (.iaload, 1) := by decide +kernel
theorem dX4_wordsBy_14 : decode cX4_wordsBy 14 = .ok (.goto 4, 3) := by decide +kernel
theorem dX4_wordsBy_17 : decode cX4_wordsBy 17 = .ok (.iconst 0, 1) := by decide +kernel
theorem dX4_wordsBy_18 : decode cX4_wordsBy 18 = .ok (.ireturn, 1) := by decide +kernel
theorem dX1_choose_0 : decode cX1_choose 0 = .ok (.aload_n 0, 1) := by decide +kernel
theorem dX1_choose_1 : decode cX1_choose 1 = .ok (.iload_n 1, 1) := by decide +kernel
theorem dX1_choose_2 : decode cX1_choose 2 = .ok (.putfield 45, 3) := by decide +kernel
theorem dX1_choose_5 : decode cX1_choose 5 = .ok (.aload_n 0, 1) := by decide +kernel
theorem dX1_choose_6 : decode cX1_choose 6 = .ok (.iconst 0, 1) := by decide +kernel
theorem dX1_choose_7 : decode cX1_choose 7 = .ok (.putfield 56, 3) := by decide +kernel
theorem dX1_choose_10 : decode cX1_choose 10 = .ok (.aload_n 0, 1) := by decide +kernel
theorem dX1_choose_11 : decode cX1_choose 11 = .ok (.iconst 0, 1) := by decide +kernel
theorem dX1_choose_12 : decode cX1_choose 12 = .ok (.putfield 53, 3) := by decide +kernel
theorem dX1_choose_15 : decode cX1_choose 15 = .ok (.iconst 0, 1) := by decide +kernel
theorem dX1_choose_16 : decode cX1_choose 16 = .ok (.istore_n 2, 1) := by decide +kernel
theorem dX1_choose_17 : decode cX1_choose 17 = .ok (.iload_n 2, 1) := by decide +kernel
theorem dX1_choose_18 : decode cX1_choose 18 = .ok (.aload_n 0, 1) := by decide +kernel
theorem dX1_choose_19 : decode cX1_choose 19 = .ok (.getfield 37, 3) := by decide +kernel
theorem dX1_choose_22 : decode cX1_choose 22 = .ok (.getfield 59, 3) := by decide +kernel
theorem dX1_choose_25 : decode cX1_choose 25 = .ok (.if_icmp .ge 62, 3) := by decide +kernel
theorem dX1_choose_28 : decode cX1_choose 28 = .ok (.aload_n 0, 1) := by decide +kernel
theorem dX1_choose_29 : decode cX1_choose 29 = .ok (.getfield 56, 3) := by decide +kernel
theorem dX1_choose_32 : decode cX1_choose 32 = .ok (.iconst 4, 1) := by decide +kernel
theorem dX1_choose_33 : decode cX1_choose 33 = .ok (.if_icmp .ge 54, 3) := by decide +kernel
theorem dX1_choose_36 : decode cX1_choose 36 = .ok (.iload_n 1, 1) := by decide +kernel
theorem dX1_choose_37 : decode cX1_choose 37 = .ok (.iload_n 2, 1) := by decide +kernel
theorem dX1_choose_38 : decode cX1_choose 38 = .ok (.ishr, 1) := by decide +kernel
theorem dX1_choose_39 : decode cX1_choose 39 = .ok (.iconst 1, 1) := by decide +kernel
theorem dX1_choose_40 : decode cX1_choose 40 = .ok (.iand, 1) := by decide +kernel
theorem dX1_choose_41 : decode cX1_choose 41 = .ok (.ifCond .eq 40, 3) := by decide +kernel
theorem dX1_choose_44 : decode cX1_choose 44 = .ok (.aload_n 0, 1) := by decide +kernel
theorem dX1_choose_45 : decode cX1_choose 45 = .ok (.getfield 11, 3) := by decide +kernel
theorem dX1_choose_48 : decode cX1_choose 48 = .ok (.aload_n 0, 1) := by decide +kernel
theorem dX1_choose_49 : decode cX1_choose 49 = .ok (.getfield 56, 3) := by decide +kernel
theorem dX1_choose_52 : decode cX1_choose 52 = .ok (.iload_n 2, 1) := by decide +kernel
theorem dX1_choose_53 : decode cX1_choose 53 = .ok (.iastore, 1) := by decide +kernel
theorem dX1_choose_54 : decode cX1_choose 54 = .ok (.aload_n 0, 1) := by decide +kernel
theorem dX1_choose_55 : decode cX1_choose 55 = .ok (.dup, 1) := by decide +kernel
theorem dX1_choose_56 : decode cX1_choose 56 = .ok (.getfield 56, 3) := by decide +kernel
theorem dX1_choose_59 : decode cX1_choose 59 = .ok (.iconst 1, 1) := by decide +kernel
theorem dX1_choose_60 : decode cX1_choose 60 = .ok (.iadd, 1) := by decide +kernel
theorem dX1_choose_61 : decode cX1_choose 61 = .ok (.putfield 56, 3) := by decide +kernel
theorem dX1_choose_64 : decode cX1_choose 64 = .ok (.aload_n 0, 1) := by decide +kernel
theorem dX1_choose_65 : decode cX1_choose 65 = .ok (.dup, 1) := by decide +kernel
theorem dX1_choose_66 : decode cX1_choose 66 = .ok (.getfield 53, 3) := by decide +kernel
theorem dX1_choose_69 : decode cX1_choose 69 = .ok (.aload_n 0, 1) := by decide +kernel
theorem dX1_choose_70 : decode cX1_choose 70 = .ok (.getfield 37, 3) := by decide +kernel
theorem dX1_choose_73 : decode cX1_choose 73 = .ok (.iload_n 2, 1) := by decide +kernel
theorem dX1_choose_74 : decode cX1_choose 74 = .ok (.invokevirtual 62, 3) := by decide +kernel
theorem dX1_choose_77 : decode cX1_choose 77 = .ok (.iadd, 1) := by decide +kernel
theorem dX1_choose_78 : decode cX1_choose 78 = .ok (.putfield 53, 3) := by decide +kernel
theorem dX1_choose_81 : decode cX1_choose 81 = .ok (.iinc 2 1, 3) := by decide +kernel
theorem dX1_choose_84 : decode cX1_choose 84 = .ok (.goto (-67), 3) := by decide +kernel
theorem dX1_choose_87 : decode cX1_choose 87 = .ok (.getstatic 66, 3) := by decide +kernel
theorem dX1_choose_90 : decode cX1_choose 90 = .ok (.aload_n 0, 1) := by decide +kernel
theorem dX1_choose_91 : decode cX1_choose 91 = .ok (.getfield 56, 3) := by decide +kernel
theorem dX1_choose_94 : decode cX1_choose 94 = .ok (.iaload, 1) := by decide +kernel
theorem dX1_choose_95 : decode cX1_choose 95 = .ok (.aload_n 0, 1) := by decide +kernel
theorem dX1_choose_96 : decode cX1_choose 96 = .ok (.getfield 56, 3) := by decide +kernel
theorem dX1_choose_99 : decode cX1_choose 99 = .ok (.imul, 1) := by decide +kernel
theorem dX1_choose_100 : decode cX1_choose 100 = .ok (.bipush 21, 2) := by decide +kernel
theorem dX1_choose_102 : decode cX1_choose 102 = .ok (.imul, 1) := by decide +kernel
theorem dX1_choose_103 : decode cX1_choose 103 = .ok (.istore_n 2, 1) := by decide +kernel
theorem dX1_choose_104 : decode cX1_choose 104 = .ok (.aload_n 0, 1) := by decide +kernel
theorem dX1_choose_105 : decode cX1_choose 105 = .ok (.getfield 34, 3) := by decide +kernel
theorem dX1_choose_108 : decode cX1_choose 108 = .ok (.arraylength, 1) := by decide +kernel
theorem dX1_choose_109 : decode cX1_choose 109 = .ok (.iload_n 2, 1) := by decide +kernel
theorem dX1_choose_110 : decode cX1_choose 110 = .ok (.if_icmp .ge 10, 3) := by decide +kernel
theorem dX1_choose_113 : decode cX1_choose 113 = .ok (.aload_n 0, 1) := by decide +kernel
theorem dX1_choose_114 : decode cX1_choose 114 = .ok (.iload_n 2, 1) := by decide +kernel
theorem dX1_choose_115 : decode cX1_choose 115 = .ok (.newarray .int, 2) := by decide +kernel
theorem dX1_choose_117 : decode cX1_choose 117 = .ok (.putfield 34, 3) := by decide +kernel
theorem dX1_choose_120 : decode cX1_choose 120 = .ok (.iconst 0, 1) := by decide +kernel
theorem dX1_choose_121 : decode cX1_choose 121 = .ok (.istore_n 3, 1) := by decide +kernel
theorem dX1_choose_122 : decode cX1_choose 122 = .ok (.iload_n 3, 1) := by decide +kernel
theorem dX1_choose_123 : decode cX1_choose 123 = .ok (.iload_n 2, 1) := by decide +kernel
theorem dX1_choose_124 : decode cX1_choose 124 = .ok (.if_icmp .ge 16, 3) := by decide +kernel
theorem dX1_choose_127 : decode cX1_choose 127 = .ok (.aload_n 0, 1) := by decide +kernel
theorem dX1_choose_128 : decode cX1_choose 128 = .ok (.getfield 34, 3) := by decide +kernel
theorem dX1_choose_131 : decode cX1_choose 131 = .ok (.iload_n 3, 1) := by decide +kernel
theorem dX1_choose_132 : decode cX1_choose 132 = .ok (.iconst (-1), 1) := by decide +kernel
theorem dX1_choose_133 : decode cX1_choose 133 = .ok (.iastore, 1) := by decide +kernel
theorem dX1_choose_134 : decode cX1_choose 134 = .ok (.iinc 3 1, 3) := by decide +kernel
theorem dX1_choose_137 : decode cX1_choose 137 = .ok (.goto (-15), 3) := by decide +kernel
theorem dX1_choose_140 : decode cX1_choose 140 = .ok (.return_, 1) := by decide +kernel
theorem dX1_reach_0 : decode cX1_reach 0 = .ok (.iload_n 1, 1) := by decide +kernel
theorem dX1_reach_1 : decode cX1_reach 1 = .ok (.bipush 21, 2) := by decide +kernel
theorem dX1_reach_3 : decode cX1_reach 3 = .ok (.imul, 1) := by decide +kernel
theorem dX1_reach_4 : decode cX1_reach 4 = .ok (.iload_n 2, 1) := by decide +kernel
theorem dX1_reach_5 : decode cX1_reach 5 = .ok (.iadd, 1) := by decide +kernel
theorem dX1_reach_6 : decode cX1_reach 6 = .ok (.istore_n 3, 1) := by decide +kernel
theorem dX1_reach_7 : decode cX1_reach 7 = .ok (.iload_n 3, 1) := by decide +kernel
theorem dX1_reach_8 : decode cX1_reach 8 = .ok (.ifCond .lt 54, 3) := by decide +kernel
theorem dX1_reach_11 : decode cX1_reach 11 = .ok (.iload_n 3, 1) := by decide +kernel
theorem dX1_reach_12 : decode cX1_reach 12 = .ok (.bipush 84, 2) := by decide +kernel
theorem dX1_reach_14 : decode cX1_reach 14 = .ok (.if_icmp .ge 48, 3) := by decide +kernel
theorem dX1_reach_17 : decode cX1_reach 17 = .ok (.aload_n 0, 1) := by decide +kernel
theorem dX1_reach_18 : decode cX1_reach 18 = .ok (.getfield 18, 3) := by decide +kernel
theorem dX1_reach_21 : decode cX1_reach 21 = .ok (.iload_n 3, 1) := by decide +kernel
theorem dX1_reach_22 : decode cX1_reach 22 = .ok (.baload, 1) := by decide +kernel
theorem dX1_reach_23 : decode cX1_reach 23 = .ok (.ifCond .ne 39, 3) := by decide +kernel
theorem dX1_reach_26 : decode cX1_reach 26 = .ok (.aload_n 0, 1) := by decide +kernel
theorem dX1_reach_27 : decode cX1_reach 27 = .ok (.getfield 69, 3) := by decide +kernel
theorem dX1_reach_30 : decode cX1_reach 30 = .ok (.bipush 84, 2) := by decide +kernel
theorem dX1_reach_32 : decode cX1_reach 32 = .ok (.if_icmp .ge 30, 3) := by decide +kernel
theorem dX1_reach_35 : decode cX1_reach 35 = .ok (.aload_n 0, 1) := by decide +kernel
theorem dX1_reach_36 : decode cX1_reach 36 = .ok (.getfield 18, 3) := by decide +kernel
theorem dX1_reach_39 : decode cX1_reach 39 = .ok (.iload_n 3, 1) := by decide +kernel
theorem dX1_reach_40 : decode cX1_reach 40 = .ok (.iconst 1, 1) := by decide +kernel
theorem dX1_reach_41 : decode cX1_reach 41 = .ok (.bastore, 1) := by decide +kernel
theorem dX1_reach_42 : decode cX1_reach 42 = .ok (.aload_n 0, 1) := by decide +kernel
theorem dX1_reach_43 : decode cX1_reach 43 = .ok (.getfield 22, 3) := by decide +kernel
theorem dX1_reach_46 : decode cX1_reach 46 = .ok (.aload_n 0, 1) := by decide +kernel
theorem dX1_reach_47 : decode cX1_reach 47 = .ok (.getfield 69, 3) := by decide +kernel
theorem dX1_reach_50 : decode cX1_reach 50 = .ok (.iload_n 3, 1) := by decide +kernel
theorem dX1_reach_51 : decode cX1_reach 51 = .ok (.iastore, 1) := by decide +kernel
theorem dX1_reach_52 : decode cX1_reach 52 = .ok (.aload_n 0, 1) := by decide +kernel
theorem dX1_reach_53 : decode cX1_reach 53 = .ok (.dup, 1) := by decide +kernel
theorem dX1_reach_54 : decode cX1_reach 54 = .ok (.getfield 69, 3) := by decide +kernel
theorem dX1_reach_57 : decode cX1_reach 57 = .ok (.iconst 1, 1) := by decide +kernel
theorem dX1_reach_58 : decode cX1_reach 58 = .ok (.iadd, 1) := by decide +kernel
theorem dX1_reach_59 : decode cX1_reach 59 = .ok (.putfield 69, 3) := by decide +kernel
theorem dX1_reach_62 : decode cX1_reach 62 = .ok (.return_, 1) := by decide +kernel
theorem dX4_wordOf_0 : decode cX4_wordOf 0 = .ok (.iload_n 2, 1) := by decide +kernel
theorem dX4_wordOf_1 : decode cX4_wordOf 1 = .ok (.ifCond .lt 25, 3) := by decide +kernel
theorem dX4_wordOf_4 : decode cX4_wordOf 4 = .ok (.iload_n 2, 1) := by decide +kernel
theorem dX4_wordOf_5 : decode cX4_wordOf 5 = .ok (.aload_n 0, 1) := by decide +kernel
theorem dX4_wordOf_6 : decode cX4_wordOf 6 = .ok (.iload_n 1, 1) := by decide +kernel
theorem dX4_wordOf_7 : decode cX4_wordOf 7 = .ok (.invokevirtual 60, 3) := by decide +kernel
theorem dX4_wordOf_10 : decode cX4_wordOf 10 = .ok (.if_icmp .ge 16, 3) := by decide +kernel
theorem dX4_wordOf_13 : decode cX4_wordOf 13 = .ok (.aload_n 0, 1) := by decide +kernel
theorem dX4_wordOf_14 : decode cX4_wordOf 14 = .ok (.getfield 24, 3) := by decide +kernel
theorem dX4_wordOf_17 : decode cX4_wordOf 17 = .ok (.iload_n 1, 1) := by decide +kernel
theorem dX4_wordOf_18 : decode cX4_wordOf 18 = .ok (.iconst 4, 1) := by decide +kernel
theorem dX4_wordOf_19 : decode cX4_wordOf 19 = .ok (.imul, 1) := by decide +kernel
theorem dX4_wordOf_20 : decode cX4_wordOf 20 = .ok (.iload_n 2, 1) := by decide +kernel
theorem dX4_wordOf_21 : decode cX4_wordOf 21 = .ok (.iadd, 1) := by decide +kernel
theorem dX4_wordOf_22 : decode cX4_wordOf 22 = .ok (.iaload, 1) := by decide +kernel
theorem dX4_wordOf_23 : decode cX4_wordOf 23 = .ok (.goto 4, 3) := by decide +kernel
theorem dX4_wordOf_26 : decode cX4_wordOf 26 = .ok (.iconst 0, 1) := by decide +kernel
theorem dX4_wordOf_27 : decode cX4_wordOf 27 = .ok (.ireturn, 1) := by decide +kernel
theorem dJ9_max_7cf53_0 : decode cJ9_max_7cf53 0 = .ok (.iload_n 0, 1) := by decide +kernel
theorem dJ9_max_7cf53_1 : decode cJ9_max_7cf53 1 = .ok (.iload_n 1, 1) := by decide +kernel
theorem dJ9_max_7cf53_2 : decode cJ9_max_7cf53 2 = .ok (.if_icmp .lt 7, 3) := by decide +kernel
theorem dJ9_max_7cf53_5 : decode cJ9_max_7cf53 5 = .ok (.iload_n 0, 1) := by decide +kernel
theorem dJ9_max_7cf53_6 : decode cJ9_max_7cf53 6 = .ok (.goto 4, 3) := by decide +kernel
theorem dJ9_max_7cf53_9 : decode cJ9_max_7cf53 9 = .ok (.iload_n 1, 1) := by decide +kernel
theorem dJ9_max_7cf53_10 : decode cJ9_max_7cf53 10 = .ok (.ireturn, 1) := by decide +kernel
theorem dJ9_min_7cf53_0 : decode cJ9_min_7cf53 0 = .ok (.iload_n 0, 1) := by decide +kernel
theorem dJ9_min_7cf53_1 : decode cJ9_min_7cf53 1 = .ok (.iload_n 1, 1) := by decide +kernel
theorem dJ9_min_7cf53_2 : decode cJ9_min_7cf53 2 = .ok (.if_icmp .gt 7, 3) := by decide +kernel
theorem dJ9_min_7cf53_5 : decode cJ9_min_7cf53 5 = .ok (.iload_n 0, 1) := by decide +kernel
theorem dJ9_min_7cf53_6 : decode cJ9_min_7cf53 6 = .ok (.goto 4, 3) := by decide +kernel
theorem dJ9_min_7cf53_9 : decode cJ9_min_7cf53 9 = .ok (.iload_n 1, 1) := by decide +kernel
theorem dJ9_min_7cf53_10 : decode cJ9_min_7cf53 10 = .ok (.ireturn, 1) := by decide +kernel
theorem dX7_letterAt_0 : decode cX7_letterAt 0 = .ok (.iload_n 1, 1) := by decide +kernel
theorem dX7_letterAt_1 : decode cX7_letterAt 1 = .ok (.ifCond .lt 21, 3) := by decide +kernel
theorem dX7_letterAt_4 : decode cX7_letterAt 4 = .ok (.iload_n 1, 1) := by decide +kernel
theorem dX7_letterAt_5 : decode cX7_letterAt 5 = .ok (.aload_n 0, 1) := by decide +kernel
theorem dX7_letterAt_6 : decode cX7_letterAt 6 = .ok (.getfield 9, 3) := by decide +kernel
theorem dX7_letterAt_9 : decode cX7_letterAt 9 = .ok (.arraylength, 1) := by decide +kernel
theorem dX7_letterAt_10 : decode cX7_letterAt 10 = .ok (.if_icmp .ge 12, 3) := by decide +kernel
theorem dX7_letterAt_13 : decode cX7_letterAt 13 = .ok (.aload_n 0, 1) := by decide +kernel
theorem dX7_letterAt_14 : decode cX7_letterAt 14 = .ok (.getfield 9, 3) := by decide +kernel
theorem dX7_letterAt_17 : decode cX7_letterAt 17 = .ok (.iload_n 1, 1) := by decide +kernel
theorem dX7_letterAt_18 : decode cX7_letterAt 18 = .ok (.iaload, 1) := by decide +kernel
theorem dX7_letterAt_19 : decode cX7_letterAt 19 = .ok (.goto 4, 3) := by decide +kernel
theorem dX7_letterAt_22 : decode cX7_letterAt 22 = .ok (.iconst 0, 1) := by decide +kernel
theorem dX7_letterAt_23 : decode cX7_letterAt 23 = .ok (.ireturn, 1) := by decide +kernel
theorem dX7_reckon_0 : decode cX7_reckon 0 = .ok (.iload_n 1, 1) := by decide +kernel
theorem dX7_reckon_1 : decode cX7_reckon 1 = .ok (.bipush 47, 2) := by decide +kernel
theorem dX7_reckon_3 : decode cX7_reckon 3 = .ok (.if_icmp .eq 9, 3) := by decide +kernel
theorem dX7_reckon_6 : decode cX7_reckon 6 = .ok (.iload_n 1, 1) := by decide +kernel
theorem dX7_reckon_7 : decode cX7_reckon 7 = .ok (.bipush 37, 2) := by decide +kernel
theorem dX7_reckon_9 : decode cX7_reckon 9 = .ok (.if_icmp .ne 14, 3) := by decide +kernel
theorem dX7_reckon_12 : decode cX7_reckon 12 = .ok (.iload_n 3, 1) := by decide +kernel
theorem dX7_reckon_13 : decode cX7_reckon 13 = .ok (.ifCond .ne 10, 3) := by decide +kernel
theorem dX7_reckon_16 : decode cX7_reckon 16 = .ok (.aload_n 0, 1) := by decide +kernel
theorem dX7_reckon_17 : decode cX7_reckon 17 = .ok (.iconst 1, 1) := by decide +kernel
theorem dX7_reckon_18 : decode cX7_reckon 18 = .ok (.putfield 81, 3) := by decide +kernel
theorem dX7_reckon_21 : decode cX7_reckon 21 = .ok (.iconst 0, 1) := by decide +kernel
theorem dX7_reckon_22 : decode cX7_reckon 22 = .ok (.ireturn, 1) := by decide +kernel
theorem dX7_reckon_23 : decode cX7_reckon 23 = .ok (.iload_n 1, 1) := by decide +kernel
theorem dX7_reckon_24 : decode cX7_reckon 24 = .ok (.lookupswitch 110 #[(37, 84), (42, 76), (43, 68), (45, 72), (47, 80), (60, 88), (62, 99)], 68) := by decide +kernel
theorem dX7_reckon_92 : decode cX7_reckon 92 = .ok (.iload_n 2, 1) := by decide +kernel
theorem dX7_reckon_93 : decode cX7_reckon 93 = .ok (.iload_n 3, 1) := by decide +kernel
theorem dX7_reckon_94 : decode cX7_reckon 94 = .ok (.iadd, 1) := by decide +kernel
theorem dX7_reckon_95 : decode cX7_reckon 95 = .ok (.ireturn, 1) := by decide +kernel
theorem dX7_reckon_96 : decode cX7_reckon 96 = .ok (.iload_n 2, 1) := by decide +kernel
theorem dX7_reckon_97 : decode cX7_reckon 97 = .ok (.iload_n 3, 1) := by decide +kernel
theorem dX7_reckon_98 : decode cX7_reckon 98 = .ok (.isub, 1) := by decide +kernel
theorem dX7_reckon_99 : decode cX7_reckon 99 = .ok (.ireturn, 1) := by decide +kernel
theorem dX7_reckon_100 : decode cX7_reckon 100 = .ok (.iload_n 2, 1) := by decide +kernel
theorem dX7_reckon_101 : decode cX7_reckon 101 = .ok (.iload_n 3, 1) := by decide +kernel
theorem dX7_reckon_102 : decode cX7_reckon 102 = .ok (.imul, 1) := by decide +kernel
theorem dX7_reckon_103 : decode cX7_reckon 103 = .ok (.ireturn, 1) := by decide +kernel
theorem dX7_reckon_104 : decode cX7_reckon 104 = .ok (.iload_n 2, 1) := by decide +kernel
theorem dX7_reckon_105 : decode cX7_reckon 105 = .ok (.iload_n 3, 1) := by decide +kernel
theorem dX7_reckon_106 : decode cX7_reckon 106 = .ok (.idiv, 1) := by decide +kernel
theorem dX7_reckon_107 : decode cX7_reckon 107 = .ok (.ireturn, 1) := by decide +kernel
theorem dX7_reckon_108 : decode cX7_reckon 108 = .ok (.iload_n 2, 1) := by decide +kernel
theorem dX7_reckon_109 : decode cX7_reckon 109 = .ok (.iload_n 3, 1) := by decide +kernel
theorem dX7_reckon_110 : decode cX7_reckon 110 = .ok (.irem, 1) := by decide +kernel
theorem dX7_reckon_111 : decode cX7_reckon 111 = .ok (.ireturn, 1) := by decide +kernel
theorem dX7_reckon_112 : decode cX7_reckon 112 = .ok (.iload_n 2, 1) := by decide +kernel
theorem dX7_reckon_113 : decode cX7_reckon 113 = .ok (.iload_n 3, 1) := by decide +kernel
theorem dX7_reckon_114 : decode cX7_reckon 114 = .ok (.if_icmp .ge 7, 3) := by decide +kernel
theorem dX7_reckon_117 : decode cX7_reckon 117 = .ok (.iconst 1, 1) := by decide +kernel
theorem dX7_reckon_118 : decode cX7_reckon 118 = .ok (.goto 4, 3) := by decide +kernel
theorem dX7_reckon_121 : decode cX7_reckon 121 = .ok (.iconst 0, 1) := by decide +kernel
theorem dX7_reckon_122 : decode cX7_reckon 122 = .ok (.ireturn, 1) := by decide +kernel
theorem dX7_reckon_123 : decode cX7_reckon 123 = .ok (.iload_n 2, 1) := by decide +kernel
theorem dX7_reckon_124 : decode cX7_reckon 124 = .ok (.iload_n 3, 1) := by decide +kernel
theorem dX7_reckon_125 : decode cX7_reckon 125 = .ok (.if_icmp .le 7, 3) := by decide +kernel
theorem dX7_reckon_128 : decode cX7_reckon 128 = .ok (.iconst 1, 1) := by decide +kernel
theorem dX7_reckon_129 : decode cX7_reckon 129 = .ok (.goto 4, 3) := by decide +kernel
theorem dX7_reckon_132 : decode cX7_reckon 132 = .ok (.iconst 0, 1) := by decide +kernel
theorem dX7_reckon_133 : decode cX7_reckon 133 = .ok (.ireturn, 1) := by decide +kernel
theorem dX7_reckon_134 : decode cX7_reckon 134 = .ok (.iload_n 2, 1) := by decide +kernel
theorem dX7_reckon_135 : decode cX7_reckon 135 = .ok (.iload_n 3, 1) := by decide +kernel
theorem dX7_reckon_136 : decode cX7_reckon 136 = .ok (.if_icmp .ne 7, 3) := by decide +kernel
theorem dX7_reckon_139 : decode cX7_reckon 139 = .ok (.iconst 1, 1) := by decide +kernel
theorem dX7_reckon_140 : decode cX7_reckon 140 = .ok (.goto 4, 3) := by decide +kernel
theorem dX7_reckon_143 : decode cX7_reckon 143 = .ok (.iconst 0, 1) := by decide +kernel
theorem dX7_reckon_144 : decode cX7_reckon 144 = .ok (.ireturn, 1) := by decide +kernel
theorem dX7_run_0 : decode cX7_run 0 = .ok (.iconst 0, 1) := by decide +kernel
theorem dX7_run_1 : decode cX7_run 1 = .ok (.istore_n 3, 1) := by decide +kernel
theorem dX7_run_2 : decode cX7_run 2 = .ok (.aload_n 0, 1) := by decide +kernel
theorem dX7_run_3 : decode cX7_run 3 = .ok (.iconst 0, 1) := by decide +kernel
theorem dX7_run_4 : decode cX7_run 4 = .ok (.putfield 81, 3) := by decide +kernel
theorem dX7_run_7 : decode cX7_run 7 = .ok (.iload_n 1, 1) := by decide +kernel
theorem dX7_run_8 : decode cX7_run 8 = .ok (.istore 4, 2) := by decide +kernel
theorem dX7_run_10 : decode cX7_run 10 = .ok (.iload 4, 2) := by decide +kernel
theorem dX7_run_12 : decode cX7_run 12 = .ok (.iload_n 2, 1) := by decide +kernel
theorem dX7_run_13 : decode cX7_run 13 = .ok (.if_icmp .ge 232, 3) := by decide +kernel
theorem dX7_run_16 : decode cX7_run 16 = .ok (.iload 4, 2) := by decide +kernel
theorem dX7_run_18 : decode cX7_run 18 = .ok (.sipush 200, 3) := by decide +kernel
theorem dX7_run_21 : decode cX7_run 21 = .ok (.if_icmp .ge 224, 3) := by decide +kernel
theorem dX7_run_24 : decode cX7_run 24 = .ok (.aload_n 0, 1) := by decide +kernel
theorem dX7_run_25 : decode cX7_run 25 = .ok (.getfield 21, 3) := by decide +kernel
theorem dX7_run_28 : decode cX7_run 28 = .ok (.getfield 84, 3) := by decide +kernel
theorem dX7_run_31 : decode cX7_run 31 = .ok (.iload 4, 2) := by decide +kernel
theorem dX7_run_33 : decode cX7_run 33 = .ok (.iaload, 1) := by decide +kernel
theorem dX7_run_34 : decode cX7_run 34 = .ok (.istore 5, 2) := by decide +kernel
theorem dX7_run_36 : decode cX7_run 36 = .ok (.aload_n 0, 1) := by decide +kernel
theorem dX7_run_37 : decode cX7_run 37 = .ok (.getfield 21, 3) := by decide +kernel
theorem dX7_run_40 : decode cX7_run 40 = .ok (.getfield 87, 3) := by decide +kernel
theorem dX7_run_43 : decode cX7_run 43 = .ok (.iload 4, 2) := by decide +kernel
theorem dX7_run_45 : decode cX7_run 45 = .ok (.iaload, 1) := by decide +kernel
theorem dX7_run_46 : decode cX7_run 46 = .ok (.istore 6, 2) := by decide +kernel
theorem dX7_run_48 : decode cX7_run 48 = .ok (.iload 5, 2) := by decide +kernel
theorem dX7_run_50 : decode cX7_run 50 = .ok (.ifCond .eq 9, 3) := by decide +kernel
theorem dX7_run_53 : decode cX7_run 53 = .ok (.iload 5, 2) := by decide +kernel
theorem dX7_run_55 : decode cX7_run 55 = .ok (.iconst 1, 1) := by decide +kernel
theorem dX7_run_56 : decode cX7_run 56 = .ok (.if_icmp .ne 39, 3) := by decide +kernel
theorem dX7_run_59 : decode cX7_run 59 = .ok (.iload_n 3, 1) := by decide +kernel
theorem dX7_run_60 : decode cX7_run 60 = .ok (.bipush 24, 2) := by decide +kernel
theorem dX7_run_62 : decode cX7_run 62 = .ok (.if_icmp .lt 5, 3) := by decide +kernel
theorem dX7_run_65 : decode cX7_run 65 = .ok (.iconst 0, 1) := by decide +kernel
theorem dX7_run_66 : decode cX7_run 66 = .ok (.ireturn, 1) := by decide +kernel
theorem dX7_run_67 : decode cX7_run 67 = .ok (.aload_n 0, 1) := by decide +kernel
theorem dX7_run_68 : decode cX7_run 68 = .ok (.getfield 15, 3) := by decide +kernel
theorem dX7_run_71 : decode cX7_run 71 = .ok (.iload_n 3, 1) := by decide +kernel
theorem dX7_run_72 : decode cX7_run 72 = .ok (.iload 5, 2) := by decide +kernel
theorem dX7_run_74 : decode cX7_run 74 = .ok (.ifCond .ne 8, 3) := by decide +kernel
theorem dX7_run_77 : decode cX7_run 77 = .ok (.iload 6, 2) := by decide +kernel
theorem dX7_run_79 : decode cX7_run 79 = .ok (.goto 9, 3) := by decide +kernel
theorem dX7_run_82 : decode cX7_run 82 = .ok (.aload_n 0, 1) := by decide +kernel
theorem dX7_run_83 : decode cX7_run 83 = .ok (.iload 6, 2) := by decide +kernel
theorem dX7_run_85 : decode cX7_run 85 = .ok (.invokevirtual 90, 3) := by decide +kernel
theorem dX7_run_88 : decode cX7_run 88 = .ok (.iastore, 1) := by decide +kernel
theorem dX7_run_89 : decode cX7_run 89 = .ok (.iinc 3 1, 3) := by decide +kernel
theorem dX7_run_92 : decode cX7_run 92 = .ok (.goto 138, 3) := by decide +kernel
theorem dX7_run_95 : decode cX7_run 95 = .ok (.iload_n 3, 1) := by decide +kernel
theorem dX7_run_96 : decode cX7_run 96 = .ok (.iconst 1, 1) := by decide +kernel
theorem dX7_run_97 : decode cX7_run 97 = .ok (.if_icmp .ge 5, 3) := by decide +kernel
theorem dX7_run_100 : decode cX7_run 100 = .ok (.iconst 0, 1) := by decide +kernel
theorem dX7_run_101 : decode cX7_run 101 = .ok (.ireturn, 1) := by decide +kernel
theorem dX7_run_102 : decode cX7_run 102 = .ok (.iload 5, 2) := by decide +kernel
theorem dX7_run_104 : decode cX7_run 104 = .ok (.iconst 2, 1) := by decide +kernel
theorem dX7_run_105 : decode cX7_run 105 = .ok (.if_icmp .ne 24, 3) := by decide +kernel
theorem dX7_run_108 : decode cX7_run 108 = .ok (.aload_n 0, 1) := by decide +kernel
theorem dX7_run_109 : decode cX7_run 109 = .ok (.getfield 15, 3) := by decide +kernel
theorem dX7_run_112 : decode cX7_run 112 = .ok (.iload_n 3, 1) := by decide +kernel
theorem dX7_run_113 : decode cX7_run 113 = .ok (.iconst 1, 1) := by decide +kernel
theorem dX7_run_114 : decode cX7_run 114 = .ok (.isub, 1) := by decide +kernel
theorem dX7_run_115 : decode cX7_run 115 = .ok (.iconst 1, 1) := by decide +kernel
theorem dX7_run_116 : decode cX7_run 116 = .ok (.aload_n 0, 1) := by decide +kernel
theorem dX7_run_117 : decode cX7_run 117 = .ok (.getfield 15, 3) := by decide +kernel
theorem dX7_run_120 : decode cX7_run 120 = .ok (.iload_n 3, 1) := by decide +kernel
theorem dX7_run_121 : decode cX7_run 121 = .ok (.iconst 1, 1) := by decide +kernel
theorem dX7_run_122 : decode cX7_run 122 = .ok (.isub, 1) := by decide +kernel
theorem dX7_run_123 : decode cX7_run 123 = .ok (.iaload, 1) := by decide +kernel
theorem dX7_run_124 : decode cX7_run 124 = .ok (.isub, 1) := by decide +kernel
theorem dX7_run_125 : decode cX7_run 125 = .ok (.iastore, 1) := by decide +kernel
theorem dX7_run_126 : decode cX7_run 126 = .ok (.goto 104, 3) := by decide +kernel
theorem dX7_run_129 : decode cX7_run 129 = .ok (.iload 5, 2) := by decide +kernel
theorem dX7_run_131 : decode cX7_run 131 = .ok (.iconst 3, 1) := by decide +kernel
theorem dX7_run_132 : decode cX7_run 132 = .ok (.if_icmp .eq 9, 3) := by decide +kernel
theorem dX7_run_135 : decode cX7_run 135 = .ok (.iload 5, 2) := by decide +kernel
theorem dX7_run_137 : decode cX7_run 137 = .ok (.iconst 4, 1) := by decide +kernel
theorem dX7_run_138 : decode cX7_run 138 = .ok (.if_icmp .ne 54, 3) := by decide +kernel
theorem dX7_run_141 : decode cX7_run 141 = .ok (.aload_n 0, 1) := by decide +kernel
theorem dX7_run_142 : decode cX7_run 142 = .ok (.getfield 15, 3) := by decide +kernel
theorem dX7_run_145 : decode cX7_run 145 = .ok (.iload_n 3, 1) := by decide +kernel
theorem dX7_run_146 : decode cX7_run 146 = .ok (.iconst 1, 1) := by decide +kernel
theorem dX7_run_147 : decode cX7_run 147 = .ok (.isub, 1) := by decide +kernel
theorem dX7_run_148 : decode cX7_run 148 = .ok (.iaload, 1) := by decide +kernel
theorem dX7_run_149 : decode cX7_run 149 = .ok (.iconst 1, 1) := by decide +kernel
theorem dX7_run_150 : decode cX7_run 150 = .ok (.if_icmp .ne 7, 3) := by decide +kernel
theorem dX7_run_153 : decode cX7_run 153 = .ok (.iconst 1, 1) := by decide +kernel
theorem dX7_run_154 : decode cX7_run 154 = .ok (.goto 4, 3) := by decide +kernel
theorem dX7_run_157 : decode cX7_run 157 = .ok (.iconst 0, 1) := by decide +kernel
theorem dX7_run_158 : decode cX7_run 158 = .ok (.iload 5, 2) := by decide +kernel
theorem dX7_run_160 : decode cX7_run 160 = .ok (.iconst 4, 1) := by decide +kernel
theorem dX7_run_161 : decode cX7_run 161 = .ok (.if_icmp .ne 7, 3) := by decide +kernel
theorem dX7_run_164 : decode cX7_run 164 = .ok (.iconst 1, 1) := by decide +kernel
theorem dX7_run_165 : decode cX7_run 165 = .ok (.goto 4, 3) := by decide +kernel
theorem dX7_run_168 : decode cX7_run 168 = .ok (.iconst 0, 1) := by decide +kernel
theorem dX7_run_169 : decode cX7_run 169 = .ok (.if_icmp .ne 17, 3) := by decide +kernel
theorem dX7_run_172 : decode cX7_run 172 = .ok (.iload 4, 2) := by decide +kernel
theorem dX7_run_174 : decode cX7_run 174 = .ok (.iload 6, 2) := by decide +kernel
theorem dX7_run_176 : decode cX7_run 176 = .ok (.iconst 1, 1) := by decide +kernel
theorem dX7_run_177 : decode cX7_run 177 = .ok (.isub, 1) := by decide +kernel
theorem dX7_run_178 : decode cX7_run 178 = .ok (.invokestatic 78, 3) := by decide +kernel
theorem dX7_run_181 : decode cX7_run 181 = .ok (.istore 4, 2) := by decide +kernel
theorem dX7_run_183 : decode cX7_run 183 = .ok (.goto 47, 3) := by decide +kernel
theorem dX7_run_186 : decode cX7_run 186 = .ok (.iinc 3 (-1), 3) := by decide +kernel
theorem dX7_run_189 : decode cX7_run 189 = .ok (.goto 41, 3) := by decide +kernel
theorem dX7_run_192 : decode cX7_run 192 = .ok (.iload_n 3, 1) := by decide +kernel
theorem dX7_run_193 : decode cX7_run 193 = .ok (.iconst 2, 1) := by decide +kernel
theorem dX7_run_194 : decode cX7_run 194 = .ok (.if_icmp .ge 5, 3) := by decide +kernel
theorem dX7_run_197 : decode cX7_run 197 = .ok (.iconst 0, 1) := by decide +kernel
theorem dX7_run_198 : decode cX7_run 198 = .ok (.ireturn, 1) := by decide +kernel
theorem dX7_run_199 : decode cX7_run 199 = .ok (.iinc 3 (-1), 3) := by decide +kernel
theorem dX7_run_202 : decode cX7_run 202 = .ok (.aload_n 0, 1) := by decide +kernel
theorem dX7_run_203 : decode cX7_run 203 = .ok (.getfield 15, 3) := by decide +kernel
theorem dX7_run_206 : decode cX7_run 206 = .ok (.iload_n 3, 1) := by decide +kernel
theorem dX7_run_207 : decode cX7_run 207 = .ok (.iconst 1, 1) := by decide +kernel
theorem dX7_run_208 : decode cX7_run 208 = .ok (.isub, 1) := by decide +kernel
theorem dX7_run_209 : decode cX7_run 209 = .ok (.aload_n 0, 1) := by decide +kernel
theorem dX7_run_210 : decode cX7_run 210 = .ok (.iload 5, 2) := by decide +kernel
theorem dX7_run_212 : decode cX7_run 212 = .ok (.aload_n 0, 1) := by decide +kernel
theorem dX7_run_213 : decode cX7_run 213 = .ok (.getfield 15, 3) := by decide +kernel
theorem dX7_run_216 : decode cX7_run 216 = .ok (.iload_n 3, 1) := by decide +kernel
theorem dX7_run_217 : decode cX7_run 217 = .ok (.iconst 1, 1) := by decide +kernel
theorem dX7_run_218 : decode cX7_run 218 = .ok (.isub, 1) := by decide +kernel
theorem dX7_run_219 : decode cX7_run 219 = .ok (.iaload, 1) := by decide +kernel
theorem dX7_run_220 : decode cX7_run 220 = .ok (.aload_n 0, 1) := by decide +kernel
theorem dX7_run_221 : decode cX7_run 221 = .ok (.getfield 15, 3) := by decide +kernel
theorem dX7_run_224 : decode cX7_run 224 = .ok (.iload_n 3, 1) := by decide +kernel
theorem dX7_run_225 : decode cX7_run 225 = .ok (.iaload, 1) := by decide +kernel
theorem dX7_run_226 : decode cX7_run 226 = .ok (.invokevirtual 93, 3) := by decide +kernel
theorem dX7_run_229 : decode cX7_run 229 = .ok (.iastore, 1) := by decide +kernel
theorem dX7_run_230 : decode cX7_run 230 = .ok (.aload_n 0, 1) := by decide +kernel
theorem dX7_run_231 : decode cX7_run 231 = .ok (.getfield 81, 3) := by decide +kernel
theorem dX7_run_234 : decode cX7_run 234 = .ok (.ifCond .eq 5, 3) := by decide +kernel
theorem dX7_run_237 : decode cX7_run 237 = .ok (.iconst 0, 1) := by decide +kernel
theorem dX7_run_238 : decode cX7_run 238 = .ok (.ireturn, 1) := by decide +kernel
theorem dX7_run_239 : decode cX7_run 239 = .ok (.iinc 4 1, 3) := by decide +kernel
theorem dX7_run_242 : decode cX7_run 242 = .ok (.goto (-232), 3) := by decide +kernel
theorem dX7_run_245 : decode cX7_run 245 = .ok (.iload_n 3, 1) := by decide +kernel
theorem dX7_run_246 : decode cX7_run 246 = .ok (.ifCond .le 12, 3) := by decide +kernel
theorem dX7_run_249 : decode cX7_run 249 = .ok (.aload_n 0, 1) := by decide +kernel
theorem dX7_run_250 : decode cX7_run 250 = .ok (.getfield 15, 3) := by decide +kernel
theorem dX7_run_253 : decode cX7_run 253 = .ok (.iconst 0, 1) := by decide +kernel
theorem dX7_run_254 : decode cX7_run 254 = .ok (.iaload, 1) := by decide +kernel
theorem dX7_run_255 : decode cX7_run 255 = .ok (.goto 4, 3) := by decide +kernel
theorem dX7_run_258 : decode cX7_run 258 = .ok (.iconst 0, 1) := by decide +kernel
theorem dX7_run_259 : decode cX7_run 259 = .ok (.ireturn, 1) := by decide +kernel
theorem dX7_firstHolding_0 : decode cX7_firstHolding 0 = .ok (.iconst 0, 1) := by decide +kernel
theorem dX7_firstHolding_1 : decode cX7_firstHolding 1 = .ok (.istore_n 3, 1) := by decide +kernel
theorem dX7_firstHolding_2 : decode cX7_firstHolding 2 = .ok (.iload_n 3, 1) := by decide +kernel
theorem dX7_firstHolding_3 : decode cX7_firstHolding 3 = .ok (.aload_n 0, 1) := by decide +kernel
theorem dX7_firstHolding_4 : decode cX7_firstHolding 4 = .ok (.getfield 21, 3) := by decide +kernel
theorem dX7_firstHolding_7 : decode cX7_firstHolding 7 = .ok (.getfield 32, 3) := by decide +kernel
theorem dX7_firstHolding_10 : decode cX7_firstHolding 10 = .ok (.if_icmp .ge 99, 3) := by decide +kernel
theorem dX7_firstHolding_13 : decode cX7_firstHolding 13 = .ok (.iload_n 3, 1) := by decide +kernel
theorem dX7_firstHolding_14 : decode cX7_firstHolding 14 = .ok (.bipush 14, 2) := by decide +kernel
theorem dX7_firstHolding_16 : decode cX7_firstHolding 16 = .ok (.if_icmp .ge 93, 3) := by decide +kernel
theorem dX7_firstHolding_19 : decode cX7_firstHolding 19 = .ok (.aload_n 0, 1) := by decide +kernel
theorem dX7_firstHolding_20 : decode cX7_firstHolding 20 = .ok (.getfield 21, 3) := by decide +kernel
theorem dX7_firstHolding_23 : decode cX7_firstHolding 23 = .ok (.getfield 57, 3) := by decide +kernel
theorem dX7_firstHolding_26 : decode cX7_firstHolding 26 = .ok (.iload_n 3, 1) := by decide +kernel
theorem dX7_firstHolding_27 : decode cX7_firstHolding 27 = .ok (.iaload, 1) := by decide +kernel
theorem dX7_firstHolding_28 : decode cX7_firstHolding 28 = .ok (.iload_n 1, 1) := by decide +kernel
theorem dX7_firstHolding_29 : decode cX7_firstHolding 29 = .ok (.if_icmp .ne 74, 3) := by decide +kernel
theorem dX7_firstHolding_32 : decode cX7_firstHolding 32 = .ok (.aload_n 0, 1) := by decide +kernel
theorem dX7_firstHolding_33 : decode cX7_firstHolding 33 = .ok (.aload_n 0, 1) := by decide +kernel
theorem dX7_firstHolding_34 : decode cX7_firstHolding 34 = .ok (.getfield 21, 3) := by decide +kernel
theorem dX7_firstHolding_37 : decode cX7_firstHolding 37 = .ok (.getfield 60, 3) := by decide +kernel
theorem dX7_firstHolding_40 : decode cX7_firstHolding 40 = .ok (.iload_n 3, 1) := by decide +kernel
theorem dX7_firstHolding_41 : decode cX7_firstHolding 41 = .ok (.iaload, 1) := by decide +kernel
theorem dX7_firstHolding_42 : decode cX7_firstHolding 42 = .ok (.aload_n 0, 1) := by decide +kernel
theorem dX7_firstHolding_43 : decode cX7_firstHolding 43 = .ok (.getfield 21, 3) := by decide +kernel
theorem dX7_firstHolding_46 : decode cX7_firstHolding 46 = .ok (.iload_n 3, 1) := by decide +kernel
theorem dX7_firstHolding_47 : decode cX7_firstHolding 47 = .ok (.invokevirtual 63, 3) := by decide +kernel
theorem dX7_firstHolding_50 : decode cX7_firstHolding 50 = .ok (.invokevirtual 67, 3) := by decide +kernel
theorem dX7_firstHolding_53 : decode cX7_firstHolding 53 = .ok (.ifCond .eq 7, 3) := by decide +kernel
theorem dX7_firstHolding_56 : decode cX7_firstHolding 56 = .ok (.iconst 1, 1) := by decide +kernel
theorem dX7_firstHolding_57 : decode cX7_firstHolding 57 = .ok (.goto 4, 3) := by decide +kernel
theorem dX7_firstHolding_60 : decode cX7_firstHolding 60 = .ok (.iconst 0, 1) := by decide +kernel
theorem dX7_firstHolding_61 : decode cX7_firstHolding 61 = .ok (.istore 4, 2) := by decide +kernel
theorem dX7_firstHolding_63 : decode cX7_firstHolding 63 = .ok (.iload 4, 2) := by decide +kernel
theorem dX7_firstHolding_65 : decode cX7_firstHolding 65 = .ok (.ifCond .eq 38, 3) := by decide +kernel
theorem dX7_firstHolding_68 : decode cX7_firstHolding 68 = .ok (.aload_n 0, 1) := by decide +kernel
theorem dX7_firstHolding_69 : decode cX7_firstHolding 69 = .ok (.aload_n 0, 1) := by decide +kernel
theorem dX7_firstHolding_70 : decode cX7_firstHolding 70 = .ok (.getfield 21, 3) := by decide +kernel
theorem dX7_firstHolding_73 : decode cX7_firstHolding 73 = .ok (.getfield 70, 3) := by decide +kernel
theorem dX7_firstHolding_76 : decode cX7_firstHolding 76 = .ok (.iload_n 3, 1) := by decide +kernel
theorem dX7_firstHolding_77 : decode cX7_firstHolding 77 = .ok (.iaload, 1) := by decide +kernel
theorem dX7_firstHolding_78 : decode cX7_firstHolding 78 = .ok (.aload_n 0, 1) := by decide +kernel
theorem dX7_firstHolding_79 : decode cX7_firstHolding 79 = .ok (.getfield 21, 3) := by decide +kernel
theorem dX7_firstHolding_82 : decode cX7_firstHolding 82 = .ok (.getfield 60, 3) := by decide +kernel
theorem dX7_firstHolding_85 : decode cX7_firstHolding 85 = .ok (.iload_n 3, 1) := by decide +kernel
theorem dX7_firstHolding_86 : decode cX7_firstHolding 86 = .ok (.iaload, 1) := by decide +kernel
theorem dX7_firstHolding_87 : decode cX7_firstHolding 87 = .ok (.invokevirtual 67, 3) := by decide +kernel
theorem dX7_firstHolding_90 : decode cX7_firstHolding 90 = .ok (.istore 5, 2) := by decide +kernel
theorem dX7_firstHolding_92 : decode cX7_firstHolding 92 = .ok (.iconst 0, 1) := by decide +kernel
theorem dX7_firstHolding_93 : decode cX7_firstHolding 93 = .ok (.iload_n 2, 1) := by decide +kernel
theorem dX7_firstHolding_94 : decode cX7_firstHolding 94 = .ok (.iload 5, 2) := by decide +kernel
theorem dX7_firstHolding_96 : decode cX7_firstHolding 96 = .ok (.invokestatic 73, 3) := by decide +kernel
theorem dX7_firstHolding_99 : decode cX7_firstHolding 99 = .ok (.invokestatic 78, 3) := by decide +kernel
theorem dX7_firstHolding_102 : decode cX7_firstHolding 102 = .ok (.ireturn, 1) := by decide +kernel
theorem dX7_firstHolding_103 : decode cX7_firstHolding 103 = .ok (.iinc 3 1, 3) := by decide +kernel
theorem dX7_firstHolding_106 : decode cX7_firstHolding 106 = .ok (.goto (-104), 3) := by decide +kernel
theorem dX7_firstHolding_109 : decode cX7_firstHolding 109 = .ok (.iconst 0, 1) := by decide +kernel
theorem dX7_firstHolding_110 : decode cX7_firstHolding 110 = .ok (.ireturn, 1) := by decide +kernel
theorem dX7_set_0 : decode cX7_set 0 = .ok (.aload_n 0, 1) := by decide +kernel
theorem dX7_set_1 : decode cX7_set 1 = .ok (.getfield 9, 3) := by decide +kernel
theorem dX7_set_4 : decode cX7_set 4 = .ok (.iconst 0, 1) := by decide +kernel
theorem dX7_set_5 : decode cX7_set 5 = .ok (.iload_n 1, 1) := by decide +kernel
theorem dX7_set_6 : decode cX7_set 6 = .ok (.iastore, 1) := by decide +kernel
theorem dX7_set_7 : decode cX7_set 7 = .ok (.aload_n 0, 1) := by decide +kernel
theorem dX7_set_8 : decode cX7_set 8 = .ok (.getfield 9, 3) := by decide +kernel
theorem dX7_set_11 : decode cX7_set 11 = .ok (.iconst 1, 1) := by decide +kernel
theorem dX7_set_12 : decode cX7_set 12 = .ok (.iload_n 2, 1) := by decide +kernel
theorem dX7_set_13 : decode cX7_set 13 = .ok (.iastore, 1) := by decide +kernel
theorem dX7_set_14 : decode cX7_set 14 = .ok (.aload_n 0, 1) := by decide +kernel
theorem dX7_set_15 : decode cX7_set 15 = .ok (.getfield 9, 3) := by decide +kernel
theorem dX7_set_18 : decode cX7_set 18 = .ok (.iconst 2, 1) := by decide +kernel
theorem dX7_set_19 : decode cX7_set 19 = .ok (.iload_n 3, 1) := by decide +kernel
theorem dX7_set_20 : decode cX7_set 20 = .ok (.iastore, 1) := by decide +kernel
theorem dX7_set_21 : decode cX7_set 21 = .ok (.aload_n 0, 1) := by decide +kernel
theorem dX7_set_22 : decode cX7_set 22 = .ok (.getfield 9, 3) := by decide +kernel
theorem dX7_set_25 : decode cX7_set 25 = .ok (.iconst 3, 1) := by decide +kernel
theorem dX7_set_26 : decode cX7_set 26 = .ok (.iload 4, 2) := by decide +kernel
theorem dX7_set_28 : decode cX7_set 28 = .ok (.iastore, 1) := by decide +kernel
theorem dX7_set_29 : decode cX7_set 29 = .ok (.aload_n 0, 1) := by decide +kernel
theorem dX7_set_30 : decode cX7_set 30 = .ok (.getfield 9, 3) := by decide +kernel
theorem dX7_set_33 : decode cX7_set 33 = .ok (.iconst 4, 1) := by decide +kernel
theorem dX7_set_34 : decode cX7_set 34 = .ok (.iload_n 2, 1) := by decide +kernel
theorem dX7_set_35 : decode cX7_set 35 = .ok (.iload_n 3, 1) := by decide +kernel
theorem dX7_set_36 : decode cX7_set 36 = .ok (.if_icmp .ne 7, 3) := by decide +kernel
theorem dX7_set_39 : decode cX7_set 39 = .ok (.iconst 1, 1) := by decide +kernel
theorem dX7_set_40 : decode cX7_set 40 = .ok (.goto 4, 3) := by decide +kernel
theorem dX7_set_43 : decode cX7_set 43 = .ok (.iconst 0, 1) := by decide +kernel
theorem dX7_set_44 : decode cX7_set 44 = .ok (.iastore, 1) := by decide +kernel
theorem dX7_set_45 : decode cX7_set 45 = .ok (.aload_n 0, 1) := by decide +kernel
theorem dX7_set_46 : decode cX7_set 46 = .ok (.getfield 9, 3) := by decide +kernel
theorem dX7_set_49 : decode cX7_set 49 = .ok (.iconst 5, 1) := by decide +kernel
theorem dX7_set_50 : decode cX7_set 50 = .ok (.iload 6, 2) := by decide +kernel
theorem dX7_set_52 : decode cX7_set 52 = .ok (.iastore, 1) := by decide +kernel
theorem dX7_set_53 : decode cX7_set 53 = .ok (.aload_n 0, 1) := by decide +kernel
theorem dX7_set_54 : decode cX7_set 54 = .ok (.getfield 9, 3) := by decide +kernel
theorem dX7_set_57 : decode cX7_set 57 = .ok (.bipush 6, 2) := by decide +kernel
theorem dX7_set_59 : decode cX7_set 59 = .ok (.iload 5, 2) := by decide +kernel
theorem dX7_set_61 : decode cX7_set 61 = .ok (.iastore, 1) := by decide +kernel
theorem dX7_set_62 : decode cX7_set 62 = .ok (.aload_n 0, 1) := by decide +kernel
theorem dX7_set_63 : decode cX7_set 63 = .ok (.getfield 9, 3) := by decide +kernel
theorem dX7_set_66 : decode cX7_set 66 = .ok (.bipush 7, 2) := by decide +kernel
theorem dX7_set_68 : decode cX7_set 68 = .ok (.iconst 0, 1) := by decide +kernel
theorem dX7_set_69 : decode cX7_set 69 = .ok (.iastore, 1) := by decide +kernel
theorem dX7_set_70 : decode cX7_set 70 = .ok (.aload_n 0, 1) := by decide +kernel
theorem dX7_set_71 : decode cX7_set 71 = .ok (.getfield 9, 3) := by decide +kernel
theorem dX7_set_74 : decode cX7_set 74 = .ok (.bipush 8, 2) := by decide +kernel
theorem dX7_set_76 : decode cX7_set 76 = .ok (.iconst 0, 1) := by decide +kernel
theorem dX7_set_77 : decode cX7_set 77 = .ok (.iastore, 1) := by decide +kernel
theorem dX7_set_78 : decode cX7_set 78 = .ok (.aload_n 0, 1) := by decide +kernel
theorem dX7_set_79 : decode cX7_set 79 = .ok (.getfield 9, 3) := by decide +kernel
theorem dX7_set_82 : decode cX7_set 82 = .ok (.bipush 9, 2) := by decide +kernel
theorem dX7_set_84 : decode cX7_set 84 = .ok (.iconst 0, 1) := by decide +kernel
theorem dX7_set_85 : decode cX7_set 85 = .ok (.iastore, 1) := by decide +kernel
theorem dX7_set_86 : decode cX7_set 86 = .ok (.return_, 1) := by decide +kernel
theorem dX7_inCrowd_0 : decode cX7_inCrowd 0 = .ok (.aload_n 0, 1) := by decide +kernel
theorem dX7_inCrowd_1 : decode cX7_inCrowd 1 = .ok (.iload_n 1, 1) := by decide +kernel
theorem dX7_inCrowd_2 : decode cX7_inCrowd 2 = .ok (.iload_n 2, 1) := by decide +kernel
theorem dX7_inCrowd_3 : decode cX7_inCrowd 3 = .ok (.iload_n 3, 1) := by decide +kernel
theorem dX7_inCrowd_4 : decode cX7_inCrowd 4 = .ok (.iload 4, 2) := by decide +kernel
theorem dX7_inCrowd_6 : decode cX7_inCrowd 6 = .ok (.iload_n 2, 1) := by decide +kernel
theorem dX7_inCrowd_7 : decode cX7_inCrowd 7 = .ok (.iconst 0, 1) := by decide +kernel
theorem dX7_inCrowd_8 : decode cX7_inCrowd 8 = .ok (.invokevirtual 42, 3) := by decide +kernel
theorem dX7_inCrowd_11 : decode cX7_inCrowd 11 = .ok (.aload_n 0, 1) := by decide +kernel
theorem dX7_inCrowd_12 : decode cX7_inCrowd 12 = .ok (.bipush 109, 2) := by decide +kernel
theorem dX7_inCrowd_14 : decode cX7_inCrowd 14 = .ok (.bipush 31, 2) := by decide +kernel
theorem dX7_inCrowd_16 : decode cX7_inCrowd 16 = .ok (.invokevirtual 46, 3) := by decide +kernel
theorem dX7_inCrowd_19 : decode cX7_inCrowd 19 = .ok (.ireturn, 1) := by decide +kernel
theorem dX1_askBehind_0 : decode cX1_askBehind 0 = .ok (.aload_n 0, 1) := by decide +kernel
theorem dX1_askBehind_1 : decode cX1_askBehind 1 = .ok (.getfield 11, 3) := by decide +kernel
theorem dX1_askBehind_4 : decode cX1_askBehind 4 = .ok (.iload_n 1, 1) := by decide +kernel
theorem dX1_askBehind_5 : decode cX1_askBehind 5 = .ok (.bipush 21, 2) := by decide +kernel
theorem dX1_askBehind_7 : decode cX1_askBehind 7 = .ok (.idiv, 1) := by decide +kernel
theorem dX1_askBehind_8 : decode cX1_askBehind 8 = .ok (.iaload, 1) := by decide +kernel
theorem dX1_askBehind_9 : decode cX1_askBehind 9 = .ok (.istore_n 3, 1) := by decide +kernel
theorem dX1_askBehind_10 : decode cX1_askBehind 10 = .ok (.iload_n 1, 1) := by decide +kernel
theorem dX1_askBehind_11 : decode cX1_askBehind 11 = .ok (.bipush 21, 2) := by decide +kernel
theorem dX1_askBehind_13 : decode cX1_askBehind 13 = .ok (.irem, 1) := by decide +kernel
theorem dX1_askBehind_14 : decode cX1_askBehind 14 = .ok (.ifCond .ne 8, 3) := by decide +kernel
theorem dX1_askBehind_17 : decode cX1_askBehind 17 = .ok (.bipush 63, 2) := by decide +kernel
theorem dX1_askBehind_19 : decode cX1_askBehind 19 = .ok (.goto 7, 3) := by decide +kernel
theorem dX1_askBehind_22 : decode cX1_askBehind 22 = .ok (.iload_n 1, 1) := by decide +kernel
theorem dX1_askBehind_23 : decode cX1_askBehind 23 = .ok (.bipush 21, 2) := by decide +kernel
theorem dX1_askBehind_25 : decode cX1_askBehind 25 = .ok (.irem, 1) := by decide +kernel
theorem dX1_askBehind_26 : decode cX1_askBehind 26 = .ok (.istore 4, 2) := by decide +kernel
theorem dX1_askBehind_28 : decode cX1_askBehind 28 = .ok (.aload_n 0, 1) := by decide +kernel
theorem dX1_askBehind_29 : decode cX1_askBehind 29 = .ok (.getfield 37, 3) := by decide +kernel
theorem dX1_askBehind_32 : decode cX1_askBehind 32 = .ok (.aload_n 0, 1) := by decide +kernel
theorem dX1_askBehind_33 : decode cX1_askBehind 33 = .ok (.getfield 11, 3) := by decide +kernel
theorem dX1_askBehind_36 : decode cX1_askBehind 36 = .ok (.iload_n 2, 1) := by decide +kernel
theorem dX1_askBehind_37 : decode cX1_askBehind 37 = .ok (.iaload, 1) := by decide +kernel
theorem dX1_askBehind_38 : decode cX1_askBehind 38 = .ok (.invokevirtual 62, 3) := by decide +kernel
theorem dX1_askBehind_41 : decode cX1_askBehind 41 = .ok (.istore 5, 2) := by decide +kernel
theorem dX1_askBehind_43 : decode cX1_askBehind 43 = .ok (.iconst 1, 1) := by decide +kernel
theorem dX1_askBehind_44 : decode cX1_askBehind 44 = .ok (.istore 6, 2) := by decide +kernel
theorem dX1_askBehind_46 : decode cX1_askBehind 46 = .ok (.iload 6, 2) := by decide +kernel
theorem dX1_askBehind_48 : decode cX1_askBehind 48 = .ok (.bipush 20, 2) := by decide +kernel
theorem dX1_askBehind_50 : decode cX1_askBehind 50 = .ok (.if_icmp .gt 99, 3) := by decide +kernel
theorem dX1_askBehind_53 : decode cX1_askBehind 53 = .ok (.iload 5, 2) := by decide +kernel
theorem dX1_askBehind_55 : decode cX1_askBehind 55 = .ok (.ifCond .le 94, 3) := by decide +kernel
theorem dX1_askBehind_58 : decode cX1_askBehind 58 = .ok (.aload_n 0, 1) := by decide +kernel
theorem dX1_askBehind_59 : decode cX1_askBehind 59 = .ok (.getfield 41, 3) := by decide +kernel
theorem dX1_askBehind_62 : decode cX1_askBehind 62 = .ok (.iload 6, 2) := by decide +kernel
theorem dX1_askBehind_64 : decode cX1_askBehind 64 = .ok (.aload_n 0, 1) := by decide +kernel
theorem dX1_askBehind_65 : decode cX1_askBehind 65 = .ok (.getfield 11, 3) := by decide +kernel
theorem dX1_askBehind_68 : decode cX1_askBehind 68 = .ok (.iload_n 2, 1) := by decide +kernel
theorem dX1_askBehind_69 : decode cX1_askBehind 69 = .ok (.iaload, 1) := by decide +kernel
theorem dX1_askBehind_70 : decode cX1_askBehind 70 = .ok (.iload_n 3, 1) := by decide +kernel
theorem dX1_askBehind_71 : decode cX1_askBehind 71 = .ok (.iload 4, 2) := by decide +kernel
theorem dX1_askBehind_73 : decode cX1_askBehind 73 = .ok (.invokevirtual 76, 3) := by decide +kernel
theorem dX1_askBehind_76 : decode cX1_askBehind 76 = .ok (.istore 7, 2) := by decide +kernel
theorem dX1_askBehind_78 : decode cX1_askBehind 78 = .ok (.iconst 0, 1) := by decide +kernel
theorem dX1_askBehind_79 : decode cX1_askBehind 79 = .ok (.istore 8, 2) := by decide +kernel
theorem dX1_askBehind_81 : decode cX1_askBehind 81 = .ok (.iload 8, 2) := by decide +kernel
theorem dX1_askBehind_83 : decode cX1_askBehind 83 = .ok (.iload 5, 2) := by decide +kernel
theorem dX1_askBehind_85 : decode cX1_askBehind 85 = .ok (.if_icmp .ge 58, 3) := by decide +kernel
theorem dX1_askBehind_88 : decode cX1_askBehind 88 = .ok (.aload_n 0, 1) := by decide +kernel
theorem dX1_askBehind_89 : decode cX1_askBehind 89 = .ok (.getfield 37, 3) := by decide +kernel
theorem dX1_askBehind_92 : decode cX1_askBehind 92 = .ok (.aload_n 0, 1) := by decide +kernel
theorem dX1_askBehind_93 : decode cX1_askBehind 93 = .ok (.getfield 11, 3) := by decide +kernel
theorem dX1_askBehind_96 : decode cX1_askBehind 96 = .ok (.iload_n 2, 1) := by decide +kernel
theorem dX1_askBehind_97 : decode cX1_askBehind 97 = .ok (.iaload, 1) := by decide +kernel
theorem dX1_askBehind_98 : decode cX1_askBehind 98 = .ok (.iload 8, 2) := by decide +kernel
theorem dX1_askBehind_100 : decode cX1_askBehind 100 = .ok (.invokevirtual 72, 3) := by decide +kernel
theorem dX1_askBehind_103 : decode cX1_askBehind 103 = .ok (.iload 7, 2) := by decide +kernel
theorem dX1_askBehind_105 : decode cX1_askBehind 105 = .ok (.if_icmp .ne 32, 3) := by decide +kernel
theorem dX1_askBehind_108 : decode cX1_askBehind 108 = .ok (.aload_n 0, 1) := by decide +kernel
theorem dX1_askBehind_109 : decode cX1_askBehind 109 = .ok (.getfield 15, 3) := by decide +kernel
theorem dX1_askBehind_112 : decode cX1_askBehind 112 = .ok (.iload_n 1, 1) := by decide +kernel
theorem dX1_askBehind_113 : decode cX1_askBehind 113 = .ok (.iconst 4, 1) := by decide +kernel
theorem dX1_askBehind_114 : decode cX1_askBehind 114 = .ok (.imul, 1) := by decide +kernel
theorem dX1_askBehind_115 : decode cX1_askBehind 115 = .ok (.iload_n 2, 1) := by decide +kernel
theorem dX1_askBehind_116 : decode cX1_askBehind 116 = .ok (.iadd, 1) := by decide +kernel
theorem dX1_askBehind_117 : decode cX1_askBehind 117 = .ok (.iconst 4, 1) := by decide +kernel
theorem dX1_askBehind_118 : decode cX1_askBehind 118 = .ok (.imul, 1) := by decide +kernel
theorem dX1_askBehind_119 : decode cX1_askBehind 119 = .ok (.iload 8, 2) := by decide +kernel
theorem dX1_askBehind_121 : decode cX1_askBehind 121 = .ok (.iadd, 1) := by decide +kernel
theorem dX1_askBehind_122 : decode cX1_askBehind 122 = .ok (.dup2, 1) := by decide +kernel
theorem dX1_askBehind_123 : decode cX1_askBehind 123 = .ok (.iaload, 1) := by decide +kernel
theorem dX1_askBehind_124 : decode cX1_askBehind 124 = .ok (.iconst 1, 1) := by decide +kernel
theorem dX1_askBehind_125 : decode cX1_askBehind 125 = .ok (.iload 6, 2) := by decide +kernel
theorem dX1_askBehind_127 : decode cX1_askBehind 127 = .ok (.ishl, 1) := by decide +kernel
theorem dX1_askBehind_128 : decode cX1_askBehind 128 = .ok (.ior, 1) := by decide +kernel
theorem dX1_askBehind_129 : decode cX1_askBehind 129 = .ok (.iastore, 1) := by decide +kernel
theorem dX1_askBehind_130 : decode cX1_askBehind 130 = .ok (.aload_n 0, 1) := by decide +kernel
theorem dX1_askBehind_131 : decode cX1_askBehind 131 = .ok (.iload_n 2, 1) := by decide +kernel
theorem dX1_askBehind_132 : decode cX1_askBehind 132 = .ok (.iload 6, 2) := by decide +kernel
theorem dX1_askBehind_134 : decode cX1_askBehind 134 = .ok (.invokevirtual 82, 3) := by decide +kernel
theorem dX1_askBehind_137 : decode cX1_askBehind 137 = .ok (.iinc 8 1, 3) := by decide +kernel
theorem dX1_askBehind_140 : decode cX1_askBehind 140 = .ok (.goto (-59), 3) := by decide +kernel
theorem dX1_askBehind_143 : decode cX1_askBehind 143 = .ok (.iinc 6 1, 3) := by decide +kernel
theorem dX1_askBehind_146 : decode cX1_askBehind 146 = .ok (.goto (-100), 3) := by decide +kernel
theorem dX1_askBehind_149 : decode cX1_askBehind 149 = .ok (.return_, 1) := by decide +kernel
theorem dX1_askGaps_0 : decode cX1_askGaps 0 = .ok (.iconst 0, 1) := by decide +kernel
theorem dX1_askGaps_1 : decode cX1_askGaps 1 = .ok (.istore_n 1, 1) := by decide +kernel
theorem dX1_askGaps_2 : decode cX1_askGaps 2 = .ok (.iload_n 1, 1) := by decide +kernel
theorem dX1_askGaps_3 : decode cX1_askGaps 3 = .ok (.aload_n 0, 1) := by decide +kernel
theorem dX1_askGaps_4 : decode cX1_askGaps 4 = .ok (.getfield 15, 3) := by decide +kernel
theorem dX1_askGaps_7 : decode cX1_askGaps 7 = .ok (.arraylength, 1) := by decide +kernel
theorem dX1_askGaps_8 : decode cX1_askGaps 8 = .ok (.if_icmp .ge 16, 3) := by decide +kernel
theorem dX1_askGaps_11 : decode cX1_askGaps 11 = .ok (.aload_n 0, 1) := by decide +kernel
theorem dX1_askGaps_12 : decode cX1_askGaps 12 = .ok (.getfield 15, 3) := by decide +kernel
theorem dX1_askGaps_15 : decode cX1_askGaps 15 = .ok (.iload_n 1, 1) := by decide +kernel
theorem dX1_askGaps_16 : decode cX1_askGaps 16 = .ok (.iconst 0, 1) := by decide +kernel
theorem dX1_askGaps_17 : decode cX1_askGaps 17 = .ok (.iastore, 1) := by decide +kernel
theorem dX1_askGaps_18 : decode cX1_askGaps 18 = .ok (.iinc 1 1, 3) := by decide +kernel
theorem dX1_askGaps_21 : decode cX1_askGaps 21 = .ok (.goto (-19), 3) := by decide +kernel
theorem dX1_askGaps_24 : decode cX1_askGaps 24 = .ok (.iconst 0, 1) := by decide +kernel
theorem dX1_askGaps_25 : decode cX1_askGaps 25 = .ok (.istore_n 1, 1) := by decide +kernel
theorem dX1_askGaps_26 : decode cX1_askGaps 26 = .ok (.iload_n 1, 1) := by decide +kernel
theorem dX1_askGaps_27 : decode cX1_askGaps 27 = .ok (.bipush 84, 2) := by decide +kernel
theorem dX1_askGaps_29 : decode cX1_askGaps 29 = .ok (.if_icmp .ge 16, 3) := by decide +kernel
theorem dX1_askGaps_32 : decode cX1_askGaps 32 = .ok (.aload_n 0, 1) := by decide +kernel
theorem dX1_askGaps_33 : decode cX1_askGaps 33 = .ok (.getfield 18, 3) := by decide +kernel
theorem dX1_askGaps_36 : decode cX1_askGaps 36 = .ok (.iload_n 1, 1) := by decide +kernel
theorem dX1_askGaps_37 : decode cX1_askGaps 37 = .ok (.iconst 0, 1) := by decide +kernel
theorem dX1_askGaps_38 : decode cX1_askGaps 38 = .ok (.bastore, 1) := by decide +kernel
theorem dX1_askGaps_39 : decode cX1_askGaps 39 = .ok (.iinc 1 1, 3) := by decide +kernel
theorem dX1_askGaps_42 : decode cX1_askGaps 42 = .ok (.goto (-16), 3) := by decide +kernel
theorem dX1_askGaps_45 : decode cX1_askGaps 45 = .ok (.aload_n 0, 1) := by decide +kernel
theorem dX1_askGaps_46 : decode cX1_askGaps 46 = .ok (.iconst 0, 1) := by decide +kernel
theorem dX1_askGaps_47 : decode cX1_askGaps 47 = .ok (.putfield 69, 3) := by decide +kernel
theorem dX1_askGaps_50 : decode cX1_askGaps 50 = .ok (.iconst 0, 1) := by decide +kernel
theorem dX1_askGaps_51 : decode cX1_askGaps 51 = .ok (.istore_n 1, 1) := by decide +kernel
theorem dX1_askGaps_52 : decode cX1_askGaps 52 = .ok (.iload_n 1, 1) := by decide +kernel
theorem dX1_askGaps_53 : decode cX1_askGaps 53 = .ok (.aload_n 0, 1) := by decide +kernel
theorem dX1_askGaps_54 : decode cX1_askGaps 54 = .ok (.getfield 56, 3) := by decide +kernel
theorem dX1_askGaps_57 : decode cX1_askGaps 57 = .ok (.if_icmp .ge 57, 3) := by decide +kernel
theorem dX1_askGaps_60 : decode cX1_askGaps 60 = .ok (.aload_n 0, 1) := by decide +kernel
theorem dX1_askGaps_61 : decode cX1_askGaps 61 = .ok (.getfield 37, 3) := by decide +kernel
theorem dX1_askGaps_64 : decode cX1_askGaps 64 = .ok (.aload_n 0, 1) := by decide +kernel
theorem dX1_askGaps_65 : decode cX1_askGaps 65 = .ok (.getfield 11, 3) := by decide +kernel
theorem dX1_askGaps_68 : decode cX1_askGaps 68 = .ok (.iload_n 1, 1) := by decide +kernel
theorem dX1_askGaps_69 : decode cX1_askGaps 69 = .ok (.iaload, 1) := by decide +kernel
theorem dX1_askGaps_70 : decode cX1_askGaps 70 = .ok (.iconst 0, 1) := by decide +kernel
theorem dX1_askGaps_71 : decode cX1_askGaps 71 = .ok (.invokevirtual 72, 3) := by decide +kernel
theorem dX1_askGaps_74 : decode cX1_askGaps 74 = .ok (.istore_n 2, 1) := by decide +kernel
theorem dX1_askGaps_75 : decode cX1_askGaps 75 = .ok (.iload_n 2, 1) := by decide +kernel
theorem dX1_askGaps_76 : decode cX1_askGaps 76 = .ok (.ifCond .eq 32, 3) := by decide +kernel
theorem dX1_askGaps_79 : decode cX1_askGaps 79 = .ok (.aload_n 0, 1) := by decide +kernel
theorem dX1_askGaps_80 : decode cX1_askGaps 80 = .ok (.getfield 41, 3) := by decide +kernel
theorem dX1_askGaps_83 : decode cX1_askGaps 83 = .ok (.bipush 63, 2) := by decide +kernel
theorem dX1_askGaps_85 : decode cX1_askGaps 85 = .ok (.aload_n 0, 1) := by decide +kernel
theorem dX1_askGaps_86 : decode cX1_askGaps 86 = .ok (.getfield 11, 3) := by decide +kernel
theorem dX1_askGaps_89 : decode cX1_askGaps 89 = .ok (.iload_n 1, 1) := by decide +kernel
theorem dX1_askGaps_90 : decode cX1_askGaps 90 = .ok (.iaload, 1) := by decide +kernel
theorem dX1_askGaps_91 : decode cX1_askGaps 91 = .ok (.bipush 8, 2) := by decide +kernel
theorem dX1_askGaps_93 : decode cX1_askGaps 93 = .ok (.bipush 63, 2) := by decide +kernel
theorem dX1_askGaps_95 : decode cX1_askGaps 95 = .ok (.invokevirtual 76, 3) := by decide +kernel
theorem dX1_askGaps_98 : decode cX1_askGaps 98 = .ok (.iload_n 2, 1) := by decide +kernel
theorem dX1_askGaps_99 : decode cX1_askGaps 99 = .ok (.if_icmp .ne 9, 3) := by decide +kernel
theorem dX1_askGaps_102 : decode cX1_askGaps 102 = .ok (.aload_n 0, 1) := by decide +kernel
theorem dX1_askGaps_103 : decode cX1_askGaps 103 = .ok (.iload_n 1, 1) := by decide +kernel
theorem dX1_askGaps_104 : decode cX1_askGaps 104 = .ok (.iconst 0, 1) := by decide +kernel
theorem dX1_askGaps_105 : decode cX1_askGaps 105 = .ok (.invokevirtual 82, 3) := by decide +kernel
theorem dX1_askGaps_108 : decode cX1_askGaps 108 = .ok (.iinc 1 1, 3) := by decide +kernel
theorem dX1_askGaps_111 : decode cX1_askGaps 111 = .ok (.goto (-59), 3) := by decide +kernel
theorem dX1_askGaps_114 : decode cX1_askGaps 114 = .ok (.iconst 0, 1) := by decide +kernel
theorem dX1_askGaps_115 : decode cX1_askGaps 115 = .ok (.istore_n 1, 1) := by decide +kernel
theorem dX1_askGaps_116 : decode cX1_askGaps 116 = .ok (.iload_n 1, 1) := by decide +kernel
theorem dX1_askGaps_117 : decode cX1_askGaps 117 = .ok (.aload_n 0, 1) := by decide +kernel
theorem dX1_askGaps_118 : decode cX1_askGaps 118 = .ok (.getfield 69, 3) := by decide +kernel
theorem dX1_askGaps_121 : decode cX1_askGaps 121 = .ok (.if_icmp .ge 42, 3) := by decide +kernel
theorem dX1_askGaps_124 : decode cX1_askGaps 124 = .ok (.iload_n 1, 1) := by decide +kernel
theorem dX1_askGaps_125 : decode cX1_askGaps 125 = .ok (.bipush 84, 2) := by decide +kernel
theorem dX1_askGaps_127 : decode cX1_askGaps 127 = .ok (.if_icmp .ge 36, 3) := by decide +kernel
theorem dX1_askGaps_130 : decode cX1_askGaps 130 = .ok (.iconst 0, 1) := by decide +kernel
theorem dX1_askGaps_131 : decode cX1_askGaps 131 = .ok (.istore_n 2, 1) := by decide +kernel
theorem dX1_askGaps_132 : decode cX1_askGaps 132 = .ok (.iload_n 2, 1) := by decide +kernel
theorem dX1_askGaps_133 : decode cX1_askGaps 133 = .ok (.aload_n 0, 1) := by decide +kernel
theorem dX1_askGaps_134 : decode cX1_askGaps 134 = .ok (.getfield 56, 3) := by decide +kernel
theorem dX1_askGaps_137 : decode cX1_askGaps 137 = .ok (.if_icmp .ge 20, 3) := by decide +kernel
theorem dX1_askGaps_140 : decode cX1_askGaps 140 = .ok (.aload_n 0, 1) := by decide +kernel
theorem dX1_askGaps_141 : decode cX1_askGaps 141 = .ok (.aload_n 0, 1) := by decide +kernel
theorem dX1_askGaps_142 : decode cX1_askGaps 142 = .ok (.getfield 22, 3) := by decide +kernel
theorem dX1_askGaps_145 : decode cX1_askGaps 145 = .ok (.iload_n 1, 1) := by decide +kernel
theorem dX1_askGaps_146 : decode cX1_askGaps 146 = .ok (.iaload, 1) := by decide +kernel
theorem dX1_askGaps_147 : decode cX1_askGaps 147 = .ok (.iload_n 2, 1) := by decide +kernel
theorem dX1_askGaps_148 : decode cX1_askGaps 148 = .ok (.invokevirtual 86, 3) := by decide +kernel
theorem dX1_askGaps_151 : decode cX1_askGaps 151 = .ok (.iinc 2 1, 3) := by decide +kernel
theorem dX1_askGaps_154 : decode cX1_askGaps 154 = .ok (.goto (-22), 3) := by decide +kernel
theorem dX1_askGaps_157 : decode cX1_askGaps 157 = .ok (.iinc 1 1, 3) := by decide +kernel
theorem dX1_askGaps_160 : decode cX1_askGaps 160 = .ok (.goto (-44), 3) := by decide +kernel
theorem dX1_askGaps_163 : decode cX1_askGaps 163 = .ok (.return_, 1) := by decide +kernel
theorem dX1_fittingGaps_0 : decode cX1_fittingGaps 0 = .ok (.iload_n 1, 1) := by decide +kernel
theorem dX1_fittingGaps_1 : decode cX1_fittingGaps 1 = .ok (.bipush 21, 2) := by decide +kernel
theorem dX1_fittingGaps_3 : decode cX1_fittingGaps 3 = .ok (.imul, 1) := by decide +kernel
theorem dX1_fittingGaps_4 : decode cX1_fittingGaps 4 = .ok (.iload_n 2, 1) := by decide +kernel
theorem dX1_fittingGaps_5 : decode cX1_fittingGaps 5 = .ok (.iadd, 1) := by decide +kernel
theorem dX1_fittingGaps_6 : decode cX1_fittingGaps 6 = .ok (.iconst 4, 1) := by decide +kernel
theorem dX1_fittingGaps_7 : decode cX1_fittingGaps 7 = .ok (.imul, 1) := by decide +kernel
theorem dX1_fittingGaps_8 : decode cX1_fittingGaps 8 = .ok (.iload_n 3, 1) := by decide +kernel
theorem dX1_fittingGaps_9 : decode cX1_fittingGaps 9 = .ok (.iadd, 1) := by decide +kernel
theorem dX1_fittingGaps_10 : decode cX1_fittingGaps 10 = .ok (.iconst 4, 1) := by decide +kernel
theorem dX1_fittingGaps_11 : decode cX1_fittingGaps 11 = .ok (.imul, 1) := by decide +kernel
theorem dX1_fittingGaps_12 : decode cX1_fittingGaps 12 = .ok (.iload 4, 2) := by decide +kernel
theorem dX1_fittingGaps_14 : decode cX1_fittingGaps 14 = .ok (.iadd, 1) := by decide +kernel
theorem dX1_fittingGaps_15 : decode cX1_fittingGaps 15 = .ok (.istore 5, 2) := by decide +kernel
theorem dX1_fittingGaps_17 : decode cX1_fittingGaps 17 = .ok (.iload 4, 2) := by decide +kernel
theorem dX1_fittingGaps_19 : decode cX1_fittingGaps 19 = .ok (.ifCond .lt 34, 3) := by decide +kernel
theorem dX1_fittingGaps_22 : decode cX1_fittingGaps 22 = .ok (.iload 4, 2) := by decide +kernel
theorem dX1_fittingGaps_24 : decode cX1_fittingGaps 24 = .ok (.iconst 4, 1) := by decide +kernel
theorem dX1_fittingGaps_25 : decode cX1_fittingGaps 25 = .ok (.if_icmp .ge 28, 3) := by decide +kernel
theorem dX1_fittingGaps_28 : decode cX1_fittingGaps 28 = .ok (.iload 5, 2) := by decide +kernel
theorem dX1_fittingGaps_30 : decode cX1_fittingGaps 30 = .ok (.ifCond .lt 23, 3) := by decide +kernel
theorem dX1_fittingGaps_33 : decode cX1_fittingGaps 33 = .ok (.iload 5, 2) := by decide +kernel
theorem dX1_fittingGaps_35 : decode cX1_fittingGaps 35 = .ok (.aload_n 0, 1) := by decide +kernel
theorem dX1_fittingGaps_36 : decode cX1_fittingGaps 36 = .ok (.getfield 15, 3) := by decide +kernel
theorem dX1_fittingGaps_39 : decode cX1_fittingGaps 39 = .ok (.arraylength, 1) := by decide +kernel
theorem dX1_fittingGaps_40 : decode cX1_fittingGaps 40 = .ok (.if_icmp .ge 13, 3) := by decide +kernel
theorem dX1_fittingGaps_43 : decode cX1_fittingGaps 43 = .ok (.aload_n 0, 1) := by decide +kernel
theorem dX1_fittingGaps_44 : decode cX1_fittingGaps 44 = .ok (.getfield 15, 3) := by decide +kernel
theorem dX1_fittingGaps_47 : decode cX1_fittingGaps 47 = .ok (.iload 5, 2) := by decide +kernel
theorem dX1_fittingGaps_49 : decode cX1_fittingGaps 49 = .ok (.iaload, 1) := by decide +kernel
theorem dX1_fittingGaps_50 : decode cX1_fittingGaps 50 = .ok (.goto 4, 3) := by decide +kernel
theorem dX1_fittingGaps_53 : decode cX1_fittingGaps 53 = .ok (.iconst 0, 1) := by decide +kernel
theorem dX1_fittingGaps_54 : decode cX1_fittingGaps 54 = .ok (.ireturn, 1) := by decide +kernel
theorem dX1_wordsOut_0 : decode cX1_wordsOut 0 = .ok (.iload_n 2, 1) := by decide +kernel
theorem dX1_wordsOut_1 : decode cX1_wordsOut 1 = .ok (.ifCond .lt 20, 3) := by decide +kernel
theorem dX1_wordsOut_4 : decode cX1_wordsOut 4 = .ok (.iload_n 2, 1) := by decide +kernel
theorem dX1_wordsOut_5 : decode cX1_wordsOut 5 = .ok (.iconst 4, 1) := by decide +kernel
theorem dX1_wordsOut_6 : decode cX1_wordsOut 6 = .ok (.if_icmp .ge 15, 3) := by decide +kernel
theorem dX1_wordsOut_9 : decode cX1_wordsOut 9 = .ok (.iload_n 1, 1) := by decide +kernel
theorem dX1_wordsOut_10 : decode cX1_wordsOut 10 = .ok (.getstatic 66, 3) := by decide +kernel
theorem dX1_wordsOut_13 : decode cX1_wordsOut 13 = .ok (.iload_n 2, 1) := by decide +kernel
theorem dX1_wordsOut_14 : decode cX1_wordsOut 14 = .ok (.iaload, 1) := by decide +kernel
theorem dX1_wordsOut_15 : decode cX1_wordsOut 15 = .ok (.idiv, 1) := by decide +kernel
theorem dX1_wordsOut_16 : decode cX1_wordsOut 16 = .ok (.iconst 5, 1) := by decide +kernel
theorem dX1_wordsOut_17 : decode cX1_wordsOut 17 = .ok (.irem, 1) := by decide +kernel
theorem dX1_wordsOut_18 : decode cX1_wordsOut 18 = .ok (.goto 4, 3) := by decide +kernel
theorem dX1_wordsOut_21 : decode cX1_wordsOut 21 = .ok (.iconst 0, 1) := by decide +kernel
theorem dX1_wordsOut_22 : decode cX1_wordsOut 22 = .ok (.ireturn, 1) := by decide +kernel
theorem dX1_cost_0 : decode cX1_cost 0 = .ok (.iload_n 1, 1) := by decide +kernel
theorem dX1_cost_1 : decode cX1_cost 1 = .ok (.aload_n 0, 1) := by decide +kernel
theorem dX1_cost_2 : decode cX1_cost 2 = .ok (.getfield 56, 3) := by decide +kernel
theorem dX1_cost_5 : decode cX1_cost 5 = .ok (.imul, 1) := by decide +kernel
theorem dX1_cost_6 : decode cX1_cost 6 = .ok (.iload_n 2, 1) := by decide +kernel
theorem dX1_cost_7 : decode cX1_cost 7 = .ok (.iadd, 1) := by decide +kernel
theorem dX1_cost_8 : decode cX1_cost 8 = .ok (.bipush 21, 2) := by decide +kernel
theorem dX1_cost_10 : decode cX1_cost 10 = .ok (.imul, 1) := by decide +kernel
theorem dX1_cost_11 : decode cX1_cost 11 = .ok (.iload_n 3, 1) := by decide +kernel
theorem dX1_cost_12 : decode cX1_cost 12 = .ok (.iadd, 1) := by decide +kernel
theorem dX1_cost_13 : decode cX1_cost 13 = .ok (.istore 5, 2) := by decide +kernel
theorem dX1_cost_15 : decode cX1_cost 15 = .ok (.iload 4, 2) := by decide +kernel
theorem dX1_cost_17 : decode cX1_cost 17 = .ok (.ifCond .le 18, 3) := by decide +kernel
theorem dX1_cost_20 : decode cX1_cost 20 = .ok (.iload 5, 2) := by decide +kernel
theorem dX1_cost_22 : decode cX1_cost 22 = .ok (.ifCond .lt 13, 3) := by decide +kernel
theorem dX1_cost_25 : decode cX1_cost 25 = .ok (.iload 5, 2) := by decide +kernel
theorem dX1_cost_27 : decode cX1_cost 27 = .ok (.aload_n 0, 1) := by decide +kernel
theorem dX1_cost_28 : decode cX1_cost 28 = .ok (.getfield 34, 3) := by decide +kernel
theorem dX1_cost_31 : decode cX1_cost 31 = .ok (.arraylength, 1) := by decide +kernel
theorem dX1_cost_32 : decode cX1_cost 32 = .ok (.if_icmp .lt 15, 3) := by decide +kernel
theorem dX1_cost_35 : decode cX1_cost 35 = .ok (.iload 4, 2) := by decide +kernel
theorem dX1_cost_37 : decode cX1_cost 37 = .ok (.ifCond .gt 7, 3) := by decide +kernel
theorem dX1_cost_40 : decode cX1_cost 40 = .ok (.iconst 0, 1) := by decide +kernel
theorem dX1_cost_41 : decode cX1_cost 41 = .ok (.goto 5, 3) := by decide +kernel
theorem dX1_cost_44 : decode cX1_cost 44 = .ok (.ldc 52, 2) := by decide +kernel
theorem dX1_cost_46 : decode cX1_cost 46 = .ok (.ireturn, 1) := by decide +kernel
theorem dX1_cost_47 : decode cX1_cost 47 = .ok (.aload_n 0, 1) := by decide +kernel
theorem dX1_cost_48 : decode cX1_cost 48 = .ok (.getfield 34, 3) := by decide +kernel
theorem dX1_cost_51 : decode cX1_cost 51 = .ok (.iload 5, 2) := by decide +kernel
theorem dX1_cost_53 : decode cX1_cost 53 = .ok (.iaload, 1) := by decide +kernel
theorem dX1_cost_54 : decode cX1_cost 54 = .ok (.iconst (-1), 1) := by decide +kernel
theorem dX1_cost_55 : decode cX1_cost 55 = .ok (.if_icmp .eq 11, 3) := by decide +kernel
theorem dX1_cost_58 : decode cX1_cost 58 = .ok (.aload_n 0, 1) := by decide +kernel
theorem dX1_cost_59 : decode cX1_cost 59 = .ok (.getfield 34, 3) := by decide +kernel
theorem dX1_cost_62 : decode cX1_cost 62 = .ok (.iload 5, 2) := by decide +kernel
theorem dX1_cost_64 : decode cX1_cost 64 = .ok (.iaload, 1) := by decide +kernel
theorem dX1_cost_65 : decode cX1_cost 65 = .ok (.ireturn, 1) := by decide +kernel
theorem dX1_cost_66 : decode cX1_cost 66 = .ok (.ldc 52, 2) := by decide +kernel
theorem dX1_cost_68 : decode cX1_cost 68 = .ok (.istore 6, 2) := by decide +kernel
theorem dX1_cost_70 : decode cX1_cost 70 = .ok (.iconst 0, 1) := by decide +kernel
theorem dX1_cost_71 : decode cX1_cost 71 = .ok (.istore 7, 2) := by decide +kernel
theorem dX1_cost_73 : decode cX1_cost 73 = .ok (.iload 7, 2) := by decide +kernel
theorem dX1_cost_75 : decode cX1_cost 75 = .ok (.aload_n 0, 1) := by decide +kernel
theorem dX1_cost_76 : decode cX1_cost 76 = .ok (.getfield 56, 3) := by decide +kernel
theorem dX1_cost_79 : decode cX1_cost 79 = .ok (.if_icmp .ge 94, 3) := by decide +kernel
theorem dX1_cost_82 : decode cX1_cost 82 = .ok (.aload_n 0, 1) := by decide +kernel
theorem dX1_cost_83 : decode cX1_cost 83 = .ok (.iload_n 2, 1) := by decide +kernel
theorem dX1_cost_84 : decode cX1_cost 84 = .ok (.iload_n 3, 1) := by decide +kernel
theorem dX1_cost_85 : decode cX1_cost 85 = .ok (.iload 7, 2) := by decide +kernel
theorem dX1_cost_87 : decode cX1_cost 87 = .ok (.aload_n 0, 1) := by decide +kernel
theorem dX1_cost_88 : decode cX1_cost 88 = .ok (.iload_n 1, 1) := by decide +kernel
theorem dX1_cost_89 : decode cX1_cost 89 = .ok (.iload 7, 2) := by decide +kernel
theorem dX1_cost_91 : decode cX1_cost 91 = .ok (.invokevirtual 100, 3) := by decide +kernel
theorem dX1_cost_94 : decode cX1_cost 94 = .ok (.invokevirtual 103, 3) := by decide +kernel
theorem dX1_cost_97 : decode cX1_cost 97 = .ok (.istore 8, 2) := by decide +kernel
theorem dX1_cost_99 : decode cX1_cost 99 = .ok (.iconst 1, 1) := by decide +kernel
theorem dX1_cost_100 : decode cX1_cost 100 = .ok (.istore 9, 2) := by decide +kernel
theorem dX1_cost_102 : decode cX1_cost 102 = .ok (.iload 9, 2) := by decide +kernel
theorem dX1_cost_104 : decode cX1_cost 104 = .ok (.bipush 20, 2) := by decide +kernel
theorem dX1_cost_106 : decode cX1_cost 106 = .ok (.if_icmp .gt 61, 3) := by decide +kernel
theorem dX1_cost_109 : decode cX1_cost 109 = .ok (.iload 9, 2) := by decide +kernel
theorem dX1_cost_111 : decode cX1_cost 111 = .ok (.iload 4, 2) := by decide +kernel
theorem dX1_cost_113 : decode cX1_cost 113 = .ok (.iadd, 1) := by decide +kernel
theorem dX1_cost_114 : decode cX1_cost 114 = .ok (.iconst 1, 1) := by decide +kernel
theorem dX1_cost_115 : decode cX1_cost 115 = .ok (.isub, 1) := by decide +kernel
theorem dX1_cost_116 : decode cX1_cost 116 = .ok (.iload 6, 2) := by decide +kernel
theorem dX1_cost_118 : decode cX1_cost 118 = .ok (.if_icmp .ge 49, 3) := by decide +kernel
theorem dX1_cost_121 : decode cX1_cost 121 = .ok (.iload 8, 2) := by decide +kernel
theorem dX1_cost_123 : decode cX1_cost 123 = .ok (.iload 9, 2) := by decide +kernel
theorem dX1_cost_125 : decode cX1_cost 125 = .ok (.ishr, 1) := by decide +kernel
theorem dX1_cost_126 : decode cX1_cost 126 = .ok (.iconst 1, 1) := by decide +kernel
theorem dX1_cost_127 : decode cX1_cost 127 = .ok (.iand, 1) := by decide +kernel
theorem dX1_cost_128 : decode cX1_cost 128 = .ok (.ifCond .eq 33, 3) := by decide +kernel
theorem dX1_cost_131 : decode cX1_cost 131 = .ok (.iload 6, 2) := by decide +kernel
theorem dX1_cost_133 : decode cX1_cost 133 = .ok (.iload 9, 2) := by decide +kernel
theorem dX1_cost_135 : decode cX1_cost 135 = .ok (.aload_n 0, 1) := by decide +kernel
theorem dX1_cost_136 : decode cX1_cost 136 = .ok (.iload_n 1, 1) := by decide +kernel
theorem dX1_cost_137 : decode cX1_cost 137 = .ok (.getstatic 66, 3) := by decide +kernel
theorem dX1_cost_140 : decode cX1_cost 140 = .ok (.iload 7, 2) := by decide +kernel
theorem dX1_cost_142 : decode cX1_cost 142 = .ok (.iaload, 1) := by decide +kernel
theorem dX1_cost_143 : decode cX1_cost 143 = .ok (.iadd, 1) := by decide +kernel
theorem dX1_cost_144 : decode cX1_cost 144 = .ok (.iload 7, 2) := by decide +kernel
theorem dX1_cost_146 : decode cX1_cost 146 = .ok (.iload 9, 2) := by decide +kernel
theorem dX1_cost_148 : decode cX1_cost 148 = .ok (.iload 4, 2) := by decide +kernel
theorem dX1_cost_150 : decode cX1_cost 150 = .ok (.iconst 1, 1) := by decide +kernel
theorem dX1_cost_151 : decode cX1_cost 151 = .ok (.isub, 1) := by decide +kernel
theorem dX1_cost_152 : decode cX1_cost 152 = .ok (.invokevirtual 97, 3) := by decide +kernel
theorem dX1_cost_155 : decode cX1_cost 155 = .ok (.iadd, 1) := by decide +kernel
theorem dX1_cost_156 : decode cX1_cost 156 = .ok (.invokestatic 92, 3) := by decide +kernel
theorem dX1_cost_159 : decode cX1_cost 159 = .ok (.istore 6, 2) := by decide +kernel
theorem dX1_cost_161 : decode cX1_cost 161 = .ok (.iinc 9 1, 3) := by decide +kernel
theorem dX1_cost_164 : decode cX1_cost 164 = .ok (.goto (-62), 3) := by decide +kernel
theorem dX1_cost_167 : decode cX1_cost 167 = .ok (.iinc 7 1, 3) := by decide +kernel
theorem dX1_cost_170 : decode cX1_cost 170 = .ok (.goto (-97), 3) := by decide +kernel
theorem dX1_cost_173 : decode cX1_cost 173 = .ok (.aload_n 0, 1) := by decide +kernel
theorem dX1_cost_174 : decode cX1_cost 174 = .ok (.getfield 34, 3) := by decide +kernel
theorem dX1_cost_177 : decode cX1_cost 177 = .ok (.iload 5, 2) := by decide +kernel
theorem dX1_cost_179 : decode cX1_cost 179 = .ok (.iload 6, 2) := by decide +kernel
theorem dX1_cost_181 : decode cX1_cost 181 = .ok (.iastore, 1) := by decide +kernel
theorem dX1_cost_182 : decode cX1_cost 182 = .ok (.iload 6, 2) := by decide +kernel
theorem dX1_cost_184 : decode cX1_cost 184 = .ok (.ireturn, 1) := by decide +kernel
theorem dX1_costBegunBy_0 : decode cX1_costBegunBy 0 = .ok (.aload_n 0, 1) := by decide +kernel
theorem dX1_costBegunBy_1 : decode cX1_costBegunBy 1 = .ok (.getfield 18, 3) := by decide +kernel
theorem dX1_costBegunBy_4 : decode cX1_costBegunBy 4 = .ok (.iload_n 1, 1) := by decide +kernel
theorem dX1_costBegunBy_5 : decode cX1_costBegunBy 5 = .ok (.bipush 21, 2) := by decide +kernel
theorem dX1_costBegunBy_7 : decode cX1_costBegunBy 7 = .ok (.imul, 1) := by decide +kernel
theorem dX1_costBegunBy_8 : decode cX1_costBegunBy 8 = .ok (.baload, 1) := by decide +kernel
theorem dX1_costBegunBy_9 : decode cX1_costBegunBy 9 = .ok (.ifCond .eq 23, 3) := by decide +kernel
theorem dX1_costBegunBy_12 : decode cX1_costBegunBy 12 = .ok (.aload_n 0, 1) := by decide +kernel
theorem dX1_costBegunBy_13 : decode cX1_costBegunBy 13 = .ok (.getstatic 66, 3) := by decide +kernel
theorem dX1_costBegunBy_16 : decode cX1_costBegunBy 16 = .ok (.iload_n 1, 1) := by decide +kernel
theorem dX1_costBegunBy_17 : decode cX1_costBegunBy 17 = .ok (.iaload, 1) := by decide +kernel
theorem dX1_costBegunBy_18 : decode cX1_costBegunBy 18 = .ok (.iload_n 1, 1) := by decide +kernel
theorem dX1_costBegunBy_19 : decode cX1_costBegunBy 19 = .ok (.iconst 0, 1) := by decide +kernel
theorem dX1_costBegunBy_20 : decode cX1_costBegunBy 20 = .ok (.aload_n 0, 1) := by decide +kernel
theorem dX1_costBegunBy_21 : decode cX1_costBegunBy 21 = .ok (.getfield 53, 3) := by decide +kernel
theorem dX1_costBegunBy_24 : decode cX1_costBegunBy 24 = .ok (.iconst 1, 1) := by decide +kernel
theorem dX1_costBegunBy_25 : decode cX1_costBegunBy 25 = .ok (.isub, 1) := by decide +kernel
theorem dX1_costBegunBy_26 : decode cX1_costBegunBy 26 = .ok (.invokevirtual 97, 3) := by decide +kernel
theorem dX1_costBegunBy_29 : decode cX1_costBegunBy 29 = .ok (.goto 5, 3) := by decide +kernel
theorem dX1_costBegunBy_32 : decode cX1_costBegunBy 32 = .ok (.ldc 52, 2) := by decide +kernel
theorem dX1_costBegunBy_34 : decode cX1_costBegunBy 34 = .ok (.ireturn, 1) := by decide +kernel
theorem dX1_findLeast_0 : decode cX1_findLeast 0 = .ok (.aload_n 0, 1) := by decide +kernel
theorem dX1_findLeast_1 : decode cX1_findLeast 1 = .ok (.aload_n 0, 1) := by decide +kernel
theorem dX1_findLeast_2 : decode cX1_findLeast 2 = .ok (.getfield 53, 3) := by decide +kernel
theorem dX1_findLeast_5 : decode cX1_findLeast 5 = .ok (.ifCond .ne 7, 3) := by decide +kernel
theorem dX1_findLeast_8 : decode cX1_findLeast 8 = .ok (.iconst 0, 1) := by decide +kernel
theorem dX1_findLeast_9 : decode cX1_findLeast 9 = .ok (.goto 5, 3) := by decide +kernel
theorem dX1_findLeast_12 : decode cX1_findLeast 12 = .ok (.ldc 52, 2) := by decide +kernel
theorem dX1_findLeast_14 : decode cX1_findLeast 14 = .ok (.putfield 49, 3) := by decide +kernel
theorem dX1_findLeast_17 : decode cX1_findLeast 17 = .ok (.iconst 0, 1) := by decide +kernel
theorem dX1_findLeast_18 : decode cX1_findLeast 18 = .ok (.istore_n 1, 1) := by decide +kernel
theorem dX1_findLeast_19 : decode cX1_findLeast 19 = .ok (.iload_n 1, 1) := by decide +kernel
theorem dX1_findLeast_20 : decode cX1_findLeast 20 = .ok (.aload_n 0, 1) := by decide +kernel
theorem dX1_findLeast_21 : decode cX1_findLeast 21 = .ok (.getfield 56, 3) := by decide +kernel
theorem dX1_findLeast_24 : decode cX1_findLeast 24 = .ok (.if_icmp .ge 25, 3) := by decide +kernel
theorem dX1_findLeast_27 : decode cX1_findLeast 27 = .ok (.aload_n 0, 1) := by decide +kernel
theorem dX1_findLeast_28 : decode cX1_findLeast 28 = .ok (.aload_n 0, 1) := by decide +kernel
theorem dX1_findLeast_29 : decode cX1_findLeast 29 = .ok (.getfield 49, 3) := by decide +kernel
theorem dX1_findLeast_32 : decode cX1_findLeast 32 = .ok (.aload_n 0, 1) := by decide +kernel
theorem dX1_findLeast_33 : decode cX1_findLeast 33 = .ok (.iload_n 1, 1) := by decide +kernel
theorem dX1_findLeast_34 : decode cX1_findLeast 34 = .ok (.invokevirtual 89, 3) := by decide +kernel
theorem dX1_findLeast_37 : decode cX1_findLeast 37 = .ok (.invokestatic 92, 3) := by decide +kernel
theorem dX1_findLeast_40 : decode cX1_findLeast 40 = .ok (.putfield 49, 3) := by decide +kernel
theorem dX1_findLeast_43 : decode cX1_findLeast 43 = .ok (.iinc 1 1, 3) := by decide +kernel
theorem dX1_findLeast_46 : decode cX1_findLeast 46 = .ok (.goto (-27), 3) := by decide +kernel
theorem dX1_findLeast_49 : decode cX1_findLeast 49 = .ok (.return_, 1) := by decide +kernel
theorem dX1_losslessGaps_0 : decode cX1_losslessGaps 0 = .ok (.iconst 0, 1) := by decide +kernel
theorem dX1_losslessGaps_1 : decode cX1_losslessGaps 1 = .ok (.istore 6, 2) := by decide +kernel
theorem dX1_losslessGaps_3 : decode cX1_losslessGaps 3 = .ok (.iconst 0, 1) := by decide +kernel
theorem dX1_losslessGaps_4 : decode cX1_losslessGaps 4 = .ok (.istore 7, 2) := by decide +kernel
theorem dX1_losslessGaps_6 : decode cX1_losslessGaps 6 = .ok (.iload 7, 2) := by decide +kernel
theorem dX1_losslessGaps_8 : decode cX1_losslessGaps 8 = .ok (.bipush 21, 2) := by decide +kernel
theorem dX1_losslessGaps_10 : decode cX1_losslessGaps 10 = .ok (.if_icmp .ge 135, 3) := by decide +kernel
theorem dX1_losslessGaps_13 : decode cX1_losslessGaps 13 = .ok (.iload_n 1, 1) := by decide +kernel
theorem dX1_losslessGaps_14 : decode cX1_losslessGaps 14 = .ok (.iload 7, 2) := by decide +kernel
theorem dX1_losslessGaps_16 : decode cX1_losslessGaps 16 = .ok (.ishr, 1) := by decide +kernel
theorem dX1_losslessGaps_17 : decode cX1_losslessGaps 17 = .ok (.iconst 1, 1) := by decide +kernel
theorem dX1_losslessGaps_18 : decode cX1_losslessGaps 18 = .ok (.iand, 1) := by decide +kernel
theorem dX1_losslessGaps_19 : decode cX1_losslessGaps 19 = .ok (.ifCond .eq 120, 3) := by decide +kernel
theorem dX1_losslessGaps_22 : decode cX1_losslessGaps 22 = .ok (.aload_n 0, 1) := by decide +kernel
theorem dX1_losslessGaps_23 : decode cX1_losslessGaps 23 = .ok (.iload_n 2, 1) := by decide +kernel
theorem dX1_losslessGaps_24 : decode cX1_losslessGaps 24 = .ok (.iload_n 3, 1) := by decide +kernel
theorem dX1_losslessGaps_25 : decode cX1_losslessGaps 25 = .ok (.iload 7, 2) := by decide +kernel
theorem dX1_losslessGaps_27 : decode cX1_losslessGaps 27 = .ok (.iload 5, 2) := by decide +kernel
theorem dX1_losslessGaps_29 : decode cX1_losslessGaps 29 = .ok (.invokevirtual 97, 3) := by decide +kernel
theorem dX1_losslessGaps_32 : decode cX1_losslessGaps 32 = .ok (.istore 8, 2) := by decide +kernel
theorem dX1_losslessGaps_34 : decode cX1_losslessGaps 34 = .ok (.aload_n 0, 1) := by decide +kernel
theorem dX1_losslessGaps_35 : decode cX1_losslessGaps 35 = .ok (.iload_n 3, 1) := by decide +kernel
theorem dX1_losslessGaps_36 : decode cX1_losslessGaps 36 = .ok (.iload 7, 2) := by decide +kernel
theorem dX1_losslessGaps_38 : decode cX1_losslessGaps 38 = .ok (.iload 4, 2) := by decide +kernel
theorem dX1_losslessGaps_40 : decode cX1_losslessGaps 40 = .ok (.aload_n 0, 1) := by decide +kernel
theorem dX1_losslessGaps_41 : decode cX1_losslessGaps 41 = .ok (.iload_n 2, 1) := by decide +kernel
theorem dX1_losslessGaps_42 : decode cX1_losslessGaps 42 = .ok (.iload 4, 2) := by decide +kernel
theorem dX1_losslessGaps_44 : decode cX1_losslessGaps 44 = .ok (.invokevirtual 100, 3) := by decide +kernel
theorem dX1_losslessGaps_47 : decode cX1_losslessGaps 47 = .ok (.invokevirtual 103, 3) := by decide +kernel
theorem dX1_losslessGaps_50 : decode cX1_losslessGaps 50 = .ok (.istore 9, 2) := by decide +kernel
theorem dX1_losslessGaps_52 : decode cX1_losslessGaps 52 = .ok (.iconst 1, 1) := by decide +kernel
theorem dX1_losslessGaps_53 : decode cX1_losslessGaps 53 = .ok (.istore 10, 2) := by decide +kernel
theorem dX1_losslessGaps_55 : decode cX1_losslessGaps 55 = .ok (.iload 10, 2) := by decide +kernel
theorem dX1_losslessGaps_57 : decode cX1_losslessGaps 57 = .ok (.bipush 20, 2) := by decide +kernel
theorem dX1_losslessGaps_59 : decode cX1_losslessGaps 59 = .ok (.if_icmp .gt 80, 3) := by decide +kernel
theorem dX1_losslessGaps_62 : decode cX1_losslessGaps 62 = .ok (.iload 10, 2) := by decide +kernel
theorem dX1_losslessGaps_64 : decode cX1_losslessGaps 64 = .ok (.iload 5, 2) := by decide +kernel
theorem dX1_losslessGaps_66 : decode cX1_losslessGaps 66 = .ok (.iadd, 1) := by decide +kernel
theorem dX1_losslessGaps_67 : decode cX1_losslessGaps 67 = .ok (.iconst 1, 1) := by decide +kernel
theorem dX1_losslessGaps_68 : decode cX1_losslessGaps 68 = .ok (.isub, 1) := by decide +kernel
theorem dX1_losslessGaps_69 : decode cX1_losslessGaps 69 = .ok (.iload 8, 2) := by decide +kernel
theorem dX1_losslessGaps_71 : decode cX1_losslessGaps 71 = .ok (.if_icmp .gt 68, 3) := by decide +kernel
theorem dX1_losslessGaps_74 : decode cX1_losslessGaps 74 = .ok (.iload 9, 2) := by decide +kernel
theorem dX1_losslessGaps_76 : decode cX1_losslessGaps 76 = .ok (.iload 10, 2) := by decide +kernel
theorem dX1_losslessGaps_78 : decode cX1_losslessGaps 78 = .ok (.ishr, 1) := by decide +kernel
theorem dX1_losslessGaps_79 : decode cX1_losslessGaps 79 = .ok (.iconst 1, 1) := by decide +kernel
theorem dX1_losslessGaps_80 : decode cX1_losslessGaps 80 = .ok (.iand, 1) := by decide +kernel
theorem dX1_losslessGaps_81 : decode cX1_losslessGaps 81 = .ok (.ifCond .eq 7, 3) := by decide +kernel
theorem dX1_losslessGaps_84 : decode cX1_losslessGaps 84 = .ok (.iconst 1, 1) := by decide +kernel
theorem dX1_losslessGaps_85 : decode cX1_losslessGaps 85 = .ok (.goto 4, 3) := by decide +kernel
theorem dX1_losslessGaps_88 : decode cX1_losslessGaps 88 = .ok (.iconst 0, 1) := by decide +kernel
theorem dX1_losslessGaps_89 : decode cX1_losslessGaps 89 = .ok (.istore 11, 2) := by decide +kernel
theorem dX1_losslessGaps_91 : decode cX1_losslessGaps 91 = .ok (.iload 11, 2) := by decide +kernel
theorem dX1_losslessGaps_93 : decode cX1_losslessGaps 93 = .ok (.ifCond .eq 40, 3) := by decide +kernel
theorem dX1_losslessGaps_96 : decode cX1_losslessGaps 96 = .ok (.iload 10, 2) := by decide +kernel
theorem dX1_losslessGaps_98 : decode cX1_losslessGaps 98 = .ok (.aload_n 0, 1) := by decide +kernel
theorem dX1_losslessGaps_99 : decode cX1_losslessGaps 99 = .ok (.iload_n 2, 1) := by decide +kernel
theorem dX1_losslessGaps_100 : decode cX1_losslessGaps 100 = .ok (.getstatic 66, 3) := by decide +kernel
theorem dX1_losslessGaps_103 : decode cX1_losslessGaps 103 = .ok (.iload 4, 2) := by decide +kernel
theorem dX1_losslessGaps_105 : decode cX1_losslessGaps 105 = .ok (.iaload, 1) := by decide +kernel
theorem dX1_losslessGaps_106 : decode cX1_losslessGaps 106 = .ok (.iadd, 1) := by decide +kernel
theorem dX1_losslessGaps_107 : decode cX1_losslessGaps 107 = .ok (.iload 4, 2) := by decide +kernel
theorem dX1_losslessGaps_109 : decode cX1_losslessGaps 109 = .ok (.iload 10, 2) := by decide +kernel
theorem dX1_losslessGaps_111 : decode cX1_losslessGaps 111 = .ok (.iload 5, 2) := by decide +kernel
theorem dX1_losslessGaps_113 : decode cX1_losslessGaps 113 = .ok (.iconst 1, 1) := by decide +kernel
theorem dX1_losslessGaps_114 : decode cX1_losslessGaps 114 = .ok (.isub, 1) := by decide +kernel
theorem dX1_losslessGaps_115 : decode cX1_losslessGaps 115 = .ok (.invokevirtual 97, 3) := by decide +kernel
theorem dX1_losslessGaps_118 : decode cX1_losslessGaps 118 = .ok (.iadd, 1) := by decide +kernel
theorem dX1_losslessGaps_119 : decode cX1_losslessGaps 119 = .ok (.iload 8, 2) := by decide +kernel
theorem dX1_losslessGaps_121 : decode cX1_losslessGaps 121 = .ok (.if_icmp .ne 12, 3) := by decide +kernel
theorem dX1_losslessGaps_124 : decode cX1_losslessGaps 124 = .ok (.iload 6, 2) := by decide +kernel
theorem dX1_losslessGaps_126 : decode cX1_losslessGaps 126 = .ok (.iconst 1, 1) := by decide +kernel
theorem dX1_losslessGaps_127 : decode cX1_losslessGaps 127 = .ok (.iload 10, 2) := by decide +kernel
theorem dX1_losslessGaps_129 : decode cX1_losslessGaps 129 = .ok (.ishl, 1) := by decide +kernel
theorem dX1_losslessGaps_130 : decode cX1_losslessGaps 130 = .ok (.ior, 1) := by decide +kernel
theorem dX1_losslessGaps_131 : decode cX1_losslessGaps 131 = .ok (.istore 6, 2) := by decide +kernel
theorem dX1_losslessGaps_133 : decode cX1_losslessGaps 133 = .ok (.iinc 10 1, 3) := by decide +kernel
theorem dX1_losslessGaps_136 : decode cX1_losslessGaps 136 = .ok (.goto (-81), 3) := by decide +kernel
theorem dX1_losslessGaps_139 : decode cX1_losslessGaps 139 = .ok (.iinc 7 1, 3) := by decide +kernel
theorem dX1_losslessGaps_142 : decode cX1_losslessGaps 142 = .ok (.goto (-136), 3) := by decide +kernel
theorem dX1_losslessGaps_145 : decode cX1_losslessGaps 145 = .ok (.iload 6, 2) := by decide +kernel
theorem dX1_losslessGaps_147 : decode cX1_losslessGaps 147 = .ok (.ireturn, 1) := by decide +kernel
theorem dX1_findSpeakers_0 : decode cX1_findSpeakers 0 = .ok (.aload_n 0, 1) := by decide +kernel
theorem dX1_findSpeakers_1 : decode cX1_findSpeakers 1 = .ok (.invokevirtual 106, 3) := by decide +kernel
theorem dX1_findSpeakers_4 : decode cX1_findSpeakers 4 = .ok (.ifCond .eq 10, 3) := by decide +kernel
theorem dX1_findSpeakers_7 : decode cX1_findSpeakers 7 = .ok (.aload_n 0, 1) := by decide +kernel
theorem dX1_findSpeakers_8 : decode cX1_findSpeakers 8 = .ok (.getfield 53, 3) := by decide +kernel
theorem dX1_findSpeakers_11 : decode cX1_findSpeakers 11 = .ok (.ifCond .ne 4, 3) := by decide +kernel
theorem dX1_findSpeakers_14 : decode cX1_findSpeakers 14 = .ok (.return_, 1) := by decide +kernel
theorem dX1_findSpeakers_15 : decode cX1_findSpeakers 15 = .ok (.iconst 0, 1) := by decide +kernel
theorem dX1_findSpeakers_16 : decode cX1_findSpeakers 16 = .ok (.istore_n 1, 1) := by decide +kernel
theorem dX1_findSpeakers_17 : decode cX1_findSpeakers 17 = .ok (.iload_n 1, 1) := by decide +kernel
theorem dX1_findSpeakers_18 : decode cX1_findSpeakers 18 = .ok (.aload_n 0, 1) := by decide +kernel
theorem dX1_findSpeakers_19 : decode cX1_findSpeakers 19 = .ok (.getfield 56, 3) := by decide +kernel
theorem dX1_findSpeakers_22 : decode cX1_findSpeakers 22 = .ok (.iconst 1, 1) := by decide +kernel
theorem dX1_findSpeakers_23 : decode cX1_findSpeakers 23 = .ok (.isub, 1) := by decide +kernel
theorem dX1_findSpeakers_24 : decode cX1_findSpeakers 24 = .ok (.if_icmp .ge 21, 3) := by decide +kernel
theorem dX1_findSpeakers_27 : decode cX1_findSpeakers 27 = .ok (.aload_n 0, 1) := by decide +kernel
theorem dX1_findSpeakers_28 : decode cX1_findSpeakers 28 = .ok (.iload_n 1, 1) := by decide +kernel
theorem dX1_findSpeakers_29 : decode cX1_findSpeakers 29 = .ok (.invokevirtual 89, 3) := by decide +kernel
theorem dX1_findSpeakers_32 : decode cX1_findSpeakers 32 = .ok (.aload_n 0, 1) := by decide +kernel
theorem dX1_findSpeakers_33 : decode cX1_findSpeakers 33 = .ok (.getfield 49, 3) := by decide +kernel
theorem dX1_findSpeakers_36 : decode cX1_findSpeakers 36 = .ok (.if_icmp .eq 9, 3) := by decide +kernel
theorem dX1_findSpeakers_39 : decode cX1_findSpeakers 39 = .ok (.iinc 1 1, 3) := by decide +kernel
theorem dX1_findSpeakers_42 : decode cX1_findSpeakers 42 = .ok (.goto (-25), 3) := by decide +kernel
theorem dX1_findSpeakers_45 : decode cX1_findSpeakers 45 = .ok (.aload_n 0, 1) := by decide +kernel
theorem dX1_findSpeakers_46 : decode cX1_findSpeakers 46 = .ok (.getfield 25, 3) := by decide +kernel
theorem dX1_findSpeakers_49 : decode cX1_findSpeakers 49 = .ok (.iconst 0, 1) := by decide +kernel
theorem dX1_findSpeakers_50 : decode cX1_findSpeakers 50 = .ok (.iload_n 1, 1) := by decide +kernel
theorem dX1_findSpeakers_51 : decode cX1_findSpeakers 51 = .ok (.iastore, 1) := by decide +kernel
theorem dX1_findSpeakers_52 : decode cX1_findSpeakers 52 = .ok (.aload_n 0, 1) := by decide +kernel
theorem dX1_findSpeakers_53 : decode cX1_findSpeakers 53 = .ok (.getfield 31, 3) := by decide +kernel
theorem dX1_findSpeakers_56 : decode cX1_findSpeakers 56 = .ok (.iconst 0, 1) := by decide +kernel
theorem dX1_findSpeakers_57 : decode cX1_findSpeakers 57 = .ok (.iconst 1, 1) := by decide +kernel
theorem dX1_findSpeakers_58 : decode cX1_findSpeakers 58 = .ok (.iastore, 1) := by decide +kernel
theorem dX1_findSpeakers_59 : decode cX1_findSpeakers 59 = .ok (.getstatic 66, 3) := by decide +kernel
theorem dX1_findSpeakers_62 : decode cX1_findSpeakers 62 = .ok (.iload_n 1, 1) := by decide +kernel
theorem dX1_findSpeakers_63 : decode cX1_findSpeakers 63 = .ok (.iaload, 1) := by decide +kernel
theorem dX1_findSpeakers_64 : decode cX1_findSpeakers 64 = .ok (.istore_n 2, 1) := by decide +kernel
theorem dX1_findSpeakers_65 : decode cX1_findSpeakers 65 = .ok (.iconst 1, 1) := by decide +kernel
theorem dX1_findSpeakers_66 : decode cX1_findSpeakers 66 = .ok (.istore_n 3, 1) := by decide +kernel
theorem dX1_findSpeakers_67 : decode cX1_findSpeakers 67 = .ok (.iload_n 3, 1) := by decide +kernel
theorem dX1_findSpeakers_68 : decode cX1_findSpeakers 68 = .ok (.aload_n 0, 1) := by decide +kernel
theorem dX1_findSpeakers_69 : decode cX1_findSpeakers 69 = .ok (.getfield 53, 3) := by decide +kernel
theorem dX1_findSpeakers_72 : decode cX1_findSpeakers 72 = .ok (.if_icmp .ge 114, 3) := by decide +kernel
theorem dX1_findSpeakers_75 : decode cX1_findSpeakers 75 = .ok (.iconst 0, 1) := by decide +kernel
theorem dX1_findSpeakers_76 : decode cX1_findSpeakers 76 = .ok (.istore 4, 2) := by decide +kernel
theorem dX1_findSpeakers_78 : decode cX1_findSpeakers 78 = .ok (.aload_n 0, 1) := by decide +kernel
theorem dX1_findSpeakers_79 : decode cX1_findSpeakers 79 = .ok (.getfield 31, 3) := by decide +kernel
theorem dX1_findSpeakers_82 : decode cX1_findSpeakers 82 = .ok (.iload_n 3, 1) := by decide +kernel
theorem dX1_findSpeakers_83 : decode cX1_findSpeakers 83 = .ok (.aload_n 0, 1) := by decide +kernel
theorem dX1_findSpeakers_84 : decode cX1_findSpeakers 84 = .ok (.aload_n 0, 1) := by decide +kernel
theorem dX1_findSpeakers_85 : decode cX1_findSpeakers 85 = .ok (.getfield 31, 3) := by decide +kernel
theorem dX1_findSpeakers_88 : decode cX1_findSpeakers 88 = .ok (.iload_n 3, 1) := by decide +kernel
theorem dX1_findSpeakers_89 : decode cX1_findSpeakers 89 = .ok (.iconst 1, 1) := by decide +kernel
theorem dX1_findSpeakers_90 : decode cX1_findSpeakers 90 = .ok (.isub, 1) := by decide +kernel
theorem dX1_findSpeakers_91 : decode cX1_findSpeakers 91 = .ok (.iaload, 1) := by decide +kernel
theorem dX1_findSpeakers_92 : decode cX1_findSpeakers 92 = .ok (.iload_n 2, 1) := by decide +kernel
theorem dX1_findSpeakers_93 : decode cX1_findSpeakers 93 = .ok (.iload_n 1, 1) := by decide +kernel
theorem dX1_findSpeakers_94 : decode cX1_findSpeakers 94 = .ok (.iload 4, 2) := by decide +kernel
theorem dX1_findSpeakers_96 : decode cX1_findSpeakers 96 = .ok (.aload_n 0, 1) := by decide +kernel
theorem dX1_findSpeakers_97 : decode cX1_findSpeakers 97 = .ok (.getfield 53, 3) := by decide +kernel
theorem dX1_findSpeakers_100 : decode cX1_findSpeakers 100 = .ok (.iload_n 3, 1) := by decide +kernel
theorem dX1_findSpeakers_101 : decode cX1_findSpeakers 101 = .ok (.isub, 1) := by decide +kernel
theorem dX1_findSpeakers_102 : decode cX1_findSpeakers 102 = .ok (.invokevirtual 110, 3) := by decide +kernel
theorem dX1_findSpeakers_105 : decode cX1_findSpeakers 105 = .ok (.iastore, 1) := by decide +kernel
theorem dX1_findSpeakers_106 : decode cX1_findSpeakers 106 = .ok (.iload 4, 2) := by decide +kernel
theorem dX1_findSpeakers_108 : decode cX1_findSpeakers 108 = .ok (.aload_n 0, 1) := by decide +kernel
theorem dX1_findSpeakers_109 : decode cX1_findSpeakers 109 = .ok (.getfield 56, 3) := by decide +kernel
theorem dX1_findSpeakers_112 : decode cX1_findSpeakers 112 = .ok (.iconst 1, 1) := by decide +kernel
theorem dX1_findSpeakers_113 : decode cX1_findSpeakers 113 = .ok (.isub, 1) := by decide +kernel
theorem dX1_findSpeakers_114 : decode cX1_findSpeakers 114 = .ok (.if_icmp .ge 46, 3) := by decide +kernel
theorem dX1_findSpeakers_117 : decode cX1_findSpeakers 117 = .ok (.aload_n 0, 1) := by decide +kernel
theorem dX1_findSpeakers_118 : decode cX1_findSpeakers 118 = .ok (.getfield 31, 3) := by decide +kernel
theorem dX1_findSpeakers_121 : decode cX1_findSpeakers 121 = .ok (.iload_n 3, 1) := by decide +kernel
theorem dX1_findSpeakers_122 : decode cX1_findSpeakers 122 = .ok (.iaload, 1) := by decide +kernel
theorem dX1_findSpeakers_123 : decode cX1_findSpeakers 123 = .ok (.ifCond .ne 37, 3) := by decide +kernel
theorem dX1_findSpeakers_126 : decode cX1_findSpeakers 126 = .ok (.iinc 4 1, 3) := by decide +kernel
theorem dX1_findSpeakers_129 : decode cX1_findSpeakers 129 = .ok (.aload_n 0, 1) := by decide +kernel
theorem dX1_findSpeakers_130 : decode cX1_findSpeakers 130 = .ok (.getfield 31, 3) := by decide +kernel
theorem dX1_findSpeakers_133 : decode cX1_findSpeakers 133 = .ok (.iload_n 3, 1) := by decide +kernel
theorem dX1_findSpeakers_134 : decode cX1_findSpeakers 134 = .ok (.aload_n 0, 1) := by decide +kernel
theorem dX1_findSpeakers_135 : decode cX1_findSpeakers 135 = .ok (.aload_n 0, 1) := by decide +kernel
theorem dX1_findSpeakers_136 : decode cX1_findSpeakers 136 = .ok (.getfield 31, 3) := by decide +kernel
theorem dX1_findSpeakers_139 : decode cX1_findSpeakers 139 = .ok (.iload_n 3, 1) := by decide +kernel
theorem dX1_findSpeakers_140 : decode cX1_findSpeakers 140 = .ok (.iconst 1, 1) := by decide +kernel
theorem dX1_findSpeakers_141 : decode cX1_findSpeakers 141 = .ok (.isub, 1) := by decide +kernel
theorem dX1_findSpeakers_142 : decode cX1_findSpeakers 142 = .ok (.iaload, 1) := by decide +kernel
theorem dX1_findSpeakers_143 : decode cX1_findSpeakers 143 = .ok (.iload_n 2, 1) := by decide +kernel
theorem dX1_findSpeakers_144 : decode cX1_findSpeakers 144 = .ok (.iload_n 1, 1) := by decide +kernel
theorem dX1_findSpeakers_145 : decode cX1_findSpeakers 145 = .ok (.iload 4, 2) := by decide +kernel
theorem dX1_findSpeakers_147 : decode cX1_findSpeakers 147 = .ok (.aload_n 0, 1) := by decide +kernel
theorem dX1_findSpeakers_148 : decode cX1_findSpeakers 148 = .ok (.getfield 53, 3) := by decide +kernel
theorem dX1_findSpeakers_151 : decode cX1_findSpeakers 151 = .ok (.iload_n 3, 1) := by decide +kernel
theorem dX1_findSpeakers_152 : decode cX1_findSpeakers 152 = .ok (.isub, 1) := by decide +kernel
theorem dX1_findSpeakers_153 : decode cX1_findSpeakers 153 = .ok (.invokevirtual 110, 3) := by decide +kernel
theorem dX1_findSpeakers_156 : decode cX1_findSpeakers 156 = .ok (.iastore, 1) := by decide +kernel
theorem dX1_findSpeakers_157 : decode cX1_findSpeakers 157 = .ok (.goto (-51), 3) := by decide +kernel
theorem dX1_findSpeakers_160 : decode cX1_findSpeakers 160 = .ok (.aload_n 0, 1) := by decide +kernel
theorem dX1_findSpeakers_161 : decode cX1_findSpeakers 161 = .ok (.getfield 25, 3) := by decide +kernel
theorem dX1_findSpeakers_164 : decode cX1_findSpeakers 164 = .ok (.iload_n 3, 1) := by decide +kernel
theorem dX1_findSpeakers_165 : decode cX1_findSpeakers 165 = .ok (.iload 4, 2) := by decide +kernel
theorem dX1_findSpeakers_167 : decode cX1_findSpeakers 167 = .ok (.iastore, 1) := by decide +kernel
theorem dX1_findSpeakers_168 : decode cX1_findSpeakers 168 = .ok (.iload_n 2, 1) := by decide +kernel
theorem dX1_findSpeakers_169 : decode cX1_findSpeakers 169 = .ok (.getstatic 66, 3) := by decide +kernel
theorem dX1_findSpeakers_172 : decode cX1_findSpeakers 172 = .ok (.iload 4, 2) := by decide +kernel
theorem dX1_findSpeakers_174 : decode cX1_findSpeakers 174 = .ok (.iaload, 1) := by decide +kernel
theorem dX1_findSpeakers_175 : decode cX1_findSpeakers 175 = .ok (.iadd, 1) := by decide +kernel
theorem dX1_findSpeakers_176 : decode cX1_findSpeakers 176 = .ok (.istore_n 2, 1) := by decide +kernel
theorem dX1_findSpeakers_177 : decode cX1_findSpeakers 177 = .ok (.iload 4, 2) := by decide +kernel
theorem dX1_findSpeakers_179 : decode cX1_findSpeakers 179 = .ok (.istore_n 1, 1) := by decide +kernel
theorem dX1_findSpeakers_180 : decode cX1_findSpeakers 180 = .ok (.iinc 3 1, 3) := by decide +kernel
theorem dX1_findSpeakers_183 : decode cX1_findSpeakers 183 = .ok (.goto (-116), 3) := by decide +kernel
theorem dX1_findSpeakers_186 : decode cX1_findSpeakers 186 = .ok (.return_, 1) := by decide +kernel
theorem dJ6_numberOfTrailingZeros_0f7a4_0 : decode cJ6_numberOfTrailingZeros_0f7a4 0 = .ok (.iload_n 0, 1) := by decide +kernel
theorem dJ6_numberOfTrailingZeros_0f7a4_1 : decode cJ6_numberOfTrailingZeros_0f7a4 1 = .ok (.iconst (-1), 1) := by decide +kernel
theorem dJ6_numberOfTrailingZeros_0f7a4_2 : decode cJ6_numberOfTrailingZeros_0f7a4 2 = .ok (.ixor, 1) := by decide +kernel
theorem dJ6_numberOfTrailingZeros_0f7a4_3 : decode cJ6_numberOfTrailingZeros_0f7a4 3 = .ok (.iload_n 0, 1) := by decide +kernel
theorem dJ6_numberOfTrailingZeros_0f7a4_4 : decode cJ6_numberOfTrailingZeros_0f7a4 4 = .ok (.iconst 1, 1) := by decide +kernel
theorem dJ6_numberOfTrailingZeros_0f7a4_5 : decode cJ6_numberOfTrailingZeros_0f7a4 5 = .ok (.isub, 1) := by decide +kernel
theorem dJ6_numberOfTrailingZeros_0f7a4_6 : decode cJ6_numberOfTrailingZeros_0f7a4 6 = .ok (.iand, 1) := by decide +kernel
theorem dJ6_numberOfTrailingZeros_0f7a4_7 : decode cJ6_numberOfTrailingZeros_0f7a4 7 = .ok (.istore_n 0, 1) := by decide +kernel
theorem dJ6_numberOfTrailingZeros_0f7a4_8 : decode cJ6_numberOfTrailingZeros_0f7a4 8 = .ok (.iload_n 0, 1) := by decide +kernel
theorem dJ6_numberOfTrailingZeros_0f7a4_9 : decode cJ6_numberOfTrailingZeros_0f7a4 9 = .ok (.ifCond .gt 8, 3) := by decide +kernel
theorem dJ6_numberOfTrailingZeros_0f7a4_12 : decode cJ6_numberOfTrailingZeros_0f7a4 12 = .ok (.iload_n 0, 1) := by decide +kernel
theorem dJ6_numberOfTrailingZeros_0f7a4_13 : decode cJ6_numberOfTrailingZeros_0f7a4 13 = .ok (.bipush 32, 2) := by decide +kernel
theorem dJ6_numberOfTrailingZeros_0f7a4_15 : decode cJ6_numberOfTrailingZeros_0f7a4 15 = .ok (.iand, 1) := by decide +kernel
theorem dJ6_numberOfTrailingZeros_0f7a4_16 : decode cJ6_numberOfTrailingZeros_0f7a4 16 = .ok (.ireturn, 1) := by decide +kernel
theorem dJ6_numberOfTrailingZeros_0f7a4_17 : decode cJ6_numberOfTrailingZeros_0f7a4 17 = .ok (.iconst 1, 1) := by decide +kernel
theorem dJ6_numberOfTrailingZeros_0f7a4_18 : decode cJ6_numberOfTrailingZeros_0f7a4 18 = .ok (.istore_n 1, 1) := by decide +kernel
theorem dJ6_numberOfTrailingZeros_0f7a4_19 : decode cJ6_numberOfTrailingZeros_0f7a4 19 = .ok (.iload_n 0, 1) := by decide +kernel
theorem dJ6_numberOfTrailingZeros_0f7a4_20 : decode cJ6_numberOfTrailingZeros_0f7a4 20 = .ok (.ldc_w 264, 3) := by decide +kernel
theorem dJ6_numberOfTrailingZeros_0f7a4_23 : decode cJ6_numberOfTrailingZeros_0f7a4 23 = .ok (.if_icmp .le 11, 3) := by decide +kernel
theorem dJ6_numberOfTrailingZeros_0f7a4_26 : decode cJ6_numberOfTrailingZeros_0f7a4 26 = .ok (.iinc 1 16, 3) := by decide +kernel
theorem dJ6_numberOfTrailingZeros_0f7a4_29 : decode cJ6_numberOfTrailingZeros_0f7a4 29 = .ok (.iload_n 0, 1) := by decide +kernel
theorem dJ6_numberOfTrailingZeros_0f7a4_30 : decode cJ6_numberOfTrailingZeros_0f7a4 30 = .ok (.bipush 16, 2) := by decide +kernel
theorem dJ6_numberOfTrailingZeros_0f7a4_32 : decode cJ6_numberOfTrailingZeros_0f7a4 32 = .ok (.iushr, 1) := by decide +kernel
theorem dJ6_numberOfTrailingZeros_0f7a4_33 : decode cJ6_numberOfTrailingZeros_0f7a4 33 = .ok (.istore_n 0, 1) := by decide +kernel
theorem dJ6_numberOfTrailingZeros_0f7a4_34 : decode cJ6_numberOfTrailingZeros_0f7a4 34 = .ok (.iload_n 0, 1) := by decide +kernel
theorem dJ6_numberOfTrailingZeros_0f7a4_35 : decode cJ6_numberOfTrailingZeros_0f7a4 35 = .ok (.sipush 256, 3) := by decide +kernel
theorem dJ6_numberOfTrailingZeros_0f7a4_38 : decode cJ6_numberOfTrailingZeros_0f7a4 38 = .ok (.if_icmp .le 11, 3) := by decide +kernel
theorem dJ6_numberOfTrailingZeros_0f7a4_41 : decode cJ6_numberOfTrailingZeros_0f7a4 41 = .ok (.iinc 1 8, 3) := by decide +kernel
theorem dJ6_numberOfTrailingZeros_0f7a4_44 : decode cJ6_numberOfTrailingZeros_0f7a4 44 = .ok (.iload_n 0, 1) := by decide +kernel
theorem dJ6_numberOfTrailingZeros_0f7a4_45 : decode cJ6_numberOfTrailingZeros_0f7a4 45 = .ok (.bipush 8, 2) := by decide +kernel
theorem dJ6_numberOfTrailingZeros_0f7a4_47 : decode cJ6_numberOfTrailingZeros_0f7a4 47 = .ok (.iushr, 1) := by decide +kernel
theorem dJ6_numberOfTrailingZeros_0f7a4_48 : decode cJ6_numberOfTrailingZeros_0f7a4 48 = .ok (.istore_n 0, 1) := by decide +kernel
theorem dJ6_numberOfTrailingZeros_0f7a4_49 : decode cJ6_numberOfTrailingZeros_0f7a4 49 = .ok (.iload_n 0, 1) := by decide +kernel
theorem dJ6_numberOfTrailingZeros_0f7a4_50 : decode cJ6_numberOfTrailingZeros_0f7a4 50 = .ok (.bipush 16, 2) := by decide +kernel
theorem dJ6_numberOfTrailingZeros_0f7a4_52 : decode cJ6_numberOfTrailingZeros_0f7a4 52 = .ok (.if_icmp .le 10, 3) := by decide +kernel
theorem dJ6_numberOfTrailingZeros_0f7a4_55 : decode cJ6_numberOfTrailingZeros_0f7a4 55 = .ok (.iinc 1 4, 3) := by decide +kernel
theorem dJ6_numberOfTrailingZeros_0f7a4_58 : decode cJ6_numberOfTrailingZeros_0f7a4 58 = .ok (.iload_n 0, 1) := by decide +kernel
theorem dJ6_numberOfTrailingZeros_0f7a4_59 : decode cJ6_numberOfTrailingZeros_0f7a4 59 = .ok (.iconst 4, 1) := by decide +kernel
theorem dJ6_numberOfTrailingZeros_0f7a4_60 : decode cJ6_numberOfTrailingZeros_0f7a4 60 = .ok (.iushr, 1) := by decide +kernel
theorem dJ6_numberOfTrailingZeros_0f7a4_61 : decode cJ6_numberOfTrailingZeros_0f7a4 61 = .ok (.istore_n 0, 1) := by decide +kernel
theorem dJ6_numberOfTrailingZeros_0f7a4_62 : decode cJ6_numberOfTrailingZeros_0f7a4 62 = .ok (.iload_n 0, 1) := by decide +kernel
theorem dJ6_numberOfTrailingZeros_0f7a4_63 : decode cJ6_numberOfTrailingZeros_0f7a4 63 = .ok (.iconst 4, 1) := by decide +kernel
theorem dJ6_numberOfTrailingZeros_0f7a4_64 : decode cJ6_numberOfTrailingZeros_0f7a4 64 = .ok (.if_icmp .le 10, 3) := by decide +kernel
theorem dJ6_numberOfTrailingZeros_0f7a4_67 : decode cJ6_numberOfTrailingZeros_0f7a4 67 = .ok (.iinc 1 2, 3) := by decide +kernel
theorem dJ6_numberOfTrailingZeros_0f7a4_70 : decode cJ6_numberOfTrailingZeros_0f7a4 70 = .ok (.iload_n 0, 1) := by decide +kernel
theorem dJ6_numberOfTrailingZeros_0f7a4_71 : decode cJ6_numberOfTrailingZeros_0f7a4 71 = .ok (.iconst 2, 1) := by decide +kernel
theorem dJ6_numberOfTrailingZeros_0f7a4_72 : decode cJ6_numberOfTrailingZeros_0f7a4 72 = .ok (.iushr, 1) := by decide +kernel
theorem dJ6_numberOfTrailingZeros_0f7a4_73 : decode cJ6_numberOfTrailingZeros_0f7a4 73 = .ok (.istore_n 0, 1) := by decide +kernel
theorem dJ6_numberOfTrailingZeros_0f7a4_74 : decode cJ6_numberOfTrailingZeros_0f7a4 74 = .ok (.iload_n 1, 1) := by decide +kernel
theorem dJ6_numberOfTrailingZeros_0f7a4_75 : decode cJ6_numberOfTrailingZeros_0f7a4 75 = .ok (.iload_n 0, 1) := by decide +kernel
theorem dJ6_numberOfTrailingZeros_0f7a4_76 : decode cJ6_numberOfTrailingZeros_0f7a4 76 = .ok (.iconst 1, 1) := by decide +kernel
theorem dJ6_numberOfTrailingZeros_0f7a4_77 : decode cJ6_numberOfTrailingZeros_0f7a4 77 = .ok (.iushr, 1) := by decide +kernel
theorem dJ6_numberOfTrailingZeros_0f7a4_78 : decode cJ6_numberOfTrailingZeros_0f7a4 78 = .ok (.iadd, 1) := by decide +kernel
theorem dJ6_numberOfTrailingZeros_0f7a4_79 : decode cJ6_numberOfTrailingZeros_0f7a4 79 = .ok (.ireturn, 1) := by decide +kernel
theorem dX1_dropDeadEnds_0 : decode cX1_dropDeadEnds 0 = .ok (.iconst 0, 1) := by decide +kernel
theorem dX1_dropDeadEnds_1 : decode cX1_dropDeadEnds 1 = .ok (.istore_n 1, 1) := by decide +kernel
theorem dX1_dropDeadEnds_2 : decode cX1_dropDeadEnds 2 = .ok (.iconst 0, 1) := by decide +kernel
theorem dX1_dropDeadEnds_3 : decode cX1_dropDeadEnds 3 = .ok (.istore_n 2, 1) := by decide +kernel
theorem dX1_dropDeadEnds_4 : decode cX1_dropDeadEnds 4 = .ok (.iload_n 2, 1) := by decide +kernel
theorem dX1_dropDeadEnds_5 : decode cX1_dropDeadEnds 5 = .ok (.aload_n 0, 1) := by decide +kernel
theorem dX1_dropDeadEnds_6 : decode cX1_dropDeadEnds 6 = .ok (.getfield 53, 3) := by decide +kernel
theorem dX1_dropDeadEnds_9 : decode cX1_dropDeadEnds 9 = .ok (.if_icmp .ge 22, 3) := by decide +kernel
theorem dX1_dropDeadEnds_12 : decode cX1_dropDeadEnds 12 = .ok (.iload_n 1, 1) := by decide +kernel
theorem dX1_dropDeadEnds_13 : decode cX1_dropDeadEnds 13 = .ok (.getstatic 66, 3) := by decide +kernel
theorem dX1_dropDeadEnds_16 : decode cX1_dropDeadEnds 16 = .ok (.aload_n 0, 1) := by decide +kernel
theorem dX1_dropDeadEnds_17 : decode cX1_dropDeadEnds 17 = .ok (.getfield 25, 3) := by decide +kernel
theorem dX1_dropDeadEnds_20 : decode cX1_dropDeadEnds 20 = .ok (.iload_n 2, 1) := by decide +kernel
theorem dX1_dropDeadEnds_21 : decode cX1_dropDeadEnds 21 = .ok (.iaload, 1) := by decide +kernel
theorem dX1_dropDeadEnds_22 : decode cX1_dropDeadEnds 22 = .ok (.iaload, 1) := by decide +kernel
theorem dX1_dropDeadEnds_23 : decode cX1_dropDeadEnds 23 = .ok (.iadd, 1) := by decide +kernel
theorem dX1_dropDeadEnds_24 : decode cX1_dropDeadEnds 24 = .ok (.istore_n 1, 1) := by decide +kernel
theorem dX1_dropDeadEnds_25 : decode cX1_dropDeadEnds 25 = .ok (.iinc 2 1, 3) := by decide +kernel
theorem dX1_dropDeadEnds_28 : decode cX1_dropDeadEnds 28 = .ok (.goto (-24), 3) := by decide +kernel
theorem dX1_dropDeadEnds_31 : decode cX1_dropDeadEnds 31 = .ok (.aload_n 0, 1) := by decide +kernel
theorem dX1_dropDeadEnds_32 : decode cX1_dropDeadEnds 32 = .ok (.getfield 53, 3) := by decide +kernel
theorem dX1_dropDeadEnds_35 : decode cX1_dropDeadEnds 35 = .ok (.iconst 1, 1) := by decide +kernel
theorem dX1_dropDeadEnds_36 : decode cX1_dropDeadEnds 36 = .ok (.isub, 1) := by decide +kernel
theorem dX1_dropDeadEnds_37 : decode cX1_dropDeadEnds 37 = .ok (.istore_n 2, 1) := by decide +kernel
theorem dX1_dropDeadEnds_38 : decode cX1_dropDeadEnds 38 = .ok (.iload_n 2, 1) := by decide +kernel
theorem dX1_dropDeadEnds_39 : decode cX1_dropDeadEnds 39 = .ok (.iconst 1, 1) := by decide +kernel
theorem dX1_dropDeadEnds_40 : decode cX1_dropDeadEnds 40 = .ok (.if_icmp .lt 127, 3) := by decide +kernel
theorem dX1_dropDeadEnds_43 : decode cX1_dropDeadEnds 43 = .ok (.iload_n 1, 1) := by decide +kernel
theorem dX1_dropDeadEnds_44 : decode cX1_dropDeadEnds 44 = .ok (.getstatic 66, 3) := by decide +kernel
theorem dX1_dropDeadEnds_47 : decode cX1_dropDeadEnds 47 = .ok (.aload_n 0, 1) := by decide +kernel
theorem dX1_dropDeadEnds_48 : decode cX1_dropDeadEnds 48 = .ok (.getfield 25, 3) := by decide +kernel
theorem dX1_dropDeadEnds_51 : decode cX1_dropDeadEnds 51 = .ok (.iload_n 2, 1) := by decide +kernel
theorem dX1_dropDeadEnds_52 : decode cX1_dropDeadEnds 52 = .ok (.iaload, 1) := by decide +kernel
theorem dX1_dropDeadEnds_53 : decode cX1_dropDeadEnds 53 = .ok (.iaload, 1) := by decide +kernel
theorem dX1_dropDeadEnds_54 : decode cX1_dropDeadEnds 54 = .ok (.isub, 1) := by decide +kernel
theorem dX1_dropDeadEnds_55 : decode cX1_dropDeadEnds 55 = .ok (.istore_n 1, 1) := by decide +kernel
theorem dX1_dropDeadEnds_56 : decode cX1_dropDeadEnds 56 = .ok (.iconst 0, 1) := by decide +kernel
theorem dX1_dropDeadEnds_57 : decode cX1_dropDeadEnds 57 = .ok (.istore_n 3, 1) := by decide +kernel
theorem dX1_dropDeadEnds_58 : decode cX1_dropDeadEnds 58 = .ok (.iconst 0, 1) := by decide +kernel
theorem dX1_dropDeadEnds_59 : decode cX1_dropDeadEnds 59 = .ok (.istore 4, 2) := by decide +kernel
theorem dX1_dropDeadEnds_61 : decode cX1_dropDeadEnds 61 = .ok (.iload 4, 2) := by decide +kernel
theorem dX1_dropDeadEnds_63 : decode cX1_dropDeadEnds 63 = .ok (.bipush 21, 2) := by decide +kernel
theorem dX1_dropDeadEnds_65 : decode cX1_dropDeadEnds 65 = .ok (.if_icmp .ge 87, 3) := by decide +kernel
theorem dX1_dropDeadEnds_68 : decode cX1_dropDeadEnds 68 = .ok (.aload_n 0, 1) := by decide +kernel
theorem dX1_dropDeadEnds_69 : decode cX1_dropDeadEnds 69 = .ok (.getfield 31, 3) := by decide +kernel
theorem dX1_dropDeadEnds_72 : decode cX1_dropDeadEnds 72 = .ok (.iload_n 2, 1) := by decide +kernel
theorem dX1_dropDeadEnds_73 : decode cX1_dropDeadEnds 73 = .ok (.iconst 1, 1) := by decide +kernel
theorem dX1_dropDeadEnds_74 : decode cX1_dropDeadEnds 74 = .ok (.isub, 1) := by decide +kernel
theorem dX1_dropDeadEnds_75 : decode cX1_dropDeadEnds 75 = .ok (.iaload, 1) := by decide +kernel
theorem dX1_dropDeadEnds_76 : decode cX1_dropDeadEnds 76 = .ok (.iconst 1, 1) := by decide +kernel
theorem dX1_dropDeadEnds_77 : decode cX1_dropDeadEnds 77 = .ok (.iload 4, 2) := by decide +kernel
theorem dX1_dropDeadEnds_79 : decode cX1_dropDeadEnds 79 = .ok (.ishl, 1) := by decide +kernel
theorem dX1_dropDeadEnds_80 : decode cX1_dropDeadEnds 80 = .ok (.iand, 1) := by decide +kernel
theorem dX1_dropDeadEnds_81 : decode cX1_dropDeadEnds 81 = .ok (.istore 5, 2) := by decide +kernel
theorem dX1_dropDeadEnds_83 : decode cX1_dropDeadEnds 83 = .ok (.iload 5, 2) := by decide +kernel
theorem dX1_dropDeadEnds_85 : decode cX1_dropDeadEnds 85 = .ok (.ifCond .eq 44, 3) := by decide +kernel
theorem dX1_dropDeadEnds_88 : decode cX1_dropDeadEnds 88 = .ok (.aload_n 0, 1) := by decide +kernel
theorem dX1_dropDeadEnds_89 : decode cX1_dropDeadEnds 89 = .ok (.iload 5, 2) := by decide +kernel
theorem dX1_dropDeadEnds_91 : decode cX1_dropDeadEnds 91 = .ok (.iload_n 1, 1) := by decide +kernel
theorem dX1_dropDeadEnds_92 : decode cX1_dropDeadEnds 92 = .ok (.aload_n 0, 1) := by decide +kernel
theorem dX1_dropDeadEnds_93 : decode cX1_dropDeadEnds 93 = .ok (.getfield 25, 3) := by decide +kernel
theorem dX1_dropDeadEnds_96 : decode cX1_dropDeadEnds 96 = .ok (.iload_n 2, 1) := by decide +kernel
theorem dX1_dropDeadEnds_97 : decode cX1_dropDeadEnds 97 = .ok (.iconst 1, 1) := by decide +kernel
theorem dX1_dropDeadEnds_98 : decode cX1_dropDeadEnds 98 = .ok (.isub, 1) := by decide +kernel
theorem dX1_dropDeadEnds_99 : decode cX1_dropDeadEnds 99 = .ok (.iaload, 1) := by decide +kernel
theorem dX1_dropDeadEnds_100 : decode cX1_dropDeadEnds 100 = .ok (.aload_n 0, 1) := by decide +kernel
theorem dX1_dropDeadEnds_101 : decode cX1_dropDeadEnds 101 = .ok (.getfield 25, 3) := by decide +kernel
theorem dX1_dropDeadEnds_104 : decode cX1_dropDeadEnds 104 = .ok (.iload_n 2, 1) := by decide +kernel
theorem dX1_dropDeadEnds_105 : decode cX1_dropDeadEnds 105 = .ok (.iaload, 1) := by decide +kernel
theorem dX1_dropDeadEnds_106 : decode cX1_dropDeadEnds 106 = .ok (.aload_n 0, 1) := by decide +kernel
theorem dX1_dropDeadEnds_107 : decode cX1_dropDeadEnds 107 = .ok (.getfield 53, 3) := by decide +kernel
theorem dX1_dropDeadEnds_110 : decode cX1_dropDeadEnds 110 = .ok (.iload_n 2, 1) := by decide +kernel
theorem dX1_dropDeadEnds_111 : decode cX1_dropDeadEnds 111 = .ok (.isub, 1) := by decide +kernel
theorem dX1_dropDeadEnds_112 : decode cX1_dropDeadEnds 112 = .ok (.invokevirtual 110, 3) := by decide +kernel
theorem dX1_dropDeadEnds_115 : decode cX1_dropDeadEnds 115 = .ok (.aload_n 0, 1) := by decide +kernel
theorem dX1_dropDeadEnds_116 : decode cX1_dropDeadEnds 116 = .ok (.getfield 31, 3) := by decide +kernel
theorem dX1_dropDeadEnds_119 : decode cX1_dropDeadEnds 119 = .ok (.iload_n 2, 1) := by decide +kernel
theorem dX1_dropDeadEnds_120 : decode cX1_dropDeadEnds 120 = .ok (.iaload, 1) := by decide +kernel
theorem dX1_dropDeadEnds_121 : decode cX1_dropDeadEnds 121 = .ok (.iand, 1) := by decide +kernel
theorem dX1_dropDeadEnds_122 : decode cX1_dropDeadEnds 122 = .ok (.ifCond .eq 7, 3) := by decide +kernel
theorem dX1_dropDeadEnds_125 : decode cX1_dropDeadEnds 125 = .ok (.iconst 1, 1) := by decide +kernel
theorem dX1_dropDeadEnds_126 : decode cX1_dropDeadEnds 126 = .ok (.goto 4, 3) := by decide +kernel
theorem dX1_dropDeadEnds_129 : decode cX1_dropDeadEnds 129 = .ok (.iconst 0, 1) := by decide +kernel
theorem dX1_dropDeadEnds_130 : decode cX1_dropDeadEnds 130 = .ok (.istore 6, 2) := by decide +kernel
theorem dX1_dropDeadEnds_132 : decode cX1_dropDeadEnds 132 = .ok (.iload_n 3, 1) := by decide +kernel
theorem dX1_dropDeadEnds_133 : decode cX1_dropDeadEnds 133 = .ok (.iload 6, 2) := by decide +kernel
theorem dX1_dropDeadEnds_135 : decode cX1_dropDeadEnds 135 = .ok (.ifCond .eq 8, 3) := by decide +kernel
theorem dX1_dropDeadEnds_138 : decode cX1_dropDeadEnds 138 = .ok (.iload 5, 2) := by decide +kernel
theorem dX1_dropDeadEnds_140 : decode cX1_dropDeadEnds 140 = .ok (.goto 4, 3) := by decide +kernel
theorem dX1_dropDeadEnds_143 : decode cX1_dropDeadEnds 143 = .ok (.iconst 0, 1) := by decide +kernel
theorem dX1_dropDeadEnds_144 : decode cX1_dropDeadEnds 144 = .ok (.ior, 1) := by decide +kernel
theorem dX1_dropDeadEnds_145 : decode cX1_dropDeadEnds 145 = .ok (.istore_n 3, 1) := by decide +kernel
theorem dX1_dropDeadEnds_146 : decode cX1_dropDeadEnds 146 = .ok (.iinc 4 1, 3) := by decide +kernel
theorem dX1_dropDeadEnds_149 : decode cX1_dropDeadEnds 149 = .ok (.goto (-88), 3) := by decide +kernel
theorem dX1_dropDeadEnds_152 : decode cX1_dropDeadEnds 152 = .ok (.aload_n 0, 1) := by decide +kernel
theorem dX1_dropDeadEnds_153 : decode cX1_dropDeadEnds 153 = .ok (.getfield 31, 3) := by decide +kernel
theorem dX1_dropDeadEnds_156 : decode cX1_dropDeadEnds 156 = .ok (.iload_n 2, 1) := by decide +kernel
theorem dX1_dropDeadEnds_157 : decode cX1_dropDeadEnds 157 = .ok (.iconst 1, 1) := by decide +kernel
theorem dX1_dropDeadEnds_158 : decode cX1_dropDeadEnds 158 = .ok (.isub, 1) := by decide +kernel
theorem dX1_dropDeadEnds_159 : decode cX1_dropDeadEnds 159 = .ok (.iload_n 3, 1) := by decide +kernel
theorem dX1_dropDeadEnds_160 : decode cX1_dropDeadEnds 160 = .ok (.iastore, 1) := by decide +kernel
theorem dX1_dropDeadEnds_161 : decode cX1_dropDeadEnds 161 = .ok (.iinc 2 (-1), 3) := by decide +kernel
theorem dX1_dropDeadEnds_164 : decode cX1_dropDeadEnds 164 = .ok (.goto (-126), 3) := by decide +kernel
theorem dX1_dropDeadEnds_167 : decode cX1_dropDeadEnds 167 = .ok (.iload_n 1, 1) := by decide +kernel
theorem dX1_dropDeadEnds_168 : decode cX1_dropDeadEnds 168 = .ok (.ireturn, 1) := by decide +kernel
theorem dX1_findGaps_0 : decode cX1_findGaps 0 = .ok (.aload_n 0, 1) := by decide +kernel
theorem dX1_findGaps_1 : decode cX1_findGaps 1 = .ok (.invokevirtual 106, 3) := by decide +kernel
theorem dX1_findGaps_4 : decode cX1_findGaps 4 = .ok (.ifCond .eq 10, 3) := by decide +kernel
theorem dX1_findGaps_7 : decode cX1_findGaps 7 = .ok (.aload_n 0, 1) := by decide +kernel
theorem dX1_findGaps_8 : decode cX1_findGaps 8 = .ok (.getfield 53, 3) := by decide +kernel
theorem dX1_findGaps_11 : decode cX1_findGaps 11 = .ok (.ifCond .ne 4, 3) := by decide +kernel
theorem dX1_findGaps_14 : decode cX1_findGaps 14 = .ok (.return_, 1) := by decide +kernel
theorem dX1_findGaps_15 : decode cX1_findGaps 15 = .ok (.aload_n 0, 1) := by decide +kernel
theorem dX1_findGaps_16 : decode cX1_findGaps 16 = .ok (.invokevirtual 114, 3) := by decide +kernel
theorem dX1_findGaps_19 : decode cX1_findGaps 19 = .ok (.istore_n 1, 1) := by decide +kernel
theorem dX1_findGaps_20 : decode cX1_findGaps 20 = .ok (.iconst 0, 1) := by decide +kernel
theorem dX1_findGaps_21 : decode cX1_findGaps 21 = .ok (.istore_n 2, 1) := by decide +kernel
theorem dX1_findGaps_22 : decode cX1_findGaps 22 = .ok (.aload_n 0, 1) := by decide +kernel
theorem dX1_findGaps_23 : decode cX1_findGaps 23 = .ok (.getfield 28, 3) := by decide +kernel
theorem dX1_findGaps_26 : decode cX1_findGaps 26 = .ok (.iconst 0, 1) := by decide +kernel
theorem dX1_findGaps_27 : decode cX1_findGaps 27 = .ok (.bipush 63, 2) := by decide +kernel
theorem dX1_findGaps_29 : decode cX1_findGaps 29 = .ok (.iastore, 1) := by decide +kernel
theorem dX1_findGaps_30 : decode cX1_findGaps 30 = .ok (.iconst 1, 1) := by decide +kernel
theorem dX1_findGaps_31 : decode cX1_findGaps 31 = .ok (.istore_n 3, 1) := by decide +kernel
theorem dX1_findGaps_32 : decode cX1_findGaps 32 = .ok (.iload_n 3, 1) := by decide +kernel
theorem dX1_findGaps_33 : decode cX1_findGaps 33 = .ok (.aload_n 0, 1) := by decide +kernel
theorem dX1_findGaps_34 : decode cX1_findGaps 34 = .ok (.getfield 53, 3) := by decide +kernel
theorem dX1_findGaps_37 : decode cX1_findGaps 37 = .ok (.if_icmp .ge 77, 3) := by decide +kernel
theorem dX1_findGaps_40 : decode cX1_findGaps 40 = .ok (.aload_n 0, 1) := by decide +kernel
theorem dX1_findGaps_41 : decode cX1_findGaps 41 = .ok (.iconst 1, 1) := by decide +kernel
theorem dX1_findGaps_42 : decode cX1_findGaps 42 = .ok (.iload_n 2, 1) := by decide +kernel
theorem dX1_findGaps_43 : decode cX1_findGaps 43 = .ok (.ishl, 1) := by decide +kernel
theorem dX1_findGaps_44 : decode cX1_findGaps 44 = .ok (.iload_n 1, 1) := by decide +kernel
theorem dX1_findGaps_45 : decode cX1_findGaps 45 = .ok (.aload_n 0, 1) := by decide +kernel
theorem dX1_findGaps_46 : decode cX1_findGaps 46 = .ok (.getfield 25, 3) := by decide +kernel
theorem dX1_findGaps_49 : decode cX1_findGaps 49 = .ok (.iload_n 3, 1) := by decide +kernel
theorem dX1_findGaps_50 : decode cX1_findGaps 50 = .ok (.iconst 1, 1) := by decide +kernel
theorem dX1_findGaps_51 : decode cX1_findGaps 51 = .ok (.isub, 1) := by decide +kernel
theorem dX1_findGaps_52 : decode cX1_findGaps 52 = .ok (.iaload, 1) := by decide +kernel
theorem dX1_findGaps_53 : decode cX1_findGaps 53 = .ok (.aload_n 0, 1) := by decide +kernel
theorem dX1_findGaps_54 : decode cX1_findGaps 54 = .ok (.getfield 25, 3) := by decide +kernel
theorem dX1_findGaps_57 : decode cX1_findGaps 57 = .ok (.iload_n 3, 1) := by decide +kernel
theorem dX1_findGaps_58 : decode cX1_findGaps 58 = .ok (.iaload, 1) := by decide +kernel
theorem dX1_findGaps_59 : decode cX1_findGaps 59 = .ok (.aload_n 0, 1) := by decide +kernel
theorem dX1_findGaps_60 : decode cX1_findGaps 60 = .ok (.getfield 53, 3) := by decide +kernel
theorem dX1_findGaps_63 : decode cX1_findGaps 63 = .ok (.iload_n 3, 1) := by decide +kernel
theorem dX1_findGaps_64 : decode cX1_findGaps 64 = .ok (.isub, 1) := by decide +kernel
theorem dX1_findGaps_65 : decode cX1_findGaps 65 = .ok (.invokevirtual 110, 3) := by decide +kernel
theorem dX1_findGaps_68 : decode cX1_findGaps 68 = .ok (.aload_n 0, 1) := by decide +kernel
theorem dX1_findGaps_69 : decode cX1_findGaps 69 = .ok (.getfield 31, 3) := by decide +kernel
theorem dX1_findGaps_72 : decode cX1_findGaps 72 = .ok (.iload_n 3, 1) := by decide +kernel
theorem dX1_findGaps_73 : decode cX1_findGaps 73 = .ok (.iaload, 1) := by decide +kernel
theorem dX1_findGaps_74 : decode cX1_findGaps 74 = .ok (.iand, 1) := by decide +kernel
theorem dX1_findGaps_75 : decode cX1_findGaps 75 = .ok (.istore 4, 2) := by decide +kernel
theorem dX1_findGaps_77 : decode cX1_findGaps 77 = .ok (.bipush 20, 2) := by decide +kernel
theorem dX1_findGaps_79 : decode cX1_findGaps 79 = .ok (.iload 4, 2) := by decide +kernel
theorem dX1_findGaps_81 : decode cX1_findGaps 81 = .ok (.invokestatic 118, 3) := by decide +kernel
theorem dX1_findGaps_84 : decode cX1_findGaps 84 = .ok (.invokestatic 92, 3) := by decide +kernel
theorem dX1_findGaps_87 : decode cX1_findGaps 87 = .ok (.istore_n 2, 1) := by decide +kernel
theorem dX1_findGaps_88 : decode cX1_findGaps 88 = .ok (.aload_n 0, 1) := by decide +kernel
theorem dX1_findGaps_89 : decode cX1_findGaps 89 = .ok (.getfield 28, 3) := by decide +kernel
theorem dX1_findGaps_92 : decode cX1_findGaps 92 = .ok (.iload_n 3, 1) := by decide +kernel
theorem dX1_findGaps_93 : decode cX1_findGaps 93 = .ok (.iload_n 2, 1) := by decide +kernel
theorem dX1_findGaps_94 : decode cX1_findGaps 94 = .ok (.iastore, 1) := by decide +kernel
theorem dX1_findGaps_95 : decode cX1_findGaps 95 = .ok (.iload_n 1, 1) := by decide +kernel
theorem dX1_findGaps_96 : decode cX1_findGaps 96 = .ok (.getstatic 66, 3) := by decide +kernel
theorem dX1_findGaps_99 : decode cX1_findGaps 99 = .ok (.aload_n 0, 1) := by decide +kernel
theorem dX1_findGaps_100 : decode cX1_findGaps 100 = .ok (.getfield 25, 3) := by decide +kernel
theorem dX1_findGaps_103 : decode cX1_findGaps 103 = .ok (.iload_n 3, 1) := by decide +kernel
theorem dX1_findGaps_104 : decode cX1_findGaps 104 = .ok (.iaload, 1) := by decide +kernel
theorem dX1_findGaps_105 : decode cX1_findGaps 105 = .ok (.iaload, 1) := by decide +kernel
theorem dX1_findGaps_106 : decode cX1_findGaps 106 = .ok (.iadd, 1) := by decide +kernel
theorem dX1_findGaps_107 : decode cX1_findGaps 107 = .ok (.istore_n 1, 1) := by decide +kernel
theorem dX1_findGaps_108 : decode cX1_findGaps 108 = .ok (.iinc 3 1, 3) := by decide +kernel
theorem dX1_findGaps_111 : decode cX1_findGaps 111 = .ok (.goto (-79), 3) := by decide +kernel
theorem dX1_findGaps_114 : decode cX1_findGaps 114 = .ok (.return_, 1) := by decide +kernel
theorem dX10_byteAt_0 : decode cX10_byteAt 0 = .ok (.iload_n 1, 1) := by decide +kernel
theorem dX10_byteAt_1 : decode cX10_byteAt 1 = .ok (.ifCond .lt 20, 3) := by decide +kernel
theorem dX10_byteAt_4 : decode cX10_byteAt 4 = .ok (.iload_n 1, 1) := by decide +kernel
theorem dX10_byteAt_5 : decode cX10_byteAt 5 = .ok (.aload_n 0, 1) := by decide +kernel
theorem dX10_byteAt_6 : decode cX10_byteAt 6 = .ok (.getfield 15, 3) := by decide +kernel
theorem dX10_byteAt_9 : decode cX10_byteAt 9 = .ok (.if_icmp .ge 12, 3) := by decide +kernel
theorem dX10_byteAt_12 : decode cX10_byteAt 12 = .ok (.aload_n 0, 1) := by decide +kernel
theorem dX10_byteAt_13 : decode cX10_byteAt 13 = .ok (.getfield 9, 3) := by decide +kernel
theorem dX10_byteAt_16 : decode cX10_byteAt 16 = .ok (.iload_n 1, 1) := by decide +kernel
theorem dX10_byteAt_17 : decode cX10_byteAt 17 = .ok (.iaload, 1) := by decide +kernel
theorem dX10_byteAt_18 : decode cX10_byteAt 18 = .ok (.goto 4, 3) := by decide +kernel
theorem dX10_byteAt_21 : decode cX10_byteAt 21 = .ok (.iconst (-1), 1) := by decide +kernel
theorem dX10_byteAt_22 : decode cX10_byteAt 22 = .ok (.ireturn, 1) := by decide +kernel
theorem dX2_fail_0 : decode cX2_fail 0 = .ok (.aload_n 0, 1) := by decide +kernel
theorem dX2_fail_1 : decode cX2_fail 1 = .ok (.getfield 46, 3) := by decide +kernel
theorem dX2_fail_4 : decode cX2_fail 4 = .ok (.ifCond .ne 8, 3) := by decide +kernel
theorem dX2_fail_7 : decode cX2_fail 7 = .ok (.aload_n 0, 1) := by decide +kernel
theorem dX2_fail_8 : decode cX2_fail 8 = .ok (.iload_n 1, 1) := by decide +kernel
theorem dX2_fail_9 : decode cX2_fail 9 = .ok (.putfield 46, 3) := by decide +kernel
theorem dX2_fail_12 : decode cX2_fail 12 = .ok (.return_, 1) := by decide +kernel
theorem dX2_enter_0 : decode cX2_enter 0 = .ok (.aload_n 0, 1) := by decide +kernel
theorem dX2_enter_1 : decode cX2_enter 1 = .ok (.getfield 43, 3) := by decide +kernel
theorem dX2_enter_4 : decode cX2_enter 4 = .ok (.bipush 6, 2) := by decide +kernel
theorem dX2_enter_6 : decode cX2_enter 6 = .ok (.if_icmp .lt 9, 3) := by decide +kernel
theorem dX2_enter_9 : decode cX2_enter 9 = .ok (.aload_n 0, 1) := by decide +kernel
theorem dX2_enter_10 : decode cX2_enter 10 = .ok (.iconst 5, 1) := by decide +kernel
theorem dX2_enter_11 : decode cX2_enter 11 = .ok (.invokevirtual 63, 3) := by decide +kernel
theorem dX2_enter_14 : decode cX2_enter 14 = .ok (.return_, 1) := by decide +kernel
theorem dX2_enter_15 : decode cX2_enter 15 = .ok (.aload_n 0, 1) := by decide +kernel
theorem dX2_enter_16 : decode cX2_enter 16 = .ok (.dup, 1) := by decide +kernel
theorem dX2_enter_17 : decode cX2_enter 17 = .ok (.getfield 43, 3) := by decide +kernel
theorem dX2_enter_20 : decode cX2_enter 20 = .ok (.iconst 1, 1) := by decide +kernel
theorem dX2_enter_21 : decode cX2_enter 21 = .ok (.iadd, 1) := by decide +kernel
theorem dX2_enter_22 : decode cX2_enter 22 = .ok (.putfield 43, 3) := by decide +kernel
theorem dX2_enter_25 : decode cX2_enter 25 = .ok (.aload_n 0, 1) := by decide +kernel
theorem dX2_enter_26 : decode cX2_enter 26 = .ok (.dup, 1) := by decide +kernel
theorem dX2_enter_27 : decode cX2_enter 27 = .ok (.getfield 40, 3) := by decide +kernel
theorem dX2_enter_30 : decode cX2_enter 30 = .ok (.iconst 1, 1) := by decide +kernel
theorem dX2_enter_31 : decode cX2_enter 31 = .ok (.iadd, 1) := by decide +kernel
theorem dX2_enter_32 : decode cX2_enter 32 = .ok (.putfield 40, 3) := by decide +kernel
theorem dX2_enter_35 : decode cX2_enter 35 = .ok (.return_, 1) := by decide +kernel
theorem dX2_next_0 : decode cX2_next 0 = .ok (.aload_n 0, 1) := by decide +kernel
theorem dX2_next_1 : decode cX2_next 1 = .ok (.getfield 40, 3) := by decide +kernel
theorem dX2_next_4 : decode cX2_next 4 = .ok (.ifCond .lt 26, 3) := by decide +kernel
theorem dX2_next_7 : decode cX2_next 7 = .ok (.aload_n 0, 1) := by decide +kernel
theorem dX2_next_8 : decode cX2_next 8 = .ok (.getfield 40, 3) := by decide +kernel
theorem dX2_next_11 : decode cX2_next 11 = .ok (.aload_n 0, 1) := by decide +kernel
theorem dX2_next_12 : decode cX2_next 12 = .ok (.getfield 25, 3) := by decide +kernel
theorem dX2_next_15 : decode cX2_next 15 = .ok (.if_icmp .ge 15, 3) := by decide +kernel
theorem dX2_next_18 : decode cX2_next 18 = .ok (.aload_n 0, 1) := by decide +kernel
theorem dX2_next_19 : decode cX2_next 19 = .ok (.getfield 9, 3) := by decide +kernel
theorem dX2_next_22 : decode cX2_next 22 = .ok (.aload_n 0, 1) := by decide +kernel
theorem dX2_next_23 : decode cX2_next 23 = .ok (.getfield 40, 3) := by decide +kernel
theorem dX2_next_26 : decode cX2_next 26 = .ok (.iaload, 1) := by decide +kernel
theorem dX2_next_27 : decode cX2_next 27 = .ok (.goto 4, 3) := by decide +kernel
theorem dX2_next_30 : decode cX2_next 30 = .ok (.iconst (-1), 1) := by decide +kernel
theorem dX2_next_31 : decode cX2_next 31 = .ok (.ireturn, 1) := by decide +kernel
theorem dX2_pass_0 : decode cX2_pass 0 = .ok (.aload_n 0, 1) := by decide +kernel
theorem dX2_pass_1 : decode cX2_pass 1 = .ok (.getfield 46, 3) := by decide +kernel
theorem dX2_pass_4 : decode cX2_pass 4 = .ok (.ifCond .eq 4, 3) := by decide +kernel
theorem dX2_pass_7 : decode cX2_pass 7 = .ok (.return_, 1) := by decide +kernel
theorem dX2_pass_8 : decode cX2_pass 8 = .ok (.aload_n 0, 1) := by decide +kernel
theorem dX2_pass_9 : decode cX2_pass 9 = .ok (.invokevirtual 59, 3) := by decide +kernel
theorem dX2_pass_12 : decode cX2_pass 12 = .ok (.iload_n 1, 1) := by decide +kernel
theorem dX2_pass_13 : decode cX2_pass 13 = .ok (.if_icmp .ne 16, 3) := by decide +kernel
theorem dX2_pass_16 : decode cX2_pass 16 = .ok (.aload_n 0, 1) := by decide +kernel
theorem dX2_pass_17 : decode cX2_pass 17 = .ok (.dup, 1) := by decide +kernel
theorem dX2_pass_18 : decode cX2_pass 18 = .ok (.getfield 40, 3) := by decide +kernel
theorem dX2_pass_21 : decode cX2_pass 21 = .ok (.iconst 1, 1) := by decide +kernel
theorem dX2_pass_22 : decode cX2_pass 22 = .ok (.iadd, 1) := by decide +kernel
theorem dX2_pass_23 : decode cX2_pass 23 = .ok (.putfield 40, 3) := by decide +kernel
theorem dX2_pass_26 : decode cX2_pass 26 = .ok (.goto 8, 3) := by decide +kernel
theorem dX2_pass_29 : decode cX2_pass 29 = .ok (.aload_n 0, 1) := by decide +kernel
theorem dX2_pass_30 : decode cX2_pass 30 = .ok (.iconst 1, 1) := by decide +kernel
theorem dX2_pass_31 : decode cX2_pass 31 = .ok (.invokevirtual 63, 3) := by decide +kernel
theorem dX2_pass_34 : decode cX2_pass 34 = .ok (.return_, 1) := by decide +kernel
theorem dX2_isDigit_0 : decode cX2_isDigit 0 = .ok (.iload_n 0, 1) := by decide +kernel
theorem dX2_isDigit_1 : decode cX2_isDigit 1 = .ok (.bipush 48, 2) := by decide +kernel
theorem dX2_isDigit_3 : decode cX2_isDigit 3 = .ok (.if_icmp .lt 13, 3) := by decide +kernel
theorem dX2_isDigit_6 : decode cX2_isDigit 6 = .ok (.iload_n 0, 1) := by decide +kernel
theorem dX2_isDigit_7 : decode cX2_isDigit 7 = .ok (.bipush 57, 2) := by decide +kernel
theorem dX2_isDigit_9 : decode cX2_isDigit 9 = .ok (.if_icmp .gt 7, 3) := by decide +kernel
theorem dX2_isDigit_12 : decode cX2_isDigit 12 = .ok (.iconst 1, 1) := by decide +kernel
theorem dX2_isDigit_13 : decode cX2_isDigit 13 = .ok (.goto 4, 3) := by decide +kernel
theorem dX2_isDigit_16 : decode cX2_isDigit 16 = .ok (.iconst 0, 1) := by decide +kernel
theorem dX2_isDigit_17 : decode cX2_isDigit 17 = .ok (.ireturn, 1) := by decide +kernel
theorem dJ0_isLatin1_aae02_0 : decode cJ0_isLatin1_aae02 0 = .ok (.getstatic 38, 3) := by decide +kernel
theorem dJ0_isLatin1_aae02_3 : decode cJ0_isLatin1_aae02 3 = .ok (.ifCond .eq 14, 3) := by decide +kernel
theorem dJ0_isLatin1_aae02_6 : decode cJ0_isLatin1_aae02 6 = .ok (.aload_n 0, 1) := by decide +kernel
theorem dJ0_isLatin1_aae02_7 : decode cJ0_isLatin1_aae02 7 = .ok (.getfield 15, 3) := by decide +kernel
theorem dJ0_isLatin1_aae02_10 : decode cJ0_isLatin1_aae02 10 = .ok (.ifCond .ne 7, 3) := by decide +kernel
theorem dJ0_isLatin1_aae02_13 : decode cJ0_isLatin1_aae02 13 = .ok (.iconst 1, 1) := by decide +kernel
theorem dJ0_isLatin1_aae02_14 : decode cJ0_isLatin1_aae02 14 = .ok (.goto 4, 3) := by decide +kernel
theorem dJ0_isLatin1_aae02_17 : decode cJ0_isLatin1_aae02 17 = .ok (.iconst 0, 1) := by decide +kernel
theorem dJ0_isLatin1_aae02_18 : decode cJ0_isLatin1_aae02 18 = .ok (.ireturn, 1) := by decide +kernel
theorem dJ0_coder_7d493_0 : decode cJ0_coder_7d493 0 = .ok (.getstatic 38, 3) := by decide +kernel
theorem dJ0_coder_7d493_3 : decode cJ0_coder_7d493 3 = .ok (.ifCond .eq 10, 3) := by decide +kernel
theorem dJ0_coder_7d493_6 : decode cJ0_coder_7d493 6 = .ok (.aload_n 0, 1) := by decide +kernel
theorem dJ0_coder_7d493_7 : decode cJ0_coder_7d493 7 = .ok (.getfield 15, 3) := by decide +kernel
theorem dJ0_coder_7d493_10 : decode cJ0_coder_7d493 10 = .ok (.goto 4, 3) := by decide +kernel
theorem dJ0_coder_7d493_13 : decode cJ0_coder_7d493 13 = .ok (.iconst 1, 1) := by decide +kernel
theorem dJ0_coder_7d493_14 : decode cJ0_coder_7d493 14 = .ok (.ireturn, 1) := by decide +kernel
theorem dJ0_length_8abf5_0 : decode cJ0_length_8abf5 0 = .ok (.aload_n 0, 1) := by decide +kernel
theorem dJ0_length_8abf5_1 : decode cJ0_length_8abf5 1 = .ok (.getfield 9, 3) := by decide +kernel
theorem dJ0_length_8abf5_4 : decode cJ0_length_8abf5 4 = .ok (.arraylength, 1) := by decide +kernel
theorem dJ0_length_8abf5_5 : decode cJ0_length_8abf5 5 = .ok (.aload_n 0, 1) := by decide +kernel
theorem dJ0_length_8abf5_6 : decode cJ0_length_8abf5 6 = .ok (.invokevirtual 335, 3) := by decide +kernel
theorem dJ0_length_8abf5_9 : decode cJ0_length_8abf5 9 = .ok (.ishr, 1) := by decide +kernel
theorem dJ0_length_8abf5_10 : decode cJ0_length_8abf5 10 = .ok (.ireturn, 1) := by decide +kernel
theorem dJ1_canEncode_9a6ad_0 : decode cJ1_canEncode_9a6ad 0 = .ok (.iload_n 0, 1) := by decide +kernel
theorem dJ1_canEncode_9a6ad_1 : decode cJ1_canEncode_9a6ad 1 = .ok (.ifCond .lt 14, 3) := by decide +kernel
theorem dJ1_canEncode_9a6ad_4 : decode cJ1_canEncode_9a6ad 4 = .ok (.iload_n 0, 1) := by decide +kernel
theorem dJ1_canEncode_9a6ad_5 : decode cJ1_canEncode_9a6ad 5 = .ok (.sipush 255, 3) := by decide +kernel
theorem dJ1_canEncode_9a6ad_8 : decode cJ1_canEncode_9a6ad 8 = .ok (.if_icmp .gt 7, 3) := by decide +kernel
theorem dJ1_canEncode_9a6ad_11 : decode cJ1_canEncode_9a6ad 11 = .ok (.iconst 1, 1) := by decide +kernel
theorem dJ1_canEncode_9a6ad_12 : decode cJ1_canEncode_9a6ad 12 = .ok (.goto 4, 3) := by decide +kernel
theorem dJ1_canEncode_9a6ad_15 : decode cJ1_canEncode_9a6ad 15 = .ok (.iconst 0, 1) := by decide +kernel
theorem dJ1_canEncode_9a6ad_16 : decode cJ1_canEncode_9a6ad 16 = .ok (.ireturn, 1) := by decide +kernel
theorem dJ1_indexOfChar_4cfef_0 : decode cJ1_indexOfChar_4cfef 0 = .ok (.iload_n 1, 1) := by decide +kernel
theorem dJ1_indexOfChar_4cfef_1 : decode cJ1_indexOfChar_4cfef 1 = .ok (.i2b, 1) := by decide +kernel
theorem dJ1_indexOfChar_4cfef_2 : decode cJ1_indexOfChar_4cfef 2 = .ok (.istore 4, 2) := by decide +kernel
theorem dJ1_indexOfChar_4cfef_4 : decode cJ1_indexOfChar_4cfef 4 = .ok (.iload_n 2, 1) := by decide +kernel
theorem dJ1_indexOfChar_4cfef_5 : decode cJ1_indexOfChar_4cfef 5 = .ok (.istore 5, 2) := by decide +kernel
theorem dJ1_indexOfChar_4cfef_7 : decode cJ1_indexOfChar_4cfef 7 = .ok (.iload 5, 2) := by decide +kernel
theorem dJ1_indexOfChar_4cfef_9 : decode cJ1_indexOfChar_4cfef 9 = .ok (.iload_n 3, 1) := by decide +kernel
theorem dJ1_indexOfChar_4cfef_10 : decode cJ1_indexOfChar_4cfef 10 = .ok (.if_icmp .ge 21, 3) := by decide +kernel
theorem dJ1_indexOfChar_4cfef_13 : decode cJ1_indexOfChar_4cfef 13 = .ok (.aload_n 0, 1) := by decide +kernel
theorem dJ1_indexOfChar_4cfef_14 : decode cJ1_indexOfChar_4cfef 14 = .ok (.iload 5, 2) := by decide +kernel
theorem dJ1_indexOfChar_4cfef_16 : decode cJ1_indexOfChar_4cfef 16 = .ok (.baload, 1) := by decide +kernel
theorem dJ1_indexOfChar_4cfef_17 : decode cJ1_indexOfChar_4cfef 17 = .ok (.iload 4, 2) := by decide +kernel
theorem dJ1_indexOfChar_4cfef_19 : decode cJ1_indexOfChar_4cfef 19 = .ok (.if_icmp .ne 6, 3) := by decide +kernel
theorem dJ1_indexOfChar_4cfef_22 : decode cJ1_indexOfChar_4cfef 22 = .ok (.iload 5, 2) := by decide +kernel
theorem dJ1_indexOfChar_4cfef_24 : decode cJ1_indexOfChar_4cfef 24 = .ok (.ireturn, 1) := by decide +kernel
theorem dJ1_indexOfChar_4cfef_25 : decode cJ1_indexOfChar_4cfef 25 = .ok (.iinc 5 1, 3) := by decide +kernel
theorem dJ1_indexOfChar_4cfef_28 : decode cJ1_indexOfChar_4cfef 28 = .ok (.goto (-21), 3) := by decide +kernel
theorem dJ1_indexOfChar_4cfef_31 : decode cJ1_indexOfChar_4cfef 31 = .ok (.iconst (-1), 1) := by decide +kernel
theorem dJ1_indexOfChar_4cfef_32 : decode cJ1_indexOfChar_4cfef 32 = .ok (.ireturn, 1) := by decide +kernel
theorem dJ1_indexOf_4cfef_0 : decode cJ1_indexOf_4cfef 0 = .ok (.iload_n 1, 1) := by decide +kernel
theorem dJ1_indexOf_4cfef_1 : decode cJ1_indexOf_4cfef 1 = .ok (.invokestatic 88, 3) := by decide +kernel
theorem dJ1_indexOf_4cfef_4 : decode cJ1_indexOf_4cfef 4 = .ok (.ifCond .ne 5, 3) := by decide +kernel
theorem dJ1_indexOf_4cfef_7 : decode cJ1_indexOf_4cfef 7 = .ok (.iconst (-1), 1) := by decide +kernel
theorem dJ1_indexOf_4cfef_8 : decode cJ1_indexOf_4cfef 8 = .ok (.ireturn, 1) := by decide +kernel
theorem dJ1_indexOf_4cfef_9 : decode cJ1_indexOf_4cfef 9 = .ok (.iload_n 2, 1) := by decide +kernel
theorem dJ1_indexOf_4cfef_10 : decode cJ1_indexOf_4cfef 10 = .ok (.iconst 0, 1) := by decide +kernel
theorem dJ1_indexOf_4cfef_11 : decode cJ1_indexOf_4cfef 11 = .ok (.invokestatic 92, 3) := by decide +kernel
theorem dJ1_indexOf_4cfef_14 : decode cJ1_indexOf_4cfef 14 = .ok (.istore_n 2, 1) := by decide +kernel
theorem dJ1_indexOf_4cfef_15 : decode cJ1_indexOf_4cfef 15 = .ok (.iload_n 3, 1) := by decide +kernel
theorem dJ1_indexOf_4cfef_16 : decode cJ1_indexOf_4cfef 16 = .ok (.aload_n 0, 1) := by decide +kernel
theorem dJ1_indexOf_4cfef_17 : decode cJ1_indexOf_4cfef 17 = .ok (.arraylength, 1) := by decide +kernel
theorem dJ1_indexOf_4cfef_18 : decode cJ1_indexOf_4cfef 18 = .ok (.invokestatic 38, 3) := by decide +kernel
theorem dJ1_indexOf_4cfef_21 : decode cJ1_indexOf_4cfef 21 = .ok (.istore_n 3, 1) := by decide +kernel
theorem dJ1_indexOf_4cfef_22 : decode cJ1_indexOf_4cfef 22 = .ok (.iload_n 2, 1) := by decide +kernel
theorem dJ1_indexOf_4cfef_23 : decode cJ1_indexOf_4cfef 23 = .ok (.iload_n 3, 1) := by decide +kernel
theorem dJ1_indexOf_4cfef_24 : decode cJ1_indexOf_4cfef 24 = .ok (.if_icmp .lt 5, 3) := by decide +kernel
theorem dJ1_indexOf_4cfef_27 : decode cJ1_indexOf_4cfef 27 = .ok (.iconst (-1), 1) := by decide +kernel
theorem dJ1_indexOf_4cfef_28 : decode cJ1_indexOf_4cfef 28 = .ok (.ireturn, 1) := by decide +kernel
theorem dJ1_indexOf_4cfef_29 : decode cJ1_indexOf_4cfef 29 = .ok (.aload_n 0, 1) := by decide +kernel
theorem dJ1_indexOf_4cfef_30 : decode cJ1_indexOf_4cfef 30 = .ok (.iload_n 1, 1) := by decide +kernel
theorem dJ1_indexOf_4cfef_31 : decode cJ1_indexOf_4cfef 31 = .ok (.iload_n 2, 1) := by decide +kernel
theorem dJ1_indexOf_4cfef_32 : decode cJ1_indexOf_4cfef 32 = .ok (.iload_n 3, 1) := by decide +kernel
theorem dJ1_indexOf_4cfef_33 : decode cJ1_indexOf_4cfef 33 = .ok (.invokestatic 95, 3) := by decide +kernel
theorem dJ1_indexOf_4cfef_36 : decode cJ1_indexOf_4cfef 36 = .ok (.ireturn, 1) := by decide +kernel
theorem dJ0_indexOf_7cf53_0 : decode cJ0_indexOf_7cf53 0 = .ok (.aload_n 0, 1) := by decide +kernel
theorem dJ0_indexOf_7cf53_1 : decode cJ0_indexOf_7cf53 1 = .ok (.invokevirtual 492, 3) := by decide +kernel
theorem dJ0_indexOf_7cf53_4 : decode cJ0_indexOf_7cf53 4 = .ok (.ifCond .eq 19, 3) := by decide +kernel
theorem dJ0_indexOf_7cf53_7 : decode cJ0_indexOf_7cf53 7 = .ok (.aload_n 0, 1) := by decide +kernel
theorem dJ0_indexOf_7cf53_8 : decode cJ0_indexOf_7cf53 8 = .ok (.getfield 9, 3) := by decide +kernel
theorem dJ0_indexOf_7cf53_11 : decode cJ0_indexOf_7cf53 11 = .ok (.iload_n 1, 1) := by decide +kernel
theorem dJ0_indexOf_7cf53_12 : decode cJ0_indexOf_7cf53 12 = .ok (.iload_n 2, 1) := by decide +kernel
theorem dJ0_indexOf_7cf53_13 : decode cJ0_indexOf_7cf53 13 = .ok (.aload_n 0, 1) := by decide +kernel
theorem dJ0_indexOf_7cf53_14 : decode cJ0_indexOf_7cf53 14 = .ok (.invokevirtual 505, 3) := by decide +kernel
theorem dJ0_indexOf_7cf53_17 : decode cJ0_indexOf_7cf53 17 = .ok (.invokestatic 637, 3) := by decide +kernel
theorem dJ0_indexOf_7cf53_20 : decode cJ0_indexOf_7cf53 20 = .ok (.goto 16, 3) := by decide +kernel
theorem dJ0_indexOf_7cf53_23 : decode cJ0_indexOf_7cf53 23 = .ok (.aload_n 0, 1) := by decide +kernel
theorem dJ0_indexOf_7cf53_24 : decode cJ0_indexOf_7cf53 24 = .ok (.getfield 9, 3) := by decide +kernel
theorem dJ0_indexOf_7cf53_27 : decode cJ0_indexOf_7cf53 27 = .ok (.iload_n 1, 1) := by decide +kernel
theorem dJ0_indexOf_7cf53_28 : decode cJ0_indexOf_7cf53 28 = .ok (.iload_n 2, 1) := by decide +kernel
theorem dJ0_indexOf_7cf53_29 : decode cJ0_indexOf_7cf53 29 = .ok (.aload_n 0, 1) := by decide +kernel
theorem dJ0_indexOf_7cf53_30 : decode cJ0_indexOf_7cf53 30 = .ok (.invokevirtual 505, 3) := by decide +kernel
theorem dJ0_indexOf_7cf53_33 : decode cJ0_indexOf_7cf53 33 = .ok (.invokestatic 640, 3) := by decide +kernel
theorem dJ0_indexOf_7cf53_36 : decode cJ0_indexOf_7cf53 36 = .ok (.ireturn, 1) := by decide +kernel
theorem dJ0_indexOf_0f7a4_0 : decode cJ0_indexOf_0f7a4 0 = .ok (.aload_n 0, 1) := by decide +kernel
theorem dJ0_indexOf_0f7a4_1 : decode cJ0_indexOf_0f7a4 1 = .ok (.iload_n 1, 1) := by decide +kernel
theorem dJ0_indexOf_0f7a4_2 : decode cJ0_indexOf_0f7a4 2 = .ok (.iconst 0, 1) := by decide +kernel
theorem dJ0_indexOf_0f7a4_3 : decode cJ0_indexOf_0f7a4 3 = .ok (.invokevirtual 633, 3) := by decide +kernel
theorem dJ0_indexOf_0f7a4_6 : decode cJ0_indexOf_0f7a4 6 = .ok (.ireturn, 1) := by decide +kernel
theorem dX2_letter_0 : decode cX2_letter 0 = .ok (.iload_n 1, 1) := by decide +kernel
theorem dX2_letter_1 : decode cX2_letter 1 = .ok (.ifCond .ge 7, 3) := by decide +kernel
theorem dX2_letter_4 : decode cX2_letter 4 = .ok (.iconst (-1), 1) := by decide +kernel
theorem dX2_letter_5 : decode cX2_letter 5 = .ok (.goto 10, 3) := by decide +kernel
theorem dX2_letter_8 : decode cX2_letter 8 = .ok (.ldc 116, 2) := by decide +kernel
theorem dX2_letter_10 : decode cX2_letter 10 = .ok (.iload_n 1, 1) := by decide +kernel
theorem dX2_letter_11 : decode cX2_letter 11 = .ok (.i2c, 1) := by decide +kernel
theorem dX2_letter_12 : decode cX2_letter 12 = .ok (.invokevirtual 118, 3) := by decide +kernel
theorem dX2_letter_15 : decode cX2_letter 15 = .ok (.istore_n 2, 1) := by decide +kernel
theorem dX2_letter_16 : decode cX2_letter 16 = .ok (.iload_n 2, 1) := by decide +kernel
theorem dX2_letter_17 : decode cX2_letter 17 = .ok (.ifCond .ge 9, 3) := by decide +kernel
theorem dX2_letter_20 : decode cX2_letter 20 = .ok (.aload_n 0, 1) := by decide +kernel
theorem dX2_letter_21 : decode cX2_letter 21 = .ok (.iconst 1, 1) := by decide +kernel
theorem dX2_letter_22 : decode cX2_letter 22 = .ok (.invokevirtual 63, 3) := by decide +kernel
theorem dX2_letter_25 : decode cX2_letter 25 = .ok (.return_, 1) := by decide +kernel
theorem dX2_letter_26 : decode cX2_letter 26 = .ok (.iload_n 2, 1) := by decide +kernel
theorem dX2_letter_27 : decode cX2_letter 27 = .ok (.bipush 9, 2) := by decide +kernel
theorem dX2_letter_29 : decode cX2_letter 29 = .ok (.if_icmp .ne 11, 3) := by decide +kernel
theorem dX2_letter_32 : decode cX2_letter 32 = .ok (.aload_n 0, 1) := by decide +kernel
theorem dX2_letter_33 : decode cX2_letter 33 = .ok (.getfield 15, 3) := by decide +kernel
theorem dX2_letter_36 : decode cX2_letter 36 = .ok (.iconst 1, 1) := by decide +kernel
theorem dX2_letter_37 : decode cX2_letter 37 = .ok (.putfield 125, 3) := by decide +kernel
theorem dX2_letter_40 : decode cX2_letter 40 = .ok (.aload_n 0, 1) := by decide +kernel
theorem dX2_letter_41 : decode cX2_letter 41 = .ok (.dup, 1) := by decide +kernel
theorem dX2_letter_42 : decode cX2_letter 42 = .ok (.getfield 40, 3) := by decide +kernel
theorem dX2_letter_45 : decode cX2_letter 45 = .ok (.iconst 1, 1) := by decide +kernel
theorem dX2_letter_46 : decode cX2_letter 46 = .ok (.iadd, 1) := by decide +kernel
theorem dX2_letter_47 : decode cX2_letter 47 = .ok (.putfield 40, 3) := by decide +kernel
theorem dX2_letter_50 : decode cX2_letter 50 = .ok (.aload_n 0, 1) := by decide +kernel
theorem dX2_letter_51 : decode cX2_letter 51 = .ok (.getfield 15, 3) := by decide +kernel
theorem dX2_letter_54 : decode cX2_letter 54 = .ok (.iconst 1, 1) := by decide +kernel
theorem dX2_letter_55 : decode cX2_letter 55 = .ok (.iload_n 2, 1) := by decide +kernel
theorem dX2_letter_56 : decode cX2_letter 56 = .ok (.invokevirtual 88, 3) := by decide +kernel
theorem dX2_letter_59 : decode cX2_letter 59 = .ok (.pop, 1) := by decide +kernel
theorem dX2_letter_60 : decode cX2_letter 60 = .ok (.return_, 1) := by decide +kernel
theorem dX2_number_0 : decode cX2_number 0 = .ok (.iconst 0, 1) := by decide +kernel
theorem dX2_number_1 : decode cX2_number 1 = .ok (.istore_n 1, 1) := by decide +kernel
theorem dX2_number_2 : decode cX2_number 2 = .ok (.iconst 0, 1) := by decide +kernel
theorem dX2_number_3 : decode cX2_number 3 = .ok (.istore_n 2, 1) := by decide +kernel
theorem dX2_number_4 : decode cX2_number 4 = .ok (.aload_n 0, 1) := by decide +kernel
theorem dX2_number_5 : decode cX2_number 5 = .ok (.invokevirtual 59, 3) := by decide +kernel
theorem dX2_number_8 : decode cX2_number 8 = .ok (.invokestatic 106, 3) := by decide +kernel
theorem dX2_number_11 : decode cX2_number 11 = .ok (.ifCond .eq 43, 3) := by decide +kernel
theorem dX2_number_14 : decode cX2_number 14 = .ok (.iload_n 2, 1) := by decide +kernel
theorem dX2_number_15 : decode cX2_number 15 = .ok (.iconst 5, 1) := by decide +kernel
theorem dX2_number_16 : decode cX2_number 16 = .ok (.if_icmp .ne 9, 3) := by decide +kernel
theorem dX2_number_19 : decode cX2_number 19 = .ok (.aload_n 0, 1) := by decide +kernel
theorem dX2_number_20 : decode cX2_number 20 = .ok (.iconst 2, 1) := by decide +kernel
theorem dX2_number_21 : decode cX2_number 21 = .ok (.invokevirtual 63, 3) := by decide +kernel
theorem dX2_number_24 : decode cX2_number 24 = .ok (.return_, 1) := by decide +kernel
theorem dX2_number_25 : decode cX2_number 25 = .ok (.bipush 10, 2) := by decide +kernel
theorem dX2_number_27 : decode cX2_number 27 = .ok (.iload_n 1, 1) := by decide +kernel
theorem dX2_number_28 : decode cX2_number 28 = .ok (.imul, 1) := by decide +kernel
theorem dX2_number_29 : decode cX2_number 29 = .ok (.aload_n 0, 1) := by decide +kernel
theorem dX2_number_30 : decode cX2_number 30 = .ok (.invokevirtual 59, 3) := by decide +kernel
theorem dX2_number_33 : decode cX2_number 33 = .ok (.iadd, 1) := by decide +kernel
theorem dX2_number_34 : decode cX2_number 34 = .ok (.bipush 48, 2) := by decide +kernel
theorem dX2_number_36 : decode cX2_number 36 = .ok (.isub, 1) := by decide +kernel
theorem dX2_number_37 : decode cX2_number 37 = .ok (.istore_n 1, 1) := by decide +kernel
theorem dX2_number_38 : decode cX2_number 38 = .ok (.aload_n 0, 1) := by decide +kernel
theorem dX2_number_39 : decode cX2_number 39 = .ok (.dup, 1) := by decide +kernel
theorem dX2_number_40 : decode cX2_number 40 = .ok (.getfield 40, 3) := by decide +kernel
theorem dX2_number_43 : decode cX2_number 43 = .ok (.iconst 1, 1) := by decide +kernel
theorem dX2_number_44 : decode cX2_number 44 = .ok (.iadd, 1) := by decide +kernel
theorem dX2_number_45 : decode cX2_number 45 = .ok (.putfield 40, 3) := by decide +kernel
theorem dX2_number_48 : decode cX2_number 48 = .ok (.iinc 2 1, 3) := by decide +kernel
theorem dX2_number_51 : decode cX2_number 51 = .ok (.goto (-47), 3) := by decide +kernel
theorem dX2_number_54 : decode cX2_number 54 = .ok (.aload_n 0, 1) := by decide +kernel
theorem dX2_number_55 : decode cX2_number 55 = .ok (.getfield 15, 3) := by decide +kernel
theorem dX2_number_58 : decode cX2_number 58 = .ok (.iconst 0, 1) := by decide +kernel
theorem dX2_number_59 : decode cX2_number 59 = .ok (.iload_n 1, 1) := by decide +kernel
theorem dX2_number_60 : decode cX2_number 60 = .ok (.invokevirtual 88, 3) := by decide +kernel
theorem dX2_number_63 : decode cX2_number 63 = .ok (.pop, 1) := by decide +kernel
theorem dX2_number_64 : decode cX2_number 64 = .ok (.return_, 1) := by decide +kernel
theorem dX2_sum_0 : decode cX2_sum 0 = .ok (.aload_n 0, 1) := by decide +kernel
theorem dX2_sum_1 : decode cX2_sum 1 = .ok (.invokevirtual 100, 3) := by decide +kernel
theorem dX2_sum_4 : decode cX2_sum 4 = .ok (.iconst 0, 1) := by decide +kernel
theorem dX2_sum_5 : decode cX2_sum 5 = .ok (.istore_n 1, 1) := by decide +kernel
theorem dX2_sum_6 : decode cX2_sum 6 = .ok (.iload_n 1, 1) := by decide +kernel
theorem dX2_sum_7 : decode cX2_sum 7 = .ok (.sipush 200, 3) := by decide +kernel
theorem dX2_sum_10 : decode cX2_sum 10 = .ok (.if_icmp .ge 58, 3) := by decide +kernel
theorem dX2_sum_13 : decode cX2_sum 13 = .ok (.aload_n 0, 1) := by decide +kernel
theorem dX2_sum_14 : decode cX2_sum 14 = .ok (.getfield 46, 3) := by decide +kernel
theorem dX2_sum_17 : decode cX2_sum 17 = .ok (.ifCond .ne 51, 3) := by decide +kernel
theorem dX2_sum_20 : decode cX2_sum 20 = .ok (.aload_n 0, 1) := by decide +kernel
theorem dX2_sum_21 : decode cX2_sum 21 = .ok (.invokevirtual 59, 3) := by decide +kernel
theorem dX2_sum_24 : decode cX2_sum 24 = .ok (.istore_n 2, 1) := by decide +kernel
theorem dX2_sum_25 : decode cX2_sum 25 = .ok (.iload_n 2, 1) := by decide +kernel
theorem dX2_sum_26 : decode cX2_sum 26 = .ok (.bipush 43, 2) := by decide +kernel
theorem dX2_sum_28 : decode cX2_sum 28 = .ok (.if_icmp .eq 10, 3) := by decide +kernel
theorem dX2_sum_31 : decode cX2_sum 31 = .ok (.iload_n 2, 1) := by decide +kernel
theorem dX2_sum_32 : decode cX2_sum 32 = .ok (.bipush 45, 2) := by decide +kernel
theorem dX2_sum_34 : decode cX2_sum 34 = .ok (.if_icmp .eq 4, 3) := by decide +kernel
theorem dX2_sum_37 : decode cX2_sum 37 = .ok (.return_, 1) := by decide +kernel
theorem dX2_sum_38 : decode cX2_sum 38 = .ok (.aload_n 0, 1) := by decide +kernel
theorem dX2_sum_39 : decode cX2_sum 39 = .ok (.dup, 1) := by decide +kernel
theorem dX2_sum_40 : decode cX2_sum 40 = .ok (.getfield 40, 3) := by decide +kernel
theorem dX2_sum_43 : decode cX2_sum 43 = .ok (.iconst 1, 1) := by decide +kernel
theorem dX2_sum_44 : decode cX2_sum 44 = .ok (.iadd, 1) := by decide +kernel
theorem dX2_sum_45 : decode cX2_sum 45 = .ok (.putfield 40, 3) := by decide +kernel
theorem dX2_sum_48 : decode cX2_sum 48 = .ok (.aload_n 0, 1) := by decide +kernel
theorem dX2_sum_49 : decode cX2_sum 49 = .ok (.invokevirtual 100, 3) := by decide +kernel
theorem dX2_sum_52 : decode cX2_sum 52 = .ok (.aload_n 0, 1) := by decide +kernel
theorem dX2_sum_53 : decode cX2_sum 53 = .ok (.getfield 15, 3) := by decide +kernel
theorem dX2_sum_56 : decode cX2_sum 56 = .ok (.iload_n 2, 1) := by decide +kernel
theorem dX2_sum_57 : decode cX2_sum 57 = .ok (.iconst 0, 1) := by decide +kernel
theorem dX2_sum_58 : decode cX2_sum 58 = .ok (.invokevirtual 88, 3) := by decide +kernel
theorem dX2_sum_61 : decode cX2_sum 61 = .ok (.pop, 1) := by decide +kernel
theorem dX2_sum_62 : decode cX2_sum 62 = .ok (.iinc 1 1, 3) := by decide +kernel
theorem dX2_sum_65 : decode cX2_sum 65 = .ok (.goto (-59), 3) := by decide +kernel
theorem dX2_sum_68 : decode cX2_sum 68 = .ok (.return_, 1) := by decide +kernel
theorem dX2_product_0 : decode cX2_product 0 = .ok (.aload_n 0, 1) := by decide +kernel
theorem dX2_product_1 : decode cX2_product 1 = .ok (.invokevirtual 103, 3) := by decide +kernel
theorem dX2_product_4 : decode cX2_product 4 = .ok (.iconst 0, 1) := by decide +kernel
theorem dX2_product_5 : decode cX2_product 5 = .ok (.istore_n 1, 1) := by decide +kernel
theorem dX2_product_6 : decode cX2_product 6 = .ok (.iload_n 1, 1) := by decide +kernel
theorem dX2_product_7 : decode cX2_product 7 = .ok (.sipush 200, 3) := by decide +kernel
theorem dX2_product_10 : decode cX2_product 10 = .ok (.if_icmp .ge 64, 3) := by decide +kernel
theorem dX2_product_13 : decode cX2_product 13 = .ok (.aload_n 0, 1) := by decide +kernel
theorem dX2_product_14 : decode cX2_product 14 = .ok (.getfield 46, 3) := by decide +kernel
theorem dX2_product_17 : decode cX2_product 17 = .ok (.ifCond .ne 57, 3) := by decide +kernel
theorem dX2_product_20 : decode cX2_product 20 = .ok (.aload_n 0, 1) := by decide +kernel
theorem dX2_product_21 : decode cX2_product 21 = .ok (.invokevirtual 59, 3) := by decide +kernel
theorem dX2_product_24 : decode cX2_product 24 = .ok (.istore_n 2, 1) := by decide +kernel
theorem dX2_product_25 : decode cX2_product 25 = .ok (.iload_n 2, 1) := by decide +kernel
theorem dX2_product_26 : decode cX2_product 26 = .ok (.bipush 42, 2) := by decide +kernel
theorem dX2_product_28 : decode cX2_product 28 = .ok (.if_icmp .eq 16, 3) := by decide +kernel
theorem dX2_product_31 : decode cX2_product 31 = .ok (.iload_n 2, 1) := by decide +kernel
theorem dX2_product_32 : decode cX2_product 32 = .ok (.bipush 47, 2) := by decide +kernel
theorem dX2_product_34 : decode cX2_product 34 = .ok (.if_icmp .eq 10, 3) := by decide +kernel
theorem dX2_product_37 : decode cX2_product 37 = .ok (.iload_n 2, 1) := by decide +kernel
theorem dX2_product_38 : decode cX2_product 38 = .ok (.bipush 37, 2) := by decide +kernel
theorem dX2_product_40 : decode cX2_product 40 = .ok (.if_icmp .eq 4, 3) := by decide +kernel
theorem dX2_product_43 : decode cX2_product 43 = .ok (.return_, 1) := by decide +kernel
theorem dX2_product_44 : decode cX2_product 44 = .ok (.aload_n 0, 1) := by decide +kernel
theorem dX2_product_45 : decode cX2_product 45 = .ok (.dup, 1) := by decide +kernel
theorem dX2_product_46 : decode cX2_product 46 = .ok (.getfield 40, 3) := by decide +kernel
theorem dX2_product_49 : decode cX2_product 49 = .ok (.iconst 1, 1) := by decide +kernel
theorem dX2_product_50 : decode cX2_product 50 = .ok (.iadd, 1) := by decide +kernel
theorem dX2_product_51 : decode cX2_product 51 = .ok (.putfield 40, 3) := by decide +kernel
theorem dX2_product_54 : decode cX2_product 54 = .ok (.aload_n 0, 1) := by decide +kernel
theorem dX2_product_55 : decode cX2_product 55 = .ok (.invokevirtual 103, 3) := by decide +kernel
theorem dX2_product_58 : decode cX2_product 58 = .ok (.aload_n 0, 1) := by decide +kernel
theorem dX2_product_59 : decode cX2_product 59 = .ok (.getfield 15, 3) := by decide +kernel
theorem dX2_product_62 : decode cX2_product 62 = .ok (.iload_n 2, 1) := by decide +kernel
theorem dX2_product_63 : decode cX2_product 63 = .ok (.iconst 0, 1) := by decide +kernel
theorem dX2_product_64 : decode cX2_product 64 = .ok (.invokevirtual 88, 3) := by decide +kernel
theorem dX2_product_67 : decode cX2_product 67 = .ok (.pop, 1) := by decide +kernel
theorem dX2_product_68 : decode cX2_product 68 = .ok (.iinc 1 1, 3) := by decide +kernel
theorem dX2_product_71 : decode cX2_product 71 = .ok (.goto (-65), 3) := by decide +kernel
theorem dX2_product_74 : decode cX2_product 74 = .ok (.return_, 1) := by decide +kernel
theorem dX2_factor_0 : decode cX2_factor 0 = .ok (.aload_n 0, 1) := by decide +kernel
theorem dX2_factor_1 : decode cX2_factor 1 = .ok (.getfield 46, 3) := by decide +kernel
theorem dX2_factor_4 : decode cX2_factor 4 = .ok (.ifCond .eq 4, 3) := by decide +kernel
theorem dX2_factor_7 : decode cX2_factor 7 = .ok (.return_, 1) := by decide +kernel
theorem dX2_factor_8 : decode cX2_factor 8 = .ok (.aload_n 0, 1) := by decide +kernel
theorem dX2_factor_9 : decode cX2_factor 9 = .ok (.invokevirtual 59, 3) := by decide +kernel
theorem dX2_factor_12 : decode cX2_factor 12 = .ok (.istore_n 1, 1) := by decide +kernel
theorem dX2_factor_13 : decode cX2_factor 13 = .ok (.iload_n 1, 1) := by decide +kernel
theorem dX2_factor_14 : decode cX2_factor 14 = .ok (.bipush 91, 2) := by decide +kernel
theorem dX2_factor_16 : decode cX2_factor 16 = .ok (.if_icmp .ne 30, 3) := by decide +kernel
theorem dX2_factor_19 : decode cX2_factor 19 = .ok (.aload_n 0, 1) := by decide +kernel
theorem dX2_factor_20 : decode cX2_factor 20 = .ok (.invokevirtual 79, 3) := by decide +kernel
theorem dX2_factor_23 : decode cX2_factor 23 = .ok (.aload_n 0, 1) := by decide +kernel
theorem dX2_factor_24 : decode cX2_factor 24 = .ok (.invokevirtual 70, 3) := by decide +kernel
theorem dX2_factor_27 : decode cX2_factor 27 = .ok (.aload_n 0, 1) := by decide +kernel
theorem dX2_factor_28 : decode cX2_factor 28 = .ok (.bipush 93, 2) := by decide +kernel
theorem dX2_factor_30 : decode cX2_factor 30 = .ok (.invokevirtual 55, 3) := by decide +kernel
theorem dX2_factor_33 : decode cX2_factor 33 = .ok (.aload_n 0, 1) := by decide +kernel
theorem dX2_factor_34 : decode cX2_factor 34 = .ok (.dup, 1) := by decide +kernel
theorem dX2_factor_35 : decode cX2_factor 35 = .ok (.getfield 43, 3) := by decide +kernel
theorem dX2_factor_38 : decode cX2_factor 38 = .ok (.iconst 1, 1) := by decide +kernel
theorem dX2_factor_39 : decode cX2_factor 39 = .ok (.isub, 1) := by decide +kernel
theorem dX2_factor_40 : decode cX2_factor 40 = .ok (.putfield 43, 3) := by decide +kernel
theorem dX2_factor_43 : decode cX2_factor 43 = .ok (.goto 22, 3) := by decide +kernel
theorem dX2_factor_46 : decode cX2_factor 46 = .ok (.iload_n 1, 1) := by decide +kernel
theorem dX2_factor_47 : decode cX2_factor 47 = .ok (.invokestatic 106, 3) := by decide +kernel
theorem dX2_factor_50 : decode cX2_factor 50 = .ok (.ifCond .eq 10, 3) := by decide +kernel
theorem dX2_factor_53 : decode cX2_factor 53 = .ok (.aload_n 0, 1) := by decide +kernel
theorem dX2_factor_54 : decode cX2_factor 54 = .ok (.invokevirtual 110, 3) := by decide +kernel
theorem dX2_factor_57 : decode cX2_factor 57 = .ok (.goto 8, 3) := by decide +kernel
theorem dX2_factor_60 : decode cX2_factor 60 = .ok (.aload_n 0, 1) := by decide +kernel
theorem dX2_factor_61 : decode cX2_factor 61 = .ok (.iload_n 1, 1) := by decide +kernel
theorem dX2_factor_62 : decode cX2_factor 62 = .ok (.invokevirtual 113, 3) := by decide +kernel
theorem dX2_factor_65 : decode cX2_factor 65 = .ok (.return_, 1) := by decide +kernel
theorem dX2_comparison_0 : decode cX2_comparison 0 = .ok (.aload_n 0, 1) := by decide +kernel
theorem dX2_comparison_1 : decode cX2_comparison 1 = .ok (.invokevirtual 70, 3) := by decide +kernel
theorem dX2_comparison_4 : decode cX2_comparison 4 = .ok (.aload_n 0, 1) := by decide +kernel
theorem dX2_comparison_5 : decode cX2_comparison 5 = .ok (.getfield 46, 3) := by decide +kernel
theorem dX2_comparison_8 : decode cX2_comparison 8 = .ok (.ifCond .eq 4, 3) := by decide +kernel
theorem dX2_comparison_11 : decode cX2_comparison 11 = .ok (.return_, 1) := by decide +kernel
theorem dX2_comparison_12 : decode cX2_comparison 12 = .ok (.aload_n 0, 1) := by decide +kernel
theorem dX2_comparison_13 : decode cX2_comparison 13 = .ok (.invokevirtual 59, 3) := by decide +kernel
theorem dX2_comparison_16 : decode cX2_comparison 16 = .ok (.istore_n 1, 1) := by decide +kernel
theorem dX2_comparison_17 : decode cX2_comparison 17 = .ok (.iload_n 1, 1) := by decide +kernel
theorem dX2_comparison_18 : decode cX2_comparison 18 = .ok (.bipush 60, 2) := by decide +kernel
theorem dX2_comparison_20 : decode cX2_comparison 20 = .ok (.if_icmp .eq 21, 3) := by decide +kernel
theorem dX2_comparison_23 : decode cX2_comparison 23 = .ok (.iload_n 1, 1) := by decide +kernel
theorem dX2_comparison_24 : decode cX2_comparison 24 = .ok (.bipush 62, 2) := by decide +kernel
theorem dX2_comparison_26 : decode cX2_comparison 26 = .ok (.if_icmp .eq 15, 3) := by decide +kernel
theorem dX2_comparison_29 : decode cX2_comparison 29 = .ok (.iload_n 1, 1) := by decide +kernel
theorem dX2_comparison_30 : decode cX2_comparison 30 = .ok (.bipush 61, 2) := by decide +kernel
theorem dX2_comparison_32 : decode cX2_comparison 32 = .ok (.if_icmp .eq 9, 3) := by decide +kernel
theorem dX2_comparison_35 : decode cX2_comparison 35 = .ok (.aload_n 0, 1) := by decide +kernel
theorem dX2_comparison_36 : decode cX2_comparison 36 = .ok (.iconst 1, 1) := by decide +kernel
theorem dX2_comparison_37 : decode cX2_comparison 37 = .ok (.invokevirtual 63, 3) := by decide +kernel
theorem dX2_comparison_40 : decode cX2_comparison 40 = .ok (.return_, 1) := by decide +kernel
theorem dX2_comparison_41 : decode cX2_comparison 41 = .ok (.aload_n 0, 1) := by decide +kernel
theorem dX2_comparison_42 : decode cX2_comparison 42 = .ok (.dup, 1) := by decide +kernel
theorem dX2_comparison_43 : decode cX2_comparison 43 = .ok (.getfield 40, 3) := by decide +kernel
theorem dX2_comparison_46 : decode cX2_comparison 46 = .ok (.iconst 1, 1) := by decide +kernel
theorem dX2_comparison_47 : decode cX2_comparison 47 = .ok (.iadd, 1) := by decide +kernel
theorem dX2_comparison_48 : decode cX2_comparison 48 = .ok (.putfield 40, 3) := by decide +kernel
theorem dX2_comparison_51 : decode cX2_comparison 51 = .ok (.aload_n 0, 1) := by decide +kernel
theorem dX2_comparison_52 : decode cX2_comparison 52 = .ok (.invokevirtual 70, 3) := by decide +kernel
theorem dX2_comparison_55 : decode cX2_comparison 55 = .ok (.aload_n 0, 1) := by decide +kernel
theorem dX2_comparison_56 : decode cX2_comparison 56 = .ok (.getfield 15, 3) := by decide +kernel
theorem dX2_comparison_59 : decode cX2_comparison 59 = .ok (.iload_n 1, 1) := by decide +kernel
theorem dX2_comparison_60 : decode cX2_comparison 60 = .ok (.iconst 0, 1) := by decide +kernel
theorem dX2_comparison_61 : decode cX2_comparison 61 = .ok (.invokevirtual 88, 3) := by decide +kernel
theorem dX2_comparison_64 : decode cX2_comparison 64 = .ok (.pop, 1) := by decide +kernel
theorem dX2_comparison_65 : decode cX2_comparison 65 = .ok (.return_, 1) := by decide +kernel
theorem dX2_piece_0 : decode cX2_piece 0 = .ok (.aload_n 0, 1) := by decide +kernel
theorem dX2_piece_1 : decode cX2_piece 1 = .ok (.getfield 46, 3) := by decide +kernel
theorem dX2_piece_4 : decode cX2_piece 4 = .ok (.ifCond .eq 4, 3) := by decide +kernel
theorem dX2_piece_7 : decode cX2_piece 7 = .ok (.return_, 1) := by decide +kernel
theorem dX2_piece_8 : decode cX2_piece 8 = .ok (.aload_n 0, 1) := by decide +kernel
theorem dX2_piece_9 : decode cX2_piece 9 = .ok (.invokevirtual 59, 3) := by decide +kernel
theorem dX2_piece_12 : decode cX2_piece 12 = .ok (.istore_n 1, 1) := by decide +kernel
theorem dX2_piece_13 : decode cX2_piece 13 = .ok (.iload_n 1, 1) := by decide +kernel
theorem dX2_piece_14 : decode cX2_piece 14 = .ok (.bipush 33, 2) := by decide +kernel
theorem dX2_piece_16 : decode cX2_piece 16 = .ok (.if_icmp .ne 34, 3) := by decide +kernel
theorem dX2_piece_19 : decode cX2_piece 19 = .ok (.aload_n 0, 1) := by decide +kernel
theorem dX2_piece_20 : decode cX2_piece 20 = .ok (.invokevirtual 79, 3) := by decide +kernel
theorem dX2_piece_23 : decode cX2_piece 23 = .ok (.aload_n 0, 1) := by decide +kernel
theorem dX2_piece_24 : decode cX2_piece 24 = .ok (.invokevirtual 94, 3) := by decide +kernel
theorem dX2_piece_27 : decode cX2_piece 27 = .ok (.aload_n 0, 1) := by decide +kernel
theorem dX2_piece_28 : decode cX2_piece 28 = .ok (.dup, 1) := by decide +kernel
theorem dX2_piece_29 : decode cX2_piece 29 = .ok (.getfield 43, 3) := by decide +kernel
theorem dX2_piece_32 : decode cX2_piece 32 = .ok (.iconst 1, 1) := by decide +kernel
theorem dX2_piece_33 : decode cX2_piece 33 = .ok (.isub, 1) := by decide +kernel
theorem dX2_piece_34 : decode cX2_piece 34 = .ok (.putfield 43, 3) := by decide +kernel
theorem dX2_piece_37 : decode cX2_piece 37 = .ok (.aload_n 0, 1) := by decide +kernel
theorem dX2_piece_38 : decode cX2_piece 38 = .ok (.getfield 15, 3) := by decide +kernel
theorem dX2_piece_41 : decode cX2_piece 41 = .ok (.iconst 2, 1) := by decide +kernel
theorem dX2_piece_42 : decode cX2_piece 42 = .ok (.iconst 0, 1) := by decide +kernel
theorem dX2_piece_43 : decode cX2_piece 43 = .ok (.invokevirtual 88, 3) := by decide +kernel
theorem dX2_piece_46 : decode cX2_piece 46 = .ok (.pop, 1) := by decide +kernel
theorem dX2_piece_47 : decode cX2_piece 47 = .ok (.goto 20, 3) := by decide +kernel
theorem dX2_piece_50 : decode cX2_piece 50 = .ok (.iload_n 1, 1) := by decide +kernel
theorem dX2_piece_51 : decode cX2_piece 51 = .ok (.bipush 40, 2) := by decide +kernel
theorem dX2_piece_53 : decode cX2_piece 53 = .ok (.if_icmp .ne 10, 3) := by decide +kernel
theorem dX2_piece_56 : decode cX2_piece 56 = .ok (.aload_n 0, 1) := by decide +kernel
theorem dX2_piece_57 : decode cX2_piece 57 = .ok (.invokevirtual 76, 3) := by decide +kernel
theorem dX2_piece_60 : decode cX2_piece 60 = .ok (.goto 7, 3) := by decide +kernel
theorem dX2_piece_63 : decode cX2_piece 63 = .ok (.aload_n 0, 1) := by decide +kernel
theorem dX2_piece_64 : decode cX2_piece 64 = .ok (.invokevirtual 97, 3) := by decide +kernel
theorem dX2_piece_67 : decode cX2_piece 67 = .ok (.return_, 1) := by decide +kernel
theorem dX2_group_0 : decode cX2_group 0 = .ok (.aload_n 0, 1) := by decide +kernel
theorem dX2_group_1 : decode cX2_group 1 = .ok (.getfield 46, 3) := by decide +kernel
theorem dX2_group_4 : decode cX2_group 4 = .ok (.ifCond .eq 4, 3) := by decide +kernel
theorem dX2_group_7 : decode cX2_group 7 = .ok (.return_, 1) := by decide +kernel
theorem dX2_group_8 : decode cX2_group 8 = .ok (.aload_n 0, 1) := by decide +kernel
theorem dX2_group_9 : decode cX2_group 9 = .ok (.invokevirtual 59, 3) := by decide +kernel
theorem dX2_group_12 : decode cX2_group 12 = .ok (.bipush 40, 2) := by decide +kernel
theorem dX2_group_14 : decode cX2_group 14 = .ok (.if_icmp .eq 9, 3) := by decide +kernel
theorem dX2_group_17 : decode cX2_group 17 = .ok (.aload_n 0, 1) := by decide +kernel
theorem dX2_group_18 : decode cX2_group 18 = .ok (.iconst 1, 1) := by decide +kernel
theorem dX2_group_19 : decode cX2_group 19 = .ok (.invokevirtual 63, 3) := by decide +kernel
theorem dX2_group_22 : decode cX2_group 22 = .ok (.return_, 1) := by decide +kernel
theorem dX2_group_23 : decode cX2_group 23 = .ok (.aload_n 0, 1) := by decide +kernel
theorem dX2_group_24 : decode cX2_group 24 = .ok (.invokevirtual 79, 3) := by decide +kernel
theorem dX2_group_27 : decode cX2_group 27 = .ok (.aload_n 0, 1) := by decide +kernel
theorem dX2_group_28 : decode cX2_group 28 = .ok (.invokevirtual 82, 3) := by decide +kernel
theorem dX2_group_31 : decode cX2_group 31 = .ok (.aload_n 0, 1) := by decide +kernel
theorem dX2_group_32 : decode cX2_group 32 = .ok (.bipush 41, 2) := by decide +kernel
theorem dX2_group_34 : decode cX2_group 34 = .ok (.invokevirtual 55, 3) := by decide +kernel
theorem dX2_group_37 : decode cX2_group 37 = .ok (.aload_n 0, 1) := by decide +kernel
theorem dX2_group_38 : decode cX2_group 38 = .ok (.dup, 1) := by decide +kernel
theorem dX2_group_39 : decode cX2_group 39 = .ok (.getfield 43, 3) := by decide +kernel
theorem dX2_group_42 : decode cX2_group 42 = .ok (.iconst 1, 1) := by decide +kernel
theorem dX2_group_43 : decode cX2_group 43 = .ok (.isub, 1) := by decide +kernel
theorem dX2_group_44 : decode cX2_group 44 = .ok (.putfield 43, 3) := by decide +kernel
theorem dX2_group_47 : decode cX2_group 47 = .ok (.return_, 1) := by decide +kernel
theorem dX2_condition_0 : decode cX2_condition 0 = .ok (.aload_n 0, 1) := by decide +kernel
theorem dX2_condition_1 : decode cX2_condition 1 = .ok (.invokevirtual 85, 3) := by decide +kernel
theorem dX2_condition_4 : decode cX2_condition 4 = .ok (.iconst 0, 1) := by decide +kernel
theorem dX2_condition_5 : decode cX2_condition 5 = .ok (.istore_n 1, 1) := by decide +kernel
theorem dX2_condition_6 : decode cX2_condition 6 = .ok (.iload_n 1, 1) := by decide +kernel
theorem dX2_condition_7 : decode cX2_condition 7 = .ok (.sipush 200, 3) := by decide +kernel
theorem dX2_condition_10 : decode cX2_condition 10 = .ok (.if_icmp .ge 57, 3) := by decide +kernel
theorem dX2_condition_13 : decode cX2_condition 13 = .ok (.aload_n 0, 1) := by decide +kernel
theorem dX2_condition_14 : decode cX2_condition 14 = .ok (.getfield 46, 3) := by decide +kernel
theorem dX2_condition_17 : decode cX2_condition 17 = .ok (.ifCond .ne 50, 3) := by decide +kernel
theorem dX2_condition_20 : decode cX2_condition 20 = .ok (.aload_n 0, 1) := by decide +kernel
theorem dX2_condition_21 : decode cX2_condition 21 = .ok (.invokevirtual 59, 3) := by decide +kernel
theorem dX2_condition_24 : decode cX2_condition 24 = .ok (.bipush 124, 2) := by decide +kernel
theorem dX2_condition_26 : decode cX2_condition 26 = .ok (.if_icmp .ne 41, 3) := by decide +kernel
theorem dX2_condition_29 : decode cX2_condition 29 = .ok (.aload_n 0, 1) := by decide +kernel
theorem dX2_condition_30 : decode cX2_condition 30 = .ok (.dup, 1) := by decide +kernel
theorem dX2_condition_31 : decode cX2_condition 31 = .ok (.getfield 40, 3) := by decide +kernel
theorem dX2_condition_34 : decode cX2_condition 34 = .ok (.iconst 1, 1) := by decide +kernel
theorem dX2_condition_35 : decode cX2_condition 35 = .ok (.iadd, 1) := by decide +kernel
theorem dX2_condition_36 : decode cX2_condition 36 = .ok (.putfield 40, 3) := by decide +kernel
theorem dX2_condition_39 : decode cX2_condition 39 = .ok (.aload_n 0, 1) := by decide +kernel
theorem dX2_condition_40 : decode cX2_condition 40 = .ok (.getfield 15, 3) := by decide +kernel
theorem dX2_condition_43 : decode cX2_condition 43 = .ok (.iconst 4, 1) := by decide +kernel
theorem dX2_condition_44 : decode cX2_condition 44 = .ok (.iconst 0, 1) := by decide +kernel
theorem dX2_condition_45 : decode cX2_condition 45 = .ok (.invokevirtual 88, 3) := by decide +kernel
theorem dX2_condition_48 : decode cX2_condition 48 = .ok (.istore_n 2, 1) := by decide +kernel
theorem dX2_condition_49 : decode cX2_condition 49 = .ok (.aload_n 0, 1) := by decide +kernel
theorem dX2_condition_50 : decode cX2_condition 50 = .ok (.invokevirtual 85, 3) := by decide +kernel
theorem dX2_condition_53 : decode cX2_condition 53 = .ok (.aload_n 0, 1) := by decide +kernel
theorem dX2_condition_54 : decode cX2_condition 54 = .ok (.getfield 15, 3) := by decide +kernel
theorem dX2_condition_57 : decode cX2_condition 57 = .ok (.iload_n 2, 1) := by decide +kernel
theorem dX2_condition_58 : decode cX2_condition 58 = .ok (.invokevirtual 91, 3) := by decide +kernel
theorem dX2_condition_61 : decode cX2_condition 61 = .ok (.iinc 1 1, 3) := by decide +kernel
theorem dX2_condition_64 : decode cX2_condition 64 = .ok (.goto (-58), 3) := by decide +kernel
theorem dX2_condition_67 : decode cX2_condition 67 = .ok (.return_, 1) := by decide +kernel
theorem dX2_allOf_0 : decode cX2_allOf 0 = .ok (.aload_n 0, 1) := by decide +kernel
theorem dX2_allOf_1 : decode cX2_allOf 1 = .ok (.invokevirtual 94, 3) := by decide +kernel
theorem dX2_allOf_4 : decode cX2_allOf 4 = .ok (.iconst 0, 1) := by decide +kernel
theorem dX2_allOf_5 : decode cX2_allOf 5 = .ok (.istore_n 1, 1) := by decide +kernel
theorem dX2_allOf_6 : decode cX2_allOf 6 = .ok (.iload_n 1, 1) := by decide +kernel
theorem dX2_allOf_7 : decode cX2_allOf 7 = .ok (.sipush 200, 3) := by decide +kernel
theorem dX2_allOf_10 : decode cX2_allOf 10 = .ok (.if_icmp .ge 57, 3) := by decide +kernel
theorem dX2_allOf_13 : decode cX2_allOf 13 = .ok (.aload_n 0, 1) := by decide +kernel
theorem dX2_allOf_14 : decode cX2_allOf 14 = .ok (.getfield 46, 3) := by decide +kernel
theorem dX2_allOf_17 : decode cX2_allOf 17 = .ok (.ifCond .ne 50, 3) := by decide +kernel
theorem dX2_allOf_20 : decode cX2_allOf 20 = .ok (.aload_n 0, 1) := by decide +kernel
theorem dX2_allOf_21 : decode cX2_allOf 21 = .ok (.invokevirtual 59, 3) := by decide +kernel
theorem dX2_allOf_24 : decode cX2_allOf 24 = .ok (.bipush 38, 2) := by decide +kernel
theorem dX2_allOf_26 : decode cX2_allOf 26 = .ok (.if_icmp .ne 41, 3) := by decide +kernel
theorem dX2_allOf_29 : decode cX2_allOf 29 = .ok (.aload_n 0, 1) := by decide +kernel
theorem dX2_allOf_30 : decode cX2_allOf 30 = .ok (.dup, 1) := by decide +kernel
theorem dX2_allOf_31 : decode cX2_allOf 31 = .ok (.getfield 40, 3) := by decide +kernel
theorem dX2_allOf_34 : decode cX2_allOf 34 = .ok (.iconst 1, 1) := by decide +kernel
theorem dX2_allOf_35 : decode cX2_allOf 35 = .ok (.iadd, 1) := by decide +kernel
theorem dX2_allOf_36 : decode cX2_allOf 36 = .ok (.putfield 40, 3) := by decide +kernel
theorem dX2_allOf_39 : decode cX2_allOf 39 = .ok (.aload_n 0, 1) := by decide +kernel
theorem dX2_allOf_40 : decode cX2_allOf 40 = .ok (.getfield 15, 3) := by decide +kernel
theorem dX2_allOf_43 : decode cX2_allOf 43 = .ok (.iconst 3, 1) := by decide +kernel
theorem dX2_allOf_44 : decode cX2_allOf 44 = .ok (.iconst 0, 1) := by decide +kernel
theorem dX2_allOf_45 : decode cX2_allOf 45 = .ok (.invokevirtual 88, 3) := by decide +kernel
theorem dX2_allOf_48 : decode cX2_allOf 48 = .ok (.istore_n 2, 1) := by decide +kernel
theorem dX2_allOf_49 : decode cX2_allOf 49 = .ok (.aload_n 0, 1) := by decide +kernel
theorem dX2_allOf_50 : decode cX2_allOf 50 = .ok (.invokevirtual 94, 3) := by decide +kernel
theorem dX2_allOf_53 : decode cX2_allOf 53 = .ok (.aload_n 0, 1) := by decide +kernel
theorem dX2_allOf_54 : decode cX2_allOf 54 = .ok (.getfield 15, 3) := by decide +kernel
theorem dX2_allOf_57 : decode cX2_allOf 57 = .ok (.iload_n 2, 1) := by decide +kernel
theorem dX2_allOf_58 : decode cX2_allOf 58 = .ok (.invokevirtual 91, 3) := by decide +kernel
theorem dX2_allOf_61 : decode cX2_allOf 61 = .ok (.iinc 1 1, 3) := by decide +kernel
theorem dX2_allOf_64 : decode cX2_allOf 64 = .ok (.goto (-58), 3) := by decide +kernel
theorem dX2_allOf_67 : decode cX2_allOf 67 = .ok (.return_, 1) := by decide +kernel
theorem dX2_clause_0 : decode cX2_clause 0 = .ok (.aload_n 0, 1) := by decide +kernel
theorem dX2_clause_1 : decode cX2_clause 1 = .ok (.invokevirtual 59, 3) := by decide +kernel
theorem dX2_clause_4 : decode cX2_clause 4 = .ok (.istore_n 1, 1) := by decide +kernel
theorem dX2_clause_5 : decode cX2_clause 5 = .ok (.iload_n 1, 1) := by decide +kernel
theorem dX2_clause_6 : decode cX2_clause 6 = .ok (.bipush 109, 2) := by decide +kernel
theorem dX2_clause_8 : decode cX2_clause 8 = .ok (.if_icmp .eq 15, 3) := by decide +kernel
theorem dX2_clause_11 : decode cX2_clause 11 = .ok (.iload_n 1, 1) := by decide +kernel
theorem dX2_clause_12 : decode cX2_clause 12 = .ok (.bipush 114, 2) := by decide +kernel
theorem dX2_clause_14 : decode cX2_clause 14 = .ok (.if_icmp .eq 9, 3) := by decide +kernel
theorem dX2_clause_17 : decode cX2_clause 17 = .ok (.aload_n 0, 1) := by decide +kernel
theorem dX2_clause_18 : decode cX2_clause 18 = .ok (.iconst 1, 1) := by decide +kernel
theorem dX2_clause_19 : decode cX2_clause 19 = .ok (.invokevirtual 63, 3) := by decide +kernel
theorem dX2_clause_22 : decode cX2_clause 22 = .ok (.return_, 1) := by decide +kernel
theorem dX2_clause_23 : decode cX2_clause 23 = .ok (.aload_n 0, 1) := by decide +kernel
theorem dX2_clause_24 : decode cX2_clause 24 = .ok (.getfield 15, 3) := by decide +kernel
theorem dX2_clause_27 : decode cX2_clause 27 = .ok (.getfield 52, 3) := by decide +kernel
theorem dX2_clause_30 : decode cX2_clause 30 = .ok (.bipush 14, 2) := by decide +kernel
theorem dX2_clause_32 : decode cX2_clause 32 = .ok (.if_icmp .lt 9, 3) := by decide +kernel
theorem dX2_clause_35 : decode cX2_clause 35 = .ok (.aload_n 0, 1) := by decide +kernel
theorem dX2_clause_36 : decode cX2_clause 36 = .ok (.iconst 4, 1) := by decide +kernel
theorem dX2_clause_37 : decode cX2_clause 37 = .ok (.invokevirtual 63, 3) := by decide +kernel
theorem dX2_clause_40 : decode cX2_clause 40 = .ok (.return_, 1) := by decide +kernel
theorem dX2_clause_41 : decode cX2_clause 41 = .ok (.aload_n 0, 1) := by decide +kernel
theorem dX2_clause_42 : decode cX2_clause 42 = .ok (.dup, 1) := by decide +kernel
theorem dX2_clause_43 : decode cX2_clause 43 = .ok (.getfield 40, 3) := by decide +kernel
theorem dX2_clause_46 : decode cX2_clause 46 = .ok (.iconst 1, 1) := by decide +kernel
theorem dX2_clause_47 : decode cX2_clause 47 = .ok (.iadd, 1) := by decide +kernel
theorem dX2_clause_48 : decode cX2_clause 48 = .ok (.putfield 40, 3) := by decide +kernel
theorem dX2_clause_51 : decode cX2_clause 51 = .ok (.aload_n 0, 1) := by decide +kernel
theorem dX2_clause_52 : decode cX2_clause 52 = .ok (.getfield 15, 3) := by decide +kernel
theorem dX2_clause_55 : decode cX2_clause 55 = .ok (.iload_n 1, 1) := by decide +kernel
theorem dX2_clause_56 : decode cX2_clause 56 = .ok (.invokevirtual 67, 3) := by decide +kernel
theorem dX2_clause_59 : decode cX2_clause 59 = .ok (.aload_n 0, 1) := by decide +kernel
theorem dX2_clause_60 : decode cX2_clause 60 = .ok (.invokevirtual 70, 3) := by decide +kernel
theorem dX2_clause_63 : decode cX2_clause 63 = .ok (.aload_n 0, 1) := by decide +kernel
theorem dX2_clause_64 : decode cX2_clause 64 = .ok (.getfield 15, 3) := by decide +kernel
theorem dX2_clause_67 : decode cX2_clause 67 = .ok (.invokevirtual 73, 3) := by decide +kernel
theorem dX2_clause_70 : decode cX2_clause 70 = .ok (.aload_n 0, 1) := by decide +kernel
theorem dX2_clause_71 : decode cX2_clause 71 = .ok (.invokevirtual 76, 3) := by decide +kernel
theorem dX2_clause_74 : decode cX2_clause 74 = .ok (.return_, 1) := by decide +kernel
theorem dX2_translate_0 : decode cX2_translate 0 = .ok (.aload_n 0, 1) := by decide +kernel
theorem dX2_translate_1 : decode cX2_translate 1 = .ok (.iload_n 2, 1) := by decide +kernel
theorem dX2_translate_2 : decode cX2_translate 2 = .ok (.sipush 200, 3) := by decide +kernel
theorem dX2_translate_5 : decode cX2_translate 5 = .ok (.invokestatic 19, 3) := by decide +kernel
theorem dX2_translate_8 : decode cX2_translate 8 = .ok (.putfield 25, 3) := by decide +kernel
theorem dX2_translate_11 : decode cX2_translate 11 = .ok (.iconst 0, 1) := by decide +kernel
theorem dX2_translate_12 : decode cX2_translate 12 = .ok (.istore 4, 2) := by decide +kernel
theorem dX2_translate_14 : decode cX2_translate 14 = .ok (.iload 4, 2) := by decide +kernel
theorem dX2_translate_16 : decode cX2_translate 16 = .ok (.aload_n 0, 1) := by decide +kernel
theorem dX2_translate_17 : decode cX2_translate 17 = .ok (.getfield 25, 3) := by decide +kernel
theorem dX2_translate_20 : decode cX2_translate 20 = .ok (.if_icmp .ge 22, 3) := by decide +kernel
theorem dX2_translate_23 : decode cX2_translate 23 = .ok (.aload_n 0, 1) := by decide +kernel
theorem dX2_translate_24 : decode cX2_translate 24 = .ok (.getfield 9, 3) := by decide +kernel
theorem dX2_translate_27 : decode cX2_translate 27 = .ok (.iload 4, 2) := by decide +kernel
theorem dX2_translate_29 : decode cX2_translate 29 = .ok (.aload_n 1, 1) := by decide +kernel
theorem dX2_translate_30 : decode cX2_translate 30 = .ok (.iload 4, 2) := by decide +kernel
theorem dX2_translate_32 : decode cX2_translate 32 = .ok (.invokevirtual 29, 3) := by decide +kernel
theorem dX2_translate_35 : decode cX2_translate 35 = .ok (.iastore, 1) := by decide +kernel
theorem dX2_translate_36 : decode cX2_translate 36 = .ok (.iinc 4 1, 3) := by decide +kernel
theorem dX2_translate_39 : decode cX2_translate 39 = .ok (.goto (-25), 3) := by decide +kernel
theorem dX2_translate_42 : decode cX2_translate 42 = .ok (.aload_n 0, 1) := by decide +kernel
theorem dX2_translate_43 : decode cX2_translate 43 = .ok (.aload_n 3, 1) := by decide +kernel
theorem dX2_translate_44 : decode cX2_translate 44 = .ok (.putfield 15, 3) := by decide +kernel
theorem dX2_translate_47 : decode cX2_translate 47 = .ok (.aload_n 0, 1) := by decide +kernel
theorem dX2_translate_48 : decode cX2_translate 48 = .ok (.getfield 15, 3) := by decide +kernel
theorem dX2_translate_51 : decode cX2_translate 51 = .ok (.invokevirtual 35, 3) := by decide +kernel
theorem dX2_translate_54 : decode cX2_translate 54 = .ok (.aload_n 0, 1) := by decide +kernel
theorem dX2_translate_55 : decode cX2_translate 55 = .ok (.iconst 0, 1) := by decide +kernel
theorem dX2_translate_56 : decode cX2_translate 56 = .ok (.putfield 40, 3) := by decide +kernel
theorem dX2_translate_59 : decode cX2_translate 59 = .ok (.aload_n 0, 1) := by decide +kernel
theorem dX2_translate_60 : decode cX2_translate 60 = .ok (.iconst 0, 1) := by decide +kernel
theorem dX2_translate_61 : decode cX2_translate 61 = .ok (.putfield 43, 3) := by decide +kernel
theorem dX2_translate_64 : decode cX2_translate 64 = .ok (.aload_n 0, 1) := by decide +kernel
theorem dX2_translate_65 : decode cX2_translate 65 = .ok (.iconst 0, 1) := by decide +kernel
theorem dX2_translate_66 : decode cX2_translate 66 = .ok (.putfield 46, 3) := by decide +kernel
theorem dX2_translate_69 : decode cX2_translate 69 = .ok (.iconst 0, 1) := by decide +kernel
theorem dX2_translate_70 : decode cX2_translate 70 = .ok (.istore 4, 2) := by decide +kernel
theorem dX2_translate_72 : decode cX2_translate 72 = .ok (.iload 4, 2) := by decide +kernel
theorem dX2_translate_74 : decode cX2_translate 74 = .ok (.bipush 14, 2) := by decide +kernel
theorem dX2_translate_76 : decode cX2_translate 76 = .ok (.if_icmp .gt 52, 3) := by decide +kernel
theorem dX2_translate_79 : decode cX2_translate 79 = .ok (.aload_n 0, 1) := by decide +kernel
theorem dX2_translate_80 : decode cX2_translate 80 = .ok (.getfield 46, 3) := by decide +kernel
theorem dX2_translate_83 : decode cX2_translate 83 = .ok (.ifCond .ne 45, 3) := by decide +kernel
theorem dX2_translate_86 : decode cX2_translate 86 = .ok (.aload_n 0, 1) := by decide +kernel
theorem dX2_translate_87 : decode cX2_translate 87 = .ok (.invokevirtual 49, 3) := by decide +kernel
theorem dX2_translate_90 : decode cX2_translate 90 = .ok (.aload_n 0, 1) := by decide +kernel
theorem dX2_translate_91 : decode cX2_translate 91 = .ok (.getfield 46, 3) := by decide +kernel
theorem dX2_translate_94 : decode cX2_translate 94 = .ok (.ifCond .ne 22, 3) := by decide +kernel
theorem dX2_translate_97 : decode cX2_translate 97 = .ok (.aload_n 0, 1) := by decide +kernel
theorem dX2_translate_98 : decode cX2_translate 98 = .ok (.getfield 40, 3) := by decide +kernel
theorem dX2_translate_101 : decode cX2_translate 101 = .ok (.aload_n 0, 1) := by decide +kernel
theorem dX2_translate_102 : decode cX2_translate 102 = .ok (.getfield 25, 3) := by decide +kernel
theorem dX2_translate_105 : decode cX2_translate 105 = .ok (.if_icmp .lt 11, 3) := by decide +kernel
theorem dX2_translate_108 : decode cX2_translate 108 = .ok (.aload_n 0, 1) := by decide +kernel
theorem dX2_translate_109 : decode cX2_translate 109 = .ok (.getfield 15, 3) := by decide +kernel
theorem dX2_translate_112 : decode cX2_translate 112 = .ok (.getfield 52, 3) := by decide +kernel
theorem dX2_translate_115 : decode cX2_translate 115 = .ok (.ireturn, 1) := by decide +kernel
theorem dX2_translate_116 : decode cX2_translate 116 = .ok (.aload_n 0, 1) := by decide +kernel
theorem dX2_translate_117 : decode cX2_translate 117 = .ok (.bipush 59, 2) := by decide +kernel
theorem dX2_translate_119 : decode cX2_translate 119 = .ok (.invokevirtual 55, 3) := by decide +kernel
theorem dX2_translate_122 : decode cX2_translate 122 = .ok (.iinc 4 1, 3) := by decide +kernel
theorem dX2_translate_125 : decode cX2_translate 125 = .ok (.goto (-53), 3) := by decide +kernel
theorem dX2_translate_128 : decode cX2_translate 128 = .ok (.sipush (-1000), 3) := by decide +kernel
theorem dX2_translate_131 : decode cX2_translate 131 = .ok (.aload_n 0, 1) := by decide +kernel
theorem dX2_translate_132 : decode cX2_translate 132 = .ok (.getfield 46, 3) := by decide +kernel
theorem dX2_translate_135 : decode cX2_translate 135 = .ok (.imul, 1) := by decide +kernel
theorem dX2_translate_136 : decode cX2_translate 136 = .ok (.aload_n 0, 1) := by decide +kernel
theorem dX2_translate_137 : decode cX2_translate 137 = .ok (.getfield 40, 3) := by decide +kernel
theorem dX2_translate_140 : decode cX2_translate 140 = .ok (.isub, 1) := by decide +kernel
theorem dX2_translate_141 : decode cX2_translate 141 = .ok (.ireturn, 1) := by decide +kernel
theorem dX3_forget_0 : decode cX3_forget 0 = .ok (.aload_n 0, 1) := by decide +kernel
theorem dX3_forget_1 : decode cX3_forget 1 = .ok (.iconst (-1), 1) := by decide +kernel
theorem dX3_forget_2 : decode cX3_forget 2 = .ok (.putfield 18, 3) := by decide +kernel
theorem dX3_forget_5 : decode cX3_forget 5 = .ok (.return_, 1) := by decide +kernel
theorem dX4_breathsFor_0 : decode cX4_breathsFor 0 = .ok (.aload_n 0, 1) := by decide +kernel
theorem dX4_breathsFor_1 : decode cX4_breathsFor 1 = .ok (.getfield 31, 3) := by decide +kernel
theorem dX4_breathsFor_4 : decode cX4_breathsFor 4 = .ok (.ifCond .le 12, 3) := by decide +kernel
theorem dX4_breathsFor_7 : decode cX4_breathsFor 7 = .ok (.iload_n 1, 1) := by decide +kernel
theorem dX4_breathsFor_8 : decode cX4_breathsFor 8 = .ok (.aload_n 0, 1) := by decide +kernel
theorem dX4_breathsFor_9 : decode cX4_breathsFor 9 = .ok (.getfield 31, 3) := by decide +kernel
theorem dX4_breathsFor_12 : decode cX4_breathsFor 12 = .ok (.idiv, 1) := by decide +kernel
theorem dX4_breathsFor_13 : decode cX4_breathsFor 13 = .ok (.goto 4, 3) := by decide +kernel
theorem dX4_breathsFor_16 : decode cX4_breathsFor 16 = .ok (.iconst 0, 1) := by decide +kernel
theorem dX4_breathsFor_17 : decode cX4_breathsFor 17 = .ok (.ireturn, 1) := by decide +kernel
theorem dJ9_abs_0f7a4_0 : decode cJ9_abs_0f7a4 0 = .ok (.iload_n 0, 1) := by decide +kernel
theorem dJ9_abs_0f7a4_1 : decode cJ9_abs_0f7a4 1 = .ok (.ifCond .ge 8, 3) := by decide +kernel
theorem dJ9_abs_0f7a4_4 : decode cJ9_abs_0f7a4 4 = .ok (.iload_n 0, 1) := by decide +kernel
theorem dJ9_abs_0f7a4_5 : decode cJ9_abs_0f7a4 5 = .ok (.ineg, 1) := by decide +kernel
theorem dJ9_abs_0f7a4_6 : decode cJ9_abs_0f7a4 6 = .ok (.goto 4, 3) := by decide +kernel
theorem dJ9_abs_0f7a4_9 : decode cJ9_abs_0f7a4 9 = .ok (.iload_n 0, 1) := by decide +kernel
theorem dJ9_abs_0f7a4_10 : decode cJ9_abs_0f7a4 10 = .ok (.ireturn, 1) := by decide +kernel
theorem dX4_wayBetween_0 : decode cX4_wayBetween 0 = .ok (.aload_n 0, 1) := by decide +kernel
theorem dX4_wayBetween_1 : decode cX4_wayBetween 1 = .ok (.iload_n 1, 1) := by decide +kernel
theorem dX4_wayBetween_2 : decode cX4_wayBetween 2 = .ok (.invokevirtual 37, 3) := by decide +kernel
theorem dX4_wayBetween_5 : decode cX4_wayBetween 5 = .ok (.ifCond .eq 11, 3) := by decide +kernel
theorem dX4_wayBetween_8 : decode cX4_wayBetween 8 = .ok (.aload_n 0, 1) := by decide +kernel
theorem dX4_wayBetween_9 : decode cX4_wayBetween 9 = .ok (.iload_n 2, 1) := by decide +kernel
theorem dX4_wayBetween_10 : decode cX4_wayBetween 10 = .ok (.invokevirtual 37, 3) := by decide +kernel
theorem dX4_wayBetween_13 : decode cX4_wayBetween 13 = .ok (.ifCond .ne 5, 3) := by decide +kernel
theorem dX4_wayBetween_16 : decode cX4_wayBetween 16 = .ok (.iconst 0, 1) := by decide +kernel
theorem dX4_wayBetween_17 : decode cX4_wayBetween 17 = .ok (.ireturn, 1) := by decide +kernel
theorem dX4_wayBetween_18 : decode cX4_wayBetween 18 = .ok (.aload_n 0, 1) := by decide +kernel
theorem dX4_wayBetween_19 : decode cX4_wayBetween 19 = .ok (.getfield 9, 3) := by decide +kernel
theorem dX4_wayBetween_22 : decode cX4_wayBetween 22 = .ok (.iload_n 1, 1) := by decide +kernel
theorem dX4_wayBetween_23 : decode cX4_wayBetween 23 = .ok (.iaload, 1) := by decide +kernel
theorem dX4_wayBetween_24 : decode cX4_wayBetween 24 = .ok (.aload_n 0, 1) := by decide +kernel
theorem dX4_wayBetween_25 : decode cX4_wayBetween 25 = .ok (.getfield 9, 3) := by decide +kernel
theorem dX4_wayBetween_28 : decode cX4_wayBetween 28 = .ok (.iload_n 2, 1) := by decide +kernel
theorem dX4_wayBetween_29 : decode cX4_wayBetween 29 = .ok (.iaload, 1) := by decide +kernel
theorem dX4_wayBetween_30 : decode cX4_wayBetween 30 = .ok (.isub, 1) := by decide +kernel
theorem dX4_wayBetween_31 : decode cX4_wayBetween 31 = .ok (.invokestatic 41, 3) := by decide +kernel
theorem dX4_wayBetween_34 : decode cX4_wayBetween 34 = .ok (.aload_n 0, 1) := by decide +kernel
theorem dX4_wayBetween_35 : decode cX4_wayBetween 35 = .ok (.getfield 15, 3) := by decide +kernel
theorem dX4_wayBetween_38 : decode cX4_wayBetween 38 = .ok (.iload_n 1, 1) := by decide +kernel
theorem dX4_wayBetween_39 : decode cX4_wayBetween 39 = .ok (.iaload, 1) := by decide +kernel
theorem dX4_wayBetween_40 : decode cX4_wayBetween 40 = .ok (.aload_n 0, 1) := by decide +kernel
theorem dX4_wayBetween_41 : decode cX4_wayBetween 41 = .ok (.getfield 15, 3) := by decide +kernel
theorem dX4_wayBetween_44 : decode cX4_wayBetween 44 = .ok (.iload_n 2, 1) := by decide +kernel
theorem dX4_wayBetween_45 : decode cX4_wayBetween 45 = .ok (.iaload, 1) := by decide +kernel
theorem dX4_wayBetween_46 : decode cX4_wayBetween 46 = .ok (.isub, 1) := by decide +kernel
theorem dX4_wayBetween_47 : decode cX4_wayBetween 47 = .ok (.invokestatic 41, 3) := by decide +kernel
theorem dX4_wayBetween_50 : decode cX4_wayBetween 50 = .ok (.iadd, 1) := by decide +kernel
theorem dX4_wayBetween_51 : decode cX4_wayBetween 51 = .ok (.ireturn, 1) := by decide +kernel
theorem dX9_breathOf_0 : decode cX9_breathOf 0 = .ok (.iload_n 1, 1) := by decide +kernel
theorem dX9_breathOf_1 : decode cX9_breathOf 1 = .ok (.ifCond .lt 20, 3) := by decide +kernel
theorem dX9_breathOf_4 : decode cX9_breathOf 4 = .ok (.iload_n 1, 1) := by decide +kernel
theorem dX9_breathOf_5 : decode cX9_breathOf 5 = .ok (.aload_n 0, 1) := by decide +kernel
theorem dX9_breathOf_6 : decode cX9_breathOf 6 = .ok (.getfield 31, 3) := by decide +kernel
theorem dX9_breathOf_9 : decode cX9_breathOf 9 = .ok (.if_icmp .ge 12, 3) := by decide +kernel
theorem dX9_breathOf_12 : decode cX9_breathOf 12 = .ok (.aload_n 0, 1) := by decide +kernel
theorem dX9_breathOf_13 : decode cX9_breathOf 13 = .ok (.getfield 15, 3) := by decide +kernel
theorem dX9_breathOf_16 : decode cX9_breathOf 16 = .ok (.iload_n 1, 1) := by decide +kernel
theorem dX9_breathOf_17 : decode cX9_breathOf 17 = .ok (.iaload, 1) := by decide +kernel
theorem dX9_breathOf_18 : decode cX9_breathOf 18 = .ok (.goto 4, 3) := by decide +kernel
theorem dX9_breathOf_21 : decode cX9_breathOf 21 = .ok (.iconst (-1), 1) := by decide +kernel
theorem dX9_breathOf_22 : decode cX9_breathOf 22 = .ok (.ireturn, 1) := by decide +kernel
theorem dX9_whoOf_0 : decode cX9_whoOf 0 = .ok (.iload_n 1, 1) := by decide +kernel
theorem dX9_whoOf_1 : decode cX9_whoOf 1 = .ok (.ifCond .lt 20, 3) := by decide +kernel
theorem dX9_whoOf_4 : decode cX9_whoOf 4 = .ok (.iload_n 1, 1) := by decide +kernel
theorem dX9_whoOf_5 : decode cX9_whoOf 5 = .ok (.aload_n 0, 1) := by decide +kernel
theorem dX9_whoOf_6 : decode cX9_whoOf 6 = .ok (.getfield 31, 3) := by decide +kernel
theorem dX9_whoOf_9 : decode cX9_whoOf 9 = .ok (.if_icmp .ge 12, 3) := by decide +kernel
theorem dX9_whoOf_12 : decode cX9_whoOf 12 = .ok (.aload_n 0, 1) := by decide +kernel
theorem dX9_whoOf_13 : decode cX9_whoOf 13 = .ok (.getfield 9, 3) := by decide +kernel
theorem dX9_whoOf_16 : decode cX9_whoOf 16 = .ok (.iload_n 1, 1) := by decide +kernel
theorem dX9_whoOf_17 : decode cX9_whoOf 17 = .ok (.iaload, 1) := by decide +kernel
theorem dX9_whoOf_18 : decode cX9_whoOf 18 = .ok (.goto 5, 3) := by decide +kernel
theorem dX9_whoOf_21 : decode cX9_whoOf 21 = .ok (.bipush 8, 2) := by decide +kernel
theorem dX9_whoOf_23 : decode cX9_whoOf 23 = .ok (.ireturn, 1) := by decide +kernel
theorem dX3_arrival_0 : decode cX3_arrival 0 = .ok (.aload_n 0, 1) := by decide +kernel
theorem dX3_arrival_1 : decode cX3_arrival 1 = .ok (.getfield 26, 3) := by decide +kernel
theorem dX3_arrival_4 : decode cX3_arrival 4 = .ok (.iload_n 2, 1) := by decide +kernel
theorem dX3_arrival_5 : decode cX3_arrival 5 = .ok (.invokevirtual 54, 3) := by decide +kernel
theorem dX3_arrival_8 : decode cX3_arrival 8 = .ok (.aload_n 0, 1) := by decide +kernel
theorem dX3_arrival_9 : decode cX3_arrival 9 = .ok (.getfield 22, 3) := by decide +kernel
theorem dX3_arrival_12 : decode cX3_arrival 12 = .ok (.aload_n 0, 1) := by decide +kernel
theorem dX3_arrival_13 : decode cX3_arrival 13 = .ok (.getfield 22, 3) := by decide +kernel
theorem dX3_arrival_16 : decode cX3_arrival 16 = .ok (.iload_n 1, 1) := by decide +kernel
theorem dX3_arrival_17 : decode cX3_arrival 17 = .ok (.aload_n 0, 1) := by decide +kernel
theorem dX3_arrival_18 : decode cX3_arrival 18 = .ok (.getfield 26, 3) := by decide +kernel
theorem dX3_arrival_21 : decode cX3_arrival 21 = .ok (.iload_n 2, 1) := by decide +kernel
theorem dX3_arrival_22 : decode cX3_arrival 22 = .ok (.invokevirtual 36, 3) := by decide +kernel
theorem dX3_arrival_25 : decode cX3_arrival 25 = .ok (.invokevirtual 57, 3) := by decide +kernel
theorem dX3_arrival_28 : decode cX3_arrival 28 = .ok (.invokevirtual 60, 3) := by decide +kernel
theorem dX3_arrival_31 : decode cX3_arrival 31 = .ok (.iadd, 1) := by decide +kernel
theorem dX3_arrival_32 : decode cX3_arrival 32 = .ok (.ireturn, 1) := by decide +kernel
theorem dX3_nearer_0 : decode cX3_nearer 0 = .ok (.aload_n 0, 1) := by decide +kernel
theorem dX3_nearer_1 : decode cX3_nearer 1 = .ok (.getfield 22, 3) := by decide +kernel
theorem dX3_nearer_4 : decode cX3_nearer 4 = .ok (.iload_n 1, 1) := by decide +kernel
theorem dX3_nearer_5 : decode cX3_nearer 5 = .ok (.iload_n 2, 1) := by decide +kernel
theorem dX3_nearer_6 : decode cX3_nearer 6 = .ok (.invokevirtual 57, 3) := by decide +kernel
theorem dX3_nearer_9 : decode cX3_nearer 9 = .ok (.istore 4, 2) := by decide +kernel
theorem dX3_nearer_11 : decode cX3_nearer 11 = .ok (.aload_n 0, 1) := by decide +kernel
theorem dX3_nearer_12 : decode cX3_nearer 12 = .ok (.getfield 22, 3) := by decide +kernel
theorem dX3_nearer_15 : decode cX3_nearer 15 = .ok (.iload_n 1, 1) := by decide +kernel
theorem dX3_nearer_16 : decode cX3_nearer 16 = .ok (.iload_n 3, 1) := by decide +kernel
theorem dX3_nearer_17 : decode cX3_nearer 17 = .ok (.invokevirtual 57, 3) := by decide +kernel
theorem dX3_nearer_20 : decode cX3_nearer 20 = .ok (.istore 5, 2) := by decide +kernel
theorem dX3_nearer_22 : decode cX3_nearer 22 = .ok (.iload 4, 2) := by decide +kernel
theorem dX3_nearer_24 : decode cX3_nearer 24 = .ok (.iload 5, 2) := by decide +kernel
theorem dX3_nearer_26 : decode cX3_nearer 26 = .ok (.if_icmp .lt 15, 3) := by decide +kernel
theorem dX3_nearer_29 : decode cX3_nearer 29 = .ok (.iload 4, 2) := by decide +kernel
theorem dX3_nearer_31 : decode cX3_nearer 31 = .ok (.iload 5, 2) := by decide +kernel
theorem dX3_nearer_33 : decode cX3_nearer 33 = .ok (.if_icmp .ne 12, 3) := by decide +kernel
theorem dX3_nearer_36 : decode cX3_nearer 36 = .ok (.iload_n 2, 1) := by decide +kernel
theorem dX3_nearer_37 : decode cX3_nearer 37 = .ok (.iload_n 3, 1) := by decide +kernel
theorem dX3_nearer_38 : decode cX3_nearer 38 = .ok (.if_icmp .ge 7, 3) := by decide +kernel
theorem dX3_nearer_41 : decode cX3_nearer 41 = .ok (.iconst 1, 1) := by decide +kernel
theorem dX3_nearer_42 : decode cX3_nearer 42 = .ok (.goto 4, 3) := by decide +kernel
theorem dX3_nearer_45 : decode cX3_nearer 45 = .ok (.iconst 0, 1) := by decide +kernel
theorem dX3_nearer_46 : decode cX3_nearer 46 = .ok (.ireturn, 1) := by decide +kernel
theorem dX3_place_0 : decode cX3_place 0 = .ok (.aload_n 0, 1) := by decide +kernel
theorem dX3_place_1 : decode cX3_place 1 = .ok (.getfield 30, 3) := by decide +kernel
theorem dX3_place_4 : decode cX3_place 4 = .ok (.istore_n 3, 1) := by decide +kernel
theorem dX3_place_5 : decode cX3_place 5 = .ok (.iload_n 3, 1) := by decide +kernel
theorem dX3_place_6 : decode cX3_place 6 = .ok (.ifCond .le 21, 3) := by decide +kernel
theorem dX3_place_9 : decode cX3_place 9 = .ok (.aload_n 0, 1) := by decide +kernel
theorem dX3_place_10 : decode cX3_place 10 = .ok (.getfield 15, 3) := by decide +kernel
theorem dX3_place_13 : decode cX3_place 13 = .ok (.iload_n 3, 1) := by decide +kernel
theorem dX3_place_14 : decode cX3_place 14 = .ok (.iconst 1, 1) := by decide +kernel
theorem dX3_place_15 : decode cX3_place 15 = .ok (.isub, 1) := by decide +kernel
theorem dX3_place_16 : decode cX3_place 16 = .ok (.iaload, 1) := by decide +kernel
theorem dX3_place_17 : decode cX3_place 17 = .ok (.iload_n 1, 1) := by decide +kernel
theorem dX3_place_18 : decode cX3_place 18 = .ok (.if_icmp .le 9, 3) := by decide +kernel
theorem dX3_place_21 : decode cX3_place 21 = .ok (.iinc 3 (-1), 3) := by decide +kernel
theorem dX3_place_24 : decode cX3_place 24 = .ok (.goto (-19), 3) := by decide +kernel
theorem dX3_place_27 : decode cX3_place 27 = .ok (.iload_n 3, 1) := by decide +kernel
theorem dX3_place_28 : decode cX3_place 28 = .ok (.ifCond .le 45, 3) := by decide +kernel
theorem dX3_place_31 : decode cX3_place 31 = .ok (.aload_n 0, 1) := by decide +kernel
theorem dX3_place_32 : decode cX3_place 32 = .ok (.getfield 15, 3) := by decide +kernel
theorem dX3_place_35 : decode cX3_place 35 = .ok (.iload_n 3, 1) := by decide +kernel
theorem dX3_place_36 : decode cX3_place 36 = .ok (.iconst 1, 1) := by decide +kernel
theorem dX3_place_37 : decode cX3_place 37 = .ok (.isub, 1) := by decide +kernel
theorem dX3_place_38 : decode cX3_place 38 = .ok (.iaload, 1) := by decide +kernel
theorem dX3_place_39 : decode cX3_place 39 = .ok (.iload_n 1, 1) := by decide +kernel
theorem dX3_place_40 : decode cX3_place 40 = .ok (.if_icmp .ne 33, 3) := by decide +kernel
theorem dX3_place_43 : decode cX3_place 43 = .ok (.aload_n 0, 1) := by decide +kernel
theorem dX3_place_44 : decode cX3_place 44 = .ok (.aload_n 0, 1) := by decide +kernel
theorem dX3_place_45 : decode cX3_place 45 = .ok (.getfield 18, 3) := by decide +kernel
theorem dX3_place_48 : decode cX3_place 48 = .ok (.iload_n 2, 1) := by decide +kernel
theorem dX3_place_49 : decode cX3_place 49 = .ok (.aload_n 0, 1) := by decide +kernel
theorem dX3_place_50 : decode cX3_place 50 = .ok (.getfield 9, 3) := by decide +kernel
theorem dX3_place_53 : decode cX3_place 53 = .ok (.iload_n 3, 1) := by decide +kernel
theorem dX3_place_54 : decode cX3_place 54 = .ok (.iconst 1, 1) := by decide +kernel
theorem dX3_place_55 : decode cX3_place 55 = .ok (.isub, 1) := by decide +kernel
theorem dX3_place_56 : decode cX3_place 56 = .ok (.iaload, 1) := by decide +kernel
theorem dX3_place_57 : decode cX3_place 57 = .ok (.invokevirtual 63, 3) := by decide +kernel
theorem dX3_place_60 : decode cX3_place 60 = .ok (.ifCond .eq 12, 3) := by decide +kernel
theorem dX3_place_63 : decode cX3_place 63 = .ok (.aload_n 0, 1) := by decide +kernel
theorem dX3_place_64 : decode cX3_place 64 = .ok (.getfield 9, 3) := by decide +kernel
theorem dX3_place_67 : decode cX3_place 67 = .ok (.iload_n 3, 1) := by decide +kernel
theorem dX3_place_68 : decode cX3_place 68 = .ok (.iconst 1, 1) := by decide +kernel
theorem dX3_place_69 : decode cX3_place 69 = .ok (.isub, 1) := by decide +kernel
theorem dX3_place_70 : decode cX3_place 70 = .ok (.iload_n 2, 1) := by decide +kernel
theorem dX3_place_71 : decode cX3_place 71 = .ok (.iastore, 1) := by decide +kernel
theorem dX3_place_72 : decode cX3_place 72 = .ok (.return_, 1) := by decide +kernel
theorem dX3_place_73 : decode cX3_place 73 = .ok (.aload_n 0, 1) := by decide +kernel
theorem dX3_place_74 : decode cX3_place 74 = .ok (.getfield 30, 3) := by decide +kernel
theorem dX3_place_77 : decode cX3_place 77 = .ok (.sipush 150, 3) := by decide +kernel
theorem dX3_place_80 : decode cX3_place 80 = .ok (.if_icmp .lt 4, 3) := by decide +kernel
theorem dX3_place_83 : decode cX3_place 83 = .ok (.return_, 1) := by decide +kernel
theorem dX3_place_84 : decode cX3_place 84 = .ok (.aload_n 0, 1) := by decide +kernel
theorem dX3_place_85 : decode cX3_place 85 = .ok (.getfield 30, 3) := by decide +kernel
theorem dX3_place_88 : decode cX3_place 88 = .ok (.istore 4, 2) := by decide +kernel
theorem dX3_place_90 : decode cX3_place 90 = .ok (.iload 4, 2) := by decide +kernel
theorem dX3_place_92 : decode cX3_place 92 = .ok (.iload_n 3, 1) := by decide +kernel
theorem dX3_place_93 : decode cX3_place 93 = .ok (.if_icmp .le 41, 3) := by decide +kernel
theorem dX3_place_96 : decode cX3_place 96 = .ok (.aload_n 0, 1) := by decide +kernel
theorem dX3_place_97 : decode cX3_place 97 = .ok (.getfield 15, 3) := by decide +kernel
theorem dX3_place_100 : decode cX3_place 100 = .ok (.iload 4, 2) := by decide +kernel
theorem dX3_place_102 : decode cX3_place 102 = .ok (.aload_n 0, 1) := by decide +kernel
theorem dX3_place_103 : decode cX3_place 103 = .ok (.getfield 15, 3) := by decide +kernel
theorem dX3_place_106 : decode cX3_place 106 = .ok (.iload 4, 2) := by decide +kernel
theorem dX3_place_108 : decode cX3_place 108 = .ok (.iconst 1, 1) := by decide +kernel
theorem dX3_place_109 : decode cX3_place 109 = .ok (.isub, 1) := by decide +kernel
theorem dX3_place_110 : decode cX3_place 110 = .ok (.iaload, 1) := by decide +kernel
theorem dX3_place_111 : decode cX3_place 111 = .ok (.iastore, 1) := by decide +kernel
theorem dX3_place_112 : decode cX3_place 112 = .ok (.aload_n 0, 1) := by decide +kernel
theorem dX3_place_113 : decode cX3_place 113 = .ok (.getfield 9, 3) := by decide +kernel
theorem dX3_place_116 : decode cX3_place 116 = .ok (.iload 4, 2) := by decide +kernel
theorem dX3_place_118 : decode cX3_place 118 = .ok (.aload_n 0, 1) := by decide +kernel
theorem dX3_place_119 : decode cX3_place 119 = .ok (.getfield 9, 3) := by decide +kernel
theorem dX3_place_122 : decode cX3_place 122 = .ok (.iload 4, 2) := by decide +kernel
theorem dX3_place_124 : decode cX3_place 124 = .ok (.iconst 1, 1) := by decide +kernel
theorem dX3_place_125 : decode cX3_place 125 = .ok (.isub, 1) := by decide +kernel
theorem dX3_place_126 : decode cX3_place 126 = .ok (.iaload, 1) := by decide +kernel
theorem dX3_place_127 : decode cX3_place 127 = .ok (.iastore, 1) := by decide +kernel
theorem dX3_place_128 : decode cX3_place 128 = .ok (.iinc 4 (-1), 3) := by decide +kernel
theorem dX3_place_131 : decode cX3_place 131 = .ok (.goto (-41), 3) := by decide +kernel
theorem dX3_place_134 : decode cX3_place 134 = .ok (.aload_n 0, 1) := by decide +kernel
theorem dX3_place_135 : decode cX3_place 135 = .ok (.getfield 15, 3) := by decide +kernel
theorem dX3_place_138 : decode cX3_place 138 = .ok (.iload_n 3, 1) := by decide +kernel
theorem dX3_place_139 : decode cX3_place 139 = .ok (.iload_n 1, 1) := by decide +kernel
theorem dX3_place_140 : decode cX3_place 140 = .ok (.iastore, 1) := by decide +kernel
theorem dX3_place_141 : decode cX3_place 141 = .ok (.aload_n 0, 1) := by decide +kernel
theorem dX3_place_142 : decode cX3_place 142 = .ok (.getfield 9, 3) := by decide +kernel
theorem dX3_place_145 : decode cX3_place 145 = .ok (.iload_n 3, 1) := by decide +kernel
theorem dX3_place_146 : decode cX3_place 146 = .ok (.iload_n 2, 1) := by decide +kernel
theorem dX3_place_147 : decode cX3_place 147 = .ok (.iastore, 1) := by decide +kernel
theorem dX3_place_148 : decode cX3_place 148 = .ok (.aload_n 0, 1) := by decide +kernel
theorem dX3_place_149 : decode cX3_place 149 = .ok (.dup, 1) := by decide +kernel
theorem dX3_place_150 : decode cX3_place 150 = .ok (.getfield 30, 3) := by decide +kernel
theorem dX3_place_153 : decode cX3_place 153 = .ok (.iconst 1, 1) := by decide +kernel
theorem dX3_place_154 : decode cX3_place 154 = .ok (.iadd, 1) := by decide +kernel
theorem dX3_place_155 : decode cX3_place 155 = .ok (.putfield 30, 3) := by decide +kernel
theorem dX3_place_158 : decode cX3_place 158 = .ok (.return_, 1) := by decide +kernel
theorem dX4_reaches_0 : decode cX4_reaches 0 = .ok (.aload_n 0, 1) := by decide +kernel
theorem dX4_reaches_1 : decode cX4_reaches 1 = .ok (.iload_n 1, 1) := by decide +kernel
theorem dX4_reaches_2 : decode cX4_reaches 2 = .ok (.iload_n 2, 1) := by decide +kernel
theorem dX4_reaches_3 : decode cX4_reaches 3 = .ok (.invokevirtual 47, 3) := by decide +kernel
theorem dX4_reaches_6 : decode cX4_reaches 6 = .ok (.aload_n 0, 1) := by decide +kernel
theorem dX4_reaches_7 : decode cX4_reaches 7 = .ok (.getfield 27, 3) := by decide +kernel
theorem dX4_reaches_10 : decode cX4_reaches 10 = .ok (.if_icmp .gt 7, 3) := by decide +kernel
theorem dX4_reaches_13 : decode cX4_reaches 13 = .ok (.iconst 1, 1) := by decide +kernel
theorem dX4_reaches_14 : decode cX4_reaches 14 = .ok (.goto 4, 3) := by decide +kernel
theorem dX4_reaches_17 : decode cX4_reaches 17 = .ok (.iconst 0, 1) := by decide +kernel
theorem dX4_reaches_18 : decode cX4_reaches 18 = .ok (.ireturn, 1) := by decide +kernel
theorem dX3_listen_0 : decode cX3_listen 0 = .ok (.aload_n 0, 1) := by decide +kernel
theorem dX3_listen_1 : decode cX3_listen 1 = .ok (.getfield 18, 3) := by decide +kernel
theorem dX3_listen_4 : decode cX3_listen 4 = .ok (.iload_n 1, 1) := by decide +kernel
theorem dX3_listen_5 : decode cX3_listen 5 = .ok (.if_icmp .ne 4, 3) := by decide +kernel
theorem dX3_listen_8 : decode cX3_listen 8 = .ok (.return_, 1) := by decide +kernel
theorem dX3_listen_9 : decode cX3_listen 9 = .ok (.aload_n 0, 1) := by decide +kernel
theorem dX3_listen_10 : decode cX3_listen 10 = .ok (.iload_n 1, 1) := by decide +kernel
theorem dX3_listen_11 : decode cX3_listen 11 = .ok (.putfield 18, 3) := by decide +kernel
theorem dX3_listen_14 : decode cX3_listen 14 = .ok (.aload_n 0, 1) := by decide +kernel
theorem dX3_listen_15 : decode cX3_listen 15 = .ok (.iconst 0, 1) := by decide +kernel
theorem dX3_listen_16 : decode cX3_listen 16 = .ok (.putfield 30, 3) := by decide +kernel
theorem dX3_listen_19 : decode cX3_listen 19 = .ok (.iconst 0, 1) := by decide +kernel
theorem dX3_listen_20 : decode cX3_listen 20 = .ok (.istore_n 2, 1) := by decide +kernel
theorem dX3_listen_21 : decode cX3_listen 21 = .ok (.iload_n 2, 1) := by decide +kernel
theorem dX3_listen_22 : decode cX3_listen 22 = .ok (.aload_n 0, 1) := by decide +kernel
theorem dX3_listen_23 : decode cX3_listen 23 = .ok (.getfield 26, 3) := by decide +kernel
theorem dX3_listen_26 : decode cX3_listen 26 = .ok (.getfield 33, 3) := by decide +kernel
theorem dX3_listen_29 : decode cX3_listen 29 = .ok (.if_icmp .ge 41, 3) := by decide +kernel
theorem dX3_listen_32 : decode cX3_listen 32 = .ok (.aload_n 0, 1) := by decide +kernel
theorem dX3_listen_33 : decode cX3_listen 33 = .ok (.getfield 26, 3) := by decide +kernel
theorem dX3_listen_36 : decode cX3_listen 36 = .ok (.iload_n 2, 1) := by decide +kernel
theorem dX3_listen_37 : decode cX3_listen 37 = .ok (.invokevirtual 36, 3) := by decide +kernel
theorem dX3_listen_40 : decode cX3_listen 40 = .ok (.istore_n 3, 1) := by decide +kernel
theorem dX3_listen_41 : decode cX3_listen 41 = .ok (.aload_n 0, 1) := by decide +kernel
theorem dX3_listen_42 : decode cX3_listen 42 = .ok (.getfield 22, 3) := by decide +kernel
theorem dX3_listen_45 : decode cX3_listen 45 = .ok (.iload_n 1, 1) := by decide +kernel
theorem dX3_listen_46 : decode cX3_listen 46 = .ok (.iload_n 3, 1) := by decide +kernel
theorem dX3_listen_47 : decode cX3_listen 47 = .ok (.invokevirtual 40, 3) := by decide +kernel
theorem dX3_listen_50 : decode cX3_listen 50 = .ok (.ifCond .eq 14, 3) := by decide +kernel
theorem dX3_listen_53 : decode cX3_listen 53 = .ok (.aload_n 0, 1) := by decide +kernel
theorem dX3_listen_54 : decode cX3_listen 54 = .ok (.aload_n 0, 1) := by decide +kernel
theorem dX3_listen_55 : decode cX3_listen 55 = .ok (.iload_n 1, 1) := by decide +kernel
theorem dX3_listen_56 : decode cX3_listen 56 = .ok (.iload_n 2, 1) := by decide +kernel
theorem dX3_listen_57 : decode cX3_listen 57 = .ok (.invokevirtual 46, 3) := by decide +kernel
theorem dX3_listen_60 : decode cX3_listen 60 = .ok (.iload_n 3, 1) := by decide +kernel
theorem dX3_listen_61 : decode cX3_listen 61 = .ok (.invokevirtual 50, 3) := by decide +kernel
theorem dX3_listen_64 : decode cX3_listen 64 = .ok (.iinc 2 1, 3) := by decide +kernel
theorem dX3_listen_67 : decode cX3_listen 67 = .ok (.goto (-46), 3) := by decide +kernel
theorem dX3_listen_70 : decode cX3_listen 70 = .ok (.return_, 1) := by decide +kernel
theorem dX3_breathOf_0 : decode cX3_breathOf 0 = .ok (.iload_n 1, 1) := by decide +kernel
theorem dX3_breathOf_1 : decode cX3_breathOf 1 = .ok (.ifCond .lt 20, 3) := by decide +kernel
theorem dX3_breathOf_4 : decode cX3_breathOf 4 = .ok (.iload_n 1, 1) := by decide +kernel
theorem dX3_breathOf_5 : decode cX3_breathOf 5 = .ok (.aload_n 0, 1) := by decide +kernel
theorem dX3_breathOf_6 : decode cX3_breathOf 6 = .ok (.getfield 30, 3) := by decide +kernel
theorem dX3_breathOf_9 : decode cX3_breathOf 9 = .ok (.if_icmp .ge 12, 3) := by decide +kernel
theorem dX3_breathOf_12 : decode cX3_breathOf 12 = .ok (.aload_n 0, 1) := by decide +kernel
theorem dX3_breathOf_13 : decode cX3_breathOf 13 = .ok (.getfield 15, 3) := by decide +kernel
theorem dX3_breathOf_16 : decode cX3_breathOf 16 = .ok (.iload_n 1, 1) := by decide +kernel
theorem dX3_breathOf_17 : decode cX3_breathOf 17 = .ok (.iaload, 1) := by decide +kernel
theorem dX3_breathOf_18 : decode cX3_breathOf 18 = .ok (.goto 4, 3) := by decide +kernel
theorem dX3_breathOf_21 : decode cX3_breathOf 21 = .ok (.iconst (-1), 1) := by decide +kernel
theorem dX3_breathOf_22 : decode cX3_breathOf 22 = .ok (.ireturn, 1) := by decide +kernel
theorem dX3_whoOf_0 : decode cX3_whoOf 0 = .ok (.iload_n 1, 1) := by decide +kernel
theorem dX3_whoOf_1 : decode cX3_whoOf 1 = .ok (.ifCond .lt 20, 3) := by decide +kernel
theorem dX3_whoOf_4 : decode cX3_whoOf 4 = .ok (.iload_n 1, 1) := by decide +kernel
theorem dX3_whoOf_5 : decode cX3_whoOf 5 = .ok (.aload_n 0, 1) := by decide +kernel
theorem dX3_whoOf_6 : decode cX3_whoOf 6 = .ok (.getfield 30, 3) := by decide +kernel
theorem dX3_whoOf_9 : decode cX3_whoOf 9 = .ok (.if_icmp .ge 12, 3) := by decide +kernel
theorem dX3_whoOf_12 : decode cX3_whoOf 12 = .ok (.aload_n 0, 1) := by decide +kernel
theorem dX3_whoOf_13 : decode cX3_whoOf 13 = .ok (.getfield 9, 3) := by decide +kernel
theorem dX3_whoOf_16 : decode cX3_whoOf 16 = .ok (.iload_n 1, 1) := by decide +kernel
theorem dX3_whoOf_17 : decode cX3_whoOf 17 = .ok (.iaload, 1) := by decide +kernel
theorem dX3_whoOf_18 : decode cX3_whoOf 18 = .ok (.goto 5, 3) := by decide +kernel
theorem dX3_whoOf_21 : decode cX3_whoOf 21 = .ok (.bipush 8, 2) := by decide +kernel
theorem dX3_whoOf_23 : decode cX3_whoOf 23 = .ok (.ireturn, 1) := by decide +kernel
theorem dX3_gapOf_0 : decode cX3_gapOf 0 = .ok (.iload_n 1, 1) := by decide +kernel
theorem dX3_gapOf_1 : decode cX3_gapOf 1 = .ok (.ifCond .le 11, 3) := by decide +kernel
theorem dX3_gapOf_4 : decode cX3_gapOf 4 = .ok (.iload_n 1, 1) := by decide +kernel
theorem dX3_gapOf_5 : decode cX3_gapOf 5 = .ok (.aload_n 0, 1) := by decide +kernel
theorem dX3_gapOf_6 : decode cX3_gapOf 6 = .ok (.getfield 30, 3) := by decide +kernel
theorem dX3_gapOf_9 : decode cX3_gapOf 9 = .ok (.if_icmp .lt 8, 3) := by decide +kernel
theorem dX3_gapOf_12 : decode cX3_gapOf 12 = .ok (.bipush 63, 2) := by decide +kernel
theorem dX3_gapOf_14 : decode cX3_gapOf 14 = .ok (.goto 23, 3) := by decide +kernel
theorem dX3_gapOf_17 : decode cX3_gapOf 17 = .ok (.bipush 63, 2) := by decide +kernel
theorem dX3_gapOf_19 : decode cX3_gapOf 19 = .ok (.aload_n 0, 1) := by decide +kernel
theorem dX3_gapOf_20 : decode cX3_gapOf 20 = .ok (.getfield 15, 3) := by decide +kernel
theorem dX3_gapOf_23 : decode cX3_gapOf 23 = .ok (.iload_n 1, 1) := by decide +kernel
theorem dX3_gapOf_24 : decode cX3_gapOf 24 = .ok (.iaload, 1) := by decide +kernel
theorem dX3_gapOf_25 : decode cX3_gapOf 25 = .ok (.aload_n 0, 1) := by decide +kernel
theorem dX3_gapOf_26 : decode cX3_gapOf 26 = .ok (.getfield 15, 3) := by decide +kernel
theorem dX3_gapOf_29 : decode cX3_gapOf 29 = .ok (.iload_n 1, 1) := by decide +kernel
theorem dX3_gapOf_30 : decode cX3_gapOf 30 = .ok (.iconst 1, 1) := by decide +kernel
theorem dX3_gapOf_31 : decode cX3_gapOf 31 = .ok (.isub, 1) := by decide +kernel
theorem dX3_gapOf_32 : decode cX3_gapOf 32 = .ok (.iaload, 1) := by decide +kernel
theorem dX3_gapOf_33 : decode cX3_gapOf 33 = .ok (.isub, 1) := by decide +kernel
theorem dX3_gapOf_34 : decode cX3_gapOf 34 = .ok (.invokestatic 67, 3) := by decide +kernel
theorem dX3_gapOf_37 : decode cX3_gapOf 37 = .ok (.ireturn, 1) := by decide +kernel
theorem dX3_drowned_0 : decode cX3_drowned 0 = .ok (.aload_n 0, 1) := by decide +kernel
theorem dX3_drowned_1 : decode cX3_drowned 1 = .ok (.iload_n 1, 1) := by decide +kernel
theorem dX3_drowned_2 : decode cX3_drowned 2 = .ok (.iload_n 2, 1) := by decide +kernel
theorem dX3_drowned_3 : decode cX3_drowned 3 = .ok (.invokevirtual 46, 3) := by decide +kernel
theorem dX3_drowned_6 : decode cX3_drowned 6 = .ok (.istore_n 3, 1) := by decide +kernel
theorem dX3_drowned_7 : decode cX3_drowned 7 = .ok (.iconst 0, 1) := by decide +kernel
theorem dX3_drowned_8 : decode cX3_drowned 8 = .ok (.istore 4, 2) := by decide +kernel
theorem dX3_drowned_10 : decode cX3_drowned 10 = .ok (.iload 4, 2) := by decide +kernel
theorem dX3_drowned_12 : decode cX3_drowned 12 = .ok (.aload_n 0, 1) := by decide +kernel
theorem dX3_drowned_13 : decode cX3_drowned 13 = .ok (.getfield 26, 3) := by decide +kernel
theorem dX3_drowned_16 : decode cX3_drowned 16 = .ok (.getfield 33, 3) := by decide +kernel
theorem dX3_drowned_19 : decode cX3_drowned 19 = .ok (.if_icmp .ge 47, 3) := by decide +kernel
theorem dX3_drowned_22 : decode cX3_drowned 22 = .ok (.aload_n 0, 1) := by decide +kernel
theorem dX3_drowned_23 : decode cX3_drowned 23 = .ok (.iload_n 1, 1) := by decide +kernel
theorem dX3_drowned_24 : decode cX3_drowned 24 = .ok (.iload 4, 2) := by decide +kernel
theorem dX3_drowned_26 : decode cX3_drowned 26 = .ok (.invokevirtual 46, 3) := by decide +kernel
theorem dX3_drowned_29 : decode cX3_drowned 29 = .ok (.iload_n 3, 1) := by decide +kernel
theorem dX3_drowned_30 : decode cX3_drowned 30 = .ok (.if_icmp .ne 30, 3) := by decide +kernel
theorem dX3_drowned_33 : decode cX3_drowned 33 = .ok (.aload_n 0, 1) := by decide +kernel
theorem dX3_drowned_34 : decode cX3_drowned 34 = .ok (.iload_n 1, 1) := by decide +kernel
theorem dX3_drowned_35 : decode cX3_drowned 35 = .ok (.aload_n 0, 1) := by decide +kernel
theorem dX3_drowned_36 : decode cX3_drowned 36 = .ok (.getfield 26, 3) := by decide +kernel
theorem dX3_drowned_39 : decode cX3_drowned 39 = .ok (.iload 4, 2) := by decide +kernel
theorem dX3_drowned_41 : decode cX3_drowned 41 = .ok (.invokevirtual 36, 3) := by decide +kernel
theorem dX3_drowned_44 : decode cX3_drowned 44 = .ok (.aload_n 0, 1) := by decide +kernel
theorem dX3_drowned_45 : decode cX3_drowned 45 = .ok (.getfield 26, 3) := by decide +kernel
theorem dX3_drowned_48 : decode cX3_drowned 48 = .ok (.iload_n 2, 1) := by decide +kernel
theorem dX3_drowned_49 : decode cX3_drowned 49 = .ok (.invokevirtual 36, 3) := by decide +kernel
theorem dX3_drowned_52 : decode cX3_drowned 52 = .ok (.invokevirtual 63, 3) := by decide +kernel
theorem dX3_drowned_55 : decode cX3_drowned 55 = .ok (.ifCond .eq 5, 3) := by decide +kernel
theorem dX3_drowned_58 : decode cX3_drowned 58 = .ok (.iconst 1, 1) := by decide +kernel
theorem dX3_drowned_59 : decode cX3_drowned 59 = .ok (.ireturn, 1) := by decide +kernel
theorem dX3_drowned_60 : decode cX3_drowned 60 = .ok (.iinc 4 1, 3) := by decide +kernel
theorem dX3_drowned_63 : decode cX3_drowned 63 = .ok (.goto (-53), 3) := by decide +kernel
theorem dX3_drowned_66 : decode cX3_drowned 66 = .ok (.iconst 0, 1) := by decide +kernel
theorem dX3_drowned_67 : decode cX3_drowned 67 = .ok (.ireturn, 1) := by decide +kernel
theorem dX3_earsOf_0 : decode cX3_earsOf 0 = .ok (.iconst 0, 1) := by decide +kernel
theorem dX3_earsOf_1 : decode cX3_earsOf 1 = .ok (.istore_n 2, 1) := by decide +kernel
theorem dX3_earsOf_2 : decode cX3_earsOf 2 = .ok (.iconst 0, 1) := by decide +kernel
theorem dX3_earsOf_3 : decode cX3_earsOf 3 = .ok (.istore_n 3, 1) := by decide +kernel
theorem dX3_earsOf_4 : decode cX3_earsOf 4 = .ok (.iload_n 3, 1) := by decide +kernel
theorem dX3_earsOf_5 : decode cX3_earsOf 5 = .ok (.aload_n 0, 1) := by decide +kernel
theorem dX3_earsOf_6 : decode cX3_earsOf 6 = .ok (.getfield 22, 3) := by decide +kernel
theorem dX3_earsOf_9 : decode cX3_earsOf 9 = .ok (.getfield 72, 3) := by decide +kernel
theorem dX3_earsOf_12 : decode cX3_earsOf 12 = .ok (.if_icmp .ge 40, 3) := by decide +kernel
theorem dX3_earsOf_15 : decode cX3_earsOf 15 = .ok (.aload_n 0, 1) := by decide +kernel
theorem dX3_earsOf_16 : decode cX3_earsOf 16 = .ok (.getfield 22, 3) := by decide +kernel
theorem dX3_earsOf_19 : decode cX3_earsOf 19 = .ok (.iload_n 3, 1) := by decide +kernel
theorem dX3_earsOf_20 : decode cX3_earsOf 20 = .ok (.aload_n 0, 1) := by decide +kernel
theorem dX3_earsOf_21 : decode cX3_earsOf 21 = .ok (.getfield 26, 3) := by decide +kernel
theorem dX3_earsOf_24 : decode cX3_earsOf 24 = .ok (.iload_n 1, 1) := by decide +kernel
theorem dX3_earsOf_25 : decode cX3_earsOf 25 = .ok (.invokevirtual 36, 3) := by decide +kernel
theorem dX3_earsOf_28 : decode cX3_earsOf 28 = .ok (.invokevirtual 40, 3) := by decide +kernel
theorem dX3_earsOf_31 : decode cX3_earsOf 31 = .ok (.ifCond .eq 15, 3) := by decide +kernel
theorem dX3_earsOf_34 : decode cX3_earsOf 34 = .ok (.aload_n 0, 1) := by decide +kernel
theorem dX3_earsOf_35 : decode cX3_earsOf 35 = .ok (.iload_n 3, 1) := by decide +kernel
theorem dX3_earsOf_36 : decode cX3_earsOf 36 = .ok (.iload_n 1, 1) := by decide +kernel
theorem dX3_earsOf_37 : decode cX3_earsOf 37 = .ok (.invokevirtual 73, 3) := by decide +kernel
theorem dX3_earsOf_40 : decode cX3_earsOf 40 = .ok (.ifCond .ne 6, 3) := by decide +kernel
theorem dX3_earsOf_43 : decode cX3_earsOf 43 = .ok (.iinc 2 1, 3) := by decide +kernel
theorem dX3_earsOf_46 : decode cX3_earsOf 46 = .ok (.iinc 3 1, 3) := by decide +kernel
theorem dX3_earsOf_49 : decode cX3_earsOf 49 = .ok (.goto (-45), 3) := by decide +kernel
theorem dX3_earsOf_52 : decode cX3_earsOf 52 = .ok (.iload_n 2, 1) := by decide +kernel
theorem dX3_earsOf_53 : decode cX3_earsOf 53 = .ok (.ireturn, 1) := by decide +kernel
theorem dX4_join_0 : decode cX4_join 0 = .ok (.aload_n 0, 1) := by decide +kernel
theorem dX4_join_1 : decode cX4_join 1 = .ok (.getfield 34, 3) := by decide +kernel
theorem dX4_join_4 : decode cX4_join 4 = .ok (.bipush 8, 2) := by decide +kernel
theorem dX4_join_6 : decode cX4_join 6 = .ok (.if_icmp .lt 5, 3) := by decide +kernel
theorem dX4_join_9 : decode cX4_join 9 = .ok (.iconst (-1), 1) := by decide +kernel
theorem dX4_join_10 : decode cX4_join 10 = .ok (.ireturn, 1) := by decide +kernel
theorem dX4_join_11 : decode cX4_join 11 = .ok (.aload_n 0, 1) := by decide +kernel
theorem dX4_join_12 : decode cX4_join 12 = .ok (.getfield 9, 3) := by decide +kernel
theorem dX4_join_15 : decode cX4_join 15 = .ok (.aload_n 0, 1) := by decide +kernel
theorem dX4_join_16 : decode cX4_join 16 = .ok (.getfield 34, 3) := by decide +kernel
theorem dX4_join_19 : decode cX4_join 19 = .ok (.iload_n 1, 1) := by decide +kernel
theorem dX4_join_20 : decode cX4_join 20 = .ok (.iastore, 1) := by decide +kernel
theorem dX4_join_21 : decode cX4_join 21 = .ok (.aload_n 0, 1) := by decide +kernel
theorem dX4_join_22 : decode cX4_join 22 = .ok (.getfield 15, 3) := by decide +kernel
theorem dX4_join_25 : decode cX4_join 25 = .ok (.aload_n 0, 1) := by decide +kernel
theorem dX4_join_26 : decode cX4_join 26 = .ok (.getfield 34, 3) := by decide +kernel
theorem dX4_join_29 : decode cX4_join 29 = .ok (.iload_n 2, 1) := by decide +kernel
theorem dX4_join_30 : decode cX4_join 30 = .ok (.iastore, 1) := by decide +kernel
theorem dX4_join_31 : decode cX4_join 31 = .ok (.aload_n 0, 1) := by decide +kernel
theorem dX4_join_32 : decode cX4_join 32 = .ok (.getfield 18, 3) := by decide +kernel
theorem dX4_join_35 : decode cX4_join 35 = .ok (.aload_n 0, 1) := by decide +kernel
theorem dX4_join_36 : decode cX4_join 36 = .ok (.getfield 34, 3) := by decide +kernel
theorem dX4_join_39 : decode cX4_join 39 = .ok (.iload_n 3, 1) := by decide +kernel
theorem dX4_join_40 : decode cX4_join 40 = .ok (.iastore, 1) := by decide +kernel
theorem dX4_join_41 : decode cX4_join 41 = .ok (.aload_n 0, 1) := by decide +kernel
theorem dX4_join_42 : decode cX4_join 42 = .ok (.dup, 1) := by decide +kernel
theorem dX4_join_43 : decode cX4_join 43 = .ok (.getfield 34, 3) := by decide +kernel
theorem dX4_join_46 : decode cX4_join 46 = .ok (.iconst 1, 1) := by decide +kernel
theorem dX4_join_47 : decode cX4_join 47 = .ok (.iadd, 1) := by decide +kernel
theorem dX4_join_48 : decode cX4_join 48 = .ok (.putfield 34, 3) := by decide +kernel
theorem dX4_join_51 : decode cX4_join 51 = .ok (.aload_n 0, 1) := by decide +kernel
theorem dX4_join_52 : decode cX4_join 52 = .ok (.getfield 34, 3) := by decide +kernel
theorem dX4_join_55 : decode cX4_join 55 = .ok (.iconst 1, 1) := by decide +kernel
theorem dX4_join_56 : decode cX4_join 56 = .ok (.isub, 1) := by decide +kernel
theorem dX4_join_57 : decode cX4_join 57 = .ok (.ireturn, 1) := by decide +kernel
theorem dX4_hasAll_0 : decode cX4_hasAll 0 = .ok (.iload_n 1, 1) := by decide +kernel
theorem dX4_hasAll_1 : decode cX4_hasAll 1 = .ok (.ifCond .le 17, 3) := by decide +kernel
theorem dX4_hasAll_4 : decode cX4_hasAll 4 = .ok (.iload_n 1, 1) := by decide +kernel
theorem dX4_hasAll_5 : decode cX4_hasAll 5 = .ok (.iconst 1, 1) := by decide +kernel
theorem dX4_hasAll_6 : decode cX4_hasAll 6 = .ok (.aload_n 0, 1) := by decide +kernel
theorem dX4_hasAll_7 : decode cX4_hasAll 7 = .ok (.getfield 34, 3) := by decide +kernel
theorem dX4_hasAll_10 : decode cX4_hasAll 10 = .ok (.ishl, 1) := by decide +kernel
theorem dX4_hasAll_11 : decode cX4_hasAll 11 = .ok (.if_icmp .ge 7, 3) := by decide +kernel
theorem dX4_hasAll_14 : decode cX4_hasAll 14 = .ok (.iconst 1, 1) := by decide +kernel
theorem dX4_hasAll_15 : decode cX4_hasAll 15 = .ok (.goto 4, 3) := by decide +kernel
theorem dX4_hasAll_18 : decode cX4_hasAll 18 = .ok (.iconst 0, 1) := by decide +kernel
theorem dX4_hasAll_19 : decode cX4_hasAll 19 = .ok (.ireturn, 1) := by decide +kernel
theorem dX4_thousandthsOf_0 : decode cX4_thousandthsOf 0 = .ok (.aload_n 0, 1) := by decide +kernel
theorem dX4_thousandthsOf_1 : decode cX4_thousandthsOf 1 = .ok (.iload_n 1, 1) := by decide +kernel
theorem dX4_thousandthsOf_2 : decode cX4_thousandthsOf 2 = .ok (.invokevirtual 37, 3) := by decide +kernel
theorem dX4_thousandthsOf_5 : decode cX4_thousandthsOf 5 = .ok (.ifCond .eq 12, 3) := by decide +kernel
theorem dX4_thousandthsOf_8 : decode cX4_thousandthsOf 8 = .ok (.aload_n 0, 1) := by decide +kernel
theorem dX4_thousandthsOf_9 : decode cX4_thousandthsOf 9 = .ok (.getfield 18, 3) := by decide +kernel
theorem dX4_thousandthsOf_12 : decode cX4_thousandthsOf 12 = .ok (.iload_n 1, 1) := by decide +kernel
theorem dX4_thousandthsOf_13 : decode cX4_thousandthsOf 13 = .ok (.iaload, 1) := by decide +kernel
theorem dX4_thousandthsOf_14 : decode cX4_thousandthsOf 14 = .ok (.goto 4, 3) := by decide +kernel
theorem dX4_thousandthsOf_17 : decode cX4_thousandthsOf 17 = .ok (.iconst 0, 1) := by decide +kernel
theorem dX4_thousandthsOf_18 : decode cX4_thousandthsOf 18 = .ok (.ireturn, 1) := by decide +kernel
theorem dX11_within_0 : decode cX11_within 0 = .ok (.iload_n 0, 1) := by decide +kernel
theorem dX11_within_1 : decode cX11_within 1 = .ok (.iload_n 1, 1) := by decide +kernel
theorem dX11_within_2 : decode cX11_within 2 = .ok (.if_icmp .lt 12, 3) := by decide +kernel
theorem dX11_within_5 : decode cX11_within 5 = .ok (.iload_n 0, 1) := by decide +kernel
theorem dX11_within_6 : decode cX11_within 6 = .ok (.iload_n 2, 1) := by decide +kernel
theorem dX11_within_7 : decode cX11_within 7 = .ok (.if_icmp .gt 7, 3) := by decide +kernel
theorem dX11_within_10 : decode cX11_within 10 = .ok (.iconst 1, 1) := by decide +kernel
theorem dX11_within_11 : decode cX11_within 11 = .ok (.goto 4, 3) := by decide +kernel
theorem dX11_within_14 : decode cX11_within 14 = .ok (.iconst 0, 1) := by decide +kernel
theorem dX11_within_15 : decode cX11_within 15 = .ok (.ireturn, 1) := by decide +kernel
theorem dX4_takeSentence_0 : decode cX4_takeSentence 0 = .ok (.iconst 0, 1) := by decide +kernel
theorem dX4_takeSentence_1 : decode cX4_takeSentence 1 = .ok (.istore 4, 2) := by decide +kernel
theorem dX4_takeSentence_3 : decode cX4_takeSentence 3 = .ok (.iload 4, 2) := by decide +kernel
theorem dX4_takeSentence_5 : decode cX4_takeSentence 5 = .ok (.iload_n 3, 1) := by decide +kernel
theorem dX4_takeSentence_6 : decode cX4_takeSentence 6 = .ok (.if_icmp .ge 26, 3) := by decide +kernel
theorem dX4_takeSentence_9 : decode cX4_takeSentence 9 = .ok (.aload_n 2, 1) := by decide +kernel
theorem dX4_takeSentence_10 : decode cX4_takeSentence 10 = .ok (.iload 4, 2) := by decide +kernel
theorem dX4_takeSentence_12 : decode cX4_takeSentence 12 = .ok (.invokevirtual 51, 3) := by decide +kernel
theorem dX4_takeSentence_15 : decode cX4_takeSentence 15 = .ok (.iconst 1, 1) := by decide +kernel
theorem dX4_takeSentence_16 : decode cX4_takeSentence 16 = .ok (.bipush 31, 2) := by decide +kernel
theorem dX4_takeSentence_18 : decode cX4_takeSentence 18 = .ok (.invokestatic 56, 3) := by decide +kernel
theorem dX4_takeSentence_21 : decode cX4_takeSentence 21 = .ok (.ifCond .ne 5, 3) := by decide +kernel
theorem dX4_takeSentence_24 : decode cX4_takeSentence 24 = .ok (.iconst 0, 1) := by decide +kernel
theorem dX4_takeSentence_25 : decode cX4_takeSentence 25 = .ok (.ireturn, 1) := by decide +kernel
theorem dX4_takeSentence_26 : decode cX4_takeSentence 26 = .ok (.iinc 4 1, 3) := by decide +kernel
theorem dX4_takeSentence_29 : decode cX4_takeSentence 29 = .ok (.goto (-26), 3) := by decide +kernel
theorem dX4_takeSentence_32 : decode cX4_takeSentence 32 = .ok (.aload_n 0, 1) := by decide +kernel
theorem dX4_takeSentence_33 : decode cX4_takeSentence 33 = .ok (.iload_n 1, 1) := by decide +kernel
theorem dX4_takeSentence_34 : decode cX4_takeSentence 34 = .ok (.invokevirtual 37, 3) := by decide +kernel
theorem dX4_takeSentence_37 : decode cX4_takeSentence 37 = .ok (.ifCond .eq 8, 3) := by decide +kernel
theorem dX4_takeSentence_40 : decode cX4_takeSentence 40 = .ok (.iload_n 3, 1) := by decide +kernel
theorem dX4_takeSentence_41 : decode cX4_takeSentence 41 = .ok (.iconst 4, 1) := by decide +kernel
theorem dX4_takeSentence_42 : decode cX4_takeSentence 42 = .ok (.if_icmp .le 5, 3) := by decide +kernel
theorem dX4_takeSentence_45 : decode cX4_takeSentence 45 = .ok (.iconst 0, 1) := by decide +kernel
theorem dX4_takeSentence_46 : decode cX4_takeSentence 46 = .ok (.ireturn, 1) := by decide +kernel
theorem dX4_takeSentence_47 : decode cX4_takeSentence 47 = .ok (.iconst 0, 1) := by decide +kernel
theorem dX4_takeSentence_48 : decode cX4_takeSentence 48 = .ok (.istore 4, 2) := by decide +kernel
theorem dX4_takeSentence_50 : decode cX4_takeSentence 50 = .ok (.iload 4, 2) := by decide +kernel
theorem dX4_takeSentence_52 : decode cX4_takeSentence 52 = .ok (.iload_n 3, 1) := by decide +kernel
theorem dX4_takeSentence_53 : decode cX4_takeSentence 53 = .ok (.if_icmp .ge 26, 3) := by decide +kernel
theorem dX4_takeSentence_56 : decode cX4_takeSentence 56 = .ok (.aload_n 0, 1) := by decide +kernel
theorem dX4_takeSentence_57 : decode cX4_takeSentence 57 = .ok (.getfield 24, 3) := by decide +kernel
theorem dX4_takeSentence_60 : decode cX4_takeSentence 60 = .ok (.iload_n 1, 1) := by decide +kernel
theorem dX4_takeSentence_61 : decode cX4_takeSentence 61 = .ok (.iconst 4, 1) := by decide +kernel
theorem dX4_takeSentence_62 : decode cX4_takeSentence 62 = .ok (.imul, 1) := by decide +kernel
theorem dX4_takeSentence_63 : decode cX4_takeSentence 63 = .ok (.iload 4, 2) := by decide +kernel
theorem dX4_takeSentence_65 : decode cX4_takeSentence 65 = .ok (.iadd, 1) := by decide +kernel
theorem dX4_takeSentence_66 : decode cX4_takeSentence 66 = .ok (.aload_n 2, 1) := by decide +kernel
theorem dX4_takeSentence_67 : decode cX4_takeSentence 67 = .ok (.iload 4, 2) := by decide +kernel
theorem dX4_takeSentence_69 : decode cX4_takeSentence 69 = .ok (.invokevirtual 51, 3) := by decide +kernel
theorem dX4_takeSentence_72 : decode cX4_takeSentence 72 = .ok (.iastore, 1) := by decide +kernel
theorem dX4_takeSentence_73 : decode cX4_takeSentence 73 = .ok (.iinc 4 1, 3) := by decide +kernel
theorem dX4_takeSentence_76 : decode cX4_takeSentence 76 = .ok (.goto (-26), 3) := by decide +kernel
theorem dX4_takeSentence_79 : decode cX4_takeSentence 79 = .ok (.aload_n 0, 1) := by decide +kernel
theorem dX4_takeSentence_80 : decode cX4_takeSentence 80 = .ok (.getfield 21, 3) := by decide +kernel
theorem dX4_takeSentence_83 : decode cX4_takeSentence 83 = .ok (.iload_n 1, 1) := by decide +kernel
theorem dX4_takeSentence_84 : decode cX4_takeSentence 84 = .ok (.iload_n 3, 1) := by decide +kernel
theorem dX4_takeSentence_85 : decode cX4_takeSentence 85 = .ok (.iastore, 1) := by decide +kernel
theorem dX4_takeSentence_86 : decode cX4_takeSentence 86 = .ok (.iconst 1, 1) := by decide +kernel
theorem dX4_takeSentence_87 : decode cX4_takeSentence 87 = .ok (.ireturn, 1) := by decide +kernel
theorem dX4_wordsOf_0 : decode cX4_wordsOf 0 = .ok (.iconst 0, 1) := by decide +kernel
theorem dX4_wordsOf_1 : decode cX4_wordsOf 1 = .ok (.istore_n 2, 1) := by decide +kernel
theorem dX4_wordsOf_2 : decode cX4_wordsOf 2 = .ok (.iconst 0, 1) := by decide +kernel
theorem dX4_wordsOf_3 : decode cX4_wordsOf 3 = .ok (.istore_n 3, 1) := by decide +kernel
theorem dX4_wordsOf_4 : decode cX4_wordsOf 4 = .ok (.iload_n 3, 1) := by decide +kernel
theorem dX4_wordsOf_5 : decode cX4_wordsOf 5 = .ok (.aload_n 0, 1) := by decide +kernel
theorem dX4_wordsOf_6 : decode cX4_wordsOf 6 = .ok (.getfield 34, 3) := by decide +kernel
theorem dX4_wordsOf_9 : decode cX4_wordsOf 9 = .ok (.if_icmp .ge 26, 3) := by decide +kernel
theorem dX4_wordsOf_12 : decode cX4_wordsOf 12 = .ok (.iload_n 1, 1) := by decide +kernel
theorem dX4_wordsOf_13 : decode cX4_wordsOf 13 = .ok (.iload_n 3, 1) := by decide +kernel
theorem dX4_wordsOf_14 : decode cX4_wordsOf 14 = .ok (.ishr, 1) := by decide +kernel
theorem dX4_wordsOf_15 : decode cX4_wordsOf 15 = .ok (.iconst 1, 1) := by decide +kernel
theorem dX4_wordsOf_16 : decode cX4_wordsOf 16 = .ok (.iand, 1) := by decide +kernel
theorem dX4_wordsOf_17 : decode cX4_wordsOf 17 = .ok (.ifCond .eq 12, 3) := by decide +kernel
theorem dX4_wordsOf_20 : decode cX4_wordsOf 20 = .ok (.iload_n 2, 1) := by decide +kernel
theorem dX4_wordsOf_21 : decode cX4_wordsOf 21 = .ok (.aload_n 0, 1) := by decide +kernel
theorem dX4_wordsOf_22 : decode cX4_wordsOf 22 = .ok (.getfield 21, 3) := by decide +kernel
theorem dX4_wordsOf_25 : decode cX4_wordsOf 25 = .ok (.iload_n 3, 1) := by decide +kernel
theorem dX4_wordsOf_26 : decode cX4_wordsOf 26 = .ok (.iaload, 1) := by decide +kernel
theorem dX4_wordsOf_27 : decode cX4_wordsOf 27 = .ok (.iadd, 1) := by decide +kernel
theorem dX4_wordsOf_28 : decode cX4_wordsOf 28 = .ok (.istore_n 2, 1) := by decide +kernel
theorem dX4_wordsOf_29 : decode cX4_wordsOf 29 = .ok (.iinc 3 1, 3) := by decide +kernel
theorem dX4_wordsOf_32 : decode cX4_wordsOf 32 = .ok (.goto (-28), 3) := by decide +kernel
theorem dX4_wordsOf_35 : decode cX4_wordsOf 35 = .ok (.iload_n 2, 1) := by decide +kernel
theorem dX4_wordsOf_36 : decode cX4_wordsOf 36 = .ok (.ireturn, 1) := by decide +kernel
theorem dX5_allSuch_0 : decode cX5_allSuch 0 = .ok (.iconst 0, 1) := by decide +kernel
theorem dX5_allSuch_1 : decode cX5_allSuch 1 = .ok (.istore_n 2, 1) := by decide +kernel
theorem dX5_allSuch_2 : decode cX5_allSuch 2 = .ok (.iload_n 2, 1) := by decide +kernel
theorem dX5_allSuch_3 : decode cX5_allSuch 3 = .ok (.aload_n 0, 1) := by decide +kernel
theorem dX5_allSuch_4 : decode cX5_allSuch 4 = .ok (.getfield 52, 3) := by decide +kernel
theorem dX5_allSuch_7 : decode cX5_allSuch 7 = .ok (.if_icmp .ge 26, 3) := by decide +kernel
theorem dX5_allSuch_10 : decode cX5_allSuch 10 = .ok (.aload_n 0, 1) := by decide +kernel
theorem dX5_allSuch_11 : decode cX5_allSuch 11 = .ok (.getfield 9, 3) := by decide +kernel
theorem dX5_allSuch_14 : decode cX5_allSuch 14 = .ok (.iload_n 2, 1) := by decide +kernel
theorem dX5_allSuch_15 : decode cX5_allSuch 15 = .ok (.iaload, 1) := by decide +kernel
theorem dX5_allSuch_16 : decode cX5_allSuch 16 = .ok (.iconst 1, 1) := by decide +kernel
theorem dX5_allSuch_17 : decode cX5_allSuch 17 = .ok (.bipush 63, 2) := by decide +kernel
theorem dX5_allSuch_19 : decode cX5_allSuch 19 = .ok (.invokestatic 66, 3) := by decide +kernel
theorem dX5_allSuch_22 : decode cX5_allSuch 22 = .ok (.ifCond .ne 5, 3) := by decide +kernel
theorem dX5_allSuch_25 : decode cX5_allSuch 25 = .ok (.iconst 0, 1) := by decide +kernel
theorem dX5_allSuch_26 : decode cX5_allSuch 26 = .ok (.ireturn, 1) := by decide +kernel
theorem dX5_allSuch_27 : decode cX5_allSuch 27 = .ok (.iinc 2 1, 3) := by decide +kernel
theorem dX5_allSuch_30 : decode cX5_allSuch 30 = .ok (.goto (-28), 3) := by decide +kernel
theorem dX5_allSuch_33 : decode cX5_allSuch 33 = .ok (.iconst 0, 1) := by decide +kernel
theorem dX5_allSuch_34 : decode cX5_allSuch 34 = .ok (.istore_n 2, 1) := by decide +kernel
theorem dX5_allSuch_35 : decode cX5_allSuch 35 = .ok (.iload_n 2, 1) := by decide +kernel
theorem dX5_allSuch_36 : decode cX5_allSuch 36 = .ok (.iload_n 1, 1) := by decide +kernel
theorem dX5_allSuch_37 : decode cX5_allSuch 37 = .ok (.if_icmp .ge 32, 3) := by decide +kernel
theorem dX5_allSuch_40 : decode cX5_allSuch 40 = .ok (.iload_n 2, 1) := by decide +kernel
theorem dX5_allSuch_41 : decode cX5_allSuch 41 = .ok (.bipush 12, 2) := by decide +kernel
theorem dX5_allSuch_43 : decode cX5_allSuch 43 = .ok (.if_icmp .ge 26, 3) := by decide +kernel
theorem dX5_allSuch_46 : decode cX5_allSuch 46 = .ok (.aload_n 0, 1) := by decide +kernel
theorem dX5_allSuch_47 : decode cX5_allSuch 47 = .ok (.getfield 15, 3) := by decide +kernel
theorem dX5_allSuch_50 : decode cX5_allSuch 50 = .ok (.iload_n 2, 1) := by decide +kernel
theorem dX5_allSuch_51 : decode cX5_allSuch 51 = .ok (.iaload, 1) := by decide +kernel
theorem dX5_allSuch_52 : decode cX5_allSuch 52 = .ok (.iconst 0, 1) := by decide +kernel
theorem dX5_allSuch_53 : decode cX5_allSuch 53 = .ok (.bipush 32, 2) := by decide +kernel
theorem dX5_allSuch_55 : decode cX5_allSuch 55 = .ok (.invokestatic 66, 3) := by decide +kernel
theorem dX5_allSuch_58 : decode cX5_allSuch 58 = .ok (.ifCond .ne 5, 3) := by decide +kernel
theorem dX5_allSuch_61 : decode cX5_allSuch 61 = .ok (.iconst 0, 1) := by decide +kernel
theorem dX5_allSuch_62 : decode cX5_allSuch 62 = .ok (.ireturn, 1) := by decide +kernel
theorem dX5_allSuch_63 : decode cX5_allSuch 63 = .ok (.iinc 2 1, 3) := by decide +kernel
theorem dX5_allSuch_66 : decode cX5_allSuch 66 = .ok (.goto (-31), 3) := by decide +kernel
theorem dX5_allSuch_69 : decode cX5_allSuch 69 = .ok (.iconst 1, 1) := by decide +kernel
theorem dX5_allSuch_70 : decode cX5_allSuch 70 = .ok (.ireturn, 1) := by decide +kernel
theorem dX5_takePairs_0 : decode cX5_takePairs 0 = .ok (.aload_n 0, 1) := by decide +kernel
theorem dX5_takePairs_1 : decode cX5_takePairs 1 = .ok (.iload_n 2, 1) := by decide +kernel
theorem dX5_takePairs_2 : decode cX5_takePairs 2 = .ok (.bipush 12, 2) := by decide +kernel
theorem dX5_takePairs_4 : decode cX5_takePairs 4 = .ok (.invokestatic 46, 3) := by decide +kernel
theorem dX5_takePairs_7 : decode cX5_takePairs 7 = .ok (.putfield 52, 3) := by decide +kernel
theorem dX5_takePairs_10 : decode cX5_takePairs 10 = .ok (.iconst 0, 1) := by decide +kernel
theorem dX5_takePairs_11 : decode cX5_takePairs 11 = .ok (.istore_n 3, 1) := by decide +kernel
theorem dX5_takePairs_12 : decode cX5_takePairs 12 = .ok (.iload_n 3, 1) := by decide +kernel
theorem dX5_takePairs_13 : decode cX5_takePairs 13 = .ok (.aload_n 0, 1) := by decide +kernel
theorem dX5_takePairs_14 : decode cX5_takePairs 14 = .ok (.getfield 52, 3) := by decide +kernel
theorem dX5_takePairs_17 : decode cX5_takePairs 17 = .ok (.if_icmp .ge 37, 3) := by decide +kernel
theorem dX5_takePairs_20 : decode cX5_takePairs 20 = .ok (.aload_n 0, 1) := by decide +kernel
theorem dX5_takePairs_21 : decode cX5_takePairs 21 = .ok (.getfield 9, 3) := by decide +kernel
theorem dX5_takePairs_24 : decode cX5_takePairs 24 = .ok (.iload_n 3, 1) := by decide +kernel
theorem dX5_takePairs_25 : decode cX5_takePairs 25 = .ok (.aload_n 1, 1) := by decide +kernel
theorem dX5_takePairs_26 : decode cX5_takePairs 26 = .ok (.iconst 2, 1) := by decide +kernel
theorem dX5_takePairs_27 : decode cX5_takePairs 27 = .ok (.iload_n 3, 1) := by decide +kernel
theorem dX5_takePairs_28 : decode cX5_takePairs 28 = .ok (.imul, 1) := by decide +kernel
theorem dX5_takePairs_29 : decode cX5_takePairs 29 = .ok (.invokevirtual 56, 3) := by decide +kernel
theorem dX5_takePairs_32 : decode cX5_takePairs 32 = .ok (.iastore, 1) := by decide +kernel
theorem dX5_takePairs_33 : decode cX5_takePairs 33 = .ok (.aload_n 0, 1) := by decide +kernel
theorem dX5_takePairs_34 : decode cX5_takePairs 34 = .ok (.getfield 15, 3) := by decide +kernel
theorem dX5_takePairs_37 : decode cX5_takePairs 37 = .ok (.iload_n 3, 1) := by decide +kernel
theorem dX5_takePairs_38 : decode cX5_takePairs 38 = .ok (.aload_n 1, 1) := by decide +kernel
theorem dX5_takePairs_39 : decode cX5_takePairs 39 = .ok (.iconst 2, 1) := by decide +kernel
theorem dX5_takePairs_40 : decode cX5_takePairs 40 = .ok (.iload_n 3, 1) := by decide +kernel
theorem dX5_takePairs_41 : decode cX5_takePairs 41 = .ok (.imul, 1) := by decide +kernel
theorem dX5_takePairs_42 : decode cX5_takePairs 42 = .ok (.iconst 1, 1) := by decide +kernel
theorem dX5_takePairs_43 : decode cX5_takePairs 43 = .ok (.iadd, 1) := by decide +kernel
theorem dX5_takePairs_44 : decode cX5_takePairs 44 = .ok (.invokevirtual 56, 3) := by decide +kernel
theorem dX5_takePairs_47 : decode cX5_takePairs 47 = .ok (.iastore, 1) := by decide +kernel
theorem dX5_takePairs_48 : decode cX5_takePairs 48 = .ok (.iinc 3 1, 3) := by decide +kernel
theorem dX5_takePairs_51 : decode cX5_takePairs 51 = .ok (.goto (-39), 3) := by decide +kernel
theorem dX5_takePairs_54 : decode cX5_takePairs 54 = .ok (.aload_n 0, 1) := by decide +kernel
theorem dX5_takePairs_55 : decode cX5_takePairs 55 = .ok (.aload_n 0, 1) := by decide +kernel
theorem dX5_takePairs_56 : decode cX5_takePairs 56 = .ok (.getfield 52, 3) := by decide +kernel
theorem dX5_takePairs_59 : decode cX5_takePairs 59 = .ok (.invokevirtual 62, 3) := by decide +kernel
theorem dX5_takePairs_62 : decode cX5_takePairs 62 = .ok (.ireturn, 1) := by decide +kernel
theorem dX5_takeGapsThenMeanings_0 : decode cX5_takeGapsThenMeanings 0 = .ok (.aload_n 0, 1) := by decide +kernel
theorem dX5_takeGapsThenMeanings_1 : decode cX5_takeGapsThenMeanings 1 = .ok (.iload_n 2, 1) := by decide +kernel
theorem dX5_takeGapsThenMeanings_2 : decode cX5_takeGapsThenMeanings 2 = .ok (.bipush 10, 2) := by decide +kernel
theorem dX5_takeGapsThenMeanings_4 : decode cX5_takeGapsThenMeanings 4 = .ok (.invokestatic 46, 3) := by decide +kernel
theorem dX5_takeGapsThenMeanings_7 : decode cX5_takeGapsThenMeanings 7 = .ok (.putfield 52, 3) := by decide +kernel
theorem dX5_takeGapsThenMeanings_10 : decode cX5_takeGapsThenMeanings 10 = .ok (.iconst 0, 1) := by decide +kernel
theorem dX5_takeGapsThenMeanings_11 : decode cX5_takeGapsThenMeanings 11 = .ok (.istore_n 3, 1) := by decide +kernel
theorem dX5_takeGapsThenMeanings_12 : decode cX5_takeGapsThenMeanings 12 = .ok (.iload_n 3, 1) := by decide +kernel
theorem dX5_takeGapsThenMeanings_13 : decode cX5_takeGapsThenMeanings 13 = .ok (.aload_n 0, 1) := by decide +kernel
theorem dX5_takeGapsThenMeanings_14 : decode cX5_takeGapsThenMeanings 14 = .ok (.getfield 52, 3) := by decide +kernel
theorem dX5_takeGapsThenMeanings_17 : decode cX5_takeGapsThenMeanings 17 = .ok (.if_icmp .ge 20, 3) := by decide +kernel
theorem dX5_takeGapsThenMeanings_20 : decode cX5_takeGapsThenMeanings 20 = .ok (.aload_n 0, 1) := by decide +kernel
theorem dX5_takeGapsThenMeanings_21 : decode cX5_takeGapsThenMeanings 21 = .ok (.getfield 9, 3) := by decide +kernel
theorem dX5_takeGapsThenMeanings_24 : decode cX5_takeGapsThenMeanings 24 = .ok (.iload_n 3, 1) := by decide +kernel
theorem dX5_takeGapsThenMeanings_25 : decode cX5_takeGapsThenMeanings 25 = .ok (.aload_n 1, 1) := by decide +kernel
theorem dX5_takeGapsThenMeanings_26 : decode cX5_takeGapsThenMeanings 26 = .ok (.iload_n 3, 1) := by decide +kernel
theorem dX5_takeGapsThenMeanings_27 : decode cX5_takeGapsThenMeanings 27 = .ok (.invokevirtual 56, 3) := by decide +kernel
theorem dX5_takeGapsThenMeanings_30 : decode cX5_takeGapsThenMeanings 30 = .ok (.iastore, 1) := by decide +kernel
theorem dX5_takeGapsThenMeanings_31 : decode cX5_takeGapsThenMeanings 31 = .ok (.iinc 3 1, 3) := by decide +kernel
theorem dX5_takeGapsThenMeanings_34 : decode cX5_takeGapsThenMeanings 34 = .ok (.goto (-22), 3) := by decide +kernel
theorem dX5_takeGapsThenMeanings_37 : decode cX5_takeGapsThenMeanings 37 = .ok (.iconst 0, 1) := by decide +kernel
theorem dX5_takeGapsThenMeanings_38 : decode cX5_takeGapsThenMeanings 38 = .ok (.istore_n 3, 1) := by decide +kernel
theorem dX5_takeGapsThenMeanings_39 : decode cX5_takeGapsThenMeanings 39 = .ok (.iload_n 3, 1) := by decide +kernel
theorem dX5_takeGapsThenMeanings_40 : decode cX5_takeGapsThenMeanings 40 = .ok (.aload_n 0, 1) := by decide +kernel
theorem dX5_takeGapsThenMeanings_41 : decode cX5_takeGapsThenMeanings 41 = .ok (.getfield 52, 3) := by decide +kernel
theorem dX5_takeGapsThenMeanings_44 : decode cX5_takeGapsThenMeanings 44 = .ok (.if_icmp .gt 25, 3) := by decide +kernel
theorem dX5_takeGapsThenMeanings_47 : decode cX5_takeGapsThenMeanings 47 = .ok (.aload_n 0, 1) := by decide +kernel
theorem dX5_takeGapsThenMeanings_48 : decode cX5_takeGapsThenMeanings 48 = .ok (.getfield 15, 3) := by decide +kernel
theorem dX5_takeGapsThenMeanings_51 : decode cX5_takeGapsThenMeanings 51 = .ok (.iload_n 3, 1) := by decide +kernel
theorem dX5_takeGapsThenMeanings_52 : decode cX5_takeGapsThenMeanings 52 = .ok (.aload_n 1, 1) := by decide +kernel
theorem dX5_takeGapsThenMeanings_53 : decode cX5_takeGapsThenMeanings 53 = .ok (.aload_n 0, 1) := by decide +kernel
theorem dX5_takeGapsThenMeanings_54 : decode cX5_takeGapsThenMeanings 54 = .ok (.getfield 52, 3) := by decide +kernel
theorem dX5_takeGapsThenMeanings_57 : decode cX5_takeGapsThenMeanings 57 = .ok (.iload_n 3, 1) := by decide +kernel
theorem dX5_takeGapsThenMeanings_58 : decode cX5_takeGapsThenMeanings 58 = .ok (.iadd, 1) := by decide +kernel
theorem dX5_takeGapsThenMeanings_59 : decode cX5_takeGapsThenMeanings 59 = .ok (.invokevirtual 56, 3) := by decide +kernel
theorem dX5_takeGapsThenMeanings_62 : decode cX5_takeGapsThenMeanings 62 = .ok (.iastore, 1) := by decide +kernel
theorem dX5_takeGapsThenMeanings_63 : decode cX5_takeGapsThenMeanings 63 = .ok (.iinc 3 1, 3) := by decide +kernel
theorem dX5_takeGapsThenMeanings_66 : decode cX5_takeGapsThenMeanings 66 = .ok (.goto (-27), 3) := by decide +kernel
theorem dX5_takeGapsThenMeanings_69 : decode cX5_takeGapsThenMeanings 69 = .ok (.aload_n 0, 1) := by decide +kernel
theorem dX5_takeGapsThenMeanings_70 : decode cX5_takeGapsThenMeanings 70 = .ok (.aload_n 0, 1) := by decide +kernel
theorem dX5_takeGapsThenMeanings_71 : decode cX5_takeGapsThenMeanings 71 = .ok (.getfield 52, 3) := by decide +kernel
theorem dX5_takeGapsThenMeanings_74 : decode cX5_takeGapsThenMeanings 74 = .ok (.iconst 1, 1) := by decide +kernel
theorem dX5_takeGapsThenMeanings_75 : decode cX5_takeGapsThenMeanings 75 = .ok (.iadd, 1) := by decide +kernel
theorem dX5_takeGapsThenMeanings_76 : decode cX5_takeGapsThenMeanings 76 = .ok (.invokevirtual 62, 3) := by decide +kernel
theorem dX5_takeGapsThenMeanings_79 : decode cX5_takeGapsThenMeanings 79 = .ok (.ireturn, 1) := by decide +kernel
theorem dX5_beginBehind_0 : decode cX5_beginBehind 0 = .ok (.aload_n 0, 1) := by decide +kernel
theorem dX5_beginBehind_1 : decode cX5_beginBehind 1 = .ok (.iload_n 1, 1) := by decide +kernel
theorem dX5_beginBehind_2 : decode cX5_beginBehind 2 = .ok (.putfield 70, 3) := by decide +kernel
theorem dX5_beginBehind_5 : decode cX5_beginBehind 5 = .ok (.aload_n 0, 1) := by decide +kernel
theorem dX5_beginBehind_6 : decode cX5_beginBehind 6 = .ok (.aload_n 2, 1) := by decide +kernel
theorem dX5_beginBehind_7 : decode cX5_beginBehind 7 = .ok (.aload_n 2, 1) := by decide +kernel
theorem dX5_beginBehind_8 : decode cX5_beginBehind 8 = .ok (.getfield 73, 3) := by decide +kernel
theorem dX5_beginBehind_11 : decode cX5_beginBehind 11 = .ok (.iconst 1, 1) := by decide +kernel
theorem dX5_beginBehind_12 : decode cX5_beginBehind 12 = .ok (.isub, 1) := by decide +kernel
theorem dX5_beginBehind_13 : decode cX5_beginBehind 13 = .ok (.invokevirtual 76, 3) := by decide +kernel
theorem dX5_beginBehind_16 : decode cX5_beginBehind 16 = .ok (.putfield 79, 3) := by decide +kernel
theorem dX5_beginBehind_19 : decode cX5_beginBehind 19 = .ok (.aload_n 0, 1) := by decide +kernel
theorem dX5_beginBehind_20 : decode cX5_beginBehind 20 = .ok (.aload_n 2, 1) := by decide +kernel
theorem dX5_beginBehind_21 : decode cX5_beginBehind 21 = .ok (.aload_n 2, 1) := by decide +kernel
theorem dX5_beginBehind_22 : decode cX5_beginBehind 22 = .ok (.getfield 73, 3) := by decide +kernel
theorem dX5_beginBehind_25 : decode cX5_beginBehind 25 = .ok (.iconst 1, 1) := by decide +kernel
theorem dX5_beginBehind_26 : decode cX5_beginBehind 26 = .ok (.isub, 1) := by decide +kernel
theorem dX5_beginBehind_27 : decode cX5_beginBehind 27 = .ok (.invokevirtual 82, 3) := by decide +kernel
theorem dX5_beginBehind_30 : decode cX5_beginBehind 30 = .ok (.putfield 85, 3) := by decide +kernel
theorem dX5_beginBehind_33 : decode cX5_beginBehind 33 = .ok (.iconst 0, 1) := by decide +kernel
theorem dX5_beginBehind_34 : decode cX5_beginBehind 34 = .ok (.istore_n 3, 1) := by decide +kernel
theorem dX5_beginBehind_35 : decode cX5_beginBehind 35 = .ok (.iload_n 3, 1) := by decide +kernel
theorem dX5_beginBehind_36 : decode cX5_beginBehind 36 = .ok (.bipush 8, 2) := by decide +kernel
theorem dX5_beginBehind_38 : decode cX5_beginBehind 38 = .ok (.if_icmp .gt 28, 3) := by decide +kernel
theorem dX5_beginBehind_41 : decode cX5_beginBehind 41 = .ok (.aload_n 0, 1) := by decide +kernel
theorem dX5_beginBehind_42 : decode cX5_beginBehind 42 = .ok (.getfield 31, 3) := by decide +kernel
theorem dX5_beginBehind_45 : decode cX5_beginBehind 45 = .ok (.iload_n 3, 1) := by decide +kernel
theorem dX5_beginBehind_46 : decode cX5_beginBehind 46 = .ok (.iload_n 3, 1) := by decide +kernel
theorem dX5_beginBehind_47 : decode cX5_beginBehind 47 = .ok (.aload_n 0, 1) := by decide +kernel
theorem dX5_beginBehind_48 : decode cX5_beginBehind 48 = .ok (.getfield 79, 3) := by decide +kernel
theorem dX5_beginBehind_51 : decode cX5_beginBehind 51 = .ok (.if_icmp .ne 7, 3) := by decide +kernel
theorem dX5_beginBehind_54 : decode cX5_beginBehind 54 = .ok (.lconst 1, 1) := by decide +kernel
theorem dX5_beginBehind_55 : decode cX5_beginBehind 55 = .ok (.goto 4, 3) := by decide +kernel
theorem dX5_beginBehind_58 : decode cX5_beginBehind 58 = .ok (.lconst 0, 1) := by decide +kernel
theorem dX5_beginBehind_59 : decode cX5_beginBehind 59 = .ok (.lastore, 1) := by decide +kernel
theorem dX5_beginBehind_60 : decode cX5_beginBehind 60 = .ok (.iinc 3 1, 3) := by decide +kernel
theorem dX5_beginBehind_63 : decode cX5_beginBehind 63 = .ok (.goto (-28), 3) := by decide +kernel
theorem dX5_beginBehind_66 : decode cX5_beginBehind 66 = .ok (.return_, 1) := by decide +kernel
theorem dX7_byEar_0 : decode cX7_byEar 0 = .ok (.aload_n 0, 1) := by decide +kernel
theorem dX7_byEar_1 : decode cX7_byEar 1 = .ok (.iload_n 2, 1) := by decide +kernel
theorem dX7_byEar_2 : decode cX7_byEar 2 = .ok (.iload_n 3, 1) := by decide +kernel
theorem dX7_byEar_3 : decode cX7_byEar 3 = .ok (.iload 4, 2) := by decide +kernel
theorem dX7_byEar_5 : decode cX7_byEar 5 = .ok (.iload 5, 2) := by decide +kernel
theorem dX7_byEar_7 : decode cX7_byEar 7 = .ok (.iload_n 1, 1) := by decide +kernel
theorem dX7_byEar_8 : decode cX7_byEar 8 = .ok (.aload_n 0, 1) := by decide +kernel
theorem dX7_byEar_9 : decode cX7_byEar 9 = .ok (.getfield 28, 3) := by decide +kernel
theorem dX7_byEar_12 : decode cX7_byEar 12 = .ok (.iload_n 1, 1) := by decide +kernel
theorem dX7_byEar_13 : decode cX7_byEar 13 = .ok (.iload_n 3, 1) := by decide +kernel
theorem dX7_byEar_14 : decode cX7_byEar 14 = .ok (.invokevirtual 36, 3) := by decide +kernel
theorem dX7_byEar_17 : decode cX7_byEar 17 = .ok (.invokevirtual 42, 3) := by decide +kernel
theorem dX7_byEar_20 : decode cX7_byEar 20 = .ok (.aload_n 0, 1) := by decide +kernel
theorem dX7_byEar_21 : decode cX7_byEar 21 = .ok (.bipush 109, 2) := by decide +kernel
theorem dX7_byEar_23 : decode cX7_byEar 23 = .ok (.bipush 31, 2) := by decide +kernel
theorem dX7_byEar_25 : decode cX7_byEar 25 = .ok (.invokevirtual 46, 3) := by decide +kernel
theorem dX7_byEar_28 : decode cX7_byEar 28 = .ok (.ireturn, 1) := by decide +kernel
theorem dX5_fits_0 : decode cX5_fits 0 = .ok (.iload_n 1, 1) := by decide +kernel
theorem dX5_fits_1 : decode cX5_fits 1 = .ok (.ifCond .lt 24, 3) := by decide +kernel
theorem dX5_fits_4 : decode cX5_fits 4 = .ok (.iload_n 1, 1) := by decide +kernel
theorem dX5_fits_5 : decode cX5_fits 5 = .ok (.bipush 12, 2) := by decide +kernel
theorem dX5_fits_7 : decode cX5_fits 7 = .ok (.if_icmp .ge 18, 3) := by decide +kernel
theorem dX5_fits_10 : decode cX5_fits 10 = .ok (.aload_n 0, 1) := by decide +kernel
theorem dX5_fits_11 : decode cX5_fits 11 = .ok (.getfield 38, 3) := by decide +kernel
theorem dX5_fits_14 : decode cX5_fits 14 = .ok (.aload_n 0, 1) := by decide +kernel
theorem dX5_fits_15 : decode cX5_fits 15 = .ok (.getfield 70, 3) := by decide +kernel
theorem dX5_fits_18 : decode cX5_fits 18 = .ok (.iload_n 3, 1) := by decide +kernel
theorem dX5_fits_19 : decode cX5_fits 19 = .ok (.invokevirtual 88, 3) := by decide +kernel
theorem dX5_fits_22 : decode cX5_fits 22 = .ok (.ifCond .ne 5, 3) := by decide +kernel
theorem dX5_fits_25 : decode cX5_fits 25 = .ok (.iconst 0, 1) := by decide +kernel
theorem dX5_fits_26 : decode cX5_fits 26 = .ok (.ireturn, 1) := by decide +kernel
theorem dX5_fits_27 : decode cX5_fits 27 = .ok (.aload_n 0, 1) := by decide +kernel
theorem dX5_fits_28 : decode cX5_fits 28 = .ok (.getfield 15, 3) := by decide +kernel
theorem dX5_fits_31 : decode cX5_fits 31 = .ok (.iload_n 1, 1) := by decide +kernel
theorem dX5_fits_32 : decode cX5_fits 32 = .ok (.iaload, 1) := by decide +kernel
theorem dX5_fits_33 : decode cX5_fits 33 = .ok (.bipush 32, 2) := by decide +kernel
theorem dX5_fits_35 : decode cX5_fits 35 = .ok (.if_icmp .eq 29, 3) := by decide +kernel
theorem dX5_fits_38 : decode cX5_fits 38 = .ok (.aload_n 0, 1) := by decide +kernel
theorem dX5_fits_39 : decode cX5_fits 39 = .ok (.getfield 42, 3) := by decide +kernel
theorem dX5_fits_42 : decode cX5_fits 42 = .ok (.aload_n 0, 1) := by decide +kernel
theorem dX5_fits_43 : decode cX5_fits 43 = .ok (.getfield 70, 3) := by decide +kernel
theorem dX5_fits_46 : decode cX5_fits 46 = .ok (.iload_n 2, 1) := by decide +kernel
theorem dX5_fits_47 : decode cX5_fits 47 = .ok (.iload_n 3, 1) := by decide +kernel
theorem dX5_fits_48 : decode cX5_fits 48 = .ok (.iload 4, 2) := by decide +kernel
theorem dX5_fits_50 : decode cX5_fits 50 = .ok (.iload 5, 2) := by decide +kernel
theorem dX5_fits_52 : decode cX5_fits 52 = .ok (.invokevirtual 94, 3) := by decide +kernel
theorem dX5_fits_55 : decode cX5_fits 55 = .ok (.aload_n 0, 1) := by decide +kernel
theorem dX5_fits_56 : decode cX5_fits 56 = .ok (.getfield 15, 3) := by decide +kernel
theorem dX5_fits_59 : decode cX5_fits 59 = .ok (.iload_n 1, 1) := by decide +kernel
theorem dX5_fits_60 : decode cX5_fits 60 = .ok (.iaload, 1) := by decide +kernel
theorem dX5_fits_61 : decode cX5_fits 61 = .ok (.if_icmp .ne 7, 3) := by decide +kernel
theorem dX5_fits_64 : decode cX5_fits 64 = .ok (.iconst 1, 1) := by decide +kernel
theorem dX5_fits_65 : decode cX5_fits 65 = .ok (.goto 4, 3) := by decide +kernel
theorem dX5_fits_68 : decode cX5_fits 68 = .ok (.iconst 0, 1) := by decide +kernel
theorem dX5_fits_69 : decode cX5_fits 69 = .ok (.ireturn, 1) := by decide +kernel
theorem dX5_followers_0 : decode cX5_followers 0 = .ok (.iload_n 1, 1) := by decide +kernel
theorem dX5_followers_1 : decode cX5_followers 1 = .ok (.ifCond .ne 10, 3) := by decide +kernel
theorem dX5_followers_4 : decode cX5_followers 4 = .ok (.aload_n 0, 1) := by decide +kernel
theorem dX5_followers_5 : decode cX5_followers 5 = .ok (.getfield 85, 3) := by decide +kernel
theorem dX5_followers_8 : decode cX5_followers 8 = .ok (.goto 11, 3) := by decide +kernel
theorem dX5_followers_11 : decode cX5_followers 11 = .ok (.aload_n 0, 1) := by decide +kernel
theorem dX5_followers_12 : decode cX5_followers 12 = .ok (.getfield 9, 3) := by decide +kernel
theorem dX5_followers_15 : decode cX5_followers 15 = .ok (.iload_n 1, 1) := by decide +kernel
theorem dX5_followers_16 : decode cX5_followers 16 = .ok (.iconst 1, 1) := by decide +kernel
theorem dX5_followers_17 : decode cX5_followers 17 = .ok (.isub, 1) := by decide +kernel
theorem dX5_followers_18 : decode cX5_followers 18 = .ok (.iaload, 1) := by decide +kernel
theorem dX5_followers_19 : decode cX5_followers 19 = .ok (.istore_n 3, 1) := by decide +kernel
theorem dX5_followers_20 : decode cX5_followers 20 = .ok (.iconst 0, 1) := by decide +kernel
theorem dX5_followers_21 : decode cX5_followers 21 = .ok (.istore 4, 2) := by decide +kernel
theorem dX5_followers_23 : decode cX5_followers 23 = .ok (.iconst 0, 1) := by decide +kernel
theorem dX5_followers_24 : decode cX5_followers 24 = .ok (.istore 5, 2) := by decide +kernel
theorem dX5_followers_26 : decode cX5_followers 26 = .ok (.iload 5, 2) := by decide +kernel
theorem dX5_followers_28 : decode cX5_followers 28 = .ok (.aload_n 0, 1) := by decide +kernel
theorem dX5_followers_29 : decode cX5_followers 29 = .ok (.getfield 38, 3) := by decide +kernel
theorem dX5_followers_32 : decode cX5_followers 32 = .ok (.getfield 100, 3) := by decide +kernel
theorem dX5_followers_35 : decode cX5_followers 35 = .ok (.if_icmp .ge 36, 3) := by decide +kernel
theorem dX5_followers_38 : decode cX5_followers 38 = .ok (.aload_n 0, 1) := by decide +kernel
theorem dX5_followers_39 : decode cX5_followers 39 = .ok (.iload_n 1, 1) := by decide +kernel
theorem dX5_followers_40 : decode cX5_followers 40 = .ok (.aload_n 0, 1) := by decide +kernel
theorem dX5_followers_41 : decode cX5_followers 41 = .ok (.getfield 9, 3) := by decide +kernel
theorem dX5_followers_44 : decode cX5_followers 44 = .ok (.iload_n 1, 1) := by decide +kernel
theorem dX5_followers_45 : decode cX5_followers 45 = .ok (.iaload, 1) := by decide +kernel
theorem dX5_followers_46 : decode cX5_followers 46 = .ok (.iload 5, 2) := by decide +kernel
theorem dX5_followers_48 : decode cX5_followers 48 = .ok (.iload_n 2, 1) := by decide +kernel
theorem dX5_followers_49 : decode cX5_followers 49 = .ok (.iload_n 3, 1) := by decide +kernel
theorem dX5_followers_50 : decode cX5_followers 50 = .ok (.invokevirtual 101, 3) := by decide +kernel
theorem dX5_followers_53 : decode cX5_followers 53 = .ok (.ifCond .eq 12, 3) := by decide +kernel
theorem dX5_followers_56 : decode cX5_followers 56 = .ok (.iload 4, 2) := by decide +kernel
theorem dX5_followers_58 : decode cX5_followers 58 = .ok (.iconst 1, 1) := by decide +kernel
theorem dX5_followers_59 : decode cX5_followers 59 = .ok (.iload 5, 2) := by decide +kernel
theorem dX5_followers_61 : decode cX5_followers 61 = .ok (.ishl, 1) := by decide +kernel
theorem dX5_followers_62 : decode cX5_followers 62 = .ok (.ior, 1) := by decide +kernel
theorem dX5_followers_63 : decode cX5_followers 63 = .ok (.istore 4, 2) := by decide +kernel
theorem dX5_followers_65 : decode cX5_followers 65 = .ok (.iinc 5 1, 3) := by decide +kernel
theorem dX5_followers_68 : decode cX5_followers 68 = .ok (.goto (-42), 3) := by decide +kernel
theorem dX5_followers_71 : decode cX5_followers 71 = .ok (.iload 4, 2) := by decide +kernel
theorem dX5_followers_73 : decode cX5_followers 73 = .ok (.ireturn, 1) := by decide +kernel
theorem dX5_goOn_0 : decode cX5_goOn 0 = .ok (.iload_n 1, 1) := by decide +kernel
theorem dX5_goOn_1 : decode cX5_goOn 1 = .ok (.ifCond .lt 11, 3) := by decide +kernel
theorem dX5_goOn_4 : decode cX5_goOn 4 = .ok (.iload_n 1, 1) := by decide +kernel
theorem dX5_goOn_5 : decode cX5_goOn 5 = .ok (.aload_n 0, 1) := by decide +kernel
theorem dX5_goOn_6 : decode cX5_goOn 6 = .ok (.getfield 52, 3) := by decide +kernel
theorem dX5_goOn_9 : decode cX5_goOn 9 = .ok (.if_icmp .lt 4, 3) := by decide +kernel
theorem dX5_goOn_12 : decode cX5_goOn 12 = .ok (.return_, 1) := by decide +kernel
theorem dX5_goOn_13 : decode cX5_goOn 13 = .ok (.aload_n 0, 1) := by decide +kernel
theorem dX5_goOn_14 : decode cX5_goOn 14 = .ok (.getfield 31, 3) := by decide +kernel
theorem dX5_goOn_17 : decode cX5_goOn 17 = .ok (.astore_n 2, 1) := by decide +kernel
theorem dX5_goOn_18 : decode cX5_goOn 18 = .ok (.aload_n 0, 1) := by decide +kernel
theorem dX5_goOn_19 : decode cX5_goOn 19 = .ok (.aload_n 0, 1) := by decide +kernel
theorem dX5_goOn_20 : decode cX5_goOn 20 = .ok (.getfield 35, 3) := by decide +kernel
theorem dX5_goOn_23 : decode cX5_goOn 23 = .ok (.putfield 31, 3) := by decide +kernel
theorem dX5_goOn_26 : decode cX5_goOn 26 = .ok (.aload_n 0, 1) := by decide +kernel
theorem dX5_goOn_27 : decode cX5_goOn 27 = .ok (.aload_n 2, 1) := by decide +kernel
theorem dX5_goOn_28 : decode cX5_goOn 28 = .ok (.putfield 35, 3) := by decide +kernel
theorem dX5_goOn_31 : decode cX5_goOn 31 = .ok (.iconst 0, 1) := by decide +kernel
theorem dX5_goOn_32 : decode cX5_goOn 32 = .ok (.istore_n 3, 1) := by decide +kernel
theorem dX5_goOn_33 : decode cX5_goOn 33 = .ok (.iload_n 3, 1) := by decide +kernel
theorem dX5_goOn_34 : decode cX5_goOn 34 = .ok (.bipush 8, 2) := by decide +kernel
theorem dX5_goOn_36 : decode cX5_goOn 36 = .ok (.if_icmp .gt 16, 3) := by decide +kernel
theorem dX5_goOn_39 : decode cX5_goOn 39 = .ok (.aload_n 0, 1) := by decide +kernel
theorem dX5_goOn_40 : decode cX5_goOn 40 = .ok (.getfield 31, 3) := by decide +kernel
theorem dX5_goOn_43 : decode cX5_goOn 43 = .ok (.iload_n 3, 1) := by decide +kernel
theorem dX5_goOn_44 : decode cX5_goOn 44 = .ok (.lconst 0, 1) := by decide +kernel
theorem dX5_goOn_45 : decode cX5_goOn 45 = .ok (.lastore, 1) := by decide +kernel
theorem dX5_goOn_46 : decode cX5_goOn 46 = .ok (.iinc 3 1, 3) := by decide +kernel
theorem dX5_goOn_49 : decode cX5_goOn 49 = .ok (.goto (-16), 3) := by decide +kernel
theorem dX5_goOn_52 : decode cX5_goOn 52 = .ok (.aload_n 0, 1) := by decide +kernel
theorem dX5_goOn_53 : decode cX5_goOn 53 = .ok (.getfield 21, 3) := by decide +kernel
theorem dX5_goOn_56 : decode cX5_goOn 56 = .ok (.iload_n 1, 1) := by decide +kernel
theorem dX5_goOn_57 : decode cX5_goOn 57 = .ok (.iconst 0, 1) := by decide +kernel
theorem dX5_goOn_58 : decode cX5_goOn 58 = .ok (.iastore, 1) := by decide +kernel
theorem dX5_goOn_59 : decode cX5_goOn 59 = .ok (.iconst 0, 1) := by decide +kernel
theorem dX5_goOn_60 : decode cX5_goOn 60 = .ok (.istore_n 3, 1) := by decide +kernel
theorem dX5_goOn_61 : decode cX5_goOn 61 = .ok (.iload_n 3, 1) := by decide +kernel
theorem dX5_goOn_62 : decode cX5_goOn 62 = .ok (.bipush 8, 2) := by decide +kernel
theorem dX5_goOn_64 : decode cX5_goOn 64 = .ok (.if_icmp .gt 97, 3) := by decide +kernel
theorem dX5_goOn_67 : decode cX5_goOn 67 = .ok (.aload_n 0, 1) := by decide +kernel
theorem dX5_goOn_68 : decode cX5_goOn 68 = .ok (.getfield 35, 3) := by decide +kernel
theorem dX5_goOn_71 : decode cX5_goOn 71 = .ok (.iload_n 3, 1) := by decide +kernel
theorem dX5_goOn_72 : decode cX5_goOn 72 = .ok (.laload, 1) := by decide +kernel
theorem dX5_goOn_73 : decode cX5_goOn 73 = .ok (.lconst 0, 1) := by decide +kernel
theorem dX5_goOn_74 : decode cX5_goOn 74 = .ok (.lcmp, 1) := by decide +kernel
theorem dX5_goOn_75 : decode cX5_goOn 75 = .ok (.ifCond .ne 7, 3) := by decide +kernel
theorem dX5_goOn_78 : decode cX5_goOn 78 = .ok (.iconst 0, 1) := by decide +kernel
theorem dX5_goOn_79 : decode cX5_goOn 79 = .ok (.goto 9, 3) := by decide +kernel
theorem dX5_goOn_82 : decode cX5_goOn 82 = .ok (.aload_n 0, 1) := by decide +kernel
theorem dX5_goOn_83 : decode cX5_goOn 83 = .ok (.iload_n 1, 1) := by decide +kernel
theorem dX5_goOn_84 : decode cX5_goOn 84 = .ok (.iload_n 3, 1) := by decide +kernel
theorem dX5_goOn_85 : decode cX5_goOn 85 = .ok (.invokevirtual 105, 3) := by decide +kernel
theorem dX5_goOn_88 : decode cX5_goOn 88 = .ok (.istore 4, 2) := by decide +kernel
theorem dX5_goOn_90 : decode cX5_goOn 90 = .ok (.aload_n 0, 1) := by decide +kernel
theorem dX5_goOn_91 : decode cX5_goOn 91 = .ok (.getfield 18, 3) := by decide +kernel
theorem dX5_goOn_94 : decode cX5_goOn 94 = .ok (.iload_n 1, 1) := by decide +kernel
theorem dX5_goOn_95 : decode cX5_goOn 95 = .ok (.bipush 9, 2) := by decide +kernel
theorem dX5_goOn_97 : decode cX5_goOn 97 = .ok (.imul, 1) := by decide +kernel
theorem dX5_goOn_98 : decode cX5_goOn 98 = .ok (.iload_n 3, 1) := by decide +kernel
theorem dX5_goOn_99 : decode cX5_goOn 99 = .ok (.iadd, 1) := by decide +kernel
theorem dX5_goOn_100 : decode cX5_goOn 100 = .ok (.iload 4, 2) := by decide +kernel
theorem dX5_goOn_102 : decode cX5_goOn 102 = .ok (.iastore, 1) := by decide +kernel
theorem dX5_goOn_103 : decode cX5_goOn 103 = .ok (.aload_n 0, 1) := by decide +kernel
theorem dX5_goOn_104 : decode cX5_goOn 104 = .ok (.getfield 21, 3) := by decide +kernel
theorem dX5_goOn_107 : decode cX5_goOn 107 = .ok (.iload_n 1, 1) := by decide +kernel
theorem dX5_goOn_108 : decode cX5_goOn 108 = .ok (.dup2, 1) := by decide +kernel
theorem dX5_goOn_109 : decode cX5_goOn 109 = .ok (.iaload, 1) := by decide +kernel
theorem dX5_goOn_110 : decode cX5_goOn 110 = .ok (.iload 4, 2) := by decide +kernel
theorem dX5_goOn_112 : decode cX5_goOn 112 = .ok (.ior, 1) := by decide +kernel
theorem dX5_goOn_113 : decode cX5_goOn 113 = .ok (.iastore, 1) := by decide +kernel
theorem dX5_goOn_114 : decode cX5_goOn 114 = .ok (.iconst 0, 1) := by decide +kernel
theorem dX5_goOn_115 : decode cX5_goOn 115 = .ok (.istore 5, 2) := by decide +kernel
theorem dX5_goOn_117 : decode cX5_goOn 117 = .ok (.iload 5, 2) := by decide +kernel
theorem dX5_goOn_119 : decode cX5_goOn 119 = .ok (.bipush 8, 2) := by decide +kernel
theorem dX5_goOn_121 : decode cX5_goOn 121 = .ok (.if_icmp .ge 34, 3) := by decide +kernel
theorem dX5_goOn_124 : decode cX5_goOn 124 = .ok (.aload_n 0, 1) := by decide +kernel
theorem dX5_goOn_125 : decode cX5_goOn 125 = .ok (.getfield 31, 3) := by decide +kernel
theorem dX5_goOn_128 : decode cX5_goOn 128 = .ok (.iload 5, 2) := by decide +kernel
theorem dX5_goOn_130 : decode cX5_goOn 130 = .ok (.dup2, 1) := by decide +kernel
theorem dX5_goOn_131 : decode cX5_goOn 131 = .ok (.laload, 1) := by decide +kernel
theorem dX5_goOn_132 : decode cX5_goOn 132 = .ok (.iload 4, 2) := by decide +kernel
theorem dX5_goOn_134 : decode cX5_goOn 134 = .ok (.iload 5, 2) := by decide +kernel
theorem dX5_goOn_136 : decode cX5_goOn 136 = .ok (.ishr, 1) := by decide +kernel
theorem dX5_goOn_137 : decode cX5_goOn 137 = .ok (.iconst 1, 1) := by decide +kernel
theorem dX5_goOn_138 : decode cX5_goOn 138 = .ok (.iand, 1) := by decide +kernel
theorem dX5_goOn_139 : decode cX5_goOn 139 = .ok (.i2l, 1) := by decide +kernel
theorem dX5_goOn_140 : decode cX5_goOn 140 = .ok (.aload_n 0, 1) := by decide +kernel
theorem dX5_goOn_141 : decode cX5_goOn 141 = .ok (.getfield 35, 3) := by decide +kernel
theorem dX5_goOn_144 : decode cX5_goOn 144 = .ok (.iload_n 3, 1) := by decide +kernel
theorem dX5_goOn_145 : decode cX5_goOn 145 = .ok (.laload, 1) := by decide +kernel
theorem dX5_goOn_146 : decode cX5_goOn 146 = .ok (.lmul, 1) := by decide +kernel
theorem dX5_goOn_147 : decode cX5_goOn 147 = .ok (.ladd, 1) := by decide +kernel
theorem dX5_goOn_148 : decode cX5_goOn 148 = .ok (.lastore, 1) := by decide +kernel
theorem dX5_goOn_149 : decode cX5_goOn 149 = .ok (.iinc 5 1, 3) := by decide +kernel
theorem dX5_goOn_152 : decode cX5_goOn 152 = .ok (.goto (-35), 3) := by decide +kernel
theorem dX5_goOn_155 : decode cX5_goOn 155 = .ok (.iinc 3 1, 3) := by decide +kernel
theorem dX5_goOn_158 : decode cX5_goOn 158 = .ok (.goto (-97), 3) := by decide +kernel
theorem dX5_goOn_161 : decode cX5_goOn 161 = .ok (.return_, 1) := by decide +kernel
theorem dX5_howManyRows_0 : decode cX5_howManyRows 0 = .ok (.lconst 0, 1) := by decide +kernel
theorem dX5_howManyRows_1 : decode cX5_howManyRows 1 = .ok (.lstore_n 1, 1) := by decide +kernel
theorem dX5_howManyRows_2 : decode cX5_howManyRows 2 = .ok (.iconst 0, 1) := by decide +kernel
theorem dX5_howManyRows_3 : decode cX5_howManyRows 3 = .ok (.istore_n 3, 1) := by decide +kernel
theorem dX5_howManyRows_4 : decode cX5_howManyRows 4 = .ok (.iload_n 3, 1) := by decide +kernel
theorem dX5_howManyRows_5 : decode cX5_howManyRows 5 = .ok (.bipush 8, 2) := by decide +kernel
theorem dX5_howManyRows_7 : decode cX5_howManyRows 7 = .ok (.if_icmp .ge 18, 3) := by decide +kernel
theorem dX5_howManyRows_10 : decode cX5_howManyRows 10 = .ok (.lload_n 1, 1) := by decide +kernel
theorem dX5_howManyRows_11 : decode cX5_howManyRows 11 = .ok (.aload_n 0, 1) := by decide +kernel
theorem dX5_howManyRows_12 : decode cX5_howManyRows 12 = .ok (.getfield 31, 3) := by decide +kernel
theorem dX5_howManyRows_15 : decode cX5_howManyRows 15 = .ok (.iload_n 3, 1) := by decide +kernel
theorem dX5_howManyRows_16 : decode cX5_howManyRows 16 = .ok (.laload, 1) := by decide +kernel
theorem dX5_howManyRows_17 : decode cX5_howManyRows 17 = .ok (.ladd, 1) := by decide +kernel
theorem dX5_howManyRows_18 : decode cX5_howManyRows 18 = .ok (.lstore_n 1, 1) := by decide +kernel
theorem dX5_howManyRows_19 : decode cX5_howManyRows 19 = .ok (.iinc 3 1, 3) := by decide +kernel
theorem dX5_howManyRows_22 : decode cX5_howManyRows 22 = .ok (.goto (-18), 3) := by decide +kernel
theorem dX5_howManyRows_25 : decode cX5_howManyRows 25 = .ok (.lload_n 1, 1) := by decide +kernel
theorem dX5_howManyRows_26 : decode cX5_howManyRows 26 = .ok (.lreturn, 1) := by decide +kernel
theorem dX5_keepWhatGoesOn_0 : decode cX5_keepWhatGoesOn 0 = .ok (.aload_n 0, 1) := by decide +kernel
theorem dX5_keepWhatGoesOn_1 : decode cX5_keepWhatGoesOn 1 = .ok (.getfield 52, 3) := by decide +kernel
theorem dX5_keepWhatGoesOn_4 : decode cX5_keepWhatGoesOn 4 = .ok (.iconst 2, 1) := by decide +kernel
theorem dX5_keepWhatGoesOn_5 : decode cX5_keepWhatGoesOn 5 = .ok (.isub, 1) := by decide +kernel
theorem dX5_keepWhatGoesOn_6 : decode cX5_keepWhatGoesOn 6 = .ok (.istore_n 1, 1) := by decide +kernel
theorem dX5_keepWhatGoesOn_7 : decode cX5_keepWhatGoesOn 7 = .ok (.iload_n 1, 1) := by decide +kernel
theorem dX5_keepWhatGoesOn_8 : decode cX5_keepWhatGoesOn 8 = .ok (.ifCond .lt 85, 3) := by decide +kernel
theorem dX5_keepWhatGoesOn_11 : decode cX5_keepWhatGoesOn 11 = .ok (.iconst 0, 1) := by decide +kernel
theorem dX5_keepWhatGoesOn_12 : decode cX5_keepWhatGoesOn 12 = .ok (.istore_n 2, 1) := by decide +kernel
theorem dX5_keepWhatGoesOn_13 : decode cX5_keepWhatGoesOn 13 = .ok (.iload_n 2, 1) := by decide +kernel
theorem dX5_keepWhatGoesOn_14 : decode cX5_keepWhatGoesOn 14 = .ok (.bipush 8, 2) := by decide +kernel
theorem dX5_keepWhatGoesOn_16 : decode cX5_keepWhatGoesOn 16 = .ok (.if_icmp .ge 71, 3) := by decide +kernel
theorem dX5_keepWhatGoesOn_19 : decode cX5_keepWhatGoesOn 19 = .ok (.aload_n 0, 1) := by decide +kernel
theorem dX5_keepWhatGoesOn_20 : decode cX5_keepWhatGoesOn 20 = .ok (.getfield 21, 3) := by decide +kernel
theorem dX5_keepWhatGoesOn_23 : decode cX5_keepWhatGoesOn 23 = .ok (.iload_n 1, 1) := by decide +kernel
theorem dX5_keepWhatGoesOn_24 : decode cX5_keepWhatGoesOn 24 = .ok (.iaload, 1) := by decide +kernel
theorem dX5_keepWhatGoesOn_25 : decode cX5_keepWhatGoesOn 25 = .ok (.iload_n 2, 1) := by decide +kernel
theorem dX5_keepWhatGoesOn_26 : decode cX5_keepWhatGoesOn 26 = .ok (.ishr, 1) := by decide +kernel
theorem dX5_keepWhatGoesOn_27 : decode cX5_keepWhatGoesOn 27 = .ok (.iconst 1, 1) := by decide +kernel
theorem dX5_keepWhatGoesOn_28 : decode cX5_keepWhatGoesOn 28 = .ok (.iand, 1) := by decide +kernel
theorem dX5_keepWhatGoesOn_29 : decode cX5_keepWhatGoesOn 29 = .ok (.ifCond .eq 7, 3) := by decide +kernel
theorem dX5_keepWhatGoesOn_32 : decode cX5_keepWhatGoesOn 32 = .ok (.iconst 1, 1) := by decide +kernel
theorem dX5_keepWhatGoesOn_33 : decode cX5_keepWhatGoesOn 33 = .ok (.goto 4, 3) := by decide +kernel
theorem dX5_keepWhatGoesOn_36 : decode cX5_keepWhatGoesOn 36 = .ok (.iconst 0, 1) := by decide +kernel
theorem dX5_keepWhatGoesOn_37 : decode cX5_keepWhatGoesOn 37 = .ok (.istore_n 3, 1) := by decide +kernel
theorem dX5_keepWhatGoesOn_38 : decode cX5_keepWhatGoesOn 38 = .ok (.iload_n 3, 1) := by decide +kernel
theorem dX5_keepWhatGoesOn_39 : decode cX5_keepWhatGoesOn 39 = .ok (.ifCond .eq 42, 3) := by decide +kernel
theorem dX5_keepWhatGoesOn_42 : decode cX5_keepWhatGoesOn 42 = .ok (.aload_n 0, 1) := by decide +kernel
theorem dX5_keepWhatGoesOn_43 : decode cX5_keepWhatGoesOn 43 = .ok (.getfield 18, 3) := by decide +kernel
theorem dX5_keepWhatGoesOn_46 : decode cX5_keepWhatGoesOn 46 = .ok (.iload_n 1, 1) := by decide +kernel
theorem dX5_keepWhatGoesOn_47 : decode cX5_keepWhatGoesOn 47 = .ok (.iconst 1, 1) := by decide +kernel
theorem dX5_keepWhatGoesOn_48 : decode cX5_keepWhatGoesOn 48 = .ok (.iadd, 1) := by decide +kernel
theorem dX5_keepWhatGoesOn_49 : decode cX5_keepWhatGoesOn 49 = .ok (.bipush 9, 2) := by decide +kernel
theorem dX5_keepWhatGoesOn_51 : decode cX5_keepWhatGoesOn 51 = .ok (.imul, 1) := by decide +kernel
theorem dX5_keepWhatGoesOn_52 : decode cX5_keepWhatGoesOn 52 = .ok (.iload_n 2, 1) := by decide +kernel
theorem dX5_keepWhatGoesOn_53 : decode cX5_keepWhatGoesOn 53 = .ok (.iadd, 1) := by decide +kernel
theorem dX5_keepWhatGoesOn_54 : decode cX5_keepWhatGoesOn 54 = .ok (.iaload, 1) := by decide +kernel
theorem dX5_keepWhatGoesOn_55 : decode cX5_keepWhatGoesOn 55 = .ok (.aload_n 0, 1) := by decide +kernel
theorem dX5_keepWhatGoesOn_56 : decode cX5_keepWhatGoesOn 56 = .ok (.getfield 21, 3) := by decide +kernel
theorem dX5_keepWhatGoesOn_59 : decode cX5_keepWhatGoesOn 59 = .ok (.iload_n 1, 1) := by decide +kernel
theorem dX5_keepWhatGoesOn_60 : decode cX5_keepWhatGoesOn 60 = .ok (.iconst 1, 1) := by decide +kernel
theorem dX5_keepWhatGoesOn_61 : decode cX5_keepWhatGoesOn 61 = .ok (.iadd, 1) := by decide +kernel
theorem dX5_keepWhatGoesOn_62 : decode cX5_keepWhatGoesOn 62 = .ok (.iaload, 1) := by decide +kernel
theorem dX5_keepWhatGoesOn_63 : decode cX5_keepWhatGoesOn 63 = .ok (.iand, 1) := by decide +kernel
theorem dX5_keepWhatGoesOn_64 : decode cX5_keepWhatGoesOn 64 = .ok (.ifCond .ne 17, 3) := by decide +kernel
theorem dX5_keepWhatGoesOn_67 : decode cX5_keepWhatGoesOn 67 = .ok (.aload_n 0, 1) := by decide +kernel
theorem dX5_keepWhatGoesOn_68 : decode cX5_keepWhatGoesOn 68 = .ok (.getfield 21, 3) := by decide +kernel
theorem dX5_keepWhatGoesOn_71 : decode cX5_keepWhatGoesOn 71 = .ok (.iload_n 1, 1) := by decide +kernel
theorem dX5_keepWhatGoesOn_72 : decode cX5_keepWhatGoesOn 72 = .ok (.dup2, 1) := by decide +kernel
theorem dX5_keepWhatGoesOn_73 : decode cX5_keepWhatGoesOn 73 = .ok (.iaload, 1) := by decide +kernel
theorem dX5_keepWhatGoesOn_74 : decode cX5_keepWhatGoesOn 74 = .ok (.iconst 1, 1) := by decide +kernel
theorem dX5_keepWhatGoesOn_75 : decode cX5_keepWhatGoesOn 75 = .ok (.iload_n 2, 1) := by decide +kernel
theorem dX5_keepWhatGoesOn_76 : decode cX5_keepWhatGoesOn 76 = .ok (.ishl, 1) := by decide +kernel
theorem dX5_keepWhatGoesOn_77 : decode cX5_keepWhatGoesOn 77 = .ok (.iconst (-1), 1) := by decide +kernel
theorem dX5_keepWhatGoesOn_78 : decode cX5_keepWhatGoesOn 78 = .ok (.ixor, 1) := by decide +kernel
theorem dX5_keepWhatGoesOn_79 : decode cX5_keepWhatGoesOn 79 = .ok (.iand, 1) := by decide +kernel
theorem dX5_keepWhatGoesOn_80 : decode cX5_keepWhatGoesOn 80 = .ok (.iastore, 1) := by decide +kernel
theorem dX5_keepWhatGoesOn_81 : decode cX5_keepWhatGoesOn 81 = .ok (.iinc 2 1, 3) := by decide +kernel
theorem dX5_keepWhatGoesOn_84 : decode cX5_keepWhatGoesOn 84 = .ok (.goto (-71), 3) := by decide +kernel
theorem dX5_keepWhatGoesOn_87 : decode cX5_keepWhatGoesOn 87 = .ok (.iinc 1 (-1), 3) := by decide +kernel
theorem dX5_keepWhatGoesOn_90 : decode cX5_keepWhatGoesOn 90 = .ok (.goto (-83), 3) := by decide +kernel
theorem dX5_keepWhatGoesOn_93 : decode cX5_keepWhatGoesOn 93 = .ok (.return_, 1) := by decide +kernel
theorem dX5_whoMay_0 : decode cX5_whoMay 0 = .ok (.iload_n 1, 1) := by decide +kernel
theorem dX5_whoMay_1 : decode cX5_whoMay 1 = .ok (.ifCond .lt 20, 3) := by decide +kernel
theorem dX5_whoMay_4 : decode cX5_whoMay 4 = .ok (.iload_n 1, 1) := by decide +kernel
theorem dX5_whoMay_5 : decode cX5_whoMay 5 = .ok (.aload_n 0, 1) := by decide +kernel
theorem dX5_whoMay_6 : decode cX5_whoMay 6 = .ok (.getfield 52, 3) := by decide +kernel
theorem dX5_whoMay_9 : decode cX5_whoMay 9 = .ok (.if_icmp .ge 12, 3) := by decide +kernel
theorem dX5_whoMay_12 : decode cX5_whoMay 12 = .ok (.aload_n 0, 1) := by decide +kernel
theorem dX5_whoMay_13 : decode cX5_whoMay 13 = .ok (.getfield 21, 3) := by decide +kernel
theorem dX5_whoMay_16 : decode cX5_whoMay 16 = .ok (.iload_n 1, 1) := by decide +kernel
theorem dX5_whoMay_17 : decode cX5_whoMay 17 = .ok (.iaload, 1) := by decide +kernel
theorem dX5_whoMay_18 : decode cX5_whoMay 18 = .ok (.goto 4, 3) := by decide +kernel
theorem dX5_whoMay_21 : decode cX5_whoMay 21 = .ok (.iconst 0, 1) := by decide +kernel
theorem dX5_whoMay_22 : decode cX5_whoMay 22 = .ok (.ireturn, 1) := by decide +kernel
theorem dX5_firstMissed_0 : decode cX5_firstMissed 0 = .ok (.iload_n 1, 1) := by decide +kernel
theorem dX5_firstMissed_1 : decode cX5_firstMissed 1 = .ok (.ifCond .lt 21, 3) := by decide +kernel
theorem dX5_firstMissed_4 : decode cX5_firstMissed 4 = .ok (.iload_n 1, 1) := by decide +kernel
theorem dX5_firstMissed_5 : decode cX5_firstMissed 5 = .ok (.aload_n 0, 1) := by decide +kernel
theorem dX5_firstMissed_6 : decode cX5_firstMissed 6 = .ok (.getfield 24, 3) := by decide +kernel
theorem dX5_firstMissed_9 : decode cX5_firstMissed 9 = .ok (.arraylength, 1) := by decide +kernel
theorem dX5_firstMissed_10 : decode cX5_firstMissed 10 = .ok (.if_icmp .ge 12, 3) := by decide +kernel
theorem dX5_firstMissed_13 : decode cX5_firstMissed 13 = .ok (.aload_n 0, 1) := by decide +kernel
theorem dX5_firstMissed_14 : decode cX5_firstMissed 14 = .ok (.getfield 24, 3) := by decide +kernel
theorem dX5_firstMissed_17 : decode cX5_firstMissed 17 = .ok (.iload_n 1, 1) := by decide +kernel
theorem dX5_firstMissed_18 : decode cX5_firstMissed 18 = .ok (.iaload, 1) := by decide +kernel
theorem dX5_firstMissed_19 : decode cX5_firstMissed 19 = .ok (.goto 4, 3) := by decide +kernel
theorem dX5_firstMissed_22 : decode cX5_firstMissed 22 = .ok (.iconst (-1), 1) := by decide +kernel
theorem dX5_firstMissed_23 : decode cX5_firstMissed 23 = .ok (.ireturn, 1) := by decide +kernel
theorem dX5_judgeRest_0 : decode cX5_judgeRest 0 = .ok (.aload_n 0, 1) := by decide +kernel
theorem dX5_judgeRest_1 : decode cX5_judgeRest 1 = .ok (.getfield 27, 3) := by decide +kernel
theorem dX5_judgeRest_4 : decode cX5_judgeRest 4 = .ok (.aload_n 0, 1) := by decide +kernel
theorem dX5_judgeRest_5 : decode cX5_judgeRest 5 = .ok (.getfield 52, 3) := by decide +kernel
theorem dX5_judgeRest_8 : decode cX5_judgeRest 8 = .ok (.iconst 1, 1) := by decide +kernel
theorem dX5_judgeRest_9 : decode cX5_judgeRest 9 = .ok (.iadd, 1) := by decide +kernel
theorem dX5_judgeRest_10 : decode cX5_judgeRest 10 = .ok (.iconst 1, 1) := by decide +kernel
theorem dX5_judgeRest_11 : decode cX5_judgeRest 11 = .ok (.bastore, 1) := by decide +kernel
theorem dX5_judgeRest_12 : decode cX5_judgeRest 12 = .ok (.aload_n 0, 1) := by decide +kernel
theorem dX5_judgeRest_13 : decode cX5_judgeRest 13 = .ok (.getfield 27, 3) := by decide +kernel
theorem dX5_judgeRest_16 : decode cX5_judgeRest 16 = .ok (.aload_n 0, 1) := by decide +kernel
theorem dX5_judgeRest_17 : decode cX5_judgeRest 17 = .ok (.getfield 52, 3) := by decide +kernel
theorem dX5_judgeRest_20 : decode cX5_judgeRest 20 = .ok (.iconst 1, 1) := by decide +kernel
theorem dX5_judgeRest_21 : decode cX5_judgeRest 21 = .ok (.bastore, 1) := by decide +kernel
theorem dX5_judgeRest_22 : decode cX5_judgeRest 22 = .ok (.aload_n 0, 1) := by decide +kernel
theorem dX5_judgeRest_23 : decode cX5_judgeRest 23 = .ok (.getfield 52, 3) := by decide +kernel
theorem dX5_judgeRest_26 : decode cX5_judgeRest 26 = .ok (.iconst 1, 1) := by decide +kernel
theorem dX5_judgeRest_27 : decode cX5_judgeRest 27 = .ok (.isub, 1) := by decide +kernel
theorem dX5_judgeRest_28 : decode cX5_judgeRest 28 = .ok (.istore_n 2, 1) := by decide +kernel
theorem dX5_judgeRest_29 : decode cX5_judgeRest 29 = .ok (.iload_n 2, 1) := by decide +kernel
theorem dX5_judgeRest_30 : decode cX5_judgeRest 30 = .ok (.iconst 2, 1) := by decide +kernel
theorem dX5_judgeRest_31 : decode cX5_judgeRest 31 = .ok (.if_icmp .lt 57, 3) := by decide +kernel
theorem dX5_judgeRest_34 : decode cX5_judgeRest 34 = .ok (.aload_n 0, 1) := by decide +kernel
theorem dX5_judgeRest_35 : decode cX5_judgeRest 35 = .ok (.getfield 27, 3) := by decide +kernel
theorem dX5_judgeRest_38 : decode cX5_judgeRest 38 = .ok (.iload_n 2, 1) := by decide +kernel
theorem dX5_judgeRest_39 : decode cX5_judgeRest 39 = .ok (.aload_n 0, 1) := by decide +kernel
theorem dX5_judgeRest_40 : decode cX5_judgeRest 40 = .ok (.getfield 27, 3) := by decide +kernel
theorem dX5_judgeRest_43 : decode cX5_judgeRest 43 = .ok (.iload_n 2, 1) := by decide +kernel
theorem dX5_judgeRest_44 : decode cX5_judgeRest 44 = .ok (.iconst 1, 1) := by decide +kernel
theorem dX5_judgeRest_45 : decode cX5_judgeRest 45 = .ok (.iadd, 1) := by decide +kernel
theorem dX5_judgeRest_46 : decode cX5_judgeRest 46 = .ok (.baload, 1) := by decide +kernel
theorem dX5_judgeRest_47 : decode cX5_judgeRest 47 = .ok (.ifCond .eq 33, 3) := by decide +kernel
theorem dX5_judgeRest_50 : decode cX5_judgeRest 50 = .ok (.aload_n 0, 1) := by decide +kernel
theorem dX5_judgeRest_51 : decode cX5_judgeRest 51 = .ok (.iload_n 2, 1) := by decide +kernel
theorem dX5_judgeRest_52 : decode cX5_judgeRest 52 = .ok (.iconst 1, 1) := by decide +kernel
theorem dX5_judgeRest_53 : decode cX5_judgeRest 53 = .ok (.iadd, 1) := by decide +kernel
theorem dX5_judgeRest_54 : decode cX5_judgeRest 54 = .ok (.aload_n 0, 1) := by decide +kernel
theorem dX5_judgeRest_55 : decode cX5_judgeRest 55 = .ok (.getfield 9, 3) := by decide +kernel
theorem dX5_judgeRest_58 : decode cX5_judgeRest 58 = .ok (.iload_n 2, 1) := by decide +kernel
theorem dX5_judgeRest_59 : decode cX5_judgeRest 59 = .ok (.iaload, 1) := by decide +kernel
theorem dX5_judgeRest_60 : decode cX5_judgeRest 60 = .ok (.iload_n 1, 1) := by decide +kernel
theorem dX5_judgeRest_61 : decode cX5_judgeRest 61 = .ok (.iload_n 1, 1) := by decide +kernel
theorem dX5_judgeRest_62 : decode cX5_judgeRest 62 = .ok (.aload_n 0, 1) := by decide +kernel
theorem dX5_judgeRest_63 : decode cX5_judgeRest 63 = .ok (.getfield 9, 3) := by decide +kernel
theorem dX5_judgeRest_66 : decode cX5_judgeRest 66 = .ok (.iload_n 2, 1) := by decide +kernel
theorem dX5_judgeRest_67 : decode cX5_judgeRest 67 = .ok (.iconst 1, 1) := by decide +kernel
theorem dX5_judgeRest_68 : decode cX5_judgeRest 68 = .ok (.isub, 1) := by decide +kernel
theorem dX5_judgeRest_69 : decode cX5_judgeRest 69 = .ok (.iaload, 1) := by decide +kernel
theorem dX5_judgeRest_70 : decode cX5_judgeRest 70 = .ok (.invokevirtual 101, 3) := by decide +kernel
theorem dX5_judgeRest_73 : decode cX5_judgeRest 73 = .ok (.ifCond .eq 7, 3) := by decide +kernel
theorem dX5_judgeRest_76 : decode cX5_judgeRest 76 = .ok (.iconst 1, 1) := by decide +kernel
theorem dX5_judgeRest_77 : decode cX5_judgeRest 77 = .ok (.goto 4, 3) := by decide +kernel
theorem dX5_judgeRest_80 : decode cX5_judgeRest 80 = .ok (.iconst 0, 1) := by decide +kernel
theorem dX5_judgeRest_81 : decode cX5_judgeRest 81 = .ok (.bastore, 1) := by decide +kernel
theorem dX5_judgeRest_82 : decode cX5_judgeRest 82 = .ok (.iinc 2 (-1), 3) := by decide +kernel
theorem dX5_judgeRest_85 : decode cX5_judgeRest 85 = .ok (.goto (-56), 3) := by decide +kernel
theorem dX5_judgeRest_88 : decode cX5_judgeRest 88 = .ok (.return_, 1) := by decide +kernel
theorem dX5_note_0 : decode cX5_note 0 = .ok (.aload_n 0, 1) := by decide +kernel
theorem dX5_note_1 : decode cX5_note 1 = .ok (.getfield 108, 3) := by decide +kernel
theorem dX5_note_4 : decode cX5_note 4 = .ok (.ifCond .ne 24, 3) := by decide +kernel
theorem dX5_note_7 : decode cX5_note 7 = .ok (.aload_n 0, 1) := by decide +kernel
theorem dX5_note_8 : decode cX5_note 8 = .ok (.getfield 24, 3) := by decide +kernel
theorem dX5_note_11 : decode cX5_note 11 = .ok (.iconst 0, 1) := by decide +kernel
theorem dX5_note_12 : decode cX5_note 12 = .ok (.iload_n 1, 1) := by decide +kernel
theorem dX5_note_13 : decode cX5_note 13 = .ok (.iastore, 1) := by decide +kernel
theorem dX5_note_14 : decode cX5_note 14 = .ok (.aload_n 0, 1) := by decide +kernel
theorem dX5_note_15 : decode cX5_note 15 = .ok (.getfield 24, 3) := by decide +kernel
theorem dX5_note_18 : decode cX5_note 18 = .ok (.iconst 1, 1) := by decide +kernel
theorem dX5_note_19 : decode cX5_note 19 = .ok (.iload_n 2, 1) := by decide +kernel
theorem dX5_note_20 : decode cX5_note 20 = .ok (.iastore, 1) := by decide +kernel
theorem dX5_note_21 : decode cX5_note 21 = .ok (.aload_n 0, 1) := by decide +kernel
theorem dX5_note_22 : decode cX5_note 22 = .ok (.getfield 24, 3) := by decide +kernel
theorem dX5_note_25 : decode cX5_note 25 = .ok (.iconst 2, 1) := by decide +kernel
theorem dX5_note_26 : decode cX5_note 26 = .ok (.iload_n 3, 1) := by decide +kernel
theorem dX5_note_27 : decode cX5_note 27 = .ok (.iastore, 1) := by decide +kernel
theorem dX5_note_28 : decode cX5_note 28 = .ok (.aload_n 0, 1) := by decide +kernel
theorem dX5_note_29 : decode cX5_note 29 = .ok (.dup, 1) := by decide +kernel
theorem dX5_note_30 : decode cX5_note 30 = .ok (.getfield 108, 3) := by decide +kernel
theorem dX5_note_33 : decode cX5_note 33 = .ok (.iconst 1, 1) := by decide +kernel
theorem dX5_note_34 : decode cX5_note 34 = .ok (.iadd, 1) := by decide +kernel
theorem dX5_note_35 : decode cX5_note 35 = .ok (.putfield 108, 3) := by decide +kernel
theorem dX5_note_38 : decode cX5_note 38 = .ok (.return_, 1) := by decide +kernel
theorem dX5_missWithin_0 : decode cX5_missWithin 0 = .ok (.iconst 1, 1) := by decide +kernel
theorem dX5_missWithin_1 : decode cX5_missWithin 1 = .ok (.istore 5, 2) := by decide +kernel
theorem dX5_missWithin_3 : decode cX5_missWithin 3 = .ok (.iload 5, 2) := by decide +kernel
theorem dX5_missWithin_5 : decode cX5_missWithin 5 = .ok (.aload_n 0, 1) := by decide +kernel
theorem dX5_missWithin_6 : decode cX5_missWithin 6 = .ok (.getfield 9, 3) := by decide +kernel
theorem dX5_missWithin_9 : decode cX5_missWithin 9 = .ok (.iload_n 1, 1) := by decide +kernel
theorem dX5_missWithin_10 : decode cX5_missWithin 10 = .ok (.iaload, 1) := by decide +kernel
theorem dX5_missWithin_11 : decode cX5_missWithin 11 = .ok (.if_icmp .ge 126, 3) := by decide +kernel
theorem dX5_missWithin_14 : decode cX5_missWithin 14 = .ok (.aload_n 0, 1) := by decide +kernel
theorem dX5_missWithin_15 : decode cX5_missWithin 15 = .ok (.getfield 9, 3) := by decide +kernel
theorem dX5_missWithin_18 : decode cX5_missWithin 18 = .ok (.iload_n 1, 1) := by decide +kernel
theorem dX5_missWithin_19 : decode cX5_missWithin 19 = .ok (.iaload, 1) := by decide +kernel
theorem dX5_missWithin_20 : decode cX5_missWithin 20 = .ok (.iload 5, 2) := by decide +kernel
theorem dX5_missWithin_22 : decode cX5_missWithin 22 = .ok (.isub, 1) := by decide +kernel
theorem dX5_missWithin_23 : decode cX5_missWithin 23 = .ok (.istore 6, 2) := by decide +kernel
theorem dX5_missWithin_25 : decode cX5_missWithin 25 = .ok (.iload_n 1, 1) := by decide +kernel
theorem dX5_missWithin_26 : decode cX5_missWithin 26 = .ok (.iconst 1, 1) := by decide +kernel
theorem dX5_missWithin_27 : decode cX5_missWithin 27 = .ok (.iadd, 1) := by decide +kernel
theorem dX5_missWithin_28 : decode cX5_missWithin 28 = .ok (.aload_n 0, 1) := by decide +kernel
theorem dX5_missWithin_29 : decode cX5_missWithin 29 = .ok (.getfield 52, 3) := by decide +kernel
theorem dX5_missWithin_32 : decode cX5_missWithin 32 = .ok (.if_icmp .ge 25, 3) := by decide +kernel
theorem dX5_missWithin_35 : decode cX5_missWithin 35 = .ok (.aload_n 0, 1) := by decide +kernel
theorem dX5_missWithin_36 : decode cX5_missWithin 36 = .ok (.iload_n 1, 1) := by decide +kernel
theorem dX5_missWithin_37 : decode cX5_missWithin 37 = .ok (.iconst 2, 1) := by decide +kernel
theorem dX5_missWithin_38 : decode cX5_missWithin 38 = .ok (.iadd, 1) := by decide +kernel
theorem dX5_missWithin_39 : decode cX5_missWithin 39 = .ok (.aload_n 0, 1) := by decide +kernel
theorem dX5_missWithin_40 : decode cX5_missWithin 40 = .ok (.getfield 9, 3) := by decide +kernel
theorem dX5_missWithin_43 : decode cX5_missWithin 43 = .ok (.iload_n 1, 1) := by decide +kernel
theorem dX5_missWithin_44 : decode cX5_missWithin 44 = .ok (.iconst 1, 1) := by decide +kernel
theorem dX5_missWithin_45 : decode cX5_missWithin 45 = .ok (.iadd, 1) := by decide +kernel
theorem dX5_missWithin_46 : decode cX5_missWithin 46 = .ok (.iaload, 1) := by decide +kernel
theorem dX5_missWithin_47 : decode cX5_missWithin 47 = .ok (.iload_n 2, 1) := by decide +kernel
theorem dX5_missWithin_48 : decode cX5_missWithin 48 = .ok (.iload_n 2, 1) := by decide +kernel
theorem dX5_missWithin_49 : decode cX5_missWithin 49 = .ok (.iload 6, 2) := by decide +kernel
theorem dX5_missWithin_51 : decode cX5_missWithin 51 = .ok (.invokevirtual 101, 3) := by decide +kernel
theorem dX5_missWithin_54 : decode cX5_missWithin 54 = .ok (.ifCond .eq 7, 3) := by decide +kernel
theorem dX5_missWithin_57 : decode cX5_missWithin 57 = .ok (.iconst 1, 1) := by decide +kernel
theorem dX5_missWithin_58 : decode cX5_missWithin 58 = .ok (.goto 4, 3) := by decide +kernel
theorem dX5_missWithin_61 : decode cX5_missWithin 61 = .ok (.iconst 0, 1) := by decide +kernel
theorem dX5_missWithin_62 : decode cX5_missWithin 62 = .ok (.istore 7, 2) := by decide +kernel
theorem dX5_missWithin_64 : decode cX5_missWithin 64 = .ok (.iconst 0, 1) := by decide +kernel
theorem dX5_missWithin_65 : decode cX5_missWithin 65 = .ok (.istore 8, 2) := by decide +kernel
theorem dX5_missWithin_67 : decode cX5_missWithin 67 = .ok (.iload 7, 2) := by decide +kernel
theorem dX5_missWithin_69 : decode cX5_missWithin 69 = .ok (.ifCond .eq 62, 3) := by decide +kernel
theorem dX5_missWithin_72 : decode cX5_missWithin 72 = .ok (.iload 8, 2) := by decide +kernel
theorem dX5_missWithin_74 : decode cX5_missWithin 74 = .ok (.aload_n 0, 1) := by decide +kernel
theorem dX5_missWithin_75 : decode cX5_missWithin 75 = .ok (.getfield 38, 3) := by decide +kernel
theorem dX5_missWithin_78 : decode cX5_missWithin 78 = .ok (.getfield 100, 3) := by decide +kernel
theorem dX5_missWithin_81 : decode cX5_missWithin 81 = .ok (.if_icmp .ge 50, 3) := by decide +kernel
theorem dX5_missWithin_84 : decode cX5_missWithin 84 = .ok (.aload_n 0, 1) := by decide +kernel
theorem dX5_missWithin_85 : decode cX5_missWithin 85 = .ok (.iload_n 1, 1) := by decide +kernel
theorem dX5_missWithin_86 : decode cX5_missWithin 86 = .ok (.iload 5, 2) := by decide +kernel
theorem dX5_missWithin_88 : decode cX5_missWithin 88 = .ok (.iload 8, 2) := by decide +kernel
theorem dX5_missWithin_90 : decode cX5_missWithin 90 = .ok (.iload_n 3, 1) := by decide +kernel
theorem dX5_missWithin_91 : decode cX5_missWithin 91 = .ok (.iload 4, 2) := by decide +kernel
theorem dX5_missWithin_93 : decode cX5_missWithin 93 = .ok (.invokevirtual 101, 3) := by decide +kernel
theorem dX5_missWithin_96 : decode cX5_missWithin 96 = .ok (.ifCond .eq 29, 3) := by decide +kernel
theorem dX5_missWithin_99 : decode cX5_missWithin 99 = .ok (.aload_n 0, 1) := by decide +kernel
theorem dX5_missWithin_100 : decode cX5_missWithin 100 = .ok (.iload_n 1, 1) := by decide +kernel
theorem dX5_missWithin_101 : decode cX5_missWithin 101 = .ok (.iconst 1, 1) := by decide +kernel
theorem dX5_missWithin_102 : decode cX5_missWithin 102 = .ok (.iadd, 1) := by decide +kernel
theorem dX5_missWithin_103 : decode cX5_missWithin 103 = .ok (.iload 6, 2) := by decide +kernel
theorem dX5_missWithin_105 : decode cX5_missWithin 105 = .ok (.iload_n 2, 1) := by decide +kernel
theorem dX5_missWithin_106 : decode cX5_missWithin 106 = .ok (.iload 8, 2) := by decide +kernel
theorem dX5_missWithin_108 : decode cX5_missWithin 108 = .ok (.iload 5, 2) := by decide +kernel
theorem dX5_missWithin_110 : decode cX5_missWithin 110 = .ok (.invokevirtual 101, 3) := by decide +kernel
theorem dX5_missWithin_113 : decode cX5_missWithin 113 = .ok (.ifCond .eq 12, 3) := by decide +kernel
theorem dX5_missWithin_116 : decode cX5_missWithin 116 = .ok (.aload_n 0, 1) := by decide +kernel
theorem dX5_missWithin_117 : decode cX5_missWithin 117 = .ok (.iload_n 1, 1) := by decide +kernel
theorem dX5_missWithin_118 : decode cX5_missWithin 118 = .ok (.iload 5, 2) := by decide +kernel
theorem dX5_missWithin_120 : decode cX5_missWithin 120 = .ok (.iload 8, 2) := by decide +kernel
theorem dX5_missWithin_122 : decode cX5_missWithin 122 = .ok (.invokevirtual 119, 3) := by decide +kernel
theorem dX5_missWithin_125 : decode cX5_missWithin 125 = .ok (.iinc 8 1, 3) := by decide +kernel
theorem dX5_missWithin_128 : decode cX5_missWithin 128 = .ok (.goto (-61), 3) := by decide +kernel
theorem dX5_missWithin_131 : decode cX5_missWithin 131 = .ok (.iinc 5 1, 3) := by decide +kernel
theorem dX5_missWithin_134 : decode cX5_missWithin 134 = .ok (.goto (-131), 3) := by decide +kernel
theorem dX5_missWithin_137 : decode cX5_missWithin 137 = .ok (.return_, 1) := by decide +kernel
theorem dX5_waysToMiss_0 : decode cX5_waysToMiss 0 = .ok (.aload_n 0, 1) := by decide +kernel
theorem dX5_waysToMiss_1 : decode cX5_waysToMiss 1 = .ok (.iconst 0, 1) := by decide +kernel
theorem dX5_waysToMiss_2 : decode cX5_waysToMiss 2 = .ok (.putfield 108, 3) := by decide +kernel
theorem dX5_waysToMiss_5 : decode cX5_waysToMiss 5 = .ok (.aload_n 0, 1) := by decide +kernel
theorem dX5_waysToMiss_6 : decode cX5_waysToMiss 6 = .ok (.iload_n 1, 1) := by decide +kernel
theorem dX5_waysToMiss_7 : decode cX5_waysToMiss 7 = .ok (.invokevirtual 111, 3) := by decide +kernel
theorem dX5_waysToMiss_10 : decode cX5_waysToMiss 10 = .ok (.aload_n 0, 1) := by decide +kernel
theorem dX5_waysToMiss_11 : decode cX5_waysToMiss 11 = .ok (.getfield 79, 3) := by decide +kernel
theorem dX5_waysToMiss_14 : decode cX5_waysToMiss 14 = .ok (.istore_n 2, 1) := by decide +kernel
theorem dX5_waysToMiss_15 : decode cX5_waysToMiss 15 = .ok (.aload_n 0, 1) := by decide +kernel
theorem dX5_waysToMiss_16 : decode cX5_waysToMiss 16 = .ok (.getfield 85, 3) := by decide +kernel
theorem dX5_waysToMiss_19 : decode cX5_waysToMiss 19 = .ok (.istore_n 3, 1) := by decide +kernel
theorem dX5_waysToMiss_20 : decode cX5_waysToMiss 20 = .ok (.iconst 0, 1) := by decide +kernel
theorem dX5_waysToMiss_21 : decode cX5_waysToMiss 21 = .ok (.istore 4, 2) := by decide +kernel
theorem dX5_waysToMiss_23 : decode cX5_waysToMiss 23 = .ok (.iload 4, 2) := by decide +kernel
theorem dX5_waysToMiss_25 : decode cX5_waysToMiss 25 = .ok (.aload_n 0, 1) := by decide +kernel
theorem dX5_waysToMiss_26 : decode cX5_waysToMiss 26 = .ok (.getfield 52, 3) := by decide +kernel
theorem dX5_waysToMiss_29 : decode cX5_waysToMiss 29 = .ok (.if_icmp .ge 64, 3) := by decide +kernel
theorem dX5_waysToMiss_32 : decode cX5_waysToMiss 32 = .ok (.aload_n 0, 1) := by decide +kernel
theorem dX5_waysToMiss_33 : decode cX5_waysToMiss 33 = .ok (.getfield 27, 3) := by decide +kernel
theorem dX5_waysToMiss_36 : decode cX5_waysToMiss 36 = .ok (.iload 4, 2) := by decide +kernel
theorem dX5_waysToMiss_38 : decode cX5_waysToMiss 38 = .ok (.iconst 2, 1) := by decide +kernel
theorem dX5_waysToMiss_39 : decode cX5_waysToMiss 39 = .ok (.iadd, 1) := by decide +kernel
theorem dX5_waysToMiss_40 : decode cX5_waysToMiss 40 = .ok (.baload, 1) := by decide +kernel
theorem dX5_waysToMiss_41 : decode cX5_waysToMiss 41 = .ok (.ifCond .eq 12, 3) := by decide +kernel
theorem dX5_waysToMiss_44 : decode cX5_waysToMiss 44 = .ok (.aload_n 0, 1) := by decide +kernel
theorem dX5_waysToMiss_45 : decode cX5_waysToMiss 45 = .ok (.iload 4, 2) := by decide +kernel
theorem dX5_waysToMiss_47 : decode cX5_waysToMiss 47 = .ok (.iload_n 1, 1) := by decide +kernel
theorem dX5_waysToMiss_48 : decode cX5_waysToMiss 48 = .ok (.iload_n 2, 1) := by decide +kernel
theorem dX5_waysToMiss_49 : decode cX5_waysToMiss 49 = .ok (.iload_n 3, 1) := by decide +kernel
theorem dX5_waysToMiss_50 : decode cX5_waysToMiss 50 = .ok (.invokevirtual 115, 3) := by decide +kernel
theorem dX5_waysToMiss_53 : decode cX5_waysToMiss 53 = .ok (.aload_n 0, 1) := by decide +kernel
theorem dX5_waysToMiss_54 : decode cX5_waysToMiss 54 = .ok (.iload 4, 2) := by decide +kernel
theorem dX5_waysToMiss_56 : decode cX5_waysToMiss 56 = .ok (.aload_n 0, 1) := by decide +kernel
theorem dX5_waysToMiss_57 : decode cX5_waysToMiss 57 = .ok (.getfield 9, 3) := by decide +kernel
theorem dX5_waysToMiss_60 : decode cX5_waysToMiss 60 = .ok (.iload 4, 2) := by decide +kernel
theorem dX5_waysToMiss_62 : decode cX5_waysToMiss 62 = .ok (.iaload, 1) := by decide +kernel
theorem dX5_waysToMiss_63 : decode cX5_waysToMiss 63 = .ok (.iload_n 1, 1) := by decide +kernel
theorem dX5_waysToMiss_64 : decode cX5_waysToMiss 64 = .ok (.iload_n 2, 1) := by decide +kernel
theorem dX5_waysToMiss_65 : decode cX5_waysToMiss 65 = .ok (.iload_n 3, 1) := by decide +kernel
theorem dX5_waysToMiss_66 : decode cX5_waysToMiss 66 = .ok (.invokevirtual 101, 3) := by decide +kernel
theorem dX5_waysToMiss_69 : decode cX5_waysToMiss 69 = .ok (.ifCond .ne 8, 3) := by decide +kernel
theorem dX5_waysToMiss_72 : decode cX5_waysToMiss 72 = .ok (.aload_n 0, 1) := by decide +kernel
theorem dX5_waysToMiss_73 : decode cX5_waysToMiss 73 = .ok (.getfield 108, 3) := by decide +kernel
theorem dX5_waysToMiss_76 : decode cX5_waysToMiss 76 = .ok (.ireturn, 1) := by decide +kernel
theorem dX5_waysToMiss_77 : decode cX5_waysToMiss 77 = .ok (.iload_n 1, 1) := by decide +kernel
theorem dX5_waysToMiss_78 : decode cX5_waysToMiss 78 = .ok (.istore_n 2, 1) := by decide +kernel
theorem dX5_waysToMiss_79 : decode cX5_waysToMiss 79 = .ok (.aload_n 0, 1) := by decide +kernel
theorem dX5_waysToMiss_80 : decode cX5_waysToMiss 80 = .ok (.getfield 9, 3) := by decide +kernel
theorem dX5_waysToMiss_83 : decode cX5_waysToMiss 83 = .ok (.iload 4, 2) := by decide +kernel
theorem dX5_waysToMiss_85 : decode cX5_waysToMiss 85 = .ok (.iaload, 1) := by decide +kernel
theorem dX5_waysToMiss_86 : decode cX5_waysToMiss 86 = .ok (.istore_n 3, 1) := by decide +kernel
theorem dX5_waysToMiss_87 : decode cX5_waysToMiss 87 = .ok (.iinc 4 1, 3) := by decide +kernel
theorem dX5_waysToMiss_90 : decode cX5_waysToMiss 90 = .ok (.goto (-67), 3) := by decide +kernel
theorem dX5_waysToMiss_93 : decode cX5_waysToMiss 93 = .ok (.aload_n 0, 1) := by decide +kernel
theorem dX5_waysToMiss_94 : decode cX5_waysToMiss 94 = .ok (.getfield 108, 3) := by decide +kernel
theorem dX5_waysToMiss_97 : decode cX5_waysToMiss 97 = .ok (.ireturn, 1) := by decide +kernel
theorem dX6_begin_0 : decode cX6_begin 0 = .ok (.iconst 0, 1) := by decide +kernel
theorem dX6_begin_1 : decode cX6_begin 1 = .ok (.istore_n 2, 1) := by decide +kernel
theorem dX6_begin_2 : decode cX6_begin 2 = .ok (.iload_n 2, 1) := by decide +kernel
theorem dX6_begin_3 : decode cX6_begin 3 = .ok (.bipush 8, 2) := by decide +kernel
theorem dX6_begin_5 : decode cX6_begin 5 = .ok (.if_icmp .ge 16, 3) := by decide +kernel
theorem dX6_begin_8 : decode cX6_begin 8 = .ok (.aload_n 0, 1) := by decide +kernel
theorem dX6_begin_9 : decode cX6_begin 9 = .ok (.getfield 9, 3) := by decide +kernel
theorem dX6_begin_12 : decode cX6_begin 12 = .ok (.iload_n 2, 1) := by decide +kernel
theorem dX6_begin_13 : decode cX6_begin 13 = .ok (.iconst 0, 1) := by decide +kernel
theorem dX6_begin_14 : decode cX6_begin 14 = .ok (.iastore, 1) := by decide +kernel
theorem dX6_begin_15 : decode cX6_begin 15 = .ok (.iinc 2 1, 3) := by decide +kernel
theorem dX6_begin_18 : decode cX6_begin 18 = .ok (.goto (-16), 3) := by decide +kernel
theorem dX6_begin_21 : decode cX6_begin 21 = .ok (.aload_n 0, 1) := by decide +kernel
theorem dX6_begin_22 : decode cX6_begin 22 = .ok (.aload_n 0, 1) := by decide +kernel
theorem dX6_begin_23 : decode cX6_begin 23 = .ok (.getfield 15, 3) := by decide +kernel
theorem dX6_begin_26 : decode cX6_begin 26 = .ok (.iload_n 1, 1) := by decide +kernel
theorem dX6_begin_27 : decode cX6_begin 27 = .ok (.invokevirtual 47, 3) := by decide +kernel
theorem dX6_begin_30 : decode cX6_begin 30 = .ok (.putfield 27, 3) := by decide +kernel
theorem dX6_begin_33 : decode cX6_begin 33 = .ok (.aload_n 0, 1) := by decide +kernel
theorem dX6_begin_34 : decode cX6_begin 34 = .ok (.iconst 0, 1) := by decide +kernel
theorem dX6_begin_35 : decode cX6_begin 35 = .ok (.putfield 53, 3) := by decide +kernel
theorem dX6_begin_38 : decode cX6_begin 38 = .ok (.aload_n 0, 1) := by decide +kernel
theorem dX6_begin_39 : decode cX6_begin 39 = .ok (.iconst 0, 1) := by decide +kernel
theorem dX6_begin_40 : decode cX6_begin 40 = .ok (.putfield 31, 3) := by decide +kernel
theorem dX6_begin_43 : decode cX6_begin 43 = .ok (.aload_n 0, 1) := by decide +kernel
theorem dX6_begin_44 : decode cX6_begin 44 = .ok (.iconst 0, 1) := by decide +kernel
theorem dX6_begin_45 : decode cX6_begin 45 = .ok (.putfield 56, 3) := by decide +kernel
theorem dX6_begin_48 : decode cX6_begin 48 = .ok (.aload_n 0, 1) := by decide +kernel
theorem dX6_begin_49 : decode cX6_begin 49 = .ok (.bipush 8, 2) := by decide +kernel
theorem dX6_begin_51 : decode cX6_begin 51 = .ok (.putfield 59, 3) := by decide +kernel
theorem dX6_begin_54 : decode cX6_begin 54 = .ok (.aload_n 0, 1) := by decide +kernel
theorem dX6_begin_55 : decode cX6_begin 55 = .ok (.bipush 63, 2) := by decide +kernel
theorem dX6_begin_57 : decode cX6_begin 57 = .ok (.putfield 62, 3) := by decide +kernel
theorem dX6_begin_60 : decode cX6_begin 60 = .ok (.return_, 1) := by decide +kernel
theorem dX7_wish_0 : decode cX7_wish 0 = .ok (.aload_n 0, 1) := by decide +kernel
theorem dX7_wish_1 : decode cX7_wish 1 = .ok (.getfield 21, 3) := by decide +kernel
theorem dX7_wish_4 : decode cX7_wish 4 = .ok (.getfield 49, 3) := by decide +kernel
theorem dX7_wish_7 : decode cX7_wish 7 = .ok (.ifCond .eq 21, 3) := by decide +kernel
theorem dX7_wish_10 : decode cX7_wish 10 = .ok (.aload_n 0, 1) := by decide +kernel
theorem dX7_wish_11 : decode cX7_wish 11 = .ok (.iload_n 1, 1) := by decide +kernel
theorem dX7_wish_12 : decode cX7_wish 12 = .ok (.iload_n 2, 1) := by decide +kernel
theorem dX7_wish_13 : decode cX7_wish 13 = .ok (.iload_n 3, 1) := by decide +kernel
theorem dX7_wish_14 : decode cX7_wish 14 = .ok (.iload 4, 2) := by decide +kernel
theorem dX7_wish_16 : decode cX7_wish 16 = .ok (.invokevirtual 53, 3) := by decide +kernel
theorem dX7_wish_19 : decode cX7_wish 19 = .ok (.iload 6, 2) := by decide +kernel
theorem dX7_wish_21 : decode cX7_wish 21 = .ok (.if_icmp .ne 7, 3) := by decide +kernel
theorem dX7_wish_24 : decode cX7_wish 24 = .ok (.iconst 1, 1) := by decide +kernel
theorem dX7_wish_25 : decode cX7_wish 25 = .ok (.goto 4, 3) := by decide +kernel
theorem dX7_wish_28 : decode cX7_wish 28 = .ok (.iconst 0, 1) := by decide +kernel
theorem dX7_wish_29 : decode cX7_wish 29 = .ok (.istore 7, 2) := by decide +kernel
theorem dX7_wish_31 : decode cX7_wish 31 = .ok (.aload_n 0, 1) := by decide +kernel
theorem dX7_wish_32 : decode cX7_wish 32 = .ok (.iload_n 1, 1) := by decide +kernel
theorem dX7_wish_33 : decode cX7_wish 33 = .ok (.iload_n 2, 1) := by decide +kernel
theorem dX7_wish_34 : decode cX7_wish 34 = .ok (.iload_n 3, 1) := by decide +kernel
theorem dX7_wish_35 : decode cX7_wish 35 = .ok (.iload 4, 2) := by decide +kernel
theorem dX7_wish_37 : decode cX7_wish 37 = .ok (.iload_n 2, 1) := by decide +kernel
theorem dX7_wish_38 : decode cX7_wish 38 = .ok (.iconst 0, 1) := by decide +kernel
theorem dX7_wish_39 : decode cX7_wish 39 = .ok (.invokevirtual 42, 3) := by decide +kernel
theorem dX7_wish_42 : decode cX7_wish 42 = .ok (.aload_n 0, 1) := by decide +kernel
theorem dX7_wish_43 : decode cX7_wish 43 = .ok (.getfield 9, 3) := by decide +kernel
theorem dX7_wish_46 : decode cX7_wish 46 = .ok (.bipush 7, 2) := by decide +kernel
theorem dX7_wish_48 : decode cX7_wish 48 = .ok (.iload 5, 2) := by decide +kernel
theorem dX7_wish_50 : decode cX7_wish 50 = .ok (.iastore, 1) := by decide +kernel
theorem dX7_wish_51 : decode cX7_wish 51 = .ok (.aload_n 0, 1) := by decide +kernel
theorem dX7_wish_52 : decode cX7_wish 52 = .ok (.getfield 9, 3) := by decide +kernel
theorem dX7_wish_55 : decode cX7_wish 55 = .ok (.bipush 8, 2) := by decide +kernel
theorem dX7_wish_57 : decode cX7_wish 57 = .ok (.iload 6, 2) := by decide +kernel
theorem dX7_wish_59 : decode cX7_wish 59 = .ok (.iastore, 1) := by decide +kernel
theorem dX7_wish_60 : decode cX7_wish 60 = .ok (.aload_n 0, 1) := by decide +kernel
theorem dX7_wish_61 : decode cX7_wish 61 = .ok (.getfield 9, 3) := by decide +kernel
theorem dX7_wish_64 : decode cX7_wish 64 = .ok (.bipush 9, 2) := by decide +kernel
theorem dX7_wish_66 : decode cX7_wish 66 = .ok (.iload 7, 2) := by decide +kernel
theorem dX7_wish_68 : decode cX7_wish 68 = .ok (.ifCond .eq 7, 3) := by decide +kernel
theorem dX7_wish_71 : decode cX7_wish 71 = .ok (.iconst 1, 1) := by decide +kernel
theorem dX7_wish_72 : decode cX7_wish 72 = .ok (.goto 4, 3) := by decide +kernel
theorem dX7_wish_75 : decode cX7_wish 75 = .ok (.iconst 0, 1) := by decide +kernel
theorem dX7_wish_76 : decode cX7_wish 76 = .ok (.iastore, 1) := by decide +kernel
theorem dX7_wish_77 : decode cX7_wish 77 = .ok (.aload_n 0, 1) := by decide +kernel
theorem dX7_wish_78 : decode cX7_wish 78 = .ok (.bipush 114, 2) := by decide +kernel
theorem dX7_wish_80 : decode cX7_wish 80 = .ok (.sipush 1000, 3) := by decide +kernel
theorem dX7_wish_83 : decode cX7_wish 83 = .ok (.invokevirtual 46, 3) := by decide +kernel
theorem dX7_wish_86 : decode cX7_wish 86 = .ok (.ireturn, 1) := by decide +kernel
theorem dX6_mostEager_0 : decode cX6_mostEager 0 = .ok (.iconst (-1), 1) := by decide +kernel
theorem dX6_mostEager_1 : decode cX6_mostEager 1 = .ok (.istore_n 3, 1) := by decide +kernel
theorem dX6_mostEager_2 : decode cX6_mostEager 2 = .ok (.iconst 0, 1) := by decide +kernel
theorem dX6_mostEager_3 : decode cX6_mostEager 3 = .ok (.istore 4, 2) := by decide +kernel
theorem dX6_mostEager_5 : decode cX6_mostEager 5 = .ok (.iconst 0, 1) := by decide +kernel
theorem dX6_mostEager_6 : decode cX6_mostEager 6 = .ok (.istore 5, 2) := by decide +kernel
theorem dX6_mostEager_8 : decode cX6_mostEager 8 = .ok (.iload 5, 2) := by decide +kernel
theorem dX6_mostEager_10 : decode cX6_mostEager 10 = .ok (.aload_n 0, 1) := by decide +kernel
theorem dX6_mostEager_11 : decode cX6_mostEager 11 = .ok (.getfield 15, 3) := by decide +kernel
theorem dX6_mostEager_14 : decode cX6_mostEager 14 = .ok (.getfield 65, 3) := by decide +kernel
theorem dX6_mostEager_17 : decode cX6_mostEager 17 = .ok (.if_icmp .ge 94, 3) := by decide +kernel
theorem dX6_mostEager_20 : decode cX6_mostEager 20 = .ok (.aload_n 0, 1) := by decide +kernel
theorem dX6_mostEager_21 : decode cX6_mostEager 21 = .ok (.getfield 15, 3) := by decide +kernel
theorem dX6_mostEager_24 : decode cX6_mostEager 24 = .ok (.iload 5, 2) := by decide +kernel
theorem dX6_mostEager_26 : decode cX6_mostEager 26 = .ok (.invokevirtual 68, 3) := by decide +kernel
theorem dX6_mostEager_29 : decode cX6_mostEager 29 = .ok (.aload_n 0, 1) := by decide +kernel
theorem dX6_mostEager_30 : decode cX6_mostEager 30 = .ok (.getfield 9, 3) := by decide +kernel
theorem dX6_mostEager_33 : decode cX6_mostEager 33 = .ok (.iload 5, 2) := by decide +kernel
theorem dX6_mostEager_35 : decode cX6_mostEager 35 = .ok (.iaload, 1) := by decide +kernel
theorem dX6_mostEager_36 : decode cX6_mostEager 36 = .ok (.isub, 1) := by decide +kernel
theorem dX6_mostEager_37 : decode cX6_mostEager 37 = .ok (.istore 6, 2) := by decide +kernel
theorem dX6_mostEager_39 : decode cX6_mostEager 39 = .ok (.iload_n 1, 1) := by decide +kernel
theorem dX6_mostEager_40 : decode cX6_mostEager 40 = .ok (.iload 5, 2) := by decide +kernel
theorem dX6_mostEager_42 : decode cX6_mostEager 42 = .ok (.ishr, 1) := by decide +kernel
theorem dX6_mostEager_43 : decode cX6_mostEager 43 = .ok (.iconst 1, 1) := by decide +kernel
theorem dX6_mostEager_44 : decode cX6_mostEager 44 = .ok (.iand, 1) := by decide +kernel
theorem dX6_mostEager_45 : decode cX6_mostEager 45 = .ok (.ifCond .eq 60, 3) := by decide +kernel
theorem dX6_mostEager_48 : decode cX6_mostEager 48 = .ok (.iload 6, 2) := by decide +kernel
theorem dX6_mostEager_50 : decode cX6_mostEager 50 = .ok (.ifCond .le 55, 3) := by decide +kernel
theorem dX6_mostEager_53 : decode cX6_mostEager 53 = .ok (.aload_n 0, 1) := by decide +kernel
theorem dX6_mostEager_54 : decode cX6_mostEager 54 = .ok (.getfield 19, 3) := by decide +kernel
theorem dX6_mostEager_57 : decode cX6_mostEager 57 = .ok (.iload_n 2, 1) := by decide +kernel
theorem dX6_mostEager_58 : decode cX6_mostEager 58 = .ok (.iload 5, 2) := by decide +kernel
theorem dX6_mostEager_60 : decode cX6_mostEager 60 = .ok (.aload_n 0, 1) := by decide +kernel
theorem dX6_mostEager_61 : decode cX6_mostEager 61 = .ok (.getfield 59, 3) := by decide +kernel
theorem dX6_mostEager_64 : decode cX6_mostEager 64 = .ok (.aload_n 0, 1) := by decide +kernel
theorem dX6_mostEager_65 : decode cX6_mostEager 65 = .ok (.getfield 62, 3) := by decide +kernel
theorem dX6_mostEager_68 : decode cX6_mostEager 68 = .ok (.iload 6, 2) := by decide +kernel
theorem dX6_mostEager_70 : decode cX6_mostEager 70 = .ok (.aload_n 0, 1) := by decide +kernel
theorem dX6_mostEager_71 : decode cX6_mostEager 71 = .ok (.getfield 15, 3) := by decide +kernel
theorem dX6_mostEager_74 : decode cX6_mostEager 74 = .ok (.iload 5, 2) := by decide +kernel
theorem dX6_mostEager_76 : decode cX6_mostEager 76 = .ok (.aload_n 0, 1) := by decide +kernel
theorem dX6_mostEager_77 : decode cX6_mostEager 77 = .ok (.getfield 9, 3) := by decide +kernel
theorem dX6_mostEager_80 : decode cX6_mostEager 80 = .ok (.iload 5, 2) := by decide +kernel
theorem dX6_mostEager_82 : decode cX6_mostEager 82 = .ok (.iaload, 1) := by decide +kernel
theorem dX6_mostEager_83 : decode cX6_mostEager 83 = .ok (.invokevirtual 71, 3) := by decide +kernel
theorem dX6_mostEager_86 : decode cX6_mostEager 86 = .ok (.invokevirtual 74, 3) := by decide +kernel
theorem dX6_mostEager_89 : decode cX6_mostEager 89 = .ok (.istore 7, 2) := by decide +kernel
theorem dX6_mostEager_91 : decode cX6_mostEager 91 = .ok (.iload 7, 2) := by decide +kernel
theorem dX6_mostEager_93 : decode cX6_mostEager 93 = .ok (.iload 4, 2) := by decide +kernel
theorem dX6_mostEager_95 : decode cX6_mostEager 95 = .ok (.if_icmp .le 10, 3) := by decide +kernel
theorem dX6_mostEager_98 : decode cX6_mostEager 98 = .ok (.iload 7, 2) := by decide +kernel
theorem dX6_mostEager_100 : decode cX6_mostEager 100 = .ok (.istore 4, 2) := by decide +kernel
theorem dX6_mostEager_102 : decode cX6_mostEager 102 = .ok (.iload 5, 2) := by decide +kernel
theorem dX6_mostEager_104 : decode cX6_mostEager 104 = .ok (.istore_n 3, 1) := by decide +kernel
theorem dX6_mostEager_105 : decode cX6_mostEager 105 = .ok (.iinc 5 1, 3) := by decide +kernel
theorem dX6_mostEager_108 : decode cX6_mostEager 108 = .ok (.goto (-100), 3) := by decide +kernel
theorem dX6_mostEager_111 : decode cX6_mostEager 111 = .ok (.iload_n 3, 1) := by decide +kernel
theorem dX6_mostEager_112 : decode cX6_mostEager 112 = .ok (.ireturn, 1) := by decide +kernel
theorem dX6_speak_0 : decode cX6_speak 0 = .ok (.aload_n 0, 1) := by decide +kernel
theorem dX6_speak_1 : decode cX6_speak 1 = .ok (.dup, 1) := by decide +kernel
theorem dX6_speak_2 : decode cX6_speak 2 = .ok (.getfield 31, 3) := by decide +kernel
theorem dX6_speak_5 : decode cX6_speak 5 = .ok (.iconst 1, 1) := by decide +kernel
theorem dX6_speak_6 : decode cX6_speak 6 = .ok (.iadd, 1) := by decide +kernel
theorem dX6_speak_7 : decode cX6_speak 7 = .ok (.putfield 31, 3) := by decide +kernel
theorem dX6_speak_10 : decode cX6_speak 10 = .ok (.aload_n 0, 1) := by decide +kernel
theorem dX6_speak_11 : decode cX6_speak 11 = .ok (.getfield 19, 3) := by decide +kernel
theorem dX6_speak_14 : decode cX6_speak 14 = .ok (.iload_n 2, 1) := by decide +kernel
theorem dX6_speak_15 : decode cX6_speak 15 = .ok (.iload_n 1, 1) := by decide +kernel
theorem dX6_speak_16 : decode cX6_speak 16 = .ok (.aload_n 0, 1) := by decide +kernel
theorem dX6_speak_17 : decode cX6_speak 17 = .ok (.getfield 59, 3) := by decide +kernel
theorem dX6_speak_20 : decode cX6_speak 20 = .ok (.aload_n 0, 1) := by decide +kernel
theorem dX6_speak_21 : decode cX6_speak 21 = .ok (.getfield 62, 3) := by decide +kernel
theorem dX6_speak_24 : decode cX6_speak 24 = .ok (.invokevirtual 80, 3) := by decide +kernel
theorem dX6_speak_27 : decode cX6_speak 27 = .ok (.aload_n 0, 1) := by decide +kernel
theorem dX6_speak_28 : decode cX6_speak 28 = .ok (.getfield 15, 3) := by decide +kernel
theorem dX6_speak_31 : decode cX6_speak 31 = .ok (.iload_n 1, 1) := by decide +kernel
theorem dX6_speak_32 : decode cX6_speak 32 = .ok (.aload_n 0, 1) := by decide +kernel
theorem dX6_speak_33 : decode cX6_speak 33 = .ok (.getfield 9, 3) := by decide +kernel
theorem dX6_speak_36 : decode cX6_speak 36 = .ok (.iload_n 1, 1) := by decide +kernel
theorem dX6_speak_37 : decode cX6_speak 37 = .ok (.iaload, 1) := by decide +kernel
theorem dX6_speak_38 : decode cX6_speak 38 = .ok (.invokevirtual 71, 3) := by decide +kernel
theorem dX6_speak_41 : decode cX6_speak 41 = .ok (.if_icmp .ne 38, 3) := by decide +kernel
theorem dX6_speak_44 : decode cX6_speak 44 = .ok (.aload_n 0, 1) := by decide +kernel
theorem dX6_speak_45 : decode cX6_speak 45 = .ok (.getfield 9, 3) := by decide +kernel
theorem dX6_speak_48 : decode cX6_speak 48 = .ok (.iload_n 1, 1) := by decide +kernel
theorem dX6_speak_49 : decode cX6_speak 49 = .ok (.dup2, 1) := by decide +kernel
theorem dX6_speak_50 : decode cX6_speak 50 = .ok (.iaload, 1) := by decide +kernel
theorem dX6_speak_51 : decode cX6_speak 51 = .ok (.iconst 1, 1) := by decide +kernel
theorem dX6_speak_52 : decode cX6_speak 52 = .ok (.iadd, 1) := by decide +kernel
theorem dX6_speak_53 : decode cX6_speak 53 = .ok (.iastore, 1) := by decide +kernel
theorem dX6_speak_54 : decode cX6_speak 54 = .ok (.aload_n 0, 1) := by decide +kernel
theorem dX6_speak_55 : decode cX6_speak 55 = .ok (.dup, 1) := by decide +kernel
theorem dX6_speak_56 : decode cX6_speak 56 = .ok (.getfield 53, 3) := by decide +kernel
theorem dX6_speak_59 : decode cX6_speak 59 = .ok (.iconst 1, 1) := by decide +kernel
theorem dX6_speak_60 : decode cX6_speak 60 = .ok (.iadd, 1) := by decide +kernel
theorem dX6_speak_61 : decode cX6_speak 61 = .ok (.putfield 53, 3) := by decide +kernel
theorem dX6_speak_64 : decode cX6_speak 64 = .ok (.aload_n 0, 1) := by decide +kernel
theorem dX6_speak_65 : decode cX6_speak 65 = .ok (.dup, 1) := by decide +kernel
theorem dX6_speak_66 : decode cX6_speak 66 = .ok (.getfield 27, 3) := by decide +kernel
theorem dX6_speak_69 : decode cX6_speak 69 = .ok (.iconst 1, 1) := by decide +kernel
theorem dX6_speak_70 : decode cX6_speak 70 = .ok (.isub, 1) := by decide +kernel
theorem dX6_speak_71 : decode cX6_speak 71 = .ok (.putfield 27, 3) := by decide +kernel
theorem dX6_speak_74 : decode cX6_speak 74 = .ok (.aload_n 0, 1) := by decide +kernel
theorem dX6_speak_75 : decode cX6_speak 75 = .ok (.iload_n 3, 1) := by decide +kernel
theorem dX6_speak_76 : decode cX6_speak 76 = .ok (.putfield 56, 3) := by decide +kernel
theorem dX6_speak_79 : decode cX6_speak 79 = .ok (.aload_n 0, 1) := by decide +kernel
theorem dX6_speak_80 : decode cX6_speak 80 = .ok (.iload_n 1, 1) := by decide +kernel
theorem dX6_speak_81 : decode cX6_speak 81 = .ok (.putfield 59, 3) := by decide +kernel
theorem dX6_speak_84 : decode cX6_speak 84 = .ok (.aload_n 0, 1) := by decide +kernel
theorem dX6_speak_85 : decode cX6_speak 85 = .ok (.iload_n 2, 1) := by decide +kernel
theorem dX6_speak_86 : decode cX6_speak 86 = .ok (.putfield 62, 3) := by decide +kernel
theorem dX6_speak_89 : decode cX6_speak 89 = .ok (.return_, 1) := by decide +kernel
theorem dX6_play_0 : decode cX6_play 0 = .ok (.aload_n 0, 1) := by decide +kernel
theorem dX6_play_1 : decode cX6_play 1 = .ok (.iload_n 1, 1) := by decide +kernel
theorem dX6_play_2 : decode cX6_play 2 = .ok (.invokevirtual 23, 3) := by decide +kernel
theorem dX6_play_5 : decode cX6_play 5 = .ok (.iconst 0, 1) := by decide +kernel
theorem dX6_play_6 : decode cX6_play 6 = .ok (.istore_n 3, 1) := by decide +kernel
theorem dX6_play_7 : decode cX6_play 7 = .ok (.iconst 0, 1) := by decide +kernel
theorem dX6_play_8 : decode cX6_play 8 = .ok (.istore 4, 2) := by decide +kernel
theorem dX6_play_10 : decode cX6_play 10 = .ok (.iload 4, 2) := by decide +kernel
theorem dX6_play_12 : decode cX6_play 12 = .ok (.iload_n 2, 1) := by decide +kernel
theorem dX6_play_13 : decode cX6_play 13 = .ok (.if_icmp .ge 78, 3) := by decide +kernel
theorem dX6_play_16 : decode cX6_play 16 = .ok (.aload_n 0, 1) := by decide +kernel
theorem dX6_play_17 : decode cX6_play 17 = .ok (.getfield 27, 3) := by decide +kernel
theorem dX6_play_20 : decode cX6_play 20 = .ok (.ifCond .le 71, 3) := by decide +kernel
theorem dX6_play_23 : decode cX6_play 23 = .ok (.aload_n 0, 1) := by decide +kernel
theorem dX6_play_24 : decode cX6_play 24 = .ok (.getfield 31, 3) := by decide +kernel
theorem dX6_play_27 : decode cX6_play 27 = .ok (.ifCond .ne 8, 3) := by decide +kernel
theorem dX6_play_30 : decode cX6_play 30 = .ok (.bipush 63, 2) := by decide +kernel
theorem dX6_play_32 : decode cX6_play 32 = .ok (.goto 12, 3) := by decide +kernel
theorem dX6_play_35 : decode cX6_play 35 = .ok (.bipush 63, 2) := by decide +kernel
theorem dX6_play_37 : decode cX6_play 37 = .ok (.iload 4, 2) := by decide +kernel
theorem dX6_play_39 : decode cX6_play 39 = .ok (.iload_n 3, 1) := by decide +kernel
theorem dX6_play_40 : decode cX6_play 40 = .ok (.isub, 1) := by decide +kernel
theorem dX6_play_41 : decode cX6_play 41 = .ok (.invokestatic 34, 3) := by decide +kernel
theorem dX6_play_44 : decode cX6_play 44 = .ok (.istore 5, 2) := by decide +kernel
theorem dX6_play_46 : decode cX6_play 46 = .ok (.aload_n 0, 1) := by decide +kernel
theorem dX6_play_47 : decode cX6_play 47 = .ok (.iload_n 1, 1) := by decide +kernel
theorem dX6_play_48 : decode cX6_play 48 = .ok (.iload 5, 2) := by decide +kernel
theorem dX6_play_50 : decode cX6_play 50 = .ok (.invokevirtual 40, 3) := by decide +kernel
theorem dX6_play_53 : decode cX6_play 53 = .ok (.istore 6, 2) := by decide +kernel
theorem dX6_play_55 : decode cX6_play 55 = .ok (.iload 6, 2) := by decide +kernel
theorem dX6_play_57 : decode cX6_play 57 = .ok (.iconst (-1), 1) := by decide +kernel
theorem dX6_play_58 : decode cX6_play 58 = .ok (.if_icmp .eq 19, 3) := by decide +kernel
theorem dX6_play_61 : decode cX6_play 61 = .ok (.aload_n 0, 1) := by decide +kernel
theorem dX6_play_62 : decode cX6_play 62 = .ok (.iload 6, 2) := by decide +kernel
theorem dX6_play_64 : decode cX6_play 64 = .ok (.iload 5, 2) := by decide +kernel
theorem dX6_play_66 : decode cX6_play 66 = .ok (.iload 4, 2) := by decide +kernel
theorem dX6_play_68 : decode cX6_play 68 = .ok (.invokevirtual 43, 3) := by decide +kernel
theorem dX6_play_71 : decode cX6_play 71 = .ok (.iload 4, 2) := by decide +kernel
theorem dX6_play_73 : decode cX6_play 73 = .ok (.istore_n 3, 1) := by decide +kernel
theorem dX6_play_74 : decode cX6_play 74 = .ok (.goto 11, 3) := by decide +kernel
theorem dX6_play_77 : decode cX6_play 77 = .ok (.iload 5, 2) := by decide +kernel
theorem dX6_play_79 : decode cX6_play 79 = .ok (.bipush 63, 2) := by decide +kernel
theorem dX6_play_81 : decode cX6_play 81 = .ok (.if_icmp .ne 4, 3) := by decide +kernel
theorem dX6_play_84 : decode cX6_play 84 = .ok (.return_, 1) := by decide +kernel
theorem dX6_play_85 : decode cX6_play 85 = .ok (.iinc 4 1, 3) := by decide +kernel
theorem dX6_play_88 : decode cX6_play 88 = .ok (.goto (-78), 3) := by decide +kernel
theorem dX6_play_91 : decode cX6_play 91 = .ok (.return_, 1) := by decide +kernel
theorem dX7_clauses_0 : decode cX7_clauses 0 = .ok (.aload_n 0, 1) := by decide +kernel
theorem dX7_clauses_1 : decode cX7_clauses 1 = .ok (.getfield 21, 3) := by decide +kernel
theorem dX7_clauses_4 : decode cX7_clauses 4 = .ok (.getfield 32, 3) := by decide +kernel
theorem dX7_clauses_7 : decode cX7_clauses 7 = .ok (.ireturn, 1) := by decide +kernel
theorem dX7_takeSpare_0 : decode cX7_takeSpare 0 = .ok (.aload_n 0, 1) := by decide +kernel
theorem dX7_takeSpare_1 : decode cX7_takeSpare 1 = .ok (.getfield 21, 3) := by decide +kernel
theorem dX7_takeSpare_4 : decode cX7_takeSpare 4 = .ok (.astore_n 1, 1) := by decide +kernel
theorem dX7_takeSpare_5 : decode cX7_takeSpare 5 = .ok (.aload_n 0, 1) := by decide +kernel
theorem dX7_takeSpare_6 : decode cX7_takeSpare 6 = .ok (.aload_n 0, 1) := by decide +kernel
theorem dX7_takeSpare_7 : decode cX7_takeSpare 7 = .ok (.getfield 25, 3) := by decide +kernel
theorem dX7_takeSpare_10 : decode cX7_takeSpare 10 = .ok (.putfield 21, 3) := by decide +kernel
theorem dX7_takeSpare_13 : decode cX7_takeSpare 13 = .ok (.aload_n 0, 1) := by decide +kernel
theorem dX7_takeSpare_14 : decode cX7_takeSpare 14 = .ok (.aload_n 1, 1) := by decide +kernel
theorem dX7_takeSpare_15 : decode cX7_takeSpare 15 = .ok (.putfield 25, 3) := by decide +kernel
theorem dX7_takeSpare_18 : decode cX7_takeSpare 18 = .ok (.return_, 1) := by decide +kernel
theorem dX8_leastGap_0 : decode cX8_leastGap 0 = .ok (.aload_n 0, 1) := by decide +kernel
theorem dX8_leastGap_1 : decode cX8_leastGap 1 = .ok (.iload_n 3, 1) := by decide +kernel
theorem dX8_leastGap_2 : decode cX8_leastGap 2 = .ok (.iconst 1, 1) := by decide +kernel
theorem dX8_leastGap_3 : decode cX8_leastGap 3 = .ok (.isub, 1) := by decide +kernel
theorem dX8_leastGap_4 : decode cX8_leastGap 4 = .ok (.invokevirtual 9, 3) := by decide +kernel
theorem dX8_leastGap_7 : decode cX8_leastGap 7 = .ok (.istore 4, 2) := by decide +kernel
theorem dX8_leastGap_9 : decode cX8_leastGap 9 = .ok (.iconst 0, 1) := by decide +kernel
theorem dX8_leastGap_10 : decode cX8_leastGap 10 = .ok (.istore 5, 2) := by decide +kernel
theorem dX8_leastGap_12 : decode cX8_leastGap 12 = .ok (.iconst 1, 1) := by decide +kernel
theorem dX8_leastGap_13 : decode cX8_leastGap 13 = .ok (.istore 6, 2) := by decide +kernel
theorem dX8_leastGap_15 : decode cX8_leastGap 15 = .ok (.iload 6, 2) := by decide +kernel
theorem dX8_leastGap_17 : decode cX8_leastGap 17 = .ok (.iload_n 1, 1) := by decide +kernel
theorem dX8_leastGap_18 : decode cX8_leastGap 18 = .ok (.if_icmp .gt 42, 3) := by decide +kernel
theorem dX8_leastGap_21 : decode cX8_leastGap 21 = .ok (.aload_n 0, 1) := by decide +kernel
theorem dX8_leastGap_22 : decode cX8_leastGap 22 = .ok (.iload 6, 2) := by decide +kernel
theorem dX8_leastGap_24 : decode cX8_leastGap 24 = .ok (.iconst 1, 1) := by decide +kernel
theorem dX8_leastGap_25 : decode cX8_leastGap 25 = .ok (.isub, 1) := by decide +kernel
theorem dX8_leastGap_26 : decode cX8_leastGap 26 = .ok (.invokevirtual 9, 3) := by decide +kernel
theorem dX8_leastGap_29 : decode cX8_leastGap 29 = .ok (.istore 7, 2) := by decide +kernel
theorem dX8_leastGap_31 : decode cX8_leastGap 31 = .ok (.iload 7, 2) := by decide +kernel
theorem dX8_leastGap_33 : decode cX8_leastGap 33 = .ok (.iload 4, 2) := by decide +kernel
theorem dX8_leastGap_35 : decode cX8_leastGap 35 = .ok (.if_icmp .gt 16, 3) := by decide +kernel
theorem dX8_leastGap_38 : decode cX8_leastGap 38 = .ok (.iload 7, 2) := by decide +kernel
theorem dX8_leastGap_40 : decode cX8_leastGap 40 = .ok (.iload 4, 2) := by decide +kernel
theorem dX8_leastGap_42 : decode cX8_leastGap 42 = .ok (.if_icmp .ne 12, 3) := by decide +kernel
theorem dX8_leastGap_45 : decode cX8_leastGap 45 = .ok (.iload 6, 2) := by decide +kernel
theorem dX8_leastGap_47 : decode cX8_leastGap 47 = .ok (.iload_n 3, 1) := by decide +kernel
theorem dX8_leastGap_48 : decode cX8_leastGap 48 = .ok (.if_icmp .ge 6, 3) := by decide +kernel
theorem dX8_leastGap_51 : decode cX8_leastGap 51 = .ok (.iinc 5 1, 3) := by decide +kernel
theorem dX8_leastGap_54 : decode cX8_leastGap 54 = .ok (.iinc 6 1, 3) := by decide +kernel
theorem dX8_leastGap_57 : decode cX8_leastGap 57 = .ok (.goto (-42), 3) := by decide +kernel
theorem dX8_leastGap_60 : decode cX8_leastGap 60 = .ok (.iconst 1, 1) := by decide +kernel
theorem dX8_leastGap_61 : decode cX8_leastGap 61 = .ok (.iload_n 2, 1) := by decide +kernel
theorem dX8_leastGap_62 : decode cX8_leastGap 62 = .ok (.iload 5, 2) := by decide +kernel
theorem dX8_leastGap_64 : decode cX8_leastGap 64 = .ok (.imul, 1) := by decide +kernel
theorem dX8_leastGap_65 : decode cX8_leastGap 65 = .ok (.iadd, 1) := by decide +kernel
theorem dX8_leastGap_66 : decode cX8_leastGap 66 = .ok (.ireturn, 1) := by decide +kernel
theorem dX8_leastSum_0 : decode cX8_leastSum 0 = .ok (.iconst 0, 1) := by decide +kernel
theorem dX8_leastSum_1 : decode cX8_leastSum 1 = .ok (.istore_n 3, 1) := by decide +kernel
theorem dX8_leastSum_2 : decode cX8_leastSum 2 = .ok (.iconst 1, 1) := by decide +kernel
theorem dX8_leastSum_3 : decode cX8_leastSum 3 = .ok (.istore 4, 2) := by decide +kernel
theorem dX8_leastSum_5 : decode cX8_leastSum 5 = .ok (.iload 4, 2) := by decide +kernel
theorem dX8_leastSum_7 : decode cX8_leastSum 7 = .ok (.iload_n 1, 1) := by decide +kernel
theorem dX8_leastSum_8 : decode cX8_leastSum 8 = .ok (.if_icmp .gt 29, 3) := by decide +kernel
theorem dX8_leastSum_11 : decode cX8_leastSum 11 = .ok (.iload_n 3, 1) := by decide +kernel
theorem dX8_leastSum_12 : decode cX8_leastSum 12 = .ok (.aload_n 0, 1) := by decide +kernel
theorem dX8_leastSum_13 : decode cX8_leastSum 13 = .ok (.iload 4, 2) := by decide +kernel
theorem dX8_leastSum_15 : decode cX8_leastSum 15 = .ok (.iconst 1, 1) := by decide +kernel
theorem dX8_leastSum_16 : decode cX8_leastSum 16 = .ok (.isub, 1) := by decide +kernel
theorem dX8_leastSum_17 : decode cX8_leastSum 17 = .ok (.invokevirtual 9, 3) := by decide +kernel
theorem dX8_leastSum_20 : decode cX8_leastSum 20 = .ok (.aload_n 0, 1) := by decide +kernel
theorem dX8_leastSum_21 : decode cX8_leastSum 21 = .ok (.iload_n 1, 1) := by decide +kernel
theorem dX8_leastSum_22 : decode cX8_leastSum 22 = .ok (.iload_n 2, 1) := by decide +kernel
theorem dX8_leastSum_23 : decode cX8_leastSum 23 = .ok (.iload 4, 2) := by decide +kernel
theorem dX8_leastSum_25 : decode cX8_leastSum 25 = .ok (.invokestatic 15, 3) := by decide +kernel
theorem dX8_leastSum_28 : decode cX8_leastSum 28 = .ok (.imul, 1) := by decide +kernel
theorem dX8_leastSum_29 : decode cX8_leastSum 29 = .ok (.iadd, 1) := by decide +kernel
theorem dX8_leastSum_30 : decode cX8_leastSum 30 = .ok (.istore_n 3, 1) := by decide +kernel
theorem dX8_leastSum_31 : decode cX8_leastSum 31 = .ok (.iinc 4 1, 3) := by decide +kernel
theorem dX8_leastSum_34 : decode cX8_leastSum 34 = .ok (.goto (-29), 3) := by decide +kernel
theorem dX8_leastSum_37 : decode cX8_leastSum 37 = .ok (.iload_n 3, 1) := by decide +kernel
theorem dX8_leastSum_38 : decode cX8_leastSum 38 = .ok (.ireturn, 1) := by decide +kernel
theorem dX8_meaningOf_0 : decode cX8_meaningOf 0 = .ok (.iconst 1, 1) := by decide +kernel
theorem dX8_meaningOf_1 : decode cX8_meaningOf 1 = .ok (.istore_n 3, 1) := by decide +kernel
theorem dX8_meaningOf_2 : decode cX8_meaningOf 2 = .ok (.iload_n 3, 1) := by decide +kernel
theorem dX8_meaningOf_3 : decode cX8_meaningOf 3 = .ok (.iload_n 1, 1) := by decide +kernel
theorem dX8_meaningOf_4 : decode cX8_meaningOf 4 = .ok (.if_icmp .gt 22, 3) := by decide +kernel
theorem dX8_meaningOf_7 : decode cX8_meaningOf 7 = .ok (.aload_n 0, 1) := by decide +kernel
theorem dX8_meaningOf_8 : decode cX8_meaningOf 8 = .ok (.iload_n 3, 1) := by decide +kernel
theorem dX8_meaningOf_9 : decode cX8_meaningOf 9 = .ok (.iconst 1, 1) := by decide +kernel
theorem dX8_meaningOf_10 : decode cX8_meaningOf 10 = .ok (.isub, 1) := by decide +kernel
theorem dX8_meaningOf_11 : decode cX8_meaningOf 11 = .ok (.invokevirtual 9, 3) := by decide +kernel
theorem dX8_meaningOf_14 : decode cX8_meaningOf 14 = .ok (.iload_n 2, 1) := by decide +kernel
theorem dX8_meaningOf_15 : decode cX8_meaningOf 15 = .ok (.if_icmp .ne 5, 3) := by decide +kernel
theorem dX8_meaningOf_18 : decode cX8_meaningOf 18 = .ok (.iload_n 3, 1) := by decide +kernel
theorem dX8_meaningOf_19 : decode cX8_meaningOf 19 = .ok (.ireturn, 1) := by decide +kernel
theorem dX8_meaningOf_20 : decode cX8_meaningOf 20 = .ok (.iinc 3 1, 3) := by decide +kernel
theorem dX8_meaningOf_23 : decode cX8_meaningOf 23 = .ok (.goto (-21), 3) := by decide +kernel
theorem dX8_meaningOf_26 : decode cX8_meaningOf 26 = .ok (.iconst 0, 1) := by decide +kernel
theorem dX8_meaningOf_27 : decode cX8_meaningOf 27 = .ok (.ireturn, 1) := by decide +kernel
theorem dX8_areGaps_0 : decode cX8_areGaps 0 = .ok (.iconst 1, 1) := by decide +kernel
theorem dX8_areGaps_1 : decode cX8_areGaps 1 = .ok (.istore_n 2, 1) := by decide +kernel
theorem dX8_areGaps_2 : decode cX8_areGaps 2 = .ok (.iload_n 2, 1) := by decide +kernel
theorem dX8_areGaps_3 : decode cX8_areGaps 3 = .ok (.iload_n 1, 1) := by decide +kernel
theorem dX8_areGaps_4 : decode cX8_areGaps 4 = .ok (.if_icmp .gt 39, 3) := by decide +kernel
theorem dX8_areGaps_7 : decode cX8_areGaps 7 = .ok (.aload_n 0, 1) := by decide +kernel
theorem dX8_areGaps_8 : decode cX8_areGaps 8 = .ok (.iload_n 2, 1) := by decide +kernel
theorem dX8_areGaps_9 : decode cX8_areGaps 9 = .ok (.iconst 1, 1) := by decide +kernel
theorem dX8_areGaps_10 : decode cX8_areGaps 10 = .ok (.isub, 1) := by decide +kernel
theorem dX8_areGaps_11 : decode cX8_areGaps 11 = .ok (.invokevirtual 9, 3) := by decide +kernel
theorem dX8_areGaps_14 : decode cX8_areGaps 14 = .ok (.istore_n 3, 1) := by decide +kernel
theorem dX8_areGaps_15 : decode cX8_areGaps 15 = .ok (.iload_n 3, 1) := by decide +kernel
theorem dX8_areGaps_16 : decode cX8_areGaps 16 = .ok (.iconst 1, 1) := by decide +kernel
theorem dX8_areGaps_17 : decode cX8_areGaps 17 = .ok (.bipush 63, 2) := by decide +kernel
theorem dX8_areGaps_19 : decode cX8_areGaps 19 = .ok (.invokestatic 21, 3) := by decide +kernel
theorem dX8_areGaps_22 : decode cX8_areGaps 22 = .ok (.ifCond .eq 13, 3) := by decide +kernel
theorem dX8_areGaps_25 : decode cX8_areGaps 25 = .ok (.aload_n 0, 1) := by decide +kernel
theorem dX8_areGaps_26 : decode cX8_areGaps 26 = .ok (.iload_n 1, 1) := by decide +kernel
theorem dX8_areGaps_27 : decode cX8_areGaps 27 = .ok (.iload_n 3, 1) := by decide +kernel
theorem dX8_areGaps_28 : decode cX8_areGaps 28 = .ok (.invokestatic 25, 3) := by decide +kernel
theorem dX8_areGaps_31 : decode cX8_areGaps 31 = .ok (.iload_n 2, 1) := by decide +kernel
theorem dX8_areGaps_32 : decode cX8_areGaps 32 = .ok (.if_icmp .eq 5, 3) := by decide +kernel
theorem dX8_areGaps_35 : decode cX8_areGaps 35 = .ok (.iconst 0, 1) := by decide +kernel
theorem dX8_areGaps_36 : decode cX8_areGaps 36 = .ok (.ireturn, 1) := by decide +kernel
theorem dX8_areGaps_37 : decode cX8_areGaps 37 = .ok (.iinc 2 1, 3) := by decide +kernel
theorem dX8_areGaps_40 : decode cX8_areGaps 40 = .ok (.goto (-38), 3) := by decide +kernel
theorem dX8_areGaps_43 : decode cX8_areGaps 43 = .ok (.iconst 1, 1) := by decide +kernel
theorem dX8_areGaps_44 : decode cX8_areGaps 44 = .ok (.ireturn, 1) := by decide +kernel
theorem dX8_shifted_0 : decode cX8_shifted 0 = .ok (.aload_n 0, 1) := by decide +kernel
theorem dX8_shifted_1 : decode cX8_shifted 1 = .ok (.iload_n 1, 1) := by decide +kernel
theorem dX8_shifted_2 : decode cX8_shifted 2 = .ok (.aload_n 0, 1) := by decide +kernel
theorem dX8_shifted_3 : decode cX8_shifted 3 = .ok (.iload_n 2, 1) := by decide +kernel
theorem dX8_shifted_4 : decode cX8_shifted 4 = .ok (.iconst 1, 1) := by decide +kernel
theorem dX8_shifted_5 : decode cX8_shifted 5 = .ok (.isub, 1) := by decide +kernel
theorem dX8_shifted_6 : decode cX8_shifted 6 = .ok (.invokevirtual 9, 3) := by decide +kernel
theorem dX8_shifted_9 : decode cX8_shifted 9 = .ok (.iload_n 3, 1) := by decide +kernel
theorem dX8_shifted_10 : decode cX8_shifted 10 = .ok (.iadd, 1) := by decide +kernel
theorem dX8_shifted_11 : decode cX8_shifted 11 = .ok (.invokestatic 25, 3) := by decide +kernel
theorem dX8_shifted_14 : decode cX8_shifted 14 = .ok (.ireturn, 1) := by decide +kernel
theorem dX8_firstShifted_0 : decode cX8_firstShifted 0 = .ok (.iconst 1, 1) := by decide +kernel
theorem dX8_firstShifted_1 : decode cX8_firstShifted 1 = .ok (.istore_n 3, 1) := by decide +kernel
theorem dX8_firstShifted_2 : decode cX8_firstShifted 2 = .ok (.iload_n 3, 1) := by decide +kernel
theorem dX8_firstShifted_3 : decode cX8_firstShifted 3 = .ok (.iload_n 1, 1) := by decide +kernel
theorem dX8_firstShifted_4 : decode cX8_firstShifted 4 = .ok (.if_icmp .gt 21, 3) := by decide +kernel
theorem dX8_firstShifted_7 : decode cX8_firstShifted 7 = .ok (.aload_n 0, 1) := by decide +kernel
theorem dX8_firstShifted_8 : decode cX8_firstShifted 8 = .ok (.iload_n 1, 1) := by decide +kernel
theorem dX8_firstShifted_9 : decode cX8_firstShifted 9 = .ok (.iload_n 3, 1) := by decide +kernel
theorem dX8_firstShifted_10 : decode cX8_firstShifted 10 = .ok (.iload_n 2, 1) := by decide +kernel
theorem dX8_firstShifted_11 : decode cX8_firstShifted 11 = .ok (.invokestatic 29, 3) := by decide +kernel
theorem dX8_firstShifted_14 : decode cX8_firstShifted 14 = .ok (.ifCond .eq 5, 3) := by decide +kernel
theorem dX8_firstShifted_17 : decode cX8_firstShifted 17 = .ok (.iload_n 3, 1) := by decide +kernel
theorem dX8_firstShifted_18 : decode cX8_firstShifted 18 = .ok (.ireturn, 1) := by decide +kernel
theorem dX8_firstShifted_19 : decode cX8_firstShifted 19 = .ok (.iinc 3 1, 3) := by decide +kernel
theorem dX8_firstShifted_22 : decode cX8_firstShifted 22 = .ok (.goto (-20), 3) := by decide +kernel
theorem dX8_firstShifted_25 : decode cX8_firstShifted 25 = .ok (.iconst 0, 1) := by decide +kernel
theorem dX8_firstShifted_26 : decode cX8_firstShifted 26 = .ok (.ireturn, 1) := by decide +kernel
theorem dX8_howManyShifted_0 : decode cX8_howManyShifted 0 = .ok (.iconst 0, 1) := by decide +kernel
theorem dX8_howManyShifted_1 : decode cX8_howManyShifted 1 = .ok (.istore_n 3, 1) := by decide +kernel
theorem dX8_howManyShifted_2 : decode cX8_howManyShifted 2 = .ok (.iconst 1, 1) := by decide +kernel
theorem dX8_howManyShifted_3 : decode cX8_howManyShifted 3 = .ok (.istore 4, 2) := by decide +kernel
theorem dX8_howManyShifted_5 : decode cX8_howManyShifted 5 = .ok (.iload 4, 2) := by decide +kernel
theorem dX8_howManyShifted_7 : decode cX8_howManyShifted 7 = .ok (.iload_n 1, 1) := by decide +kernel
theorem dX8_howManyShifted_8 : decode cX8_howManyShifted 8 = .ok (.if_icmp .gt 28, 3) := by decide +kernel
theorem dX8_howManyShifted_11 : decode cX8_howManyShifted 11 = .ok (.iload_n 3, 1) := by decide +kernel
theorem dX8_howManyShifted_12 : decode cX8_howManyShifted 12 = .ok (.aload_n 0, 1) := by decide +kernel
theorem dX8_howManyShifted_13 : decode cX8_howManyShifted 13 = .ok (.iload_n 1, 1) := by decide +kernel
theorem dX8_howManyShifted_14 : decode cX8_howManyShifted 14 = .ok (.iload 4, 2) := by decide +kernel
theorem dX8_howManyShifted_16 : decode cX8_howManyShifted 16 = .ok (.iload_n 2, 1) := by decide +kernel
theorem dX8_howManyShifted_17 : decode cX8_howManyShifted 17 = .ok (.invokestatic 29, 3) := by decide +kernel
theorem dX8_howManyShifted_20 : decode cX8_howManyShifted 20 = .ok (.ifCond .eq 7, 3) := by decide +kernel
theorem dX8_howManyShifted_23 : decode cX8_howManyShifted 23 = .ok (.iconst 1, 1) := by decide +kernel
theorem dX8_howManyShifted_24 : decode cX8_howManyShifted 24 = .ok (.goto 4, 3) := by decide +kernel
theorem dX8_howManyShifted_27 : decode cX8_howManyShifted 27 = .ok (.iconst 0, 1) := by decide +kernel
theorem dX8_howManyShifted_28 : decode cX8_howManyShifted 28 = .ok (.iadd, 1) := by decide +kernel
theorem dX8_howManyShifted_29 : decode cX8_howManyShifted 29 = .ok (.istore_n 3, 1) := by decide +kernel
theorem dX8_howManyShifted_30 : decode cX8_howManyShifted 30 = .ok (.iinc 4 1, 3) := by decide +kernel
theorem dX8_howManyShifted_33 : decode cX8_howManyShifted 33 = .ok (.goto (-28), 3) := by decide +kernel
theorem dX8_howManyShifted_36 : decode cX8_howManyShifted 36 = .ok (.iload_n 3, 1) := by decide +kernel
theorem dX8_howManyShifted_37 : decode cX8_howManyShifted 37 = .ok (.ireturn, 1) := by decide +kernel
theorem dX8_howManyAlike_0 : decode cX8_howManyAlike 0 = .ok (.aload_n 0, 1) := by decide +kernel
theorem dX8_howManyAlike_1 : decode cX8_howManyAlike 1 = .ok (.iload_n 1, 1) := by decide +kernel
theorem dX8_howManyAlike_2 : decode cX8_howManyAlike 2 = .ok (.iconst 1, 1) := by decide +kernel
theorem dX8_howManyAlike_3 : decode cX8_howManyAlike 3 = .ok (.invokestatic 32, 3) := by decide +kernel
theorem dX8_howManyAlike_6 : decode cX8_howManyAlike 6 = .ok (.aload_n 0, 1) := by decide +kernel
theorem dX8_howManyAlike_7 : decode cX8_howManyAlike 7 = .ok (.iload_n 1, 1) := by decide +kernel
theorem dX8_howManyAlike_8 : decode cX8_howManyAlike 8 = .ok (.iconst (-1), 1) := by decide +kernel
theorem dX8_howManyAlike_9 : decode cX8_howManyAlike 9 = .ok (.invokestatic 32, 3) := by decide +kernel
theorem dX8_howManyAlike_12 : decode cX8_howManyAlike 12 = .ok (.imul, 1) := by decide +kernel
theorem dX8_howManyAlike_13 : decode cX8_howManyAlike 13 = .ok (.ireturn, 1) := by decide +kernel
theorem dX8_firstAlike_0 : decode cX8_firstAlike 0 = .ok (.aload_n 0, 1) := by decide +kernel
theorem dX8_firstAlike_1 : decode cX8_firstAlike 1 = .ok (.iload_n 1, 1) := by decide +kernel
theorem dX8_firstAlike_2 : decode cX8_firstAlike 2 = .ok (.iconst 1, 1) := by decide +kernel
theorem dX8_firstAlike_3 : decode cX8_firstAlike 3 = .ok (.invokestatic 35, 3) := by decide +kernel
theorem dX8_firstAlike_6 : decode cX8_firstAlike 6 = .ok (.istore_n 3, 1) := by decide +kernel
theorem dX8_firstAlike_7 : decode cX8_firstAlike 7 = .ok (.aload_n 0, 1) := by decide +kernel
theorem dX8_firstAlike_8 : decode cX8_firstAlike 8 = .ok (.iload_n 1, 1) := by decide +kernel
theorem dX8_firstAlike_9 : decode cX8_firstAlike 9 = .ok (.iconst (-1), 1) := by decide +kernel
theorem dX8_firstAlike_10 : decode cX8_firstAlike 10 = .ok (.invokestatic 35, 3) := by decide +kernel
theorem dX8_firstAlike_13 : decode cX8_firstAlike 13 = .ok (.istore 4, 2) := by decide +kernel
theorem dX8_firstAlike_15 : decode cX8_firstAlike 15 = .ok (.iload_n 3, 1) := by decide +kernel
theorem dX8_firstAlike_16 : decode cX8_firstAlike 16 = .ok (.ifCond .eq 8, 3) := by decide +kernel
theorem dX8_firstAlike_19 : decode cX8_firstAlike 19 = .ok (.iload 4, 2) := by decide +kernel
theorem dX8_firstAlike_21 : decode cX8_firstAlike 21 = .ok (.ifCond .ne 6, 3) := by decide +kernel
theorem dX8_firstAlike_24 : decode cX8_firstAlike 24 = .ok (.bipush (-3), 2) := by decide +kernel
theorem dX8_firstAlike_26 : decode cX8_firstAlike 26 = .ok (.ireturn, 1) := by decide +kernel
theorem dX8_firstAlike_27 : decode cX8_firstAlike 27 = .ok (.iload_n 2, 1) := by decide +kernel
theorem dX8_firstAlike_28 : decode cX8_firstAlike 28 = .ok (.tableswitch 41 0 2 #[28, 30, 33], 28) := by decide +kernel
theorem dX8_firstAlike_56 : decode cX8_firstAlike 56 = .ok (.iload_n 3, 1) := by decide +kernel
theorem dX8_firstAlike_57 : decode cX8_firstAlike 57 = .ok (.ireturn, 1) := by decide +kernel
theorem dX8_firstAlike_58 : decode cX8_firstAlike 58 = .ok (.iload 4, 2) := by decide +kernel
theorem dX8_firstAlike_60 : decode cX8_firstAlike 60 = .ok (.ireturn, 1) := by decide +kernel
theorem dX8_firstAlike_61 : decode cX8_firstAlike 61 = .ok (.aload_n 0, 1) := by decide +kernel
theorem dX8_firstAlike_62 : decode cX8_firstAlike 62 = .ok (.iload_n 1, 1) := by decide +kernel
theorem dX8_firstAlike_63 : decode cX8_firstAlike 63 = .ok (.iload_n 3, 1) := by decide +kernel
theorem dX8_firstAlike_64 : decode cX8_firstAlike 64 = .ok (.iconst 1, 1) := by decide +kernel
theorem dX8_firstAlike_65 : decode cX8_firstAlike 65 = .ok (.invokestatic 29, 3) := by decide +kernel
theorem dX8_firstAlike_68 : decode cX8_firstAlike 68 = .ok (.ireturn, 1) := by decide +kernel
theorem dX8_firstAlike_69 : decode cX8_firstAlike 69 = .ok (.aload_n 0, 1) := by decide +kernel
theorem dX8_firstAlike_70 : decode cX8_firstAlike 70 = .ok (.iload_n 1, 1) := by decide +kernel
theorem dX8_firstAlike_71 : decode cX8_firstAlike 71 = .ok (.iload 4, 2) := by decide +kernel
theorem dX8_firstAlike_73 : decode cX8_firstAlike 73 = .ok (.iconst (-1), 1) := by decide +kernel
theorem dX8_firstAlike_74 : decode cX8_firstAlike 74 = .ok (.invokestatic 29, 3) := by decide +kernel
theorem dX8_firstAlike_77 : decode cX8_firstAlike 77 = .ok (.ireturn, 1) := by decide +kernel
theorem dX9_add_0 : decode cX9_add 0 = .ok (.aload_n 0, 1) := by decide +kernel
theorem dX9_add_1 : decode cX9_add 1 = .ok (.getfield 31, 3) := by decide +kernel
theorem dX9_add_4 : decode cX9_add 4 = .ok (.sipush 150, 3) := by decide +kernel
theorem dX9_add_7 : decode cX9_add 7 = .ok (.if_icmp .ge 24, 3) := by decide +kernel
theorem dX9_add_10 : decode cX9_add 10 = .ok (.iload_n 2, 1) := by decide +kernel
theorem dX9_add_11 : decode cX9_add 11 = .ok (.sipush 9999, 3) := by decide +kernel
theorem dX9_add_14 : decode cX9_add 14 = .ok (.if_icmp .gt 17, 3) := by decide +kernel
theorem dX9_add_17 : decode cX9_add 17 = .ok (.iload_n 2, 1) := by decide +kernel
theorem dX9_add_18 : decode cX9_add 18 = .ok (.aload_n 0, 1) := by decide +kernel
theorem dX9_add_19 : decode cX9_add 19 = .ok (.aload_n 0, 1) := by decide +kernel
theorem dX9_add_20 : decode cX9_add 20 = .ok (.getfield 31, 3) := by decide +kernel
theorem dX9_add_23 : decode cX9_add 23 = .ok (.iconst 1, 1) := by decide +kernel
theorem dX9_add_24 : decode cX9_add 24 = .ok (.isub, 1) := by decide +kernel
theorem dX9_add_25 : decode cX9_add 25 = .ok (.invokevirtual 34, 3) := by decide +kernel
theorem dX9_add_28 : decode cX9_add 28 = .ok (.if_icmp .ge 5, 3) := by decide +kernel
theorem dX9_add_31 : decode cX9_add 31 = .ok (.iconst 0, 1) := by decide +kernel
theorem dX9_add_32 : decode cX9_add 32 = .ok (.ireturn, 1) := by decide +kernel
theorem dX9_add_33 : decode cX9_add 33 = .ok (.aload_n 0, 1) := by decide +kernel
theorem dX9_add_34 : decode cX9_add 34 = .ok (.getfield 9, 3) := by decide +kernel
theorem dX9_add_37 : decode cX9_add 37 = .ok (.aload_n 0, 1) := by decide +kernel
theorem dX9_add_38 : decode cX9_add 38 = .ok (.getfield 31, 3) := by decide +kernel
theorem dX9_add_41 : decode cX9_add 41 = .ok (.iload_n 1, 1) := by decide +kernel
theorem dX9_add_42 : decode cX9_add 42 = .ok (.iastore, 1) := by decide +kernel
theorem dX9_add_43 : decode cX9_add 43 = .ok (.aload_n 0, 1) := by decide +kernel
theorem dX9_add_44 : decode cX9_add 44 = .ok (.getfield 15, 3) := by decide +kernel
theorem dX9_add_47 : decode cX9_add 47 = .ok (.aload_n 0, 1) := by decide +kernel
theorem dX9_add_48 : decode cX9_add 48 = .ok (.getfield 31, 3) := by decide +kernel
theorem dX9_add_51 : decode cX9_add 51 = .ok (.iload_n 2, 1) := by decide +kernel
theorem dX9_add_52 : decode cX9_add 52 = .ok (.iastore, 1) := by decide +kernel
theorem dX9_add_53 : decode cX9_add 53 = .ok (.aload_n 0, 1) := by decide +kernel
theorem dX9_add_54 : decode cX9_add 54 = .ok (.dup, 1) := by decide +kernel
theorem dX9_add_55 : decode cX9_add 55 = .ok (.getfield 31, 3) := by decide +kernel
theorem dX9_add_58 : decode cX9_add 58 = .ok (.iconst 1, 1) := by decide +kernel
theorem dX9_add_59 : decode cX9_add 59 = .ok (.iadd, 1) := by decide +kernel
theorem dX9_add_60 : decode cX9_add 60 = .ok (.putfield 31, 3) := by decide +kernel
theorem dX9_add_63 : decode cX9_add 63 = .ok (.iconst 1, 1) := by decide +kernel
theorem dX9_add_64 : decode cX9_add 64 = .ok (.ireturn, 1) := by decide +kernel
theorem dX9_goOn_0 : decode cX9_goOn 0 = .ok (.aload_n 0, 1) := by decide +kernel
theorem dX9_goOn_1 : decode cX9_goOn 1 = .ok (.aload_n 0, 1) := by decide +kernel
theorem dX9_goOn_2 : decode cX9_goOn 2 = .ok (.getfield 31, 3) := by decide +kernel
theorem dX9_goOn_5 : decode cX9_goOn 5 = .ok (.iconst 1, 1) := by decide +kernel
theorem dX9_goOn_6 : decode cX9_goOn 6 = .ok (.isub, 1) := by decide +kernel
theorem dX9_goOn_7 : decode cX9_goOn 7 = .ok (.invokevirtual 34, 3) := by decide +kernel
theorem dX9_goOn_10 : decode cX9_goOn 10 = .ok (.iconst 1, 1) := by decide +kernel
theorem dX9_goOn_11 : decode cX9_goOn 11 = .ok (.iadd, 1) := by decide +kernel
theorem dX9_goOn_12 : decode cX9_goOn 12 = .ok (.istore_n 3, 1) := by decide +kernel
theorem dX9_goOn_13 : decode cX9_goOn 13 = .ok (.aload_n 0, 1) := by decide +kernel
theorem dX9_goOn_14 : decode cX9_goOn 14 = .ok (.getfield 31, 3) := by decide +kernel
theorem dX9_goOn_17 : decode cX9_goOn 17 = .ok (.istore 4, 2) := by decide +kernel
theorem dX9_goOn_19 : decode cX9_goOn 19 = .ok (.iconst 0, 1) := by decide +kernel
theorem dX9_goOn_20 : decode cX9_goOn 20 = .ok (.istore 5, 2) := by decide +kernel
theorem dX9_goOn_22 : decode cX9_goOn 22 = .ok (.iload 5, 2) := by decide +kernel
theorem dX9_goOn_24 : decode cX9_goOn 24 = .ok (.iload_n 1, 1) := by decide +kernel
theorem dX9_goOn_25 : decode cX9_goOn 25 = .ok (.if_icmp .ge 76, 3) := by decide +kernel
theorem dX9_goOn_28 : decode cX9_goOn 28 = .ok (.aload_n 0, 1) := by decide +kernel
theorem dX9_goOn_29 : decode cX9_goOn 29 = .ok (.sipush 25173, 3) := by decide +kernel
theorem dX9_goOn_32 : decode cX9_goOn 32 = .ok (.aload_n 0, 1) := by decide +kernel
theorem dX9_goOn_33 : decode cX9_goOn 33 = .ok (.getfield 24, 3) := by decide +kernel
theorem dX9_goOn_36 : decode cX9_goOn 36 = .ok (.imul, 1) := by decide +kernel
theorem dX9_goOn_37 : decode cX9_goOn 37 = .ok (.sipush 13849, 3) := by decide +kernel
theorem dX9_goOn_40 : decode cX9_goOn 40 = .ok (.iadd, 1) := by decide +kernel
theorem dX9_goOn_41 : decode cX9_goOn 41 = .ok (.ldc 38, 2) := by decide +kernel
theorem dX9_goOn_43 : decode cX9_goOn 43 = .ok (.iand, 1) := by decide +kernel
theorem dX9_goOn_44 : decode cX9_goOn 44 = .ok (.putfield 24, 3) := by decide +kernel
theorem dX9_goOn_47 : decode cX9_goOn 47 = .ok (.aload_n 0, 1) := by decide +kernel
theorem dX9_goOn_48 : decode cX9_goOn 48 = .ok (.getfield 24, 3) := by decide +kernel
theorem dX9_goOn_51 : decode cX9_goOn 51 = .ok (.bipush 7, 2) := by decide +kernel
theorem dX9_goOn_53 : decode cX9_goOn 53 = .ok (.iand, 1) := by decide +kernel
theorem dX9_goOn_54 : decode cX9_goOn 54 = .ok (.istore 6, 2) := by decide +kernel
theorem dX9_goOn_56 : decode cX9_goOn 56 = .ok (.aload_n 2, 1) := by decide +kernel
theorem dX9_goOn_57 : decode cX9_goOn 57 = .ok (.iload 6, 2) := by decide +kernel
theorem dX9_goOn_59 : decode cX9_goOn 59 = .ok (.invokevirtual 39, 3) := by decide +kernel
theorem dX9_goOn_62 : decode cX9_goOn 62 = .ok (.ifCond .eq 33, 3) := by decide +kernel
theorem dX9_goOn_65 : decode cX9_goOn 65 = .ok (.aload_n 0, 1) := by decide +kernel
theorem dX9_goOn_66 : decode cX9_goOn 66 = .ok (.getfield 24, 3) := by decide +kernel
theorem dX9_goOn_69 : decode cX9_goOn 69 = .ok (.iconst 3, 1) := by decide +kernel
theorem dX9_goOn_70 : decode cX9_goOn 70 = .ok (.ishr, 1) := by decide +kernel
theorem dX9_goOn_71 : decode cX9_goOn 71 = .ok (.sipush 1000, 3) := by decide +kernel
theorem dX9_goOn_74 : decode cX9_goOn 74 = .ok (.irem, 1) := by decide +kernel
theorem dX9_goOn_75 : decode cX9_goOn 75 = .ok (.aload_n 2, 1) := by decide +kernel
theorem dX9_goOn_76 : decode cX9_goOn 76 = .ok (.iload 6, 2) := by decide +kernel
theorem dX9_goOn_78 : decode cX9_goOn 78 = .ok (.invokevirtual 45, 3) := by decide +kernel
theorem dX9_goOn_81 : decode cX9_goOn 81 = .ok (.if_icmp .ge 14, 3) := by decide +kernel
theorem dX9_goOn_84 : decode cX9_goOn 84 = .ok (.aload_n 0, 1) := by decide +kernel
theorem dX9_goOn_85 : decode cX9_goOn 85 = .ok (.iload 6, 2) := by decide +kernel
theorem dX9_goOn_87 : decode cX9_goOn 87 = .ok (.iload_n 3, 1) := by decide +kernel
theorem dX9_goOn_88 : decode cX9_goOn 88 = .ok (.iload 5, 2) := by decide +kernel
theorem dX9_goOn_90 : decode cX9_goOn 90 = .ok (.iadd, 1) := by decide +kernel
theorem dX9_goOn_91 : decode cX9_goOn 91 = .ok (.invokevirtual 48, 3) := by decide +kernel
theorem dX9_goOn_94 : decode cX9_goOn 94 = .ok (.pop, 1) := by decide +kernel
theorem dX9_goOn_95 : decode cX9_goOn 95 = .ok (.iinc 5 1, 3) := by decide +kernel
theorem dX9_goOn_98 : decode cX9_goOn 98 = .ok (.goto (-76), 3) := by decide +kernel
theorem dX9_goOn_101 : decode cX9_goOn 101 = .ok (.aload_n 0, 1) := by decide +kernel
theorem dX9_goOn_102 : decode cX9_goOn 102 = .ok (.getfield 31, 3) := by decide +kernel
theorem dX9_goOn_105 : decode cX9_goOn 105 = .ok (.iload 4, 2) := by decide +kernel
theorem dX9_goOn_107 : decode cX9_goOn 107 = .ok (.isub, 1) := by decide +kernel
theorem dX9_goOn_108 : decode cX9_goOn 108 = .ok (.ireturn, 1) := by decide +kernel
theorem dX9_store_0 : decode cX9_store 0 = .ok (.aload_n 0, 1) := by decide +kernel
theorem dX9_store_1 : decode cX9_store 1 = .ok (.getfield 9, 3) := by decide +kernel
theorem dX9_store_4 : decode cX9_store 4 = .ok (.iconst 0, 1) := by decide +kernel
theorem dX9_store_5 : decode cX9_store 5 = .ok (.aload_n 0, 1) := by decide +kernel
theorem dX9_store_6 : decode cX9_store 6 = .ok (.getfield 18, 3) := by decide +kernel
theorem dX9_store_9 : decode cX9_store 9 = .ok (.iconst 0, 1) := by decide +kernel
theorem dX9_store_10 : decode cX9_store 10 = .ok (.sipush 150, 3) := by decide +kernel
theorem dX9_store_13 : decode cX9_store 13 = .ok (.invokestatic 52, 3) := by decide +kernel
theorem dX9_store_16 : decode cX9_store 16 = .ok (.aload_n 0, 1) := by decide +kernel
theorem dX9_store_17 : decode cX9_store 17 = .ok (.getfield 15, 3) := by decide +kernel
theorem dX9_store_20 : decode cX9_store 20 = .ok (.iconst 0, 1) := by decide +kernel
theorem dX9_store_21 : decode cX9_store 21 = .ok (.aload_n 0, 1) := by decide +kernel
theorem dX9_store_22 : decode cX9_store 22 = .ok (.getfield 21, 3) := by decide +kernel
theorem dX9_store_25 : decode cX9_store 25 = .ok (.iconst 0, 1) := by decide +kernel
theorem dX9_store_26 : decode cX9_store 26 = .ok (.sipush 150, 3) := by decide +kernel
theorem dX9_store_29 : decode cX9_store 29 = .ok (.invokestatic 52, 3) := by decide +kernel
theorem dX9_store_32 : decode cX9_store 32 = .ok (.aload_n 0, 1) := by decide +kernel
theorem dX9_store_33 : decode cX9_store 33 = .ok (.aload_n 0, 1) := by decide +kernel
theorem dX9_store_34 : decode cX9_store 34 = .ok (.getfield 31, 3) := by decide +kernel
theorem dX9_store_37 : decode cX9_store 37 = .ok (.putfield 28, 3) := by decide +kernel
theorem dX9_store_40 : decode cX9_store 40 = .ok (.aload_n 0, 1) := by decide +kernel
theorem dX9_store_41 : decode cX9_store 41 = .ok (.aload_n 0, 1) := by decide +kernel
theorem dX9_store_42 : decode cX9_store 42 = .ok (.getfield 24, 3) := by decide +kernel
theorem dX9_store_45 : decode cX9_store 45 = .ok (.putfield 58, 3) := by decide +kernel
theorem dX9_store_48 : decode cX9_store 48 = .ok (.return_, 1) := by decide +kernel
theorem dX9_restore_0 : decode cX9_restore 0 = .ok (.aload_n 0, 1) := by decide +kernel
theorem dX9_restore_1 : decode cX9_restore 1 = .ok (.getfield 28, 3) := by decide +kernel
theorem dX9_restore_4 : decode cX9_restore 4 = .ok (.iconst (-1), 1) := by decide +kernel
theorem dX9_restore_5 : decode cX9_restore 5 = .ok (.if_icmp .ne 5, 3) := by decide +kernel
theorem dX9_restore_8 : decode cX9_restore 8 = .ok (.iconst 0, 1) := by decide +kernel
theorem dX9_restore_9 : decode cX9_restore 9 = .ok (.ireturn, 1) := by decide +kernel
theorem dX9_restore_10 : decode cX9_restore 10 = .ok (.aload_n 0, 1) := by decide +kernel
theorem dX9_restore_11 : decode cX9_restore 11 = .ok (.getfield 18, 3) := by decide +kernel
theorem dX9_restore_14 : decode cX9_restore 14 = .ok (.iconst 0, 1) := by decide +kernel
theorem dX9_restore_15 : decode cX9_restore 15 = .ok (.aload_n 0, 1) := by decide +kernel
theorem dX9_restore_16 : decode cX9_restore 16 = .ok (.getfield 9, 3) := by decide +kernel
theorem dX9_restore_19 : decode cX9_restore 19 = .ok (.iconst 0, 1) := by decide +kernel
theorem dX9_restore_20 : decode cX9_restore 20 = .ok (.sipush 150, 3) := by decide +kernel
theorem dX9_restore_23 : decode cX9_restore 23 = .ok (.invokestatic 52, 3) := by decide +kernel
theorem dX9_restore_26 : decode cX9_restore 26 = .ok (.aload_n 0, 1) := by decide +kernel
theorem dX9_restore_27 : decode cX9_restore 27 = .ok (.getfield 21, 3) := by decide +kernel
theorem dX9_restore_30 : decode cX9_restore 30 = .ok (.iconst 0, 1) := by decide +kernel
theorem dX9_restore_31 : decode cX9_restore 31 = .ok (.aload_n 0, 1) := by decide +kernel
theorem dX9_restore_32 : decode cX9_restore 32 = .ok (.getfield 15, 3) := by decide +kernel
theorem dX9_restore_35 : decode cX9_restore 35 = .ok (.iconst 0, 1) := by decide +kernel
theorem dX9_restore_36 : decode cX9_restore 36 = .ok (.sipush 150, 3) := by decide +kernel
theorem dX9_restore_39 : decode cX9_restore 39 = .ok (.invokestatic 52, 3) := by decide +kernel
theorem dX9_restore_42 : decode cX9_restore 42 = .ok (.aload_n 0, 1) := by decide +kernel
theorem dX9_restore_43 : decode cX9_restore 43 = .ok (.aload_n 0, 1) := by decide +kernel
theorem dX9_restore_44 : decode cX9_restore 44 = .ok (.getfield 28, 3) := by decide +kernel
theorem dX9_restore_47 : decode cX9_restore 47 = .ok (.putfield 31, 3) := by decide +kernel
theorem dX9_restore_50 : decode cX9_restore 50 = .ok (.aload_n 0, 1) := by decide +kernel
theorem dX9_restore_51 : decode cX9_restore 51 = .ok (.aload_n 0, 1) := by decide +kernel
theorem dX9_restore_52 : decode cX9_restore 52 = .ok (.getfield 58, 3) := by decide +kernel
theorem dX9_restore_55 : decode cX9_restore 55 = .ok (.putfield 24, 3) := by decide +kernel
theorem dX9_restore_58 : decode cX9_restore 58 = .ok (.iconst 1, 1) := by decide +kernel
theorem dX9_restore_59 : decode cX9_restore 59 = .ok (.ireturn, 1) := by decide +kernel
theorem dX10_putNumber_0 : decode cX10_putNumber 0 = .ok (.bipush 24, 2) := by decide +kernel
theorem dX10_putNumber_2 : decode cX10_putNumber 2 = .ok (.istore_n 2, 1) := by decide +kernel
theorem dX10_putNumber_3 : decode cX10_putNumber 3 = .ok (.iload_n 2, 1) := by decide +kernel
theorem dX10_putNumber_4 : decode cX10_putNumber 4 = .ok (.ifCond .lt 45, 3) := by decide +kernel
theorem dX10_putNumber_7 : decode cX10_putNumber 7 = .ok (.aload_n 0, 1) := by decide +kernel
theorem dX10_putNumber_8 : decode cX10_putNumber 8 = .ok (.getfield 15, 3) := by decide +kernel
theorem dX10_putNumber_11 : decode cX10_putNumber 11 = .ok (.sipush 220, 3) := by decide +kernel
theorem dX10_putNumber_14 : decode cX10_putNumber 14 = .ok (.if_icmp .ge 35, 3) := by decide +kernel
theorem dX10_putNumber_17 : decode cX10_putNumber 17 = .ok (.aload_n 0, 1) := by decide +kernel
theorem dX10_putNumber_18 : decode cX10_putNumber 18 = .ok (.getfield 9, 3) := by decide +kernel
theorem dX10_putNumber_21 : decode cX10_putNumber 21 = .ok (.aload_n 0, 1) := by decide +kernel
theorem dX10_putNumber_22 : decode cX10_putNumber 22 = .ok (.getfield 15, 3) := by decide +kernel
theorem dX10_putNumber_25 : decode cX10_putNumber 25 = .ok (.iload_n 1, 1) := by decide +kernel
theorem dX10_putNumber_26 : decode cX10_putNumber 26 = .ok (.iload_n 2, 1) := by decide +kernel
theorem dX10_putNumber_27 : decode cX10_putNumber 27 = .ok (.iushr, 1) := by decide +kernel
theorem dX10_putNumber_28 : decode cX10_putNumber 28 = .ok (.sipush 255, 3) := by decide +kernel
theorem dX10_putNumber_31 : decode cX10_putNumber 31 = .ok (.iand, 1) := by decide +kernel
theorem dX10_putNumber_32 : decode cX10_putNumber 32 = .ok (.iastore, 1) := by decide +kernel
theorem dX10_putNumber_33 : decode cX10_putNumber 33 = .ok (.aload_n 0, 1) := by decide +kernel
theorem dX10_putNumber_34 : decode cX10_putNumber 34 = .ok (.dup, 1) := by decide +kernel
theorem dX10_putNumber_35 : decode cX10_putNumber 35 = .ok (.getfield 15, 3) := by decide +kernel
theorem dX10_putNumber_38 : decode cX10_putNumber 38 = .ok (.iconst 1, 1) := by decide +kernel
theorem dX10_putNumber_39 : decode cX10_putNumber 39 = .ok (.iadd, 1) := by decide +kernel
theorem dX10_putNumber_40 : decode cX10_putNumber 40 = .ok (.putfield 15, 3) := by decide +kernel
theorem dX10_putNumber_43 : decode cX10_putNumber 43 = .ok (.iinc 2 (-8), 3) := by decide +kernel
theorem dX10_putNumber_46 : decode cX10_putNumber 46 = .ok (.goto (-43), 3) := by decide +kernel
theorem dX10_putNumber_49 : decode cX10_putNumber 49 = .ok (.return_, 1) := by decide +kernel
theorem dX10_put_0 : decode cX10_put 0 = .ok (.aload_n 0, 1) := by decide +kernel
theorem dX10_put_1 : decode cX10_put 1 = .ok (.getfield 15, 3) := by decide +kernel
theorem dX10_put_4 : decode cX10_put 4 = .ok (.bipush 20, 2) := by decide +kernel
theorem dX10_put_6 : decode cX10_put 6 = .ok (.iadd, 1) := by decide +kernel
theorem dX10_put_7 : decode cX10_put 7 = .ok (.sipush 220, 3) := by decide +kernel
theorem dX10_put_10 : decode cX10_put 10 = .ok (.if_icmp .le 5, 3) := by decide +kernel
theorem dX10_put_13 : decode cX10_put 13 = .ok (.iconst (-1), 1) := by decide +kernel
theorem dX10_put_14 : decode cX10_put 14 = .ok (.ireturn, 1) := by decide +kernel
theorem dX10_put_15 : decode cX10_put 15 = .ok (.aload_n 0, 1) := by decide +kernel
theorem dX10_put_16 : decode cX10_put 16 = .ok (.iload_n 1, 1) := by decide +kernel
theorem dX10_put_17 : decode cX10_put 17 = .ok (.invokevirtual 19, 3) := by decide +kernel
theorem dX10_put_20 : decode cX10_put 20 = .ok (.aload_n 0, 1) := by decide +kernel
theorem dX10_put_21 : decode cX10_put 21 = .ok (.iload_n 2, 1) := by decide +kernel
theorem dX10_put_22 : decode cX10_put 22 = .ok (.invokevirtual 19, 3) := by decide +kernel
theorem dX10_put_25 : decode cX10_put 25 = .ok (.aload_n 0, 1) := by decide +kernel
theorem dX10_put_26 : decode cX10_put 26 = .ok (.iload_n 3, 1) := by decide +kernel
theorem dX10_put_27 : decode cX10_put 27 = .ok (.invokevirtual 19, 3) := by decide +kernel
theorem dX10_put_30 : decode cX10_put 30 = .ok (.aload_n 0, 1) := by decide +kernel
theorem dX10_put_31 : decode cX10_put 31 = .ok (.iload 4, 2) := by decide +kernel
theorem dX10_put_33 : decode cX10_put 33 = .ok (.invokevirtual 19, 3) := by decide +kernel
theorem dX10_put_36 : decode cX10_put 36 = .ok (.aload_n 0, 1) := by decide +kernel
theorem dX10_put_37 : decode cX10_put 37 = .ok (.iload 5, 2) := by decide +kernel
theorem dX10_put_39 : decode cX10_put 39 = .ok (.invokevirtual 19, 3) := by decide +kernel
theorem dX10_put_42 : decode cX10_put 42 = .ok (.aload_n 0, 1) := by decide +kernel
theorem dX10_put_43 : decode cX10_put 43 = .ok (.getfield 15, 3) := by decide +kernel
theorem dX10_put_46 : decode cX10_put 46 = .ok (.ireturn, 1) := by decide +kernel
theorem dX10_has_0 : decode cX10_has 0 = .ok (.iload_n 1, 1) := by decide +kernel
theorem dX10_has_1 : decode cX10_has 1 = .ok (.aload_n 0, 1) := by decide +kernel
theorem dX10_has_2 : decode cX10_has 2 = .ok (.getfield 15, 3) := by decide +kernel
theorem dX10_has_5 : decode cX10_has 5 = .ok (.if_icmp .gt 7, 3) := by decide +kernel
theorem dX10_has_8 : decode cX10_has 8 = .ok (.iconst 1, 1) := by decide +kernel
theorem dX10_has_9 : decode cX10_has 9 = .ok (.goto 4, 3) := by decide +kernel
theorem dX10_has_12 : decode cX10_has 12 = .ok (.iconst 0, 1) := by decide +kernel
theorem dX10_has_13 : decode cX10_has 13 = .ok (.ireturn, 1) := by decide +kernel
theorem dX10_numberAt_0 : decode cX10_numberAt 0 = .ok (.iconst 4, 1) := by decide +kernel
theorem dX10_numberAt_1 : decode cX10_numberAt 1 = .ok (.iload_n 1, 1) := by decide +kernel
theorem dX10_numberAt_2 : decode cX10_numberAt 2 = .ok (.imul, 1) := by decide +kernel
theorem dX10_numberAt_3 : decode cX10_numberAt 3 = .ok (.istore_n 2, 1) := by decide +kernel
theorem dX10_numberAt_4 : decode cX10_numberAt 4 = .ok (.aload_n 0, 1) := by decide +kernel
theorem dX10_numberAt_5 : decode cX10_numberAt 5 = .ok (.iload_n 2, 1) := by decide +kernel
theorem dX10_numberAt_6 : decode cX10_numberAt 6 = .ok (.invokevirtual 23, 3) := by decide +kernel
theorem dX10_numberAt_9 : decode cX10_numberAt 9 = .ok (.bipush 24, 2) := by decide +kernel
theorem dX10_numberAt_11 : decode cX10_numberAt 11 = .ok (.ishl, 1) := by decide +kernel
theorem dX10_numberAt_12 : decode cX10_numberAt 12 = .ok (.aload_n 0, 1) := by decide +kernel
theorem dX10_numberAt_13 : decode cX10_numberAt 13 = .ok (.iload_n 2, 1) := by decide +kernel
theorem dX10_numberAt_14 : decode cX10_numberAt 14 = .ok (.iconst 1, 1) := by decide +kernel
theorem dX10_numberAt_15 : decode cX10_numberAt 15 = .ok (.iadd, 1) := by decide +kernel
theorem dX10_numberAt_16 : decode cX10_numberAt 16 = .ok (.invokevirtual 23, 3) := by decide +kernel
theorem dX10_numberAt_19 : decode cX10_numberAt 19 = .ok (.bipush 16, 2) := by decide +kernel
theorem dX10_numberAt_21 : decode cX10_numberAt 21 = .ok (.ishl, 1) := by decide +kernel
theorem dX10_numberAt_22 : decode cX10_numberAt 22 = .ok (.ior, 1) := by decide +kernel
theorem dX10_numberAt_23 : decode cX10_numberAt 23 = .ok (.aload_n 0, 1) := by decide +kernel
theorem dX10_numberAt_24 : decode cX10_numberAt 24 = .ok (.iload_n 2, 1) := by decide +kernel
theorem dX10_numberAt_25 : decode cX10_numberAt 25 = .ok (.iconst 2, 1) := by decide +kernel
theorem dX10_numberAt_26 : decode cX10_numberAt 26 = .ok (.iadd, 1) := by decide +kernel
theorem dX10_numberAt_27 : decode cX10_numberAt 27 = .ok (.invokevirtual 23, 3) := by decide +kernel
theorem dX10_numberAt_30 : decode cX10_numberAt 30 = .ok (.bipush 8, 2) := by decide +kernel
theorem dX10_numberAt_32 : decode cX10_numberAt 32 = .ok (.ishl, 1) := by decide +kernel
theorem dX10_numberAt_33 : decode cX10_numberAt 33 = .ok (.ior, 1) := by decide +kernel
theorem dX10_numberAt_34 : decode cX10_numberAt 34 = .ok (.aload_n 0, 1) := by decide +kernel
theorem dX10_numberAt_35 : decode cX10_numberAt 35 = .ok (.iload_n 2, 1) := by decide +kernel
theorem dX10_numberAt_36 : decode cX10_numberAt 36 = .ok (.iconst 3, 1) := by decide +kernel
theorem dX10_numberAt_37 : decode cX10_numberAt 37 = .ok (.iadd, 1) := by decide +kernel
theorem dX10_numberAt_38 : decode cX10_numberAt 38 = .ok (.invokevirtual 23, 3) := by decide +kernel
theorem dX10_numberAt_41 : decode cX10_numberAt 41 = .ok (.ior, 1) := by decide +kernel
theorem dX10_numberAt_42 : decode cX10_numberAt 42 = .ok (.ireturn, 1) := by decide +kernel
theorem dX10_empty_0 : decode cX10_empty 0 = .ok (.aload_n 0, 1) := by decide +kernel
theorem dX10_empty_1 : decode cX10_empty 1 = .ok (.iconst 0, 1) := by decide +kernel
theorem dX10_empty_2 : decode cX10_empty 2 = .ok (.putfield 15, 3) := by decide +kernel
theorem dX10_empty_5 : decode cX10_empty 5 = .ok (.return_, 1) := by decide +kernel
theorem dX11_mouth_0 : decode cX11_mouth 0 = .ok (.iload_n 1, 1) := by decide +kernel
theorem dX11_mouth_1 : decode cX11_mouth 1 = .ok (.bipush (-50), 2) := by decide +kernel
theorem dX11_mouth_3 : decode cX11_mouth 3 = .ok (.bipush 50, 2) := by decide +kernel
theorem dX11_mouth_5 : decode cX11_mouth 5 = .ok (.invokestatic 84, 3) := by decide +kernel
theorem dX11_mouth_8 : decode cX11_mouth 8 = .ok (.ifCond .eq 18, 3) := by decide +kernel
theorem dX11_mouth_11 : decode cX11_mouth 11 = .ok (.iload_n 2, 1) := by decide +kernel
theorem dX11_mouth_12 : decode cX11_mouth 12 = .ok (.bipush (-50), 2) := by decide +kernel
theorem dX11_mouth_14 : decode cX11_mouth 14 = .ok (.bipush 50, 2) := by decide +kernel
theorem dX11_mouth_16 : decode cX11_mouth 16 = .ok (.invokestatic 84, 3) := by decide +kernel
theorem dX11_mouth_19 : decode cX11_mouth 19 = .ok (.ifCond .eq 7, 3) := by decide +kernel
theorem dX11_mouth_22 : decode cX11_mouth 22 = .ok (.iconst 1, 1) := by decide +kernel
theorem dX11_mouth_23 : decode cX11_mouth 23 = .ok (.goto 4, 3) := by decide +kernel
theorem dX11_mouth_26 : decode cX11_mouth 26 = .ok (.iconst 0, 1) := by decide +kernel
theorem dX11_mouth_27 : decode cX11_mouth 27 = .ok (.istore 4, 2) := by decide +kernel
theorem dX11_mouth_29 : decode cX11_mouth 29 = .ok (.iload 4, 2) := by decide +kernel
theorem dX11_mouth_31 : decode cX11_mouth 31 = .ok (.ifCond .eq 14, 3) := by decide +kernel
theorem dX11_mouth_34 : decode cX11_mouth 34 = .ok (.iload_n 3, 1) := by decide +kernel
theorem dX11_mouth_35 : decode cX11_mouth 35 = .ok (.iconst 0, 1) := by decide +kernel
theorem dX11_mouth_36 : decode cX11_mouth 36 = .ok (.sipush 1000, 3) := by decide +kernel
theorem dX11_mouth_39 : decode cX11_mouth 39 = .ok (.invokestatic 84, 3) := by decide +kernel
theorem dX11_mouth_42 : decode cX11_mouth 42 = .ok (.ifCond .ne 5, 3) := by decide +kernel
theorem dX11_mouth_45 : decode cX11_mouth 45 = .ok (.iconst (-1), 1) := by decide +kernel
theorem dX11_mouth_46 : decode cX11_mouth 46 = .ok (.ireturn, 1) := by decide +kernel
theorem dX11_mouth_47 : decode cX11_mouth 47 = .ok (.aload_n 0, 1) := by decide +kernel
theorem dX11_mouth_48 : decode cX11_mouth 48 = .ok (.getfield 10, 3) := by decide +kernel
theorem dX11_mouth_51 : decode cX11_mouth 51 = .ok (.iload_n 1, 1) := by decide +kernel
theorem dX11_mouth_52 : decode cX11_mouth 52 = .ok (.iload_n 2, 1) := by decide +kernel
theorem dX11_mouth_53 : decode cX11_mouth 53 = .ok (.iload_n 3, 1) := by decide +kernel
theorem dX11_mouth_54 : decode cX11_mouth 54 = .ok (.invokevirtual 88, 3) := by decide +kernel
theorem dX11_mouth_57 : decode cX11_mouth 57 = .ok (.ireturn, 1) := by decide +kernel
theorem dX11_air_0 : decode cX11_air 0 = .ok (.iload_n 1, 1) := by decide +kernel
theorem dX11_air_1 : decode cX11_air 1 = .ok (.iconst 0, 1) := by decide +kernel
theorem dX11_air_2 : decode cX11_air 2 = .ok (.sipush 200, 3) := by decide +kernel
theorem dX11_air_5 : decode cX11_air 5 = .ok (.invokestatic 84, 3) := by decide +kernel
theorem dX11_air_8 : decode cX11_air 8 = .ok (.ifCond .eq 13, 3) := by decide +kernel
theorem dX11_air_11 : decode cX11_air 11 = .ok (.iload_n 2, 1) := by decide +kernel
theorem dX11_air_12 : decode cX11_air 12 = .ok (.iconst 1, 1) := by decide +kernel
theorem dX11_air_13 : decode cX11_air 13 = .ok (.bipush 100, 2) := by decide +kernel
theorem dX11_air_15 : decode cX11_air 15 = .ok (.invokestatic 84, 3) := by decide +kernel
theorem dX11_air_18 : decode cX11_air 18 = .ok (.ifCond .ne 5, 3) := by decide +kernel
theorem dX11_air_21 : decode cX11_air 21 = .ok (.iconst 0, 1) := by decide +kernel
theorem dX11_air_22 : decode cX11_air 22 = .ok (.ireturn, 1) := by decide +kernel
theorem dX11_air_23 : decode cX11_air 23 = .ok (.aload_n 0, 1) := by decide +kernel
theorem dX11_air_24 : decode cX11_air 24 = .ok (.getfield 10, 3) := by decide +kernel
theorem dX11_air_27 : decode cX11_air 27 = .ok (.iload_n 1, 1) := by decide +kernel
theorem dX11_air_28 : decode cX11_air 28 = .ok (.putfield 92, 3) := by decide +kernel
theorem dX11_air_31 : decode cX11_air 31 = .ok (.aload_n 0, 1) := by decide +kernel
theorem dX11_air_32 : decode cX11_air 32 = .ok (.getfield 10, 3) := by decide +kernel
theorem dX11_air_35 : decode cX11_air 35 = .ok (.iload_n 2, 1) := by decide +kernel
theorem dX11_air_36 : decode cX11_air 36 = .ok (.putfield 96, 3) := by decide +kernel
theorem dX11_air_39 : decode cX11_air 39 = .ok (.aload_n 0, 1) := by decide +kernel
theorem dX11_air_40 : decode cX11_air 40 = .ok (.getfield 35, 3) := by decide +kernel
theorem dX11_air_43 : decode cX11_air 43 = .ok (.invokevirtual 99, 3) := by decide +kernel
theorem dX11_air_46 : decode cX11_air 46 = .ok (.iconst 1, 1) := by decide +kernel
theorem dX11_air_47 : decode cX11_air 47 = .ok (.ireturn, 1) := by decide +kernel
theorem dX11_feed_0 : decode cX11_feed 0 = .ok (.aload_n 0, 1) := by decide +kernel
theorem dX11_feed_1 : decode cX11_feed 1 = .ok (.getfield 19, 3) := by decide +kernel
theorem dX11_feed_4 : decode cX11_feed 4 = .ok (.iload_n 1, 1) := by decide +kernel
theorem dX11_feed_5 : decode cX11_feed 5 = .ok (.iload_n 2, 1) := by decide +kernel
theorem dX11_feed_6 : decode cX11_feed 6 = .ok (.iload_n 3, 1) := by decide +kernel
theorem dX11_feed_7 : decode cX11_feed 7 = .ok (.iload 4, 2) := by decide +kernel
theorem dX11_feed_9 : decode cX11_feed 9 = .ok (.iload 5, 2) := by decide +kernel
theorem dX11_feed_11 : decode cX11_feed 11 = .ok (.invokevirtual 102, 3) := by decide +kernel
theorem dX11_feed_14 : decode cX11_feed 14 = .ok (.ireturn, 1) := by decide +kernel
theorem dX11_tongue_0 : decode cX11_tongue 0 = .ok (.iload_n 1, 1) := by decide +kernel
theorem dX11_tongue_1 : decode cX11_tongue 1 = .ok (.iconst 1, 1) := by decide +kernel
theorem dX11_tongue_2 : decode cX11_tongue 2 = .ok (.sipush 200, 3) := by decide +kernel
theorem dX11_tongue_5 : decode cX11_tongue 5 = .ok (.invokestatic 84, 3) := by decide +kernel
theorem dX11_tongue_8 : decode cX11_tongue 8 = .ok (.ifCond .eq 14, 3) := by decide +kernel
theorem dX11_tongue_11 : decode cX11_tongue 11 = .ok (.aload_n 0, 1) := by decide +kernel
theorem dX11_tongue_12 : decode cX11_tongue 12 = .ok (.getfield 19, 3) := by decide +kernel
theorem dX11_tongue_15 : decode cX11_tongue 15 = .ok (.iload_n 1, 1) := by decide +kernel
theorem dX11_tongue_16 : decode cX11_tongue 16 = .ok (.invokevirtual 106, 3) := by decide +kernel
theorem dX11_tongue_19 : decode cX11_tongue 19 = .ok (.ifCond .ne 5, 3) := by decide +kernel
theorem dX11_tongue_22 : decode cX11_tongue 22 = .ok (.iconst (-1), 1) := by decide +kernel
theorem dX11_tongue_23 : decode cX11_tongue 23 = .ok (.ireturn, 1) := by decide +kernel
theorem dX11_tongue_24 : decode cX11_tongue 24 = .ok (.aload_n 0, 1) := by decide +kernel
theorem dX11_tongue_25 : decode cX11_tongue 25 = .ok (.getfield 57, 3) := by decide +kernel
theorem dX11_tongue_28 : decode cX11_tongue 28 = .ok (.aload_n 0, 1) := by decide +kernel
theorem dX11_tongue_29 : decode cX11_tongue 29 = .ok (.getfield 19, 3) := by decide +kernel
theorem dX11_tongue_32 : decode cX11_tongue 32 = .ok (.iload_n 1, 1) := by decide +kernel
theorem dX11_tongue_33 : decode cX11_tongue 33 = .ok (.aload_n 0, 1) := by decide +kernel
theorem dX11_tongue_34 : decode cX11_tongue 34 = .ok (.getfield 44, 3) := by decide +kernel
theorem dX11_tongue_37 : decode cX11_tongue 37 = .ok (.getfield 50, 3) := by decide +kernel
theorem dX11_tongue_40 : decode cX11_tongue 40 = .ok (.invokevirtual 110, 3) := by decide +kernel
theorem dX11_tongue_43 : decode cX11_tongue 43 = .ok (.istore_n 2, 1) := by decide +kernel
theorem dX11_tongue_44 : decode cX11_tongue 44 = .ok (.aload_n 0, 1) := by decide +kernel
theorem dX11_tongue_45 : decode cX11_tongue 45 = .ok (.getfield 19, 3) := by decide +kernel
theorem dX11_tongue_48 : decode cX11_tongue 48 = .ok (.invokevirtual 114, 3) := by decide +kernel
theorem dX11_tongue_51 : decode cX11_tongue 51 = .ok (.iload_n 2, 1) := by decide +kernel
theorem dX11_tongue_52 : decode cX11_tongue 52 = .ok (.ifCond .le 17, 3) := by decide +kernel
theorem dX11_tongue_55 : decode cX11_tongue 55 = .ok (.aload_n 0, 1) := by decide +kernel
theorem dX11_tongue_56 : decode cX11_tongue 56 = .ok (.getfield 44, 3) := by decide +kernel
theorem dX11_tongue_59 : decode cX11_tongue 59 = .ok (.invokevirtual 117, 3) := by decide +kernel
theorem dX11_tongue_62 : decode cX11_tongue 62 = .ok (.aload_n 0, 1) := by decide +kernel
theorem dX11_tongue_63 : decode cX11_tongue 63 = .ok (.getfield 73, 3) := by decide +kernel
theorem dX11_tongue_66 : decode cX11_tongue 66 = .ok (.invokevirtual 120, 3) := by decide +kernel
theorem dX11_tongue_69 : decode cX11_tongue 69 = .ok (.iload_n 2, 1) := by decide +kernel
theorem dX11_tongue_70 : decode cX11_tongue 70 = .ok (.ireturn, 1) := by decide +kernel
theorem dX11_sentence_0 : decode cX11_sentence 0 = .ok (.aload_n 0, 1) := by decide +kernel
theorem dX11_sentence_1 : decode cX11_sentence 1 = .ok (.getfield 10, 3) := by decide +kernel
theorem dX11_sentence_4 : decode cX11_sentence 4 = .ok (.iload_n 1, 1) := by decide +kernel
theorem dX11_sentence_5 : decode cX11_sentence 5 = .ok (.invokevirtual 121, 3) := by decide +kernel
theorem dX11_sentence_8 : decode cX11_sentence 8 = .ok (.ifCond .eq 23, 3) := by decide +kernel
theorem dX11_sentence_11 : decode cX11_sentence 11 = .ok (.iload_n 2, 1) := by decide +kernel
theorem dX11_sentence_12 : decode cX11_sentence 12 = .ok (.iconst 0, 1) := by decide +kernel
theorem dX11_sentence_13 : decode cX11_sentence 13 = .ok (.iconst 4, 1) := by decide +kernel
theorem dX11_sentence_14 : decode cX11_sentence 14 = .ok (.invokestatic 84, 3) := by decide +kernel
theorem dX11_sentence_17 : decode cX11_sentence 17 = .ok (.ifCond .eq 14, 3) := by decide +kernel
theorem dX11_sentence_20 : decode cX11_sentence 20 = .ok (.aload_n 0, 1) := by decide +kernel
theorem dX11_sentence_21 : decode cX11_sentence 21 = .ok (.getfield 19, 3) := by decide +kernel
theorem dX11_sentence_24 : decode cX11_sentence 24 = .ok (.iload_n 2, 1) := by decide +kernel
theorem dX11_sentence_25 : decode cX11_sentence 25 = .ok (.invokevirtual 106, 3) := by decide +kernel
theorem dX11_sentence_28 : decode cX11_sentence 28 = .ok (.ifCond .ne 5, 3) := by decide +kernel
theorem dX11_sentence_31 : decode cX11_sentence 31 = .ok (.iconst (-1), 1) := by decide +kernel
theorem dX11_sentence_32 : decode cX11_sentence 32 = .ok (.ireturn, 1) := by decide +kernel
theorem dX11_sentence_33 : decode cX11_sentence 33 = .ok (.aload_n 0, 1) := by decide +kernel
theorem dX11_sentence_34 : decode cX11_sentence 34 = .ok (.getfield 10, 3) := by decide +kernel
theorem dX11_sentence_37 : decode cX11_sentence 37 = .ok (.iload_n 1, 1) := by decide +kernel
theorem dX11_sentence_38 : decode cX11_sentence 38 = .ok (.aload_n 0, 1) := by decide +kernel
theorem dX11_sentence_39 : decode cX11_sentence 39 = .ok (.getfield 19, 3) := by decide +kernel
theorem dX11_sentence_42 : decode cX11_sentence 42 = .ok (.iload_n 2, 1) := by decide +kernel
theorem dX11_sentence_43 : decode cX11_sentence 43 = .ok (.invokevirtual 122, 3) := by decide +kernel
theorem dX11_sentence_46 : decode cX11_sentence 46 = .ok (.istore_n 3, 1) := by decide +kernel
theorem dX11_sentence_47 : decode cX11_sentence 47 = .ok (.aload_n 0, 1) := by decide +kernel
theorem dX11_sentence_48 : decode cX11_sentence 48 = .ok (.getfield 19, 3) := by decide +kernel
theorem dX11_sentence_51 : decode cX11_sentence 51 = .ok (.invokevirtual 114, 3) := by decide +kernel
theorem dX11_sentence_54 : decode cX11_sentence 54 = .ok (.iload_n 3, 1) := by decide +kernel
theorem dX11_sentence_55 : decode cX11_sentence 55 = .ok (.ifCond .ne 6, 3) := by decide +kernel
theorem dX11_sentence_58 : decode cX11_sentence 58 = .ok (.bipush (-2), 2) := by decide +kernel
theorem dX11_sentence_60 : decode cX11_sentence 60 = .ok (.ireturn, 1) := by decide +kernel
theorem dX11_sentence_61 : decode cX11_sentence 61 = .ok (.aload_n 0, 1) := by decide +kernel
theorem dX11_sentence_62 : decode cX11_sentence 62 = .ok (.getfield 73, 3) := by decide +kernel
theorem dX11_sentence_65 : decode cX11_sentence 65 = .ok (.invokevirtual 120, 3) := by decide +kernel
theorem dX11_sentence_68 : decode cX11_sentence 68 = .ok (.iload_n 2, 1) := by decide +kernel
theorem dX11_sentence_69 : decode cX11_sentence 69 = .ok (.ireturn, 1) := by decide +kernel
theorem dX11_say_0 : decode cX11_say 0 = .ok (.aload_n 0, 1) := by decide +kernel
theorem dX11_say_1 : decode cX11_say 1 = .ok (.getfield 10, 3) := by decide +kernel
theorem dX11_say_4 : decode cX11_say 4 = .ok (.iload_n 1, 1) := by decide +kernel
theorem dX11_say_5 : decode cX11_say 5 = .ok (.invokevirtual 121, 3) := by decide +kernel
theorem dX11_say_8 : decode cX11_say 8 = .ok (.ifCond .eq 26, 3) := by decide +kernel
theorem dX11_say_11 : decode cX11_say 11 = .ok (.iload_n 2, 1) := by decide +kernel
theorem dX11_say_12 : decode cX11_say 12 = .ok (.iconst 0, 1) := by decide +kernel
theorem dX11_say_13 : decode cX11_say 13 = .ok (.sipush 9999, 3) := by decide +kernel
theorem dX11_say_16 : decode cX11_say 16 = .ok (.invokestatic 84, 3) := by decide +kernel
theorem dX11_say_19 : decode cX11_say 19 = .ok (.ifCond .eq 15, 3) := by decide +kernel
theorem dX11_say_22 : decode cX11_say 22 = .ok (.aload_n 0, 1) := by decide +kernel
theorem dX11_say_23 : decode cX11_say 23 = .ok (.getfield 26, 3) := by decide +kernel
theorem dX11_say_26 : decode cX11_say 26 = .ok (.iload_n 1, 1) := by decide +kernel
theorem dX11_say_27 : decode cX11_say 27 = .ok (.iload_n 2, 1) := by decide +kernel
theorem dX11_say_28 : decode cX11_say 28 = .ok (.invokevirtual 126, 3) := by decide +kernel
theorem dX11_say_31 : decode cX11_say 31 = .ok (.ifCond .ne 5, 3) := by decide +kernel
theorem dX11_say_34 : decode cX11_say 34 = .ok (.iconst (-1), 1) := by decide +kernel
theorem dX11_say_35 : decode cX11_say 35 = .ok (.ireturn, 1) := by decide +kernel
theorem dX11_say_36 : decode cX11_say 36 = .ok (.aload_n 0, 1) := by decide +kernel
theorem dX11_say_37 : decode cX11_say 37 = .ok (.getfield 35, 3) := by decide +kernel
theorem dX11_say_40 : decode cX11_say 40 = .ok (.invokevirtual 99, 3) := by decide +kernel
theorem dX11_say_43 : decode cX11_say 43 = .ok (.aload_n 0, 1) := by decide +kernel
theorem dX11_say_44 : decode cX11_say 44 = .ok (.getfield 26, 3) := by decide +kernel
theorem dX11_say_47 : decode cX11_say 47 = .ok (.getfield 130, 3) := by decide +kernel
theorem dX11_say_50 : decode cX11_say 50 = .ok (.ireturn, 1) := by decide +kernel
theorem dX11_heard_0 : decode cX11_heard 0 = .ok (.aload_n 0, 1) := by decide +kernel
theorem dX11_heard_1 : decode cX11_heard 1 = .ok (.getfield 10, 3) := by decide +kernel
theorem dX11_heard_4 : decode cX11_heard 4 = .ok (.iload_n 1, 1) := by decide +kernel
theorem dX11_heard_5 : decode cX11_heard 5 = .ok (.invokevirtual 121, 3) := by decide +kernel
theorem dX11_heard_8 : decode cX11_heard 8 = .ok (.ifCond .ne 5, 3) := by decide +kernel
theorem dX11_heard_11 : decode cX11_heard 11 = .ok (.iconst (-1), 1) := by decide +kernel
theorem dX11_heard_12 : decode cX11_heard 12 = .ok (.ireturn, 1) := by decide +kernel
theorem dX11_heard_13 : decode cX11_heard 13 = .ok (.aload_n 0, 1) := by decide +kernel
theorem dX11_heard_14 : decode cX11_heard 14 = .ok (.getfield 35, 3) := by decide +kernel
theorem dX11_heard_17 : decode cX11_heard 17 = .ok (.iload_n 1, 1) := by decide +kernel
theorem dX11_heard_18 : decode cX11_heard 18 = .ok (.invokevirtual 133, 3) := by decide +kernel
theorem dX11_heard_21 : decode cX11_heard 21 = .ok (.aload_n 0, 1) := by decide +kernel
theorem dX11_heard_22 : decode cX11_heard 22 = .ok (.getfield 35, 3) := by decide +kernel
theorem dX11_heard_25 : decode cX11_heard 25 = .ok (.getfield 137, 3) := by decide +kernel
theorem dX11_heard_28 : decode cX11_heard 28 = .ok (.ireturn, 1) := by decide +kernel
theorem dX11_meaningOf_0 : decode cX11_meaningOf 0 = .ok (.aload_n 0, 1) := by decide +kernel
theorem dX11_meaningOf_1 : decode cX11_meaningOf 1 = .ok (.getfield 44, 3) := by decide +kernel
theorem dX11_meaningOf_4 : decode cX11_meaningOf 4 = .ok (.iload_n 1, 1) := by decide +kernel
theorem dX11_meaningOf_5 : decode cX11_meaningOf 5 = .ok (.aload_n 0, 1) := by decide +kernel
theorem dX11_meaningOf_6 : decode cX11_meaningOf 6 = .ok (.getfield 35, 3) := by decide +kernel
theorem dX11_meaningOf_9 : decode cX11_meaningOf 9 = .ok (.iload_n 2, 1) := by decide +kernel
theorem dX11_meaningOf_10 : decode cX11_meaningOf 10 = .ok (.invokevirtual 145, 3) := by decide +kernel
theorem dX11_meaningOf_13 : decode cX11_meaningOf 13 = .ok (.aload_n 0, 1) := by decide +kernel
theorem dX11_meaningOf_14 : decode cX11_meaningOf 14 = .ok (.getfield 35, 3) := by decide +kernel
theorem dX11_meaningOf_17 : decode cX11_meaningOf 17 = .ok (.iload_n 2, 1) := by decide +kernel
theorem dX11_meaningOf_18 : decode cX11_meaningOf 18 = .ok (.invokevirtual 142, 3) := by decide +kernel
theorem dX11_meaningOf_21 : decode cX11_meaningOf 21 = .ok (.aload_n 0, 1) := by decide +kernel
theorem dX11_meaningOf_22 : decode cX11_meaningOf 22 = .ok (.getfield 35, 3) := by decide +kernel
theorem dX11_meaningOf_25 : decode cX11_meaningOf 25 = .ok (.iload_n 2, 1) := by decide +kernel
theorem dX11_meaningOf_26 : decode cX11_meaningOf 26 = .ok (.iconst 1, 1) := by decide +kernel
theorem dX11_meaningOf_27 : decode cX11_meaningOf 27 = .ok (.isub, 1) := by decide +kernel
theorem dX11_meaningOf_28 : decode cX11_meaningOf 28 = .ok (.invokevirtual 142, 3) := by decide +kernel
theorem dX11_meaningOf_31 : decode cX11_meaningOf 31 = .ok (.aload_n 0, 1) := by decide +kernel
theorem dX11_meaningOf_32 : decode cX11_meaningOf 32 = .ok (.getfield 35, 3) := by decide +kernel
theorem dX11_meaningOf_35 : decode cX11_meaningOf 35 = .ok (.iload_n 2, 1) := by decide +kernel
theorem dX11_meaningOf_36 : decode cX11_meaningOf 36 = .ok (.iconst 1, 1) := by decide +kernel
theorem dX11_meaningOf_37 : decode cX11_meaningOf 37 = .ok (.isub, 1) := by decide +kernel
theorem dX11_meaningOf_38 : decode cX11_meaningOf 38 = .ok (.invokevirtual 145, 3) := by decide +kernel
theorem dX11_meaningOf_41 : decode cX11_meaningOf 41 = .ok (.invokevirtual 155, 3) := by decide +kernel
theorem dX11_meaningOf_44 : decode cX11_meaningOf 44 = .ok (.ireturn, 1) := by decide +kernel
theorem dX11_hearing_0 : decode cX11_hearing 0 = .ok (.aload_n 0, 1) := by decide +kernel
theorem dX11_hearing_1 : decode cX11_hearing 1 = .ok (.getfield 10, 3) := by decide +kernel
theorem dX11_hearing_4 : decode cX11_hearing 4 = .ok (.iload_n 1, 1) := by decide +kernel
theorem dX11_hearing_5 : decode cX11_hearing 5 = .ok (.invokevirtual 121, 3) := by decide +kernel
theorem dX11_hearing_8 : decode cX11_hearing 8 = .ok (.ifCond .ne 5, 3) := by decide +kernel
theorem dX11_hearing_11 : decode cX11_hearing 11 = .ok (.iconst (-1), 1) := by decide +kernel
theorem dX11_hearing_12 : decode cX11_hearing 12 = .ok (.ireturn, 1) := by decide +kernel
theorem dX11_hearing_13 : decode cX11_hearing 13 = .ok (.aload_n 0, 1) := by decide +kernel
theorem dX11_hearing_14 : decode cX11_hearing 14 = .ok (.getfield 35, 3) := by decide +kernel
theorem dX11_hearing_17 : decode cX11_hearing 17 = .ok (.iload_n 1, 1) := by decide +kernel
theorem dX11_hearing_18 : decode cX11_hearing 18 = .ok (.invokevirtual 133, 3) := by decide +kernel
theorem dX11_hearing_21 : decode cX11_hearing 21 = .ok (.iload_n 2, 1) := by decide +kernel
theorem dX11_hearing_22 : decode cX11_hearing 22 = .ok (.iconst 0, 1) := by decide +kernel
theorem dX11_hearing_23 : decode cX11_hearing 23 = .ok (.aload_n 0, 1) := by decide +kernel
theorem dX11_hearing_24 : decode cX11_hearing 24 = .ok (.getfield 35, 3) := by decide +kernel
theorem dX11_hearing_27 : decode cX11_hearing 27 = .ok (.getfield 137, 3) := by decide +kernel
theorem dX11_hearing_30 : decode cX11_hearing 30 = .ok (.iconst 1, 1) := by decide +kernel
theorem dX11_hearing_31 : decode cX11_hearing 31 = .ok (.isub, 1) := by decide +kernel
theorem dX11_hearing_32 : decode cX11_hearing 32 = .ok (.invokestatic 84, 3) := by decide +kernel
theorem dX11_hearing_35 : decode cX11_hearing 35 = .ok (.ifCond .ne 5, 3) := by decide +kernel
theorem dX11_hearing_38 : decode cX11_hearing 38 = .ok (.iconst (-1), 1) := by decide +kernel
theorem dX11_hearing_39 : decode cX11_hearing 39 = .ok (.ireturn, 1) := by decide +kernel
theorem dX11_hearing_40 : decode cX11_hearing 40 = .ok (.iload_n 3, 1) := by decide +kernel
theorem dX11_hearing_41 : decode cX11_hearing 41 = .ok (.tableswitch 65 0 3 #[31, 40, 49, 58], 31) := by decide +kernel
theorem dX11_hearing_72 : decode cX11_hearing 72 = .ok (.aload_n 0, 1) := by decide +kernel
theorem dX11_hearing_73 : decode cX11_hearing 73 = .ok (.getfield 35, 3) := by decide +kernel
theorem dX11_hearing_76 : decode cX11_hearing 76 = .ok (.iload_n 2, 1) := by decide +kernel
theorem dX11_hearing_77 : decode cX11_hearing 77 = .ok (.invokevirtual 138, 3) := by decide +kernel
theorem dX11_hearing_80 : decode cX11_hearing 80 = .ok (.ireturn, 1) := by decide +kernel
theorem dX11_hearing_81 : decode cX11_hearing 81 = .ok (.aload_n 0, 1) := by decide +kernel
theorem dX11_hearing_82 : decode cX11_hearing 82 = .ok (.getfield 35, 3) := by decide +kernel
theorem dX11_hearing_85 : decode cX11_hearing 85 = .ok (.iload_n 2, 1) := by decide +kernel
theorem dX11_hearing_86 : decode cX11_hearing 86 = .ok (.invokevirtual 142, 3) := by decide +kernel
theorem dX11_hearing_89 : decode cX11_hearing 89 = .ok (.ireturn, 1) := by decide +kernel
theorem dX11_hearing_90 : decode cX11_hearing 90 = .ok (.aload_n 0, 1) := by decide +kernel
theorem dX11_hearing_91 : decode cX11_hearing 91 = .ok (.getfield 35, 3) := by decide +kernel
theorem dX11_hearing_94 : decode cX11_hearing 94 = .ok (.iload_n 2, 1) := by decide +kernel
theorem dX11_hearing_95 : decode cX11_hearing 95 = .ok (.invokevirtual 145, 3) := by decide +kernel
theorem dX11_hearing_98 : decode cX11_hearing 98 = .ok (.ireturn, 1) := by decide +kernel
theorem dX11_hearing_99 : decode cX11_hearing 99 = .ok (.aload_n 0, 1) := by decide +kernel
theorem dX11_hearing_100 : decode cX11_hearing 100 = .ok (.iload_n 1, 1) := by decide +kernel
theorem dX11_hearing_101 : decode cX11_hearing 101 = .ok (.iload_n 2, 1) := by decide +kernel
theorem dX11_hearing_102 : decode cX11_hearing 102 = .ok (.invokevirtual 148, 3) := by decide +kernel
theorem dX11_hearing_105 : decode cX11_hearing 105 = .ok (.ireturn, 1) := by decide +kernel
theorem dX11_hearing_106 : decode cX11_hearing 106 = .ok (.iconst (-1), 1) := by decide +kernel
theorem dX11_hearing_107 : decode cX11_hearing 107 = .ok (.ireturn, 1) := by decide +kernel
theorem dX11_way_0 : decode cX11_way 0 = .ok (.aload_n 0, 1) := by decide +kernel
theorem dX11_way_1 : decode cX11_way 1 = .ok (.getfield 10, 3) := by decide +kernel
theorem dX11_way_4 : decode cX11_way 4 = .ok (.iload_n 1, 1) := by decide +kernel
theorem dX11_way_5 : decode cX11_way 5 = .ok (.invokevirtual 121, 3) := by decide +kernel
theorem dX11_way_8 : decode cX11_way 8 = .ok (.ifCond .eq 14, 3) := by decide +kernel
theorem dX11_way_11 : decode cX11_way 11 = .ok (.aload_n 0, 1) := by decide +kernel
theorem dX11_way_12 : decode cX11_way 12 = .ok (.getfield 10, 3) := by decide +kernel
theorem dX11_way_15 : decode cX11_way 15 = .ok (.iload_n 2, 1) := by decide +kernel
theorem dX11_way_16 : decode cX11_way 16 = .ok (.invokevirtual 121, 3) := by decide +kernel
theorem dX11_way_19 : decode cX11_way 19 = .ok (.ifCond .ne 5, 3) := by decide +kernel
theorem dX11_way_22 : decode cX11_way 22 = .ok (.iconst (-1), 1) := by decide +kernel
theorem dX11_way_23 : decode cX11_way 23 = .ok (.ireturn, 1) := by decide +kernel
theorem dX11_way_24 : decode cX11_way 24 = .ok (.aload_n 0, 1) := by decide +kernel
theorem dX11_way_25 : decode cX11_way 25 = .ok (.getfield 10, 3) := by decide +kernel
theorem dX11_way_28 : decode cX11_way 28 = .ok (.iload_n 1, 1) := by decide +kernel
theorem dX11_way_29 : decode cX11_way 29 = .ok (.iload_n 2, 1) := by decide +kernel
theorem dX11_way_30 : decode cX11_way 30 = .ok (.invokevirtual 152, 3) := by decide +kernel
theorem dX11_way_33 : decode cX11_way 33 = .ok (.ireturn, 1) := by decide +kernel
theorem dX11_meaning_0 : decode cX11_meaning 0 = .ok (.aload_n 0, 1) := by decide +kernel
theorem dX11_meaning_1 : decode cX11_meaning 1 = .ok (.getfield 10, 3) := by decide +kernel
theorem dX11_meaning_4 : decode cX11_meaning 4 = .ok (.iload_n 1, 1) := by decide +kernel
theorem dX11_meaning_5 : decode cX11_meaning 5 = .ok (.invokevirtual 121, 3) := by decide +kernel
theorem dX11_meaning_8 : decode cX11_meaning 8 = .ok (.ifCond .eq 14, 3) := by decide +kernel
theorem dX11_meaning_11 : decode cX11_meaning 11 = .ok (.aload_n 0, 1) := by decide +kernel
theorem dX11_meaning_12 : decode cX11_meaning 12 = .ok (.getfield 10, 3) := by decide +kernel
theorem dX11_meaning_15 : decode cX11_meaning 15 = .ok (.iload_n 3, 1) := by decide +kernel
theorem dX11_meaning_16 : decode cX11_meaning 16 = .ok (.invokevirtual 121, 3) := by decide +kernel
theorem dX11_meaning_19 : decode cX11_meaning 19 = .ok (.ifCond .ne 5, 3) := by decide +kernel
theorem dX11_meaning_22 : decode cX11_meaning 22 = .ok (.iconst (-1), 1) := by decide +kernel
theorem dX11_meaning_23 : decode cX11_meaning 23 = .ok (.ireturn, 1) := by decide +kernel
theorem dX11_meaning_24 : decode cX11_meaning 24 = .ok (.iload_n 2, 1) := by decide +kernel
theorem dX11_meaning_25 : decode cX11_meaning 25 = .ok (.iconst 1, 1) := by decide +kernel
theorem dX11_meaning_26 : decode cX11_meaning 26 = .ok (.bipush 63, 2) := by decide +kernel
theorem dX11_meaning_28 : decode cX11_meaning 28 = .ok (.invokestatic 84, 3) := by decide +kernel
theorem dX11_meaning_31 : decode cX11_meaning 31 = .ok (.ifCond .eq 25, 3) := by decide +kernel
theorem dX11_meaning_34 : decode cX11_meaning 34 = .ok (.iload 4, 2) := by decide +kernel
theorem dX11_meaning_36 : decode cX11_meaning 36 = .ok (.iconst 0, 1) := by decide +kernel
theorem dX11_meaning_37 : decode cX11_meaning 37 = .ok (.bipush 8, 2) := by decide +kernel
theorem dX11_meaning_39 : decode cX11_meaning 39 = .ok (.invokestatic 84, 3) := by decide +kernel
theorem dX11_meaning_42 : decode cX11_meaning 42 = .ok (.ifCond .eq 14, 3) := by decide +kernel
theorem dX11_meaning_45 : decode cX11_meaning 45 = .ok (.iload 5, 2) := by decide +kernel
theorem dX11_meaning_47 : decode cX11_meaning 47 = .ok (.iconst 0, 1) := by decide +kernel
theorem dX11_meaning_48 : decode cX11_meaning 48 = .ok (.bipush 63, 2) := by decide +kernel
theorem dX11_meaning_50 : decode cX11_meaning 50 = .ok (.invokestatic 84, 3) := by decide +kernel
theorem dX11_meaning_53 : decode cX11_meaning 53 = .ok (.ifCond .ne 5, 3) := by decide +kernel
theorem dX11_meaning_56 : decode cX11_meaning 56 = .ok (.iconst (-1), 1) := by decide +kernel
theorem dX11_meaning_57 : decode cX11_meaning 57 = .ok (.ireturn, 1) := by decide +kernel
theorem dX11_meaning_58 : decode cX11_meaning 58 = .ok (.aload_n 0, 1) := by decide +kernel
theorem dX11_meaning_59 : decode cX11_meaning 59 = .ok (.getfield 44, 3) := by decide +kernel
theorem dX11_meaning_62 : decode cX11_meaning 62 = .ok (.iload_n 1, 1) := by decide +kernel
theorem dX11_meaning_63 : decode cX11_meaning 63 = .ok (.iload_n 2, 1) := by decide +kernel
theorem dX11_meaning_64 : decode cX11_meaning 64 = .ok (.iload_n 3, 1) := by decide +kernel
theorem dX11_meaning_65 : decode cX11_meaning 65 = .ok (.iload 4, 2) := by decide +kernel
theorem dX11_meaning_67 : decode cX11_meaning 67 = .ok (.iload 5, 2) := by decide +kernel
theorem dX11_meaning_69 : decode cX11_meaning 69 = .ok (.invokevirtual 155, 3) := by decide +kernel
theorem dX11_meaning_72 : decode cX11_meaning 72 = .ok (.ireturn, 1) := by decide +kernel
theorem dX11_read_0 : decode cX11_read 0 = .ok (.aload_n 0, 1) := by decide +kernel
theorem dX11_read_1 : decode cX11_read 1 = .ok (.getfield 10, 3) := by decide +kernel
theorem dX11_read_4 : decode cX11_read 4 = .ok (.iload_n 1, 1) := by decide +kernel
theorem dX11_read_5 : decode cX11_read 5 = .ok (.invokevirtual 121, 3) := by decide +kernel
theorem dX11_read_8 : decode cX11_read 8 = .ok (.ifCond .eq 37, 3) := by decide +kernel
theorem dX11_read_11 : decode cX11_read 11 = .ok (.iload_n 2, 1) := by decide +kernel
theorem dX11_read_12 : decode cX11_read 12 = .ok (.iconst 1, 1) := by decide +kernel
theorem dX11_read_13 : decode cX11_read 13 = .ok (.bipush 12, 2) := by decide +kernel
theorem dX11_read_15 : decode cX11_read 15 = .ok (.invokestatic 84, 3) := by decide +kernel
theorem dX11_read_18 : decode cX11_read 18 = .ok (.ifCond .eq 27, 3) := by decide +kernel
theorem dX11_read_21 : decode cX11_read 21 = .ok (.iload_n 3, 1) := by decide +kernel
theorem dX11_read_22 : decode cX11_read 22 = .ok (.iconst (-1), 1) := by decide +kernel
theorem dX11_read_23 : decode cX11_read 23 = .ok (.iload_n 2, 1) := by decide +kernel
theorem dX11_read_24 : decode cX11_read 24 = .ok (.iconst 1, 1) := by decide +kernel
theorem dX11_read_25 : decode cX11_read 25 = .ok (.isub, 1) := by decide +kernel
theorem dX11_read_26 : decode cX11_read 26 = .ok (.invokestatic 84, 3) := by decide +kernel
theorem dX11_read_29 : decode cX11_read 29 = .ok (.ifCond .eq 16, 3) := by decide +kernel
theorem dX11_read_32 : decode cX11_read 32 = .ok (.aload_n 0, 1) := by decide +kernel
theorem dX11_read_33 : decode cX11_read 33 = .ok (.getfield 19, 3) := by decide +kernel
theorem dX11_read_36 : decode cX11_read 36 = .ok (.iconst 2, 1) := by decide +kernel
theorem dX11_read_37 : decode cX11_read 37 = .ok (.iload_n 2, 1) := by decide +kernel
theorem dX11_read_38 : decode cX11_read 38 = .ok (.imul, 1) := by decide +kernel
theorem dX11_read_39 : decode cX11_read 39 = .ok (.invokevirtual 106, 3) := by decide +kernel
theorem dX11_read_42 : decode cX11_read 42 = .ok (.ifCond .ne 7, 3) := by decide +kernel
theorem dX11_read_45 : decode cX11_read 45 = .ok (.ldc2_w 158, 3) := by decide +kernel
theorem dX11_read_48 : decode cX11_read 48 = .ok (.lreturn, 1) := by decide +kernel
theorem dX11_read_49 : decode cX11_read 49 = .ok (.aload_n 0, 1) := by decide +kernel
theorem dX11_read_50 : decode cX11_read 50 = .ok (.getfield 66, 3) := by decide +kernel
theorem dX11_read_53 : decode cX11_read 53 = .ok (.aload_n 0, 1) := by decide +kernel
theorem dX11_read_54 : decode cX11_read 54 = .ok (.getfield 19, 3) := by decide +kernel
theorem dX11_read_57 : decode cX11_read 57 = .ok (.iload_n 2, 1) := by decide +kernel
theorem dX11_read_58 : decode cX11_read 58 = .ok (.invokevirtual 160, 3) := by decide +kernel
theorem dX11_read_61 : decode cX11_read 61 = .ok (.istore 4, 2) := by decide +kernel
theorem dX11_read_63 : decode cX11_read 63 = .ok (.aload_n 0, 1) := by decide +kernel
theorem dX11_read_64 : decode cX11_read 64 = .ok (.getfield 19, 3) := by decide +kernel
theorem dX11_read_67 : decode cX11_read 67 = .ok (.invokevirtual 114, 3) := by decide +kernel
theorem dX11_read_70 : decode cX11_read 70 = .ok (.iload 4, 2) := by decide +kernel
theorem dX11_read_72 : decode cX11_read 72 = .ok (.ifCond .ne 7, 3) := by decide +kernel
theorem dX11_read_75 : decode cX11_read 75 = .ok (.ldc2_w 164, 3) := by decide +kernel
theorem dX11_read_78 : decode cX11_read 78 = .ok (.lreturn, 1) := by decide +kernel
theorem dX11_read_79 : decode cX11_read 79 = .ok (.aload_n 0, 1) := by decide +kernel
theorem dX11_read_80 : decode cX11_read 80 = .ok (.getfield 35, 3) := by decide +kernel
theorem dX11_read_83 : decode cX11_read 83 = .ok (.iload_n 1, 1) := by decide +kernel
theorem dX11_read_84 : decode cX11_read 84 = .ok (.invokevirtual 133, 3) := by decide +kernel
theorem dX11_read_87 : decode cX11_read 87 = .ok (.aload_n 0, 1) := by decide +kernel
theorem dX11_read_88 : decode cX11_read 88 = .ok (.getfield 66, 3) := by decide +kernel
theorem dX11_read_91 : decode cX11_read 91 = .ok (.iload_n 1, 1) := by decide +kernel
theorem dX11_read_92 : decode cX11_read 92 = .ok (.aload_n 0, 1) := by decide +kernel
theorem dX11_read_93 : decode cX11_read 93 = .ok (.getfield 35, 3) := by decide +kernel
theorem dX11_read_96 : decode cX11_read 96 = .ok (.invokevirtual 166, 3) := by decide +kernel
theorem dX11_read_99 : decode cX11_read 99 = .ok (.iconst 0, 1) := by decide +kernel
theorem dX11_read_100 : decode cX11_read 100 = .ok (.istore 5, 2) := by decide +kernel
theorem dX11_read_102 : decode cX11_read 102 = .ok (.iload 5, 2) := by decide +kernel
theorem dX11_read_104 : decode cX11_read 104 = .ok (.iload_n 2, 1) := by decide +kernel
theorem dX11_read_105 : decode cX11_read 105 = .ok (.if_icmp .ge 18, 3) := by decide +kernel
theorem dX11_read_108 : decode cX11_read 108 = .ok (.aload_n 0, 1) := by decide +kernel
theorem dX11_read_109 : decode cX11_read 109 = .ok (.getfield 66, 3) := by decide +kernel
theorem dX11_read_112 : decode cX11_read 112 = .ok (.iload 5, 2) := by decide +kernel
theorem dX11_read_114 : decode cX11_read 114 = .ok (.invokevirtual 170, 3) := by decide +kernel
theorem dX11_read_117 : decode cX11_read 117 = .ok (.iinc 5 1, 3) := by decide +kernel
theorem dX11_read_120 : decode cX11_read 120 = .ok (.goto (-18), 3) := by decide +kernel
theorem dX11_read_123 : decode cX11_read 123 = .ok (.aload_n 0, 1) := by decide +kernel
theorem dX11_read_124 : decode cX11_read 124 = .ok (.getfield 66, 3) := by decide +kernel
theorem dX11_read_127 : decode cX11_read 127 = .ok (.invokevirtual 173, 3) := by decide +kernel
theorem dX11_read_130 : decode cX11_read 130 = .ok (.iload_n 3, 1) := by decide +kernel
theorem dX11_read_131 : decode cX11_read 131 = .ok (.iconst (-1), 1) := by decide +kernel
theorem dX11_read_132 : decode cX11_read 132 = .ok (.if_icmp .ne 13, 3) := by decide +kernel
theorem dX11_read_135 : decode cX11_read 135 = .ok (.aload_n 0, 1) := by decide +kernel
theorem dX11_read_136 : decode cX11_read 136 = .ok (.getfield 66, 3) := by decide +kernel
theorem dX11_read_139 : decode cX11_read 139 = .ok (.invokevirtual 176, 3) := by decide +kernel
theorem dX11_read_142 : decode cX11_read 142 = .ok (.goto 12, 3) := by decide +kernel
theorem dX11_read_145 : decode cX11_read 145 = .ok (.aload_n 0, 1) := by decide +kernel
theorem dX11_read_146 : decode cX11_read 146 = .ok (.getfield 66, 3) := by decide +kernel
theorem dX11_read_149 : decode cX11_read 149 = .ok (.iload_n 3, 1) := by decide +kernel
theorem dX11_read_150 : decode cX11_read 150 = .ok (.invokevirtual 180, 3) := by decide +kernel
theorem dX11_read_153 : decode cX11_read 153 = .ok (.i2l, 1) := by decide +kernel
theorem dX11_read_154 : decode cX11_read 154 = .ok (.lreturn, 1) := by decide +kernel
theorem dX11_missed_0 : decode cX11_missed 0 = .ok (.aload_n 0, 1) := by decide +kernel
theorem dX11_missed_1 : decode cX11_missed 1 = .ok (.getfield 10, 3) := by decide +kernel
theorem dX11_missed_4 : decode cX11_missed 4 = .ok (.iload_n 1, 1) := by decide +kernel
theorem dX11_missed_5 : decode cX11_missed 5 = .ok (.invokevirtual 121, 3) := by decide +kernel
theorem dX11_missed_8 : decode cX11_missed 8 = .ok (.ifCond .eq 26, 3) := by decide +kernel
theorem dX11_missed_11 : decode cX11_missed 11 = .ok (.aload_n 0, 1) := by decide +kernel
theorem dX11_missed_12 : decode cX11_missed 12 = .ok (.getfield 10, 3) := by decide +kernel
theorem dX11_missed_15 : decode cX11_missed 15 = .ok (.iload_n 2, 1) := by decide +kernel
theorem dX11_missed_16 : decode cX11_missed 16 = .ok (.invokevirtual 121, 3) := by decide +kernel
theorem dX11_missed_19 : decode cX11_missed 19 = .ok (.ifCond .eq 15, 3) := by decide +kernel
theorem dX11_missed_22 : decode cX11_missed 22 = .ok (.aload_n 0, 1) := by decide +kernel
theorem dX11_missed_23 : decode cX11_missed 23 = .ok (.getfield 10, 3) := by decide +kernel
theorem dX11_missed_26 : decode cX11_missed 26 = .ok (.iload_n 1, 1) := by decide +kernel
theorem dX11_missed_27 : decode cX11_missed 27 = .ok (.iload_n 2, 1) := by decide +kernel
theorem dX11_missed_28 : decode cX11_missed 28 = .ok (.invokevirtual 183, 3) := by decide +kernel
theorem dX11_missed_31 : decode cX11_missed 31 = .ok (.ifCond .ne 5, 3) := by decide +kernel
theorem dX11_missed_34 : decode cX11_missed 34 = .ok (.iconst (-1), 1) := by decide +kernel
theorem dX11_missed_35 : decode cX11_missed 35 = .ok (.ireturn, 1) := by decide +kernel
theorem dX11_missed_36 : decode cX11_missed 36 = .ok (.iload_n 3, 1) := by decide +kernel
theorem dX11_missed_37 : decode cX11_missed 37 = .ok (.iconst 1, 1) := by decide +kernel
theorem dX11_missed_38 : decode cX11_missed 38 = .ok (.bipush 10, 2) := by decide +kernel
theorem dX11_missed_40 : decode cX11_missed 40 = .ok (.invokestatic 84, 3) := by decide +kernel
theorem dX11_missed_43 : decode cX11_missed 43 = .ok (.ifCond .eq 28, 3) := by decide +kernel
theorem dX11_missed_46 : decode cX11_missed 46 = .ok (.iload 4, 2) := by decide +kernel
theorem dX11_missed_48 : decode cX11_missed 48 = .ok (.iconst (-1), 1) := by decide +kernel
theorem dX11_missed_49 : decode cX11_missed 49 = .ok (.iconst 2, 1) := by decide +kernel
theorem dX11_missed_50 : decode cX11_missed 50 = .ok (.invokestatic 84, 3) := by decide +kernel
theorem dX11_missed_53 : decode cX11_missed 53 = .ok (.ifCond .eq 18, 3) := by decide +kernel
theorem dX11_missed_56 : decode cX11_missed 56 = .ok (.aload_n 0, 1) := by decide +kernel
theorem dX11_missed_57 : decode cX11_missed 57 = .ok (.getfield 19, 3) := by decide +kernel
theorem dX11_missed_60 : decode cX11_missed 60 = .ok (.iconst 2, 1) := by decide +kernel
theorem dX11_missed_61 : decode cX11_missed 61 = .ok (.iload_n 3, 1) := by decide +kernel
theorem dX11_missed_62 : decode cX11_missed 62 = .ok (.imul, 1) := by decide +kernel
theorem dX11_missed_63 : decode cX11_missed 63 = .ok (.iconst 1, 1) := by decide +kernel
theorem dX11_missed_64 : decode cX11_missed 64 = .ok (.iadd, 1) := by decide +kernel
theorem dX11_missed_65 : decode cX11_missed 65 = .ok (.invokevirtual 106, 3) := by decide +kernel
theorem dX11_missed_68 : decode cX11_missed 68 = .ok (.ifCond .ne 5, 3) := by decide +kernel
theorem dX11_missed_71 : decode cX11_missed 71 = .ok (.iconst (-1), 1) := by decide +kernel
theorem dX11_missed_72 : decode cX11_missed 72 = .ok (.ireturn, 1) := by decide +kernel
theorem dX11_missed_73 : decode cX11_missed 73 = .ok (.aload_n 0, 1) := by decide +kernel
theorem dX11_missed_74 : decode cX11_missed 74 = .ok (.getfield 66, 3) := by decide +kernel
theorem dX11_missed_77 : decode cX11_missed 77 = .ok (.aload_n 0, 1) := by decide +kernel
theorem dX11_missed_78 : decode cX11_missed 78 = .ok (.getfield 19, 3) := by decide +kernel
theorem dX11_missed_81 : decode cX11_missed 81 = .ok (.iload_n 3, 1) := by decide +kernel
theorem dX11_missed_82 : decode cX11_missed 82 = .ok (.invokevirtual 186, 3) := by decide +kernel
theorem dX11_missed_85 : decode cX11_missed 85 = .ok (.istore 5, 2) := by decide +kernel
theorem dX11_missed_87 : decode cX11_missed 87 = .ok (.aload_n 0, 1) := by decide +kernel
theorem dX11_missed_88 : decode cX11_missed 88 = .ok (.getfield 19, 3) := by decide +kernel
theorem dX11_missed_91 : decode cX11_missed 91 = .ok (.invokevirtual 114, 3) := by decide +kernel
theorem dX11_missed_94 : decode cX11_missed 94 = .ok (.iload 5, 2) := by decide +kernel
theorem dX11_missed_96 : decode cX11_missed 96 = .ok (.ifCond .ne 6, 3) := by decide +kernel
theorem dX11_missed_99 : decode cX11_missed 99 = .ok (.bipush (-2), 2) := by decide +kernel
theorem dX11_missed_101 : decode cX11_missed 101 = .ok (.ireturn, 1) := by decide +kernel
theorem dX11_missed_102 : decode cX11_missed 102 = .ok (.aload_n 0, 1) := by decide +kernel
theorem dX11_missed_103 : decode cX11_missed 103 = .ok (.getfield 35, 3) := by decide +kernel
theorem dX11_missed_106 : decode cX11_missed 106 = .ok (.iload_n 1, 1) := by decide +kernel
theorem dX11_missed_107 : decode cX11_missed 107 = .ok (.invokevirtual 133, 3) := by decide +kernel
theorem dX11_missed_110 : decode cX11_missed 110 = .ok (.aload_n 0, 1) := by decide +kernel
theorem dX11_missed_111 : decode cX11_missed 111 = .ok (.getfield 66, 3) := by decide +kernel
theorem dX11_missed_114 : decode cX11_missed 114 = .ok (.iload_n 1, 1) := by decide +kernel
theorem dX11_missed_115 : decode cX11_missed 115 = .ok (.aload_n 0, 1) := by decide +kernel
theorem dX11_missed_116 : decode cX11_missed 116 = .ok (.getfield 35, 3) := by decide +kernel
theorem dX11_missed_119 : decode cX11_missed 119 = .ok (.invokevirtual 166, 3) := by decide +kernel
theorem dX11_missed_122 : decode cX11_missed 122 = .ok (.aload_n 0, 1) := by decide +kernel
theorem dX11_missed_123 : decode cX11_missed 123 = .ok (.getfield 66, 3) := by decide +kernel
theorem dX11_missed_126 : decode cX11_missed 126 = .ok (.iload_n 2, 1) := by decide +kernel
theorem dX11_missed_127 : decode cX11_missed 127 = .ok (.invokevirtual 189, 3) := by decide +kernel
theorem dX11_missed_130 : decode cX11_missed 130 = .ok (.istore 6, 2) := by decide +kernel
theorem dX11_missed_132 : decode cX11_missed 132 = .ok (.iload 4, 2) := by decide +kernel
theorem dX11_missed_134 : decode cX11_missed 134 = .ok (.iconst (-1), 1) := by decide +kernel
theorem dX11_missed_135 : decode cX11_missed 135 = .ok (.if_icmp .ne 6, 3) := by decide +kernel
theorem dX11_missed_138 : decode cX11_missed 138 = .ok (.iload 6, 2) := by decide +kernel
theorem dX11_missed_140 : decode cX11_missed 140 = .ok (.ireturn, 1) := by decide +kernel
theorem dX11_missed_141 : decode cX11_missed 141 = .ok (.iload 6, 2) := by decide +kernel
theorem dX11_missed_143 : decode cX11_missed 143 = .ok (.ifCond .ne 8, 3) := by decide +kernel
theorem dX11_missed_146 : decode cX11_missed 146 = .ok (.bipush (-3), 2) := by decide +kernel
theorem dX11_missed_148 : decode cX11_missed 148 = .ok (.goto 12, 3) := by decide +kernel
theorem dX11_missed_151 : decode cX11_missed 151 = .ok (.aload_n 0, 1) := by decide +kernel
theorem dX11_missed_152 : decode cX11_missed 152 = .ok (.getfield 66, 3) := by decide +kernel
theorem dX11_missed_155 : decode cX11_missed 155 = .ok (.iload 4, 2) := by decide +kernel
theorem dX11_missed_157 : decode cX11_missed 157 = .ok (.invokevirtual 192, 3) := by decide +kernel
theorem dX11_missed_160 : decode cX11_missed 160 = .ok (.ireturn, 1) := by decide +kernel
theorem dJ6_bitCount_0f7a4_0 : decode cJ6_bitCount_0f7a4 0 = .ok (.iload_n 0, 1) := by decide +kernel
theorem dJ6_bitCount_0f7a4_1 : decode cJ6_bitCount_0f7a4 1 = .ok (.iload_n 0, 1) := by decide +kernel
theorem dJ6_bitCount_0f7a4_2 : decode cJ6_bitCount_0f7a4 2 = .ok (.iconst 1, 1) := by decide +kernel
theorem dJ6_bitCount_0f7a4_3 : decode cJ6_bitCount_0f7a4 3 = .ok (.iushr, 1) := by decide +kernel
theorem dJ6_bitCount_0f7a4_4 : decode cJ6_bitCount_0f7a4 4 = .ok (.ldc_w 265, 3) := by decide +kernel
theorem dJ6_bitCount_0f7a4_7 : decode cJ6_bitCount_0f7a4 7 = .ok (.iand, 1) := by decide +kernel
theorem dJ6_bitCount_0f7a4_8 : decode cJ6_bitCount_0f7a4 8 = .ok (.isub, 1) := by decide +kernel
theorem dJ6_bitCount_0f7a4_9 : decode cJ6_bitCount_0f7a4 9 = .ok (.istore_n 0, 1) := by decide +kernel
theorem dJ6_bitCount_0f7a4_10 : decode cJ6_bitCount_0f7a4 10 = .ok (.iload_n 0, 1) := by decide +kernel
theorem dJ6_bitCount_0f7a4_11 : decode cJ6_bitCount_0f7a4 11 = .ok (.ldc_w 266, 3) := by decide +kernel
theorem dJ6_bitCount_0f7a4_14 : decode cJ6_bitCount_0f7a4 14 = .ok (.iand, 1) := by decide +kernel
theorem dJ6_bitCount_0f7a4_15 : decode cJ6_bitCount_0f7a4 15 = .ok (.iload_n 0, 1) := by decide +kernel
theorem dJ6_bitCount_0f7a4_16 : decode cJ6_bitCount_0f7a4 16 = .ok (.iconst 2, 1) := by decide +kernel
theorem dJ6_bitCount_0f7a4_17 : decode cJ6_bitCount_0f7a4 17 = .ok (.iushr, 1) := by decide +kernel
theorem dJ6_bitCount_0f7a4_18 : decode cJ6_bitCount_0f7a4 18 = .ok (.ldc_w 266, 3) := by decide +kernel
theorem dJ6_bitCount_0f7a4_21 : decode cJ6_bitCount_0f7a4 21 = .ok (.iand, 1) := by decide +kernel
theorem dJ6_bitCount_0f7a4_22 : decode cJ6_bitCount_0f7a4 22 = .ok (.iadd, 1) := by decide +kernel
theorem dJ6_bitCount_0f7a4_23 : decode cJ6_bitCount_0f7a4 23 = .ok (.istore_n 0, 1) := by decide +kernel
theorem dJ6_bitCount_0f7a4_24 : decode cJ6_bitCount_0f7a4 24 = .ok (.iload_n 0, 1) := by decide +kernel
theorem dJ6_bitCount_0f7a4_25 : decode cJ6_bitCount_0f7a4 25 = .ok (.iload_n 0, 1) := by decide +kernel
theorem dJ6_bitCount_0f7a4_26 : decode cJ6_bitCount_0f7a4 26 = .ok (.iconst 4, 1) := by decide +kernel
theorem dJ6_bitCount_0f7a4_27 : decode cJ6_bitCount_0f7a4 27 = .ok (.iushr, 1) := by decide +kernel
theorem dJ6_bitCount_0f7a4_28 : decode cJ6_bitCount_0f7a4 28 = .ok (.iadd, 1) := by decide +kernel
theorem dJ6_bitCount_0f7a4_29 : decode cJ6_bitCount_0f7a4 29 = .ok (.ldc_w 267, 3) := by decide +kernel
theorem dJ6_bitCount_0f7a4_32 : decode cJ6_bitCount_0f7a4 32 = .ok (.iand, 1) := by decide +kernel
theorem dJ6_bitCount_0f7a4_33 : decode cJ6_bitCount_0f7a4 33 = .ok (.istore_n 0, 1) := by decide +kernel
theorem dJ6_bitCount_0f7a4_34 : decode cJ6_bitCount_0f7a4 34 = .ok (.iload_n 0, 1) := by decide +kernel
theorem dJ6_bitCount_0f7a4_35 : decode cJ6_bitCount_0f7a4 35 = .ok (.iload_n 0, 1) := by decide +kernel
theorem dJ6_bitCount_0f7a4_36 : decode cJ6_bitCount_0f7a4 36 = .ok (.bipush 8, 2) := by decide +kernel
theorem dJ6_bitCount_0f7a4_38 : decode cJ6_bitCount_0f7a4 38 = .ok (.iushr, 1) := by decide +kernel
theorem dJ6_bitCount_0f7a4_39 : decode cJ6_bitCount_0f7a4 39 = .ok (.iadd, 1) := by decide +kernel
theorem dJ6_bitCount_0f7a4_40 : decode cJ6_bitCount_0f7a4 40 = .ok (.istore_n 0, 1) := by decide +kernel
theorem dJ6_bitCount_0f7a4_41 : decode cJ6_bitCount_0f7a4 41 = .ok (.iload_n 0, 1) := by decide +kernel
theorem dJ6_bitCount_0f7a4_42 : decode cJ6_bitCount_0f7a4 42 = .ok (.iload_n 0, 1) := by decide +kernel
theorem dJ6_bitCount_0f7a4_43 : decode cJ6_bitCount_0f7a4 43 = .ok (.bipush 16, 2) := by decide +kernel
theorem dJ6_bitCount_0f7a4_45 : decode cJ6_bitCount_0f7a4 45 = .ok (.iushr, 1) := by decide +kernel
theorem dJ6_bitCount_0f7a4_46 : decode cJ6_bitCount_0f7a4 46 = .ok (.iadd, 1) := by decide +kernel
theorem dJ6_bitCount_0f7a4_47 : decode cJ6_bitCount_0f7a4 47 = .ok (.istore_n 0, 1) := by decide +kernel
theorem dJ6_bitCount_0f7a4_48 : decode cJ6_bitCount_0f7a4 48 = .ok (.iload_n 0, 1) := by decide +kernel
theorem dJ6_bitCount_0f7a4_49 : decode cJ6_bitCount_0f7a4 49 = .ok (.bipush 63, 2) := by decide +kernel
theorem dJ6_bitCount_0f7a4_51 : decode cJ6_bitCount_0f7a4 51 = .ok (.iand, 1) := by decide +kernel
theorem dJ6_bitCount_0f7a4_52 : decode cJ6_bitCount_0f7a4 52 = .ok (.ireturn, 1) := by decide +kernel
theorem dX11_soonest_0 : decode cX11_soonest 0 = .ok (.aload_n 0, 1) := by decide +kernel
theorem dX11_soonest_1 : decode cX11_soonest 1 = .ok (.getfield 10, 3) := by decide +kernel
theorem dX11_soonest_4 : decode cX11_soonest 4 = .ok (.iload_n 1, 1) := by decide +kernel
theorem dX11_soonest_5 : decode cX11_soonest 5 = .ok (.invokevirtual 195, 3) := by decide +kernel
theorem dX11_soonest_8 : decode cX11_soonest 8 = .ok (.ifCond .eq 11, 3) := by decide +kernel
theorem dX11_soonest_11 : decode cX11_soonest 11 = .ok (.iload_n 1, 1) := by decide +kernel
theorem dX11_soonest_12 : decode cX11_soonest 12 = .ok (.invokestatic 198, 3) := by decide +kernel
theorem dX11_soonest_15 : decode cX11_soonest 15 = .ok (.iconst 4, 1) := by decide +kernel
theorem dX11_soonest_16 : decode cX11_soonest 16 = .ok (.if_icmp .le 6, 3) := by decide +kernel
theorem dX11_soonest_19 : decode cX11_soonest 19 = .ok (.bipush (-3), 2) := by decide +kernel
theorem dX11_soonest_21 : decode cX11_soonest 21 = .ok (.ireturn, 1) := by decide +kernel
theorem dX11_soonest_22 : decode cX11_soonest 22 = .ok (.aload_n 0, 1) := by decide +kernel
theorem dX11_soonest_23 : decode cX11_soonest 23 = .ok (.getfield 10, 3) := by decide +kernel
theorem dX11_soonest_26 : decode cX11_soonest 26 = .ok (.iload_n 1, 1) := by decide +kernel
theorem dX11_soonest_27 : decode cX11_soonest 27 = .ok (.invokevirtual 203, 3) := by decide +kernel
theorem dX11_soonest_30 : decode cX11_soonest 30 = .ok (.istore_n 3, 1) := by decide +kernel
theorem dX11_soonest_31 : decode cX11_soonest 31 = .ok (.iload_n 2, 1) := by decide +kernel
theorem dX11_soonest_32 : decode cX11_soonest 32 = .ok (.bipush 100, 2) := by decide +kernel
theorem dX11_soonest_34 : decode cX11_soonest 34 = .ok (.bipush 100, 2) := by decide +kernel
theorem dX11_soonest_36 : decode cX11_soonest 36 = .ok (.iload_n 3, 1) := by decide +kernel
theorem dX11_soonest_37 : decode cX11_soonest 37 = .ok (.iadd, 1) := by decide +kernel
theorem dX11_soonest_38 : decode cX11_soonest 38 = .ok (.iconst 1, 1) := by decide +kernel
theorem dX11_soonest_39 : decode cX11_soonest 39 = .ok (.isub, 1) := by decide +kernel
theorem dX11_soonest_40 : decode cX11_soonest 40 = .ok (.invokestatic 84, 3) := by decide +kernel
theorem dX11_soonest_43 : decode cX11_soonest 43 = .ok (.istore 4, 2) := by decide +kernel
theorem dX11_soonest_45 : decode cX11_soonest 45 = .ok (.iload_n 2, 1) := by decide +kernel
theorem dX11_soonest_46 : decode cX11_soonest 46 = .ok (.sipush 200, 3) := by decide +kernel
theorem dX11_soonest_49 : decode cX11_soonest 49 = .ok (.sipush 200, 3) := by decide +kernel
theorem dX11_soonest_52 : decode cX11_soonest 52 = .ok (.iload_n 3, 1) := by decide +kernel
theorem dX11_soonest_53 : decode cX11_soonest 53 = .ok (.iadd, 1) := by decide +kernel
theorem dX11_soonest_54 : decode cX11_soonest 54 = .ok (.iconst 1, 1) := by decide +kernel
theorem dX11_soonest_55 : decode cX11_soonest 55 = .ok (.isub, 1) := by decide +kernel
theorem dX11_soonest_56 : decode cX11_soonest 56 = .ok (.invokestatic 84, 3) := by decide +kernel
theorem dX11_soonest_59 : decode cX11_soonest 59 = .ok (.istore 5, 2) := by decide +kernel
theorem dX11_soonest_61 : decode cX11_soonest 61 = .ok (.iload_n 2, 1) := by decide +kernel
theorem dX11_soonest_62 : decode cX11_soonest 62 = .ok (.iconst (-1), 1) := by decide +kernel
theorem dX11_soonest_63 : decode cX11_soonest 63 = .ok (.if_icmp .eq 16, 3) := by decide +kernel
theorem dX11_soonest_66 : decode cX11_soonest 66 = .ok (.iload 4, 2) := by decide +kernel
theorem dX11_soonest_68 : decode cX11_soonest 68 = .ok (.ifCond .ne 11, 3) := by decide +kernel
theorem dX11_soonest_71 : decode cX11_soonest 71 = .ok (.iload 5, 2) := by decide +kernel
theorem dX11_soonest_73 : decode cX11_soonest 73 = .ok (.ifCond .ne 6, 3) := by decide +kernel
theorem dX11_soonest_76 : decode cX11_soonest 76 = .ok (.bipush (-3), 2) := by decide +kernel
theorem dX11_soonest_78 : decode cX11_soonest 78 = .ok (.ireturn, 1) := by decide +kernel
theorem dX11_soonest_79 : decode cX11_soonest 79 = .ok (.aload_n 0, 1) := by decide +kernel
theorem dX11_soonest_80 : decode cX11_soonest 80 = .ok (.getfield 73, 3) := by decide +kernel
theorem dX11_soonest_83 : decode cX11_soonest 83 = .ok (.iload_n 1, 1) := by decide +kernel
theorem dX11_soonest_84 : decode cX11_soonest 84 = .ok (.invokevirtual 206, 3) := by decide +kernel
theorem dX11_soonest_87 : decode cX11_soonest 87 = .ok (.ifCond .ne 39, 3) := by decide +kernel
theorem dX11_soonest_90 : decode cX11_soonest 90 = .ok (.aload_n 0, 1) := by decide +kernel
theorem dX11_soonest_91 : decode cX11_soonest 91 = .ok (.getfield 73, 3) := by decide +kernel
theorem dX11_soonest_94 : decode cX11_soonest 94 = .ok (.iload_n 1, 1) := by decide +kernel
theorem dX11_soonest_95 : decode cX11_soonest 95 = .ok (.invokevirtual 209, 3) := by decide +kernel
theorem dX11_soonest_98 : decode cX11_soonest 98 = .ok (.aload_n 0, 1) := by decide +kernel
theorem dX11_soonest_99 : decode cX11_soonest 99 = .ok (.getfield 73, 3) := by decide +kernel
theorem dX11_soonest_102 : decode cX11_soonest 102 = .ok (.invokevirtual 212, 3) := by decide +kernel
theorem dX11_soonest_105 : decode cX11_soonest 105 = .ok (.aload_n 0, 1) := by decide +kernel
theorem dX11_soonest_106 : decode cX11_soonest 106 = .ok (.getfield 73, 3) := by decide +kernel
theorem dX11_soonest_109 : decode cX11_soonest 109 = .ok (.invokevirtual 215, 3) := by decide +kernel
theorem dX11_soonest_112 : decode cX11_soonest 112 = .ok (.aload_n 0, 1) := by decide +kernel
theorem dX11_soonest_113 : decode cX11_soonest 113 = .ok (.getfield 73, 3) := by decide +kernel
theorem dX11_soonest_116 : decode cX11_soonest 116 = .ok (.invokevirtual 218, 3) := by decide +kernel
theorem dX11_soonest_119 : decode cX11_soonest 119 = .ok (.aload_n 0, 1) := by decide +kernel
theorem dX11_soonest_120 : decode cX11_soonest 120 = .ok (.getfield 73, 3) := by decide +kernel
theorem dX11_soonest_123 : decode cX11_soonest 123 = .ok (.invokevirtual 221, 3) := by decide +kernel
theorem dX11_soonest_126 : decode cX11_soonest 126 = .ok (.aload_n 0, 1) := by decide +kernel
theorem dX11_soonest_127 : decode cX11_soonest 127 = .ok (.getfield 73, 3) := by decide +kernel
theorem dX11_soonest_130 : decode cX11_soonest 130 = .ok (.invokevirtual 224, 3) := by decide +kernel
theorem dX11_soonest_133 : decode cX11_soonest 133 = .ok (.ifCond .ne 6, 3) := by decide +kernel
theorem dX11_soonest_136 : decode cX11_soonest 136 = .ok (.bipush (-2), 2) := by decide +kernel
theorem dX11_soonest_138 : decode cX11_soonest 138 = .ok (.ireturn, 1) := by decide +kernel
theorem dX11_soonest_139 : decode cX11_soonest 139 = .ok (.iload_n 2, 1) := by decide +kernel
theorem dX11_soonest_140 : decode cX11_soonest 140 = .ok (.iconst (-1), 1) := by decide +kernel
theorem dX11_soonest_141 : decode cX11_soonest 141 = .ok (.if_icmp .ne 11, 3) := by decide +kernel
theorem dX11_soonest_144 : decode cX11_soonest 144 = .ok (.aload_n 0, 1) := by decide +kernel
theorem dX11_soonest_145 : decode cX11_soonest 145 = .ok (.getfield 73, 3) := by decide +kernel
theorem dX11_soonest_148 : decode cX11_soonest 148 = .ok (.getfield 228, 3) := by decide +kernel
theorem dX11_soonest_151 : decode cX11_soonest 151 = .ok (.ireturn, 1) := by decide +kernel
theorem dX11_soonest_152 : decode cX11_soonest 152 = .ok (.iload 4, 2) := by decide +kernel
theorem dX11_soonest_154 : decode cX11_soonest 154 = .ok (.ifCond .eq 17, 3) := by decide +kernel
theorem dX11_soonest_157 : decode cX11_soonest 157 = .ok (.aload_n 0, 1) := by decide +kernel
theorem dX11_soonest_158 : decode cX11_soonest 158 = .ok (.getfield 73, 3) := by decide +kernel
theorem dX11_soonest_161 : decode cX11_soonest 161 = .ok (.iload_n 2, 1) := by decide +kernel
theorem dX11_soonest_162 : decode cX11_soonest 162 = .ok (.bipush 100, 2) := by decide +kernel
theorem dX11_soonest_164 : decode cX11_soonest 164 = .ok (.isub, 1) := by decide +kernel
theorem dX11_soonest_165 : decode cX11_soonest 165 = .ok (.invokevirtual 231, 3) := by decide +kernel
theorem dX11_soonest_168 : decode cX11_soonest 168 = .ok (.goto 15, 3) := by decide +kernel
theorem dX11_soonest_171 : decode cX11_soonest 171 = .ok (.aload_n 0, 1) := by decide +kernel
theorem dX11_soonest_172 : decode cX11_soonest 172 = .ok (.getfield 73, 3) := by decide +kernel
theorem dX11_soonest_175 : decode cX11_soonest 175 = .ok (.iload_n 2, 1) := by decide +kernel
theorem dX11_soonest_176 : decode cX11_soonest 176 = .ok (.sipush 200, 3) := by decide +kernel
theorem dX11_soonest_179 : decode cX11_soonest 179 = .ok (.isub, 1) := by decide +kernel
theorem dX11_soonest_180 : decode cX11_soonest 180 = .ok (.invokevirtual 234, 3) := by decide +kernel
theorem dX11_soonest_183 : decode cX11_soonest 183 = .ok (.ireturn, 1) := by decide +kernel
theorem dX11_byRules_0 : decode cX11_byRules 0 = .ok (.aload_n 0, 1) := by decide +kernel
theorem dX11_byRules_1 : decode cX11_byRules 1 = .ok (.getfield 10, 3) := by decide +kernel
theorem dX11_byRules_4 : decode cX11_byRules 4 = .ok (.iload_n 1, 1) := by decide +kernel
theorem dX11_byRules_5 : decode cX11_byRules 5 = .ok (.invokevirtual 195, 3) := by decide +kernel
theorem dX11_byRules_8 : decode cX11_byRules 8 = .ok (.ifCond .eq 23, 3) := by decide +kernel
theorem dX11_byRules_11 : decode cX11_byRules 11 = .ok (.iload_n 2, 1) := by decide +kernel
theorem dX11_byRules_12 : decode cX11_byRules 12 = .ok (.iconst 1, 1) := by decide +kernel
theorem dX11_byRules_13 : decode cX11_byRules 13 = .ok (.sipush 400, 3) := by decide +kernel
theorem dX11_byRules_16 : decode cX11_byRules 16 = .ok (.invokestatic 84, 3) := by decide +kernel
theorem dX11_byRules_19 : decode cX11_byRules 19 = .ok (.ifCond .eq 12, 3) := by decide +kernel
theorem dX11_byRules_22 : decode cX11_byRules 22 = .ok (.iload_n 3, 1) := by decide +kernel
theorem dX11_byRules_23 : decode cX11_byRules 23 = .ok (.iconst 0, 1) := by decide +kernel
theorem dX11_byRules_24 : decode cX11_byRules 24 = .ok (.iconst 2, 1) := by decide +kernel
theorem dX11_byRules_25 : decode cX11_byRules 25 = .ok (.invokestatic 84, 3) := by decide +kernel
theorem dX11_byRules_28 : decode cX11_byRules 28 = .ok (.ifCond .ne 5, 3) := by decide +kernel
theorem dX11_byRules_31 : decode cX11_byRules 31 = .ok (.iconst (-1), 1) := by decide +kernel
theorem dX11_byRules_32 : decode cX11_byRules 32 = .ok (.ireturn, 1) := by decide +kernel
theorem dX11_byRules_33 : decode cX11_byRules 33 = .ok (.aload_n 0, 1) := by decide +kernel
theorem dX11_byRules_34 : decode cX11_byRules 34 = .ok (.getfield 80, 3) := by decide +kernel
theorem dX11_byRules_37 : decode cX11_byRules 37 = .ok (.iload_n 1, 1) := by decide +kernel
theorem dX11_byRules_38 : decode cX11_byRules 38 = .ok (.iload_n 2, 1) := by decide +kernel
theorem dX11_byRules_39 : decode cX11_byRules 39 = .ok (.invokevirtual 235, 3) := by decide +kernel
theorem dX11_byRules_42 : decode cX11_byRules 42 = .ok (.iload_n 3, 1) := by decide +kernel
theorem dX11_byRules_43 : decode cX11_byRules 43 = .ok (.iconst 1, 1) := by decide +kernel
theorem dX11_byRules_44 : decode cX11_byRules 44 = .ok (.if_icmp .ne 11, 3) := by decide +kernel
theorem dX11_byRules_47 : decode cX11_byRules 47 = .ok (.aload_n 0, 1) := by decide +kernel
theorem dX11_byRules_48 : decode cX11_byRules 48 = .ok (.getfield 80, 3) := by decide +kernel
theorem dX11_byRules_51 : decode cX11_byRules 51 = .ok (.getfield 239, 3) := by decide +kernel
theorem dX11_byRules_54 : decode cX11_byRules 54 = .ok (.ireturn, 1) := by decide +kernel
theorem dX11_byRules_55 : decode cX11_byRules 55 = .ok (.iload_n 3, 1) := by decide +kernel
theorem dX11_byRules_56 : decode cX11_byRules 56 = .ok (.iconst 2, 1) := by decide +kernel
theorem dX11_byRules_57 : decode cX11_byRules 57 = .ok (.if_icmp .ne 11, 3) := by decide +kernel
theorem dX11_byRules_60 : decode cX11_byRules 60 = .ok (.aload_n 0, 1) := by decide +kernel
theorem dX11_byRules_61 : decode cX11_byRules 61 = .ok (.getfield 80, 3) := by decide +kernel
theorem dX11_byRules_64 : decode cX11_byRules 64 = .ok (.getfield 242, 3) := by decide +kernel
theorem dX11_byRules_67 : decode cX11_byRules 67 = .ok (.ireturn, 1) := by decide +kernel
theorem dX11_byRules_68 : decode cX11_byRules 68 = .ok (.aload_n 0, 1) := by decide +kernel
theorem dX11_byRules_69 : decode cX11_byRules 69 = .ok (.getfield 80, 3) := by decide +kernel
theorem dX11_byRules_72 : decode cX11_byRules 72 = .ok (.getfield 245, 3) := by decide +kernel
theorem dX11_byRules_75 : decode cX11_byRules 75 = .ok (.ifCond .le 8, 3) := by decide +kernel
theorem dX11_byRules_78 : decode cX11_byRules 78 = .ok (.bipush (-2), 2) := by decide +kernel
theorem dX11_byRules_80 : decode cX11_byRules 80 = .ok (.goto 10, 3) := by decide +kernel
theorem dX11_byRules_83 : decode cX11_byRules 83 = .ok (.aload_n 0, 1) := by decide +kernel
theorem dX11_byRules_84 : decode cX11_byRules 84 = .ok (.getfield 80, 3) := by decide +kernel
theorem dX11_byRules_87 : decode cX11_byRules 87 = .ok (.getfield 248, 3) := by decide +kernel
theorem dX11_byRules_90 : decode cX11_byRules 90 = .ok (.ireturn, 1) := by decide +kernel
theorem dX11_table_0 : decode cX11_table 0 = .ok (.iload_n 1, 1) := by decide +kernel
theorem dX11_table_1 : decode cX11_table 1 = .ok (.iconst 1, 1) := by decide +kernel
theorem dX11_table_2 : decode cX11_table 2 = .ok (.bipush 12, 2) := by decide +kernel
theorem dX11_table_4 : decode cX11_table 4 = .ok (.invokestatic 84, 3) := by decide +kernel
theorem dX11_table_7 : decode cX11_table 7 = .ok (.ifCond .eq 23, 3) := by decide +kernel
theorem dX11_table_10 : decode cX11_table 10 = .ok (.iload_n 2, 1) := by decide +kernel
theorem dX11_table_11 : decode cX11_table 11 = .ok (.iconst 1, 1) := by decide +kernel
theorem dX11_table_12 : decode cX11_table 12 = .ok (.iconst 5, 1) := by decide +kernel
theorem dX11_table_13 : decode cX11_table 13 = .ok (.invokestatic 84, 3) := by decide +kernel
theorem dX11_table_16 : decode cX11_table 16 = .ok (.ifCond .eq 14, 3) := by decide +kernel
theorem dX11_table_19 : decode cX11_table 19 = .ok (.aload_n 0, 1) := by decide +kernel
theorem dX11_table_20 : decode cX11_table 20 = .ok (.getfield 19, 3) := by decide +kernel
theorem dX11_table_23 : decode cX11_table 23 = .ok (.iload_n 1, 1) := by decide +kernel
theorem dX11_table_24 : decode cX11_table 24 = .ok (.invokevirtual 106, 3) := by decide +kernel
theorem dX11_table_27 : decode cX11_table 27 = .ok (.ifCond .ne 5, 3) := by decide +kernel
theorem dX11_table_30 : decode cX11_table 30 = .ok (.iconst (-1), 1) := by decide +kernel
theorem dX11_table_31 : decode cX11_table 31 = .ok (.ireturn, 1) := by decide +kernel
theorem dX11_table_32 : decode cX11_table 32 = .ok (.iload_n 3, 1) := by decide +kernel
theorem dX11_table_33 : decode cX11_table 33 = .ok (.iconst (-1), 1) := by decide +kernel
theorem dX11_table_34 : decode cX11_table 34 = .ok (.if_icmp .eq 14, 3) := by decide +kernel
theorem dX11_table_37 : decode cX11_table 37 = .ok (.iload_n 3, 1) := by decide +kernel
theorem dX11_table_38 : decode cX11_table 38 = .ok (.iconst 1, 1) := by decide +kernel
theorem dX11_table_39 : decode cX11_table 39 = .ok (.iload_n 1, 1) := by decide +kernel
theorem dX11_table_40 : decode cX11_table 40 = .ok (.invokestatic 84, 3) := by decide +kernel
theorem dX11_table_43 : decode cX11_table 43 = .ok (.ifCond .ne 5, 3) := by decide +kernel
theorem dX11_table_46 : decode cX11_table 46 = .ok (.iconst (-1), 1) := by decide +kernel
theorem dX11_table_47 : decode cX11_table 47 = .ok (.ireturn, 1) := by decide +kernel
theorem dX11_table_48 : decode cX11_table 48 = .ok (.iload_n 3, 1) := by decide +kernel
theorem dX11_table_49 : decode cX11_table 49 = .ok (.iconst (-1), 1) := by decide +kernel
theorem dX11_table_50 : decode cX11_table 50 = .ok (.if_icmp .ne 15, 3) := by decide +kernel
theorem dX11_table_53 : decode cX11_table 53 = .ok (.aload_n 0, 1) := by decide +kernel
theorem dX11_table_54 : decode cX11_table 54 = .ok (.getfield 19, 3) := by decide +kernel
theorem dX11_table_57 : decode cX11_table 57 = .ok (.iload_n 1, 1) := by decide +kernel
theorem dX11_table_58 : decode cX11_table 58 = .ok (.iload_n 2, 1) := by decide +kernel
theorem dX11_table_59 : decode cX11_table 59 = .ok (.invokestatic 251, 3) := by decide +kernel
theorem dX11_table_62 : decode cX11_table 62 = .ok (.goto 13, 3) := by decide +kernel
theorem dX11_table_65 : decode cX11_table 65 = .ok (.aload_n 0, 1) := by decide +kernel
theorem dX11_table_66 : decode cX11_table 66 = .ok (.getfield 19, 3) := by decide +kernel
theorem dX11_table_69 : decode cX11_table 69 = .ok (.iload_n 1, 1) := by decide +kernel
theorem dX11_table_70 : decode cX11_table 70 = .ok (.iload_n 2, 1) := by decide +kernel
theorem dX11_table_71 : decode cX11_table 71 = .ok (.iload_n 3, 1) := by decide +kernel
theorem dX11_table_72 : decode cX11_table 72 = .ok (.invokestatic 257, 3) := by decide +kernel
theorem dX11_table_75 : decode cX11_table 75 = .ok (.istore 4, 2) := by decide +kernel
theorem dX11_table_77 : decode cX11_table 77 = .ok (.aload_n 0, 1) := by decide +kernel
theorem dX11_table_78 : decode cX11_table 78 = .ok (.getfield 19, 3) := by decide +kernel
theorem dX11_table_81 : decode cX11_table 81 = .ok (.invokevirtual 114, 3) := by decide +kernel
theorem dX11_table_84 : decode cX11_table 84 = .ok (.iload 4, 2) := by decide +kernel
theorem dX11_table_86 : decode cX11_table 86 = .ok (.ireturn, 1) := by decide +kernel
theorem dX11_alike_0 : decode cX11_alike 0 = .ok (.iload_n 1, 1) := by decide +kernel
theorem dX11_alike_1 : decode cX11_alike 1 = .ok (.iconst 1, 1) := by decide +kernel
theorem dX11_alike_2 : decode cX11_alike 2 = .ok (.bipush 12, 2) := by decide +kernel
theorem dX11_alike_4 : decode cX11_alike 4 = .ok (.invokestatic 84, 3) := by decide +kernel
theorem dX11_alike_7 : decode cX11_alike 7 = .ok (.ifCond .eq 23, 3) := by decide +kernel
theorem dX11_alike_10 : decode cX11_alike 10 = .ok (.iload_n 2, 1) := by decide +kernel
theorem dX11_alike_11 : decode cX11_alike 11 = .ok (.iconst 0, 1) := by decide +kernel
theorem dX11_alike_12 : decode cX11_alike 12 = .ok (.iconst 4, 1) := by decide +kernel
theorem dX11_alike_13 : decode cX11_alike 13 = .ok (.invokestatic 84, 3) := by decide +kernel
theorem dX11_alike_16 : decode cX11_alike 16 = .ok (.ifCond .eq 14, 3) := by decide +kernel
theorem dX11_alike_19 : decode cX11_alike 19 = .ok (.aload_n 0, 1) := by decide +kernel
theorem dX11_alike_20 : decode cX11_alike 20 = .ok (.getfield 19, 3) := by decide +kernel
theorem dX11_alike_23 : decode cX11_alike 23 = .ok (.iload_n 1, 1) := by decide +kernel
theorem dX11_alike_24 : decode cX11_alike 24 = .ok (.invokevirtual 106, 3) := by decide +kernel
theorem dX11_alike_27 : decode cX11_alike 27 = .ok (.ifCond .ne 5, 3) := by decide +kernel
theorem dX11_alike_30 : decode cX11_alike 30 = .ok (.iconst (-1), 1) := by decide +kernel
theorem dX11_alike_31 : decode cX11_alike 31 = .ok (.ireturn, 1) := by decide +kernel
theorem dX11_alike_32 : decode cX11_alike 32 = .ok (.bipush (-2), 2) := by decide +kernel
theorem dX11_alike_34 : decode cX11_alike 34 = .ok (.istore_n 3, 1) := by decide +kernel
theorem dX11_alike_35 : decode cX11_alike 35 = .ok (.aload_n 0, 1) := by decide +kernel
theorem dX11_alike_36 : decode cX11_alike 36 = .ok (.getfield 19, 3) := by decide +kernel
theorem dX11_alike_39 : decode cX11_alike 39 = .ok (.iload_n 1, 1) := by decide +kernel
theorem dX11_alike_40 : decode cX11_alike 40 = .ok (.invokestatic 261, 3) := by decide +kernel
theorem dX11_alike_43 : decode cX11_alike 43 = .ok (.ifCond .eq 29, 3) := by decide +kernel
theorem dX11_alike_46 : decode cX11_alike 46 = .ok (.iload_n 2, 1) := by decide +kernel
theorem dX11_alike_47 : decode cX11_alike 47 = .ok (.iconst 4, 1) := by decide +kernel
theorem dX11_alike_48 : decode cX11_alike 48 = .ok (.if_icmp .ne 14, 3) := by decide +kernel
theorem dX11_alike_51 : decode cX11_alike 51 = .ok (.aload_n 0, 1) := by decide +kernel
theorem dX11_alike_52 : decode cX11_alike 52 = .ok (.getfield 19, 3) := by decide +kernel
theorem dX11_alike_55 : decode cX11_alike 55 = .ok (.iload_n 1, 1) := by decide +kernel
theorem dX11_alike_56 : decode cX11_alike 56 = .ok (.invokestatic 264, 3) := by decide +kernel
theorem dX11_alike_59 : decode cX11_alike 59 = .ok (.goto 12, 3) := by decide +kernel
theorem dX11_alike_62 : decode cX11_alike 62 = .ok (.aload_n 0, 1) := by decide +kernel
theorem dX11_alike_63 : decode cX11_alike 63 = .ok (.getfield 19, 3) := by decide +kernel
theorem dX11_alike_66 : decode cX11_alike 66 = .ok (.iload_n 1, 1) := by decide +kernel
theorem dX11_alike_67 : decode cX11_alike 67 = .ok (.iload_n 2, 1) := by decide +kernel
theorem dX11_alike_68 : decode cX11_alike 68 = .ok (.invokestatic 268, 3) := by decide +kernel
theorem dX11_alike_71 : decode cX11_alike 71 = .ok (.istore_n 3, 1) := by decide +kernel
theorem dX11_alike_72 : decode cX11_alike 72 = .ok (.aload_n 0, 1) := by decide +kernel
theorem dX11_alike_73 : decode cX11_alike 73 = .ok (.getfield 19, 3) := by decide +kernel
theorem dX11_alike_76 : decode cX11_alike 76 = .ok (.invokevirtual 114, 3) := by decide +kernel
theorem dX11_alike_79 : decode cX11_alike 79 = .ok (.iload_n 3, 1) := by decide +kernel
theorem dX11_alike_80 : decode cX11_alike 80 = .ok (.ireturn, 1) := by decide +kernel
theorem dX11_seed_0 : decode cX11_seed 0 = .ok (.iload_n 1, 1) := by decide +kernel
theorem dX11_seed_1 : decode cX11_seed 1 = .ok (.iconst 0, 1) := by decide +kernel
theorem dX11_seed_2 : decode cX11_seed 2 = .ok (.ldc_w 271, 3) := by decide +kernel
theorem dX11_seed_5 : decode cX11_seed 5 = .ok (.invokestatic 84, 3) := by decide +kernel
theorem dX11_seed_8 : decode cX11_seed 8 = .ok (.ifCond .ne 5, 3) := by decide +kernel
theorem dX11_seed_11 : decode cX11_seed 11 = .ok (.iconst 0, 1) := by decide +kernel
theorem dX11_seed_12 : decode cX11_seed 12 = .ok (.ireturn, 1) := by decide +kernel
theorem dX11_seed_13 : decode cX11_seed 13 = .ok (.aload_n 0, 1) := by decide +kernel
theorem dX11_seed_14 : decode cX11_seed 14 = .ok (.getfield 26, 3) := by decide +kernel
theorem dX11_seed_17 : decode cX11_seed 17 = .ok (.iload_n 1, 1) := by decide +kernel
theorem dX11_seed_18 : decode cX11_seed 18 = .ok (.putfield 272, 3) := by decide +kernel
theorem dX11_seed_21 : decode cX11_seed 21 = .ok (.iconst 1, 1) := by decide +kernel
theorem dX11_seed_22 : decode cX11_seed 22 = .ok (.ireturn, 1) := by decide +kernel
theorem dX11_draw_0 : decode cX11_draw 0 = .ok (.iload_n 1, 1) := by decide +kernel
theorem dX11_draw_1 : decode cX11_draw 1 = .ok (.iconst 1, 1) := by decide +kernel
theorem dX11_draw_2 : decode cX11_draw 2 = .ok (.sipush 200, 3) := by decide +kernel
theorem dX11_draw_5 : decode cX11_draw 5 = .ok (.invokestatic 84, 3) := by decide +kernel
theorem dX11_draw_8 : decode cX11_draw 8 = .ok (.ifCond .ne 5, 3) := by decide +kernel
theorem dX11_draw_11 : decode cX11_draw 11 = .ok (.iconst (-1), 1) := by decide +kernel
theorem dX11_draw_12 : decode cX11_draw 12 = .ok (.ireturn, 1) := by decide +kernel
theorem dX11_draw_13 : decode cX11_draw 13 = .ok (.aload_n 0, 1) := by decide +kernel
theorem dX11_draw_14 : decode cX11_draw 14 = .ok (.getfield 35, 3) := by decide +kernel
theorem dX11_draw_17 : decode cX11_draw 17 = .ok (.invokevirtual 99, 3) := by decide +kernel
theorem dX11_draw_20 : decode cX11_draw 20 = .ok (.aload_n 0, 1) := by decide +kernel
theorem dX11_draw_21 : decode cX11_draw 21 = .ok (.getfield 26, 3) := by decide +kernel
theorem dX11_draw_24 : decode cX11_draw 24 = .ok (.iload_n 1, 1) := by decide +kernel
theorem dX11_draw_25 : decode cX11_draw 25 = .ok (.aload_n 0, 1) := by decide +kernel
theorem dX11_draw_26 : decode cX11_draw 26 = .ok (.getfield 10, 3) := by decide +kernel
theorem dX11_draw_29 : decode cX11_draw 29 = .ok (.invokevirtual 275, 3) := by decide +kernel
theorem dX11_draw_32 : decode cX11_draw 32 = .ok (.ireturn, 1) := by decide +kernel
theorem dX11_keep_0 : decode cX11_keep 0 = .ok (.aload_n 0, 1) := by decide +kernel
theorem dX11_keep_1 : decode cX11_keep 1 = .ok (.getfield 26, 3) := by decide +kernel
theorem dX11_keep_4 : decode cX11_keep 4 = .ok (.invokevirtual 278, 3) := by decide +kernel
theorem dX11_keep_7 : decode cX11_keep 7 = .ok (.aload_n 0, 1) := by decide +kernel
theorem dX11_keep_8 : decode cX11_keep 8 = .ok (.getfield 26, 3) := by decide +kernel
theorem dX11_keep_11 : decode cX11_keep 11 = .ok (.getfield 130, 3) := by decide +kernel
theorem dX11_keep_14 : decode cX11_keep 14 = .ok (.ireturn, 1) := by decide +kernel
theorem dX11_undo_0 : decode cX11_undo 0 = .ok (.aload_n 0, 1) := by decide +kernel
theorem dX11_undo_1 : decode cX11_undo 1 = .ok (.getfield 35, 3) := by decide +kernel
theorem dX11_undo_4 : decode cX11_undo 4 = .ok (.invokevirtual 99, 3) := by decide +kernel
theorem dX11_undo_7 : decode cX11_undo 7 = .ok (.aload_n 0, 1) := by decide +kernel
theorem dX11_undo_8 : decode cX11_undo 8 = .ok (.getfield 26, 3) := by decide +kernel
theorem dX11_undo_11 : decode cX11_undo 11 = .ok (.invokevirtual 281, 3) := by decide +kernel
theorem dX11_undo_14 : decode cX11_undo 14 = .ok (.ireturn, 1) := by decide +kernel
theorem dX11_quiet_0 : decode cX11_quiet 0 = .ok (.aload_n 0, 1) := by decide +kernel
theorem dX11_quiet_1 : decode cX11_quiet 1 = .ok (.getfield 26, 3) := by decide +kernel
theorem dX11_quiet_4 : decode cX11_quiet 4 = .ok (.getfield 130, 3) := by decide +kernel
theorem dX11_quiet_7 : decode cX11_quiet 7 = .ok (.istore_n 1, 1) := by decide +kernel
theorem dX11_quiet_8 : decode cX11_quiet 8 = .ok (.aload_n 0, 1) := by decide +kernel
theorem dX11_quiet_9 : decode cX11_quiet 9 = .ok (.getfield 26, 3) := by decide +kernel
theorem dX11_quiet_12 : decode cX11_quiet 12 = .ok (.iconst 0, 1) := by decide +kernel
theorem dX11_quiet_13 : decode cX11_quiet 13 = .ok (.putfield 130, 3) := by decide +kernel
theorem dX11_quiet_16 : decode cX11_quiet 16 = .ok (.aload_n 0, 1) := by decide +kernel
theorem dX11_quiet_17 : decode cX11_quiet 17 = .ok (.getfield 35, 3) := by decide +kernel
theorem dX11_quiet_20 : decode cX11_quiet 20 = .ok (.invokevirtual 99, 3) := by decide +kernel
theorem dX11_quiet_23 : decode cX11_quiet 23 = .ok (.iload_n 1, 1) := by decide +kernel
theorem dX11_quiet_24 : decode cX11_quiet 24 = .ok (.ireturn, 1) := by decide +kernel
theorem dX11_said_0 : decode cX11_said 0 = .ok (.iload_n 1, 1) := by decide +kernel
theorem dX11_said_1 : decode cX11_said 1 = .ok (.iconst 0, 1) := by decide +kernel
theorem dX11_said_2 : decode cX11_said 2 = .ok (.aload_n 0, 1) := by decide +kernel
theorem dX11_said_3 : decode cX11_said 3 = .ok (.getfield 26, 3) := by decide +kernel
theorem dX11_said_6 : decode cX11_said 6 = .ok (.getfield 130, 3) := by decide +kernel
theorem dX11_said_9 : decode cX11_said 9 = .ok (.iconst 1, 1) := by decide +kernel
theorem dX11_said_10 : decode cX11_said 10 = .ok (.isub, 1) := by decide +kernel
theorem dX11_said_11 : decode cX11_said 11 = .ok (.invokestatic 84, 3) := by decide +kernel
theorem dX11_said_14 : decode cX11_said 14 = .ok (.ifCond .ne 5, 3) := by decide +kernel
theorem dX11_said_17 : decode cX11_said 17 = .ok (.iconst (-1), 1) := by decide +kernel
theorem dX11_said_18 : decode cX11_said 18 = .ok (.ireturn, 1) := by decide +kernel
theorem dX11_said_19 : decode cX11_said 19 = .ok (.iload_n 2, 1) := by decide +kernel
theorem dX11_said_20 : decode cX11_said 20 = .ok (.tableswitch 55 0 2 #[28, 37, 46], 28) := by decide +kernel
theorem dX11_said_48 : decode cX11_said 48 = .ok (.aload_n 0, 1) := by decide +kernel
theorem dX11_said_49 : decode cX11_said 49 = .ok (.getfield 26, 3) := by decide +kernel
theorem dX11_said_52 : decode cX11_said 52 = .ok (.iload_n 1, 1) := by decide +kernel
theorem dX11_said_53 : decode cX11_said 53 = .ok (.invokevirtual 284, 3) := by decide +kernel
theorem dX11_said_56 : decode cX11_said 56 = .ok (.ireturn, 1) := by decide +kernel
theorem dX11_said_57 : decode cX11_said 57 = .ok (.aload_n 0, 1) := by decide +kernel
theorem dX11_said_58 : decode cX11_said 58 = .ok (.getfield 26, 3) := by decide +kernel
theorem dX11_said_61 : decode cX11_said 61 = .ok (.iload_n 1, 1) := by decide +kernel
theorem dX11_said_62 : decode cX11_said 62 = .ok (.invokevirtual 285, 3) := by decide +kernel
theorem dX11_said_65 : decode cX11_said 65 = .ok (.ireturn, 1) := by decide +kernel
theorem dX11_said_66 : decode cX11_said 66 = .ok (.aload_n 0, 1) := by decide +kernel
theorem dX11_said_67 : decode cX11_said 67 = .ok (.getfield 35, 3) := by decide +kernel
theorem dX11_said_70 : decode cX11_said 70 = .ok (.iload_n 1, 1) := by decide +kernel
theorem dX11_said_71 : decode cX11_said 71 = .ok (.invokevirtual 286, 3) := by decide +kernel
theorem dX11_said_74 : decode cX11_said 74 = .ok (.ireturn, 1) := by decide +kernel
theorem dX11_said_75 : decode cX11_said 75 = .ok (.iconst (-1), 1) := by decide +kernel
theorem dX11_said_76 : decode cX11_said 76 = .ok (.ireturn, 1) := by decide +kernel
theorem dX11_firstWrong_0 : decode cX11_firstWrong 0 = .ok (.iconst 0, 1) := by decide +kernel
theorem dX11_firstWrong_1 : decode cX11_firstWrong 1 = .ok (.istore_n 3, 1) := by decide +kernel
theorem dX11_firstWrong_2 : decode cX11_firstWrong 2 = .ok (.iload_n 3, 1) := by decide +kernel
theorem dX11_firstWrong_3 : decode cX11_firstWrong 3 = .ok (.iload_n 2, 1) := by decide +kernel
theorem dX11_firstWrong_4 : decode cX11_firstWrong 4 = .ok (.if_icmp .ge 39, 3) := by decide +kernel
theorem dX11_firstWrong_7 : decode cX11_firstWrong 7 = .ok (.iload_n 3, 1) := by decide +kernel
theorem dX11_firstWrong_8 : decode cX11_firstWrong 8 = .ok (.aload_n 0, 1) := by decide +kernel
theorem dX11_firstWrong_9 : decode cX11_firstWrong 9 = .ok (.getfield 35, 3) := by decide +kernel
theorem dX11_firstWrong_12 : decode cX11_firstWrong 12 = .ok (.getfield 137, 3) := by decide +kernel
theorem dX11_firstWrong_15 : decode cX11_firstWrong 15 = .ok (.if_icmp .ge 20, 3) := by decide +kernel
theorem dX11_firstWrong_18 : decode cX11_firstWrong 18 = .ok (.aload_n 0, 1) := by decide +kernel
theorem dX11_firstWrong_19 : decode cX11_firstWrong 19 = .ok (.getfield 19, 3) := by decide +kernel
theorem dX11_firstWrong_22 : decode cX11_firstWrong 22 = .ok (.iload_n 3, 1) := by decide +kernel
theorem dX11_firstWrong_23 : decode cX11_firstWrong 23 = .ok (.invokevirtual 307, 3) := by decide +kernel
theorem dX11_firstWrong_26 : decode cX11_firstWrong 26 = .ok (.aload_n 0, 1) := by decide +kernel
theorem dX11_firstWrong_27 : decode cX11_firstWrong 27 = .ok (.iload_n 1, 1) := by decide +kernel
theorem dX11_firstWrong_28 : decode cX11_firstWrong 28 = .ok (.iload_n 3, 1) := by decide +kernel
theorem dX11_firstWrong_29 : decode cX11_firstWrong 29 = .ok (.invokevirtual 148, 3) := by decide +kernel
theorem dX11_firstWrong_32 : decode cX11_firstWrong 32 = .ok (.if_icmp .eq 5, 3) := by decide +kernel
theorem dX11_firstWrong_35 : decode cX11_firstWrong 35 = .ok (.iload_n 3, 1) := by decide +kernel
theorem dX11_firstWrong_36 : decode cX11_firstWrong 36 = .ok (.ireturn, 1) := by decide +kernel
theorem dX11_firstWrong_37 : decode cX11_firstWrong 37 = .ok (.iinc 3 1, 3) := by decide +kernel
theorem dX11_firstWrong_40 : decode cX11_firstWrong 40 = .ok (.goto (-38), 3) := by decide +kernel
theorem dX11_firstWrong_43 : decode cX11_firstWrong 43 = .ok (.aload_n 0, 1) := by decide +kernel
theorem dX11_firstWrong_44 : decode cX11_firstWrong 44 = .ok (.getfield 35, 3) := by decide +kernel
theorem dX11_firstWrong_47 : decode cX11_firstWrong 47 = .ok (.getfield 137, 3) := by decide +kernel
theorem dX11_firstWrong_50 : decode cX11_firstWrong 50 = .ok (.iload_n 2, 1) := by decide +kernel
theorem dX11_firstWrong_51 : decode cX11_firstWrong 51 = .ok (.if_icmp .le 7, 3) := by decide +kernel
theorem dX11_firstWrong_54 : decode cX11_firstWrong 54 = .ok (.iload_n 2, 1) := by decide +kernel
theorem dX11_firstWrong_55 : decode cX11_firstWrong 55 = .ok (.goto 4, 3) := by decide +kernel
theorem dX11_firstWrong_58 : decode cX11_firstWrong 58 = .ok (.iconst (-1), 1) := by decide +kernel
theorem dX11_firstWrong_59 : decode cX11_firstWrong 59 = .ok (.ireturn, 1) := by decide +kernel
theorem dX11_check_0 : decode cX11_check 0 = .ok (.aload_n 0, 1) := by decide +kernel
theorem dX11_check_1 : decode cX11_check 1 = .ok (.getfield 10, 3) := by decide +kernel
theorem dX11_check_4 : decode cX11_check 4 = .ok (.iload_n 1, 1) := by decide +kernel
theorem dX11_check_5 : decode cX11_check 5 = .ok (.invokevirtual 121, 3) := by decide +kernel
theorem dX11_check_8 : decode cX11_check 8 = .ok (.ifCond .eq 26, 3) := by decide +kernel
theorem dX11_check_11 : decode cX11_check 11 = .ok (.iload_n 2, 1) := by decide +kernel
theorem dX11_check_12 : decode cX11_check 12 = .ok (.iconst 0, 1) := by decide +kernel
theorem dX11_check_13 : decode cX11_check 13 = .ok (.bipush 55, 2) := by decide +kernel
theorem dX11_check_15 : decode cX11_check 15 = .ok (.invokestatic 84, 3) := by decide +kernel
theorem dX11_check_18 : decode cX11_check 18 = .ok (.ifCond .eq 16, 3) := by decide +kernel
theorem dX11_check_21 : decode cX11_check 21 = .ok (.aload_n 0, 1) := by decide +kernel
theorem dX11_check_22 : decode cX11_check 22 = .ok (.getfield 19, 3) := by decide +kernel
theorem dX11_check_25 : decode cX11_check 25 = .ok (.iconst 4, 1) := by decide +kernel
theorem dX11_check_26 : decode cX11_check 26 = .ok (.iload_n 2, 1) := by decide +kernel
theorem dX11_check_27 : decode cX11_check 27 = .ok (.imul, 1) := by decide +kernel
theorem dX11_check_28 : decode cX11_check 28 = .ok (.invokevirtual 106, 3) := by decide +kernel
theorem dX11_check_31 : decode cX11_check 31 = .ok (.ifCond .ne 6, 3) := by decide +kernel
theorem dX11_check_34 : decode cX11_check 34 = .ok (.bipush (-2), 2) := by decide +kernel
theorem dX11_check_36 : decode cX11_check 36 = .ok (.ireturn, 1) := by decide +kernel
theorem dX11_check_37 : decode cX11_check 37 = .ok (.aload_n 0, 1) := by decide +kernel
theorem dX11_check_38 : decode cX11_check 38 = .ok (.getfield 35, 3) := by decide +kernel
theorem dX11_check_41 : decode cX11_check 41 = .ok (.iload_n 1, 1) := by decide +kernel
theorem dX11_check_42 : decode cX11_check 42 = .ok (.invokevirtual 133, 3) := by decide +kernel
theorem dX11_check_45 : decode cX11_check 45 = .ok (.aload_n 0, 1) := by decide +kernel
theorem dX11_check_46 : decode cX11_check 46 = .ok (.iload_n 1, 1) := by decide +kernel
theorem dX11_check_47 : decode cX11_check 47 = .ok (.iload_n 2, 1) := by decide +kernel
theorem dX11_check_48 : decode cX11_check 48 = .ok (.invokevirtual 289, 3) := by decide +kernel
theorem dX11_check_51 : decode cX11_check 51 = .ok (.istore_n 3, 1) := by decide +kernel
theorem dX11_check_52 : decode cX11_check 52 = .ok (.aload_n 0, 1) := by decide +kernel
theorem dX11_check_53 : decode cX11_check 53 = .ok (.getfield 19, 3) := by decide +kernel
theorem dX11_check_56 : decode cX11_check 56 = .ok (.invokevirtual 114, 3) := by decide +kernel
theorem dX11_check_59 : decode cX11_check 59 = .ok (.iload_n 3, 1) := by decide +kernel
theorem dX11_check_60 : decode cX11_check 60 = .ok (.ireturn, 1) := by decide +kernel
theorem dX11_countWords_0 : decode cX11_countWords 0 = .ok (.aload_n 0, 1) := by decide +kernel
theorem dX11_countWords_1 : decode cX11_countWords 1 = .ok (.getfield 10, 3) := by decide +kernel
theorem dX11_countWords_4 : decode cX11_countWords 4 = .ok (.iload_n 1, 1) := by decide +kernel
theorem dX11_countWords_5 : decode cX11_countWords 5 = .ok (.bipush 10, 2) := by decide +kernel
theorem dX11_countWords_7 : decode cX11_countWords 7 = .ok (.isub, 1) := by decide +kernel
theorem dX11_countWords_8 : decode cX11_countWords 8 = .ok (.invokevirtual 121, 3) := by decide +kernel
theorem dX11_countWords_11 : decode cX11_countWords 11 = .ok (.ifCond .eq 15, 3) := by decide +kernel
theorem dX11_countWords_14 : decode cX11_countWords 14 = .ok (.aload_n 0, 1) := by decide +kernel
theorem dX11_countWords_15 : decode cX11_countWords 15 = .ok (.getfield 10, 3) := by decide +kernel
theorem dX11_countWords_18 : decode cX11_countWords 18 = .ok (.iload_n 1, 1) := by decide +kernel
theorem dX11_countWords_19 : decode cX11_countWords 19 = .ok (.bipush 10, 2) := by decide +kernel
theorem dX11_countWords_21 : decode cX11_countWords 21 = .ok (.isub, 1) := by decide +kernel
theorem dX11_countWords_22 : decode cX11_countWords 22 = .ok (.invokevirtual 301, 3) := by decide +kernel
theorem dX11_countWords_25 : decode cX11_countWords 25 = .ok (.ireturn, 1) := by decide +kernel
theorem dX11_countWords_26 : decode cX11_countWords 26 = .ok (.iload_n 1, 1) := by decide +kernel
theorem dX11_countWords_27 : decode cX11_countWords 27 = .ok (.bipush 20, 2) := by decide +kernel
theorem dX11_countWords_29 : decode cX11_countWords 29 = .ok (.isub, 1) := by decide +kernel
theorem dX11_countWords_30 : decode cX11_countWords 30 = .ok (.istore_n 2, 1) := by decide +kernel
theorem dX11_countWords_31 : decode cX11_countWords 31 = .ok (.iload_n 1, 1) := by decide +kernel
theorem dX11_countWords_32 : decode cX11_countWords 32 = .ok (.bipush 20, 2) := by decide +kernel
theorem dX11_countWords_34 : decode cX11_countWords 34 = .ok (.if_icmp .lt 16, 3) := by decide +kernel
theorem dX11_countWords_37 : decode cX11_countWords 37 = .ok (.aload_n 0, 1) := by decide +kernel
theorem dX11_countWords_38 : decode cX11_countWords 38 = .ok (.getfield 10, 3) := by decide +kernel
theorem dX11_countWords_41 : decode cX11_countWords 41 = .ok (.iload_n 2, 1) := by decide +kernel
theorem dX11_countWords_42 : decode cX11_countWords 42 = .ok (.iconst 4, 1) := by decide +kernel
theorem dX11_countWords_43 : decode cX11_countWords 43 = .ok (.idiv, 1) := by decide +kernel
theorem dX11_countWords_44 : decode cX11_countWords 44 = .ok (.invokevirtual 121, 3) := by decide +kernel
theorem dX11_countWords_47 : decode cX11_countWords 47 = .ok (.ifCond .ne 5, 3) := by decide +kernel
theorem dX11_countWords_50 : decode cX11_countWords 50 = .ok (.iconst (-1), 1) := by decide +kernel
theorem dX11_countWords_51 : decode cX11_countWords 51 = .ok (.ireturn, 1) := by decide +kernel
theorem dX11_countWords_52 : decode cX11_countWords 52 = .ok (.aload_n 0, 1) := by decide +kernel
theorem dX11_countWords_53 : decode cX11_countWords 53 = .ok (.getfield 10, 3) := by decide +kernel
theorem dX11_countWords_56 : decode cX11_countWords 56 = .ok (.iload_n 2, 1) := by decide +kernel
theorem dX11_countWords_57 : decode cX11_countWords 57 = .ok (.iconst 4, 1) := by decide +kernel
theorem dX11_countWords_58 : decode cX11_countWords 58 = .ok (.idiv, 1) := by decide +kernel
theorem dX11_countWords_59 : decode cX11_countWords 59 = .ok (.iload_n 2, 1) := by decide +kernel
theorem dX11_countWords_60 : decode cX11_countWords 60 = .ok (.iconst 4, 1) := by decide +kernel
theorem dX11_countWords_61 : decode cX11_countWords 61 = .ok (.irem, 1) := by decide +kernel
theorem dX11_countWords_62 : decode cX11_countWords 62 = .ok (.invokevirtual 304, 3) := by decide +kernel
theorem dX11_countWords_65 : decode cX11_countWords 65 = .ok (.istore_n 3, 1) := by decide +kernel
theorem dX11_countWords_66 : decode cX11_countWords 66 = .ok (.iload_n 3, 1) := by decide +kernel
theorem dX11_countWords_67 : decode cX11_countWords 67 = .ok (.ifCond .ne 7, 3) := by decide +kernel
theorem dX11_countWords_70 : decode cX11_countWords 70 = .ok (.iconst (-1), 1) := by decide +kernel
theorem dX11_countWords_71 : decode cX11_countWords 71 = .ok (.goto 4, 3) := by decide +kernel
theorem dX11_countWords_74 : decode cX11_countWords 74 = .ok (.iload_n 3, 1) := by decide +kernel
theorem dX11_countWords_75 : decode cX11_countWords 75 = .ok (.ireturn, 1) := by decide +kernel
theorem dX11_count_0 : decode cX11_count 0 = .ok (.iload_n 1, 1) := by decide +kernel
theorem dX11_count_1 : decode cX11_count 1 = .ok (.tableswitch 99 0 6 #[43, 51, 59, 67, 75, 83, 91], 43) := by decide +kernel
theorem dX11_count_44 : decode cX11_count 44 = .ok (.aload_n 0, 1) := by decide +kernel
theorem dX11_count_45 : decode cX11_count 45 = .ok (.getfield 10, 3) := by decide +kernel
theorem dX11_count_48 : decode cX11_count 48 = .ok (.getfield 292, 3) := by decide +kernel
theorem dX11_count_51 : decode cX11_count 51 = .ok (.ireturn, 1) := by decide +kernel
theorem dX11_count_52 : decode cX11_count 52 = .ok (.aload_n 0, 1) := by decide +kernel
theorem dX11_count_53 : decode cX11_count 53 = .ok (.getfield 26, 3) := by decide +kernel
theorem dX11_count_56 : decode cX11_count 56 = .ok (.getfield 130, 3) := by decide +kernel
theorem dX11_count_59 : decode cX11_count 59 = .ok (.ireturn, 1) := by decide +kernel
theorem dX11_count_60 : decode cX11_count 60 = .ok (.aload_n 0, 1) := by decide +kernel
theorem dX11_count_61 : decode cX11_count 61 = .ok (.getfield 44, 3) := by decide +kernel
theorem dX11_count_64 : decode cX11_count 64 = .ok (.invokevirtual 293, 3) := by decide +kernel
theorem dX11_count_67 : decode cX11_count 67 = .ok (.ireturn, 1) := by decide +kernel
theorem dX11_count_68 : decode cX11_count 68 = .ok (.aload_n 0, 1) := by decide +kernel
theorem dX11_count_69 : decode cX11_count 69 = .ok (.getfield 19, 3) := by decide +kernel
theorem dX11_count_72 : decode cX11_count 72 = .ok (.getfield 297, 3) := by decide +kernel
theorem dX11_count_75 : decode cX11_count 75 = .ok (.ireturn, 1) := by decide +kernel
theorem dX11_count_76 : decode cX11_count 76 = .ok (.aload_n 0, 1) := by decide +kernel
theorem dX11_count_77 : decode cX11_count 77 = .ok (.getfield 26, 3) := by decide +kernel
theorem dX11_count_80 : decode cX11_count 80 = .ok (.getfield 272, 3) := by decide +kernel
theorem dX11_count_83 : decode cX11_count 83 = .ok (.ireturn, 1) := by decide +kernel
theorem dX11_count_84 : decode cX11_count 84 = .ok (.aload_n 0, 1) := by decide +kernel
theorem dX11_count_85 : decode cX11_count 85 = .ok (.getfield 10, 3) := by decide +kernel
theorem dX11_count_88 : decode cX11_count 88 = .ok (.getfield 92, 3) := by decide +kernel
theorem dX11_count_91 : decode cX11_count 91 = .ok (.ireturn, 1) := by decide +kernel
theorem dX11_count_92 : decode cX11_count 92 = .ok (.aload_n 0, 1) := by decide +kernel
theorem dX11_count_93 : decode cX11_count 93 = .ok (.getfield 10, 3) := by decide +kernel
theorem dX11_count_96 : decode cX11_count 96 = .ok (.getfield 96, 3) := by decide +kernel
theorem dX11_count_99 : decode cX11_count 99 = .ok (.ireturn, 1) := by decide +kernel
theorem dX11_count_100 : decode cX11_count 100 = .ok (.aload_n 0, 1) := by decide +kernel
theorem dX11_count_101 : decode cX11_count 101 = .ok (.iload_n 1, 1) := by decide +kernel
theorem dX11_count_102 : decode cX11_count 102 = .ok (.invokevirtual 298, 3) := by decide +kernel
theorem dX11_count_105 : decode cX11_count 105 = .ok (.ireturn, 1) := by decide +kernel
