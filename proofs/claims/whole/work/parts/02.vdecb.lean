theorem dX12_lies_0 : decode cX12_lies 0 = .ok (.lload_n 0, 1) := by decide +kernel
theorem dX12_lies_1 : decode cX12_lies 1 = .ok (.lload_n 2, 1) := by decide +kernel
theorem dX12_lies_2 : decode cX12_lies 2 = .ok (.lcmp, 1) := by decide +kernel
theorem dX12_lies_3 : decode cX12_lies 3 = .ok (.ifCond .lt 14, 3) := by decide +kernel
theorem dX12_lies_6 : decode cX12_lies 6 = .ok (.lload_n 0, 1) := by decide +kernel
theorem dX12_lies_7 : decode cX12_lies 7 = .ok (.lload 4, 2) := by decide +kernel
theorem dX12_lies_9 : decode cX12_lies 9 = .ok (.lcmp, 1) := by decide +kernel
theorem dX12_lies_10 : decode cX12_lies 10 = .ok (.ifCond .gt 7, 3) := by decide +kernel
theorem dX12_lies_13 : decode cX12_lies 13 = .ok (.iconst 1, 1) := by decide +kernel
theorem dX12_lies_14 : decode cX12_lies 14 = .ok (.goto 4, 3) := by decide +kernel
theorem dX12_lies_17 : decode cX12_lies 17 = .ok (.iconst 0, 1) := by decide +kernel
theorem dX12_lies_18 : decode cX12_lies 18 = .ok (.ireturn, 1) := by decide +kernel
theorem dX12_has_0 : decode cX12_has 0 = .ok (.iload_n 0, 1) := by decide +kernel
theorem dX12_has_1 : decode cX12_has 1 = .ok (.iload_n 1, 1) := by decide +kernel
theorem dX12_has_2 : decode cX12_has 2 = .ok (.ishr, 1) := by decide +kernel
theorem dX12_has_3 : decode cX12_has 3 = .ok (.iconst 1, 1) := by decide +kernel
theorem dX12_has_4 : decode cX12_has 4 = .ok (.iand, 1) := by decide +kernel
theorem dX12_has_5 : decode cX12_has 5 = .ok (.iconst 1, 1) := by decide +kernel
theorem dX12_has_6 : decode cX12_has 6 = .ok (.if_icmp .ne 7, 3) := by decide +kernel
theorem dX12_has_9 : decode cX12_has 9 = .ok (.iconst 1, 1) := by decide +kernel
theorem dX12_has_10 : decode cX12_has 10 = .ok (.goto 4, 3) := by decide +kernel
theorem dX12_has_13 : decode cX12_has 13 = .ok (.iconst 0, 1) := by decide +kernel
theorem dX12_has_14 : decode cX12_has 14 = .ok (.ireturn, 1) := by decide +kernel
theorem dX12_isMouth_0 : decode cX12_isMouth 0 = .ok (.iload_n 1, 1) := by decide +kernel
theorem dX12_isMouth_1 : decode cX12_isMouth 1 = .ok (.i2l, 1) := by decide +kernel
theorem dX12_isMouth_2 : decode cX12_isMouth 2 = .ok (.lconst 0, 1) := by decide +kernel
theorem dX12_isMouth_3 : decode cX12_isMouth 3 = .ok (.aload_n 0, 1) := by decide +kernel
theorem dX12_isMouth_4 : decode cX12_isMouth 4 = .ok (.getfield 144, 3) := by decide +kernel
theorem dX12_isMouth_7 : decode cX12_isMouth 7 = .ok (.iconst 1, 1) := by decide +kernel
theorem dX12_isMouth_8 : decode cX12_isMouth 8 = .ok (.isub, 1) := by decide +kernel
theorem dX12_isMouth_9 : decode cX12_isMouth 9 = .ok (.i2l, 1) := by decide +kernel
theorem dX12_isMouth_10 : decode cX12_isMouth 10 = .ok (.invokestatic 147, 3) := by decide +kernel
theorem dX12_isMouth_13 : decode cX12_isMouth 13 = .ok (.ireturn, 1) := by decide +kernel
theorem dX12_mouth_0 : decode cX12_mouth 0 = .ok (.aload_n 0, 1) := by decide +kernel
theorem dX12_mouth_1 : decode cX12_mouth 1 = .ok (.getfield 144, 3) := by decide +kernel
theorem dX12_mouth_4 : decode cX12_mouth 4 = .ok (.bipush 8, 2) := by decide +kernel
theorem dX12_mouth_6 : decode cX12_mouth 6 = .ok (.if_icmp .eq 43, 3) := by decide +kernel
theorem dX12_mouth_9 : decode cX12_mouth 9 = .ok (.iload_n 1, 1) := by decide +kernel
theorem dX12_mouth_10 : decode cX12_mouth 10 = .ok (.i2l, 1) := by decide +kernel
theorem dX12_mouth_11 : decode cX12_mouth 11 = .ok (.ldc2_w 151, 3) := by decide +kernel
theorem dX12_mouth_14 : decode cX12_mouth 14 = .ok (.ldc2_w 153, 3) := by decide +kernel
theorem dX12_mouth_17 : decode cX12_mouth 17 = .ok (.invokestatic 147, 3) := by decide +kernel
theorem dX12_mouth_20 : decode cX12_mouth 20 = .ok (.ifCond .eq 29, 3) := by decide +kernel
theorem dX12_mouth_23 : decode cX12_mouth 23 = .ok (.iload_n 2, 1) := by decide +kernel
theorem dX12_mouth_24 : decode cX12_mouth 24 = .ok (.i2l, 1) := by decide +kernel
theorem dX12_mouth_25 : decode cX12_mouth 25 = .ok (.ldc2_w 151, 3) := by decide +kernel
theorem dX12_mouth_28 : decode cX12_mouth 28 = .ok (.ldc2_w 153, 3) := by decide +kernel
theorem dX12_mouth_31 : decode cX12_mouth 31 = .ok (.invokestatic 147, 3) := by decide +kernel
theorem dX12_mouth_34 : decode cX12_mouth 34 = .ok (.ifCond .eq 15, 3) := by decide +kernel
theorem dX12_mouth_37 : decode cX12_mouth 37 = .ok (.iload_n 3, 1) := by decide +kernel
theorem dX12_mouth_38 : decode cX12_mouth 38 = .ok (.i2l, 1) := by decide +kernel
theorem dX12_mouth_39 : decode cX12_mouth 39 = .ok (.lconst 0, 1) := by decide +kernel
theorem dX12_mouth_40 : decode cX12_mouth 40 = .ok (.ldc2_w 155, 3) := by decide +kernel
theorem dX12_mouth_43 : decode cX12_mouth 43 = .ok (.invokestatic 147, 3) := by decide +kernel
theorem dX12_mouth_46 : decode cX12_mouth 46 = .ok (.ifCond .ne 5, 3) := by decide +kernel
theorem dX12_mouth_49 : decode cX12_mouth 49 = .ok (.iconst (-1), 1) := by decide +kernel
theorem dX12_mouth_50 : decode cX12_mouth 50 = .ok (.ireturn, 1) := by decide +kernel
theorem dX12_mouth_51 : decode cX12_mouth 51 = .ok (.aload_n 0, 1) := by decide +kernel
theorem dX12_mouth_52 : decode cX12_mouth 52 = .ok (.getfield 23, 3) := by decide +kernel
theorem dX12_mouth_55 : decode cX12_mouth 55 = .ok (.aload_n 0, 1) := by decide +kernel
theorem dX12_mouth_56 : decode cX12_mouth 56 = .ok (.getfield 144, 3) := by decide +kernel
theorem dX12_mouth_59 : decode cX12_mouth 59 = .ok (.iload_n 1, 1) := by decide +kernel
theorem dX12_mouth_60 : decode cX12_mouth 60 = .ok (.iastore, 1) := by decide +kernel
theorem dX12_mouth_61 : decode cX12_mouth 61 = .ok (.aload_n 0, 1) := by decide +kernel
theorem dX12_mouth_62 : decode cX12_mouth 62 = .ok (.getfield 27, 3) := by decide +kernel
theorem dX12_mouth_65 : decode cX12_mouth 65 = .ok (.aload_n 0, 1) := by decide +kernel
theorem dX12_mouth_66 : decode cX12_mouth 66 = .ok (.getfield 144, 3) := by decide +kernel
theorem dX12_mouth_69 : decode cX12_mouth 69 = .ok (.iload_n 2, 1) := by decide +kernel
theorem dX12_mouth_70 : decode cX12_mouth 70 = .ok (.iastore, 1) := by decide +kernel
theorem dX12_mouth_71 : decode cX12_mouth 71 = .ok (.aload_n 0, 1) := by decide +kernel
theorem dX12_mouth_72 : decode cX12_mouth 72 = .ok (.getfield 30, 3) := by decide +kernel
theorem dX12_mouth_75 : decode cX12_mouth 75 = .ok (.aload_n 0, 1) := by decide +kernel
theorem dX12_mouth_76 : decode cX12_mouth 76 = .ok (.getfield 144, 3) := by decide +kernel
theorem dX12_mouth_79 : decode cX12_mouth 79 = .ok (.iload_n 3, 1) := by decide +kernel
theorem dX12_mouth_80 : decode cX12_mouth 80 = .ok (.iastore, 1) := by decide +kernel
theorem dX12_mouth_81 : decode cX12_mouth 81 = .ok (.aload_n 0, 1) := by decide +kernel
theorem dX12_mouth_82 : decode cX12_mouth 82 = .ok (.dup, 1) := by decide +kernel
theorem dX12_mouth_83 : decode cX12_mouth 83 = .ok (.getfield 144, 3) := by decide +kernel
theorem dX12_mouth_86 : decode cX12_mouth 86 = .ok (.iconst 1, 1) := by decide +kernel
theorem dX12_mouth_87 : decode cX12_mouth 87 = .ok (.iadd, 1) := by decide +kernel
theorem dX12_mouth_88 : decode cX12_mouth 88 = .ok (.putfield 144, 3) := by decide +kernel
theorem dX12_mouth_91 : decode cX12_mouth 91 = .ok (.aload_n 0, 1) := by decide +kernel
theorem dX12_mouth_92 : decode cX12_mouth 92 = .ok (.getfield 144, 3) := by decide +kernel
theorem dX12_mouth_95 : decode cX12_mouth 95 = .ok (.iconst 1, 1) := by decide +kernel
theorem dX12_mouth_96 : decode cX12_mouth 96 = .ok (.isub, 1) := by decide +kernel
theorem dX12_mouth_97 : decode cX12_mouth 97 = .ok (.ireturn, 1) := by decide +kernel
theorem dX12_air_0 : decode cX12_air 0 = .ok (.iload_n 1, 1) := by decide +kernel
theorem dX12_air_1 : decode cX12_air 1 = .ok (.i2l, 1) := by decide +kernel
theorem dX12_air_2 : decode cX12_air 2 = .ok (.lconst 0, 1) := by decide +kernel
theorem dX12_air_3 : decode cX12_air 3 = .ok (.ldc2_w 157, 3) := by decide +kernel
theorem dX12_air_6 : decode cX12_air 6 = .ok (.invokestatic 147, 3) := by decide +kernel
theorem dX12_air_9 : decode cX12_air 9 = .ok (.ifCond .eq 15, 3) := by decide +kernel
theorem dX12_air_12 : decode cX12_air 12 = .ok (.iload_n 2, 1) := by decide +kernel
theorem dX12_air_13 : decode cX12_air 13 = .ok (.i2l, 1) := by decide +kernel
theorem dX12_air_14 : decode cX12_air 14 = .ok (.lconst 1, 1) := by decide +kernel
theorem dX12_air_15 : decode cX12_air 15 = .ok (.ldc2_w 159, 3) := by decide +kernel
theorem dX12_air_18 : decode cX12_air 18 = .ok (.invokestatic 147, 3) := by decide +kernel
theorem dX12_air_21 : decode cX12_air 21 = .ok (.ifCond .ne 5, 3) := by decide +kernel
theorem dX12_air_24 : decode cX12_air 24 = .ok (.iconst 0, 1) := by decide +kernel
theorem dX12_air_25 : decode cX12_air 25 = .ok (.ireturn, 1) := by decide +kernel
theorem dX12_air_26 : decode cX12_air 26 = .ok (.aload_n 0, 1) := by decide +kernel
theorem dX12_air_27 : decode cX12_air 27 = .ok (.iload_n 1, 1) := by decide +kernel
theorem dX12_air_28 : decode cX12_air 28 = .ok (.putfield 13, 3) := by decide +kernel
theorem dX12_air_31 : decode cX12_air 31 = .ok (.aload_n 0, 1) := by decide +kernel
theorem dX12_air_32 : decode cX12_air 32 = .ok (.iload_n 2, 1) := by decide +kernel
theorem dX12_air_33 : decode cX12_air 33 = .ok (.putfield 17, 3) := by decide +kernel
theorem dX12_air_36 : decode cX12_air 36 = .ok (.iconst 1, 1) := by decide +kernel
theorem dX12_air_37 : decode cX12_air 37 = .ok (.ireturn, 1) := by decide +kernel
theorem dX12_push_0 : decode cX12_push 0 = .ok (.bipush 24, 2) := by decide +kernel
theorem dX12_push_2 : decode cX12_push 2 = .ok (.istore_n 2, 1) := by decide +kernel
theorem dX12_push_3 : decode cX12_push 3 = .ok (.iload_n 2, 1) := by decide +kernel
theorem dX12_push_4 : decode cX12_push 4 = .ok (.ifCond .lt 32, 3) := by decide +kernel
theorem dX12_push_7 : decode cX12_push 7 = .ok (.aload_n 0, 1) := by decide +kernel
theorem dX12_push_8 : decode cX12_push 8 = .ok (.getfield 7, 3) := by decide +kernel
theorem dX12_push_11 : decode cX12_push 11 = .ok (.aload_n 0, 1) := by decide +kernel
theorem dX12_push_12 : decode cX12_push 12 = .ok (.getfield 161, 3) := by decide +kernel
theorem dX12_push_15 : decode cX12_push 15 = .ok (.iload_n 1, 1) := by decide +kernel
theorem dX12_push_16 : decode cX12_push 16 = .ok (.iload_n 2, 1) := by decide +kernel
theorem dX12_push_17 : decode cX12_push 17 = .ok (.ishr, 1) := by decide +kernel
theorem dX12_push_18 : decode cX12_push 18 = .ok (.i2b, 1) := by decide +kernel
theorem dX12_push_19 : decode cX12_push 19 = .ok (.bastore, 1) := by decide +kernel
theorem dX12_push_20 : decode cX12_push 20 = .ok (.aload_n 0, 1) := by decide +kernel
theorem dX12_push_21 : decode cX12_push 21 = .ok (.dup, 1) := by decide +kernel
theorem dX12_push_22 : decode cX12_push 22 = .ok (.getfield 161, 3) := by decide +kernel
theorem dX12_push_25 : decode cX12_push 25 = .ok (.iconst 1, 1) := by decide +kernel
theorem dX12_push_26 : decode cX12_push 26 = .ok (.iadd, 1) := by decide +kernel
theorem dX12_push_27 : decode cX12_push 27 = .ok (.putfield 161, 3) := by decide +kernel
theorem dX12_push_30 : decode cX12_push 30 = .ok (.iinc 2 (-8), 3) := by decide +kernel
theorem dX12_push_33 : decode cX12_push 33 = .ok (.goto (-30), 3) := by decide +kernel
theorem dX12_push_36 : decode cX12_push 36 = .ok (.return_, 1) := by decide +kernel
theorem dX12_feed_0 : decode cX12_feed 0 = .ok (.aload_n 0, 1) := by decide +kernel
theorem dX12_feed_1 : decode cX12_feed 1 = .ok (.getfield 161, 3) := by decide +kernel
theorem dX12_feed_4 : decode cX12_feed 4 = .ok (.bipush 20, 2) := by decide +kernel
theorem dX12_feed_6 : decode cX12_feed 6 = .ok (.iadd, 1) := by decide +kernel
theorem dX12_feed_7 : decode cX12_feed 7 = .ok (.sipush 220, 3) := by decide +kernel
theorem dX12_feed_10 : decode cX12_feed 10 = .ok (.if_icmp .le 5, 3) := by decide +kernel
theorem dX12_feed_13 : decode cX12_feed 13 = .ok (.iconst (-1), 1) := by decide +kernel
theorem dX12_feed_14 : decode cX12_feed 14 = .ok (.ireturn, 1) := by decide +kernel
theorem dX12_feed_15 : decode cX12_feed 15 = .ok (.aload_n 0, 1) := by decide +kernel
theorem dX12_feed_16 : decode cX12_feed 16 = .ok (.iload_n 1, 1) := by decide +kernel
theorem dX12_feed_17 : decode cX12_feed 17 = .ok (.invokevirtual 164, 3) := by decide +kernel
theorem dX12_feed_20 : decode cX12_feed 20 = .ok (.aload_n 0, 1) := by decide +kernel
theorem dX12_feed_21 : decode cX12_feed 21 = .ok (.iload_n 2, 1) := by decide +kernel
theorem dX12_feed_22 : decode cX12_feed 22 = .ok (.invokevirtual 164, 3) := by decide +kernel
theorem dX12_feed_25 : decode cX12_feed 25 = .ok (.aload_n 0, 1) := by decide +kernel
theorem dX12_feed_26 : decode cX12_feed 26 = .ok (.iload_n 3, 1) := by decide +kernel
theorem dX12_feed_27 : decode cX12_feed 27 = .ok (.invokevirtual 164, 3) := by decide +kernel
theorem dX12_feed_30 : decode cX12_feed 30 = .ok (.aload_n 0, 1) := by decide +kernel
theorem dX12_feed_31 : decode cX12_feed 31 = .ok (.iload 4, 2) := by decide +kernel
theorem dX12_feed_33 : decode cX12_feed 33 = .ok (.invokevirtual 164, 3) := by decide +kernel
theorem dX12_feed_36 : decode cX12_feed 36 = .ok (.aload_n 0, 1) := by decide +kernel
theorem dX12_feed_37 : decode cX12_feed 37 = .ok (.iload 5, 2) := by decide +kernel
theorem dX12_feed_39 : decode cX12_feed 39 = .ok (.invokevirtual 164, 3) := by decide +kernel
theorem dX12_feed_42 : decode cX12_feed 42 = .ok (.aload_n 0, 1) := by decide +kernel
theorem dX12_feed_43 : decode cX12_feed 43 = .ok (.getfield 161, 3) := by decide +kernel
theorem dX12_feed_46 : decode cX12_feed 46 = .ok (.ireturn, 1) := by decide +kernel
theorem dX12_byteAt_0 : decode cX12_byteAt 0 = .ok (.aload_n 0, 1) := by decide +kernel
theorem dX12_byteAt_1 : decode cX12_byteAt 1 = .ok (.getfield 7, 3) := by decide +kernel
theorem dX12_byteAt_4 : decode cX12_byteAt 4 = .ok (.iload_n 1, 1) := by decide +kernel
theorem dX12_byteAt_5 : decode cX12_byteAt 5 = .ok (.baload, 1) := by decide +kernel
theorem dX12_byteAt_6 : decode cX12_byteAt 6 = .ok (.sipush 255, 3) := by decide +kernel
theorem dX12_byteAt_9 : decode cX12_byteAt 9 = .ok (.iand, 1) := by decide +kernel
theorem dX12_byteAt_10 : decode cX12_byteAt 10 = .ok (.ireturn, 1) := by decide +kernel
theorem dX12_here_0 : decode cX12_here 0 = .ok (.aload_n 0, 1) := by decide +kernel
theorem dX12_here_1 : decode cX12_here 1 = .ok (.getfield 168, 3) := by decide +kernel
theorem dX12_here_4 : decode cX12_here 4 = .ok (.aload_n 0, 1) := by decide +kernel
theorem dX12_here_5 : decode cX12_here 5 = .ok (.getfield 171, 3) := by decide +kernel
theorem dX12_here_8 : decode cX12_here 8 = .ok (.if_icmp .ge 19, 3) := by decide +kernel
theorem dX12_here_11 : decode cX12_here 11 = .ok (.aload_n 0, 1) := by decide +kernel
theorem dX12_here_12 : decode cX12_here 12 = .ok (.getfield 7, 3) := by decide +kernel
theorem dX12_here_15 : decode cX12_here 15 = .ok (.aload_n 0, 1) := by decide +kernel
theorem dX12_here_16 : decode cX12_here 16 = .ok (.getfield 168, 3) := by decide +kernel
theorem dX12_here_19 : decode cX12_here 19 = .ok (.baload, 1) := by decide +kernel
theorem dX12_here_20 : decode cX12_here 20 = .ok (.sipush 255, 3) := by decide +kernel
theorem dX12_here_23 : decode cX12_here 23 = .ok (.iand, 1) := by decide +kernel
theorem dX12_here_24 : decode cX12_here 24 = .ok (.goto 4, 3) := by decide +kernel
theorem dX12_here_27 : decode cX12_here 27 = .ok (.iconst 0, 1) := by decide +kernel
theorem dX12_here_28 : decode cX12_here 28 = .ok (.ireturn, 1) := by decide +kernel
theorem dX12_wrongs_0 : decode cX12_wrongs 0 = .ok (.aload_n 0, 1) := by decide +kernel
theorem dX12_wrongs_1 : decode cX12_wrongs 1 = .ok (.aload_n 0, 1) := by decide +kernel
theorem dX12_wrongs_2 : decode cX12_wrongs 2 = .ok (.getfield 174, 3) := by decide +kernel
theorem dX12_wrongs_5 : decode cX12_wrongs 5 = .ok (.ifCond .ge 10, 3) := by decide +kernel
theorem dX12_wrongs_8 : decode cX12_wrongs 8 = .ok (.aload_n 0, 1) := by decide +kernel
theorem dX12_wrongs_9 : decode cX12_wrongs 9 = .ok (.getfield 174, 3) := by decide +kernel
theorem dX12_wrongs_12 : decode cX12_wrongs 12 = .ok (.goto 10, 3) := by decide +kernel
theorem dX12_wrongs_15 : decode cX12_wrongs 15 = .ok (.sipush (-1000), 3) := by decide +kernel
theorem dX12_wrongs_18 : decode cX12_wrongs 18 = .ok (.iload_n 1, 1) := by decide +kernel
theorem dX12_wrongs_19 : decode cX12_wrongs 19 = .ok (.imul, 1) := by decide +kernel
theorem dX12_wrongs_20 : decode cX12_wrongs 20 = .ok (.iload_n 2, 1) := by decide +kernel
theorem dX12_wrongs_21 : decode cX12_wrongs 21 = .ok (.isub, 1) := by decide +kernel
theorem dX12_wrongs_22 : decode cX12_wrongs 22 = .ok (.putfield 174, 3) := by decide +kernel
theorem dX12_wrongs_25 : decode cX12_wrongs 25 = .ok (.return_, 1) := by decide +kernel
theorem dX12_isGood_0 : decode cX12_isGood 0 = .ok (.aload_n 0, 1) := by decide +kernel
theorem dX12_isGood_1 : decode cX12_isGood 1 = .ok (.getfield 174, 3) := by decide +kernel
theorem dX12_isGood_4 : decode cX12_isGood 4 = .ok (.ifCond .ne 7, 3) := by decide +kernel
theorem dX12_isGood_7 : decode cX12_isGood 7 = .ok (.iconst 1, 1) := by decide +kernel
theorem dX12_isGood_8 : decode cX12_isGood 8 = .ok (.goto 4, 3) := by decide +kernel
theorem dX12_isGood_11 : decode cX12_isGood 11 = .ok (.iconst 0, 1) := by decide +kernel
theorem dX12_isGood_12 : decode cX12_isGood 12 = .ok (.ireturn, 1) := by decide +kernel
theorem dX12_emit_0 : decode cX12_emit 0 = .ok (.aload_n 0, 1) := by decide +kernel
theorem dX12_emit_1 : decode cX12_emit 1 = .ok (.invokevirtual 177, 3) := by decide +kernel
theorem dX12_emit_4 : decode cX12_emit 4 = .ok (.ifCond .ne 4, 3) := by decide +kernel
theorem dX12_emit_7 : decode cX12_emit 7 = .ok (.return_, 1) := by decide +kernel
theorem dX12_emit_8 : decode cX12_emit 8 = .ok (.aload_n 0, 1) := by decide +kernel
theorem dX12_emit_9 : decode cX12_emit 9 = .ok (.getfield 75, 3) := by decide +kernel
theorem dX12_emit_12 : decode cX12_emit 12 = .ok (.aload_n 0, 1) := by decide +kernel
theorem dX12_emit_13 : decode cX12_emit 13 = .ok (.getfield 181, 3) := by decide +kernel
theorem dX12_emit_16 : decode cX12_emit 16 = .ok (.iload_n 1, 1) := by decide +kernel
theorem dX12_emit_17 : decode cX12_emit 17 = .ok (.iastore, 1) := by decide +kernel
theorem dX12_emit_18 : decode cX12_emit 18 = .ok (.aload_n 0, 1) := by decide +kernel
theorem dX12_emit_19 : decode cX12_emit 19 = .ok (.getfield 78, 3) := by decide +kernel
theorem dX12_emit_22 : decode cX12_emit 22 = .ok (.aload_n 0, 1) := by decide +kernel
theorem dX12_emit_23 : decode cX12_emit 23 = .ok (.getfield 181, 3) := by decide +kernel
theorem dX12_emit_26 : decode cX12_emit 26 = .ok (.iload_n 2, 1) := by decide +kernel
theorem dX12_emit_27 : decode cX12_emit 27 = .ok (.iastore, 1) := by decide +kernel
theorem dX12_emit_28 : decode cX12_emit 28 = .ok (.aload_n 0, 1) := by decide +kernel
theorem dX12_emit_29 : decode cX12_emit 29 = .ok (.dup, 1) := by decide +kernel
theorem dX12_emit_30 : decode cX12_emit 30 = .ok (.getfield 181, 3) := by decide +kernel
theorem dX12_emit_33 : decode cX12_emit 33 = .ok (.iconst 1, 1) := by decide +kernel
theorem dX12_emit_34 : decode cX12_emit 34 = .ok (.iadd, 1) := by decide +kernel
theorem dX12_emit_35 : decode cX12_emit 35 = .ok (.putfield 181, 3) := by decide +kernel
theorem dX12_emit_38 : decode cX12_emit 38 = .ok (.return_, 1) := by decide +kernel
theorem dX12_top_0 : decode cX12_top 0 = .ok (.aload_n 0, 1) := by decide +kernel
theorem dX12_top_1 : decode cX12_top 1 = .ok (.getfield 184, 3) := by decide +kernel
theorem dX12_top_4 : decode cX12_top 4 = .ok (.ifCond .le 17, 3) := by decide +kernel
theorem dX12_top_7 : decode cX12_top 7 = .ok (.aload_n 0, 1) := by decide +kernel
theorem dX12_top_8 : decode cX12_top 8 = .ok (.getfield 81, 3) := by decide +kernel
theorem dX12_top_11 : decode cX12_top 11 = .ok (.aload_n 0, 1) := by decide +kernel
theorem dX12_top_12 : decode cX12_top 12 = .ok (.getfield 184, 3) := by decide +kernel
theorem dX12_top_15 : decode cX12_top 15 = .ok (.iconst 1, 1) := by decide +kernel
theorem dX12_top_16 : decode cX12_top 16 = .ok (.isub, 1) := by decide +kernel
theorem dX12_top_17 : decode cX12_top 17 = .ok (.iaload, 1) := by decide +kernel
theorem dX12_top_18 : decode cX12_top 18 = .ok (.goto 4, 3) := by decide +kernel
theorem dX12_top_21 : decode cX12_top 21 = .ok (.iconst 0, 1) := by decide +kernel
theorem dX12_top_22 : decode cX12_top 22 = .ok (.ireturn, 1) := by decide +kernel
theorem dX12_puts_0 : decode cX12_puts 0 = .ok (.aload_n 0, 1) := by decide +kernel
theorem dX12_puts_1 : decode cX12_puts 1 = .ok (.getfield 81, 3) := by decide +kernel
theorem dX12_puts_4 : decode cX12_puts 4 = .ok (.aload_n 0, 1) := by decide +kernel
theorem dX12_puts_5 : decode cX12_puts 5 = .ok (.getfield 184, 3) := by decide +kernel
theorem dX12_puts_8 : decode cX12_puts 8 = .ok (.iload_n 1, 1) := by decide +kernel
theorem dX12_puts_9 : decode cX12_puts 9 = .ok (.iastore, 1) := by decide +kernel
theorem dX12_puts_10 : decode cX12_puts 10 = .ok (.aload_n 0, 1) := by decide +kernel
theorem dX12_puts_11 : decode cX12_puts 11 = .ok (.dup, 1) := by decide +kernel
theorem dX12_puts_12 : decode cX12_puts 12 = .ok (.getfield 184, 3) := by decide +kernel
theorem dX12_puts_15 : decode cX12_puts 15 = .ok (.iconst 1, 1) := by decide +kernel
theorem dX12_puts_16 : decode cX12_puts 16 = .ok (.iadd, 1) := by decide +kernel
theorem dX12_puts_17 : decode cX12_puts 17 = .ok (.putfield 184, 3) := by decide +kernel
theorem dX12_puts_20 : decode cX12_puts 20 = .ok (.aload_n 0, 1) := by decide +kernel
theorem dX12_puts_21 : decode cX12_puts 21 = .ok (.dup, 1) := by decide +kernel
theorem dX12_puts_22 : decode cX12_puts 22 = .ok (.getfield 168, 3) := by decide +kernel
theorem dX12_puts_25 : decode cX12_puts 25 = .ok (.iconst 1, 1) := by decide +kernel
theorem dX12_puts_26 : decode cX12_puts 26 = .ok (.iadd, 1) := by decide +kernel
theorem dX12_puts_27 : decode cX12_puts 27 = .ok (.putfield 168, 3) := by decide +kernel
theorem dX12_puts_30 : decode cX12_puts 30 = .ok (.return_, 1) := by decide +kernel
theorem dX12_opens_0 : decode cX12_opens 0 = .ok (.aload_n 0, 1) := by decide +kernel
theorem dX12_opens_1 : decode cX12_opens 1 = .ok (.getfield 187, 3) := by decide +kernel
theorem dX12_opens_4 : decode cX12_opens 4 = .ok (.bipush 6, 2) := by decide +kernel
theorem dX12_opens_6 : decode cX12_opens 6 = .ok (.if_icmp .ne 12, 3) := by decide +kernel
theorem dX12_opens_9 : decode cX12_opens 9 = .ok (.aload_n 0, 1) := by decide +kernel
theorem dX12_opens_10 : decode cX12_opens 10 = .ok (.iconst 5, 1) := by decide +kernel
theorem dX12_opens_11 : decode cX12_opens 11 = .ok (.aload_n 0, 1) := by decide +kernel
theorem dX12_opens_12 : decode cX12_opens 12 = .ok (.getfield 168, 3) := by decide +kernel
theorem dX12_opens_15 : decode cX12_opens 15 = .ok (.invokevirtual 190, 3) := by decide +kernel
theorem dX12_opens_18 : decode cX12_opens 18 = .ok (.aload_n 0, 1) := by decide +kernel
theorem dX12_opens_19 : decode cX12_opens 19 = .ok (.dup, 1) := by decide +kernel
theorem dX12_opens_20 : decode cX12_opens 20 = .ok (.getfield 187, 3) := by decide +kernel
theorem dX12_opens_23 : decode cX12_opens 23 = .ok (.iconst 1, 1) := by decide +kernel
theorem dX12_opens_24 : decode cX12_opens 24 = .ok (.iadd, 1) := by decide +kernel
theorem dX12_opens_25 : decode cX12_opens 25 = .ok (.putfield 187, 3) := by decide +kernel
theorem dX12_opens_28 : decode cX12_opens 28 = .ok (.aload_n 0, 1) := by decide +kernel
theorem dX12_opens_29 : decode cX12_opens 29 = .ok (.aload_n 0, 1) := by decide +kernel
theorem dX12_opens_30 : decode cX12_opens 30 = .ok (.invokevirtual 194, 3) := by decide +kernel
theorem dX12_opens_33 : decode cX12_opens 33 = .ok (.invokevirtual 198, 3) := by decide +kernel
theorem dX12_opens_36 : decode cX12_opens 36 = .ok (.return_, 1) := by decide +kernel
theorem dX12_seesDigit_0 : decode cX12_seesDigit 0 = .ok (.aload_n 0, 1) := by decide +kernel
theorem dX12_seesDigit_1 : decode cX12_seesDigit 1 = .ok (.invokevirtual 194, 3) := by decide +kernel
theorem dX12_seesDigit_4 : decode cX12_seesDigit 4 = .ok (.i2l, 1) := by decide +kernel
theorem dX12_seesDigit_5 : decode cX12_seesDigit 5 = .ok (.ldc2_w 201, 3) := by decide +kernel
theorem dX12_seesDigit_8 : decode cX12_seesDigit 8 = .ok (.ldc2_w 203, 3) := by decide +kernel
theorem dX12_seesDigit_11 : decode cX12_seesDigit 11 = .ok (.invokestatic 147, 3) := by decide +kernel
theorem dX12_seesDigit_14 : decode cX12_seesDigit 14 = .ok (.ireturn, 1) := by decide +kernel
theorem dX12_reads_0 : decode cX12_reads 0 = .ok (.aload_n 0, 1) := by decide +kernel
theorem dX12_reads_1 : decode cX12_reads 1 = .ok (.getfield 168, 3) := by decide +kernel
theorem dX12_reads_4 : decode cX12_reads 4 = .ok (.istore_n 1, 1) := by decide +kernel
theorem dX12_reads_5 : decode cX12_reads 5 = .ok (.iconst 0, 1) := by decide +kernel
theorem dX12_reads_6 : decode cX12_reads 6 = .ok (.istore_n 2, 1) := by decide +kernel
theorem dX12_reads_7 : decode cX12_reads 7 = .ok (.aload_n 0, 1) := by decide +kernel
theorem dX12_reads_8 : decode cX12_reads 8 = .ok (.invokevirtual 177, 3) := by decide +kernel
theorem dX12_reads_11 : decode cX12_reads 11 = .ok (.ifCond .eq 55, 3) := by decide +kernel
theorem dX12_reads_14 : decode cX12_reads 14 = .ok (.aload_n 0, 1) := by decide +kernel
theorem dX12_reads_15 : decode cX12_reads 15 = .ok (.invokevirtual 205, 3) := by decide +kernel
theorem dX12_reads_18 : decode cX12_reads 18 = .ok (.ifCond .eq 48, 3) := by decide +kernel
theorem dX12_reads_21 : decode cX12_reads 21 = .ok (.aload_n 0, 1) := by decide +kernel
theorem dX12_reads_22 : decode cX12_reads 22 = .ok (.getfield 168, 3) := by decide +kernel
theorem dX12_reads_25 : decode cX12_reads 25 = .ok (.iload_n 1, 1) := by decide +kernel
theorem dX12_reads_26 : decode cX12_reads 26 = .ok (.iconst 5, 1) := by decide +kernel
theorem dX12_reads_27 : decode cX12_reads 27 = .ok (.iadd, 1) := by decide +kernel
theorem dX12_reads_28 : decode cX12_reads 28 = .ok (.if_icmp .ne 12, 3) := by decide +kernel
theorem dX12_reads_31 : decode cX12_reads 31 = .ok (.aload_n 0, 1) := by decide +kernel
theorem dX12_reads_32 : decode cX12_reads 32 = .ok (.iconst 2, 1) := by decide +kernel
theorem dX12_reads_33 : decode cX12_reads 33 = .ok (.aload_n 0, 1) := by decide +kernel
theorem dX12_reads_34 : decode cX12_reads 34 = .ok (.getfield 168, 3) := by decide +kernel
theorem dX12_reads_37 : decode cX12_reads 37 = .ok (.invokevirtual 190, 3) := by decide +kernel
theorem dX12_reads_40 : decode cX12_reads 40 = .ok (.bipush 10, 2) := by decide +kernel
theorem dX12_reads_42 : decode cX12_reads 42 = .ok (.iload_n 2, 1) := by decide +kernel
theorem dX12_reads_43 : decode cX12_reads 43 = .ok (.imul, 1) := by decide +kernel
theorem dX12_reads_44 : decode cX12_reads 44 = .ok (.aload_n 0, 1) := by decide +kernel
theorem dX12_reads_45 : decode cX12_reads 45 = .ok (.invokevirtual 194, 3) := by decide +kernel
theorem dX12_reads_48 : decode cX12_reads 48 = .ok (.iadd, 1) := by decide +kernel
theorem dX12_reads_49 : decode cX12_reads 49 = .ok (.bipush 48, 2) := by decide +kernel
theorem dX12_reads_51 : decode cX12_reads 51 = .ok (.isub, 1) := by decide +kernel
theorem dX12_reads_52 : decode cX12_reads 52 = .ok (.istore_n 2, 1) := by decide +kernel
theorem dX12_reads_53 : decode cX12_reads 53 = .ok (.aload_n 0, 1) := by decide +kernel
theorem dX12_reads_54 : decode cX12_reads 54 = .ok (.dup, 1) := by decide +kernel
theorem dX12_reads_55 : decode cX12_reads 55 = .ok (.getfield 168, 3) := by decide +kernel
theorem dX12_reads_58 : decode cX12_reads 58 = .ok (.iconst 1, 1) := by decide +kernel
theorem dX12_reads_59 : decode cX12_reads 59 = .ok (.iadd, 1) := by decide +kernel
theorem dX12_reads_60 : decode cX12_reads 60 = .ok (.putfield 168, 3) := by decide +kernel
theorem dX12_reads_63 : decode cX12_reads 63 = .ok (.goto (-56), 3) := by decide +kernel
theorem dX12_reads_66 : decode cX12_reads 66 = .ok (.iload_n 2, 1) := by decide +kernel
theorem dX12_reads_67 : decode cX12_reads 67 = .ok (.ireturn, 1) := by decide +kernel
theorem dX12_isTimes_0 : decode cX12_isTimes 0 = .ok (.iload_n 0, 1) := by decide +kernel
theorem dX12_isTimes_1 : decode cX12_isTimes 1 = .ok (.bipush 42, 2) := by decide +kernel
theorem dX12_isTimes_3 : decode cX12_isTimes 3 = .ok (.if_icmp .eq 15, 3) := by decide +kernel
theorem dX12_isTimes_6 : decode cX12_isTimes 6 = .ok (.iload_n 0, 1) := by decide +kernel
theorem dX12_isTimes_7 : decode cX12_isTimes 7 = .ok (.bipush 47, 2) := by decide +kernel
theorem dX12_isTimes_9 : decode cX12_isTimes 9 = .ok (.if_icmp .eq 9, 3) := by decide +kernel
theorem dX12_isTimes_12 : decode cX12_isTimes 12 = .ok (.iload_n 0, 1) := by decide +kernel
theorem dX12_isTimes_13 : decode cX12_isTimes 13 = .ok (.bipush 37, 2) := by decide +kernel
theorem dX12_isTimes_15 : decode cX12_isTimes 15 = .ok (.if_icmp .ne 7, 3) := by decide +kernel
theorem dX12_isTimes_18 : decode cX12_isTimes 18 = .ok (.iconst 1, 1) := by decide +kernel
theorem dX12_isTimes_19 : decode cX12_isTimes 19 = .ok (.goto 4, 3) := by decide +kernel
theorem dX12_isTimes_22 : decode cX12_isTimes 22 = .ok (.iconst 0, 1) := by decide +kernel
theorem dX12_isTimes_23 : decode cX12_isTimes 23 = .ok (.ireturn, 1) := by decide +kernel
theorem dX12_isPlus_0 : decode cX12_isPlus 0 = .ok (.iload_n 0, 1) := by decide +kernel
theorem dX12_isPlus_1 : decode cX12_isPlus 1 = .ok (.bipush 43, 2) := by decide +kernel
theorem dX12_isPlus_3 : decode cX12_isPlus 3 = .ok (.if_icmp .eq 9, 3) := by decide +kernel
theorem dX12_isPlus_6 : decode cX12_isPlus 6 = .ok (.iload_n 0, 1) := by decide +kernel
theorem dX12_isPlus_7 : decode cX12_isPlus 7 = .ok (.bipush 45, 2) := by decide +kernel
theorem dX12_isPlus_9 : decode cX12_isPlus 9 = .ok (.if_icmp .ne 7, 3) := by decide +kernel
theorem dX12_isPlus_12 : decode cX12_isPlus 12 = .ok (.iconst 1, 1) := by decide +kernel
theorem dX12_isPlus_13 : decode cX12_isPlus 13 = .ok (.goto 4, 3) := by decide +kernel
theorem dX12_isPlus_16 : decode cX12_isPlus 16 = .ok (.iconst 0, 1) := by decide +kernel
theorem dX12_isPlus_17 : decode cX12_isPlus 17 = .ok (.ireturn, 1) := by decide +kernel
theorem dX12_isSign_0 : decode cX12_isSign 0 = .ok (.iload_n 0, 1) := by decide +kernel
theorem dX12_isSign_1 : decode cX12_isSign 1 = .ok (.bipush 60, 2) := by decide +kernel
theorem dX12_isSign_3 : decode cX12_isSign 3 = .ok (.if_icmp .eq 15, 3) := by decide +kernel
theorem dX12_isSign_6 : decode cX12_isSign 6 = .ok (.iload_n 0, 1) := by decide +kernel
theorem dX12_isSign_7 : decode cX12_isSign 7 = .ok (.bipush 62, 2) := by decide +kernel
theorem dX12_isSign_9 : decode cX12_isSign 9 = .ok (.if_icmp .eq 9, 3) := by decide +kernel
theorem dX12_isSign_12 : decode cX12_isSign 12 = .ok (.iload_n 0, 1) := by decide +kernel
theorem dX12_isSign_13 : decode cX12_isSign 13 = .ok (.bipush 61, 2) := by decide +kernel
theorem dX12_isSign_15 : decode cX12_isSign 15 = .ok (.if_icmp .ne 7, 3) := by decide +kernel
theorem dX12_isSign_18 : decode cX12_isSign 18 = .ok (.iconst 1, 1) := by decide +kernel
theorem dX12_isSign_19 : decode cX12_isSign 19 = .ok (.goto 4, 3) := by decide +kernel
theorem dX12_isSign_22 : decode cX12_isSign 22 = .ok (.iconst 0, 1) := by decide +kernel
theorem dX12_isSign_23 : decode cX12_isSign 23 = .ok (.ireturn, 1) := by decide +kernel
theorem dX12_isValue_0 : decode cX12_isValue 0 = .ok (.iload_n 0, 1) := by decide +kernel
theorem dX12_isValue_1 : decode cX12_isValue 1 = .ok (.bipush 103, 2) := by decide +kernel
theorem dX12_isValue_3 : decode cX12_isValue 3 = .ok (.if_icmp .eq 57, 3) := by decide +kernel
theorem dX12_isValue_6 : decode cX12_isValue 6 = .ok (.iload_n 0, 1) := by decide +kernel
theorem dX12_isValue_7 : decode cX12_isValue 7 = .ok (.bipush 119, 2) := by decide +kernel
theorem dX12_isValue_9 : decode cX12_isValue 9 = .ok (.if_icmp .eq 51, 3) := by decide +kernel
theorem dX12_isValue_12 : decode cX12_isValue 12 = .ok (.iload_n 0, 1) := by decide +kernel
theorem dX12_isValue_13 : decode cX12_isValue 13 = .ok (.bipush 108, 2) := by decide +kernel
theorem dX12_isValue_15 : decode cX12_isValue 15 = .ok (.if_icmp .eq 45, 3) := by decide +kernel
theorem dX12_isValue_18 : decode cX12_isValue 18 = .ok (.iload_n 0, 1) := by decide +kernel
theorem dX12_isValue_19 : decode cX12_isValue 19 = .ok (.bipush 112, 2) := by decide +kernel
theorem dX12_isValue_21 : decode cX12_isValue 21 = .ok (.if_icmp .eq 39, 3) := by decide +kernel
theorem dX12_isValue_24 : decode cX12_isValue 24 = .ok (.iload_n 0, 1) := by decide +kernel
theorem dX12_isValue_25 : decode cX12_isValue 25 = .ok (.bipush 115, 2) := by decide +kernel
theorem dX12_isValue_27 : decode cX12_isValue 27 = .ok (.if_icmp .eq 33, 3) := by decide +kernel
theorem dX12_isValue_30 : decode cX12_isValue 30 = .ok (.iload_n 0, 1) := by decide +kernel
theorem dX12_isValue_31 : decode cX12_isValue 31 = .ok (.bipush 100, 2) := by decide +kernel
theorem dX12_isValue_33 : decode cX12_isValue 33 = .ok (.if_icmp .eq 27, 3) := by decide +kernel
theorem dX12_isValue_36 : decode cX12_isValue 36 = .ok (.iload_n 0, 1) := by decide +kernel
theorem dX12_isValue_37 : decode cX12_isValue 37 = .ok (.bipush 101, 2) := by decide +kernel
theorem dX12_isValue_39 : decode cX12_isValue 39 = .ok (.if_icmp .eq 21, 3) := by decide +kernel
theorem dX12_isValue_42 : decode cX12_isValue 42 = .ok (.iload_n 0, 1) := by decide +kernel
theorem dX12_isValue_43 : decode cX12_isValue 43 = .ok (.bipush 107, 2) := by decide +kernel
theorem dX12_isValue_45 : decode cX12_isValue 45 = .ok (.if_icmp .eq 15, 3) := by decide +kernel
theorem dX12_isValue_48 : decode cX12_isValue 48 = .ok (.iload_n 0, 1) := by decide +kernel
theorem dX12_isValue_49 : decode cX12_isValue 49 = .ok (.bipush 97, 2) := by decide +kernel
theorem dX12_isValue_51 : decode cX12_isValue 51 = .ok (.if_icmp .eq 9, 3) := by decide +kernel
theorem dX12_isValue_54 : decode cX12_isValue 54 = .ok (.iload_n 0, 1) := by decide +kernel
theorem dX12_isValue_55 : decode cX12_isValue 55 = .ok (.bipush 102, 2) := by decide +kernel
theorem dX12_isValue_57 : decode cX12_isValue 57 = .ok (.if_icmp .ne 7, 3) := by decide +kernel
theorem dX12_isValue_60 : decode cX12_isValue 60 = .ok (.iconst 1, 1) := by decide +kernel
theorem dX12_isValue_61 : decode cX12_isValue 61 = .ok (.goto 4, 3) := by decide +kernel
theorem dX12_isValue_64 : decode cX12_isValue 64 = .ok (.iconst 0, 1) := by decide +kernel
theorem dX12_isValue_65 : decode cX12_isValue 65 = .ok (.ireturn, 1) := by decide +kernel
theorem dX12_sums_0 : decode cX12_sums 0 = .ok (.aload_n 0, 1) := by decide +kernel
theorem dX12_sums_1 : decode cX12_sums 1 = .ok (.invokevirtual 208, 3) := by decide +kernel
theorem dX12_sums_4 : decode cX12_sums 4 = .ok (.invokestatic 211, 3) := by decide +kernel
theorem dX12_sums_7 : decode cX12_sums 7 = .ok (.ifCond .ne 17, 3) := by decide +kernel
theorem dX12_sums_10 : decode cX12_sums 10 = .ok (.iload_n 1, 1) := by decide +kernel
theorem dX12_sums_11 : decode cX12_sums 11 = .ok (.ifCond .eq 35, 3) := by decide +kernel
theorem dX12_sums_14 : decode cX12_sums 14 = .ok (.aload_n 0, 1) := by decide +kernel
theorem dX12_sums_15 : decode cX12_sums 15 = .ok (.invokevirtual 208, 3) := by decide +kernel
theorem dX12_sums_18 : decode cX12_sums 18 = .ok (.invokestatic 215, 3) := by decide +kernel
theorem dX12_sums_21 : decode cX12_sums 21 = .ok (.ifCond .eq 25, 3) := by decide +kernel
theorem dX12_sums_24 : decode cX12_sums 24 = .ok (.aload_n 0, 1) := by decide +kernel
theorem dX12_sums_25 : decode cX12_sums 25 = .ok (.aload_n 0, 1) := by decide +kernel
theorem dX12_sums_26 : decode cX12_sums 26 = .ok (.invokevirtual 208, 3) := by decide +kernel
theorem dX12_sums_29 : decode cX12_sums 29 = .ok (.iconst 0, 1) := by decide +kernel
theorem dX12_sums_30 : decode cX12_sums 30 = .ok (.invokevirtual 218, 3) := by decide +kernel
theorem dX12_sums_33 : decode cX12_sums 33 = .ok (.aload_n 0, 1) := by decide +kernel
theorem dX12_sums_34 : decode cX12_sums 34 = .ok (.dup, 1) := by decide +kernel
theorem dX12_sums_35 : decode cX12_sums 35 = .ok (.getfield 184, 3) := by decide +kernel
theorem dX12_sums_38 : decode cX12_sums 38 = .ok (.iconst 1, 1) := by decide +kernel
theorem dX12_sums_39 : decode cX12_sums 39 = .ok (.isub, 1) := by decide +kernel
theorem dX12_sums_40 : decode cX12_sums 40 = .ok (.putfield 184, 3) := by decide +kernel
theorem dX12_sums_43 : decode cX12_sums 43 = .ok (.goto (-43), 3) := by decide +kernel
theorem dX12_sums_46 : decode cX12_sums 46 = .ok (.return_, 1) := by decide +kernel
theorem dX12_joins_0 : decode cX12_joins 0 = .ok (.aload_n 0, 1) := by decide +kernel
theorem dX12_joins_1 : decode cX12_joins 1 = .ok (.invokevirtual 208, 3) := by decide +kernel
theorem dX12_joins_4 : decode cX12_joins 4 = .ok (.bipush 38, 2) := by decide +kernel
theorem dX12_joins_6 : decode cX12_joins 6 = .ok (.if_icmp .eq 16, 3) := by decide +kernel
theorem dX12_joins_9 : decode cX12_joins 9 = .ok (.iload_n 1, 1) := by decide +kernel
theorem dX12_joins_10 : decode cX12_joins 10 = .ok (.ifCond .eq 34, 3) := by decide +kernel
theorem dX12_joins_13 : decode cX12_joins 13 = .ok (.aload_n 0, 1) := by decide +kernel
theorem dX12_joins_14 : decode cX12_joins 14 = .ok (.invokevirtual 208, 3) := by decide +kernel
theorem dX12_joins_17 : decode cX12_joins 17 = .ok (.bipush 124, 2) := by decide +kernel
theorem dX12_joins_19 : decode cX12_joins 19 = .ok (.if_icmp .ne 25, 3) := by decide +kernel
theorem dX12_joins_22 : decode cX12_joins 22 = .ok (.aload_n 0, 1) := by decide +kernel
theorem dX12_joins_23 : decode cX12_joins 23 = .ok (.aload_n 0, 1) := by decide +kernel
theorem dX12_joins_24 : decode cX12_joins 24 = .ok (.invokevirtual 208, 3) := by decide +kernel
theorem dX12_joins_27 : decode cX12_joins 27 = .ok (.iconst 0, 1) := by decide +kernel
theorem dX12_joins_28 : decode cX12_joins 28 = .ok (.invokevirtual 218, 3) := by decide +kernel
theorem dX12_joins_31 : decode cX12_joins 31 = .ok (.aload_n 0, 1) := by decide +kernel
theorem dX12_joins_32 : decode cX12_joins 32 = .ok (.dup, 1) := by decide +kernel
theorem dX12_joins_33 : decode cX12_joins 33 = .ok (.getfield 184, 3) := by decide +kernel
theorem dX12_joins_36 : decode cX12_joins 36 = .ok (.iconst 1, 1) := by decide +kernel
theorem dX12_joins_37 : decode cX12_joins 37 = .ok (.isub, 1) := by decide +kernel
theorem dX12_joins_38 : decode cX12_joins 38 = .ok (.putfield 184, 3) := by decide +kernel
theorem dX12_joins_41 : decode cX12_joins 41 = .ok (.goto (-41), 3) := by decide +kernel
theorem dX12_joins_44 : decode cX12_joins 44 = .ok (.return_, 1) := by decide +kernel
theorem dX12_ends_0 : decode cX12_ends 0 = .ok (.aload_n 0, 1) := by decide +kernel
theorem dX12_ends_1 : decode cX12_ends 1 = .ok (.invokevirtual 208, 3) := by decide +kernel
theorem dX12_ends_4 : decode cX12_ends 4 = .ok (.bipush 33, 2) := by decide +kernel
theorem dX12_ends_6 : decode cX12_ends 6 = .ok (.if_icmp .ne 32, 3) := by decide +kernel
theorem dX12_ends_9 : decode cX12_ends 9 = .ok (.aload_n 0, 1) := by decide +kernel
theorem dX12_ends_10 : decode cX12_ends 10 = .ok (.iconst 2, 1) := by decide +kernel
theorem dX12_ends_11 : decode cX12_ends 11 = .ok (.iconst 0, 1) := by decide +kernel
theorem dX12_ends_12 : decode cX12_ends 12 = .ok (.invokevirtual 218, 3) := by decide +kernel
theorem dX12_ends_15 : decode cX12_ends 15 = .ok (.aload_n 0, 1) := by decide +kernel
theorem dX12_ends_16 : decode cX12_ends 16 = .ok (.dup, 1) := by decide +kernel
theorem dX12_ends_17 : decode cX12_ends 17 = .ok (.getfield 184, 3) := by decide +kernel
theorem dX12_ends_20 : decode cX12_ends 20 = .ok (.iconst 1, 1) := by decide +kernel
theorem dX12_ends_21 : decode cX12_ends 21 = .ok (.isub, 1) := by decide +kernel
theorem dX12_ends_22 : decode cX12_ends 22 = .ok (.putfield 184, 3) := by decide +kernel
theorem dX12_ends_25 : decode cX12_ends 25 = .ok (.aload_n 0, 1) := by decide +kernel
theorem dX12_ends_26 : decode cX12_ends 26 = .ok (.dup, 1) := by decide +kernel
theorem dX12_ends_27 : decode cX12_ends 27 = .ok (.getfield 187, 3) := by decide +kernel
theorem dX12_ends_30 : decode cX12_ends 30 = .ok (.iconst 1, 1) := by decide +kernel
theorem dX12_ends_31 : decode cX12_ends 31 = .ok (.isub, 1) := by decide +kernel
theorem dX12_ends_32 : decode cX12_ends 32 = .ok (.putfield 187, 3) := by decide +kernel
theorem dX12_ends_35 : decode cX12_ends 35 = .ok (.goto (-35), 3) := by decide +kernel
theorem dX12_ends_38 : decode cX12_ends 38 = .ok (.return_, 1) := by decide +kernel
theorem dX12_factor_0 : decode cX12_factor 0 = .ok (.aload_n 0, 1) := by decide +kernel
theorem dX12_factor_1 : decode cX12_factor 1 = .ok (.invokevirtual 177, 3) := by decide +kernel
theorem dX12_factor_4 : decode cX12_factor 4 = .ok (.ifCond .eq 19, 3) := by decide +kernel
theorem dX12_factor_7 : decode cX12_factor 7 = .ok (.aload_n 0, 1) := by decide +kernel
theorem dX12_factor_8 : decode cX12_factor 8 = .ok (.invokevirtual 194, 3) := by decide +kernel
theorem dX12_factor_11 : decode cX12_factor 11 = .ok (.bipush 91, 2) := by decide +kernel
theorem dX12_factor_13 : decode cX12_factor 13 = .ok (.if_icmp .ne 10, 3) := by decide +kernel
theorem dX12_factor_16 : decode cX12_factor 16 = .ok (.aload_n 0, 1) := by decide +kernel
theorem dX12_factor_17 : decode cX12_factor 17 = .ok (.invokevirtual 221, 3) := by decide +kernel
theorem dX12_factor_20 : decode cX12_factor 20 = .ok (.goto (-20), 3) := by decide +kernel
theorem dX12_factor_23 : decode cX12_factor 23 = .ok (.aload_n 0, 1) := by decide +kernel
theorem dX12_factor_24 : decode cX12_factor 24 = .ok (.invokevirtual 177, 3) := by decide +kernel
theorem dX12_factor_27 : decode cX12_factor 27 = .ok (.ifCond .ne 4, 3) := by decide +kernel
theorem dX12_factor_30 : decode cX12_factor 30 = .ok (.return_, 1) := by decide +kernel
theorem dX12_factor_31 : decode cX12_factor 31 = .ok (.aload_n 0, 1) := by decide +kernel
theorem dX12_factor_32 : decode cX12_factor 32 = .ok (.invokevirtual 205, 3) := by decide +kernel
theorem dX12_factor_35 : decode cX12_factor 35 = .ok (.ifCond .eq 15, 3) := by decide +kernel
theorem dX12_factor_38 : decode cX12_factor 38 = .ok (.aload_n 0, 1) := by decide +kernel
theorem dX12_factor_39 : decode cX12_factor 39 = .ok (.iconst 0, 1) := by decide +kernel
theorem dX12_factor_40 : decode cX12_factor 40 = .ok (.aload_n 0, 1) := by decide +kernel
theorem dX12_factor_41 : decode cX12_factor 41 = .ok (.invokevirtual 224, 3) := by decide +kernel
theorem dX12_factor_44 : decode cX12_factor 44 = .ok (.invokevirtual 218, 3) := by decide +kernel
theorem dX12_factor_47 : decode cX12_factor 47 = .ok (.goto 44, 3) := by decide +kernel
theorem dX12_factor_50 : decode cX12_factor 50 = .ok (.aload_n 0, 1) := by decide +kernel
theorem dX12_factor_51 : decode cX12_factor 51 = .ok (.invokevirtual 194, 3) := by decide +kernel
theorem dX12_factor_54 : decode cX12_factor 54 = .ok (.invokestatic 227, 3) := by decide +kernel
theorem dX12_factor_57 : decode cX12_factor 57 = .ok (.ifCond .eq 25, 3) := by decide +kernel
theorem dX12_factor_60 : decode cX12_factor 60 = .ok (.aload_n 0, 1) := by decide +kernel
theorem dX12_factor_61 : decode cX12_factor 61 = .ok (.iconst 1, 1) := by decide +kernel
theorem dX12_factor_62 : decode cX12_factor 62 = .ok (.aload_n 0, 1) := by decide +kernel
theorem dX12_factor_63 : decode cX12_factor 63 = .ok (.invokevirtual 194, 3) := by decide +kernel
theorem dX12_factor_66 : decode cX12_factor 66 = .ok (.invokevirtual 218, 3) := by decide +kernel
theorem dX12_factor_69 : decode cX12_factor 69 = .ok (.aload_n 0, 1) := by decide +kernel
theorem dX12_factor_70 : decode cX12_factor 70 = .ok (.dup, 1) := by decide +kernel
theorem dX12_factor_71 : decode cX12_factor 71 = .ok (.getfield 168, 3) := by decide +kernel
theorem dX12_factor_74 : decode cX12_factor 74 = .ok (.iconst 1, 1) := by decide +kernel
theorem dX12_factor_75 : decode cX12_factor 75 = .ok (.iadd, 1) := by decide +kernel
theorem dX12_factor_76 : decode cX12_factor 76 = .ok (.putfield 168, 3) := by decide +kernel
theorem dX12_factor_79 : decode cX12_factor 79 = .ok (.goto 12, 3) := by decide +kernel
theorem dX12_factor_82 : decode cX12_factor 82 = .ok (.aload_n 0, 1) := by decide +kernel
theorem dX12_factor_83 : decode cX12_factor 83 = .ok (.iconst 1, 1) := by decide +kernel
theorem dX12_factor_84 : decode cX12_factor 84 = .ok (.aload_n 0, 1) := by decide +kernel
theorem dX12_factor_85 : decode cX12_factor 85 = .ok (.getfield 168, 3) := by decide +kernel
theorem dX12_factor_88 : decode cX12_factor 88 = .ok (.invokevirtual 190, 3) := by decide +kernel
theorem dX12_factor_91 : decode cX12_factor 91 = .ok (.return_, 1) := by decide +kernel
theorem dX12_stays_0 : decode cX12_stays 0 = .ok (.aload_n 0, 1) := by decide +kernel
theorem dX12_stays_1 : decode cX12_stays 1 = .ok (.invokevirtual 194, 3) := by decide +kernel
theorem dX12_stays_4 : decode cX12_stays 4 = .ok (.istore_n 1, 1) := by decide +kernel
theorem dX12_stays_5 : decode cX12_stays 5 = .ok (.iload_n 1, 1) := by decide +kernel
theorem dX12_stays_6 : decode cX12_stays 6 = .ok (.invokestatic 211, 3) := by decide +kernel
theorem dX12_stays_9 : decode cX12_stays 9 = .ok (.ifCond .ne 10, 3) := by decide +kernel
theorem dX12_stays_12 : decode cX12_stays 12 = .ok (.iload_n 1, 1) := by decide +kernel
theorem dX12_stays_13 : decode cX12_stays 13 = .ok (.invokestatic 215, 3) := by decide +kernel
theorem dX12_stays_16 : decode cX12_stays 16 = .ok (.ifCond .eq 18, 3) := by decide +kernel
theorem dX12_stays_19 : decode cX12_stays 19 = .ok (.aload_n 0, 1) := by decide +kernel
theorem dX12_stays_20 : decode cX12_stays 20 = .ok (.iload_n 1, 1) := by decide +kernel
theorem dX12_stays_21 : decode cX12_stays 21 = .ok (.invokestatic 215, 3) := by decide +kernel
theorem dX12_stays_24 : decode cX12_stays 24 = .ok (.invokevirtual 230, 3) := by decide +kernel
theorem dX12_stays_27 : decode cX12_stays 27 = .ok (.aload_n 0, 1) := by decide +kernel
theorem dX12_stays_28 : decode cX12_stays 28 = .ok (.iload_n 1, 1) := by decide +kernel
theorem dX12_stays_29 : decode cX12_stays 29 = .ok (.invokevirtual 198, 3) := by decide +kernel
theorem dX12_stays_32 : decode cX12_stays 32 = .ok (.iconst 1, 1) := by decide +kernel
theorem dX12_stays_33 : decode cX12_stays 33 = .ok (.ireturn, 1) := by decide +kernel
theorem dX12_stays_34 : decode cX12_stays 34 = .ok (.aload_n 0, 1) := by decide +kernel
theorem dX12_stays_35 : decode cX12_stays 35 = .ok (.iconst 1, 1) := by decide +kernel
theorem dX12_stays_36 : decode cX12_stays 36 = .ok (.invokevirtual 230, 3) := by decide +kernel
theorem dX12_stays_39 : decode cX12_stays 39 = .ok (.iload_n 1, 1) := by decide +kernel
theorem dX12_stays_40 : decode cX12_stays 40 = .ok (.bipush 93, 2) := by decide +kernel
theorem dX12_stays_42 : decode cX12_stays 42 = .ok (.if_icmp .eq 5, 3) := by decide +kernel
theorem dX12_stays_45 : decode cX12_stays 45 = .ok (.iconst 0, 1) := by decide +kernel
theorem dX12_stays_46 : decode cX12_stays 46 = .ok (.ireturn, 1) := by decide +kernel
theorem dX12_stays_47 : decode cX12_stays 47 = .ok (.aload_n 0, 1) := by decide +kernel
theorem dX12_stays_48 : decode cX12_stays 48 = .ok (.invokevirtual 208, 3) := by decide +kernel
theorem dX12_stays_51 : decode cX12_stays 51 = .ok (.bipush 91, 2) := by decide +kernel
theorem dX12_stays_53 : decode cX12_stays 53 = .ok (.if_icmp .eq 14, 3) := by decide +kernel
theorem dX12_stays_56 : decode cX12_stays 56 = .ok (.aload_n 0, 1) := by decide +kernel
theorem dX12_stays_57 : decode cX12_stays 57 = .ok (.iconst 1, 1) := by decide +kernel
theorem dX12_stays_58 : decode cX12_stays 58 = .ok (.aload_n 0, 1) := by decide +kernel
theorem dX12_stays_59 : decode cX12_stays 59 = .ok (.getfield 168, 3) := by decide +kernel
theorem dX12_stays_62 : decode cX12_stays 62 = .ok (.invokevirtual 190, 3) := by decide +kernel
theorem dX12_stays_65 : decode cX12_stays 65 = .ok (.iconst 0, 1) := by decide +kernel
theorem dX12_stays_66 : decode cX12_stays 66 = .ok (.ireturn, 1) := by decide +kernel
theorem dX12_stays_67 : decode cX12_stays 67 = .ok (.aload_n 0, 1) := by decide +kernel
theorem dX12_stays_68 : decode cX12_stays 68 = .ok (.dup, 1) := by decide +kernel
theorem dX12_stays_69 : decode cX12_stays 69 = .ok (.getfield 184, 3) := by decide +kernel
theorem dX12_stays_72 : decode cX12_stays 72 = .ok (.iconst 1, 1) := by decide +kernel
theorem dX12_stays_73 : decode cX12_stays 73 = .ok (.isub, 1) := by decide +kernel
theorem dX12_stays_74 : decode cX12_stays 74 = .ok (.putfield 184, 3) := by decide +kernel
theorem dX12_stays_77 : decode cX12_stays 77 = .ok (.aload_n 0, 1) := by decide +kernel
theorem dX12_stays_78 : decode cX12_stays 78 = .ok (.dup, 1) := by decide +kernel
theorem dX12_stays_79 : decode cX12_stays 79 = .ok (.getfield 187, 3) := by decide +kernel
theorem dX12_stays_82 : decode cX12_stays 82 = .ok (.iconst 1, 1) := by decide +kernel
theorem dX12_stays_83 : decode cX12_stays 83 = .ok (.isub, 1) := by decide +kernel
theorem dX12_stays_84 : decode cX12_stays 84 = .ok (.putfield 187, 3) := by decide +kernel
theorem dX12_stays_87 : decode cX12_stays 87 = .ok (.aload_n 0, 1) := by decide +kernel
theorem dX12_stays_88 : decode cX12_stays 88 = .ok (.dup, 1) := by decide +kernel
theorem dX12_stays_89 : decode cX12_stays 89 = .ok (.getfield 168, 3) := by decide +kernel
theorem dX12_stays_92 : decode cX12_stays 92 = .ok (.iconst 1, 1) := by decide +kernel
theorem dX12_stays_93 : decode cX12_stays 93 = .ok (.iadd, 1) := by decide +kernel
theorem dX12_stays_94 : decode cX12_stays 94 = .ok (.putfield 168, 3) := by decide +kernel
theorem dX12_stays_97 : decode cX12_stays 97 = .ok (.aload_n 0, 1) := by decide +kernel
theorem dX12_stays_98 : decode cX12_stays 98 = .ok (.iconst 1, 1) := by decide +kernel
theorem dX12_stays_99 : decode cX12_stays 99 = .ok (.putfield 234, 3) := by decide +kernel
theorem dX12_stays_102 : decode cX12_stays 102 = .ok (.iconst 1, 1) := by decide +kernel
theorem dX12_stays_103 : decode cX12_stays 103 = .ok (.ireturn, 1) := by decide +kernel
theorem dX12_value_0 : decode cX12_value 0 = .ok (.iconst 1, 1) := by decide +kernel
theorem dX12_value_1 : decode cX12_value 1 = .ok (.istore_n 1, 1) := by decide +kernel
theorem dX12_value_2 : decode cX12_value 2 = .ok (.aload_n 0, 1) := by decide +kernel
theorem dX12_value_3 : decode cX12_value 3 = .ok (.iconst 0, 1) := by decide +kernel
theorem dX12_value_4 : decode cX12_value 4 = .ok (.putfield 234, 3) := by decide +kernel
theorem dX12_value_7 : decode cX12_value 7 = .ok (.iload_n 1, 1) := by decide +kernel
theorem dX12_value_8 : decode cX12_value 8 = .ok (.ifCond .eq 49, 3) := by decide +kernel
theorem dX12_value_11 : decode cX12_value 11 = .ok (.aload_n 0, 1) := by decide +kernel
theorem dX12_value_12 : decode cX12_value 12 = .ok (.invokevirtual 177, 3) := by decide +kernel
theorem dX12_value_15 : decode cX12_value 15 = .ok (.ifCond .eq 42, 3) := by decide +kernel
theorem dX12_value_18 : decode cX12_value 18 = .ok (.aload_n 0, 1) := by decide +kernel
theorem dX12_value_19 : decode cX12_value 19 = .ok (.getfield 234, 3) := by decide +kernel
theorem dX12_value_22 : decode cX12_value 22 = .ok (.ifCond .ne 7, 3) := by decide +kernel
theorem dX12_value_25 : decode cX12_value 25 = .ok (.aload_n 0, 1) := by decide +kernel
theorem dX12_value_26 : decode cX12_value 26 = .ok (.invokevirtual 238, 3) := by decide +kernel
theorem dX12_value_29 : decode cX12_value 29 = .ok (.aload_n 0, 1) := by decide +kernel
theorem dX12_value_30 : decode cX12_value 30 = .ok (.iconst 0, 1) := by decide +kernel
theorem dX12_value_31 : decode cX12_value 31 = .ok (.putfield 234, 3) := by decide +kernel
theorem dX12_value_34 : decode cX12_value 34 = .ok (.aload_n 0, 1) := by decide +kernel
theorem dX12_value_35 : decode cX12_value 35 = .ok (.invokevirtual 177, 3) := by decide +kernel
theorem dX12_value_38 : decode cX12_value 38 = .ok (.ifCond .eq 14, 3) := by decide +kernel
theorem dX12_value_41 : decode cX12_value 41 = .ok (.aload_n 0, 1) := by decide +kernel
theorem dX12_value_42 : decode cX12_value 42 = .ok (.invokevirtual 241, 3) := by decide +kernel
theorem dX12_value_45 : decode cX12_value 45 = .ok (.ifCond .eq 7, 3) := by decide +kernel
theorem dX12_value_48 : decode cX12_value 48 = .ok (.iconst 1, 1) := by decide +kernel
theorem dX12_value_49 : decode cX12_value 49 = .ok (.goto 4, 3) := by decide +kernel
theorem dX12_value_52 : decode cX12_value 52 = .ok (.iconst 0, 1) := by decide +kernel
theorem dX12_value_53 : decode cX12_value 53 = .ok (.istore_n 1, 1) := by decide +kernel
theorem dX12_value_54 : decode cX12_value 54 = .ok (.goto (-47), 3) := by decide +kernel
theorem dX12_value_57 : decode cX12_value 57 = .ok (.aload_n 0, 1) := by decide +kernel
theorem dX12_value_58 : decode cX12_value 58 = .ok (.invokevirtual 177, 3) := by decide +kernel
theorem dX12_value_61 : decode cX12_value 61 = .ok (.ifCond .eq 21, 3) := by decide +kernel
theorem dX12_value_64 : decode cX12_value 64 = .ok (.aload_n 0, 1) := by decide +kernel
theorem dX12_value_65 : decode cX12_value 65 = .ok (.invokevirtual 208, 3) := by decide +kernel
theorem dX12_value_68 : decode cX12_value 68 = .ok (.bipush 91, 2) := by decide +kernel
theorem dX12_value_70 : decode cX12_value 70 = .ok (.if_icmp .ne 12, 3) := by decide +kernel
theorem dX12_value_73 : decode cX12_value 73 = .ok (.aload_n 0, 1) := by decide +kernel
theorem dX12_value_74 : decode cX12_value 74 = .ok (.iconst 1, 1) := by decide +kernel
theorem dX12_value_75 : decode cX12_value 75 = .ok (.aload_n 0, 1) := by decide +kernel
theorem dX12_value_76 : decode cX12_value 76 = .ok (.getfield 168, 3) := by decide +kernel
theorem dX12_value_79 : decode cX12_value 79 = .ok (.invokevirtual 190, 3) := by decide +kernel
theorem dX12_value_82 : decode cX12_value 82 = .ok (.return_, 1) := by decide +kernel
theorem dX12_pieceOfC_0 : decode cX12_pieceOfC 0 = .ok (.aload_n 0, 1) := by decide +kernel
theorem dX12_pieceOfC_1 : decode cX12_pieceOfC 1 = .ok (.invokevirtual 177, 3) := by decide +kernel
theorem dX12_pieceOfC_4 : decode cX12_pieceOfC 4 = .ok (.ifCond .eq 28, 3) := by decide +kernel
theorem dX12_pieceOfC_7 : decode cX12_pieceOfC 7 = .ok (.aload_n 0, 1) := by decide +kernel
theorem dX12_pieceOfC_8 : decode cX12_pieceOfC 8 = .ok (.invokevirtual 194, 3) := by decide +kernel
theorem dX12_pieceOfC_11 : decode cX12_pieceOfC 11 = .ok (.bipush 33, 2) := by decide +kernel
theorem dX12_pieceOfC_13 : decode cX12_pieceOfC 13 = .ok (.if_icmp .eq 12, 3) := by decide +kernel
theorem dX12_pieceOfC_16 : decode cX12_pieceOfC 16 = .ok (.aload_n 0, 1) := by decide +kernel
theorem dX12_pieceOfC_17 : decode cX12_pieceOfC 17 = .ok (.invokevirtual 194, 3) := by decide +kernel
theorem dX12_pieceOfC_20 : decode cX12_pieceOfC 20 = .ok (.bipush 40, 2) := by decide +kernel
theorem dX12_pieceOfC_22 : decode cX12_pieceOfC 22 = .ok (.if_icmp .ne 10, 3) := by decide +kernel
theorem dX12_pieceOfC_25 : decode cX12_pieceOfC 25 = .ok (.aload_n 0, 1) := by decide +kernel
theorem dX12_pieceOfC_26 : decode cX12_pieceOfC 26 = .ok (.invokevirtual 221, 3) := by decide +kernel
theorem dX12_pieceOfC_29 : decode cX12_pieceOfC 29 = .ok (.goto (-29), 3) := by decide +kernel
theorem dX12_pieceOfC_32 : decode cX12_pieceOfC 32 = .ok (.aload_n 0, 1) := by decide +kernel
theorem dX12_pieceOfC_33 : decode cX12_pieceOfC 33 = .ok (.invokevirtual 177, 3) := by decide +kernel
theorem dX12_pieceOfC_36 : decode cX12_pieceOfC 36 = .ok (.ifCond .eq 7, 3) := by decide +kernel
theorem dX12_pieceOfC_39 : decode cX12_pieceOfC 39 = .ok (.aload_n 0, 1) := by decide +kernel
theorem dX12_pieceOfC_40 : decode cX12_pieceOfC 40 = .ok (.invokevirtual 244, 3) := by decide +kernel
theorem dX12_pieceOfC_43 : decode cX12_pieceOfC 43 = .ok (.aload_n 0, 1) := by decide +kernel
theorem dX12_pieceOfC_44 : decode cX12_pieceOfC 44 = .ok (.invokevirtual 177, 3) := by decide +kernel
theorem dX12_pieceOfC_47 : decode cX12_pieceOfC 47 = .ok (.ifCond .ne 4, 3) := by decide +kernel
theorem dX12_pieceOfC_50 : decode cX12_pieceOfC 50 = .ok (.return_, 1) := by decide +kernel
theorem dX12_pieceOfC_51 : decode cX12_pieceOfC 51 = .ok (.aload_n 0, 1) := by decide +kernel
theorem dX12_pieceOfC_52 : decode cX12_pieceOfC 52 = .ok (.invokevirtual 194, 3) := by decide +kernel
theorem dX12_pieceOfC_55 : decode cX12_pieceOfC 55 = .ok (.istore_n 1, 1) := by decide +kernel
theorem dX12_pieceOfC_56 : decode cX12_pieceOfC 56 = .ok (.iload_n 1, 1) := by decide +kernel
theorem dX12_pieceOfC_57 : decode cX12_pieceOfC 57 = .ok (.invokestatic 247, 3) := by decide +kernel
theorem dX12_pieceOfC_60 : decode cX12_pieceOfC 60 = .ok (.ifCond .ne 13, 3) := by decide +kernel
theorem dX12_pieceOfC_63 : decode cX12_pieceOfC 63 = .ok (.aload_n 0, 1) := by decide +kernel
theorem dX12_pieceOfC_64 : decode cX12_pieceOfC 64 = .ok (.iconst 1, 1) := by decide +kernel
theorem dX12_pieceOfC_65 : decode cX12_pieceOfC 65 = .ok (.aload_n 0, 1) := by decide +kernel
theorem dX12_pieceOfC_66 : decode cX12_pieceOfC 66 = .ok (.getfield 168, 3) := by decide +kernel
theorem dX12_pieceOfC_69 : decode cX12_pieceOfC 69 = .ok (.invokevirtual 190, 3) := by decide +kernel
theorem dX12_pieceOfC_72 : decode cX12_pieceOfC 72 = .ok (.return_, 1) := by decide +kernel
theorem dX12_pieceOfC_73 : decode cX12_pieceOfC 73 = .ok (.aload_n 0, 1) := by decide +kernel
theorem dX12_pieceOfC_74 : decode cX12_pieceOfC 74 = .ok (.iload_n 1, 1) := by decide +kernel
theorem dX12_pieceOfC_75 : decode cX12_pieceOfC 75 = .ok (.invokevirtual 198, 3) := by decide +kernel
theorem dX12_pieceOfC_78 : decode cX12_pieceOfC 78 = .ok (.aload_n 0, 1) := by decide +kernel
theorem dX12_pieceOfC_79 : decode cX12_pieceOfC 79 = .ok (.invokevirtual 244, 3) := by decide +kernel
theorem dX12_pieceOfC_82 : decode cX12_pieceOfC 82 = .ok (.aload_n 0, 1) := by decide +kernel
theorem dX12_pieceOfC_83 : decode cX12_pieceOfC 83 = .ok (.invokevirtual 177, 3) := by decide +kernel
theorem dX12_pieceOfC_86 : decode cX12_pieceOfC 86 = .ok (.ifCond .ne 4, 3) := by decide +kernel
theorem dX12_pieceOfC_89 : decode cX12_pieceOfC 89 = .ok (.return_, 1) := by decide +kernel
theorem dX12_pieceOfC_90 : decode cX12_pieceOfC 90 = .ok (.aload_n 0, 1) := by decide +kernel
theorem dX12_pieceOfC_91 : decode cX12_pieceOfC 91 = .ok (.aload_n 0, 1) := by decide +kernel
theorem dX12_pieceOfC_92 : decode cX12_pieceOfC 92 = .ok (.invokevirtual 208, 3) := by decide +kernel
theorem dX12_pieceOfC_95 : decode cX12_pieceOfC 95 = .ok (.iconst 0, 1) := by decide +kernel
theorem dX12_pieceOfC_96 : decode cX12_pieceOfC 96 = .ok (.invokevirtual 218, 3) := by decide +kernel
theorem dX12_pieceOfC_99 : decode cX12_pieceOfC 99 = .ok (.aload_n 0, 1) := by decide +kernel
theorem dX12_pieceOfC_100 : decode cX12_pieceOfC 100 = .ok (.dup, 1) := by decide +kernel
theorem dX12_pieceOfC_101 : decode cX12_pieceOfC 101 = .ok (.getfield 184, 3) := by decide +kernel
theorem dX12_pieceOfC_104 : decode cX12_pieceOfC 104 = .ok (.iconst 1, 1) := by decide +kernel
theorem dX12_pieceOfC_105 : decode cX12_pieceOfC 105 = .ok (.isub, 1) := by decide +kernel
theorem dX12_pieceOfC_106 : decode cX12_pieceOfC 106 = .ok (.putfield 184, 3) := by decide +kernel
theorem dX12_pieceOfC_109 : decode cX12_pieceOfC 109 = .ok (.aload_n 0, 1) := by decide +kernel
theorem dX12_pieceOfC_110 : decode cX12_pieceOfC 110 = .ok (.invokevirtual 250, 3) := by decide +kernel
theorem dX12_pieceOfC_113 : decode cX12_pieceOfC 113 = .ok (.return_, 1) := by decide +kernel
theorem dX12_goesBehind_0 : decode cX12_goesBehind 0 = .ok (.aload_n 0, 1) := by decide +kernel
theorem dX12_goesBehind_1 : decode cX12_goesBehind 1 = .ok (.invokevirtual 194, 3) := by decide +kernel
theorem dX12_goesBehind_4 : decode cX12_goesBehind 4 = .ok (.istore_n 1, 1) := by decide +kernel
theorem dX12_goesBehind_5 : decode cX12_goesBehind 5 = .ok (.iload_n 1, 1) := by decide +kernel
theorem dX12_goesBehind_6 : decode cX12_goesBehind 6 = .ok (.bipush 38, 2) := by decide +kernel
theorem dX12_goesBehind_8 : decode cX12_goesBehind 8 = .ok (.if_icmp .eq 9, 3) := by decide +kernel
theorem dX12_goesBehind_11 : decode cX12_goesBehind 11 = .ok (.iload_n 1, 1) := by decide +kernel
theorem dX12_goesBehind_12 : decode cX12_goesBehind 12 = .ok (.bipush 124, 2) := by decide +kernel
theorem dX12_goesBehind_14 : decode cX12_goesBehind 14 = .ok (.if_icmp .ne 25, 3) := by decide +kernel
theorem dX12_goesBehind_17 : decode cX12_goesBehind 17 = .ok (.aload_n 0, 1) := by decide +kernel
theorem dX12_goesBehind_18 : decode cX12_goesBehind 18 = .ok (.iload_n 1, 1) := by decide +kernel
theorem dX12_goesBehind_19 : decode cX12_goesBehind 19 = .ok (.bipush 124, 2) := by decide +kernel
theorem dX12_goesBehind_21 : decode cX12_goesBehind 21 = .ok (.if_icmp .ne 7, 3) := by decide +kernel
theorem dX12_goesBehind_24 : decode cX12_goesBehind 24 = .ok (.iconst 1, 1) := by decide +kernel
theorem dX12_goesBehind_25 : decode cX12_goesBehind 25 = .ok (.goto 4, 3) := by decide +kernel
theorem dX12_goesBehind_28 : decode cX12_goesBehind 28 = .ok (.iconst 0, 1) := by decide +kernel
theorem dX12_goesBehind_29 : decode cX12_goesBehind 29 = .ok (.invokevirtual 253, 3) := by decide +kernel
theorem dX12_goesBehind_32 : decode cX12_goesBehind 32 = .ok (.aload_n 0, 1) := by decide +kernel
theorem dX12_goesBehind_33 : decode cX12_goesBehind 33 = .ok (.iload_n 1, 1) := by decide +kernel
theorem dX12_goesBehind_34 : decode cX12_goesBehind 34 = .ok (.invokevirtual 198, 3) := by decide +kernel
theorem dX12_goesBehind_37 : decode cX12_goesBehind 37 = .ok (.iconst 1, 1) := by decide +kernel
theorem dX12_goesBehind_38 : decode cX12_goesBehind 38 = .ok (.ireturn, 1) := by decide +kernel
theorem dX12_goesBehind_39 : decode cX12_goesBehind 39 = .ok (.iload_n 1, 1) := by decide +kernel
theorem dX12_goesBehind_40 : decode cX12_goesBehind 40 = .ok (.bipush 41, 2) := by decide +kernel
theorem dX12_goesBehind_42 : decode cX12_goesBehind 42 = .ok (.if_icmp .eq 14, 3) := by decide +kernel
theorem dX12_goesBehind_45 : decode cX12_goesBehind 45 = .ok (.aload_n 0, 1) := by decide +kernel
theorem dX12_goesBehind_46 : decode cX12_goesBehind 46 = .ok (.iconst 1, 1) := by decide +kernel
theorem dX12_goesBehind_47 : decode cX12_goesBehind 47 = .ok (.aload_n 0, 1) := by decide +kernel
theorem dX12_goesBehind_48 : decode cX12_goesBehind 48 = .ok (.getfield 168, 3) := by decide +kernel
theorem dX12_goesBehind_51 : decode cX12_goesBehind 51 = .ok (.invokevirtual 190, 3) := by decide +kernel
theorem dX12_goesBehind_54 : decode cX12_goesBehind 54 = .ok (.iconst 0, 1) := by decide +kernel
theorem dX12_goesBehind_55 : decode cX12_goesBehind 55 = .ok (.ireturn, 1) := by decide +kernel
theorem dX12_goesBehind_56 : decode cX12_goesBehind 56 = .ok (.aload_n 0, 1) := by decide +kernel
theorem dX12_goesBehind_57 : decode cX12_goesBehind 57 = .ok (.iconst 1, 1) := by decide +kernel
theorem dX12_goesBehind_58 : decode cX12_goesBehind 58 = .ok (.invokevirtual 253, 3) := by decide +kernel
theorem dX12_goesBehind_61 : decode cX12_goesBehind 61 = .ok (.aload_n 0, 1) := by decide +kernel
theorem dX12_goesBehind_62 : decode cX12_goesBehind 62 = .ok (.dup, 1) := by decide +kernel
theorem dX12_goesBehind_63 : decode cX12_goesBehind 63 = .ok (.getfield 184, 3) := by decide +kernel
theorem dX12_goesBehind_66 : decode cX12_goesBehind 66 = .ok (.iconst 1, 1) := by decide +kernel
theorem dX12_goesBehind_67 : decode cX12_goesBehind 67 = .ok (.isub, 1) := by decide +kernel
theorem dX12_goesBehind_68 : decode cX12_goesBehind 68 = .ok (.putfield 184, 3) := by decide +kernel
theorem dX12_goesBehind_71 : decode cX12_goesBehind 71 = .ok (.aload_n 0, 1) := by decide +kernel
theorem dX12_goesBehind_72 : decode cX12_goesBehind 72 = .ok (.dup, 1) := by decide +kernel
theorem dX12_goesBehind_73 : decode cX12_goesBehind 73 = .ok (.getfield 187, 3) := by decide +kernel
theorem dX12_goesBehind_76 : decode cX12_goesBehind 76 = .ok (.iconst 1, 1) := by decide +kernel
theorem dX12_goesBehind_77 : decode cX12_goesBehind 77 = .ok (.isub, 1) := by decide +kernel
theorem dX12_goesBehind_78 : decode cX12_goesBehind 78 = .ok (.putfield 187, 3) := by decide +kernel
theorem dX12_goesBehind_81 : decode cX12_goesBehind 81 = .ok (.aload_n 0, 1) := by decide +kernel
theorem dX12_goesBehind_82 : decode cX12_goesBehind 82 = .ok (.dup, 1) := by decide +kernel
theorem dX12_goesBehind_83 : decode cX12_goesBehind 83 = .ok (.getfield 168, 3) := by decide +kernel
theorem dX12_goesBehind_86 : decode cX12_goesBehind 86 = .ok (.iconst 1, 1) := by decide +kernel
theorem dX12_goesBehind_87 : decode cX12_goesBehind 87 = .ok (.iadd, 1) := by decide +kernel
theorem dX12_goesBehind_88 : decode cX12_goesBehind 88 = .ok (.putfield 168, 3) := by decide +kernel
theorem dX12_goesBehind_91 : decode cX12_goesBehind 91 = .ok (.aload_n 0, 1) := by decide +kernel
theorem dX12_goesBehind_92 : decode cX12_goesBehind 92 = .ok (.aload_n 0, 1) := by decide +kernel
theorem dX12_goesBehind_93 : decode cX12_goesBehind 93 = .ok (.getfield 184, 3) := by decide +kernel
theorem dX12_goesBehind_96 : decode cX12_goesBehind 96 = .ok (.ifCond .ne 7, 3) := by decide +kernel
theorem dX12_goesBehind_99 : decode cX12_goesBehind 99 = .ok (.iconst 1, 1) := by decide +kernel
theorem dX12_goesBehind_100 : decode cX12_goesBehind 100 = .ok (.goto 4, 3) := by decide +kernel
theorem dX12_goesBehind_103 : decode cX12_goesBehind 103 = .ok (.iconst 0, 1) := by decide +kernel
theorem dX12_goesBehind_104 : decode cX12_goesBehind 104 = .ok (.putfield 256, 3) := by decide +kernel
theorem dX12_goesBehind_107 : decode cX12_goesBehind 107 = .ok (.aload_n 0, 1) := by decide +kernel
theorem dX12_goesBehind_108 : decode cX12_goesBehind 108 = .ok (.getfield 256, 3) := by decide +kernel
theorem dX12_goesBehind_111 : decode cX12_goesBehind 111 = .ok (.ifCond .ne 7, 3) := by decide +kernel
theorem dX12_goesBehind_114 : decode cX12_goesBehind 114 = .ok (.aload_n 0, 1) := by decide +kernel
theorem dX12_goesBehind_115 : decode cX12_goesBehind 115 = .ok (.invokevirtual 250, 3) := by decide +kernel
theorem dX12_goesBehind_118 : decode cX12_goesBehind 118 = .ok (.iconst 0, 1) := by decide +kernel
theorem dX12_goesBehind_119 : decode cX12_goesBehind 119 = .ok (.ireturn, 1) := by decide +kernel
theorem dX12_condition_0 : decode cX12_condition 0 = .ok (.aload_n 0, 1) := by decide +kernel
theorem dX12_condition_1 : decode cX12_condition 1 = .ok (.iconst 0, 1) := by decide +kernel
theorem dX12_condition_2 : decode cX12_condition 2 = .ok (.putfield 256, 3) := by decide +kernel
theorem dX12_condition_5 : decode cX12_condition 5 = .ok (.aload_n 0, 1) := by decide +kernel
theorem dX12_condition_6 : decode cX12_condition 6 = .ok (.invokevirtual 194, 3) := by decide +kernel
theorem dX12_condition_9 : decode cX12_condition 9 = .ok (.bipush 40, 2) := by decide +kernel
theorem dX12_condition_11 : decode cX12_condition 11 = .ok (.if_icmp .eq 12, 3) := by decide +kernel
theorem dX12_condition_14 : decode cX12_condition 14 = .ok (.aload_n 0, 1) := by decide +kernel
theorem dX12_condition_15 : decode cX12_condition 15 = .ok (.iconst 1, 1) := by decide +kernel
theorem dX12_condition_16 : decode cX12_condition 16 = .ok (.aload_n 0, 1) := by decide +kernel
theorem dX12_condition_17 : decode cX12_condition 17 = .ok (.getfield 168, 3) := by decide +kernel
theorem dX12_condition_20 : decode cX12_condition 20 = .ok (.invokevirtual 190, 3) := by decide +kernel
theorem dX12_condition_23 : decode cX12_condition 23 = .ok (.aload_n 0, 1) := by decide +kernel
theorem dX12_condition_24 : decode cX12_condition 24 = .ok (.invokevirtual 177, 3) := by decide +kernel
theorem dX12_condition_27 : decode cX12_condition 27 = .ok (.ifCond .ne 4, 3) := by decide +kernel
theorem dX12_condition_30 : decode cX12_condition 30 = .ok (.return_, 1) := by decide +kernel
theorem dX12_condition_31 : decode cX12_condition 31 = .ok (.aload_n 0, 1) := by decide +kernel
theorem dX12_condition_32 : decode cX12_condition 32 = .ok (.invokevirtual 221, 3) := by decide +kernel
theorem dX12_condition_35 : decode cX12_condition 35 = .ok (.iconst 1, 1) := by decide +kernel
theorem dX12_condition_36 : decode cX12_condition 36 = .ok (.istore_n 1, 1) := by decide +kernel
theorem dX12_condition_37 : decode cX12_condition 37 = .ok (.aload_n 0, 1) := by decide +kernel
theorem dX12_condition_38 : decode cX12_condition 38 = .ok (.invokevirtual 177, 3) := by decide +kernel
theorem dX12_condition_41 : decode cX12_condition 41 = .ok (.ifCond .eq 33, 3) := by decide +kernel
theorem dX12_condition_44 : decode cX12_condition 44 = .ok (.aload_n 0, 1) := by decide +kernel
theorem dX12_condition_45 : decode cX12_condition 45 = .ok (.getfield 256, 3) := by decide +kernel
theorem dX12_condition_48 : decode cX12_condition 48 = .ok (.ifCond .ne 26, 3) := by decide +kernel
theorem dX12_condition_51 : decode cX12_condition 51 = .ok (.iload_n 1, 1) := by decide +kernel
theorem dX12_condition_52 : decode cX12_condition 52 = .ok (.ifCond .eq 7, 3) := by decide +kernel
theorem dX12_condition_55 : decode cX12_condition 55 = .ok (.aload_n 0, 1) := by decide +kernel
theorem dX12_condition_56 : decode cX12_condition 56 = .ok (.invokevirtual 259, 3) := by decide +kernel
theorem dX12_condition_59 : decode cX12_condition 59 = .ok (.aload_n 0, 1) := by decide +kernel
theorem dX12_condition_60 : decode cX12_condition 60 = .ok (.invokevirtual 177, 3) := by decide +kernel
theorem dX12_condition_63 : decode cX12_condition 63 = .ok (.ifCond .eq (-26), 3) := by decide +kernel
theorem dX12_condition_66 : decode cX12_condition 66 = .ok (.aload_n 0, 1) := by decide +kernel
theorem dX12_condition_67 : decode cX12_condition 67 = .ok (.invokevirtual 262, 3) := by decide +kernel
theorem dX12_condition_70 : decode cX12_condition 70 = .ok (.istore_n 1, 1) := by decide +kernel
theorem dX12_condition_71 : decode cX12_condition 71 = .ok (.goto (-34), 3) := by decide +kernel
theorem dX12_condition_74 : decode cX12_condition 74 = .ok (.return_, 1) := by decide +kernel
theorem dX12_clause_0 : decode cX12_clause 0 = .ok (.aload_n 0, 1) := by decide +kernel
theorem dX12_clause_1 : decode cX12_clause 1 = .ok (.invokevirtual 194, 3) := by decide +kernel
theorem dX12_clause_4 : decode cX12_clause 4 = .ok (.istore_n 1, 1) := by decide +kernel
theorem dX12_clause_5 : decode cX12_clause 5 = .ok (.iload_n 1, 1) := by decide +kernel
theorem dX12_clause_6 : decode cX12_clause 6 = .ok (.bipush 109, 2) := by decide +kernel
theorem dX12_clause_8 : decode cX12_clause 8 = .ok (.if_icmp .eq 21, 3) := by decide +kernel
theorem dX12_clause_11 : decode cX12_clause 11 = .ok (.iload_n 1, 1) := by decide +kernel
theorem dX12_clause_12 : decode cX12_clause 12 = .ok (.bipush 114, 2) := by decide +kernel
theorem dX12_clause_14 : decode cX12_clause 14 = .ok (.if_icmp .eq 15, 3) := by decide +kernel
theorem dX12_clause_17 : decode cX12_clause 17 = .ok (.aload_n 0, 1) := by decide +kernel
theorem dX12_clause_18 : decode cX12_clause 18 = .ok (.iconst 1, 1) := by decide +kernel
theorem dX12_clause_19 : decode cX12_clause 19 = .ok (.aload_n 0, 1) := by decide +kernel
theorem dX12_clause_20 : decode cX12_clause 20 = .ok (.getfield 168, 3) := by decide +kernel
theorem dX12_clause_23 : decode cX12_clause 23 = .ok (.invokevirtual 190, 3) := by decide +kernel
theorem dX12_clause_26 : decode cX12_clause 26 = .ok (.goto 21, 3) := by decide +kernel
theorem dX12_clause_29 : decode cX12_clause 29 = .ok (.aload_n 0, 1) := by decide +kernel
theorem dX12_clause_30 : decode cX12_clause 30 = .ok (.getfield 265, 3) := by decide +kernel
theorem dX12_clause_33 : decode cX12_clause 33 = .ok (.bipush 14, 2) := by decide +kernel
theorem dX12_clause_35 : decode cX12_clause 35 = .ok (.if_icmp .ne 12, 3) := by decide +kernel
theorem dX12_clause_38 : decode cX12_clause 38 = .ok (.aload_n 0, 1) := by decide +kernel
theorem dX12_clause_39 : decode cX12_clause 39 = .ok (.iconst 4, 1) := by decide +kernel
theorem dX12_clause_40 : decode cX12_clause 40 = .ok (.aload_n 0, 1) := by decide +kernel
theorem dX12_clause_41 : decode cX12_clause 41 = .ok (.getfield 168, 3) := by decide +kernel
theorem dX12_clause_44 : decode cX12_clause 44 = .ok (.invokevirtual 190, 3) := by decide +kernel
theorem dX12_clause_47 : decode cX12_clause 47 = .ok (.aload_n 0, 1) := by decide +kernel
theorem dX12_clause_48 : decode cX12_clause 48 = .ok (.invokevirtual 177, 3) := by decide +kernel
theorem dX12_clause_51 : decode cX12_clause 51 = .ok (.ifCond .ne 4, 3) := by decide +kernel
theorem dX12_clause_54 : decode cX12_clause 54 = .ok (.return_, 1) := by decide +kernel
theorem dX12_clause_55 : decode cX12_clause 55 = .ok (.aload_n 0, 1) := by decide +kernel
theorem dX12_clause_56 : decode cX12_clause 56 = .ok (.getfield 63, 3) := by decide +kernel
theorem dX12_clause_59 : decode cX12_clause 59 = .ok (.aload_n 0, 1) := by decide +kernel
theorem dX12_clause_60 : decode cX12_clause 60 = .ok (.getfield 265, 3) := by decide +kernel
theorem dX12_clause_63 : decode cX12_clause 63 = .ok (.iload_n 1, 1) := by decide +kernel
theorem dX12_clause_64 : decode cX12_clause 64 = .ok (.iastore, 1) := by decide +kernel
theorem dX12_clause_65 : decode cX12_clause 65 = .ok (.aload_n 0, 1) := by decide +kernel
theorem dX12_clause_66 : decode cX12_clause 66 = .ok (.getfield 66, 3) := by decide +kernel
theorem dX12_clause_69 : decode cX12_clause 69 = .ok (.aload_n 0, 1) := by decide +kernel
theorem dX12_clause_70 : decode cX12_clause 70 = .ok (.getfield 265, 3) := by decide +kernel
theorem dX12_clause_73 : decode cX12_clause 73 = .ok (.aload_n 0, 1) := by decide +kernel
theorem dX12_clause_74 : decode cX12_clause 74 = .ok (.getfield 181, 3) := by decide +kernel
theorem dX12_clause_77 : decode cX12_clause 77 = .ok (.iastore, 1) := by decide +kernel
theorem dX12_clause_78 : decode cX12_clause 78 = .ok (.aload_n 0, 1) := by decide +kernel
theorem dX12_clause_79 : decode cX12_clause 79 = .ok (.dup, 1) := by decide +kernel
theorem dX12_clause_80 : decode cX12_clause 80 = .ok (.getfield 168, 3) := by decide +kernel
theorem dX12_clause_83 : decode cX12_clause 83 = .ok (.iconst 1, 1) := by decide +kernel
theorem dX12_clause_84 : decode cX12_clause 84 = .ok (.iadd, 1) := by decide +kernel
theorem dX12_clause_85 : decode cX12_clause 85 = .ok (.putfield 168, 3) := by decide +kernel
theorem dX12_clause_88 : decode cX12_clause 88 = .ok (.aload_n 0, 1) := by decide +kernel
theorem dX12_clause_89 : decode cX12_clause 89 = .ok (.iconst 0, 1) := by decide +kernel
theorem dX12_clause_90 : decode cX12_clause 90 = .ok (.putfield 184, 3) := by decide +kernel
theorem dX12_clause_93 : decode cX12_clause 93 = .ok (.aload_n 0, 1) := by decide +kernel
theorem dX12_clause_94 : decode cX12_clause 94 = .ok (.iconst 0, 1) := by decide +kernel
theorem dX12_clause_95 : decode cX12_clause 95 = .ok (.putfield 187, 3) := by decide +kernel
theorem dX12_clause_98 : decode cX12_clause 98 = .ok (.aload_n 0, 1) := by decide +kernel
theorem dX12_clause_99 : decode cX12_clause 99 = .ok (.invokevirtual 244, 3) := by decide +kernel
theorem dX12_clause_102 : decode cX12_clause 102 = .ok (.aload_n 0, 1) := by decide +kernel
theorem dX12_clause_103 : decode cX12_clause 103 = .ok (.getfield 69, 3) := by decide +kernel
theorem dX12_clause_106 : decode cX12_clause 106 = .ok (.aload_n 0, 1) := by decide +kernel
theorem dX12_clause_107 : decode cX12_clause 107 = .ok (.getfield 265, 3) := by decide +kernel
theorem dX12_clause_110 : decode cX12_clause 110 = .ok (.aload_n 0, 1) := by decide +kernel
theorem dX12_clause_111 : decode cX12_clause 111 = .ok (.getfield 181, 3) := by decide +kernel
theorem dX12_clause_114 : decode cX12_clause 114 = .ok (.iastore, 1) := by decide +kernel
theorem dX12_clause_115 : decode cX12_clause 115 = .ok (.aload_n 0, 1) := by decide +kernel
theorem dX12_clause_116 : decode cX12_clause 116 = .ok (.invokevirtual 177, 3) := by decide +kernel
theorem dX12_clause_119 : decode cX12_clause 119 = .ok (.ifCond .eq 7, 3) := by decide +kernel
theorem dX12_clause_122 : decode cX12_clause 122 = .ok (.aload_n 0, 1) := by decide +kernel
theorem dX12_clause_123 : decode cX12_clause 123 = .ok (.invokevirtual 268, 3) := by decide +kernel
theorem dX12_clause_126 : decode cX12_clause 126 = .ok (.aload_n 0, 1) := by decide +kernel
theorem dX12_clause_127 : decode cX12_clause 127 = .ok (.getfield 72, 3) := by decide +kernel
theorem dX12_clause_130 : decode cX12_clause 130 = .ok (.aload_n 0, 1) := by decide +kernel
theorem dX12_clause_131 : decode cX12_clause 131 = .ok (.getfield 265, 3) := by decide +kernel
theorem dX12_clause_134 : decode cX12_clause 134 = .ok (.aload_n 0, 1) := by decide +kernel
theorem dX12_clause_135 : decode cX12_clause 135 = .ok (.getfield 181, 3) := by decide +kernel
theorem dX12_clause_138 : decode cX12_clause 138 = .ok (.iastore, 1) := by decide +kernel
theorem dX12_clause_139 : decode cX12_clause 139 = .ok (.aload_n 0, 1) := by decide +kernel
theorem dX12_clause_140 : decode cX12_clause 140 = .ok (.dup, 1) := by decide +kernel
theorem dX12_clause_141 : decode cX12_clause 141 = .ok (.getfield 265, 3) := by decide +kernel
theorem dX12_clause_144 : decode cX12_clause 144 = .ok (.iconst 1, 1) := by decide +kernel
theorem dX12_clause_145 : decode cX12_clause 145 = .ok (.iadd, 1) := by decide +kernel
theorem dX12_clause_146 : decode cX12_clause 146 = .ok (.putfield 265, 3) := by decide +kernel
theorem dX12_clause_149 : decode cX12_clause 149 = .ok (.return_, 1) := by decide +kernel
theorem dX12_tongue_0 : decode cX12_tongue 0 = .ok (.iload_n 1, 1) := by decide +kernel
theorem dX12_tongue_1 : decode cX12_tongue 1 = .ok (.i2l, 1) := by decide +kernel
theorem dX12_tongue_2 : decode cX12_tongue 2 = .ok (.lconst 1, 1) := by decide +kernel
theorem dX12_tongue_3 : decode cX12_tongue 3 = .ok (.ldc2_w 157, 3) := by decide +kernel
theorem dX12_tongue_6 : decode cX12_tongue 6 = .ok (.invokestatic 147, 3) := by decide +kernel
theorem dX12_tongue_9 : decode cX12_tongue 9 = .ok (.ifCond .eq 11, 3) := by decide +kernel
theorem dX12_tongue_12 : decode cX12_tongue 12 = .ok (.iload_n 1, 1) := by decide +kernel
theorem dX12_tongue_13 : decode cX12_tongue 13 = .ok (.aload_n 0, 1) := by decide +kernel
theorem dX12_tongue_14 : decode cX12_tongue 14 = .ok (.getfield 161, 3) := by decide +kernel
theorem dX12_tongue_17 : decode cX12_tongue 17 = .ok (.if_icmp .le 5, 3) := by decide +kernel
theorem dX12_tongue_20 : decode cX12_tongue 20 = .ok (.iconst (-1), 1) := by decide +kernel
theorem dX12_tongue_21 : decode cX12_tongue 21 = .ok (.ireturn, 1) := by decide +kernel
theorem dX12_tongue_22 : decode cX12_tongue 22 = .ok (.aload_n 0, 1) := by decide +kernel
theorem dX12_tongue_23 : decode cX12_tongue 23 = .ok (.iconst 0, 1) := by decide +kernel
theorem dX12_tongue_24 : decode cX12_tongue 24 = .ok (.putfield 161, 3) := by decide +kernel
theorem dX12_tongue_27 : decode cX12_tongue 27 = .ok (.aload_n 0, 1) := by decide +kernel
theorem dX12_tongue_28 : decode cX12_tongue 28 = .ok (.iconst 0, 1) := by decide +kernel
theorem dX12_tongue_29 : decode cX12_tongue 29 = .ok (.putfield 168, 3) := by decide +kernel
theorem dX12_tongue_32 : decode cX12_tongue 32 = .ok (.aload_n 0, 1) := by decide +kernel
theorem dX12_tongue_33 : decode cX12_tongue 33 = .ok (.iload_n 1, 1) := by decide +kernel
theorem dX12_tongue_34 : decode cX12_tongue 34 = .ok (.putfield 171, 3) := by decide +kernel
theorem dX12_tongue_37 : decode cX12_tongue 37 = .ok (.aload_n 0, 1) := by decide +kernel
theorem dX12_tongue_38 : decode cX12_tongue 38 = .ok (.iconst 0, 1) := by decide +kernel
theorem dX12_tongue_39 : decode cX12_tongue 39 = .ok (.putfield 174, 3) := by decide +kernel
theorem dX12_tongue_42 : decode cX12_tongue 42 = .ok (.aload_n 0, 1) := by decide +kernel
theorem dX12_tongue_43 : decode cX12_tongue 43 = .ok (.iconst 0, 1) := by decide +kernel
theorem dX12_tongue_44 : decode cX12_tongue 44 = .ok (.putfield 265, 3) := by decide +kernel
theorem dX12_tongue_47 : decode cX12_tongue 47 = .ok (.aload_n 0, 1) := by decide +kernel
theorem dX12_tongue_48 : decode cX12_tongue 48 = .ok (.iconst 0, 1) := by decide +kernel
theorem dX12_tongue_49 : decode cX12_tongue 49 = .ok (.putfield 181, 3) := by decide +kernel
theorem dX12_tongue_52 : decode cX12_tongue 52 = .ok (.iconst 1, 1) := by decide +kernel
theorem dX12_tongue_53 : decode cX12_tongue 53 = .ok (.istore_n 2, 1) := by decide +kernel
theorem dX12_tongue_54 : decode cX12_tongue 54 = .ok (.iload_n 2, 1) := by decide +kernel
theorem dX12_tongue_55 : decode cX12_tongue 55 = .ok (.ifCond .eq 73, 3) := by decide +kernel
theorem dX12_tongue_58 : decode cX12_tongue 58 = .ok (.aload_n 0, 1) := by decide +kernel
theorem dX12_tongue_59 : decode cX12_tongue 59 = .ok (.invokevirtual 177, 3) := by decide +kernel
theorem dX12_tongue_62 : decode cX12_tongue 62 = .ok (.ifCond .eq 66, 3) := by decide +kernel
theorem dX12_tongue_65 : decode cX12_tongue 65 = .ok (.aload_n 0, 1) := by decide +kernel
theorem dX12_tongue_66 : decode cX12_tongue 66 = .ok (.invokevirtual 271, 3) := by decide +kernel
theorem dX12_tongue_69 : decode cX12_tongue 69 = .ok (.aload_n 0, 1) := by decide +kernel
theorem dX12_tongue_70 : decode cX12_tongue 70 = .ok (.invokevirtual 177, 3) := by decide +kernel
theorem dX12_tongue_73 : decode cX12_tongue 73 = .ok (.ifCond .eq 18, 3) := by decide +kernel
theorem dX12_tongue_76 : decode cX12_tongue 76 = .ok (.aload_n 0, 1) := by decide +kernel
theorem dX12_tongue_77 : decode cX12_tongue 77 = .ok (.getfield 168, 3) := by decide +kernel
theorem dX12_tongue_80 : decode cX12_tongue 80 = .ok (.aload_n 0, 1) := by decide +kernel
theorem dX12_tongue_81 : decode cX12_tongue 81 = .ok (.getfield 171, 3) := by decide +kernel
theorem dX12_tongue_84 : decode cX12_tongue 84 = .ok (.if_icmp .ge 7, 3) := by decide +kernel
theorem dX12_tongue_87 : decode cX12_tongue 87 = .ok (.iconst 1, 1) := by decide +kernel
theorem dX12_tongue_88 : decode cX12_tongue 88 = .ok (.goto 4, 3) := by decide +kernel
theorem dX12_tongue_91 : decode cX12_tongue 91 = .ok (.iconst 0, 1) := by decide +kernel
theorem dX12_tongue_92 : decode cX12_tongue 92 = .ok (.istore_n 2, 1) := by decide +kernel
theorem dX12_tongue_93 : decode cX12_tongue 93 = .ok (.iload_n 2, 1) := by decide +kernel
theorem dX12_tongue_94 : decode cX12_tongue 94 = .ok (.ifCond .eq (-40), 3) := by decide +kernel
theorem dX12_tongue_97 : decode cX12_tongue 97 = .ok (.aload_n 0, 1) := by decide +kernel
theorem dX12_tongue_98 : decode cX12_tongue 98 = .ok (.invokevirtual 194, 3) := by decide +kernel
theorem dX12_tongue_101 : decode cX12_tongue 101 = .ok (.bipush 59, 2) := by decide +kernel
theorem dX12_tongue_103 : decode cX12_tongue 103 = .ok (.if_icmp .eq 12, 3) := by decide +kernel
theorem dX12_tongue_106 : decode cX12_tongue 106 = .ok (.aload_n 0, 1) := by decide +kernel
theorem dX12_tongue_107 : decode cX12_tongue 107 = .ok (.iconst 1, 1) := by decide +kernel
theorem dX12_tongue_108 : decode cX12_tongue 108 = .ok (.aload_n 0, 1) := by decide +kernel
theorem dX12_tongue_109 : decode cX12_tongue 109 = .ok (.getfield 168, 3) := by decide +kernel
theorem dX12_tongue_112 : decode cX12_tongue 112 = .ok (.invokevirtual 190, 3) := by decide +kernel
theorem dX12_tongue_115 : decode cX12_tongue 115 = .ok (.aload_n 0, 1) := by decide +kernel
theorem dX12_tongue_116 : decode cX12_tongue 116 = .ok (.dup, 1) := by decide +kernel
theorem dX12_tongue_117 : decode cX12_tongue 117 = .ok (.getfield 168, 3) := by decide +kernel
theorem dX12_tongue_120 : decode cX12_tongue 120 = .ok (.iconst 1, 1) := by decide +kernel
theorem dX12_tongue_121 : decode cX12_tongue 121 = .ok (.iadd, 1) := by decide +kernel
theorem dX12_tongue_122 : decode cX12_tongue 122 = .ok (.putfield 168, 3) := by decide +kernel
theorem dX12_tongue_125 : decode cX12_tongue 125 = .ok (.goto (-71), 3) := by decide +kernel
theorem dX12_tongue_128 : decode cX12_tongue 128 = .ok (.aload_n 0, 1) := by decide +kernel
theorem dX12_tongue_129 : decode cX12_tongue 129 = .ok (.getfield 174, 3) := by decide +kernel
theorem dX12_tongue_132 : decode cX12_tongue 132 = .ok (.ifCond .ge 8, 3) := by decide +kernel
theorem dX12_tongue_135 : decode cX12_tongue 135 = .ok (.aload_n 0, 1) := by decide +kernel
theorem dX12_tongue_136 : decode cX12_tongue 136 = .ok (.getfield 174, 3) := by decide +kernel
theorem dX12_tongue_139 : decode cX12_tongue 139 = .ok (.ireturn, 1) := by decide +kernel
theorem dX12_tongue_140 : decode cX12_tongue 140 = .ok (.iconst 0, 1) := by decide +kernel
theorem dX12_tongue_141 : decode cX12_tongue 141 = .ok (.istore_n 3, 1) := by decide +kernel
theorem dX12_tongue_142 : decode cX12_tongue 142 = .ok (.iload_n 3, 1) := by decide +kernel
theorem dX12_tongue_143 : decode cX12_tongue 143 = .ok (.aload_n 0, 1) := by decide +kernel
theorem dX12_tongue_144 : decode cX12_tongue 144 = .ok (.getfield 265, 3) := by decide +kernel
theorem dX12_tongue_147 : decode cX12_tongue 147 = .ok (.if_icmp .ge 57, 3) := by decide +kernel
theorem dX12_tongue_150 : decode cX12_tongue 150 = .ok (.aload_n 0, 1) := by decide +kernel
theorem dX12_tongue_151 : decode cX12_tongue 151 = .ok (.getfield 45, 3) := by decide +kernel
theorem dX12_tongue_154 : decode cX12_tongue 154 = .ok (.iload_n 3, 1) := by decide +kernel
theorem dX12_tongue_155 : decode cX12_tongue 155 = .ok (.aload_n 0, 1) := by decide +kernel
theorem dX12_tongue_156 : decode cX12_tongue 156 = .ok (.getfield 63, 3) := by decide +kernel
theorem dX12_tongue_159 : decode cX12_tongue 159 = .ok (.iload_n 3, 1) := by decide +kernel
theorem dX12_tongue_160 : decode cX12_tongue 160 = .ok (.iaload, 1) := by decide +kernel
theorem dX12_tongue_161 : decode cX12_tongue 161 = .ok (.iastore, 1) := by decide +kernel
theorem dX12_tongue_162 : decode cX12_tongue 162 = .ok (.aload_n 0, 1) := by decide +kernel
theorem dX12_tongue_163 : decode cX12_tongue 163 = .ok (.getfield 48, 3) := by decide +kernel
theorem dX12_tongue_166 : decode cX12_tongue 166 = .ok (.iload_n 3, 1) := by decide +kernel
theorem dX12_tongue_167 : decode cX12_tongue 167 = .ok (.aload_n 0, 1) := by decide +kernel
theorem dX12_tongue_168 : decode cX12_tongue 168 = .ok (.getfield 66, 3) := by decide +kernel
theorem dX12_tongue_171 : decode cX12_tongue 171 = .ok (.iload_n 3, 1) := by decide +kernel
theorem dX12_tongue_172 : decode cX12_tongue 172 = .ok (.iaload, 1) := by decide +kernel
theorem dX12_tongue_173 : decode cX12_tongue 173 = .ok (.iastore, 1) := by decide +kernel
theorem dX12_tongue_174 : decode cX12_tongue 174 = .ok (.aload_n 0, 1) := by decide +kernel
theorem dX12_tongue_175 : decode cX12_tongue 175 = .ok (.getfield 51, 3) := by decide +kernel
theorem dX12_tongue_178 : decode cX12_tongue 178 = .ok (.iload_n 3, 1) := by decide +kernel
theorem dX12_tongue_179 : decode cX12_tongue 179 = .ok (.aload_n 0, 1) := by decide +kernel
theorem dX12_tongue_180 : decode cX12_tongue 180 = .ok (.getfield 69, 3) := by decide +kernel
theorem dX12_tongue_183 : decode cX12_tongue 183 = .ok (.iload_n 3, 1) := by decide +kernel
theorem dX12_tongue_184 : decode cX12_tongue 184 = .ok (.iaload, 1) := by decide +kernel
theorem dX12_tongue_185 : decode cX12_tongue 185 = .ok (.iastore, 1) := by decide +kernel
theorem dX12_tongue_186 : decode cX12_tongue 186 = .ok (.aload_n 0, 1) := by decide +kernel
theorem dX12_tongue_187 : decode cX12_tongue 187 = .ok (.getfield 54, 3) := by decide +kernel
theorem dX12_tongue_190 : decode cX12_tongue 190 = .ok (.iload_n 3, 1) := by decide +kernel
theorem dX12_tongue_191 : decode cX12_tongue 191 = .ok (.aload_n 0, 1) := by decide +kernel
theorem dX12_tongue_192 : decode cX12_tongue 192 = .ok (.getfield 72, 3) := by decide +kernel
theorem dX12_tongue_195 : decode cX12_tongue 195 = .ok (.iload_n 3, 1) := by decide +kernel
theorem dX12_tongue_196 : decode cX12_tongue 196 = .ok (.iaload, 1) := by decide +kernel
theorem dX12_tongue_197 : decode cX12_tongue 197 = .ok (.iastore, 1) := by decide +kernel
theorem dX12_tongue_198 : decode cX12_tongue 198 = .ok (.iinc 3 1, 3) := by decide +kernel
theorem dX12_tongue_201 : decode cX12_tongue 201 = .ok (.goto (-59), 3) := by decide +kernel
theorem dX12_tongue_204 : decode cX12_tongue 204 = .ok (.iconst 0, 1) := by decide +kernel
theorem dX12_tongue_205 : decode cX12_tongue 205 = .ok (.istore_n 3, 1) := by decide +kernel
theorem dX12_tongue_206 : decode cX12_tongue 206 = .ok (.iload_n 3, 1) := by decide +kernel
theorem dX12_tongue_207 : decode cX12_tongue 207 = .ok (.aload_n 0, 1) := by decide +kernel
theorem dX12_tongue_208 : decode cX12_tongue 208 = .ok (.getfield 181, 3) := by decide +kernel
theorem dX12_tongue_211 : decode cX12_tongue 211 = .ok (.if_icmp .ge 33, 3) := by decide +kernel
theorem dX12_tongue_214 : decode cX12_tongue 214 = .ok (.aload_n 0, 1) := by decide +kernel
theorem dX12_tongue_215 : decode cX12_tongue 215 = .ok (.getfield 57, 3) := by decide +kernel
theorem dX12_tongue_218 : decode cX12_tongue 218 = .ok (.iload_n 3, 1) := by decide +kernel
theorem dX12_tongue_219 : decode cX12_tongue 219 = .ok (.aload_n 0, 1) := by decide +kernel
theorem dX12_tongue_220 : decode cX12_tongue 220 = .ok (.getfield 75, 3) := by decide +kernel
theorem dX12_tongue_223 : decode cX12_tongue 223 = .ok (.iload_n 3, 1) := by decide +kernel
theorem dX12_tongue_224 : decode cX12_tongue 224 = .ok (.iaload, 1) := by decide +kernel
theorem dX12_tongue_225 : decode cX12_tongue 225 = .ok (.iastore, 1) := by decide +kernel
theorem dX12_tongue_226 : decode cX12_tongue 226 = .ok (.aload_n 0, 1) := by decide +kernel
theorem dX12_tongue_227 : decode cX12_tongue 227 = .ok (.getfield 60, 3) := by decide +kernel
theorem dX12_tongue_230 : decode cX12_tongue 230 = .ok (.iload_n 3, 1) := by decide +kernel
theorem dX12_tongue_231 : decode cX12_tongue 231 = .ok (.aload_n 0, 1) := by decide +kernel
theorem dX12_tongue_232 : decode cX12_tongue 232 = .ok (.getfield 78, 3) := by decide +kernel
theorem dX12_tongue_235 : decode cX12_tongue 235 = .ok (.iload_n 3, 1) := by decide +kernel
theorem dX12_tongue_236 : decode cX12_tongue 236 = .ok (.iaload, 1) := by decide +kernel
theorem dX12_tongue_237 : decode cX12_tongue 237 = .ok (.iastore, 1) := by decide +kernel
theorem dX12_tongue_238 : decode cX12_tongue 238 = .ok (.iinc 3 1, 3) := by decide +kernel
theorem dX12_tongue_241 : decode cX12_tongue 241 = .ok (.goto (-35), 3) := by decide +kernel
theorem dX12_tongue_244 : decode cX12_tongue 244 = .ok (.aload_n 0, 1) := by decide +kernel
theorem dX12_tongue_245 : decode cX12_tongue 245 = .ok (.aload_n 0, 1) := by decide +kernel
theorem dX12_tongue_246 : decode cX12_tongue 246 = .ok (.getfield 265, 3) := by decide +kernel
theorem dX12_tongue_249 : decode cX12_tongue 249 = .ok (.putfield 274, 3) := by decide +kernel
theorem dX12_tongue_252 : decode cX12_tongue 252 = .ok (.aload_n 0, 1) := by decide +kernel
theorem dX12_tongue_253 : decode cX12_tongue 253 = .ok (.getfield 274, 3) := by decide +kernel
theorem dX12_tongue_256 : decode cX12_tongue 256 = .ok (.ireturn, 1) := by decide +kernel
theorem dX12_valueOf_0 : decode cX12_valueOf 0 = .ok (.iload_n 1, 1) := by decide +kernel
theorem dX12_valueOf_1 : decode cX12_valueOf 1 = .ok (.tableswitch 164 97 119 #[159, 164, 164, 144, 149, 164, 107, 164, 164, 164, 154, 117, 164, 164, 164, 122, 164, 164, 127, 164, 164, 164, 112], 107) := by decide +kernel
theorem dX12_valueOf_108 : decode cX12_valueOf 108 = .ok (.aload_n 0, 1) := by decide +kernel
theorem dX12_valueOf_109 : decode cX12_valueOf 109 = .ok (.getfield 277, 3) := by decide +kernel
theorem dX12_valueOf_112 : decode cX12_valueOf 112 = .ok (.ireturn, 1) := by decide +kernel
theorem dX12_valueOf_113 : decode cX12_valueOf 113 = .ok (.aload_n 0, 1) := by decide +kernel
theorem dX12_valueOf_114 : decode cX12_valueOf 114 = .ok (.getfield 280, 3) := by decide +kernel
theorem dX12_valueOf_117 : decode cX12_valueOf 117 = .ok (.ireturn, 1) := by decide +kernel
theorem dX12_valueOf_118 : decode cX12_valueOf 118 = .ok (.aload_n 0, 1) := by decide +kernel
theorem dX12_valueOf_119 : decode cX12_valueOf 119 = .ok (.getfield 283, 3) := by decide +kernel
theorem dX12_valueOf_122 : decode cX12_valueOf 122 = .ok (.ireturn, 1) := by decide +kernel
theorem dX12_valueOf_123 : decode cX12_valueOf 123 = .ok (.aload_n 0, 1) := by decide +kernel
theorem dX12_valueOf_124 : decode cX12_valueOf 124 = .ok (.getfield 286, 3) := by decide +kernel
theorem dX12_valueOf_127 : decode cX12_valueOf 127 = .ok (.ireturn, 1) := by decide +kernel
theorem dX12_valueOf_128 : decode cX12_valueOf 128 = .ok (.aload_n 0, 1) := by decide +kernel
theorem dX12_valueOf_129 : decode cX12_valueOf 129 = .ok (.getfield 280, 3) := by decide +kernel
theorem dX12_valueOf_132 : decode cX12_valueOf 132 = .ok (.aload_n 0, 1) := by decide +kernel
theorem dX12_valueOf_133 : decode cX12_valueOf 133 = .ok (.getfield 283, 3) := by decide +kernel
theorem dX12_valueOf_136 : decode cX12_valueOf 136 = .ok (.if_icmp .ne 7, 3) := by decide +kernel
theorem dX12_valueOf_139 : decode cX12_valueOf 139 = .ok (.iconst 1, 1) := by decide +kernel
theorem dX12_valueOf_140 : decode cX12_valueOf 140 = .ok (.goto 4, 3) := by decide +kernel
theorem dX12_valueOf_143 : decode cX12_valueOf 143 = .ok (.iconst 0, 1) := by decide +kernel
theorem dX12_valueOf_144 : decode cX12_valueOf 144 = .ok (.ireturn, 1) := by decide +kernel
theorem dX12_valueOf_145 : decode cX12_valueOf 145 = .ok (.aload_n 0, 1) := by decide +kernel
theorem dX12_valueOf_146 : decode cX12_valueOf 146 = .ok (.getfield 289, 3) := by decide +kernel
theorem dX12_valueOf_149 : decode cX12_valueOf 149 = .ok (.ireturn, 1) := by decide +kernel
theorem dX12_valueOf_150 : decode cX12_valueOf 150 = .ok (.aload_n 0, 1) := by decide +kernel
theorem dX12_valueOf_151 : decode cX12_valueOf 151 = .ok (.getfield 292, 3) := by decide +kernel
theorem dX12_valueOf_154 : decode cX12_valueOf 154 = .ok (.ireturn, 1) := by decide +kernel
theorem dX12_valueOf_155 : decode cX12_valueOf 155 = .ok (.aload_n 0, 1) := by decide +kernel
theorem dX12_valueOf_156 : decode cX12_valueOf 156 = .ok (.getfield 295, 3) := by decide +kernel
theorem dX12_valueOf_159 : decode cX12_valueOf 159 = .ok (.ireturn, 1) := by decide +kernel
theorem dX12_valueOf_160 : decode cX12_valueOf 160 = .ok (.aload_n 0, 1) := by decide +kernel
theorem dX12_valueOf_161 : decode cX12_valueOf 161 = .ok (.getfield 298, 3) := by decide +kernel
theorem dX12_valueOf_164 : decode cX12_valueOf 164 = .ok (.ireturn, 1) := by decide +kernel
theorem dX12_valueOf_165 : decode cX12_valueOf 165 = .ok (.aload_n 0, 1) := by decide +kernel
theorem dX12_valueOf_166 : decode cX12_valueOf 166 = .ok (.getfield 301, 3) := by decide +kernel
theorem dX12_valueOf_169 : decode cX12_valueOf 169 = .ok (.ireturn, 1) := by decide +kernel
theorem dX12_worked_0 : decode cX12_worked 0 = .ok (.iload_n 0, 1) := by decide +kernel
theorem dX12_worked_1 : decode cX12_worked 1 = .ok (.lookupswitch 125 #[(37, 91), (42, 75), (43, 67), (45, 71), (47, 79), (60, 103), (62, 114)], 67) := by decide +kernel
theorem dX12_worked_68 : decode cX12_worked 68 = .ok (.iload_n 1, 1) := by decide +kernel
theorem dX12_worked_69 : decode cX12_worked 69 = .ok (.iload_n 2, 1) := by decide +kernel
theorem dX12_worked_70 : decode cX12_worked 70 = .ok (.iadd, 1) := by decide +kernel
theorem dX12_worked_71 : decode cX12_worked 71 = .ok (.ireturn, 1) := by decide +kernel
theorem dX12_worked_72 : decode cX12_worked 72 = .ok (.iload_n 1, 1) := by decide +kernel
theorem dX12_worked_73 : decode cX12_worked 73 = .ok (.iload_n 2, 1) := by decide +kernel
theorem dX12_worked_74 : decode cX12_worked 74 = .ok (.isub, 1) := by decide +kernel
theorem dX12_worked_75 : decode cX12_worked 75 = .ok (.ireturn, 1) := by decide +kernel
theorem dX12_worked_76 : decode cX12_worked 76 = .ok (.iload_n 1, 1) := by decide +kernel
theorem dX12_worked_77 : decode cX12_worked 77 = .ok (.iload_n 2, 1) := by decide +kernel
theorem dX12_worked_78 : decode cX12_worked 78 = .ok (.imul, 1) := by decide +kernel
theorem dX12_worked_79 : decode cX12_worked 79 = .ok (.ireturn, 1) := by decide +kernel
theorem dX12_worked_80 : decode cX12_worked 80 = .ok (.iload_n 2, 1) := by decide +kernel
theorem dX12_worked_81 : decode cX12_worked 81 = .ok (.ifCond .ne 7, 3) := by decide +kernel
theorem dX12_worked_84 : decode cX12_worked 84 = .ok (.iconst 0, 1) := by decide +kernel
theorem dX12_worked_85 : decode cX12_worked 85 = .ok (.goto 6, 3) := by decide +kernel
theorem dX12_worked_88 : decode cX12_worked 88 = .ok (.iload_n 1, 1) := by decide +kernel
theorem dX12_worked_89 : decode cX12_worked 89 = .ok (.iload_n 2, 1) := by decide +kernel
theorem dX12_worked_90 : decode cX12_worked 90 = .ok (.idiv, 1) := by decide +kernel
theorem dX12_worked_91 : decode cX12_worked 91 = .ok (.ireturn, 1) := by decide +kernel
theorem dX12_worked_92 : decode cX12_worked 92 = .ok (.iload_n 2, 1) := by decide +kernel
theorem dX12_worked_93 : decode cX12_worked 93 = .ok (.ifCond .ne 7, 3) := by decide +kernel
theorem dX12_worked_96 : decode cX12_worked 96 = .ok (.iconst 0, 1) := by decide +kernel
theorem dX12_worked_97 : decode cX12_worked 97 = .ok (.goto 6, 3) := by decide +kernel
theorem dX12_worked_100 : decode cX12_worked 100 = .ok (.iload_n 1, 1) := by decide +kernel
theorem dX12_worked_101 : decode cX12_worked 101 = .ok (.iload_n 2, 1) := by decide +kernel
theorem dX12_worked_102 : decode cX12_worked 102 = .ok (.irem, 1) := by decide +kernel
theorem dX12_worked_103 : decode cX12_worked 103 = .ok (.ireturn, 1) := by decide +kernel
theorem dX12_worked_104 : decode cX12_worked 104 = .ok (.iload_n 1, 1) := by decide +kernel
theorem dX12_worked_105 : decode cX12_worked 105 = .ok (.iload_n 2, 1) := by decide +kernel
theorem dX12_worked_106 : decode cX12_worked 106 = .ok (.if_icmp .ge 7, 3) := by decide +kernel
theorem dX12_worked_109 : decode cX12_worked 109 = .ok (.iconst 1, 1) := by decide +kernel
theorem dX12_worked_110 : decode cX12_worked 110 = .ok (.goto 4, 3) := by decide +kernel
theorem dX12_worked_113 : decode cX12_worked 113 = .ok (.iconst 0, 1) := by decide +kernel
theorem dX12_worked_114 : decode cX12_worked 114 = .ok (.ireturn, 1) := by decide +kernel
theorem dX12_worked_115 : decode cX12_worked 115 = .ok (.iload_n 1, 1) := by decide +kernel
theorem dX12_worked_116 : decode cX12_worked 116 = .ok (.iload_n 2, 1) := by decide +kernel
theorem dX12_worked_117 : decode cX12_worked 117 = .ok (.if_icmp .le 7, 3) := by decide +kernel
theorem dX12_worked_120 : decode cX12_worked 120 = .ok (.iconst 1, 1) := by decide +kernel
theorem dX12_worked_121 : decode cX12_worked 121 = .ok (.goto 4, 3) := by decide +kernel
theorem dX12_worked_124 : decode cX12_worked 124 = .ok (.iconst 0, 1) := by decide +kernel
theorem dX12_worked_125 : decode cX12_worked 125 = .ok (.ireturn, 1) := by decide +kernel
theorem dX12_worked_126 : decode cX12_worked 126 = .ok (.iload_n 1, 1) := by decide +kernel
theorem dX12_worked_127 : decode cX12_worked 127 = .ok (.iload_n 2, 1) := by decide +kernel
theorem dX12_worked_128 : decode cX12_worked 128 = .ok (.if_icmp .ne 7, 3) := by decide +kernel
theorem dX12_worked_131 : decode cX12_worked 131 = .ok (.iconst 1, 1) := by decide +kernel
theorem dX12_worked_132 : decode cX12_worked 132 = .ok (.goto 4, 3) := by decide +kernel
theorem dX12_worked_135 : decode cX12_worked 135 = .ok (.iconst 0, 1) := by decide +kernel
theorem dX12_worked_136 : decode cX12_worked 136 = .ok (.ireturn, 1) := by decide +kernel
theorem dX12_does_0 : decode cX12_does 0 = .ok (.iload_n 2, 1) := by decide +kernel
theorem dX12_does_1 : decode cX12_does 1 = .ok (.iconst 1, 1) := by decide +kernel
theorem dX12_does_2 : decode cX12_does 2 = .ok (.iadd, 1) := by decide +kernel
theorem dX12_does_3 : decode cX12_does 3 = .ok (.istore_n 3, 1) := by decide +kernel
theorem dX12_does_4 : decode cX12_does 4 = .ok (.iload_n 1, 1) := by decide +kernel
theorem dX12_does_5 : decode cX12_does 5 = .ok (.bipush 38, 2) := by decide +kernel
theorem dX12_does_7 : decode cX12_does 7 = .ok (.if_icmp .eq 9, 3) := by decide +kernel
theorem dX12_does_10 : decode cX12_does 10 = .ok (.iload_n 1, 1) := by decide +kernel
theorem dX12_does_11 : decode cX12_does 11 = .ok (.bipush 124, 2) := by decide +kernel
theorem dX12_does_13 : decode cX12_does 13 = .ok (.if_icmp .ne 58, 3) := by decide +kernel
theorem dX12_does_16 : decode cX12_does 16 = .ok (.aload_n 0, 1) := by decide +kernel
theorem dX12_does_17 : decode cX12_does 17 = .ok (.getfield 87, 3) := by decide +kernel
theorem dX12_does_20 : decode cX12_does 20 = .ok (.iload_n 2, 1) := by decide +kernel
theorem dX12_does_21 : decode cX12_does 21 = .ok (.baload, 1) := by decide +kernel
theorem dX12_does_22 : decode cX12_does 22 = .ok (.ifCond .ne 23, 3) := by decide +kernel
theorem dX12_does_25 : decode cX12_does 25 = .ok (.aload_n 0, 1) := by decide +kernel
theorem dX12_does_26 : decode cX12_does 26 = .ok (.getfield 84, 3) := by decide +kernel
theorem dX12_does_29 : decode cX12_does 29 = .ok (.iload_n 2, 1) := by decide +kernel
theorem dX12_does_30 : decode cX12_does 30 = .ok (.iaload, 1) := by decide +kernel
theorem dX12_does_31 : decode cX12_does 31 = .ok (.iload_n 1, 1) := by decide +kernel
theorem dX12_does_32 : decode cX12_does 32 = .ok (.bipush 38, 2) := by decide +kernel
theorem dX12_does_34 : decode cX12_does 34 = .ok (.if_icmp .ne 7, 3) := by decide +kernel
theorem dX12_does_37 : decode cX12_does 37 = .ok (.iconst 1, 1) := by decide +kernel
theorem dX12_does_38 : decode cX12_does 38 = .ok (.goto 4, 3) := by decide +kernel
theorem dX12_does_41 : decode cX12_does 41 = .ok (.iconst 0, 1) := by decide +kernel
theorem dX12_does_42 : decode cX12_does 42 = .ok (.if_icmp .eq 4, 3) := by decide +kernel
theorem dX12_does_45 : decode cX12_does 45 = .ok (.return_, 1) := by decide +kernel
theorem dX12_does_46 : decode cX12_does 46 = .ok (.aload_n 0, 1) := by decide +kernel
theorem dX12_does_47 : decode cX12_does 47 = .ok (.getfield 84, 3) := by decide +kernel
theorem dX12_does_50 : decode cX12_does 50 = .ok (.iload_n 2, 1) := by decide +kernel
theorem dX12_does_51 : decode cX12_does 51 = .ok (.aload_n 0, 1) := by decide +kernel
theorem dX12_does_52 : decode cX12_does 52 = .ok (.getfield 84, 3) := by decide +kernel
theorem dX12_does_55 : decode cX12_does 55 = .ok (.iload_n 3, 1) := by decide +kernel
theorem dX12_does_56 : decode cX12_does 56 = .ok (.iaload, 1) := by decide +kernel
theorem dX12_does_57 : decode cX12_does 57 = .ok (.iastore, 1) := by decide +kernel
theorem dX12_does_58 : decode cX12_does 58 = .ok (.aload_n 0, 1) := by decide +kernel
theorem dX12_does_59 : decode cX12_does 59 = .ok (.getfield 87, 3) := by decide +kernel
theorem dX12_does_62 : decode cX12_does 62 = .ok (.iload_n 2, 1) := by decide +kernel
theorem dX12_does_63 : decode cX12_does 63 = .ok (.aload_n 0, 1) := by decide +kernel
theorem dX12_does_64 : decode cX12_does 64 = .ok (.getfield 87, 3) := by decide +kernel
theorem dX12_does_67 : decode cX12_does 67 = .ok (.iload_n 3, 1) := by decide +kernel
theorem dX12_does_68 : decode cX12_does 68 = .ok (.baload, 1) := by decide +kernel
theorem dX12_does_69 : decode cX12_does 69 = .ok (.bastore, 1) := by decide +kernel
theorem dX12_does_70 : decode cX12_does 70 = .ok (.return_, 1) := by decide +kernel
theorem dX12_does_71 : decode cX12_does 71 = .ok (.aload_n 0, 1) := by decide +kernel
theorem dX12_does_72 : decode cX12_does 72 = .ok (.getfield 87, 3) := by decide +kernel
theorem dX12_does_75 : decode cX12_does 75 = .ok (.iload_n 2, 1) := by decide +kernel
theorem dX12_does_76 : decode cX12_does 76 = .ok (.aload_n 0, 1) := by decide +kernel
theorem dX12_does_77 : decode cX12_does 77 = .ok (.getfield 87, 3) := by decide +kernel
theorem dX12_does_80 : decode cX12_does 80 = .ok (.iload_n 2, 1) := by decide +kernel
theorem dX12_does_81 : decode cX12_does 81 = .ok (.baload, 1) := by decide +kernel
theorem dX12_does_82 : decode cX12_does 82 = .ok (.ifCond .ne 33, 3) := by decide +kernel
theorem dX12_does_85 : decode cX12_does 85 = .ok (.aload_n 0, 1) := by decide +kernel
theorem dX12_does_86 : decode cX12_does 86 = .ok (.getfield 87, 3) := by decide +kernel
theorem dX12_does_89 : decode cX12_does 89 = .ok (.iload_n 3, 1) := by decide +kernel
theorem dX12_does_90 : decode cX12_does 90 = .ok (.baload, 1) := by decide +kernel
theorem dX12_does_91 : decode cX12_does 91 = .ok (.ifCond .ne 24, 3) := by decide +kernel
theorem dX12_does_94 : decode cX12_does 94 = .ok (.iload_n 1, 1) := by decide +kernel
theorem dX12_does_95 : decode cX12_does 95 = .ok (.bipush 47, 2) := by decide +kernel
theorem dX12_does_97 : decode cX12_does 97 = .ok (.if_icmp .eq 9, 3) := by decide +kernel
theorem dX12_does_100 : decode cX12_does 100 = .ok (.iload_n 1, 1) := by decide +kernel
theorem dX12_does_101 : decode cX12_does 101 = .ok (.bipush 37, 2) := by decide +kernel
theorem dX12_does_103 : decode cX12_does 103 = .ok (.if_icmp .ne 16, 3) := by decide +kernel
theorem dX12_does_106 : decode cX12_does 106 = .ok (.aload_n 0, 1) := by decide +kernel
theorem dX12_does_107 : decode cX12_does 107 = .ok (.getfield 84, 3) := by decide +kernel
theorem dX12_does_110 : decode cX12_does 110 = .ok (.iload_n 3, 1) := by decide +kernel
theorem dX12_does_111 : decode cX12_does 111 = .ok (.iaload, 1) := by decide +kernel
theorem dX12_does_112 : decode cX12_does 112 = .ok (.ifCond .ne 7, 3) := by decide +kernel
theorem dX12_does_115 : decode cX12_does 115 = .ok (.iconst 1, 1) := by decide +kernel
theorem dX12_does_116 : decode cX12_does 116 = .ok (.goto 4, 3) := by decide +kernel
theorem dX12_does_119 : decode cX12_does 119 = .ok (.iconst 0, 1) := by decide +kernel
theorem dX12_does_120 : decode cX12_does 120 = .ok (.bastore, 1) := by decide +kernel
theorem dX12_does_121 : decode cX12_does 121 = .ok (.aload_n 0, 1) := by decide +kernel
theorem dX12_does_122 : decode cX12_does 122 = .ok (.getfield 84, 3) := by decide +kernel
theorem dX12_does_125 : decode cX12_does 125 = .ok (.iload_n 2, 1) := by decide +kernel
theorem dX12_does_126 : decode cX12_does 126 = .ok (.iload_n 1, 1) := by decide +kernel
theorem dX12_does_127 : decode cX12_does 127 = .ok (.aload_n 0, 1) := by decide +kernel
theorem dX12_does_128 : decode cX12_does 128 = .ok (.getfield 84, 3) := by decide +kernel
theorem dX12_does_131 : decode cX12_does 131 = .ok (.iload_n 2, 1) := by decide +kernel
theorem dX12_does_132 : decode cX12_does 132 = .ok (.iaload, 1) := by decide +kernel
theorem dX12_does_133 : decode cX12_does 133 = .ok (.aload_n 0, 1) := by decide +kernel
theorem dX12_does_134 : decode cX12_does 134 = .ok (.getfield 84, 3) := by decide +kernel
theorem dX12_does_137 : decode cX12_does 137 = .ok (.iload_n 3, 1) := by decide +kernel
theorem dX12_does_138 : decode cX12_does 138 = .ok (.iaload, 1) := by decide +kernel
theorem dX12_does_139 : decode cX12_does 139 = .ok (.invokestatic 304, 3) := by decide +kernel
theorem dX12_does_142 : decode cX12_does 142 = .ok (.iastore, 1) := by decide +kernel
theorem dX12_does_143 : decode cX12_does 143 = .ok (.return_, 1) := by decide +kernel
theorem dX12_works_0 : decode cX12_works 0 = .ok (.iconst 0, 1) := by decide +kernel
theorem dX12_works_1 : decode cX12_works 1 = .ok (.istore_n 3, 1) := by decide +kernel
theorem dX12_works_2 : decode cX12_works 2 = .ok (.iload_n 1, 1) := by decide +kernel
theorem dX12_works_3 : decode cX12_works 3 = .ok (.istore 4, 2) := by decide +kernel
theorem dX12_works_5 : decode cX12_works 5 = .ok (.iload 4, 2) := by decide +kernel
theorem dX12_works_7 : decode cX12_works 7 = .ok (.iload_n 2, 1) := by decide +kernel
theorem dX12_works_8 : decode cX12_works 8 = .ok (.if_icmp .ge 119, 3) := by decide +kernel
theorem dX12_works_11 : decode cX12_works 11 = .ok (.aload_n 0, 1) := by decide +kernel
theorem dX12_works_12 : decode cX12_works 12 = .ok (.getfield 57, 3) := by decide +kernel
theorem dX12_works_15 : decode cX12_works 15 = .ok (.iload 4, 2) := by decide +kernel
theorem dX12_works_17 : decode cX12_works 17 = .ok (.iaload, 1) := by decide +kernel
theorem dX12_works_18 : decode cX12_works 18 = .ok (.iconst 2, 1) := by decide +kernel
theorem dX12_works_19 : decode cX12_works 19 = .ok (.if_icmp .le 23, 3) := by decide +kernel
theorem dX12_works_22 : decode cX12_works 22 = .ok (.iinc 3 (-1), 3) := by decide +kernel
theorem dX12_works_25 : decode cX12_works 25 = .ok (.aload_n 0, 1) := by decide +kernel
theorem dX12_works_26 : decode cX12_works 26 = .ok (.aload_n 0, 1) := by decide +kernel
theorem dX12_works_27 : decode cX12_works 27 = .ok (.getfield 57, 3) := by decide +kernel
theorem dX12_works_30 : decode cX12_works 30 = .ok (.iload 4, 2) := by decide +kernel
theorem dX12_works_32 : decode cX12_works 32 = .ok (.iaload, 1) := by decide +kernel
theorem dX12_works_33 : decode cX12_works 33 = .ok (.iload_n 3, 1) := by decide +kernel
theorem dX12_works_34 : decode cX12_works 34 = .ok (.iconst 1, 1) := by decide +kernel
theorem dX12_works_35 : decode cX12_works 35 = .ok (.isub, 1) := by decide +kernel
theorem dX12_works_36 : decode cX12_works 36 = .ok (.invokevirtual 308, 3) := by decide +kernel
theorem dX12_works_39 : decode cX12_works 39 = .ok (.goto 82, 3) := by decide +kernel
theorem dX12_works_42 : decode cX12_works 42 = .ok (.aload_n 0, 1) := by decide +kernel
theorem dX12_works_43 : decode cX12_works 43 = .ok (.getfield 57, 3) := by decide +kernel
theorem dX12_works_46 : decode cX12_works 46 = .ok (.iload 4, 2) := by decide +kernel
theorem dX12_works_48 : decode cX12_works 48 = .ok (.iaload, 1) := by decide +kernel
theorem dX12_works_49 : decode cX12_works 49 = .ok (.iconst 2, 1) := by decide +kernel
theorem dX12_works_50 : decode cX12_works 50 = .ok (.if_icmp .ne 24, 3) := by decide +kernel
theorem dX12_works_53 : decode cX12_works 53 = .ok (.aload_n 0, 1) := by decide +kernel
theorem dX12_works_54 : decode cX12_works 54 = .ok (.getfield 84, 3) := by decide +kernel
theorem dX12_works_57 : decode cX12_works 57 = .ok (.iload_n 3, 1) := by decide +kernel
theorem dX12_works_58 : decode cX12_works 58 = .ok (.iconst 1, 1) := by decide +kernel
theorem dX12_works_59 : decode cX12_works 59 = .ok (.isub, 1) := by decide +kernel
theorem dX12_works_60 : decode cX12_works 60 = .ok (.iconst 1, 1) := by decide +kernel
theorem dX12_works_61 : decode cX12_works 61 = .ok (.aload_n 0, 1) := by decide +kernel
theorem dX12_works_62 : decode cX12_works 62 = .ok (.getfield 84, 3) := by decide +kernel
theorem dX12_works_65 : decode cX12_works 65 = .ok (.iload_n 3, 1) := by decide +kernel
theorem dX12_works_66 : decode cX12_works 66 = .ok (.iconst 1, 1) := by decide +kernel
theorem dX12_works_67 : decode cX12_works 67 = .ok (.isub, 1) := by decide +kernel
theorem dX12_works_68 : decode cX12_works 68 = .ok (.iaload, 1) := by decide +kernel
theorem dX12_works_69 : decode cX12_works 69 = .ok (.isub, 1) := by decide +kernel
theorem dX12_works_70 : decode cX12_works 70 = .ok (.iastore, 1) := by decide +kernel
theorem dX12_works_71 : decode cX12_works 71 = .ok (.goto 50, 3) := by decide +kernel
theorem dX12_works_74 : decode cX12_works 74 = .ok (.aload_n 0, 1) := by decide +kernel
theorem dX12_works_75 : decode cX12_works 75 = .ok (.getfield 87, 3) := by decide +kernel
theorem dX12_works_78 : decode cX12_works 78 = .ok (.iload_n 3, 1) := by decide +kernel
theorem dX12_works_79 : decode cX12_works 79 = .ok (.iconst 0, 1) := by decide +kernel
theorem dX12_works_80 : decode cX12_works 80 = .ok (.bastore, 1) := by decide +kernel
theorem dX12_works_81 : decode cX12_works 81 = .ok (.aload_n 0, 1) := by decide +kernel
theorem dX12_works_82 : decode cX12_works 82 = .ok (.getfield 84, 3) := by decide +kernel
theorem dX12_works_85 : decode cX12_works 85 = .ok (.iload_n 3, 1) := by decide +kernel
theorem dX12_works_86 : decode cX12_works 86 = .ok (.aload_n 0, 1) := by decide +kernel
theorem dX12_works_87 : decode cX12_works 87 = .ok (.getfield 57, 3) := by decide +kernel
theorem dX12_works_90 : decode cX12_works 90 = .ok (.iload 4, 2) := by decide +kernel
theorem dX12_works_92 : decode cX12_works 92 = .ok (.iaload, 1) := by decide +kernel
theorem dX12_works_93 : decode cX12_works 93 = .ok (.ifCond .ne 13, 3) := by decide +kernel
theorem dX12_works_96 : decode cX12_works 96 = .ok (.aload_n 0, 1) := by decide +kernel
theorem dX12_works_97 : decode cX12_works 97 = .ok (.getfield 60, 3) := by decide +kernel
theorem dX12_works_100 : decode cX12_works 100 = .ok (.iload 4, 2) := by decide +kernel
theorem dX12_works_102 : decode cX12_works 102 = .ok (.iaload, 1) := by decide +kernel
theorem dX12_works_103 : decode cX12_works 103 = .ok (.goto 14, 3) := by decide +kernel
theorem dX12_works_106 : decode cX12_works 106 = .ok (.aload_n 0, 1) := by decide +kernel
theorem dX12_works_107 : decode cX12_works 107 = .ok (.aload_n 0, 1) := by decide +kernel
theorem dX12_works_108 : decode cX12_works 108 = .ok (.getfield 60, 3) := by decide +kernel
theorem dX12_works_111 : decode cX12_works 111 = .ok (.iload 4, 2) := by decide +kernel
theorem dX12_works_113 : decode cX12_works 113 = .ok (.iaload, 1) := by decide +kernel
theorem dX12_works_114 : decode cX12_works 114 = .ok (.invokevirtual 311, 3) := by decide +kernel
theorem dX12_works_117 : decode cX12_works 117 = .ok (.iastore, 1) := by decide +kernel
theorem dX12_works_118 : decode cX12_works 118 = .ok (.iinc 3 1, 3) := by decide +kernel
theorem dX12_works_121 : decode cX12_works 121 = .ok (.iinc 4 1, 3) := by decide +kernel
theorem dX12_works_124 : decode cX12_works 124 = .ok (.goto (-119), 3) := by decide +kernel
theorem dX12_works_127 : decode cX12_works 127 = .ok (.return_, 1) := by decide +kernel
theorem dX12_tells_0 : decode cX12_tells 0 = .ok (.iconst 0, 1) := by decide +kernel
theorem dX12_tells_1 : decode cX12_tells 1 = .ok (.istore_n 3, 1) := by decide +kernel
theorem dX12_tells_2 : decode cX12_tells 2 = .ok (.iload_n 3, 1) := by decide +kernel
theorem dX12_tells_3 : decode cX12_tells 3 = .ok (.aload_n 0, 1) := by decide +kernel
theorem dX12_tells_4 : decode cX12_tells 4 = .ok (.getfield 274, 3) := by decide +kernel
theorem dX12_tells_7 : decode cX12_tells 7 = .ok (.if_icmp .ge 119, 3) := by decide +kernel
theorem dX12_tells_10 : decode cX12_tells 10 = .ok (.aload_n 0, 1) := by decide +kernel
theorem dX12_tells_11 : decode cX12_tells 11 = .ok (.getfield 45, 3) := by decide +kernel
theorem dX12_tells_14 : decode cX12_tells 14 = .ok (.iload_n 3, 1) := by decide +kernel
theorem dX12_tells_15 : decode cX12_tells 15 = .ok (.iaload, 1) := by decide +kernel
theorem dX12_tells_16 : decode cX12_tells 16 = .ok (.iload_n 1, 1) := by decide +kernel
theorem dX12_tells_17 : decode cX12_tells 17 = .ok (.if_icmp .eq 6, 3) := by decide +kernel
theorem dX12_tells_20 : decode cX12_tells 20 = .ok (.goto 100, 3) := by decide +kernel
theorem dX12_tells_23 : decode cX12_tells 23 = .ok (.aload_n 0, 1) := by decide +kernel
theorem dX12_tells_24 : decode cX12_tells 24 = .ok (.aload_n 0, 1) := by decide +kernel
theorem dX12_tells_25 : decode cX12_tells 25 = .ok (.getfield 51, 3) := by decide +kernel
theorem dX12_tells_28 : decode cX12_tells 28 = .ok (.iload_n 3, 1) := by decide +kernel
theorem dX12_tells_29 : decode cX12_tells 29 = .ok (.iaload, 1) := by decide +kernel
theorem dX12_tells_30 : decode cX12_tells 30 = .ok (.aload_n 0, 1) := by decide +kernel
theorem dX12_tells_31 : decode cX12_tells 31 = .ok (.getfield 54, 3) := by decide +kernel
theorem dX12_tells_34 : decode cX12_tells 34 = .ok (.iload_n 3, 1) := by decide +kernel
theorem dX12_tells_35 : decode cX12_tells 35 = .ok (.iaload, 1) := by decide +kernel
theorem dX12_tells_36 : decode cX12_tells 36 = .ok (.invokevirtual 315, 3) := by decide +kernel
theorem dX12_tells_39 : decode cX12_tells 39 = .ok (.aload_n 0, 1) := by decide +kernel
theorem dX12_tells_40 : decode cX12_tells 40 = .ok (.getfield 87, 3) := by decide +kernel
theorem dX12_tells_43 : decode cX12_tells 43 = .ok (.iconst 0, 1) := by decide +kernel
theorem dX12_tells_44 : decode cX12_tells 44 = .ok (.baload, 1) := by decide +kernel
theorem dX12_tells_45 : decode cX12_tells 45 = .ok (.ifCond .ne 75, 3) := by decide +kernel
theorem dX12_tells_48 : decode cX12_tells 48 = .ok (.aload_n 0, 1) := by decide +kernel
theorem dX12_tells_49 : decode cX12_tells 49 = .ok (.getfield 84, 3) := by decide +kernel
theorem dX12_tells_52 : decode cX12_tells 52 = .ok (.iconst 0, 1) := by decide +kernel
theorem dX12_tells_53 : decode cX12_tells 53 = .ok (.iaload, 1) := by decide +kernel
theorem dX12_tells_54 : decode cX12_tells 54 = .ok (.iconst 1, 1) := by decide +kernel
theorem dX12_tells_55 : decode cX12_tells 55 = .ok (.if_icmp .eq 6, 3) := by decide +kernel
theorem dX12_tells_58 : decode cX12_tells 58 = .ok (.goto 62, 3) := by decide +kernel
theorem dX12_tells_61 : decode cX12_tells 61 = .ok (.aload_n 0, 1) := by decide +kernel
theorem dX12_tells_62 : decode cX12_tells 62 = .ok (.aload_n 0, 1) := by decide +kernel
theorem dX12_tells_63 : decode cX12_tells 63 = .ok (.getfield 48, 3) := by decide +kernel
theorem dX12_tells_66 : decode cX12_tells 66 = .ok (.iload_n 3, 1) := by decide +kernel
theorem dX12_tells_67 : decode cX12_tells 67 = .ok (.iaload, 1) := by decide +kernel
theorem dX12_tells_68 : decode cX12_tells 68 = .ok (.aload_n 0, 1) := by decide +kernel
theorem dX12_tells_69 : decode cX12_tells 69 = .ok (.getfield 51, 3) := by decide +kernel
theorem dX12_tells_72 : decode cX12_tells 72 = .ok (.iload_n 3, 1) := by decide +kernel
theorem dX12_tells_73 : decode cX12_tells 73 = .ok (.iaload, 1) := by decide +kernel
theorem dX12_tells_74 : decode cX12_tells 74 = .ok (.invokevirtual 315, 3) := by decide +kernel
theorem dX12_tells_77 : decode cX12_tells 77 = .ok (.aload_n 0, 1) := by decide +kernel
theorem dX12_tells_78 : decode cX12_tells 78 = .ok (.getfield 87, 3) := by decide +kernel
theorem dX12_tells_81 : decode cX12_tells 81 = .ok (.iconst 0, 1) := by decide +kernel
theorem dX12_tells_82 : decode cX12_tells 82 = .ok (.baload, 1) := by decide +kernel
theorem dX12_tells_83 : decode cX12_tells 83 = .ok (.ifCond .eq 7, 3) := by decide +kernel
theorem dX12_tells_86 : decode cX12_tells 86 = .ok (.iconst 0, 1) := by decide +kernel
theorem dX12_tells_87 : decode cX12_tells 87 = .ok (.goto 9, 3) := by decide +kernel
theorem dX12_tells_90 : decode cX12_tells 90 = .ok (.aload_n 0, 1) := by decide +kernel
theorem dX12_tells_91 : decode cX12_tells 91 = .ok (.getfield 84, 3) := by decide +kernel
theorem dX12_tells_94 : decode cX12_tells 94 = .ok (.iconst 0, 1) := by decide +kernel
theorem dX12_tells_95 : decode cX12_tells 95 = .ok (.iaload, 1) := by decide +kernel
theorem dX12_tells_96 : decode cX12_tells 96 = .ok (.istore 4, 2) := by decide +kernel
theorem dX12_tells_98 : decode cX12_tells 98 = .ok (.iload 4, 2) := by decide +kernel
theorem dX12_tells_100 : decode cX12_tells 100 = .ok (.ifCond .ge 7, 3) := by decide +kernel
theorem dX12_tells_103 : decode cX12_tells 103 = .ok (.iconst 0, 1) := by decide +kernel
theorem dX12_tells_104 : decode cX12_tells 104 = .ok (.goto 15, 3) := by decide +kernel
theorem dX12_tells_107 : decode cX12_tells 107 = .ok (.iload 4, 2) := by decide +kernel
theorem dX12_tells_109 : decode cX12_tells 109 = .ok (.iload_n 2, 1) := by decide +kernel
theorem dX12_tells_110 : decode cX12_tells 110 = .ok (.if_icmp .le 7, 3) := by decide +kernel
theorem dX12_tells_113 : decode cX12_tells 113 = .ok (.iload_n 2, 1) := by decide +kernel
theorem dX12_tells_114 : decode cX12_tells 114 = .ok (.goto 5, 3) := by decide +kernel
theorem dX12_tells_117 : decode cX12_tells 117 = .ok (.iload 4, 2) := by decide +kernel
theorem dX12_tells_119 : decode cX12_tells 119 = .ok (.ireturn, 1) := by decide +kernel
theorem dX12_tells_120 : decode cX12_tells 120 = .ok (.iinc 3 1, 3) := by decide +kernel
theorem dX12_tells_123 : decode cX12_tells 123 = .ok (.goto (-121), 3) := by decide +kernel
theorem dX12_tells_126 : decode cX12_tells 126 = .ok (.iconst 0, 1) := by decide +kernel
theorem dX12_tells_127 : decode cX12_tells 127 = .ok (.ireturn, 1) := by decide +kernel
theorem dX12_means_0 : decode cX12_means 0 = .ok (.aload_n 0, 1) := by decide +kernel
theorem dX12_means_1 : decode cX12_means 1 = .ok (.iload_n 1, 1) := by decide +kernel
theorem dX12_means_2 : decode cX12_means 2 = .ok (.putfield 292, 3) := by decide +kernel
theorem dX12_means_5 : decode cX12_means 5 = .ok (.aload_n 0, 1) := by decide +kernel
theorem dX12_means_6 : decode cX12_means 6 = .ok (.iload_n 2, 1) := by decide +kernel
theorem dX12_means_7 : decode cX12_means 7 = .ok (.putfield 277, 3) := by decide +kernel
theorem dX12_means_10 : decode cX12_means 10 = .ok (.aload_n 0, 1) := by decide +kernel
theorem dX12_means_11 : decode cX12_means 11 = .ok (.iload_n 3, 1) := by decide +kernel
theorem dX12_means_12 : decode cX12_means 12 = .ok (.putfield 280, 3) := by decide +kernel
theorem dX12_means_15 : decode cX12_means 15 = .ok (.aload_n 0, 1) := by decide +kernel
theorem dX12_means_16 : decode cX12_means 16 = .ok (.iload 4, 2) := by decide +kernel
theorem dX12_means_18 : decode cX12_means 18 = .ok (.putfield 283, 3) := by decide +kernel
theorem dX12_means_21 : decode cX12_means 21 = .ok (.aload_n 0, 1) := by decide +kernel
theorem dX12_means_22 : decode cX12_means 22 = .ok (.iload 5, 2) := by decide +kernel
theorem dX12_means_24 : decode cX12_means 24 = .ok (.putfield 286, 3) := by decide +kernel
theorem dX12_means_27 : decode cX12_means 27 = .ok (.aload_n 0, 1) := by decide +kernel
theorem dX12_means_28 : decode cX12_means 28 = .ok (.iload 6, 2) := by decide +kernel
theorem dX12_means_30 : decode cX12_means 30 = .ok (.putfield 289, 3) := by decide +kernel
theorem dX12_means_33 : decode cX12_means 33 = .ok (.aload_n 0, 1) := by decide +kernel
theorem dX12_means_34 : decode cX12_means 34 = .ok (.iconst 0, 1) := by decide +kernel
theorem dX12_means_35 : decode cX12_means 35 = .ok (.putfield 295, 3) := by decide +kernel
theorem dX12_means_38 : decode cX12_means 38 = .ok (.aload_n 0, 1) := by decide +kernel
theorem dX12_means_39 : decode cX12_means 39 = .ok (.iconst 0, 1) := by decide +kernel
theorem dX12_means_40 : decode cX12_means 40 = .ok (.putfield 298, 3) := by decide +kernel
theorem dX12_means_43 : decode cX12_means 43 = .ok (.aload_n 0, 1) := by decide +kernel
theorem dX12_means_44 : decode cX12_means 44 = .ok (.iconst 0, 1) := by decide +kernel
theorem dX12_means_45 : decode cX12_means 45 = .ok (.putfield 301, 3) := by decide +kernel
theorem dX12_means_48 : decode cX12_means 48 = .ok (.aload_n 0, 1) := by decide +kernel
theorem dX12_means_49 : decode cX12_means 49 = .ok (.bipush 109, 2) := by decide +kernel
theorem dX12_means_51 : decode cX12_means 51 = .ok (.bipush 31, 2) := by decide +kernel
theorem dX12_means_53 : decode cX12_means 53 = .ok (.invokevirtual 318, 3) := by decide +kernel
theorem dX12_means_56 : decode cX12_means 56 = .ok (.ireturn, 1) := by decide +kernel
theorem dX12_sentence_0 : decode cX12_sentence 0 = .ok (.aload_n 0, 1) := by decide +kernel
theorem dX12_sentence_1 : decode cX12_sentence 1 = .ok (.iload_n 1, 1) := by decide +kernel
theorem dX12_sentence_2 : decode cX12_sentence 2 = .ok (.invokevirtual 322, 3) := by decide +kernel
theorem dX12_sentence_5 : decode cX12_sentence 5 = .ok (.ifCond .eq 23, 3) := by decide +kernel
theorem dX12_sentence_8 : decode cX12_sentence 8 = .ok (.iload_n 2, 1) := by decide +kernel
theorem dX12_sentence_9 : decode cX12_sentence 9 = .ok (.i2l, 1) := by decide +kernel
theorem dX12_sentence_10 : decode cX12_sentence 10 = .ok (.lconst 0, 1) := by decide +kernel
theorem dX12_sentence_11 : decode cX12_sentence 11 = .ok (.ldc2_w 325, 3) := by decide +kernel
theorem dX12_sentence_14 : decode cX12_sentence 14 = .ok (.invokestatic 147, 3) := by decide +kernel
theorem dX12_sentence_17 : decode cX12_sentence 17 = .ok (.ifCond .eq 11, 3) := by decide +kernel
theorem dX12_sentence_20 : decode cX12_sentence 20 = .ok (.iload_n 2, 1) := by decide +kernel
theorem dX12_sentence_21 : decode cX12_sentence 21 = .ok (.aload_n 0, 1) := by decide +kernel
theorem dX12_sentence_22 : decode cX12_sentence 22 = .ok (.getfield 161, 3) := by decide +kernel
theorem dX12_sentence_25 : decode cX12_sentence 25 = .ok (.if_icmp .le 5, 3) := by decide +kernel
theorem dX12_sentence_28 : decode cX12_sentence 28 = .ok (.iconst (-1), 1) := by decide +kernel
theorem dX12_sentence_29 : decode cX12_sentence 29 = .ok (.ireturn, 1) := by decide +kernel
theorem dX12_sentence_30 : decode cX12_sentence 30 = .ok (.aload_n 0, 1) := by decide +kernel
theorem dX12_sentence_31 : decode cX12_sentence 31 = .ok (.iconst 0, 1) := by decide +kernel
theorem dX12_sentence_32 : decode cX12_sentence 32 = .ok (.putfield 161, 3) := by decide +kernel
theorem dX12_sentence_35 : decode cX12_sentence 35 = .ok (.iconst 0, 1) := by decide +kernel
theorem dX12_sentence_36 : decode cX12_sentence 36 = .ok (.istore_n 3, 1) := by decide +kernel
theorem dX12_sentence_37 : decode cX12_sentence 37 = .ok (.iload_n 3, 1) := by decide +kernel
theorem dX12_sentence_38 : decode cX12_sentence 38 = .ok (.iload_n 2, 1) := by decide +kernel
theorem dX12_sentence_39 : decode cX12_sentence 39 = .ok (.if_icmp .ge 28, 3) := by decide +kernel
theorem dX12_sentence_42 : decode cX12_sentence 42 = .ok (.aload_n 0, 1) := by decide +kernel
theorem dX12_sentence_43 : decode cX12_sentence 43 = .ok (.iload_n 3, 1) := by decide +kernel
theorem dX12_sentence_44 : decode cX12_sentence 44 = .ok (.invokevirtual 327, 3) := by decide +kernel
theorem dX12_sentence_47 : decode cX12_sentence 47 = .ok (.i2l, 1) := by decide +kernel
theorem dX12_sentence_48 : decode cX12_sentence 48 = .ok (.lconst 1, 1) := by decide +kernel
theorem dX12_sentence_49 : decode cX12_sentence 49 = .ok (.ldc2_w 330, 3) := by decide +kernel
theorem dX12_sentence_52 : decode cX12_sentence 52 = .ok (.invokestatic 147, 3) := by decide +kernel
theorem dX12_sentence_55 : decode cX12_sentence 55 = .ok (.ifCond .ne 6, 3) := by decide +kernel
theorem dX12_sentence_58 : decode cX12_sentence 58 = .ok (.bipush (-2), 2) := by decide +kernel
theorem dX12_sentence_60 : decode cX12_sentence 60 = .ok (.ireturn, 1) := by decide +kernel
theorem dX12_sentence_61 : decode cX12_sentence 61 = .ok (.iinc 3 1, 3) := by decide +kernel
theorem dX12_sentence_64 : decode cX12_sentence 64 = .ok (.goto (-27), 3) := by decide +kernel
theorem dX12_sentence_67 : decode cX12_sentence 67 = .ok (.iconst 0, 1) := by decide +kernel
theorem dX12_sentence_68 : decode cX12_sentence 68 = .ok (.istore_n 3, 1) := by decide +kernel
theorem dX12_sentence_69 : decode cX12_sentence 69 = .ok (.iload_n 3, 1) := by decide +kernel
theorem dX12_sentence_70 : decode cX12_sentence 70 = .ok (.iload_n 2, 1) := by decide +kernel
theorem dX12_sentence_71 : decode cX12_sentence 71 = .ok (.if_icmp .ge 24, 3) := by decide +kernel
theorem dX12_sentence_74 : decode cX12_sentence 74 = .ok (.aload_n 0, 1) := by decide +kernel
theorem dX12_sentence_75 : decode cX12_sentence 75 = .ok (.getfield 36, 3) := by decide +kernel
theorem dX12_sentence_78 : decode cX12_sentence 78 = .ok (.iconst 4, 1) := by decide +kernel
theorem dX12_sentence_79 : decode cX12_sentence 79 = .ok (.iload_n 1, 1) := by decide +kernel
theorem dX12_sentence_80 : decode cX12_sentence 80 = .ok (.imul, 1) := by decide +kernel
theorem dX12_sentence_81 : decode cX12_sentence 81 = .ok (.iload_n 3, 1) := by decide +kernel
theorem dX12_sentence_82 : decode cX12_sentence 82 = .ok (.iadd, 1) := by decide +kernel
theorem dX12_sentence_83 : decode cX12_sentence 83 = .ok (.aload_n 0, 1) := by decide +kernel
theorem dX12_sentence_84 : decode cX12_sentence 84 = .ok (.iload_n 3, 1) := by decide +kernel
theorem dX12_sentence_85 : decode cX12_sentence 85 = .ok (.invokevirtual 327, 3) := by decide +kernel
theorem dX12_sentence_88 : decode cX12_sentence 88 = .ok (.iastore, 1) := by decide +kernel
theorem dX12_sentence_89 : decode cX12_sentence 89 = .ok (.iinc 3 1, 3) := by decide +kernel
theorem dX12_sentence_92 : decode cX12_sentence 92 = .ok (.goto (-23), 3) := by decide +kernel
theorem dX12_sentence_95 : decode cX12_sentence 95 = .ok (.aload_n 0, 1) := by decide +kernel
theorem dX12_sentence_96 : decode cX12_sentence 96 = .ok (.getfield 33, 3) := by decide +kernel
theorem dX12_sentence_99 : decode cX12_sentence 99 = .ok (.iload_n 1, 1) := by decide +kernel
theorem dX12_sentence_100 : decode cX12_sentence 100 = .ok (.iload_n 2, 1) := by decide +kernel
theorem dX12_sentence_101 : decode cX12_sentence 101 = .ok (.iastore, 1) := by decide +kernel
theorem dX12_sentence_102 : decode cX12_sentence 102 = .ok (.iload_n 2, 1) := by decide +kernel
theorem dX12_sentence_103 : decode cX12_sentence 103 = .ok (.ireturn, 1) := by decide +kernel
theorem dX12_say_0 : decode cX12_say 0 = .ok (.aload_n 0, 1) := by decide +kernel
theorem dX12_say_1 : decode cX12_say 1 = .ok (.iload_n 1, 1) := by decide +kernel
theorem dX12_say_2 : decode cX12_say 2 = .ok (.invokevirtual 322, 3) := by decide +kernel
theorem dX12_say_5 : decode cX12_say 5 = .ok (.ifCond .eq 47, 3) := by decide +kernel
theorem dX12_say_8 : decode cX12_say 8 = .ok (.iload_n 2, 1) := by decide +kernel
theorem dX12_say_9 : decode cX12_say 9 = .ok (.i2l, 1) := by decide +kernel
theorem dX12_say_10 : decode cX12_say 10 = .ok (.aload_n 0, 1) := by decide +kernel
theorem dX12_say_11 : decode cX12_say 11 = .ok (.getfield 332, 3) := by decide +kernel
theorem dX12_say_14 : decode cX12_say 14 = .ok (.ifCond .ne 7, 3) := by decide +kernel
theorem dX12_say_17 : decode cX12_say 17 = .ok (.lconst 0, 1) := by decide +kernel
theorem dX12_say_18 : decode cX12_say 18 = .ok (.goto 15, 3) := by decide +kernel
theorem dX12_say_21 : decode cX12_say 21 = .ok (.aload_n 0, 1) := by decide +kernel
theorem dX12_say_22 : decode cX12_say 22 = .ok (.getfield 42, 3) := by decide +kernel
theorem dX12_say_25 : decode cX12_say 25 = .ok (.aload_n 0, 1) := by decide +kernel
theorem dX12_say_26 : decode cX12_say 26 = .ok (.getfield 332, 3) := by decide +kernel
theorem dX12_say_29 : decode cX12_say 29 = .ok (.iconst 1, 1) := by decide +kernel
theorem dX12_say_30 : decode cX12_say 30 = .ok (.isub, 1) := by decide +kernel
theorem dX12_say_31 : decode cX12_say 31 = .ok (.iaload, 1) := by decide +kernel
theorem dX12_say_32 : decode cX12_say 32 = .ok (.i2l, 1) := by decide +kernel
theorem dX12_say_33 : decode cX12_say 33 = .ok (.ldc2_w 335, 3) := by decide +kernel
theorem dX12_say_36 : decode cX12_say 36 = .ok (.invokestatic 147, 3) := by decide +kernel
theorem dX12_say_39 : decode cX12_say 39 = .ok (.ifCond .eq 13, 3) := by decide +kernel
theorem dX12_say_42 : decode cX12_say 42 = .ok (.aload_n 0, 1) := by decide +kernel
theorem dX12_say_43 : decode cX12_say 43 = .ok (.getfield 332, 3) := by decide +kernel
theorem dX12_say_46 : decode cX12_say 46 = .ok (.sipush 150, 3) := by decide +kernel
theorem dX12_say_49 : decode cX12_say 49 = .ok (.if_icmp .ne 5, 3) := by decide +kernel
theorem dX12_say_52 : decode cX12_say 52 = .ok (.iconst (-1), 1) := by decide +kernel
theorem dX12_say_53 : decode cX12_say 53 = .ok (.ireturn, 1) := by decide +kernel
theorem dX12_say_54 : decode cX12_say 54 = .ok (.aload_n 0, 1) := by decide +kernel
theorem dX12_say_55 : decode cX12_say 55 = .ok (.getfield 39, 3) := by decide +kernel
theorem dX12_say_58 : decode cX12_say 58 = .ok (.aload_n 0, 1) := by decide +kernel
theorem dX12_say_59 : decode cX12_say 59 = .ok (.getfield 332, 3) := by decide +kernel
theorem dX12_say_62 : decode cX12_say 62 = .ok (.iload_n 1, 1) := by decide +kernel
theorem dX12_say_63 : decode cX12_say 63 = .ok (.iastore, 1) := by decide +kernel
theorem dX12_say_64 : decode cX12_say 64 = .ok (.aload_n 0, 1) := by decide +kernel
theorem dX12_say_65 : decode cX12_say 65 = .ok (.getfield 42, 3) := by decide +kernel
theorem dX12_say_68 : decode cX12_say 68 = .ok (.aload_n 0, 1) := by decide +kernel
theorem dX12_say_69 : decode cX12_say 69 = .ok (.getfield 332, 3) := by decide +kernel
theorem dX12_say_72 : decode cX12_say 72 = .ok (.iload_n 2, 1) := by decide +kernel
theorem dX12_say_73 : decode cX12_say 73 = .ok (.iastore, 1) := by decide +kernel
theorem dX12_say_74 : decode cX12_say 74 = .ok (.aload_n 0, 1) := by decide +kernel
theorem dX12_say_75 : decode cX12_say 75 = .ok (.dup, 1) := by decide +kernel
theorem dX12_say_76 : decode cX12_say 76 = .ok (.getfield 332, 3) := by decide +kernel
theorem dX12_say_79 : decode cX12_say 79 = .ok (.iconst 1, 1) := by decide +kernel
theorem dX12_say_80 : decode cX12_say 80 = .ok (.iadd, 1) := by decide +kernel
theorem dX12_say_81 : decode cX12_say 81 = .ok (.putfield 332, 3) := by decide +kernel
theorem dX12_say_84 : decode cX12_say 84 = .ok (.aload_n 0, 1) := by decide +kernel
theorem dX12_say_85 : decode cX12_say 85 = .ok (.getfield 332, 3) := by decide +kernel
theorem dX12_say_88 : decode cX12_say 88 = .ok (.ireturn, 1) := by decide +kernel
theorem dX12_size_0 : decode cX12_size 0 = .ok (.iload_n 0, 1) := by decide +kernel
theorem dX12_size_1 : decode cX12_size 1 = .ok (.ifCond .ge 8, 3) := by decide +kernel
theorem dX12_size_4 : decode cX12_size 4 = .ok (.iload_n 0, 1) := by decide +kernel
theorem dX12_size_5 : decode cX12_size 5 = .ok (.ineg, 1) := by decide +kernel
theorem dX12_size_6 : decode cX12_size 6 = .ok (.goto 4, 3) := by decide +kernel
theorem dX12_size_9 : decode cX12_size 9 = .ok (.iload_n 0, 1) := by decide +kernel
theorem dX12_size_10 : decode cX12_size 10 = .ok (.ireturn, 1) := by decide +kernel
theorem dX12_wayOf_0 : decode cX12_wayOf 0 = .ok (.aload_n 0, 1) := by decide +kernel
theorem dX12_wayOf_1 : decode cX12_wayOf 1 = .ok (.getfield 23, 3) := by decide +kernel
theorem dX12_wayOf_4 : decode cX12_wayOf 4 = .ok (.iload_n 1, 1) := by decide +kernel
theorem dX12_wayOf_5 : decode cX12_wayOf 5 = .ok (.iaload, 1) := by decide +kernel
theorem dX12_wayOf_6 : decode cX12_wayOf 6 = .ok (.aload_n 0, 1) := by decide +kernel
theorem dX12_wayOf_7 : decode cX12_wayOf 7 = .ok (.getfield 23, 3) := by decide +kernel
theorem dX12_wayOf_10 : decode cX12_wayOf 10 = .ok (.iload_n 2, 1) := by decide +kernel
theorem dX12_wayOf_11 : decode cX12_wayOf 11 = .ok (.iaload, 1) := by decide +kernel
theorem dX12_wayOf_12 : decode cX12_wayOf 12 = .ok (.isub, 1) := by decide +kernel
theorem dX12_wayOf_13 : decode cX12_wayOf 13 = .ok (.invokestatic 337, 3) := by decide +kernel
theorem dX12_wayOf_16 : decode cX12_wayOf 16 = .ok (.aload_n 0, 1) := by decide +kernel
theorem dX12_wayOf_17 : decode cX12_wayOf 17 = .ok (.getfield 27, 3) := by decide +kernel
theorem dX12_wayOf_20 : decode cX12_wayOf 20 = .ok (.iload_n 1, 1) := by decide +kernel
theorem dX12_wayOf_21 : decode cX12_wayOf 21 = .ok (.iaload, 1) := by decide +kernel
theorem dX12_wayOf_22 : decode cX12_wayOf 22 = .ok (.aload_n 0, 1) := by decide +kernel
theorem dX12_wayOf_23 : decode cX12_wayOf 23 = .ok (.getfield 27, 3) := by decide +kernel
theorem dX12_wayOf_26 : decode cX12_wayOf 26 = .ok (.iload_n 2, 1) := by decide +kernel
theorem dX12_wayOf_27 : decode cX12_wayOf 27 = .ok (.iaload, 1) := by decide +kernel
theorem dX12_wayOf_28 : decode cX12_wayOf 28 = .ok (.isub, 1) := by decide +kernel
theorem dX12_wayOf_29 : decode cX12_wayOf 29 = .ok (.invokestatic 337, 3) := by decide +kernel
theorem dX12_wayOf_32 : decode cX12_wayOf 32 = .ok (.iadd, 1) := by decide +kernel
theorem dX12_wayOf_33 : decode cX12_wayOf 33 = .ok (.ireturn, 1) := by decide +kernel
theorem dX12_way_0 : decode cX12_way 0 = .ok (.aload_n 0, 1) := by decide +kernel
theorem dX12_way_1 : decode cX12_way 1 = .ok (.iload_n 1, 1) := by decide +kernel
theorem dX12_way_2 : decode cX12_way 2 = .ok (.invokevirtual 322, 3) := by decide +kernel
theorem dX12_way_5 : decode cX12_way 5 = .ok (.ifCond .eq 20, 3) := by decide +kernel
theorem dX12_way_8 : decode cX12_way 8 = .ok (.aload_n 0, 1) := by decide +kernel
theorem dX12_way_9 : decode cX12_way 9 = .ok (.iload_n 2, 1) := by decide +kernel
theorem dX12_way_10 : decode cX12_way 10 = .ok (.invokevirtual 322, 3) := by decide +kernel
theorem dX12_way_13 : decode cX12_way 13 = .ok (.ifCond .eq 12, 3) := by decide +kernel
theorem dX12_way_16 : decode cX12_way 16 = .ok (.aload_n 0, 1) := by decide +kernel
theorem dX12_way_17 : decode cX12_way 17 = .ok (.iload_n 1, 1) := by decide +kernel
theorem dX12_way_18 : decode cX12_way 18 = .ok (.iload_n 2, 1) := by decide +kernel
theorem dX12_way_19 : decode cX12_way 19 = .ok (.invokevirtual 340, 3) := by decide +kernel
theorem dX12_way_22 : decode cX12_way 22 = .ok (.goto 4, 3) := by decide +kernel
theorem dX12_way_25 : decode cX12_way 25 = .ok (.iconst (-1), 1) := by decide +kernel
theorem dX12_way_26 : decode cX12_way 26 = .ok (.ireturn, 1) := by decide +kernel
theorem dX12_isNear_0 : decode cX12_isNear 0 = .ok (.aload_n 0, 1) := by decide +kernel
theorem dX12_isNear_1 : decode cX12_isNear 1 = .ok (.iload_n 1, 1) := by decide +kernel
theorem dX12_isNear_2 : decode cX12_isNear 2 = .ok (.iload_n 2, 1) := by decide +kernel
theorem dX12_isNear_3 : decode cX12_isNear 3 = .ok (.invokevirtual 340, 3) := by decide +kernel
theorem dX12_isNear_6 : decode cX12_isNear 6 = .ok (.aload_n 0, 1) := by decide +kernel
theorem dX12_isNear_7 : decode cX12_isNear 7 = .ok (.getfield 13, 3) := by decide +kernel
theorem dX12_isNear_10 : decode cX12_isNear 10 = .ok (.if_icmp .gt 7, 3) := by decide +kernel
theorem dX12_isNear_13 : decode cX12_isNear 13 = .ok (.iconst 1, 1) := by decide +kernel
theorem dX12_isNear_14 : decode cX12_isNear 14 = .ok (.goto 4, 3) := by decide +kernel
theorem dX12_isNear_17 : decode cX12_isNear 17 = .ok (.iconst 0, 1) := by decide +kernel
theorem dX12_isNear_18 : decode cX12_isNear 18 = .ok (.ireturn, 1) := by decide +kernel
theorem dX12_isBefore_0 : decode cX12_isBefore 0 = .ok (.aload_n 0, 1) := by decide +kernel
theorem dX12_isBefore_1 : decode cX12_isBefore 1 = .ok (.iload_n 1, 1) := by decide +kernel
theorem dX12_isBefore_2 : decode cX12_isBefore 2 = .ok (.iload_n 2, 1) := by decide +kernel
theorem dX12_isBefore_3 : decode cX12_isBefore 3 = .ok (.invokevirtual 340, 3) := by decide +kernel
theorem dX12_isBefore_6 : decode cX12_isBefore 6 = .ok (.istore 4, 2) := by decide +kernel
theorem dX12_isBefore_8 : decode cX12_isBefore 8 = .ok (.aload_n 0, 1) := by decide +kernel
theorem dX12_isBefore_9 : decode cX12_isBefore 9 = .ok (.iload_n 1, 1) := by decide +kernel
theorem dX12_isBefore_10 : decode cX12_isBefore 10 = .ok (.iload_n 3, 1) := by decide +kernel
theorem dX12_isBefore_11 : decode cX12_isBefore 11 = .ok (.invokevirtual 340, 3) := by decide +kernel
theorem dX12_isBefore_14 : decode cX12_isBefore 14 = .ok (.istore 5, 2) := by decide +kernel
theorem dX12_isBefore_16 : decode cX12_isBefore 16 = .ok (.iload 4, 2) := by decide +kernel
theorem dX12_isBefore_18 : decode cX12_isBefore 18 = .ok (.iload 5, 2) := by decide +kernel
theorem dX12_isBefore_20 : decode cX12_isBefore 20 = .ok (.if_icmp .lt 15, 3) := by decide +kernel
theorem dX12_isBefore_23 : decode cX12_isBefore 23 = .ok (.iload 4, 2) := by decide +kernel
theorem dX12_isBefore_25 : decode cX12_isBefore 25 = .ok (.iload 5, 2) := by decide +kernel
theorem dX12_isBefore_27 : decode cX12_isBefore 27 = .ok (.if_icmp .ne 12, 3) := by decide +kernel
theorem dX12_isBefore_30 : decode cX12_isBefore 30 = .ok (.iload_n 2, 1) := by decide +kernel
theorem dX12_isBefore_31 : decode cX12_isBefore 31 = .ok (.iload_n 3, 1) := by decide +kernel
theorem dX12_isBefore_32 : decode cX12_isBefore 32 = .ok (.if_icmp .ge 7, 3) := by decide +kernel
theorem dX12_isBefore_35 : decode cX12_isBefore 35 = .ok (.iconst 1, 1) := by decide +kernel
theorem dX12_isBefore_36 : decode cX12_isBefore 36 = .ok (.goto 4, 3) := by decide +kernel
theorem dX12_isBefore_39 : decode cX12_isBefore 39 = .ok (.iconst 0, 1) := by decide +kernel
theorem dX12_isBefore_40 : decode cX12_isBefore 40 = .ok (.ireturn, 1) := by decide +kernel
theorem dX12_comes_0 : decode cX12_comes 0 = .ok (.aload_n 0, 1) := by decide +kernel
theorem dX12_comes_1 : decode cX12_comes 1 = .ok (.getfield 39, 3) := by decide +kernel
theorem dX12_comes_4 : decode cX12_comes 4 = .ok (.iload_n 2, 1) := by decide +kernel
theorem dX12_comes_5 : decode cX12_comes 5 = .ok (.iaload, 1) := by decide +kernel
theorem dX12_comes_6 : decode cX12_comes 6 = .ok (.istore_n 3, 1) := by decide +kernel
theorem dX12_comes_7 : decode cX12_comes 7 = .ok (.aload_n 0, 1) := by decide +kernel
theorem dX12_comes_8 : decode cX12_comes 8 = .ok (.getfield 42, 3) := by decide +kernel
theorem dX12_comes_11 : decode cX12_comes 11 = .ok (.iload_n 2, 1) := by decide +kernel
theorem dX12_comes_12 : decode cX12_comes 12 = .ok (.iaload, 1) := by decide +kernel
theorem dX12_comes_13 : decode cX12_comes 13 = .ok (.aload_n 0, 1) := by decide +kernel
theorem dX12_comes_14 : decode cX12_comes 14 = .ok (.iload_n 1, 1) := by decide +kernel
theorem dX12_comes_15 : decode cX12_comes 15 = .ok (.iload_n 3, 1) := by decide +kernel
theorem dX12_comes_16 : decode cX12_comes 16 = .ok (.invokevirtual 340, 3) := by decide +kernel
theorem dX12_comes_19 : decode cX12_comes 19 = .ok (.aload_n 0, 1) := by decide +kernel
theorem dX12_comes_20 : decode cX12_comes 20 = .ok (.getfield 17, 3) := by decide +kernel
theorem dX12_comes_23 : decode cX12_comes 23 = .ok (.idiv, 1) := by decide +kernel
theorem dX12_comes_24 : decode cX12_comes 24 = .ok (.iadd, 1) := by decide +kernel
theorem dX12_comes_25 : decode cX12_comes 25 = .ok (.istore 4, 2) := by decide +kernel
theorem dX12_comes_27 : decode cX12_comes 27 = .ok (.iconst 0, 1) := by decide +kernel
theorem dX12_comes_28 : decode cX12_comes 28 = .ok (.istore 5, 2) := by decide +kernel
theorem dX12_comes_30 : decode cX12_comes 30 = .ok (.iload 5, 2) := by decide +kernel
theorem dX12_comes_32 : decode cX12_comes 32 = .ok (.aload_n 0, 1) := by decide +kernel
theorem dX12_comes_33 : decode cX12_comes 33 = .ok (.getfield 343, 3) := by decide +kernel
theorem dX12_comes_36 : decode cX12_comes 36 = .ok (.if_icmp .ge 21, 3) := by decide +kernel
theorem dX12_comes_39 : decode cX12_comes 39 = .ok (.aload_n 0, 1) := by decide +kernel
theorem dX12_comes_40 : decode cX12_comes 40 = .ok (.getfield 91, 3) := by decide +kernel
theorem dX12_comes_43 : decode cX12_comes 43 = .ok (.iload 5, 2) := by decide +kernel
theorem dX12_comes_45 : decode cX12_comes 45 = .ok (.iaload, 1) := by decide +kernel
theorem dX12_comes_46 : decode cX12_comes 46 = .ok (.iload 4, 2) := by decide +kernel
theorem dX12_comes_48 : decode cX12_comes 48 = .ok (.if_icmp .ge 9, 3) := by decide +kernel
theorem dX12_comes_51 : decode cX12_comes 51 = .ok (.iinc 5 1, 3) := by decide +kernel
theorem dX12_comes_54 : decode cX12_comes 54 = .ok (.goto (-24), 3) := by decide +kernel
theorem dX12_comes_57 : decode cX12_comes 57 = .ok (.iload 5, 2) := by decide +kernel
theorem dX12_comes_59 : decode cX12_comes 59 = .ok (.aload_n 0, 1) := by decide +kernel
theorem dX12_comes_60 : decode cX12_comes 60 = .ok (.getfield 343, 3) := by decide +kernel
theorem dX12_comes_63 : decode cX12_comes 63 = .ok (.if_icmp .ge 41, 3) := by decide +kernel
theorem dX12_comes_66 : decode cX12_comes 66 = .ok (.aload_n 0, 1) := by decide +kernel
theorem dX12_comes_67 : decode cX12_comes 67 = .ok (.getfield 91, 3) := by decide +kernel
theorem dX12_comes_70 : decode cX12_comes 70 = .ok (.iload 5, 2) := by decide +kernel
theorem dX12_comes_72 : decode cX12_comes 72 = .ok (.iaload, 1) := by decide +kernel
theorem dX12_comes_73 : decode cX12_comes 73 = .ok (.iload 4, 2) := by decide +kernel
theorem dX12_comes_75 : decode cX12_comes 75 = .ok (.if_icmp .ne 29, 3) := by decide +kernel
theorem dX12_comes_78 : decode cX12_comes 78 = .ok (.aload_n 0, 1) := by decide +kernel
theorem dX12_comes_79 : decode cX12_comes 79 = .ok (.iload_n 1, 1) := by decide +kernel
theorem dX12_comes_80 : decode cX12_comes 80 = .ok (.iload_n 3, 1) := by decide +kernel
theorem dX12_comes_81 : decode cX12_comes 81 = .ok (.aload_n 0, 1) := by decide +kernel
theorem dX12_comes_82 : decode cX12_comes 82 = .ok (.getfield 94, 3) := by decide +kernel
theorem dX12_comes_85 : decode cX12_comes 85 = .ok (.iload 5, 2) := by decide +kernel
theorem dX12_comes_87 : decode cX12_comes 87 = .ok (.iaload, 1) := by decide +kernel
theorem dX12_comes_88 : decode cX12_comes 88 = .ok (.invokevirtual 346, 3) := by decide +kernel
theorem dX12_comes_91 : decode cX12_comes 91 = .ok (.ifCond .ne 4, 3) := by decide +kernel
theorem dX12_comes_94 : decode cX12_comes 94 = .ok (.return_, 1) := by decide +kernel
theorem dX12_comes_95 : decode cX12_comes 95 = .ok (.aload_n 0, 1) := by decide +kernel
theorem dX12_comes_96 : decode cX12_comes 96 = .ok (.getfield 94, 3) := by decide +kernel
theorem dX12_comes_99 : decode cX12_comes 99 = .ok (.iload 5, 2) := by decide +kernel
theorem dX12_comes_101 : decode cX12_comes 101 = .ok (.iload_n 3, 1) := by decide +kernel
theorem dX12_comes_102 : decode cX12_comes 102 = .ok (.iastore, 1) := by decide +kernel
theorem dX12_comes_103 : decode cX12_comes 103 = .ok (.return_, 1) := by decide +kernel
theorem dX12_comes_104 : decode cX12_comes 104 = .ok (.aload_n 0, 1) := by decide +kernel
theorem dX12_comes_105 : decode cX12_comes 105 = .ok (.getfield 343, 3) := by decide +kernel
theorem dX12_comes_108 : decode cX12_comes 108 = .ok (.istore 6, 2) := by decide +kernel
theorem dX12_comes_110 : decode cX12_comes 110 = .ok (.iload 6, 2) := by decide +kernel
theorem dX12_comes_112 : decode cX12_comes 112 = .ok (.iload 5, 2) := by decide +kernel
theorem dX12_comes_114 : decode cX12_comes 114 = .ok (.if_icmp .le 41, 3) := by decide +kernel
theorem dX12_comes_117 : decode cX12_comes 117 = .ok (.aload_n 0, 1) := by decide +kernel
theorem dX12_comes_118 : decode cX12_comes 118 = .ok (.getfield 91, 3) := by decide +kernel
theorem dX12_comes_121 : decode cX12_comes 121 = .ok (.iload 6, 2) := by decide +kernel
theorem dX12_comes_123 : decode cX12_comes 123 = .ok (.aload_n 0, 1) := by decide +kernel
theorem dX12_comes_124 : decode cX12_comes 124 = .ok (.getfield 91, 3) := by decide +kernel
theorem dX12_comes_127 : decode cX12_comes 127 = .ok (.iload 6, 2) := by decide +kernel
theorem dX12_comes_129 : decode cX12_comes 129 = .ok (.iconst 1, 1) := by decide +kernel
theorem dX12_comes_130 : decode cX12_comes 130 = .ok (.isub, 1) := by decide +kernel
theorem dX12_comes_131 : decode cX12_comes 131 = .ok (.iaload, 1) := by decide +kernel
theorem dX12_comes_132 : decode cX12_comes 132 = .ok (.iastore, 1) := by decide +kernel
theorem dX12_comes_133 : decode cX12_comes 133 = .ok (.aload_n 0, 1) := by decide +kernel
theorem dX12_comes_134 : decode cX12_comes 134 = .ok (.getfield 94, 3) := by decide +kernel
theorem dX12_comes_137 : decode cX12_comes 137 = .ok (.iload 6, 2) := by decide +kernel
theorem dX12_comes_139 : decode cX12_comes 139 = .ok (.aload_n 0, 1) := by decide +kernel
theorem dX12_comes_140 : decode cX12_comes 140 = .ok (.getfield 94, 3) := by decide +kernel
theorem dX12_comes_143 : decode cX12_comes 143 = .ok (.iload 6, 2) := by decide +kernel
theorem dX12_comes_145 : decode cX12_comes 145 = .ok (.iconst 1, 1) := by decide +kernel
theorem dX12_comes_146 : decode cX12_comes 146 = .ok (.isub, 1) := by decide +kernel
theorem dX12_comes_147 : decode cX12_comes 147 = .ok (.iaload, 1) := by decide +kernel
theorem dX12_comes_148 : decode cX12_comes 148 = .ok (.iastore, 1) := by decide +kernel
theorem dX12_comes_149 : decode cX12_comes 149 = .ok (.iinc 6 (-1), 3) := by decide +kernel
theorem dX12_comes_152 : decode cX12_comes 152 = .ok (.goto (-42), 3) := by decide +kernel
theorem dX12_comes_155 : decode cX12_comes 155 = .ok (.aload_n 0, 1) := by decide +kernel
theorem dX12_comes_156 : decode cX12_comes 156 = .ok (.getfield 91, 3) := by decide +kernel
theorem dX12_comes_159 : decode cX12_comes 159 = .ok (.iload 5, 2) := by decide +kernel
theorem dX12_comes_161 : decode cX12_comes 161 = .ok (.iload 4, 2) := by decide +kernel
theorem dX12_comes_163 : decode cX12_comes 163 = .ok (.iastore, 1) := by decide +kernel
theorem dX12_comes_164 : decode cX12_comes 164 = .ok (.aload_n 0, 1) := by decide +kernel
theorem dX12_comes_165 : decode cX12_comes 165 = .ok (.getfield 94, 3) := by decide +kernel
theorem dX12_comes_168 : decode cX12_comes 168 = .ok (.iload 5, 2) := by decide +kernel
theorem dX12_comes_170 : decode cX12_comes 170 = .ok (.iload_n 3, 1) := by decide +kernel
theorem dX12_comes_171 : decode cX12_comes 171 = .ok (.iastore, 1) := by decide +kernel
theorem dX12_comes_172 : decode cX12_comes 172 = .ok (.aload_n 0, 1) := by decide +kernel
theorem dX12_comes_173 : decode cX12_comes 173 = .ok (.dup, 1) := by decide +kernel
theorem dX12_comes_174 : decode cX12_comes 174 = .ok (.getfield 343, 3) := by decide +kernel
theorem dX12_comes_177 : decode cX12_comes 177 = .ok (.iconst 1, 1) := by decide +kernel
theorem dX12_comes_178 : decode cX12_comes 178 = .ok (.iadd, 1) := by decide +kernel
theorem dX12_comes_179 : decode cX12_comes 179 = .ok (.putfield 343, 3) := by decide +kernel
theorem dX12_comes_182 : decode cX12_comes 182 = .ok (.return_, 1) := by decide +kernel
theorem dX12_laysHearings_0 : decode cX12_laysHearings 0 = .ok (.aload_n 0, 1) := by decide +kernel
theorem dX12_laysHearings_1 : decode cX12_laysHearings 1 = .ok (.iconst 0, 1) := by decide +kernel
theorem dX12_laysHearings_2 : decode cX12_laysHearings 2 = .ok (.putfield 343, 3) := by decide +kernel
theorem dX12_laysHearings_5 : decode cX12_laysHearings 5 = .ok (.iconst 0, 1) := by decide +kernel
theorem dX12_laysHearings_6 : decode cX12_laysHearings 6 = .ok (.istore_n 2, 1) := by decide +kernel
theorem dX12_laysHearings_7 : decode cX12_laysHearings 7 = .ok (.iload_n 2, 1) := by decide +kernel
theorem dX12_laysHearings_8 : decode cX12_laysHearings 8 = .ok (.aload_n 0, 1) := by decide +kernel
theorem dX12_laysHearings_9 : decode cX12_laysHearings 9 = .ok (.getfield 332, 3) := by decide +kernel
theorem dX12_laysHearings_12 : decode cX12_laysHearings 12 = .ok (.if_icmp .ge 29, 3) := by decide +kernel
theorem dX12_laysHearings_15 : decode cX12_laysHearings 15 = .ok (.aload_n 0, 1) := by decide +kernel
theorem dX12_laysHearings_16 : decode cX12_laysHearings 16 = .ok (.iload_n 1, 1) := by decide +kernel
theorem dX12_laysHearings_17 : decode cX12_laysHearings 17 = .ok (.aload_n 0, 1) := by decide +kernel
theorem dX12_laysHearings_18 : decode cX12_laysHearings 18 = .ok (.getfield 39, 3) := by decide +kernel
theorem dX12_laysHearings_21 : decode cX12_laysHearings 21 = .ok (.iload_n 2, 1) := by decide +kernel
theorem dX12_laysHearings_22 : decode cX12_laysHearings 22 = .ok (.iaload, 1) := by decide +kernel
theorem dX12_laysHearings_23 : decode cX12_laysHearings 23 = .ok (.invokevirtual 350, 3) := by decide +kernel
theorem dX12_laysHearings_26 : decode cX12_laysHearings 26 = .ok (.ifCond .eq 9, 3) := by decide +kernel
theorem dX12_laysHearings_29 : decode cX12_laysHearings 29 = .ok (.aload_n 0, 1) := by decide +kernel
theorem dX12_laysHearings_30 : decode cX12_laysHearings 30 = .ok (.iload_n 1, 1) := by decide +kernel
theorem dX12_laysHearings_31 : decode cX12_laysHearings 31 = .ok (.iload_n 2, 1) := by decide +kernel
theorem dX12_laysHearings_32 : decode cX12_laysHearings 32 = .ok (.invokevirtual 354, 3) := by decide +kernel
theorem dX12_laysHearings_35 : decode cX12_laysHearings 35 = .ok (.iinc 2 1, 3) := by decide +kernel
theorem dX12_laysHearings_38 : decode cX12_laysHearings 38 = .ok (.goto (-31), 3) := by decide +kernel
theorem dX12_laysHearings_41 : decode cX12_laysHearings 41 = .ok (.return_, 1) := by decide +kernel
theorem dX12_gapAt_0 : decode cX12_gapAt 0 = .ok (.iload_n 1, 1) := by decide +kernel
theorem dX12_gapAt_1 : decode cX12_gapAt 1 = .ok (.ifCond .ne 6, 3) := by decide +kernel
theorem dX12_gapAt_4 : decode cX12_gapAt 4 = .ok (.bipush 63, 2) := by decide +kernel
theorem dX12_gapAt_6 : decode cX12_gapAt 6 = .ok (.ireturn, 1) := by decide +kernel
theorem dX12_gapAt_7 : decode cX12_gapAt 7 = .ok (.aload_n 0, 1) := by decide +kernel
theorem dX12_gapAt_8 : decode cX12_gapAt 8 = .ok (.getfield 91, 3) := by decide +kernel
theorem dX12_gapAt_11 : decode cX12_gapAt 11 = .ok (.iload_n 1, 1) := by decide +kernel
theorem dX12_gapAt_12 : decode cX12_gapAt 12 = .ok (.iaload, 1) := by decide +kernel
theorem dX12_gapAt_13 : decode cX12_gapAt 13 = .ok (.aload_n 0, 1) := by decide +kernel
theorem dX12_gapAt_14 : decode cX12_gapAt 14 = .ok (.getfield 91, 3) := by decide +kernel
theorem dX12_gapAt_17 : decode cX12_gapAt 17 = .ok (.iload_n 1, 1) := by decide +kernel
theorem dX12_gapAt_18 : decode cX12_gapAt 18 = .ok (.iconst 1, 1) := by decide +kernel
theorem dX12_gapAt_19 : decode cX12_gapAt 19 = .ok (.isub, 1) := by decide +kernel
theorem dX12_gapAt_20 : decode cX12_gapAt 20 = .ok (.iaload, 1) := by decide +kernel
theorem dX12_gapAt_21 : decode cX12_gapAt 21 = .ok (.isub, 1) := by decide +kernel
theorem dX12_gapAt_22 : decode cX12_gapAt 22 = .ok (.istore_n 2, 1) := by decide +kernel
theorem dX12_gapAt_23 : decode cX12_gapAt 23 = .ok (.iload_n 2, 1) := by decide +kernel
theorem dX12_gapAt_24 : decode cX12_gapAt 24 = .ok (.bipush 63, 2) := by decide +kernel
theorem dX12_gapAt_26 : decode cX12_gapAt 26 = .ok (.if_icmp .le 8, 3) := by decide +kernel
theorem dX12_gapAt_29 : decode cX12_gapAt 29 = .ok (.bipush 63, 2) := by decide +kernel
theorem dX12_gapAt_31 : decode cX12_gapAt 31 = .ok (.goto 4, 3) := by decide +kernel
theorem dX12_gapAt_34 : decode cX12_gapAt 34 = .ok (.iload_n 2, 1) := by decide +kernel
theorem dX12_gapAt_35 : decode cX12_gapAt 35 = .ok (.ireturn, 1) := by decide +kernel
theorem dX12_meaningAt_0 : decode cX12_meaningAt 0 = .ok (.aload_n 0, 1) := by decide +kernel
theorem dX12_meaningAt_1 : decode cX12_meaningAt 1 = .ok (.iload_n 1, 1) := by decide +kernel
theorem dX12_meaningAt_2 : decode cX12_meaningAt 2 = .ok (.aload_n 0, 1) := by decide +kernel
theorem dX12_meaningAt_3 : decode cX12_meaningAt 3 = .ok (.iload_n 2, 1) := by decide +kernel
theorem dX12_meaningAt_4 : decode cX12_meaningAt 4 = .ok (.invokevirtual 357, 3) := by decide +kernel
theorem dX12_meaningAt_7 : decode cX12_meaningAt 7 = .ok (.aload_n 0, 1) := by decide +kernel
theorem dX12_meaningAt_8 : decode cX12_meaningAt 8 = .ok (.getfield 94, 3) := by decide +kernel
theorem dX12_meaningAt_11 : decode cX12_meaningAt 11 = .ok (.iload_n 2, 1) := by decide +kernel
theorem dX12_meaningAt_12 : decode cX12_meaningAt 12 = .ok (.iaload, 1) := by decide +kernel
theorem dX12_meaningAt_13 : decode cX12_meaningAt 13 = .ok (.iload_n 2, 1) := by decide +kernel
theorem dX12_meaningAt_14 : decode cX12_meaningAt 14 = .ok (.ifCond .ne 8, 3) := by decide +kernel
theorem dX12_meaningAt_17 : decode cX12_meaningAt 17 = .ok (.bipush 8, 2) := by decide +kernel
theorem dX12_meaningAt_19 : decode cX12_meaningAt 19 = .ok (.goto 11, 3) := by decide +kernel
theorem dX12_meaningAt_22 : decode cX12_meaningAt 22 = .ok (.aload_n 0, 1) := by decide +kernel
theorem dX12_meaningAt_23 : decode cX12_meaningAt 23 = .ok (.getfield 94, 3) := by decide +kernel
theorem dX12_meaningAt_26 : decode cX12_meaningAt 26 = .ok (.iload_n 2, 1) := by decide +kernel
theorem dX12_meaningAt_27 : decode cX12_meaningAt 27 = .ok (.iconst 1, 1) := by decide +kernel
theorem dX12_meaningAt_28 : decode cX12_meaningAt 28 = .ok (.isub, 1) := by decide +kernel
theorem dX12_meaningAt_29 : decode cX12_meaningAt 29 = .ok (.iaload, 1) := by decide +kernel
theorem dX12_meaningAt_30 : decode cX12_meaningAt 30 = .ok (.iload_n 2, 1) := by decide +kernel
theorem dX12_meaningAt_31 : decode cX12_meaningAt 31 = .ok (.ifCond .ne 8, 3) := by decide +kernel
theorem dX12_meaningAt_34 : decode cX12_meaningAt 34 = .ok (.bipush 63, 2) := by decide +kernel
theorem dX12_meaningAt_36 : decode cX12_meaningAt 36 = .ok (.goto 10, 3) := by decide +kernel
theorem dX12_meaningAt_39 : decode cX12_meaningAt 39 = .ok (.aload_n 0, 1) := by decide +kernel
theorem dX12_meaningAt_40 : decode cX12_meaningAt 40 = .ok (.iload_n 2, 1) := by decide +kernel
theorem dX12_meaningAt_41 : decode cX12_meaningAt 41 = .ok (.iconst 1, 1) := by decide +kernel
theorem dX12_meaningAt_42 : decode cX12_meaningAt 42 = .ok (.isub, 1) := by decide +kernel
theorem dX12_meaningAt_43 : decode cX12_meaningAt 43 = .ok (.invokevirtual 357, 3) := by decide +kernel
theorem dX12_meaningAt_46 : decode cX12_meaningAt 46 = .ok (.aload_n 0, 1) := by decide +kernel
theorem dX12_meaningAt_47 : decode cX12_meaningAt 47 = .ok (.iload_n 1, 1) := by decide +kernel
theorem dX12_meaningAt_48 : decode cX12_meaningAt 48 = .ok (.aload_n 0, 1) := by decide +kernel
theorem dX12_meaningAt_49 : decode cX12_meaningAt 49 = .ok (.getfield 94, 3) := by decide +kernel
theorem dX12_meaningAt_52 : decode cX12_meaningAt 52 = .ok (.iload_n 2, 1) := by decide +kernel
theorem dX12_meaningAt_53 : decode cX12_meaningAt 53 = .ok (.iaload, 1) := by decide +kernel
theorem dX12_meaningAt_54 : decode cX12_meaningAt 54 = .ok (.invokevirtual 340, 3) := by decide +kernel
theorem dX12_meaningAt_57 : decode cX12_meaningAt 57 = .ok (.invokevirtual 360, 3) := by decide +kernel
theorem dX12_meaningAt_60 : decode cX12_meaningAt 60 = .ok (.ireturn, 1) := by decide +kernel
theorem dX12_heard_0 : decode cX12_heard 0 = .ok (.aload_n 0, 1) := by decide +kernel
theorem dX12_heard_1 : decode cX12_heard 1 = .ok (.iload_n 1, 1) := by decide +kernel
theorem dX12_heard_2 : decode cX12_heard 2 = .ok (.invokevirtual 322, 3) := by decide +kernel
theorem dX12_heard_5 : decode cX12_heard 5 = .ok (.ifCond .ne 5, 3) := by decide +kernel
theorem dX12_heard_8 : decode cX12_heard 8 = .ok (.iconst (-1), 1) := by decide +kernel
theorem dX12_heard_9 : decode cX12_heard 9 = .ok (.ireturn, 1) := by decide +kernel
theorem dX12_heard_10 : decode cX12_heard 10 = .ok (.aload_n 0, 1) := by decide +kernel
theorem dX12_heard_11 : decode cX12_heard 11 = .ok (.iload_n 1, 1) := by decide +kernel
theorem dX12_heard_12 : decode cX12_heard 12 = .ok (.invokevirtual 364, 3) := by decide +kernel
theorem dX12_heard_15 : decode cX12_heard 15 = .ok (.aload_n 0, 1) := by decide +kernel
theorem dX12_heard_16 : decode cX12_heard 16 = .ok (.getfield 343, 3) := by decide +kernel
theorem dX12_heard_19 : decode cX12_heard 19 = .ok (.ireturn, 1) := by decide +kernel
theorem dX12_hearing_0 : decode cX12_hearing 0 = .ok (.aload_n 0, 1) := by decide +kernel
theorem dX12_hearing_1 : decode cX12_hearing 1 = .ok (.iload_n 1, 1) := by decide +kernel
theorem dX12_hearing_2 : decode cX12_hearing 2 = .ok (.invokevirtual 322, 3) := by decide +kernel
theorem dX12_hearing_5 : decode cX12_hearing 5 = .ok (.ifCond .eq 15, 3) := by decide +kernel
theorem dX12_hearing_8 : decode cX12_hearing 8 = .ok (.iload_n 3, 1) := by decide +kernel
theorem dX12_hearing_9 : decode cX12_hearing 9 = .ok (.i2l, 1) := by decide +kernel
theorem dX12_hearing_10 : decode cX12_hearing 10 = .ok (.lconst 0, 1) := by decide +kernel
theorem dX12_hearing_11 : decode cX12_hearing 11 = .ok (.ldc2_w 367, 3) := by decide +kernel
theorem dX12_hearing_14 : decode cX12_hearing 14 = .ok (.invokestatic 147, 3) := by decide +kernel
theorem dX12_hearing_17 : decode cX12_hearing 17 = .ok (.ifCond .ne 5, 3) := by decide +kernel
theorem dX12_hearing_20 : decode cX12_hearing 20 = .ok (.iconst (-1), 1) := by decide +kernel
theorem dX12_hearing_21 : decode cX12_hearing 21 = .ok (.ireturn, 1) := by decide +kernel
theorem dX12_hearing_22 : decode cX12_hearing 22 = .ok (.aload_n 0, 1) := by decide +kernel
theorem dX12_hearing_23 : decode cX12_hearing 23 = .ok (.iload_n 1, 1) := by decide +kernel
theorem dX12_hearing_24 : decode cX12_hearing 24 = .ok (.invokevirtual 364, 3) := by decide +kernel
theorem dX12_hearing_27 : decode cX12_hearing 27 = .ok (.iload_n 2, 1) := by decide +kernel
theorem dX12_hearing_28 : decode cX12_hearing 28 = .ok (.i2l, 1) := by decide +kernel
theorem dX12_hearing_29 : decode cX12_hearing 29 = .ok (.lconst 0, 1) := by decide +kernel
theorem dX12_hearing_30 : decode cX12_hearing 30 = .ok (.aload_n 0, 1) := by decide +kernel
theorem dX12_hearing_31 : decode cX12_hearing 31 = .ok (.getfield 343, 3) := by decide +kernel
theorem dX12_hearing_34 : decode cX12_hearing 34 = .ok (.iconst 1, 1) := by decide +kernel
theorem dX12_hearing_35 : decode cX12_hearing 35 = .ok (.isub, 1) := by decide +kernel
theorem dX12_hearing_36 : decode cX12_hearing 36 = .ok (.i2l, 1) := by decide +kernel
theorem dX12_hearing_37 : decode cX12_hearing 37 = .ok (.invokestatic 147, 3) := by decide +kernel
theorem dX12_hearing_40 : decode cX12_hearing 40 = .ok (.ifCond .ne 5, 3) := by decide +kernel
theorem dX12_hearing_43 : decode cX12_hearing 43 = .ok (.iconst (-1), 1) := by decide +kernel
theorem dX12_hearing_44 : decode cX12_hearing 44 = .ok (.ireturn, 1) := by decide +kernel
theorem dX12_hearing_45 : decode cX12_hearing 45 = .ok (.iload_n 3, 1) := by decide +kernel
theorem dX12_hearing_46 : decode cX12_hearing 46 = .ok (.ifCond .ne 12, 3) := by decide +kernel
theorem dX12_hearing_49 : decode cX12_hearing 49 = .ok (.aload_n 0, 1) := by decide +kernel
theorem dX12_hearing_50 : decode cX12_hearing 50 = .ok (.getfield 91, 3) := by decide +kernel
theorem dX12_hearing_53 : decode cX12_hearing 53 = .ok (.iload_n 2, 1) := by decide +kernel
theorem dX12_hearing_54 : decode cX12_hearing 54 = .ok (.iaload, 1) := by decide +kernel
theorem dX12_hearing_55 : decode cX12_hearing 55 = .ok (.goto 36, 3) := by decide +kernel
theorem dX12_hearing_58 : decode cX12_hearing 58 = .ok (.iload_n 3, 1) := by decide +kernel
theorem dX12_hearing_59 : decode cX12_hearing 59 = .ok (.iconst 1, 1) := by decide +kernel
theorem dX12_hearing_60 : decode cX12_hearing 60 = .ok (.if_icmp .ne 12, 3) := by decide +kernel
theorem dX12_hearing_63 : decode cX12_hearing 63 = .ok (.aload_n 0, 1) := by decide +kernel
theorem dX12_hearing_64 : decode cX12_hearing 64 = .ok (.getfield 94, 3) := by decide +kernel
theorem dX12_hearing_67 : decode cX12_hearing 67 = .ok (.iload_n 2, 1) := by decide +kernel
theorem dX12_hearing_68 : decode cX12_hearing 68 = .ok (.iaload, 1) := by decide +kernel
theorem dX12_hearing_69 : decode cX12_hearing 69 = .ok (.goto 22, 3) := by decide +kernel
theorem dX12_hearing_72 : decode cX12_hearing 72 = .ok (.iload_n 3, 1) := by decide +kernel
theorem dX12_hearing_73 : decode cX12_hearing 73 = .ok (.iconst 2, 1) := by decide +kernel
theorem dX12_hearing_74 : decode cX12_hearing 74 = .ok (.if_icmp .ne 11, 3) := by decide +kernel
theorem dX12_hearing_77 : decode cX12_hearing 77 = .ok (.aload_n 0, 1) := by decide +kernel
theorem dX12_hearing_78 : decode cX12_hearing 78 = .ok (.iload_n 2, 1) := by decide +kernel
theorem dX12_hearing_79 : decode cX12_hearing 79 = .ok (.invokevirtual 357, 3) := by decide +kernel
theorem dX12_hearing_82 : decode cX12_hearing 82 = .ok (.goto 9, 3) := by decide +kernel
theorem dX12_hearing_85 : decode cX12_hearing 85 = .ok (.aload_n 0, 1) := by decide +kernel
theorem dX12_hearing_86 : decode cX12_hearing 86 = .ok (.iload_n 1, 1) := by decide +kernel
theorem dX12_hearing_87 : decode cX12_hearing 87 = .ok (.iload_n 2, 1) := by decide +kernel
theorem dX12_hearing_88 : decode cX12_hearing 88 = .ok (.invokevirtual 369, 3) := by decide +kernel
theorem dX12_hearing_91 : decode cX12_hearing 91 = .ok (.ireturn, 1) := by decide +kernel
theorem dX12_meaning_0 : decode cX12_meaning 0 = .ok (.aload_n 0, 1) := by decide +kernel
theorem dX12_meaning_1 : decode cX12_meaning 1 = .ok (.iload_n 1, 1) := by decide +kernel
theorem dX12_meaning_2 : decode cX12_meaning 2 = .ok (.invokevirtual 322, 3) := by decide +kernel
theorem dX12_meaning_5 : decode cX12_meaning 5 = .ok (.ifCond .eq 49, 3) := by decide +kernel
theorem dX12_meaning_8 : decode cX12_meaning 8 = .ok (.iload_n 2, 1) := by decide +kernel
theorem dX12_meaning_9 : decode cX12_meaning 9 = .ok (.i2l, 1) := by decide +kernel
theorem dX12_meaning_10 : decode cX12_meaning 10 = .ok (.lconst 1, 1) := by decide +kernel
theorem dX12_meaning_11 : decode cX12_meaning 11 = .ok (.ldc2_w 372, 3) := by decide +kernel
theorem dX12_meaning_14 : decode cX12_meaning 14 = .ok (.invokestatic 147, 3) := by decide +kernel
theorem dX12_meaning_17 : decode cX12_meaning 17 = .ok (.ifCond .eq 37, 3) := by decide +kernel
theorem dX12_meaning_20 : decode cX12_meaning 20 = .ok (.aload_n 0, 1) := by decide +kernel
theorem dX12_meaning_21 : decode cX12_meaning 21 = .ok (.iload_n 3, 1) := by decide +kernel
theorem dX12_meaning_22 : decode cX12_meaning 22 = .ok (.invokevirtual 322, 3) := by decide +kernel
theorem dX12_meaning_25 : decode cX12_meaning 25 = .ok (.ifCond .eq 29, 3) := by decide +kernel
theorem dX12_meaning_28 : decode cX12_meaning 28 = .ok (.iload 4, 2) := by decide +kernel
theorem dX12_meaning_30 : decode cX12_meaning 30 = .ok (.i2l, 1) := by decide +kernel
theorem dX12_meaning_31 : decode cX12_meaning 31 = .ok (.lconst 0, 1) := by decide +kernel
theorem dX12_meaning_32 : decode cX12_meaning 32 = .ok (.ldc2_w 374, 3) := by decide +kernel
theorem dX12_meaning_35 : decode cX12_meaning 35 = .ok (.invokestatic 147, 3) := by decide +kernel
theorem dX12_meaning_38 : decode cX12_meaning 38 = .ok (.ifCond .eq 16, 3) := by decide +kernel
theorem dX12_meaning_41 : decode cX12_meaning 41 = .ok (.iload 5, 2) := by decide +kernel
theorem dX12_meaning_43 : decode cX12_meaning 43 = .ok (.i2l, 1) := by decide +kernel
theorem dX12_meaning_44 : decode cX12_meaning 44 = .ok (.lconst 0, 1) := by decide +kernel
theorem dX12_meaning_45 : decode cX12_meaning 45 = .ok (.ldc2_w 372, 3) := by decide +kernel
theorem dX12_meaning_48 : decode cX12_meaning 48 = .ok (.invokestatic 147, 3) := by decide +kernel
theorem dX12_meaning_51 : decode cX12_meaning 51 = .ok (.ifCond .ne 5, 3) := by decide +kernel
theorem dX12_meaning_54 : decode cX12_meaning 54 = .ok (.iconst (-1), 1) := by decide +kernel
theorem dX12_meaning_55 : decode cX12_meaning 55 = .ok (.ireturn, 1) := by decide +kernel
theorem dX12_meaning_56 : decode cX12_meaning 56 = .ok (.aload_n 0, 1) := by decide +kernel
theorem dX12_meaning_57 : decode cX12_meaning 57 = .ok (.iload_n 1, 1) := by decide +kernel
theorem dX12_meaning_58 : decode cX12_meaning 58 = .ok (.iload_n 2, 1) := by decide +kernel
theorem dX12_meaning_59 : decode cX12_meaning 59 = .ok (.iload_n 3, 1) := by decide +kernel
theorem dX12_meaning_60 : decode cX12_meaning 60 = .ok (.iload 4, 2) := by decide +kernel
theorem dX12_meaning_62 : decode cX12_meaning 62 = .ok (.iload 5, 2) := by decide +kernel
theorem dX12_meaning_64 : decode cX12_meaning 64 = .ok (.aload_n 0, 1) := by decide +kernel
theorem dX12_meaning_65 : decode cX12_meaning 65 = .ok (.iload_n 1, 1) := by decide +kernel
theorem dX12_meaning_66 : decode cX12_meaning 66 = .ok (.iload_n 3, 1) := by decide +kernel
theorem dX12_meaning_67 : decode cX12_meaning 67 = .ok (.invokevirtual 340, 3) := by decide +kernel
theorem dX12_meaning_70 : decode cX12_meaning 70 = .ok (.invokevirtual 360, 3) := by decide +kernel
theorem dX12_meaning_73 : decode cX12_meaning 73 = .ok (.ireturn, 1) := by decide +kernel
theorem dX12_said_0 : decode cX12_said 0 = .ok (.iload_n 1, 1) := by decide +kernel
theorem dX12_said_1 : decode cX12_said 1 = .ok (.i2l, 1) := by decide +kernel
theorem dX12_said_2 : decode cX12_said 2 = .ok (.lconst 0, 1) := by decide +kernel
theorem dX12_said_3 : decode cX12_said 3 = .ok (.aload_n 0, 1) := by decide +kernel
theorem dX12_said_4 : decode cX12_said 4 = .ok (.getfield 332, 3) := by decide +kernel
theorem dX12_said_7 : decode cX12_said 7 = .ok (.iconst 1, 1) := by decide +kernel
theorem dX12_said_8 : decode cX12_said 8 = .ok (.isub, 1) := by decide +kernel
theorem dX12_said_9 : decode cX12_said 9 = .ok (.i2l, 1) := by decide +kernel
theorem dX12_said_10 : decode cX12_said 10 = .ok (.invokestatic 147, 3) := by decide +kernel
theorem dX12_said_13 : decode cX12_said 13 = .ok (.ifCond .eq 15, 3) := by decide +kernel
theorem dX12_said_16 : decode cX12_said 16 = .ok (.iload_n 2, 1) := by decide +kernel
theorem dX12_said_17 : decode cX12_said 17 = .ok (.i2l, 1) := by decide +kernel
theorem dX12_said_18 : decode cX12_said 18 = .ok (.lconst 0, 1) := by decide +kernel
theorem dX12_said_19 : decode cX12_said 19 = .ok (.ldc2_w 376, 3) := by decide +kernel
theorem dX12_said_22 : decode cX12_said 22 = .ok (.invokestatic 147, 3) := by decide +kernel
theorem dX12_said_25 : decode cX12_said 25 = .ok (.ifCond .ne 5, 3) := by decide +kernel
theorem dX12_said_28 : decode cX12_said 28 = .ok (.iconst (-1), 1) := by decide +kernel
theorem dX12_said_29 : decode cX12_said 29 = .ok (.ireturn, 1) := by decide +kernel
theorem dX12_said_30 : decode cX12_said 30 = .ok (.iload_n 2, 1) := by decide +kernel
theorem dX12_said_31 : decode cX12_said 31 = .ok (.iconst 2, 1) := by decide +kernel
theorem dX12_said_32 : decode cX12_said 32 = .ok (.if_icmp .ge 23, 3) := by decide +kernel
theorem dX12_said_35 : decode cX12_said 35 = .ok (.iload_n 2, 1) := by decide +kernel
theorem dX12_said_36 : decode cX12_said 36 = .ok (.ifCond .ne 12, 3) := by decide +kernel
theorem dX12_said_39 : decode cX12_said 39 = .ok (.aload_n 0, 1) := by decide +kernel
theorem dX12_said_40 : decode cX12_said 40 = .ok (.getfield 39, 3) := by decide +kernel
theorem dX12_said_43 : decode cX12_said 43 = .ok (.iload_n 1, 1) := by decide +kernel
theorem dX12_said_44 : decode cX12_said 44 = .ok (.iaload, 1) := by decide +kernel
theorem dX12_said_45 : decode cX12_said 45 = .ok (.goto 9, 3) := by decide +kernel
theorem dX12_said_48 : decode cX12_said 48 = .ok (.aload_n 0, 1) := by decide +kernel
theorem dX12_said_49 : decode cX12_said 49 = .ok (.getfield 42, 3) := by decide +kernel
theorem dX12_said_52 : decode cX12_said 52 = .ok (.iload_n 1, 1) := by decide +kernel
theorem dX12_said_53 : decode cX12_said 53 = .ok (.iaload, 1) := by decide +kernel
theorem dX12_said_54 : decode cX12_said 54 = .ok (.ireturn, 1) := by decide +kernel
theorem dX12_said_55 : decode cX12_said 55 = .ok (.iconst 0, 1) := by decide +kernel
theorem dX12_said_56 : decode cX12_said 56 = .ok (.istore_n 3, 1) := by decide +kernel
theorem dX12_said_57 : decode cX12_said 57 = .ok (.iconst 0, 1) := by decide +kernel
theorem dX12_said_58 : decode cX12_said 58 = .ok (.istore 4, 2) := by decide +kernel
theorem dX12_said_60 : decode cX12_said 60 = .ok (.iload 4, 2) := by decide +kernel
theorem dX12_said_62 : decode cX12_said 62 = .ok (.aload_n 0, 1) := by decide +kernel
theorem dX12_said_63 : decode cX12_said 63 = .ok (.getfield 144, 3) := by decide +kernel
theorem dX12_said_66 : decode cX12_said 66 = .ok (.if_icmp .ge 95, 3) := by decide +kernel
theorem dX12_said_69 : decode cX12_said 69 = .ok (.aload_n 0, 1) := by decide +kernel
theorem dX12_said_70 : decode cX12_said 70 = .ok (.iload 4, 2) := by decide +kernel
theorem dX12_said_72 : decode cX12_said 72 = .ok (.invokevirtual 364, 3) := by decide +kernel
theorem dX12_said_75 : decode cX12_said 75 = .ok (.aload_n 0, 1) := by decide +kernel
theorem dX12_said_76 : decode cX12_said 76 = .ok (.getfield 42, 3) := by decide +kernel
theorem dX12_said_79 : decode cX12_said 79 = .ok (.iload_n 1, 1) := by decide +kernel
theorem dX12_said_80 : decode cX12_said 80 = .ok (.iaload, 1) := by decide +kernel
theorem dX12_said_81 : decode cX12_said 81 = .ok (.aload_n 0, 1) := by decide +kernel
theorem dX12_said_82 : decode cX12_said 82 = .ok (.iload 4, 2) := by decide +kernel
theorem dX12_said_84 : decode cX12_said 84 = .ok (.aload_n 0, 1) := by decide +kernel
theorem dX12_said_85 : decode cX12_said 85 = .ok (.getfield 39, 3) := by decide +kernel
theorem dX12_said_88 : decode cX12_said 88 = .ok (.iload_n 1, 1) := by decide +kernel
theorem dX12_said_89 : decode cX12_said 89 = .ok (.iaload, 1) := by decide +kernel
theorem dX12_said_90 : decode cX12_said 90 = .ok (.invokevirtual 340, 3) := by decide +kernel
theorem dX12_said_93 : decode cX12_said 93 = .ok (.aload_n 0, 1) := by decide +kernel
theorem dX12_said_94 : decode cX12_said 94 = .ok (.getfield 17, 3) := by decide +kernel
theorem dX12_said_97 : decode cX12_said 97 = .ok (.idiv, 1) := by decide +kernel
theorem dX12_said_98 : decode cX12_said 98 = .ok (.iadd, 1) := by decide +kernel
theorem dX12_said_99 : decode cX12_said 99 = .ok (.istore 5, 2) := by decide +kernel
theorem dX12_said_101 : decode cX12_said 101 = .ok (.iconst 0, 1) := by decide +kernel
theorem dX12_said_102 : decode cX12_said 102 = .ok (.istore 6, 2) := by decide +kernel
theorem dX12_said_104 : decode cX12_said 104 = .ok (.iload 6, 2) := by decide +kernel
theorem dX12_said_106 : decode cX12_said 106 = .ok (.aload_n 0, 1) := by decide +kernel
theorem dX12_said_107 : decode cX12_said 107 = .ok (.getfield 343, 3) := by decide +kernel
theorem dX12_said_110 : decode cX12_said 110 = .ok (.if_icmp .ge 45, 3) := by decide +kernel
theorem dX12_said_113 : decode cX12_said 113 = .ok (.iload_n 3, 1) := by decide +kernel
theorem dX12_said_114 : decode cX12_said 114 = .ok (.aload_n 0, 1) := by decide +kernel
theorem dX12_said_115 : decode cX12_said 115 = .ok (.getfield 94, 3) := by decide +kernel
theorem dX12_said_118 : decode cX12_said 118 = .ok (.iload 6, 2) := by decide +kernel
theorem dX12_said_120 : decode cX12_said 120 = .ok (.iaload, 1) := by decide +kernel
theorem dX12_said_121 : decode cX12_said 121 = .ok (.aload_n 0, 1) := by decide +kernel
theorem dX12_said_122 : decode cX12_said 122 = .ok (.getfield 39, 3) := by decide +kernel
theorem dX12_said_125 : decode cX12_said 125 = .ok (.iload_n 1, 1) := by decide +kernel
theorem dX12_said_126 : decode cX12_said 126 = .ok (.iaload, 1) := by decide +kernel
theorem dX12_said_127 : decode cX12_said 127 = .ok (.if_icmp .ne 19, 3) := by decide +kernel
theorem dX12_said_130 : decode cX12_said 130 = .ok (.aload_n 0, 1) := by decide +kernel
theorem dX12_said_131 : decode cX12_said 131 = .ok (.getfield 91, 3) := by decide +kernel
theorem dX12_said_134 : decode cX12_said 134 = .ok (.iload 6, 2) := by decide +kernel
theorem dX12_said_136 : decode cX12_said 136 = .ok (.iaload, 1) := by decide +kernel
theorem dX12_said_137 : decode cX12_said 137 = .ok (.iload 5, 2) := by decide +kernel
theorem dX12_said_139 : decode cX12_said 139 = .ok (.if_icmp .ne 7, 3) := by decide +kernel
theorem dX12_said_142 : decode cX12_said 142 = .ok (.iconst 1, 1) := by decide +kernel
theorem dX12_said_143 : decode cX12_said 143 = .ok (.goto 4, 3) := by decide +kernel
theorem dX12_said_146 : decode cX12_said 146 = .ok (.iconst 0, 1) := by decide +kernel
theorem dX12_said_147 : decode cX12_said 147 = .ok (.iadd, 1) := by decide +kernel
theorem dX12_said_148 : decode cX12_said 148 = .ok (.istore_n 3, 1) := by decide +kernel
theorem dX12_said_149 : decode cX12_said 149 = .ok (.iinc 6 1, 3) := by decide +kernel
theorem dX12_said_152 : decode cX12_said 152 = .ok (.goto (-48), 3) := by decide +kernel
theorem dX12_said_155 : decode cX12_said 155 = .ok (.iinc 4 1, 3) := by decide +kernel
theorem dX12_said_158 : decode cX12_said 158 = .ok (.goto (-98), 3) := by decide +kernel
theorem dX12_said_161 : decode cX12_said 161 = .ok (.iload_n 3, 1) := by decide +kernel
theorem dX12_said_162 : decode cX12_said 162 = .ok (.ireturn, 1) := by decide +kernel
theorem dX12_laysLast_0 : decode cX12_laysLast 0 = .ok (.aload_n 0, 1) := by decide +kernel
theorem dX12_laysLast_1 : decode cX12_laysLast 1 = .ok (.iload_n 1, 1) := by decide +kernel
theorem dX12_laysLast_2 : decode cX12_laysLast 2 = .ok (.invokevirtual 364, 3) := by decide +kernel
theorem dX12_laysLast_5 : decode cX12_laysLast 5 = .ok (.aload_n 0, 1) := by decide +kernel
theorem dX12_laysLast_6 : decode cX12_laysLast 6 = .ok (.aload_n 0, 1) := by decide +kernel
theorem dX12_laysLast_7 : decode cX12_laysLast 7 = .ok (.getfield 343, 3) := by decide +kernel
theorem dX12_laysLast_10 : decode cX12_laysLast 10 = .ok (.ifCond .ne 8, 3) := by decide +kernel
theorem dX12_laysLast_13 : decode cX12_laysLast 13 = .ok (.bipush 8, 2) := by decide +kernel
theorem dX12_laysLast_15 : decode cX12_laysLast 15 = .ok (.goto 14, 3) := by decide +kernel
theorem dX12_laysLast_18 : decode cX12_laysLast 18 = .ok (.aload_n 0, 1) := by decide +kernel
theorem dX12_laysLast_19 : decode cX12_laysLast 19 = .ok (.getfield 94, 3) := by decide +kernel
theorem dX12_laysLast_22 : decode cX12_laysLast 22 = .ok (.aload_n 0, 1) := by decide +kernel
theorem dX12_laysLast_23 : decode cX12_laysLast 23 = .ok (.getfield 343, 3) := by decide +kernel
theorem dX12_laysLast_26 : decode cX12_laysLast 26 = .ok (.iconst 1, 1) := by decide +kernel
theorem dX12_laysLast_27 : decode cX12_laysLast 27 = .ok (.isub, 1) := by decide +kernel
theorem dX12_laysLast_28 : decode cX12_laysLast 28 = .ok (.iaload, 1) := by decide +kernel
theorem dX12_laysLast_29 : decode cX12_laysLast 29 = .ok (.putfield 378, 3) := by decide +kernel
theorem dX12_laysLast_32 : decode cX12_laysLast 32 = .ok (.aload_n 0, 1) := by decide +kernel
theorem dX12_laysLast_33 : decode cX12_laysLast 33 = .ok (.aload_n 0, 1) := by decide +kernel
theorem dX12_laysLast_34 : decode cX12_laysLast 34 = .ok (.getfield 343, 3) := by decide +kernel
theorem dX12_laysLast_37 : decode cX12_laysLast 37 = .ok (.ifCond .ne 8, 3) := by decide +kernel
theorem dX12_laysLast_40 : decode cX12_laysLast 40 = .ok (.bipush 63, 2) := by decide +kernel
theorem dX12_laysLast_42 : decode cX12_laysLast 42 = .ok (.goto 13, 3) := by decide +kernel
theorem dX12_laysLast_45 : decode cX12_laysLast 45 = .ok (.aload_n 0, 1) := by decide +kernel
theorem dX12_laysLast_46 : decode cX12_laysLast 46 = .ok (.aload_n 0, 1) := by decide +kernel
theorem dX12_laysLast_47 : decode cX12_laysLast 47 = .ok (.getfield 343, 3) := by decide +kernel
theorem dX12_laysLast_50 : decode cX12_laysLast 50 = .ok (.iconst 1, 1) := by decide +kernel
theorem dX12_laysLast_51 : decode cX12_laysLast 51 = .ok (.isub, 1) := by decide +kernel
theorem dX12_laysLast_52 : decode cX12_laysLast 52 = .ok (.invokevirtual 357, 3) := by decide +kernel
theorem dX12_laysLast_55 : decode cX12_laysLast 55 = .ok (.putfield 381, 3) := by decide +kernel
theorem dX12_laysLast_58 : decode cX12_laysLast 58 = .ok (.return_, 1) := by decide +kernel
theorem dX12_isAs_0 : decode cX12_isAs 0 = .ok (.iload_n 1, 1) := by decide +kernel
theorem dX12_isAs_1 : decode cX12_isAs 1 = .ok (.bipush 32, 2) := by decide +kernel
theorem dX12_isAs_3 : decode cX12_isAs 3 = .ok (.if_icmp .eq 8, 3) := by decide +kernel
theorem dX12_isAs_6 : decode cX12_isAs 6 = .ok (.iload_n 1, 1) := by decide +kernel
theorem dX12_isAs_7 : decode cX12_isAs 7 = .ok (.iload_n 2, 1) := by decide +kernel
theorem dX12_isAs_8 : decode cX12_isAs 8 = .ok (.if_icmp .ne 7, 3) := by decide +kernel
theorem dX12_isAs_11 : decode cX12_isAs 11 = .ok (.iconst 1, 1) := by decide +kernel
theorem dX12_isAs_12 : decode cX12_isAs 12 = .ok (.goto 4, 3) := by decide +kernel
theorem dX12_isAs_15 : decode cX12_isAs 15 = .ok (.iconst 0, 1) := by decide +kernel
theorem dX12_isAs_16 : decode cX12_isAs 16 = .ok (.ireturn, 1) := by decide +kernel
theorem dX12_fits_0 : decode cX12_fits 0 = .ok (.aload_n 0, 1) := by decide +kernel
theorem dX12_fits_1 : decode cX12_fits 1 = .ok (.iload_n 1, 1) := by decide +kernel
theorem dX12_fits_2 : decode cX12_fits 2 = .ok (.iload_n 3, 1) := by decide +kernel
theorem dX12_fits_3 : decode cX12_fits 3 = .ok (.invokevirtual 350, 3) := by decide +kernel
theorem dX12_fits_6 : decode cX12_fits 6 = .ok (.ifCond .eq 59, 3) := by decide +kernel
theorem dX12_fits_9 : decode cX12_fits 9 = .ok (.aload_n 0, 1) := by decide +kernel
theorem dX12_fits_10 : decode cX12_fits 10 = .ok (.aload_n 0, 1) := by decide +kernel
theorem dX12_fits_11 : decode cX12_fits 11 = .ok (.getfield 100, 3) := by decide +kernel
theorem dX12_fits_14 : decode cX12_fits 14 = .ok (.iload_n 2, 1) := by decide +kernel
theorem dX12_fits_15 : decode cX12_fits 15 = .ok (.iaload, 1) := by decide +kernel
theorem dX12_fits_16 : decode cX12_fits 16 = .ok (.aload_n 0, 1) := by decide +kernel
theorem dX12_fits_17 : decode cX12_fits 17 = .ok (.iload_n 1, 1) := by decide +kernel
theorem dX12_fits_18 : decode cX12_fits 18 = .ok (.aload_n 0, 1) := by decide +kernel
theorem dX12_fits_19 : decode cX12_fits 19 = .ok (.getfield 97, 3) := by decide +kernel
theorem dX12_fits_22 : decode cX12_fits 22 = .ok (.iload_n 2, 1) := by decide +kernel
theorem dX12_fits_23 : decode cX12_fits 23 = .ok (.iaload, 1) := by decide +kernel
theorem dX12_fits_24 : decode cX12_fits 24 = .ok (.iload_n 3, 1) := by decide +kernel
theorem dX12_fits_25 : decode cX12_fits 25 = .ok (.iload 4, 2) := by decide +kernel
theorem dX12_fits_27 : decode cX12_fits 27 = .ok (.iload_n 2, 1) := by decide +kernel
theorem dX12_fits_28 : decode cX12_fits 28 = .ok (.ifCond .ne 10, 3) := by decide +kernel
theorem dX12_fits_31 : decode cX12_fits 31 = .ok (.aload_n 0, 1) := by decide +kernel
theorem dX12_fits_32 : decode cX12_fits 32 = .ok (.getfield 381, 3) := by decide +kernel
theorem dX12_fits_35 : decode cX12_fits 35 = .ok (.goto 11, 3) := by decide +kernel
theorem dX12_fits_38 : decode cX12_fits 38 = .ok (.aload_n 0, 1) := by decide +kernel
theorem dX12_fits_39 : decode cX12_fits 39 = .ok (.getfield 97, 3) := by decide +kernel
theorem dX12_fits_42 : decode cX12_fits 42 = .ok (.iload_n 2, 1) := by decide +kernel
theorem dX12_fits_43 : decode cX12_fits 43 = .ok (.iconst 1, 1) := by decide +kernel
theorem dX12_fits_44 : decode cX12_fits 44 = .ok (.isub, 1) := by decide +kernel
theorem dX12_fits_45 : decode cX12_fits 45 = .ok (.iaload, 1) := by decide +kernel
theorem dX12_fits_46 : decode cX12_fits 46 = .ok (.aload_n 0, 1) := by decide +kernel
theorem dX12_fits_47 : decode cX12_fits 47 = .ok (.iload_n 1, 1) := by decide +kernel
theorem dX12_fits_48 : decode cX12_fits 48 = .ok (.iload_n 3, 1) := by decide +kernel
theorem dX12_fits_49 : decode cX12_fits 49 = .ok (.invokevirtual 340, 3) := by decide +kernel
theorem dX12_fits_52 : decode cX12_fits 52 = .ok (.invokevirtual 360, 3) := by decide +kernel
theorem dX12_fits_55 : decode cX12_fits 55 = .ok (.invokevirtual 384, 3) := by decide +kernel
theorem dX12_fits_58 : decode cX12_fits 58 = .ok (.ifCond .eq 7, 3) := by decide +kernel
theorem dX12_fits_61 : decode cX12_fits 61 = .ok (.iconst 1, 1) := by decide +kernel
theorem dX12_fits_62 : decode cX12_fits 62 = .ok (.goto 4, 3) := by decide +kernel
theorem dX12_fits_65 : decode cX12_fits 65 = .ok (.iconst 0, 1) := by decide +kernel
theorem dX12_fits_66 : decode cX12_fits 66 = .ok (.ireturn, 1) := by decide +kernel
theorem dX12_read_0 : decode cX12_read 0 = .ok (.aload_n 0, 1) := by decide +kernel
theorem dX12_read_1 : decode cX12_read 1 = .ok (.iload_n 1, 1) := by decide +kernel
theorem dX12_read_2 : decode cX12_read 2 = .ok (.invokevirtual 322, 3) := by decide +kernel
theorem dX12_read_5 : decode cX12_read 5 = .ok (.ifCond .eq 40, 3) := by decide +kernel
theorem dX12_read_8 : decode cX12_read 8 = .ok (.iload_n 2, 1) := by decide +kernel
theorem dX12_read_9 : decode cX12_read 9 = .ok (.i2l, 1) := by decide +kernel
theorem dX12_read_10 : decode cX12_read 10 = .ok (.lconst 1, 1) := by decide +kernel
theorem dX12_read_11 : decode cX12_read 11 = .ok (.ldc2_w 387, 3) := by decide +kernel
theorem dX12_read_14 : decode cX12_read 14 = .ok (.invokestatic 147, 3) := by decide +kernel
theorem dX12_read_17 : decode cX12_read 17 = .ok (.ifCond .eq 28, 3) := by decide +kernel
theorem dX12_read_20 : decode cX12_read 20 = .ok (.iload_n 3, 1) := by decide +kernel
theorem dX12_read_21 : decode cX12_read 21 = .ok (.i2l, 1) := by decide +kernel
theorem dX12_read_22 : decode cX12_read 22 = .ok (.ldc2_w 389, 3) := by decide +kernel
theorem dX12_read_25 : decode cX12_read 25 = .ok (.iload_n 2, 1) := by decide +kernel
theorem dX12_read_26 : decode cX12_read 26 = .ok (.iconst 1, 1) := by decide +kernel
theorem dX12_read_27 : decode cX12_read 27 = .ok (.isub, 1) := by decide +kernel
theorem dX12_read_28 : decode cX12_read 28 = .ok (.i2l, 1) := by decide +kernel
theorem dX12_read_29 : decode cX12_read 29 = .ok (.invokestatic 147, 3) := by decide +kernel
theorem dX12_read_32 : decode cX12_read 32 = .ok (.ifCond .eq 13, 3) := by decide +kernel
theorem dX12_read_35 : decode cX12_read 35 = .ok (.iconst 2, 1) := by decide +kernel
theorem dX12_read_36 : decode cX12_read 36 = .ok (.iload_n 2, 1) := by decide +kernel
theorem dX12_read_37 : decode cX12_read 37 = .ok (.imul, 1) := by decide +kernel
theorem dX12_read_38 : decode cX12_read 38 = .ok (.aload_n 0, 1) := by decide +kernel
theorem dX12_read_39 : decode cX12_read 39 = .ok (.getfield 161, 3) := by decide +kernel
theorem dX12_read_42 : decode cX12_read 42 = .ok (.if_icmp .le 7, 3) := by decide +kernel
theorem dX12_read_45 : decode cX12_read 45 = .ok (.ldc2_w 389, 3) := by decide +kernel
theorem dX12_read_48 : decode cX12_read 48 = .ok (.lreturn, 1) := by decide +kernel
theorem dX12_read_49 : decode cX12_read 49 = .ok (.aload_n 0, 1) := by decide +kernel
theorem dX12_read_50 : decode cX12_read 50 = .ok (.iconst 0, 1) := by decide +kernel
theorem dX12_read_51 : decode cX12_read 51 = .ok (.putfield 161, 3) := by decide +kernel
theorem dX12_read_54 : decode cX12_read 54 = .ok (.iconst 0, 1) := by decide +kernel
theorem dX12_read_55 : decode cX12_read 55 = .ok (.istore 4, 2) := by decide +kernel
theorem dX12_read_57 : decode cX12_read 57 = .ok (.iload 4, 2) := by decide +kernel
theorem dX12_read_59 : decode cX12_read 59 = .ok (.iload_n 2, 1) := by decide +kernel
theorem dX12_read_60 : decode cX12_read 60 = .ok (.if_icmp .ge 41, 3) := by decide +kernel
theorem dX12_read_63 : decode cX12_read 63 = .ok (.aload_n 0, 1) := by decide +kernel
theorem dX12_read_64 : decode cX12_read 64 = .ok (.getfield 97, 3) := by decide +kernel
theorem dX12_read_67 : decode cX12_read 67 = .ok (.iload 4, 2) := by decide +kernel
theorem dX12_read_69 : decode cX12_read 69 = .ok (.aload_n 0, 1) := by decide +kernel
theorem dX12_read_70 : decode cX12_read 70 = .ok (.iconst 2, 1) := by decide +kernel
theorem dX12_read_71 : decode cX12_read 71 = .ok (.iload 4, 2) := by decide +kernel
theorem dX12_read_73 : decode cX12_read 73 = .ok (.imul, 1) := by decide +kernel
theorem dX12_read_74 : decode cX12_read 74 = .ok (.invokevirtual 327, 3) := by decide +kernel
theorem dX12_read_77 : decode cX12_read 77 = .ok (.iastore, 1) := by decide +kernel
theorem dX12_read_78 : decode cX12_read 78 = .ok (.aload_n 0, 1) := by decide +kernel
theorem dX12_read_79 : decode cX12_read 79 = .ok (.getfield 100, 3) := by decide +kernel
theorem dX12_read_82 : decode cX12_read 82 = .ok (.iload 4, 2) := by decide +kernel
theorem dX12_read_84 : decode cX12_read 84 = .ok (.aload_n 0, 1) := by decide +kernel
theorem dX12_read_85 : decode cX12_read 85 = .ok (.iconst 2, 1) := by decide +kernel
theorem dX12_read_86 : decode cX12_read 86 = .ok (.iload 4, 2) := by decide +kernel
theorem dX12_read_88 : decode cX12_read 88 = .ok (.imul, 1) := by decide +kernel
theorem dX12_read_89 : decode cX12_read 89 = .ok (.iconst 1, 1) := by decide +kernel
theorem dX12_read_90 : decode cX12_read 90 = .ok (.iadd, 1) := by decide +kernel
theorem dX12_read_91 : decode cX12_read 91 = .ok (.invokevirtual 327, 3) := by decide +kernel
theorem dX12_read_94 : decode cX12_read 94 = .ok (.iastore, 1) := by decide +kernel
theorem dX12_read_95 : decode cX12_read 95 = .ok (.iinc 4 1, 3) := by decide +kernel
theorem dX12_read_98 : decode cX12_read 98 = .ok (.goto (-41), 3) := by decide +kernel
theorem dX12_read_101 : decode cX12_read 101 = .ok (.iconst 0, 1) := by decide +kernel
theorem dX12_read_102 : decode cX12_read 102 = .ok (.istore 4, 2) := by decide +kernel
theorem dX12_read_104 : decode cX12_read 104 = .ok (.iload 4, 2) := by decide +kernel
theorem dX12_read_106 : decode cX12_read 106 = .ok (.iload_n 2, 1) := by decide +kernel
theorem dX12_read_107 : decode cX12_read 107 = .ok (.if_icmp .ge 49, 3) := by decide +kernel
theorem dX12_read_110 : decode cX12_read 110 = .ok (.aload_n 0, 1) := by decide +kernel
theorem dX12_read_111 : decode cX12_read 111 = .ok (.getfield 97, 3) := by decide +kernel
theorem dX12_read_114 : decode cX12_read 114 = .ok (.iload 4, 2) := by decide +kernel
theorem dX12_read_116 : decode cX12_read 116 = .ok (.iaload, 1) := by decide +kernel
theorem dX12_read_117 : decode cX12_read 117 = .ok (.i2l, 1) := by decide +kernel
theorem dX12_read_118 : decode cX12_read 118 = .ok (.lconst 1, 1) := by decide +kernel
theorem dX12_read_119 : decode cX12_read 119 = .ok (.ldc2_w 372, 3) := by decide +kernel
theorem dX12_read_122 : decode cX12_read 122 = .ok (.invokestatic 147, 3) := by decide +kernel
theorem dX12_read_125 : decode cX12_read 125 = .ok (.ifCond .eq 21, 3) := by decide +kernel
theorem dX12_read_128 : decode cX12_read 128 = .ok (.aload_n 0, 1) := by decide +kernel
theorem dX12_read_129 : decode cX12_read 129 = .ok (.getfield 100, 3) := by decide +kernel
theorem dX12_read_132 : decode cX12_read 132 = .ok (.iload 4, 2) := by decide +kernel
theorem dX12_read_134 : decode cX12_read 134 = .ok (.iaload, 1) := by decide +kernel
theorem dX12_read_135 : decode cX12_read 135 = .ok (.i2l, 1) := by decide +kernel
theorem dX12_read_136 : decode cX12_read 136 = .ok (.lconst 0, 1) := by decide +kernel
theorem dX12_read_137 : decode cX12_read 137 = .ok (.ldc2_w 391, 3) := by decide +kernel
theorem dX12_read_140 : decode cX12_read 140 = .ok (.invokestatic 147, 3) := by decide +kernel
theorem dX12_read_143 : decode cX12_read 143 = .ok (.ifCond .ne 7, 3) := by decide +kernel
theorem dX12_read_146 : decode cX12_read 146 = .ok (.ldc2_w 393, 3) := by decide +kernel
theorem dX12_read_149 : decode cX12_read 149 = .ok (.lreturn, 1) := by decide +kernel
theorem dX12_read_150 : decode cX12_read 150 = .ok (.iinc 4 1, 3) := by decide +kernel
theorem dX12_read_153 : decode cX12_read 153 = .ok (.goto (-49), 3) := by decide +kernel
theorem dX12_read_156 : decode cX12_read 156 = .ok (.aload_n 0, 1) := by decide +kernel
theorem dX12_read_157 : decode cX12_read 157 = .ok (.iload_n 1, 1) := by decide +kernel
theorem dX12_read_158 : decode cX12_read 158 = .ok (.invokevirtual 395, 3) := by decide +kernel
theorem dX12_read_161 : decode cX12_read 161 = .ok (.iconst 0, 1) := by decide +kernel
theorem dX12_read_162 : decode cX12_read 162 = .ok (.istore 4, 2) := by decide +kernel
theorem dX12_read_164 : decode cX12_read 164 = .ok (.iload 4, 2) := by decide +kernel
theorem dX12_read_166 : decode cX12_read 166 = .ok (.bipush 126, 2) := by decide +kernel
theorem dX12_read_168 : decode cX12_read 168 = .ok (.if_icmp .ge 25, 3) := by decide +kernel
theorem dX12_read_171 : decode cX12_read 171 = .ok (.aload_n 0, 1) := by decide +kernel
theorem dX12_read_172 : decode cX12_read 172 = .ok (.getfield 103, 3) := by decide +kernel
theorem dX12_read_175 : decode cX12_read 175 = .ok (.iload 4, 2) := by decide +kernel
theorem dX12_read_177 : decode cX12_read 177 = .ok (.lconst 0, 1) := by decide +kernel
theorem dX12_read_178 : decode cX12_read 178 = .ok (.lastore, 1) := by decide +kernel
theorem dX12_read_179 : decode cX12_read 179 = .ok (.aload_n 0, 1) := by decide +kernel
theorem dX12_read_180 : decode cX12_read 180 = .ok (.getfield 107, 3) := by decide +kernel
theorem dX12_read_183 : decode cX12_read 183 = .ok (.iload 4, 2) := by decide +kernel
theorem dX12_read_185 : decode cX12_read 185 = .ok (.lconst 0, 1) := by decide +kernel
theorem dX12_read_186 : decode cX12_read 186 = .ok (.lastore, 1) := by decide +kernel
theorem dX12_read_187 : decode cX12_read 187 = .ok (.iinc 4 1, 3) := by decide +kernel
theorem dX12_read_190 : decode cX12_read 190 = .ok (.goto (-26), 3) := by decide +kernel
theorem dX12_read_193 : decode cX12_read 193 = .ok (.aload_n 0, 1) := by decide +kernel
theorem dX12_read_194 : decode cX12_read 194 = .ok (.getfield 103, 3) := by decide +kernel
theorem dX12_read_197 : decode cX12_read 197 = .ok (.aload_n 0, 1) := by decide +kernel
theorem dX12_read_198 : decode cX12_read 198 = .ok (.getfield 378, 3) := by decide +kernel
theorem dX12_read_201 : decode cX12_read 201 = .ok (.lconst 1, 1) := by decide +kernel
theorem dX12_read_202 : decode cX12_read 202 = .ok (.lastore, 1) := by decide +kernel
theorem dX12_read_203 : decode cX12_read 203 = .ok (.iconst 0, 1) := by decide +kernel
theorem dX12_read_204 : decode cX12_read 204 = .ok (.istore 4, 2) := by decide +kernel
theorem dX12_read_206 : decode cX12_read 206 = .ok (.iload 4, 2) := by decide +kernel
theorem dX12_read_208 : decode cX12_read 208 = .ok (.iload_n 2, 1) := by decide +kernel
theorem dX12_read_209 : decode cX12_read 209 = .ok (.if_icmp .ge 107, 3) := by decide +kernel
theorem dX12_read_212 : decode cX12_read 212 = .ok (.iconst 0, 1) := by decide +kernel
theorem dX12_read_213 : decode cX12_read 213 = .ok (.istore 5, 2) := by decide +kernel
theorem dX12_read_215 : decode cX12_read 215 = .ok (.iload 5, 2) := by decide +kernel
theorem dX12_read_217 : decode cX12_read 217 = .ok (.bipush 8, 2) := by decide +kernel
theorem dX12_read_219 : decode cX12_read 219 = .ok (.if_icmp .gt 91, 3) := by decide +kernel
theorem dX12_read_222 : decode cX12_read 222 = .ok (.iconst 0, 1) := by decide +kernel
theorem dX12_read_223 : decode cX12_read 223 = .ok (.istore 6, 2) := by decide +kernel
theorem dX12_read_225 : decode cX12_read 225 = .ok (.iload 6, 2) := by decide +kernel
theorem dX12_read_227 : decode cX12_read 227 = .ok (.aload_n 0, 1) := by decide +kernel
theorem dX12_read_228 : decode cX12_read 228 = .ok (.getfield 144, 3) := by decide +kernel
theorem dX12_read_231 : decode cX12_read 231 = .ok (.if_icmp .ge 73, 3) := by decide +kernel
theorem dX12_read_234 : decode cX12_read 234 = .ok (.aload_n 0, 1) := by decide +kernel
theorem dX12_read_235 : decode cX12_read 235 = .ok (.getfield 103, 3) := by decide +kernel
theorem dX12_read_238 : decode cX12_read 238 = .ok (.bipush 9, 2) := by decide +kernel
theorem dX12_read_240 : decode cX12_read 240 = .ok (.iload 4, 2) := by decide +kernel
theorem dX12_read_242 : decode cX12_read 242 = .ok (.imul, 1) := by decide +kernel
theorem dX12_read_243 : decode cX12_read 243 = .ok (.iload 5, 2) := by decide +kernel
theorem dX12_read_245 : decode cX12_read 245 = .ok (.iadd, 1) := by decide +kernel
theorem dX12_read_246 : decode cX12_read 246 = .ok (.laload, 1) := by decide +kernel
theorem dX12_read_247 : decode cX12_read 247 = .ok (.lconst 0, 1) := by decide +kernel
theorem dX12_read_248 : decode cX12_read 248 = .ok (.lcmp, 1) := by decide +kernel
theorem dX12_read_249 : decode cX12_read 249 = .ok (.ifCond .le 55, 3) := by decide +kernel
theorem dX12_read_252 : decode cX12_read 252 = .ok (.aload_n 0, 1) := by decide +kernel
theorem dX12_read_253 : decode cX12_read 253 = .ok (.iload_n 1, 1) := by decide +kernel
theorem dX12_read_254 : decode cX12_read 254 = .ok (.iload 4, 2) := by decide +kernel
theorem dX12_read_256 : decode cX12_read 256 = .ok (.iload 6, 2) := by decide +kernel
theorem dX12_read_258 : decode cX12_read 258 = .ok (.iload 5, 2) := by decide +kernel
theorem dX12_read_260 : decode cX12_read 260 = .ok (.invokevirtual 398, 3) := by decide +kernel
theorem dX12_read_263 : decode cX12_read 263 = .ok (.ifCond .eq 35, 3) := by decide +kernel
theorem dX12_read_266 : decode cX12_read 266 = .ok (.aload_n 0, 1) := by decide +kernel
theorem dX12_read_267 : decode cX12_read 267 = .ok (.getfield 103, 3) := by decide +kernel
theorem dX12_read_270 : decode cX12_read 270 = .ok (.bipush 9, 2) := by decide +kernel
theorem dX12_read_272 : decode cX12_read 272 = .ok (.iload 4, 2) := by decide +kernel
theorem dX12_read_274 : decode cX12_read 274 = .ok (.imul, 1) := by decide +kernel
theorem dX12_read_275 : decode cX12_read 275 = .ok (.bipush 9, 2) := by decide +kernel
theorem dX12_read_277 : decode cX12_read 277 = .ok (.iadd, 1) := by decide +kernel
theorem dX12_read_278 : decode cX12_read 278 = .ok (.iload 6, 2) := by decide +kernel
theorem dX12_read_280 : decode cX12_read 280 = .ok (.iadd, 1) := by decide +kernel
theorem dX12_read_281 : decode cX12_read 281 = .ok (.dup2, 1) := by decide +kernel
theorem dX12_read_282 : decode cX12_read 282 = .ok (.laload, 1) := by decide +kernel
theorem dX12_read_283 : decode cX12_read 283 = .ok (.aload_n 0, 1) := by decide +kernel
theorem dX12_read_284 : decode cX12_read 284 = .ok (.getfield 103, 3) := by decide +kernel
theorem dX12_read_287 : decode cX12_read 287 = .ok (.bipush 9, 2) := by decide +kernel
theorem dX12_read_289 : decode cX12_read 289 = .ok (.iload 4, 2) := by decide +kernel
theorem dX12_read_291 : decode cX12_read 291 = .ok (.imul, 1) := by decide +kernel
theorem dX12_read_292 : decode cX12_read 292 = .ok (.iload 5, 2) := by decide +kernel
theorem dX12_read_294 : decode cX12_read 294 = .ok (.iadd, 1) := by decide +kernel
theorem dX12_read_295 : decode cX12_read 295 = .ok (.laload, 1) := by decide +kernel
theorem dX12_read_296 : decode cX12_read 296 = .ok (.ladd, 1) := by decide +kernel
theorem dX12_read_297 : decode cX12_read 297 = .ok (.lastore, 1) := by decide +kernel
theorem dX12_read_298 : decode cX12_read 298 = .ok (.iinc 6 1, 3) := by decide +kernel
theorem dX12_read_301 : decode cX12_read 301 = .ok (.goto (-76), 3) := by decide +kernel
theorem dX12_read_304 : decode cX12_read 304 = .ok (.iinc 5 1, 3) := by decide +kernel
theorem dX12_read_307 : decode cX12_read 307 = .ok (.goto (-92), 3) := by decide +kernel
theorem dX12_read_310 : decode cX12_read 310 = .ok (.iinc 4 1, 3) := by decide +kernel
theorem dX12_read_313 : decode cX12_read 313 = .ok (.goto (-107), 3) := by decide +kernel
theorem dX12_read_316 : decode cX12_read 316 = .ok (.iconst 0, 1) := by decide +kernel
theorem dX12_read_317 : decode cX12_read 317 = .ok (.istore 4, 2) := by decide +kernel
theorem dX12_read_319 : decode cX12_read 319 = .ok (.iload 4, 2) := by decide +kernel
theorem dX12_read_321 : decode cX12_read 321 = .ok (.bipush 9, 2) := by decide +kernel
theorem dX12_read_323 : decode cX12_read 323 = .ok (.if_icmp .ge 22, 3) := by decide +kernel
theorem dX12_read_326 : decode cX12_read 326 = .ok (.aload_n 0, 1) := by decide +kernel
theorem dX12_read_327 : decode cX12_read 327 = .ok (.getfield 107, 3) := by decide +kernel
theorem dX12_read_330 : decode cX12_read 330 = .ok (.bipush 9, 2) := by decide +kernel
theorem dX12_read_332 : decode cX12_read 332 = .ok (.iload_n 2, 1) := by decide +kernel
theorem dX12_read_333 : decode cX12_read 333 = .ok (.imul, 1) := by decide +kernel
theorem dX12_read_334 : decode cX12_read 334 = .ok (.iload 4, 2) := by decide +kernel
theorem dX12_read_336 : decode cX12_read 336 = .ok (.iadd, 1) := by decide +kernel
theorem dX12_read_337 : decode cX12_read 337 = .ok (.lconst 1, 1) := by decide +kernel
theorem dX12_read_338 : decode cX12_read 338 = .ok (.lastore, 1) := by decide +kernel
theorem dX12_read_339 : decode cX12_read 339 = .ok (.iinc 4 1, 3) := by decide +kernel
theorem dX12_read_342 : decode cX12_read 342 = .ok (.goto (-23), 3) := by decide +kernel
theorem dX12_read_345 : decode cX12_read 345 = .ok (.iload_n 2, 1) := by decide +kernel
theorem dX12_read_346 : decode cX12_read 346 = .ok (.iconst 1, 1) := by decide +kernel
theorem dX12_read_347 : decode cX12_read 347 = .ok (.isub, 1) := by decide +kernel
theorem dX12_read_348 : decode cX12_read 348 = .ok (.istore 4, 2) := by decide +kernel
theorem dX12_read_350 : decode cX12_read 350 = .ok (.iload 4, 2) := by decide +kernel
theorem dX12_read_352 : decode cX12_read 352 = .ok (.ifCond .lt 89, 3) := by decide +kernel
theorem dX12_read_355 : decode cX12_read 355 = .ok (.iconst 0, 1) := by decide +kernel
theorem dX12_read_356 : decode cX12_read 356 = .ok (.istore 5, 2) := by decide +kernel
theorem dX12_read_358 : decode cX12_read 358 = .ok (.iload 5, 2) := by decide +kernel
theorem dX12_read_360 : decode cX12_read 360 = .ok (.bipush 8, 2) := by decide +kernel
theorem dX12_read_362 : decode cX12_read 362 = .ok (.if_icmp .gt 73, 3) := by decide +kernel
theorem dX12_read_365 : decode cX12_read 365 = .ok (.iconst 0, 1) := by decide +kernel
theorem dX12_read_366 : decode cX12_read 366 = .ok (.istore 6, 2) := by decide +kernel
theorem dX12_read_368 : decode cX12_read 368 = .ok (.iload 6, 2) := by decide +kernel
theorem dX12_read_370 : decode cX12_read 370 = .ok (.aload_n 0, 1) := by decide +kernel
theorem dX12_read_371 : decode cX12_read 371 = .ok (.getfield 144, 3) := by decide +kernel
theorem dX12_read_374 : decode cX12_read 374 = .ok (.if_icmp .ge 55, 3) := by decide +kernel
theorem dX12_read_377 : decode cX12_read 377 = .ok (.aload_n 0, 1) := by decide +kernel
theorem dX12_read_378 : decode cX12_read 378 = .ok (.iload_n 1, 1) := by decide +kernel
theorem dX12_read_379 : decode cX12_read 379 = .ok (.iload 4, 2) := by decide +kernel
theorem dX12_read_381 : decode cX12_read 381 = .ok (.iload 6, 2) := by decide +kernel
theorem dX12_read_383 : decode cX12_read 383 = .ok (.iload 5, 2) := by decide +kernel
theorem dX12_read_385 : decode cX12_read 385 = .ok (.invokevirtual 398, 3) := by decide +kernel
theorem dX12_read_388 : decode cX12_read 388 = .ok (.ifCond .eq 35, 3) := by decide +kernel
theorem dX12_read_391 : decode cX12_read 391 = .ok (.aload_n 0, 1) := by decide +kernel
theorem dX12_read_392 : decode cX12_read 392 = .ok (.getfield 107, 3) := by decide +kernel
theorem dX12_read_395 : decode cX12_read 395 = .ok (.bipush 9, 2) := by decide +kernel
theorem dX12_read_397 : decode cX12_read 397 = .ok (.iload 4, 2) := by decide +kernel
theorem dX12_read_399 : decode cX12_read 399 = .ok (.imul, 1) := by decide +kernel
theorem dX12_read_400 : decode cX12_read 400 = .ok (.iload 5, 2) := by decide +kernel
theorem dX12_read_402 : decode cX12_read 402 = .ok (.iadd, 1) := by decide +kernel
theorem dX12_read_403 : decode cX12_read 403 = .ok (.dup2, 1) := by decide +kernel
theorem dX12_read_404 : decode cX12_read 404 = .ok (.laload, 1) := by decide +kernel
theorem dX12_read_405 : decode cX12_read 405 = .ok (.aload_n 0, 1) := by decide +kernel
theorem dX12_read_406 : decode cX12_read 406 = .ok (.getfield 107, 3) := by decide +kernel
theorem dX12_read_409 : decode cX12_read 409 = .ok (.bipush 9, 2) := by decide +kernel
theorem dX12_read_411 : decode cX12_read 411 = .ok (.iload 4, 2) := by decide +kernel
theorem dX12_read_413 : decode cX12_read 413 = .ok (.imul, 1) := by decide +kernel
theorem dX12_read_414 : decode cX12_read 414 = .ok (.bipush 9, 2) := by decide +kernel
theorem dX12_read_416 : decode cX12_read 416 = .ok (.iadd, 1) := by decide +kernel
theorem dX12_read_417 : decode cX12_read 417 = .ok (.iload 6, 2) := by decide +kernel
theorem dX12_read_419 : decode cX12_read 419 = .ok (.iadd, 1) := by decide +kernel
theorem dX12_read_420 : decode cX12_read 420 = .ok (.laload, 1) := by decide +kernel
theorem dX12_read_421 : decode cX12_read 421 = .ok (.ladd, 1) := by decide +kernel
theorem dX12_read_422 : decode cX12_read 422 = .ok (.lastore, 1) := by decide +kernel
theorem dX12_read_423 : decode cX12_read 423 = .ok (.iinc 6 1, 3) := by decide +kernel
theorem dX12_read_426 : decode cX12_read 426 = .ok (.goto (-58), 3) := by decide +kernel
theorem dX12_read_429 : decode cX12_read 429 = .ok (.iinc 5 1, 3) := by decide +kernel
theorem dX12_read_432 : decode cX12_read 432 = .ok (.goto (-74), 3) := by decide +kernel
theorem dX12_read_435 : decode cX12_read 435 = .ok (.iinc 4 (-1), 3) := by decide +kernel
theorem dX12_read_438 : decode cX12_read 438 = .ok (.goto (-88), 3) := by decide +kernel
theorem dX12_read_441 : decode cX12_read 441 = .ok (.iload_n 3, 1) := by decide +kernel
theorem dX12_read_442 : decode cX12_read 442 = .ok (.iconst (-1), 1) := by decide +kernel
theorem dX12_read_443 : decode cX12_read 443 = .ok (.if_icmp .ne 13, 3) := by decide +kernel
theorem dX12_read_446 : decode cX12_read 446 = .ok (.aload_n 0, 1) := by decide +kernel
theorem dX12_read_447 : decode cX12_read 447 = .ok (.getfield 107, 3) := by decide +kernel
theorem dX12_read_450 : decode cX12_read 450 = .ok (.aload_n 0, 1) := by decide +kernel
theorem dX12_read_451 : decode cX12_read 451 = .ok (.getfield 378, 3) := by decide +kernel
theorem dX12_read_454 : decode cX12_read 454 = .ok (.laload, 1) := by decide +kernel
theorem dX12_read_455 : decode cX12_read 455 = .ok (.lreturn, 1) := by decide +kernel
theorem dX12_read_456 : decode cX12_read 456 = .ok (.lconst 0, 1) := by decide +kernel
theorem dX12_read_457 : decode cX12_read 457 = .ok (.lstore 4, 2) := by decide +kernel
theorem dX12_read_459 : decode cX12_read 459 = .ok (.iconst 0, 1) := by decide +kernel
theorem dX12_read_460 : decode cX12_read 460 = .ok (.istore 6, 2) := by decide +kernel
theorem dX12_read_462 : decode cX12_read 462 = .ok (.iload 6, 2) := by decide +kernel
theorem dX12_read_464 : decode cX12_read 464 = .ok (.aload_n 0, 1) := by decide +kernel
theorem dX12_read_465 : decode cX12_read 465 = .ok (.getfield 144, 3) := by decide +kernel
theorem dX12_read_468 : decode cX12_read 468 = .ok (.if_icmp .ge 58, 3) := by decide +kernel
theorem dX12_read_471 : decode cX12_read 471 = .ok (.aload_n 0, 1) := by decide +kernel
theorem dX12_read_472 : decode cX12_read 472 = .ok (.getfield 103, 3) := by decide +kernel
theorem dX12_read_475 : decode cX12_read 475 = .ok (.bipush 9, 2) := by decide +kernel
theorem dX12_read_477 : decode cX12_read 477 = .ok (.iload_n 3, 1) := by decide +kernel
theorem dX12_read_478 : decode cX12_read 478 = .ok (.imul, 1) := by decide +kernel
theorem dX12_read_479 : decode cX12_read 479 = .ok (.bipush 9, 2) := by decide +kernel
theorem dX12_read_481 : decode cX12_read 481 = .ok (.iadd, 1) := by decide +kernel
theorem dX12_read_482 : decode cX12_read 482 = .ok (.iload 6, 2) := by decide +kernel
theorem dX12_read_484 : decode cX12_read 484 = .ok (.iadd, 1) := by decide +kernel
theorem dX12_read_485 : decode cX12_read 485 = .ok (.laload, 1) := by decide +kernel
theorem dX12_read_486 : decode cX12_read 486 = .ok (.lconst 0, 1) := by decide +kernel
theorem dX12_read_487 : decode cX12_read 487 = .ok (.lcmp, 1) := by decide +kernel
theorem dX12_read_488 : decode cX12_read 488 = .ok (.ifCond .le 32, 3) := by decide +kernel
theorem dX12_read_491 : decode cX12_read 491 = .ok (.aload_n 0, 1) := by decide +kernel
theorem dX12_read_492 : decode cX12_read 492 = .ok (.getfield 107, 3) := by decide +kernel
theorem dX12_read_495 : decode cX12_read 495 = .ok (.bipush 9, 2) := by decide +kernel
theorem dX12_read_497 : decode cX12_read 497 = .ok (.iload_n 3, 1) := by decide +kernel
theorem dX12_read_498 : decode cX12_read 498 = .ok (.imul, 1) := by decide +kernel
theorem dX12_read_499 : decode cX12_read 499 = .ok (.bipush 9, 2) := by decide +kernel
theorem dX12_read_501 : decode cX12_read 501 = .ok (.iadd, 1) := by decide +kernel
theorem dX12_read_502 : decode cX12_read 502 = .ok (.iload 6, 2) := by decide +kernel
theorem dX12_read_504 : decode cX12_read 504 = .ok (.iadd, 1) := by decide +kernel
theorem dX12_read_505 : decode cX12_read 505 = .ok (.laload, 1) := by decide +kernel
theorem dX12_read_506 : decode cX12_read 506 = .ok (.lconst 0, 1) := by decide +kernel
theorem dX12_read_507 : decode cX12_read 507 = .ok (.lcmp, 1) := by decide +kernel
theorem dX12_read_508 : decode cX12_read 508 = .ok (.ifCond .le 12, 3) := by decide +kernel
theorem dX12_read_511 : decode cX12_read 511 = .ok (.lload 4, 2) := by decide +kernel
theorem dX12_read_513 : decode cX12_read 513 = .ok (.lconst 1, 1) := by decide +kernel
theorem dX12_read_514 : decode cX12_read 514 = .ok (.iload 6, 2) := by decide +kernel
theorem dX12_read_516 : decode cX12_read 516 = .ok (.lshl, 1) := by decide +kernel
theorem dX12_read_517 : decode cX12_read 517 = .ok (.lor, 1) := by decide +kernel
theorem dX12_read_518 : decode cX12_read 518 = .ok (.lstore 4, 2) := by decide +kernel
theorem dX12_read_520 : decode cX12_read 520 = .ok (.iinc 6 1, 3) := by decide +kernel
theorem dX12_read_523 : decode cX12_read 523 = .ok (.goto (-61), 3) := by decide +kernel
theorem dX12_read_526 : decode cX12_read 526 = .ok (.lload 4, 2) := by decide +kernel
theorem dX12_read_528 : decode cX12_read 528 = .ok (.lreturn, 1) := by decide +kernel
theorem dX12_isMissed_0 : decode cX12_isMissed 0 = .ok (.aload_n 0, 1) := by decide +kernel
theorem dX12_isMissed_1 : decode cX12_isMissed 1 = .ok (.getfield 378, 3) := by decide +kernel
theorem dX12_isMissed_4 : decode cX12_isMissed 4 = .ok (.istore 7, 2) := by decide +kernel
theorem dX12_isMissed_6 : decode cX12_isMissed 6 = .ok (.aload_n 0, 1) := by decide +kernel
theorem dX12_isMissed_7 : decode cX12_isMissed 7 = .ok (.getfield 381, 3) := by decide +kernel
theorem dX12_isMissed_10 : decode cX12_isMissed 10 = .ok (.istore 8, 2) := by decide +kernel
theorem dX12_isMissed_12 : decode cX12_isMissed 12 = .ok (.iconst 0, 1) := by decide +kernel
theorem dX12_isMissed_13 : decode cX12_isMissed 13 = .ok (.istore 9, 2) := by decide +kernel
theorem dX12_isMissed_15 : decode cX12_isMissed 15 = .ok (.iload 9, 2) := by decide +kernel
theorem dX12_isMissed_17 : decode cX12_isMissed 17 = .ok (.iload_n 3, 1) := by decide +kernel
theorem dX12_isMissed_18 : decode cX12_isMissed 18 = .ok (.if_icmp .gt 130, 3) := by decide +kernel
theorem dX12_isMissed_21 : decode cX12_isMissed 21 = .ok (.iload 9, 2) := by decide +kernel
theorem dX12_isMissed_23 : decode cX12_isMissed 23 = .ok (.iload 4, 2) := by decide +kernel
theorem dX12_isMissed_25 : decode cX12_isMissed 25 = .ok (.if_icmp .ge 13, 3) := by decide +kernel
theorem dX12_isMissed_28 : decode cX12_isMissed 28 = .ok (.aload_n 0, 1) := by decide +kernel
theorem dX12_isMissed_29 : decode cX12_isMissed 29 = .ok (.getfield 97, 3) := by decide +kernel
theorem dX12_isMissed_32 : decode cX12_isMissed 32 = .ok (.iload 9, 2) := by decide +kernel
theorem dX12_isMissed_34 : decode cX12_isMissed 34 = .ok (.iaload, 1) := by decide +kernel
theorem dX12_isMissed_35 : decode cX12_isMissed 35 = .ok (.goto 46, 3) := by decide +kernel
theorem dX12_isMissed_38 : decode cX12_isMissed 38 = .ok (.iload 9, 2) := by decide +kernel
theorem dX12_isMissed_40 : decode cX12_isMissed 40 = .ok (.iload 4, 2) := by decide +kernel
theorem dX12_isMissed_42 : decode cX12_isMissed 42 = .ok (.if_icmp .ne 8, 3) := by decide +kernel
theorem dX12_isMissed_45 : decode cX12_isMissed 45 = .ok (.iload 5, 2) := by decide +kernel
theorem dX12_isMissed_47 : decode cX12_isMissed 47 = .ok (.goto 34, 3) := by decide +kernel
theorem dX12_isMissed_50 : decode cX12_isMissed 50 = .ok (.iload 9, 2) := by decide +kernel
theorem dX12_isMissed_52 : decode cX12_isMissed 52 = .ok (.iload 4, 2) := by decide +kernel
theorem dX12_isMissed_54 : decode cX12_isMissed 54 = .ok (.iconst 1, 1) := by decide +kernel
theorem dX12_isMissed_55 : decode cX12_isMissed 55 = .ok (.iadd, 1) := by decide +kernel
theorem dX12_isMissed_56 : decode cX12_isMissed 56 = .ok (.if_icmp .ne 16, 3) := by decide +kernel
theorem dX12_isMissed_59 : decode cX12_isMissed 59 = .ok (.aload_n 0, 1) := by decide +kernel
theorem dX12_isMissed_60 : decode cX12_isMissed 60 = .ok (.getfield 97, 3) := by decide +kernel
theorem dX12_isMissed_63 : decode cX12_isMissed 63 = .ok (.iload 4, 2) := by decide +kernel
theorem dX12_isMissed_65 : decode cX12_isMissed 65 = .ok (.iaload, 1) := by decide +kernel
theorem dX12_isMissed_66 : decode cX12_isMissed 66 = .ok (.iload 5, 2) := by decide +kernel
theorem dX12_isMissed_68 : decode cX12_isMissed 68 = .ok (.isub, 1) := by decide +kernel
theorem dX12_isMissed_69 : decode cX12_isMissed 69 = .ok (.goto 12, 3) := by decide +kernel
theorem dX12_isMissed_72 : decode cX12_isMissed 72 = .ok (.aload_n 0, 1) := by decide +kernel
theorem dX12_isMissed_73 : decode cX12_isMissed 73 = .ok (.getfield 97, 3) := by decide +kernel
theorem dX12_isMissed_76 : decode cX12_isMissed 76 = .ok (.iload 9, 2) := by decide +kernel
theorem dX12_isMissed_78 : decode cX12_isMissed 78 = .ok (.iconst 1, 1) := by decide +kernel
theorem dX12_isMissed_79 : decode cX12_isMissed 79 = .ok (.isub, 1) := by decide +kernel
theorem dX12_isMissed_80 : decode cX12_isMissed 80 = .ok (.iaload, 1) := by decide +kernel
theorem dX12_isMissed_81 : decode cX12_isMissed 81 = .ok (.istore 10, 2) := by decide +kernel
theorem dX12_isMissed_83 : decode cX12_isMissed 83 = .ok (.iload 9, 2) := by decide +kernel
theorem dX12_isMissed_85 : decode cX12_isMissed 85 = .ok (.iload 4, 2) := by decide +kernel
theorem dX12_isMissed_87 : decode cX12_isMissed 87 = .ok (.if_icmp .ne 8, 3) := by decide +kernel
theorem dX12_isMissed_90 : decode cX12_isMissed 90 = .ok (.iload 6, 2) := by decide +kernel
theorem dX12_isMissed_92 : decode cX12_isMissed 92 = .ok (.goto 4, 3) := by decide +kernel
theorem dX12_isMissed_95 : decode cX12_isMissed 95 = .ok (.iload_n 2, 1) := by decide +kernel
theorem dX12_isMissed_96 : decode cX12_isMissed 96 = .ok (.istore 11, 2) := by decide +kernel
theorem dX12_isMissed_98 : decode cX12_isMissed 98 = .ok (.aload_n 0, 1) := by decide +kernel
theorem dX12_isMissed_99 : decode cX12_isMissed 99 = .ok (.aload_n 0, 1) := by decide +kernel
theorem dX12_isMissed_100 : decode cX12_isMissed 100 = .ok (.getfield 100, 3) := by decide +kernel
theorem dX12_isMissed_103 : decode cX12_isMissed 103 = .ok (.iload 9, 2) := by decide +kernel
theorem dX12_isMissed_105 : decode cX12_isMissed 105 = .ok (.iaload, 1) := by decide +kernel
theorem dX12_isMissed_106 : decode cX12_isMissed 106 = .ok (.aload_n 0, 1) := by decide +kernel
theorem dX12_isMissed_107 : decode cX12_isMissed 107 = .ok (.iload_n 1, 1) := by decide +kernel
theorem dX12_isMissed_108 : decode cX12_isMissed 108 = .ok (.iload 10, 2) := by decide +kernel
theorem dX12_isMissed_110 : decode cX12_isMissed 110 = .ok (.iload 11, 2) := by decide +kernel
theorem dX12_isMissed_112 : decode cX12_isMissed 112 = .ok (.iload 7, 2) := by decide +kernel
theorem dX12_isMissed_114 : decode cX12_isMissed 114 = .ok (.iload 8, 2) := by decide +kernel
theorem dX12_isMissed_116 : decode cX12_isMissed 116 = .ok (.aload_n 0, 1) := by decide +kernel
theorem dX12_isMissed_117 : decode cX12_isMissed 117 = .ok (.iload_n 1, 1) := by decide +kernel
theorem dX12_isMissed_118 : decode cX12_isMissed 118 = .ok (.iload 11, 2) := by decide +kernel
theorem dX12_isMissed_120 : decode cX12_isMissed 120 = .ok (.invokevirtual 340, 3) := by decide +kernel
theorem dX12_isMissed_123 : decode cX12_isMissed 123 = .ok (.invokevirtual 360, 3) := by decide +kernel
theorem dX12_isMissed_126 : decode cX12_isMissed 126 = .ok (.invokevirtual 384, 3) := by decide +kernel
theorem dX12_isMissed_129 : decode cX12_isMissed 129 = .ok (.ifCond .ne 5, 3) := by decide +kernel
theorem dX12_isMissed_132 : decode cX12_isMissed 132 = .ok (.iconst 0, 1) := by decide +kernel
theorem dX12_isMissed_133 : decode cX12_isMissed 133 = .ok (.ireturn, 1) := by decide +kernel
theorem dX12_isMissed_134 : decode cX12_isMissed 134 = .ok (.iload 11, 2) := by decide +kernel
theorem dX12_isMissed_136 : decode cX12_isMissed 136 = .ok (.istore 7, 2) := by decide +kernel
theorem dX12_isMissed_138 : decode cX12_isMissed 138 = .ok (.iload 10, 2) := by decide +kernel
theorem dX12_isMissed_140 : decode cX12_isMissed 140 = .ok (.istore 8, 2) := by decide +kernel
theorem dX12_isMissed_142 : decode cX12_isMissed 142 = .ok (.iinc 9 1, 3) := by decide +kernel
theorem dX12_isMissed_145 : decode cX12_isMissed 145 = .ok (.goto (-130), 3) := by decide +kernel
theorem dX12_isMissed_148 : decode cX12_isMissed 148 = .ok (.iconst 1, 1) := by decide +kernel
theorem dX12_isMissed_149 : decode cX12_isMissed 149 = .ok (.ireturn, 1) := by decide +kernel
theorem dX12_missed_0 : decode cX12_missed 0 = .ok (.aload_n 0, 1) := by decide +kernel
theorem dX12_missed_1 : decode cX12_missed 1 = .ok (.iload_n 1, 1) := by decide +kernel
theorem dX12_missed_2 : decode cX12_missed 2 = .ok (.invokevirtual 322, 3) := by decide +kernel
theorem dX12_missed_5 : decode cX12_missed 5 = .ok (.ifCond .eq 59, 3) := by decide +kernel
theorem dX12_missed_8 : decode cX12_missed 8 = .ok (.aload_n 0, 1) := by decide +kernel
theorem dX12_missed_9 : decode cX12_missed 9 = .ok (.iload_n 2, 1) := by decide +kernel
theorem dX12_missed_10 : decode cX12_missed 10 = .ok (.invokevirtual 322, 3) := by decide +kernel
theorem dX12_missed_13 : decode cX12_missed 13 = .ok (.ifCond .eq 51, 3) := by decide +kernel
theorem dX12_missed_16 : decode cX12_missed 16 = .ok (.aload_n 0, 1) := by decide +kernel
theorem dX12_missed_17 : decode cX12_missed 17 = .ok (.iload_n 1, 1) := by decide +kernel
theorem dX12_missed_18 : decode cX12_missed 18 = .ok (.iload_n 2, 1) := by decide +kernel
theorem dX12_missed_19 : decode cX12_missed 19 = .ok (.invokevirtual 350, 3) := by decide +kernel
theorem dX12_missed_22 : decode cX12_missed 22 = .ok (.ifCond .eq 42, 3) := by decide +kernel
theorem dX12_missed_25 : decode cX12_missed 25 = .ok (.iload_n 3, 1) := by decide +kernel
theorem dX12_missed_26 : decode cX12_missed 26 = .ok (.i2l, 1) := by decide +kernel
theorem dX12_missed_27 : decode cX12_missed 27 = .ok (.lconst 1, 1) := by decide +kernel
theorem dX12_missed_28 : decode cX12_missed 28 = .ok (.ldc2_w 402, 3) := by decide +kernel
theorem dX12_missed_31 : decode cX12_missed 31 = .ok (.invokestatic 147, 3) := by decide +kernel
theorem dX12_missed_34 : decode cX12_missed 34 = .ok (.ifCond .eq 30, 3) := by decide +kernel
theorem dX12_missed_37 : decode cX12_missed 37 = .ok (.iload 4, 2) := by decide +kernel
theorem dX12_missed_39 : decode cX12_missed 39 = .ok (.i2l, 1) := by decide +kernel
theorem dX12_missed_40 : decode cX12_missed 40 = .ok (.ldc2_w 389, 3) := by decide +kernel
theorem dX12_missed_43 : decode cX12_missed 43 = .ok (.ldc2_w 376, 3) := by decide +kernel
theorem dX12_missed_46 : decode cX12_missed 46 = .ok (.invokestatic 147, 3) := by decide +kernel
theorem dX12_missed_49 : decode cX12_missed 49 = .ok (.ifCond .eq 15, 3) := by decide +kernel
theorem dX12_missed_52 : decode cX12_missed 52 = .ok (.iconst 2, 1) := by decide +kernel
theorem dX12_missed_53 : decode cX12_missed 53 = .ok (.iload_n 3, 1) := by decide +kernel
theorem dX12_missed_54 : decode cX12_missed 54 = .ok (.imul, 1) := by decide +kernel
theorem dX12_missed_55 : decode cX12_missed 55 = .ok (.iconst 1, 1) := by decide +kernel
theorem dX12_missed_56 : decode cX12_missed 56 = .ok (.iadd, 1) := by decide +kernel
theorem dX12_missed_57 : decode cX12_missed 57 = .ok (.aload_n 0, 1) := by decide +kernel
theorem dX12_missed_58 : decode cX12_missed 58 = .ok (.getfield 161, 3) := by decide +kernel
theorem dX12_missed_61 : decode cX12_missed 61 = .ok (.if_icmp .le 5, 3) := by decide +kernel
theorem dX12_missed_64 : decode cX12_missed 64 = .ok (.iconst (-1), 1) := by decide +kernel
theorem dX12_missed_65 : decode cX12_missed 65 = .ok (.ireturn, 1) := by decide +kernel
theorem dX12_missed_66 : decode cX12_missed 66 = .ok (.aload_n 0, 1) := by decide +kernel
theorem dX12_missed_67 : decode cX12_missed 67 = .ok (.iconst 0, 1) := by decide +kernel
theorem dX12_missed_68 : decode cX12_missed 68 = .ok (.putfield 161, 3) := by decide +kernel
theorem dX12_missed_71 : decode cX12_missed 71 = .ok (.iconst 0, 1) := by decide +kernel
theorem dX12_missed_72 : decode cX12_missed 72 = .ok (.istore 5, 2) := by decide +kernel
theorem dX12_missed_74 : decode cX12_missed 74 = .ok (.iload 5, 2) := by decide +kernel
theorem dX12_missed_76 : decode cX12_missed 76 = .ok (.iload_n 3, 1) := by decide +kernel
theorem dX12_missed_77 : decode cX12_missed 77 = .ok (.if_icmp .ge 22, 3) := by decide +kernel
theorem dX12_missed_80 : decode cX12_missed 80 = .ok (.aload_n 0, 1) := by decide +kernel
theorem dX12_missed_81 : decode cX12_missed 81 = .ok (.getfield 97, 3) := by decide +kernel
theorem dX12_missed_84 : decode cX12_missed 84 = .ok (.iload 5, 2) := by decide +kernel
theorem dX12_missed_86 : decode cX12_missed 86 = .ok (.aload_n 0, 1) := by decide +kernel
theorem dX12_missed_87 : decode cX12_missed 87 = .ok (.iload 5, 2) := by decide +kernel
theorem dX12_missed_89 : decode cX12_missed 89 = .ok (.invokevirtual 327, 3) := by decide +kernel
theorem dX12_missed_92 : decode cX12_missed 92 = .ok (.iastore, 1) := by decide +kernel
theorem dX12_missed_93 : decode cX12_missed 93 = .ok (.iinc 5 1, 3) := by decide +kernel
theorem dX12_missed_96 : decode cX12_missed 96 = .ok (.goto (-22), 3) := by decide +kernel
theorem dX12_missed_99 : decode cX12_missed 99 = .ok (.iconst 0, 1) := by decide +kernel
theorem dX12_missed_100 : decode cX12_missed 100 = .ok (.istore 5, 2) := by decide +kernel
theorem dX12_missed_102 : decode cX12_missed 102 = .ok (.iload 5, 2) := by decide +kernel
theorem dX12_missed_104 : decode cX12_missed 104 = .ok (.iload_n 3, 1) := by decide +kernel
theorem dX12_missed_105 : decode cX12_missed 105 = .ok (.if_icmp .gt 24, 3) := by decide +kernel
theorem dX12_missed_108 : decode cX12_missed 108 = .ok (.aload_n 0, 1) := by decide +kernel
theorem dX12_missed_109 : decode cX12_missed 109 = .ok (.getfield 100, 3) := by decide +kernel
theorem dX12_missed_112 : decode cX12_missed 112 = .ok (.iload 5, 2) := by decide +kernel
theorem dX12_missed_114 : decode cX12_missed 114 = .ok (.aload_n 0, 1) := by decide +kernel
theorem dX12_missed_115 : decode cX12_missed 115 = .ok (.iload_n 3, 1) := by decide +kernel
theorem dX12_missed_116 : decode cX12_missed 116 = .ok (.iload 5, 2) := by decide +kernel
theorem dX12_missed_118 : decode cX12_missed 118 = .ok (.iadd, 1) := by decide +kernel
theorem dX12_missed_119 : decode cX12_missed 119 = .ok (.invokevirtual 327, 3) := by decide +kernel
theorem dX12_missed_122 : decode cX12_missed 122 = .ok (.iastore, 1) := by decide +kernel
theorem dX12_missed_123 : decode cX12_missed 123 = .ok (.iinc 5 1, 3) := by decide +kernel
theorem dX12_missed_126 : decode cX12_missed 126 = .ok (.goto (-24), 3) := by decide +kernel
theorem dX12_missed_129 : decode cX12_missed 129 = .ok (.iconst 0, 1) := by decide +kernel
theorem dX12_missed_130 : decode cX12_missed 130 = .ok (.istore 5, 2) := by decide +kernel
theorem dX12_missed_132 : decode cX12_missed 132 = .ok (.iload 5, 2) := by decide +kernel
theorem dX12_missed_134 : decode cX12_missed 134 = .ok (.iload_n 3, 1) := by decide +kernel
theorem dX12_missed_135 : decode cX12_missed 135 = .ok (.if_icmp .ge 30, 3) := by decide +kernel
theorem dX12_missed_138 : decode cX12_missed 138 = .ok (.aload_n 0, 1) := by decide +kernel
theorem dX12_missed_139 : decode cX12_missed 139 = .ok (.getfield 97, 3) := by decide +kernel
theorem dX12_missed_142 : decode cX12_missed 142 = .ok (.iload 5, 2) := by decide +kernel
theorem dX12_missed_144 : decode cX12_missed 144 = .ok (.iaload, 1) := by decide +kernel
theorem dX12_missed_145 : decode cX12_missed 145 = .ok (.i2l, 1) := by decide +kernel
theorem dX12_missed_146 : decode cX12_missed 146 = .ok (.lconst 1, 1) := by decide +kernel
theorem dX12_missed_147 : decode cX12_missed 147 = .ok (.ldc2_w 372, 3) := by decide +kernel
theorem dX12_missed_150 : decode cX12_missed 150 = .ok (.invokestatic 147, 3) := by decide +kernel
theorem dX12_missed_153 : decode cX12_missed 153 = .ok (.ifCond .ne 6, 3) := by decide +kernel
theorem dX12_missed_156 : decode cX12_missed 156 = .ok (.bipush (-2), 2) := by decide +kernel
theorem dX12_missed_158 : decode cX12_missed 158 = .ok (.ireturn, 1) := by decide +kernel
theorem dX12_missed_159 : decode cX12_missed 159 = .ok (.iinc 5 1, 3) := by decide +kernel
theorem dX12_missed_162 : decode cX12_missed 162 = .ok (.goto (-30), 3) := by decide +kernel
theorem dX12_missed_165 : decode cX12_missed 165 = .ok (.iconst 0, 1) := by decide +kernel
theorem dX12_missed_166 : decode cX12_missed 166 = .ok (.istore 5, 2) := by decide +kernel
theorem dX12_missed_168 : decode cX12_missed 168 = .ok (.iload 5, 2) := by decide +kernel
theorem dX12_missed_170 : decode cX12_missed 170 = .ok (.iload_n 3, 1) := by decide +kernel
theorem dX12_missed_171 : decode cX12_missed 171 = .ok (.if_icmp .gt 30, 3) := by decide +kernel
theorem dX12_missed_174 : decode cX12_missed 174 = .ok (.aload_n 0, 1) := by decide +kernel
theorem dX12_missed_175 : decode cX12_missed 175 = .ok (.getfield 100, 3) := by decide +kernel
theorem dX12_missed_178 : decode cX12_missed 178 = .ok (.iload 5, 2) := by decide +kernel
theorem dX12_missed_180 : decode cX12_missed 180 = .ok (.iaload, 1) := by decide +kernel
theorem dX12_missed_181 : decode cX12_missed 181 = .ok (.i2l, 1) := by decide +kernel
theorem dX12_missed_182 : decode cX12_missed 182 = .ok (.lconst 0, 1) := by decide +kernel
theorem dX12_missed_183 : decode cX12_missed 183 = .ok (.ldc2_w 391, 3) := by decide +kernel
theorem dX12_missed_186 : decode cX12_missed 186 = .ok (.invokestatic 147, 3) := by decide +kernel
theorem dX12_missed_189 : decode cX12_missed 189 = .ok (.ifCond .ne 6, 3) := by decide +kernel
theorem dX12_missed_192 : decode cX12_missed 192 = .ok (.bipush (-2), 2) := by decide +kernel
theorem dX12_missed_194 : decode cX12_missed 194 = .ok (.ireturn, 1) := by decide +kernel
theorem dX12_missed_195 : decode cX12_missed 195 = .ok (.iinc 5 1, 3) := by decide +kernel
theorem dX12_missed_198 : decode cX12_missed 198 = .ok (.goto (-30), 3) := by decide +kernel
theorem dX12_missed_201 : decode cX12_missed 201 = .ok (.aload_n 0, 1) := by decide +kernel
theorem dX12_missed_202 : decode cX12_missed 202 = .ok (.iload_n 1, 1) := by decide +kernel
theorem dX12_missed_203 : decode cX12_missed 203 = .ok (.invokevirtual 395, 3) := by decide +kernel
theorem dX12_missed_206 : decode cX12_missed 206 = .ok (.iconst 0, 1) := by decide +kernel
theorem dX12_missed_207 : decode cX12_missed 207 = .ok (.istore 5, 2) := by decide +kernel
theorem dX12_missed_209 : decode cX12_missed 209 = .ok (.bipush (-3), 2) := by decide +kernel
theorem dX12_missed_211 : decode cX12_missed 211 = .ok (.istore 6, 2) := by decide +kernel
theorem dX12_missed_213 : decode cX12_missed 213 = .ok (.iconst 0, 1) := by decide +kernel
theorem dX12_missed_214 : decode cX12_missed 214 = .ok (.istore 7, 2) := by decide +kernel
theorem dX12_missed_216 : decode cX12_missed 216 = .ok (.iload 7, 2) := by decide +kernel
theorem dX12_missed_218 : decode cX12_missed 218 = .ok (.iload_n 3, 1) := by decide +kernel
theorem dX12_missed_219 : decode cX12_missed 219 = .ok (.if_icmp .ge 110, 3) := by decide +kernel
theorem dX12_missed_222 : decode cX12_missed 222 = .ok (.iconst 1, 1) := by decide +kernel
theorem dX12_missed_223 : decode cX12_missed 223 = .ok (.istore 8, 2) := by decide +kernel
theorem dX12_missed_225 : decode cX12_missed 225 = .ok (.iload 8, 2) := by decide +kernel
theorem dX12_missed_227 : decode cX12_missed 227 = .ok (.aload_n 0, 1) := by decide +kernel
theorem dX12_missed_228 : decode cX12_missed 228 = .ok (.getfield 97, 3) := by decide +kernel
theorem dX12_missed_231 : decode cX12_missed 231 = .ok (.iload 7, 2) := by decide +kernel
theorem dX12_missed_233 : decode cX12_missed 233 = .ok (.iaload, 1) := by decide +kernel
theorem dX12_missed_234 : decode cX12_missed 234 = .ok (.if_icmp .ge 89, 3) := by decide +kernel
theorem dX12_missed_237 : decode cX12_missed 237 = .ok (.iconst 0, 1) := by decide +kernel
theorem dX12_missed_238 : decode cX12_missed 238 = .ok (.istore 9, 2) := by decide +kernel
theorem dX12_missed_240 : decode cX12_missed 240 = .ok (.iload 9, 2) := by decide +kernel
theorem dX12_missed_242 : decode cX12_missed 242 = .ok (.aload_n 0, 1) := by decide +kernel
theorem dX12_missed_243 : decode cX12_missed 243 = .ok (.getfield 144, 3) := by decide +kernel
theorem dX12_missed_246 : decode cX12_missed 246 = .ok (.if_icmp .ge 71, 3) := by decide +kernel
theorem dX12_missed_249 : decode cX12_missed 249 = .ok (.aload_n 0, 1) := by decide +kernel
theorem dX12_missed_250 : decode cX12_missed 250 = .ok (.iload_n 1, 1) := by decide +kernel
theorem dX12_missed_251 : decode cX12_missed 251 = .ok (.iload 9, 2) := by decide +kernel
theorem dX12_missed_253 : decode cX12_missed 253 = .ok (.invokevirtual 350, 3) := by decide +kernel
theorem dX12_missed_256 : decode cX12_missed 256 = .ok (.ifCond .eq 55, 3) := by decide +kernel
theorem dX12_missed_259 : decode cX12_missed 259 = .ok (.aload_n 0, 1) := by decide +kernel
theorem dX12_missed_260 : decode cX12_missed 260 = .ok (.iload_n 1, 1) := by decide +kernel
theorem dX12_missed_261 : decode cX12_missed 261 = .ok (.iload_n 2, 1) := by decide +kernel
theorem dX12_missed_262 : decode cX12_missed 262 = .ok (.iload_n 3, 1) := by decide +kernel
theorem dX12_missed_263 : decode cX12_missed 263 = .ok (.iload 7, 2) := by decide +kernel
theorem dX12_missed_265 : decode cX12_missed 265 = .ok (.iload 8, 2) := by decide +kernel
theorem dX12_missed_267 : decode cX12_missed 267 = .ok (.iload 9, 2) := by decide +kernel
theorem dX12_missed_269 : decode cX12_missed 269 = .ok (.invokevirtual 404, 3) := by decide +kernel
theorem dX12_missed_272 : decode cX12_missed 272 = .ok (.ifCond .ne 6, 3) := by decide +kernel
theorem dX12_missed_275 : decode cX12_missed 275 = .ok (.goto 36, 3) := by decide +kernel
theorem dX12_missed_278 : decode cX12_missed 278 = .ok (.iload 5, 2) := by decide +kernel
theorem dX12_missed_280 : decode cX12_missed 280 = .ok (.ifCond .ne 28, 3) := by decide +kernel
theorem dX12_missed_283 : decode cX12_missed 283 = .ok (.iload 4, 2) := by decide +kernel
theorem dX12_missed_285 : decode cX12_missed 285 = .ok (.ifCond .ne 8, 3) := by decide +kernel
theorem dX12_missed_288 : decode cX12_missed 288 = .ok (.iload 7, 2) := by decide +kernel
theorem dX12_missed_290 : decode cX12_missed 290 = .ok (.goto 16, 3) := by decide +kernel
theorem dX12_missed_293 : decode cX12_missed 293 = .ok (.iload 4, 2) := by decide +kernel
theorem dX12_missed_295 : decode cX12_missed 295 = .ok (.iconst 1, 1) := by decide +kernel
theorem dX12_missed_296 : decode cX12_missed 296 = .ok (.if_icmp .ne 8, 3) := by decide +kernel
theorem dX12_missed_299 : decode cX12_missed 299 = .ok (.iload 8, 2) := by decide +kernel
theorem dX12_missed_301 : decode cX12_missed 301 = .ok (.goto 5, 3) := by decide +kernel
theorem dX12_missed_304 : decode cX12_missed 304 = .ok (.iload 9, 2) := by decide +kernel
theorem dX12_missed_306 : decode cX12_missed 306 = .ok (.istore 6, 2) := by decide +kernel
theorem dX12_missed_308 : decode cX12_missed 308 = .ok (.iinc 5 1, 3) := by decide +kernel
theorem dX12_missed_311 : decode cX12_missed 311 = .ok (.iinc 9 1, 3) := by decide +kernel
theorem dX12_missed_314 : decode cX12_missed 314 = .ok (.goto (-74), 3) := by decide +kernel
theorem dX12_missed_317 : decode cX12_missed 317 = .ok (.iinc 8 1, 3) := by decide +kernel
theorem dX12_missed_320 : decode cX12_missed 320 = .ok (.goto (-95), 3) := by decide +kernel
theorem dX12_missed_323 : decode cX12_missed 323 = .ok (.iinc 7 1, 3) := by decide +kernel
theorem dX12_missed_326 : decode cX12_missed 326 = .ok (.goto (-110), 3) := by decide +kernel
theorem dX12_missed_329 : decode cX12_missed 329 = .ok (.iload 4, 2) := by decide +kernel
theorem dX12_missed_331 : decode cX12_missed 331 = .ok (.iconst (-1), 1) := by decide +kernel
theorem dX12_missed_332 : decode cX12_missed 332 = .ok (.if_icmp .ne 8, 3) := by decide +kernel
theorem dX12_missed_335 : decode cX12_missed 335 = .ok (.iload 5, 2) := by decide +kernel
theorem dX12_missed_337 : decode cX12_missed 337 = .ok (.goto 5, 3) := by decide +kernel
theorem dX12_missed_340 : decode cX12_missed 340 = .ok (.iload 6, 2) := by decide +kernel
theorem dX12_missed_342 : decode cX12_missed 342 = .ok (.ireturn, 1) := by decide +kernel
theorem dX12_gapOf_0 : decode cX12_gapOf 0 = .ok (.iload_n 0, 1) := by decide +kernel
theorem dX12_gapOf_1 : decode cX12_gapOf 1 = .ok (.bipush 21, 2) := by decide +kernel
theorem dX12_gapOf_3 : decode cX12_gapOf 3 = .ok (.if_icmp .ne 8, 3) := by decide +kernel
theorem dX12_gapOf_6 : decode cX12_gapOf 6 = .ok (.bipush 63, 2) := by decide +kernel
theorem dX12_gapOf_8 : decode cX12_gapOf 8 = .ok (.goto 4, 3) := by decide +kernel
theorem dX12_gapOf_11 : decode cX12_gapOf 11 = .ok (.iload_n 0, 1) := by decide +kernel
theorem dX12_gapOf_12 : decode cX12_gapOf 12 = .ok (.ireturn, 1) := by decide +kernel
theorem dX12_meansPlace_0 : decode cX12_meansPlace 0 = .ok (.iload_n 0, 1) := by decide +kernel
theorem dX12_meansPlace_1 : decode cX12_meansPlace 1 = .ok (.bipush 22, 2) := by decide +kernel
theorem dX12_meansPlace_3 : decode cX12_meansPlace 3 = .ok (.imul, 1) := by decide +kernel
theorem dX12_meansPlace_4 : decode cX12_meansPlace 4 = .ok (.iload_n 1, 1) := by decide +kernel
theorem dX12_meansPlace_5 : decode cX12_meansPlace 5 = .ok (.iadd, 1) := by decide +kernel
theorem dX12_meansPlace_6 : decode cX12_meansPlace 6 = .ok (.iconst 5, 1) := by decide +kernel
theorem dX12_meansPlace_7 : decode cX12_meansPlace 7 = .ok (.imul, 1) := by decide +kernel
theorem dX12_meansPlace_8 : decode cX12_meansPlace 8 = .ok (.iload_n 2, 1) := by decide +kernel
theorem dX12_meansPlace_9 : decode cX12_meansPlace 9 = .ok (.iadd, 1) := by decide +kernel
theorem dX12_meansPlace_10 : decode cX12_meansPlace 10 = .ok (.bipush 22, 2) := by decide +kernel
theorem dX12_meansPlace_12 : decode cX12_meansPlace 12 = .ok (.imul, 1) := by decide +kernel
theorem dX12_meansPlace_13 : decode cX12_meansPlace 13 = .ok (.iload_n 3, 1) := by decide +kernel
theorem dX12_meansPlace_14 : decode cX12_meansPlace 14 = .ok (.iadd, 1) := by decide +kernel
theorem dX12_meansPlace_15 : decode cX12_meansPlace 15 = .ok (.ireturn, 1) := by decide +kernel
theorem dX12_laysCrowd_0 : decode cX12_laysCrowd 0 = .ok (.aload_n 0, 1) := by decide +kernel
theorem dX12_laysCrowd_1 : decode cX12_laysCrowd 1 = .ok (.iconst 0, 1) := by decide +kernel
theorem dX12_laysCrowd_2 : decode cX12_laysCrowd 2 = .ok (.putfield 408, 3) := by decide +kernel
theorem dX12_laysCrowd_5 : decode cX12_laysCrowd 5 = .ok (.iconst 0, 1) := by decide +kernel
theorem dX12_laysCrowd_6 : decode cX12_laysCrowd 6 = .ok (.istore_n 2, 1) := by decide +kernel
theorem dX12_laysCrowd_7 : decode cX12_laysCrowd 7 = .ok (.iload_n 2, 1) := by decide +kernel
theorem dX12_laysCrowd_8 : decode cX12_laysCrowd 8 = .ok (.aload_n 0, 1) := by decide +kernel
theorem dX12_laysCrowd_9 : decode cX12_laysCrowd 9 = .ok (.getfield 144, 3) := by decide +kernel
theorem dX12_laysCrowd_12 : decode cX12_laysCrowd 12 = .ok (.if_icmp .ge 40, 3) := by decide +kernel
theorem dX12_laysCrowd_15 : decode cX12_laysCrowd 15 = .ok (.iload_n 1, 1) := by decide +kernel
theorem dX12_laysCrowd_16 : decode cX12_laysCrowd 16 = .ok (.iload_n 2, 1) := by decide +kernel
theorem dX12_laysCrowd_17 : decode cX12_laysCrowd 17 = .ok (.invokestatic 411, 3) := by decide +kernel
theorem dX12_laysCrowd_20 : decode cX12_laysCrowd 20 = .ok (.ifCond .ne 6, 3) := by decide +kernel
theorem dX12_laysCrowd_23 : decode cX12_laysCrowd 23 = .ok (.goto 23, 3) := by decide +kernel
theorem dX12_laysCrowd_26 : decode cX12_laysCrowd 26 = .ok (.aload_n 0, 1) := by decide +kernel
theorem dX12_laysCrowd_27 : decode cX12_laysCrowd 27 = .ok (.getfield 110, 3) := by decide +kernel
theorem dX12_laysCrowd_30 : decode cX12_laysCrowd 30 = .ok (.aload_n 0, 1) := by decide +kernel
theorem dX12_laysCrowd_31 : decode cX12_laysCrowd 31 = .ok (.getfield 408, 3) := by decide +kernel
theorem dX12_laysCrowd_34 : decode cX12_laysCrowd 34 = .ok (.iload_n 2, 1) := by decide +kernel
theorem dX12_laysCrowd_35 : decode cX12_laysCrowd 35 = .ok (.iastore, 1) := by decide +kernel
theorem dX12_laysCrowd_36 : decode cX12_laysCrowd 36 = .ok (.aload_n 0, 1) := by decide +kernel
theorem dX12_laysCrowd_37 : decode cX12_laysCrowd 37 = .ok (.dup, 1) := by decide +kernel
theorem dX12_laysCrowd_38 : decode cX12_laysCrowd 38 = .ok (.getfield 408, 3) := by decide +kernel
theorem dX12_laysCrowd_41 : decode cX12_laysCrowd 41 = .ok (.iconst 1, 1) := by decide +kernel
theorem dX12_laysCrowd_42 : decode cX12_laysCrowd 42 = .ok (.iadd, 1) := by decide +kernel
theorem dX12_laysCrowd_43 : decode cX12_laysCrowd 43 = .ok (.putfield 408, 3) := by decide +kernel
theorem dX12_laysCrowd_46 : decode cX12_laysCrowd 46 = .ok (.iinc 2 1, 3) := by decide +kernel
theorem dX12_laysCrowd_49 : decode cX12_laysCrowd 49 = .ok (.goto (-42), 3) := by decide +kernel
theorem dX12_laysCrowd_52 : decode cX12_laysCrowd 52 = .ok (.iconst 0, 1) := by decide +kernel
theorem dX12_laysCrowd_53 : decode cX12_laysCrowd 53 = .ok (.istore_n 2, 1) := by decide +kernel
theorem dX12_laysCrowd_54 : decode cX12_laysCrowd 54 = .ok (.iload_n 2, 1) := by decide +kernel
theorem dX12_laysCrowd_55 : decode cX12_laysCrowd 55 = .ok (.aload_n 0, 1) := by decide +kernel
theorem dX12_laysCrowd_56 : decode cX12_laysCrowd 56 = .ok (.getfield 408, 3) := by decide +kernel
theorem dX12_laysCrowd_59 : decode cX12_laysCrowd 59 = .ok (.if_icmp .ge 130, 3) := by decide +kernel
theorem dX12_laysCrowd_62 : decode cX12_laysCrowd 62 = .ok (.iconst 1, 1) := by decide +kernel
theorem dX12_laysCrowd_63 : decode cX12_laysCrowd 63 = .ok (.istore_n 3, 1) := by decide +kernel
theorem dX12_laysCrowd_64 : decode cX12_laysCrowd 64 = .ok (.iload_n 3, 1) := by decide +kernel
theorem dX12_laysCrowd_65 : decode cX12_laysCrowd 65 = .ok (.bipush 22, 2) := by decide +kernel
theorem dX12_laysCrowd_67 : decode cX12_laysCrowd 67 = .ok (.if_icmp .ge 116, 3) := by decide +kernel
theorem dX12_laysCrowd_70 : decode cX12_laysCrowd 70 = .ok (.iconst 0, 1) := by decide +kernel
theorem dX12_laysCrowd_71 : decode cX12_laysCrowd 71 = .ok (.istore 4, 2) := by decide +kernel
theorem dX12_laysCrowd_73 : decode cX12_laysCrowd 73 = .ok (.iload 4, 2) := by decide +kernel
theorem dX12_laysCrowd_75 : decode cX12_laysCrowd 75 = .ok (.iconst 5, 1) := by decide +kernel
theorem dX12_laysCrowd_76 : decode cX12_laysCrowd 76 = .ok (.if_icmp .ge 101, 3) := by decide +kernel
theorem dX12_laysCrowd_79 : decode cX12_laysCrowd 79 = .ok (.iconst 1, 1) := by decide +kernel
theorem dX12_laysCrowd_80 : decode cX12_laysCrowd 80 = .ok (.istore 5, 2) := by decide +kernel
theorem dX12_laysCrowd_82 : decode cX12_laysCrowd 82 = .ok (.iload 5, 2) := by decide +kernel
theorem dX12_laysCrowd_84 : decode cX12_laysCrowd 84 = .ok (.bipush 22, 2) := by decide +kernel
theorem dX12_laysCrowd_86 : decode cX12_laysCrowd 86 = .ok (.if_icmp .ge 85, 3) := by decide +kernel
theorem dX12_laysCrowd_89 : decode cX12_laysCrowd 89 = .ok (.iload 4, 2) := by decide +kernel
theorem dX12_laysCrowd_91 : decode cX12_laysCrowd 91 = .ok (.iconst 4, 1) := by decide +kernel
theorem dX12_laysCrowd_92 : decode cX12_laysCrowd 92 = .ok (.if_icmp .ge 15, 3) := by decide +kernel
theorem dX12_laysCrowd_95 : decode cX12_laysCrowd 95 = .ok (.iload 4, 2) := by decide +kernel
theorem dX12_laysCrowd_97 : decode cX12_laysCrowd 97 = .ok (.aload_n 0, 1) := by decide +kernel
theorem dX12_laysCrowd_98 : decode cX12_laysCrowd 98 = .ok (.getfield 408, 3) := by decide +kernel
theorem dX12_laysCrowd_101 : decode cX12_laysCrowd 101 = .ok (.if_icmp .lt 6, 3) := by decide +kernel
theorem dX12_laysCrowd_104 : decode cX12_laysCrowd 104 = .ok (.goto 61, 3) := by decide +kernel
theorem dX12_laysCrowd_107 : decode cX12_laysCrowd 107 = .ok (.aload_n 0, 1) := by decide +kernel
theorem dX12_laysCrowd_108 : decode cX12_laysCrowd 108 = .ok (.getfield 113, 3) := by decide +kernel
theorem dX12_laysCrowd_111 : decode cX12_laysCrowd 111 = .ok (.iload_n 2, 1) := by decide +kernel
theorem dX12_laysCrowd_112 : decode cX12_laysCrowd 112 = .ok (.iload_n 3, 1) := by decide +kernel
theorem dX12_laysCrowd_113 : decode cX12_laysCrowd 113 = .ok (.iload 4, 2) := by decide +kernel
theorem dX12_laysCrowd_115 : decode cX12_laysCrowd 115 = .ok (.iload 5, 2) := by decide +kernel
theorem dX12_laysCrowd_117 : decode cX12_laysCrowd 117 = .ok (.invokestatic 414, 3) := by decide +kernel
theorem dX12_laysCrowd_120 : decode cX12_laysCrowd 120 = .ok (.aload_n 0, 1) := by decide +kernel
theorem dX12_laysCrowd_121 : decode cX12_laysCrowd 121 = .ok (.aload_n 0, 1) := by decide +kernel
theorem dX12_laysCrowd_122 : decode cX12_laysCrowd 122 = .ok (.getfield 110, 3) := by decide +kernel
theorem dX12_laysCrowd_125 : decode cX12_laysCrowd 125 = .ok (.iload_n 2, 1) := by decide +kernel
theorem dX12_laysCrowd_126 : decode cX12_laysCrowd 126 = .ok (.iaload, 1) := by decide +kernel
theorem dX12_laysCrowd_127 : decode cX12_laysCrowd 127 = .ok (.iload_n 3, 1) := by decide +kernel
theorem dX12_laysCrowd_128 : decode cX12_laysCrowd 128 = .ok (.invokestatic 418, 3) := by decide +kernel
theorem dX12_laysCrowd_131 : decode cX12_laysCrowd 131 = .ok (.aload_n 0, 1) := by decide +kernel
theorem dX12_laysCrowd_132 : decode cX12_laysCrowd 132 = .ok (.getfield 110, 3) := by decide +kernel
theorem dX12_laysCrowd_135 : decode cX12_laysCrowd 135 = .ok (.iload_n 2, 1) := by decide +kernel
theorem dX12_laysCrowd_136 : decode cX12_laysCrowd 136 = .ok (.iaload, 1) := by decide +kernel
theorem dX12_laysCrowd_137 : decode cX12_laysCrowd 137 = .ok (.iload 4, 2) := by decide +kernel
theorem dX12_laysCrowd_139 : decode cX12_laysCrowd 139 = .ok (.iconst 4, 1) := by decide +kernel
theorem dX12_laysCrowd_140 : decode cX12_laysCrowd 140 = .ok (.if_icmp .ne 8, 3) := by decide +kernel
theorem dX12_laysCrowd_143 : decode cX12_laysCrowd 143 = .ok (.bipush 8, 2) := by decide +kernel
theorem dX12_laysCrowd_145 : decode cX12_laysCrowd 145 = .ok (.goto 10, 3) := by decide +kernel
theorem dX12_laysCrowd_148 : decode cX12_laysCrowd 148 = .ok (.aload_n 0, 1) := by decide +kernel
theorem dX12_laysCrowd_149 : decode cX12_laysCrowd 149 = .ok (.getfield 110, 3) := by decide +kernel
theorem dX12_laysCrowd_152 : decode cX12_laysCrowd 152 = .ok (.iload 4, 2) := by decide +kernel
theorem dX12_laysCrowd_154 : decode cX12_laysCrowd 154 = .ok (.iaload, 1) := by decide +kernel
theorem dX12_laysCrowd_155 : decode cX12_laysCrowd 155 = .ok (.iload 5, 2) := by decide +kernel
theorem dX12_laysCrowd_157 : decode cX12_laysCrowd 157 = .ok (.invokestatic 418, 3) := by decide +kernel
theorem dX12_laysCrowd_160 : decode cX12_laysCrowd 160 = .ok (.iconst 0, 1) := by decide +kernel
theorem dX12_laysCrowd_161 : decode cX12_laysCrowd 161 = .ok (.invokevirtual 360, 3) := by decide +kernel
theorem dX12_laysCrowd_164 : decode cX12_laysCrowd 164 = .ok (.iastore, 1) := by decide +kernel
theorem dX12_laysCrowd_165 : decode cX12_laysCrowd 165 = .ok (.iinc 5 1, 3) := by decide +kernel
theorem dX12_laysCrowd_168 : decode cX12_laysCrowd 168 = .ok (.goto (-86), 3) := by decide +kernel
theorem dX12_laysCrowd_171 : decode cX12_laysCrowd 171 = .ok (.iinc 4 1, 3) := by decide +kernel
theorem dX12_laysCrowd_174 : decode cX12_laysCrowd 174 = .ok (.goto (-101), 3) := by decide +kernel
theorem dX12_laysCrowd_177 : decode cX12_laysCrowd 177 = .ok (.iinc 3 1, 3) := by decide +kernel
theorem dX12_laysCrowd_180 : decode cX12_laysCrowd 180 = .ok (.goto (-116), 3) := by decide +kernel
theorem dX12_laysCrowd_183 : decode cX12_laysCrowd 183 = .ok (.iinc 2 1, 3) := by decide +kernel
theorem dX12_laysCrowd_186 : decode cX12_laysCrowd 186 = .ok (.goto (-132), 3) := by decide +kernel
theorem dX12_laysCrowd_189 : decode cX12_laysCrowd 189 = .ok (.return_, 1) := by decide +kernel
theorem dX12_saidBy_0 : decode cX12_saidBy 0 = .ok (.iload_n 0, 1) := by decide +kernel
theorem dX12_saidBy_1 : decode cX12_saidBy 1 = .ok (.istore_n 2, 1) := by decide +kernel
theorem dX12_saidBy_2 : decode cX12_saidBy 2 = .ok (.iconst 0, 1) := by decide +kernel
theorem dX12_saidBy_3 : decode cX12_saidBy 3 = .ok (.istore_n 3, 1) := by decide +kernel
theorem dX12_saidBy_4 : decode cX12_saidBy 4 = .ok (.iload_n 3, 1) := by decide +kernel
theorem dX12_saidBy_5 : decode cX12_saidBy 5 = .ok (.iload_n 1, 1) := by decide +kernel
theorem dX12_saidBy_6 : decode cX12_saidBy 6 = .ok (.if_icmp .ge 13, 3) := by decide +kernel
theorem dX12_saidBy_9 : decode cX12_saidBy 9 = .ok (.iload_n 2, 1) := by decide +kernel
theorem dX12_saidBy_10 : decode cX12_saidBy 10 = .ok (.iconst 5, 1) := by decide +kernel
theorem dX12_saidBy_11 : decode cX12_saidBy 11 = .ok (.idiv, 1) := by decide +kernel
theorem dX12_saidBy_12 : decode cX12_saidBy 12 = .ok (.istore_n 2, 1) := by decide +kernel
theorem dX12_saidBy_13 : decode cX12_saidBy 13 = .ok (.iinc 3 1, 3) := by decide +kernel
theorem dX12_saidBy_16 : decode cX12_saidBy 16 = .ok (.goto (-12), 3) := by decide +kernel
theorem dX12_saidBy_19 : decode cX12_saidBy 19 = .ok (.iload_n 2, 1) := by decide +kernel
theorem dX12_saidBy_20 : decode cX12_saidBy 20 = .ok (.iconst 5, 1) := by decide +kernel
theorem dX12_saidBy_21 : decode cX12_saidBy 21 = .ok (.irem, 1) := by decide +kernel
theorem dX12_saidBy_22 : decode cX12_saidBy 22 = .ok (.ireturn, 1) := by decide +kernel
theorem dX12_fives_0 : decode cX12_fives 0 = .ok (.iload_n 0, 1) := by decide +kernel
theorem dX12_fives_1 : decode cX12_fives 1 = .ok (.ifCond .ne 7, 3) := by decide +kernel
theorem dX12_fives_4 : decode cX12_fives 4 = .ok (.iconst 1, 1) := by decide +kernel
theorem dX12_fives_5 : decode cX12_fives 5 = .ok (.goto 24, 3) := by decide +kernel
theorem dX12_fives_8 : decode cX12_fives 8 = .ok (.iload_n 0, 1) := by decide +kernel
theorem dX12_fives_9 : decode cX12_fives 9 = .ok (.iconst 1, 1) := by decide +kernel
theorem dX12_fives_10 : decode cX12_fives 10 = .ok (.if_icmp .ne 7, 3) := by decide +kernel
theorem dX12_fives_13 : decode cX12_fives 13 = .ok (.iconst 5, 1) := by decide +kernel
theorem dX12_fives_14 : decode cX12_fives 14 = .ok (.goto 15, 3) := by decide +kernel
theorem dX12_fives_17 : decode cX12_fives 17 = .ok (.iload_n 0, 1) := by decide +kernel
theorem dX12_fives_18 : decode cX12_fives 18 = .ok (.iconst 2, 1) := by decide +kernel
theorem dX12_fives_19 : decode cX12_fives 19 = .ok (.if_icmp .ne 8, 3) := by decide +kernel
theorem dX12_fives_22 : decode cX12_fives 22 = .ok (.bipush 25, 2) := by decide +kernel
theorem dX12_fives_24 : decode cX12_fives 24 = .ok (.goto 5, 3) := by decide +kernel
theorem dX12_fives_27 : decode cX12_fives 27 = .ok (.bipush 125, 2) := by decide +kernel
theorem dX12_fives_29 : decode cX12_fives 29 = .ok (.ireturn, 1) := by decide +kernel
theorem dX12_isDone_0 : decode cX12_isDone 0 = .ok (.iconst 0, 1) := by decide +kernel
theorem dX12_isDone_1 : decode cX12_isDone 1 = .ok (.istore_n 2, 1) := by decide +kernel
theorem dX12_isDone_2 : decode cX12_isDone 2 = .ok (.iload_n 2, 1) := by decide +kernel
theorem dX12_isDone_3 : decode cX12_isDone 3 = .ok (.aload_n 0, 1) := by decide +kernel
theorem dX12_isDone_4 : decode cX12_isDone 4 = .ok (.getfield 408, 3) := by decide +kernel
theorem dX12_isDone_7 : decode cX12_isDone 7 = .ok (.if_icmp .ge 30, 3) := by decide +kernel
theorem dX12_isDone_10 : decode cX12_isDone 10 = .ok (.iload_n 1, 1) := by decide +kernel
theorem dX12_isDone_11 : decode cX12_isDone 11 = .ok (.iload_n 2, 1) := by decide +kernel
theorem dX12_isDone_12 : decode cX12_isDone 12 = .ok (.invokestatic 421, 3) := by decide +kernel
theorem dX12_isDone_15 : decode cX12_isDone 15 = .ok (.aload_n 0, 1) := by decide +kernel
theorem dX12_isDone_16 : decode cX12_isDone 16 = .ok (.getfield 33, 3) := by decide +kernel
theorem dX12_isDone_19 : decode cX12_isDone 19 = .ok (.aload_n 0, 1) := by decide +kernel
theorem dX12_isDone_20 : decode cX12_isDone 20 = .ok (.getfield 110, 3) := by decide +kernel
theorem dX12_isDone_23 : decode cX12_isDone 23 = .ok (.iload_n 2, 1) := by decide +kernel
theorem dX12_isDone_24 : decode cX12_isDone 24 = .ok (.iaload, 1) := by decide +kernel
theorem dX12_isDone_25 : decode cX12_isDone 25 = .ok (.iaload, 1) := by decide +kernel
theorem dX12_isDone_26 : decode cX12_isDone 26 = .ok (.if_icmp .eq 5, 3) := by decide +kernel
theorem dX12_isDone_29 : decode cX12_isDone 29 = .ok (.iconst 0, 1) := by decide +kernel
theorem dX12_isDone_30 : decode cX12_isDone 30 = .ok (.ireturn, 1) := by decide +kernel
theorem dX12_isDone_31 : decode cX12_isDone 31 = .ok (.iinc 2 1, 3) := by decide +kernel
theorem dX12_isDone_34 : decode cX12_isDone 34 = .ok (.goto (-32), 3) := by decide +kernel
theorem dX12_isDone_37 : decode cX12_isDone 37 = .ok (.iconst 1, 1) := by decide +kernel
theorem dX12_isDone_38 : decode cX12_isDone 38 = .ok (.ireturn, 1) := by decide +kernel
theorem dX12_isState_0 : decode cX12_isState 0 = .ok (.iconst 0, 1) := by decide +kernel
theorem dX12_isState_1 : decode cX12_isState 1 = .ok (.istore_n 2, 1) := by decide +kernel
theorem dX12_isState_2 : decode cX12_isState 2 = .ok (.iload_n 2, 1) := by decide +kernel
theorem dX12_isState_3 : decode cX12_isState 3 = .ok (.iconst 4, 1) := by decide +kernel
theorem dX12_isState_4 : decode cX12_isState 4 = .ok (.if_icmp .ge 42, 3) := by decide +kernel
theorem dX12_isState_7 : decode cX12_isState 7 = .ok (.iload_n 1, 1) := by decide +kernel
theorem dX12_isState_8 : decode cX12_isState 8 = .ok (.iload_n 2, 1) := by decide +kernel
theorem dX12_isState_9 : decode cX12_isState 9 = .ok (.invokestatic 421, 3) := by decide +kernel
theorem dX12_isState_12 : decode cX12_isState 12 = .ok (.iload_n 2, 1) := by decide +kernel
theorem dX12_isState_13 : decode cX12_isState 13 = .ok (.aload_n 0, 1) := by decide +kernel
theorem dX12_isState_14 : decode cX12_isState 14 = .ok (.getfield 408, 3) := by decide +kernel
theorem dX12_isState_17 : decode cX12_isState 17 = .ok (.if_icmp .ge 17, 3) := by decide +kernel
theorem dX12_isState_20 : decode cX12_isState 20 = .ok (.aload_n 0, 1) := by decide +kernel
theorem dX12_isState_21 : decode cX12_isState 21 = .ok (.getfield 33, 3) := by decide +kernel
theorem dX12_isState_24 : decode cX12_isState 24 = .ok (.aload_n 0, 1) := by decide +kernel
theorem dX12_isState_25 : decode cX12_isState 25 = .ok (.getfield 110, 3) := by decide +kernel
theorem dX12_isState_28 : decode cX12_isState 28 = .ok (.iload_n 2, 1) := by decide +kernel
theorem dX12_isState_29 : decode cX12_isState 29 = .ok (.iaload, 1) := by decide +kernel
theorem dX12_isState_30 : decode cX12_isState 30 = .ok (.iaload, 1) := by decide +kernel
theorem dX12_isState_31 : decode cX12_isState 31 = .ok (.goto 4, 3) := by decide +kernel
theorem dX12_isState_34 : decode cX12_isState 34 = .ok (.iconst 0, 1) := by decide +kernel
theorem dX12_isState_35 : decode cX12_isState 35 = .ok (.if_icmp .le 5, 3) := by decide +kernel
theorem dX12_isState_38 : decode cX12_isState 38 = .ok (.iconst 0, 1) := by decide +kernel
theorem dX12_isState_39 : decode cX12_isState 39 = .ok (.ireturn, 1) := by decide +kernel
theorem dX12_isState_40 : decode cX12_isState 40 = .ok (.iinc 2 1, 3) := by decide +kernel
theorem dX12_isState_43 : decode cX12_isState 43 = .ok (.goto (-41), 3) := by decide +kernel
theorem dX12_isState_46 : decode cX12_isState 46 = .ok (.iconst 1, 1) := by decide +kernel
theorem dX12_isState_47 : decode cX12_isState 47 = .ok (.ireturn, 1) := by decide +kernel
theorem dX12_soonPlace_0 : decode cX12_soonPlace 0 = .ok (.iload_n 0, 1) := by decide +kernel
theorem dX12_soonPlace_1 : decode cX12_soonPlace 1 = .ok (.iconst 5, 1) := by decide +kernel
theorem dX12_soonPlace_2 : decode cX12_soonPlace 2 = .ok (.imul, 1) := by decide +kernel
theorem dX12_soonPlace_3 : decode cX12_soonPlace 3 = .ok (.iload_n 1, 1) := by decide +kernel
theorem dX12_soonPlace_4 : decode cX12_soonPlace 4 = .ok (.iadd, 1) := by decide +kernel
theorem dX12_soonPlace_5 : decode cX12_soonPlace 5 = .ok (.bipush 22, 2) := by decide +kernel
theorem dX12_soonPlace_7 : decode cX12_soonPlace 7 = .ok (.imul, 1) := by decide +kernel
theorem dX12_soonPlace_8 : decode cX12_soonPlace 8 = .ok (.iload_n 2, 1) := by decide +kernel
theorem dX12_soonPlace_9 : decode cX12_soonPlace 9 = .ok (.iadd, 1) := by decide +kernel
theorem dX12_soonPlace_10 : decode cX12_soonPlace 10 = .ok (.ireturn, 1) := by decide +kernel
theorem dX12_says_0 : decode cX12_says 0 = .ok (.iload_n 1, 1) := by decide +kernel
theorem dX12_says_1 : decode cX12_says 1 = .ok (.iload 4, 2) := by decide +kernel
theorem dX12_says_3 : decode cX12_says 3 = .ok (.invokestatic 421, 3) := by decide +kernel
theorem dX12_says_6 : decode cX12_says 6 = .ok (.istore 6, 2) := by decide +kernel
theorem dX12_says_8 : decode cX12_says 8 = .ok (.iload 6, 2) := by decide +kernel
theorem dX12_says_10 : decode cX12_says 10 = .ok (.aload_n 0, 1) := by decide +kernel
theorem dX12_says_11 : decode cX12_says 11 = .ok (.getfield 33, 3) := by decide +kernel
theorem dX12_says_14 : decode cX12_says 14 = .ok (.aload_n 0, 1) := by decide +kernel
theorem dX12_says_15 : decode cX12_says 15 = .ok (.getfield 110, 3) := by decide +kernel
theorem dX12_says_18 : decode cX12_says 18 = .ok (.iload 4, 2) := by decide +kernel
theorem dX12_says_20 : decode cX12_says 20 = .ok (.iaload, 1) := by decide +kernel
theorem dX12_says_21 : decode cX12_says 21 = .ok (.iaload, 1) := by decide +kernel
theorem dX12_says_22 : decode cX12_says 22 = .ok (.if_icmp .ge 41, 3) := by decide +kernel
theorem dX12_says_25 : decode cX12_says 25 = .ok (.aload_n 0, 1) := by decide +kernel
theorem dX12_says_26 : decode cX12_says 26 = .ok (.getfield 113, 3) := by decide +kernel
theorem dX12_says_29 : decode cX12_says 29 = .ok (.iload 4, 2) := by decide +kernel
theorem dX12_says_31 : decode cX12_says 31 = .ok (.iload 5, 2) := by decide +kernel
theorem dX12_says_33 : decode cX12_says 33 = .ok (.iload_n 2, 1) := by decide +kernel
theorem dX12_says_34 : decode cX12_says 34 = .ok (.iload_n 3, 1) := by decide +kernel
theorem dX12_says_35 : decode cX12_says 35 = .ok (.invokestatic 414, 3) := by decide +kernel
theorem dX12_says_38 : decode cX12_says 38 = .ok (.iaload, 1) := by decide +kernel
theorem dX12_says_39 : decode cX12_says 39 = .ok (.aload_n 0, 1) := by decide +kernel
theorem dX12_says_40 : decode cX12_says 40 = .ok (.getfield 36, 3) := by decide +kernel
theorem dX12_says_43 : decode cX12_says 43 = .ok (.iconst 4, 1) := by decide +kernel
theorem dX12_says_44 : decode cX12_says 44 = .ok (.aload_n 0, 1) := by decide +kernel
theorem dX12_says_45 : decode cX12_says 45 = .ok (.getfield 110, 3) := by decide +kernel
theorem dX12_says_48 : decode cX12_says 48 = .ok (.iload 4, 2) := by decide +kernel
theorem dX12_says_50 : decode cX12_says 50 = .ok (.iaload, 1) := by decide +kernel
theorem dX12_says_51 : decode cX12_says 51 = .ok (.imul, 1) := by decide +kernel
theorem dX12_says_52 : decode cX12_says 52 = .ok (.iload 6, 2) := by decide +kernel
theorem dX12_says_54 : decode cX12_says 54 = .ok (.iadd, 1) := by decide +kernel
theorem dX12_says_55 : decode cX12_says 55 = .ok (.iaload, 1) := by decide +kernel
theorem dX12_says_56 : decode cX12_says 56 = .ok (.if_icmp .ne 7, 3) := by decide +kernel
theorem dX12_says_59 : decode cX12_says 59 = .ok (.iconst 1, 1) := by decide +kernel
theorem dX12_says_60 : decode cX12_says 60 = .ok (.goto 4, 3) := by decide +kernel
theorem dX12_says_63 : decode cX12_says 63 = .ok (.iconst 0, 1) := by decide +kernel
theorem dX12_says_64 : decode cX12_says 64 = .ok (.ireturn, 1) := by decide +kernel
theorem dX12_costOf_0 : decode cX12_costOf 0 = .ok (.iload_n 0, 1) := by decide +kernel
theorem dX12_costOf_1 : decode cX12_costOf 1 = .ok (.bipush 21, 2) := by decide +kernel
theorem dX12_costOf_3 : decode cX12_costOf 3 = .ok (.if_icmp .ne 7, 3) := by decide +kernel
theorem dX12_costOf_6 : decode cX12_costOf 6 = .ok (.iconst 0, 1) := by decide +kernel
theorem dX12_costOf_7 : decode cX12_costOf 7 = .ok (.goto 4, 3) := by decide +kernel
theorem dX12_costOf_10 : decode cX12_costOf 10 = .ok (.iload_n 0, 1) := by decide +kernel
theorem dX12_costOf_11 : decode cX12_costOf 11 = .ok (.ireturn, 1) := by decide +kernel
theorem dX12_laysSoon_0 : decode cX12_laysSoon 0 = .ok (.sipush 624, 3) := by decide +kernel
theorem dX12_laysSoon_3 : decode cX12_laysSoon 3 = .ok (.istore_n 1, 1) := by decide +kernel
theorem dX12_laysSoon_4 : decode cX12_laysSoon 4 = .ok (.iload_n 1, 1) := by decide +kernel
theorem dX12_laysSoon_5 : decode cX12_laysSoon 5 = .ok (.ifCond .lt 235, 3) := by decide +kernel
theorem dX12_laysSoon_8 : decode cX12_laysSoon 8 = .ok (.aload_n 0, 1) := by decide +kernel
theorem dX12_laysSoon_9 : decode cX12_laysSoon 9 = .ok (.iload_n 1, 1) := by decide +kernel
theorem dX12_laysSoon_10 : decode cX12_laysSoon 10 = .ok (.invokevirtual 424, 3) := by decide +kernel
theorem dX12_laysSoon_13 : decode cX12_laysSoon 13 = .ok (.ifCond .ne 6, 3) := by decide +kernel
theorem dX12_laysSoon_16 : decode cX12_laysSoon 16 = .ok (.goto 218, 3) := by decide +kernel
theorem dX12_laysSoon_19 : decode cX12_laysSoon 19 = .ok (.aload_n 0, 1) := by decide +kernel
theorem dX12_laysSoon_20 : decode cX12_laysSoon 20 = .ok (.iload_n 1, 1) := by decide +kernel
theorem dX12_laysSoon_21 : decode cX12_laysSoon 21 = .ok (.invokevirtual 427, 3) := by decide +kernel
theorem dX12_laysSoon_24 : decode cX12_laysSoon 24 = .ok (.istore_n 2, 1) := by decide +kernel
theorem dX12_laysSoon_25 : decode cX12_laysSoon 25 = .ok (.iconst 0, 1) := by decide +kernel
theorem dX12_laysSoon_26 : decode cX12_laysSoon 26 = .ok (.istore_n 3, 1) := by decide +kernel
theorem dX12_laysSoon_27 : decode cX12_laysSoon 27 = .ok (.iload_n 3, 1) := by decide +kernel
theorem dX12_laysSoon_28 : decode cX12_laysSoon 28 = .ok (.iconst 5, 1) := by decide +kernel
theorem dX12_laysSoon_29 : decode cX12_laysSoon 29 = .ok (.if_icmp .ge 205, 3) := by decide +kernel
theorem dX12_laysSoon_32 : decode cX12_laysSoon 32 = .ok (.iconst 1, 1) := by decide +kernel
theorem dX12_laysSoon_33 : decode cX12_laysSoon 33 = .ok (.istore 4, 2) := by decide +kernel
theorem dX12_laysSoon_35 : decode cX12_laysSoon 35 = .ok (.iload 4, 2) := by decide +kernel
theorem dX12_laysSoon_37 : decode cX12_laysSoon 37 = .ok (.bipush 22, 2) := by decide +kernel
theorem dX12_laysSoon_39 : decode cX12_laysSoon 39 = .ok (.if_icmp .ge 189, 3) := by decide +kernel
theorem dX12_laysSoon_42 : decode cX12_laysSoon 42 = .ok (.iload_n 2, 1) := by decide +kernel
theorem dX12_laysSoon_43 : decode cX12_laysSoon 43 = .ok (.ifCond .eq 7, 3) := by decide +kernel
theorem dX12_laysSoon_46 : decode cX12_laysSoon 46 = .ok (.iconst 0, 1) := by decide +kernel
theorem dX12_laysSoon_47 : decode cX12_laysSoon 47 = .ok (.goto 6, 3) := by decide +kernel
theorem dX12_laysSoon_50 : decode cX12_laysSoon 50 = .ok (.ldc_w 430, 3) := by decide +kernel
theorem dX12_laysSoon_53 : decode cX12_laysSoon 53 = .ok (.istore 5, 2) := by decide +kernel
theorem dX12_laysSoon_55 : decode cX12_laysSoon 55 = .ok (.iload_n 1, 1) := by decide +kernel
theorem dX12_laysSoon_56 : decode cX12_laysSoon 56 = .ok (.ifCond .ne 7, 3) := by decide +kernel
theorem dX12_laysSoon_59 : decode cX12_laysSoon 59 = .ok (.iconst 1, 1) := by decide +kernel
theorem dX12_laysSoon_60 : decode cX12_laysSoon 60 = .ok (.goto 4, 3) := by decide +kernel
theorem dX12_laysSoon_63 : decode cX12_laysSoon 63 = .ok (.iconst 0, 1) := by decide +kernel
theorem dX12_laysSoon_64 : decode cX12_laysSoon 64 = .ok (.istore 6, 2) := by decide +kernel
theorem dX12_laysSoon_66 : decode cX12_laysSoon 66 = .ok (.iload_n 3, 1) := by decide +kernel
theorem dX12_laysSoon_67 : decode cX12_laysSoon 67 = .ok (.aload_n 0, 1) := by decide +kernel
theorem dX12_laysSoon_68 : decode cX12_laysSoon 68 = .ok (.getfield 408, 3) := by decide +kernel
theorem dX12_laysSoon_71 : decode cX12_laysSoon 71 = .ok (.if_icmp .lt 13, 3) := by decide +kernel
theorem dX12_laysSoon_74 : decode cX12_laysSoon 74 = .ok (.iload_n 3, 1) := by decide +kernel
theorem dX12_laysSoon_75 : decode cX12_laysSoon 75 = .ok (.iconst 4, 1) := by decide +kernel
theorem dX12_laysSoon_76 : decode cX12_laysSoon 76 = .ok (.if_icmp .ne 132, 3) := by decide +kernel
theorem dX12_laysSoon_79 : decode cX12_laysSoon 79 = .ok (.iload 6, 2) := by decide +kernel
theorem dX12_laysSoon_81 : decode cX12_laysSoon 81 = .ok (.ifCond .eq 127, 3) := by decide +kernel
theorem dX12_laysSoon_84 : decode cX12_laysSoon 84 = .ok (.iconst 0, 1) := by decide +kernel
theorem dX12_laysSoon_85 : decode cX12_laysSoon 85 = .ok (.istore 7, 2) := by decide +kernel
theorem dX12_laysSoon_87 : decode cX12_laysSoon 87 = .ok (.iload 7, 2) := by decide +kernel
theorem dX12_laysSoon_89 : decode cX12_laysSoon 89 = .ok (.aload_n 0, 1) := by decide +kernel
theorem dX12_laysSoon_90 : decode cX12_laysSoon 90 = .ok (.getfield 408, 3) := by decide +kernel
theorem dX12_laysSoon_93 : decode cX12_laysSoon 93 = .ok (.if_icmp .ge 115, 3) := by decide +kernel
theorem dX12_laysSoon_96 : decode cX12_laysSoon 96 = .ok (.iload 6, 2) := by decide +kernel
theorem dX12_laysSoon_98 : decode cX12_laysSoon 98 = .ok (.ifCond .eq 8, 3) := by decide +kernel
theorem dX12_laysSoon_101 : decode cX12_laysSoon 101 = .ok (.bipush 21, 2) := by decide +kernel
theorem dX12_laysSoon_103 : decode cX12_laysSoon 103 = .ok (.goto 4, 3) := by decide +kernel
theorem dX12_laysSoon_106 : decode cX12_laysSoon 106 = .ok (.iconst 1, 1) := by decide +kernel
theorem dX12_laysSoon_107 : decode cX12_laysSoon 107 = .ok (.istore 8, 2) := by decide +kernel
theorem dX12_laysSoon_109 : decode cX12_laysSoon 109 = .ok (.iload 8, 2) := by decide +kernel
theorem dX12_laysSoon_111 : decode cX12_laysSoon 111 = .ok (.iload 6, 2) := by decide +kernel
theorem dX12_laysSoon_113 : decode cX12_laysSoon 113 = .ok (.ifCond .eq 8, 3) := by decide +kernel
theorem dX12_laysSoon_116 : decode cX12_laysSoon 116 = .ok (.bipush 22, 2) := by decide +kernel
theorem dX12_laysSoon_118 : decode cX12_laysSoon 118 = .ok (.goto 5, 3) := by decide +kernel
theorem dX12_laysSoon_121 : decode cX12_laysSoon 121 = .ok (.bipush 21, 2) := by decide +kernel
theorem dX12_laysSoon_123 : decode cX12_laysSoon 123 = .ok (.if_icmp .ge 79, 3) := by decide +kernel
theorem dX12_laysSoon_126 : decode cX12_laysSoon 126 = .ok (.aload_n 0, 1) := by decide +kernel
theorem dX12_laysSoon_127 : decode cX12_laysSoon 127 = .ok (.iload_n 1, 1) := by decide +kernel
theorem dX12_laysSoon_128 : decode cX12_laysSoon 128 = .ok (.iload_n 3, 1) := by decide +kernel
theorem dX12_laysSoon_129 : decode cX12_laysSoon 129 = .ok (.iload 4, 2) := by decide +kernel
theorem dX12_laysSoon_131 : decode cX12_laysSoon 131 = .ok (.iload 7, 2) := by decide +kernel
theorem dX12_laysSoon_133 : decode cX12_laysSoon 133 = .ok (.iload 8, 2) := by decide +kernel
theorem dX12_laysSoon_135 : decode cX12_laysSoon 135 = .ok (.invokevirtual 431, 3) := by decide +kernel
theorem dX12_laysSoon_138 : decode cX12_laysSoon 138 = .ok (.ifCond .ne 6, 3) := by decide +kernel
theorem dX12_laysSoon_141 : decode cX12_laysSoon 141 = .ok (.goto 55, 3) := by decide +kernel
theorem dX12_laysSoon_144 : decode cX12_laysSoon 144 = .ok (.aload_n 0, 1) := by decide +kernel
theorem dX12_laysSoon_145 : decode cX12_laysSoon 145 = .ok (.getfield 117, 3) := by decide +kernel
theorem dX12_laysSoon_148 : decode cX12_laysSoon 148 = .ok (.iload_n 1, 1) := by decide +kernel
theorem dX12_laysSoon_149 : decode cX12_laysSoon 149 = .ok (.iload 7, 2) := by decide +kernel
theorem dX12_laysSoon_151 : decode cX12_laysSoon 151 = .ok (.invokestatic 435, 3) := by decide +kernel
theorem dX12_laysSoon_154 : decode cX12_laysSoon 154 = .ok (.iadd, 1) := by decide +kernel
theorem dX12_laysSoon_155 : decode cX12_laysSoon 155 = .ok (.iload 7, 2) := by decide +kernel
theorem dX12_laysSoon_157 : decode cX12_laysSoon 157 = .ok (.iload 8, 2) := by decide +kernel
theorem dX12_laysSoon_159 : decode cX12_laysSoon 159 = .ok (.invokestatic 438, 3) := by decide +kernel
theorem dX12_laysSoon_162 : decode cX12_laysSoon 162 = .ok (.iaload, 1) := by decide +kernel
theorem dX12_laysSoon_163 : decode cX12_laysSoon 163 = .ok (.istore 9, 2) := by decide +kernel
theorem dX12_laysSoon_165 : decode cX12_laysSoon 165 = .ok (.iload 9, 2) := by decide +kernel
theorem dX12_laysSoon_167 : decode cX12_laysSoon 167 = .ok (.ldc_w 430, 3) := by decide +kernel
theorem dX12_laysSoon_170 : decode cX12_laysSoon 170 = .ok (.if_icmp .ge 26, 3) := by decide +kernel
theorem dX12_laysSoon_173 : decode cX12_laysSoon 173 = .ok (.iload 8, 2) := by decide +kernel
theorem dX12_laysSoon_175 : decode cX12_laysSoon 175 = .ok (.invokestatic 441, 3) := by decide +kernel
theorem dX12_laysSoon_178 : decode cX12_laysSoon 178 = .ok (.iload 9, 2) := by decide +kernel
theorem dX12_laysSoon_180 : decode cX12_laysSoon 180 = .ok (.iadd, 1) := by decide +kernel
theorem dX12_laysSoon_181 : decode cX12_laysSoon 181 = .ok (.iload 5, 2) := by decide +kernel
theorem dX12_laysSoon_183 : decode cX12_laysSoon 183 = .ok (.if_icmp .ge 13, 3) := by decide +kernel
theorem dX12_laysSoon_186 : decode cX12_laysSoon 186 = .ok (.iload 8, 2) := by decide +kernel
theorem dX12_laysSoon_188 : decode cX12_laysSoon 188 = .ok (.invokestatic 441, 3) := by decide +kernel
theorem dX12_laysSoon_191 : decode cX12_laysSoon 191 = .ok (.iload 9, 2) := by decide +kernel
theorem dX12_laysSoon_193 : decode cX12_laysSoon 193 = .ok (.iadd, 1) := by decide +kernel
theorem dX12_laysSoon_194 : decode cX12_laysSoon 194 = .ok (.istore 5, 2) := by decide +kernel
theorem dX12_laysSoon_196 : decode cX12_laysSoon 196 = .ok (.iinc 8 1, 3) := by decide +kernel
theorem dX12_laysSoon_199 : decode cX12_laysSoon 199 = .ok (.goto (-90), 3) := by decide +kernel
theorem dX12_laysSoon_202 : decode cX12_laysSoon 202 = .ok (.iinc 7 1, 3) := by decide +kernel
theorem dX12_laysSoon_205 : decode cX12_laysSoon 205 = .ok (.goto (-118), 3) := by decide +kernel
theorem dX12_laysSoon_208 : decode cX12_laysSoon 208 = .ok (.aload_n 0, 1) := by decide +kernel
theorem dX12_laysSoon_209 : decode cX12_laysSoon 209 = .ok (.getfield 117, 3) := by decide +kernel
theorem dX12_laysSoon_212 : decode cX12_laysSoon 212 = .ok (.iload_n 1, 1) := by decide +kernel
theorem dX12_laysSoon_213 : decode cX12_laysSoon 213 = .ok (.iload_n 3, 1) := by decide +kernel
theorem dX12_laysSoon_214 : decode cX12_laysSoon 214 = .ok (.iload 4, 2) := by decide +kernel
theorem dX12_laysSoon_216 : decode cX12_laysSoon 216 = .ok (.invokestatic 438, 3) := by decide +kernel
theorem dX12_laysSoon_219 : decode cX12_laysSoon 219 = .ok (.iload 5, 2) := by decide +kernel
theorem dX12_laysSoon_221 : decode cX12_laysSoon 221 = .ok (.iastore, 1) := by decide +kernel
theorem dX12_laysSoon_222 : decode cX12_laysSoon 222 = .ok (.iinc 4 1, 3) := by decide +kernel
theorem dX12_laysSoon_225 : decode cX12_laysSoon 225 = .ok (.goto (-190), 3) := by decide +kernel
theorem dX12_laysSoon_228 : decode cX12_laysSoon 228 = .ok (.iinc 3 1, 3) := by decide +kernel
theorem dX12_laysSoon_231 : decode cX12_laysSoon 231 = .ok (.goto (-204), 3) := by decide +kernel
theorem dX12_laysSoon_234 : decode cX12_laysSoon 234 = .ok (.iinc 1 (-1), 3) := by decide +kernel
theorem dX12_laysSoon_237 : decode cX12_laysSoon 237 = .ok (.goto (-233), 3) := by decide +kernel
theorem dX12_laysSoon_240 : decode cX12_laysSoon 240 = .ok (.return_, 1) := by decide +kernel
theorem dX12_goesBy_0 : decode cX12_goesBy 0 = .ok (.iconst 0, 1) := by decide +kernel
theorem dX12_goesBy_1 : decode cX12_goesBy 1 = .ok (.istore 5, 2) := by decide +kernel
theorem dX12_goesBy_3 : decode cX12_goesBy 3 = .ok (.iconst 1, 1) := by decide +kernel
theorem dX12_goesBy_4 : decode cX12_goesBy 4 = .ok (.istore 6, 2) := by decide +kernel
theorem dX12_goesBy_6 : decode cX12_goesBy 6 = .ok (.iload 6, 2) := by decide +kernel
theorem dX12_goesBy_8 : decode cX12_goesBy 8 = .ok (.bipush 22, 2) := by decide +kernel
theorem dX12_goesBy_10 : decode cX12_goesBy 10 = .ok (.if_icmp .ge 161, 3) := by decide +kernel
theorem dX12_goesBy_13 : decode cX12_goesBy 13 = .ok (.aload_n 0, 1) := by decide +kernel
theorem dX12_goesBy_14 : decode cX12_goesBy 14 = .ok (.getfield 126, 3) := by decide +kernel
theorem dX12_goesBy_17 : decode cX12_goesBy 17 = .ok (.bipush 22, 2) := by decide +kernel
theorem dX12_goesBy_19 : decode cX12_goesBy 19 = .ok (.aload_n 0, 1) := by decide +kernel
theorem dX12_goesBy_20 : decode cX12_goesBy 20 = .ok (.getfield 444, 3) := by decide +kernel
theorem dX12_goesBy_23 : decode cX12_goesBy 23 = .ok (.imul, 1) := by decide +kernel
theorem dX12_goesBy_24 : decode cX12_goesBy 24 = .ok (.iload 6, 2) := by decide +kernel
theorem dX12_goesBy_26 : decode cX12_goesBy 26 = .ok (.iadd, 1) := by decide +kernel
theorem dX12_goesBy_27 : decode cX12_goesBy 27 = .ok (.baload, 1) := by decide +kernel
theorem dX12_goesBy_28 : decode cX12_goesBy 28 = .ok (.ifCond .ne 6, 3) := by decide +kernel
theorem dX12_goesBy_31 : decode cX12_goesBy 31 = .ok (.goto 134, 3) := by decide +kernel
theorem dX12_goesBy_34 : decode cX12_goesBy 34 = .ok (.iload_n 1, 1) := by decide +kernel
theorem dX12_goesBy_35 : decode cX12_goesBy 35 = .ok (.ifCond .ne 8, 3) := by decide +kernel
theorem dX12_goesBy_38 : decode cX12_goesBy 38 = .ok (.bipush 21, 2) := by decide +kernel
theorem dX12_goesBy_40 : decode cX12_goesBy 40 = .ok (.goto 4, 3) := by decide +kernel
theorem dX12_goesBy_43 : decode cX12_goesBy 43 = .ok (.iconst 1, 1) := by decide +kernel
theorem dX12_goesBy_44 : decode cX12_goesBy 44 = .ok (.istore 7, 2) := by decide +kernel
theorem dX12_goesBy_46 : decode cX12_goesBy 46 = .ok (.iload 7, 2) := by decide +kernel
theorem dX12_goesBy_48 : decode cX12_goesBy 48 = .ok (.iload_n 1, 1) := by decide +kernel
theorem dX12_goesBy_49 : decode cX12_goesBy 49 = .ok (.ifCond .ne 8, 3) := by decide +kernel
theorem dX12_goesBy_52 : decode cX12_goesBy 52 = .ok (.bipush 22, 2) := by decide +kernel
theorem dX12_goesBy_54 : decode cX12_goesBy 54 = .ok (.goto 5, 3) := by decide +kernel
theorem dX12_goesBy_57 : decode cX12_goesBy 57 = .ok (.bipush 21, 2) := by decide +kernel
theorem dX12_goesBy_59 : decode cX12_goesBy 59 = .ok (.if_icmp .ge 106, 3) := by decide +kernel
theorem dX12_goesBy_62 : decode cX12_goesBy 62 = .ok (.aload_n 0, 1) := by decide +kernel
theorem dX12_goesBy_63 : decode cX12_goesBy 63 = .ok (.iload_n 1, 1) := by decide +kernel
theorem dX12_goesBy_64 : decode cX12_goesBy 64 = .ok (.iload_n 2, 1) := by decide +kernel
theorem dX12_goesBy_65 : decode cX12_goesBy 65 = .ok (.iload 6, 2) := by decide +kernel
theorem dX12_goesBy_67 : decode cX12_goesBy 67 = .ok (.iload_n 3, 1) := by decide +kernel
theorem dX12_goesBy_68 : decode cX12_goesBy 68 = .ok (.iload 7, 2) := by decide +kernel
theorem dX12_goesBy_70 : decode cX12_goesBy 70 = .ok (.invokevirtual 431, 3) := by decide +kernel
theorem dX12_goesBy_73 : decode cX12_goesBy 73 = .ok (.ifCond .ne 6, 3) := by decide +kernel
theorem dX12_goesBy_76 : decode cX12_goesBy 76 = .ok (.goto 83, 3) := by decide +kernel
theorem dX12_goesBy_79 : decode cX12_goesBy 79 = .ok (.aload_n 0, 1) := by decide +kernel
theorem dX12_goesBy_80 : decode cX12_goesBy 80 = .ok (.getfield 117, 3) := by decide +kernel
theorem dX12_goesBy_83 : decode cX12_goesBy 83 = .ok (.iload_n 1, 1) := by decide +kernel
theorem dX12_goesBy_84 : decode cX12_goesBy 84 = .ok (.iload_n 3, 1) := by decide +kernel
theorem dX12_goesBy_85 : decode cX12_goesBy 85 = .ok (.invokestatic 435, 3) := by decide +kernel
theorem dX12_goesBy_88 : decode cX12_goesBy 88 = .ok (.iadd, 1) := by decide +kernel
theorem dX12_goesBy_89 : decode cX12_goesBy 89 = .ok (.iload_n 3, 1) := by decide +kernel
theorem dX12_goesBy_90 : decode cX12_goesBy 90 = .ok (.iload 7, 2) := by decide +kernel
theorem dX12_goesBy_92 : decode cX12_goesBy 92 = .ok (.invokestatic 438, 3) := by decide +kernel
theorem dX12_goesBy_95 : decode cX12_goesBy 95 = .ok (.iaload, 1) := by decide +kernel
theorem dX12_goesBy_96 : decode cX12_goesBy 96 = .ok (.istore 8, 2) := by decide +kernel
theorem dX12_goesBy_98 : decode cX12_goesBy 98 = .ok (.iload 8, 2) := by decide +kernel
theorem dX12_goesBy_100 : decode cX12_goesBy 100 = .ok (.ldc_w 430, 3) := by decide +kernel
theorem dX12_goesBy_103 : decode cX12_goesBy 103 = .ok (.if_icmp .ge 56, 3) := by decide +kernel
theorem dX12_goesBy_106 : decode cX12_goesBy 106 = .ok (.iload 7, 2) := by decide +kernel
theorem dX12_goesBy_108 : decode cX12_goesBy 108 = .ok (.invokestatic 441, 3) := by decide +kernel
theorem dX12_goesBy_111 : decode cX12_goesBy 111 = .ok (.iload 8, 2) := by decide +kernel
theorem dX12_goesBy_113 : decode cX12_goesBy 113 = .ok (.iadd, 1) := by decide +kernel
theorem dX12_goesBy_114 : decode cX12_goesBy 114 = .ok (.aload_n 0, 1) := by decide +kernel
theorem dX12_goesBy_115 : decode cX12_goesBy 115 = .ok (.getfield 117, 3) := by decide +kernel
theorem dX12_goesBy_118 : decode cX12_goesBy 118 = .ok (.iload_n 1, 1) := by decide +kernel
theorem dX12_goesBy_119 : decode cX12_goesBy 119 = .ok (.iload_n 2, 1) := by decide +kernel
theorem dX12_goesBy_120 : decode cX12_goesBy 120 = .ok (.iload 6, 2) := by decide +kernel
theorem dX12_goesBy_122 : decode cX12_goesBy 122 = .ok (.invokestatic 438, 3) := by decide +kernel
theorem dX12_goesBy_125 : decode cX12_goesBy 125 = .ok (.iaload, 1) := by decide +kernel
theorem dX12_goesBy_126 : decode cX12_goesBy 126 = .ok (.if_icmp .eq 6, 3) := by decide +kernel
theorem dX12_goesBy_129 : decode cX12_goesBy 129 = .ok (.goto 30, 3) := by decide +kernel
theorem dX12_goesBy_132 : decode cX12_goesBy 132 = .ok (.iconst 1, 1) := by decide +kernel
theorem dX12_goesBy_133 : decode cX12_goesBy 133 = .ok (.istore 5, 2) := by decide +kernel
theorem dX12_goesBy_135 : decode cX12_goesBy 135 = .ok (.iload 4, 2) := by decide +kernel
theorem dX12_goesBy_137 : decode cX12_goesBy 137 = .ok (.ifCond .eq 22, 3) := by decide +kernel
theorem dX12_goesBy_140 : decode cX12_goesBy 140 = .ok (.aload_n 0, 1) := by decide +kernel
theorem dX12_goesBy_141 : decode cX12_goesBy 141 = .ok (.getfield 126, 3) := by decide +kernel
theorem dX12_goesBy_144 : decode cX12_goesBy 144 = .ok (.bipush 22, 2) := by decide +kernel
theorem dX12_goesBy_146 : decode cX12_goesBy 146 = .ok (.aload_n 0, 1) := by decide +kernel
theorem dX12_goesBy_147 : decode cX12_goesBy 147 = .ok (.getfield 444, 3) := by decide +kernel
theorem dX12_goesBy_150 : decode cX12_goesBy 150 = .ok (.imul, 1) := by decide +kernel
theorem dX12_goesBy_151 : decode cX12_goesBy 151 = .ok (.bipush 22, 2) := by decide +kernel
theorem dX12_goesBy_153 : decode cX12_goesBy 153 = .ok (.iadd, 1) := by decide +kernel
theorem dX12_goesBy_154 : decode cX12_goesBy 154 = .ok (.iload 7, 2) := by decide +kernel
theorem dX12_goesBy_156 : decode cX12_goesBy 156 = .ok (.iadd, 1) := by decide +kernel
theorem dX12_goesBy_157 : decode cX12_goesBy 157 = .ok (.iconst 1, 1) := by decide +kernel
theorem dX12_goesBy_158 : decode cX12_goesBy 158 = .ok (.bastore, 1) := by decide +kernel
theorem dX12_goesBy_159 : decode cX12_goesBy 159 = .ok (.iinc 7 1, 3) := by decide +kernel
theorem dX12_goesBy_162 : decode cX12_goesBy 162 = .ok (.goto (-116), 3) := by decide +kernel
theorem dX12_goesBy_165 : decode cX12_goesBy 165 = .ok (.iinc 6 1, 3) := by decide +kernel
theorem dX12_goesBy_168 : decode cX12_goesBy 168 = .ok (.goto (-162), 3) := by decide +kernel
theorem dX12_goesBy_171 : decode cX12_goesBy 171 = .ok (.iload 5, 2) := by decide +kernel
theorem dX12_goesBy_173 : decode cX12_goesBy 173 = .ok (.ireturn, 1) := by decide +kernel
theorem dX12_findsWho_0 : decode cX12_findsWho 0 = .ok (.iconst 0, 1) := by decide +kernel
theorem dX12_findsWho_1 : decode cX12_findsWho 1 = .ok (.istore_n 1, 1) := by decide +kernel
theorem dX12_findsWho_2 : decode cX12_findsWho 2 = .ok (.iload_n 1, 1) := by decide +kernel
theorem dX12_findsWho_3 : decode cX12_findsWho 3 = .ok (.sipush 374, 3) := by decide +kernel
theorem dX12_findsWho_6 : decode cX12_findsWho 6 = .ok (.if_icmp .ge 16, 3) := by decide +kernel
theorem dX12_findsWho_9 : decode cX12_findsWho 9 = .ok (.aload_n 0, 1) := by decide +kernel
theorem dX12_findsWho_10 : decode cX12_findsWho 10 = .ok (.getfield 126, 3) := by decide +kernel
theorem dX12_findsWho_13 : decode cX12_findsWho 13 = .ok (.iload_n 1, 1) := by decide +kernel
theorem dX12_findsWho_14 : decode cX12_findsWho 14 = .ok (.iconst 0, 1) := by decide +kernel
theorem dX12_findsWho_15 : decode cX12_findsWho 15 = .ok (.bastore, 1) := by decide +kernel
theorem dX12_findsWho_16 : decode cX12_findsWho 16 = .ok (.iinc 1 1, 3) := by decide +kernel
theorem dX12_findsWho_19 : decode cX12_findsWho 19 = .ok (.goto (-17), 3) := by decide +kernel
theorem dX12_findsWho_22 : decode cX12_findsWho 22 = .ok (.aload_n 0, 1) := by decide +kernel
theorem dX12_findsWho_23 : decode cX12_findsWho 23 = .ok (.getfield 126, 3) := by decide +kernel
theorem dX12_findsWho_26 : decode cX12_findsWho 26 = .ok (.bipush 21, 2) := by decide +kernel
theorem dX12_findsWho_28 : decode cX12_findsWho 28 = .ok (.iconst 1, 1) := by decide +kernel
theorem dX12_findsWho_29 : decode cX12_findsWho 29 = .ok (.bastore, 1) := by decide +kernel
theorem dX12_findsWho_30 : decode cX12_findsWho 30 = .ok (.iconst 0, 1) := by decide +kernel
theorem dX12_findsWho_31 : decode cX12_findsWho 31 = .ok (.istore_n 1, 1) := by decide +kernel
theorem dX12_findsWho_32 : decode cX12_findsWho 32 = .ok (.iconst 4, 1) := by decide +kernel
theorem dX12_findsWho_33 : decode cX12_findsWho 33 = .ok (.istore_n 2, 1) := by decide +kernel
theorem dX12_findsWho_34 : decode cX12_findsWho 34 = .ok (.aload_n 0, 1) := by decide +kernel
theorem dX12_findsWho_35 : decode cX12_findsWho 35 = .ok (.iconst 0, 1) := by decide +kernel
theorem dX12_findsWho_36 : decode cX12_findsWho 36 = .ok (.putfield 444, 3) := by decide +kernel
theorem dX12_findsWho_39 : decode cX12_findsWho 39 = .ok (.aload_n 0, 1) := by decide +kernel
theorem dX12_findsWho_40 : decode cX12_findsWho 40 = .ok (.iload_n 1, 1) := by decide +kernel
theorem dX12_findsWho_41 : decode cX12_findsWho 41 = .ok (.invokevirtual 427, 3) := by decide +kernel
theorem dX12_findsWho_44 : decode cX12_findsWho 44 = .ok (.ifCond .ne 64, 3) := by decide +kernel
theorem dX12_findsWho_47 : decode cX12_findsWho 47 = .ok (.iconst 0, 1) := by decide +kernel
theorem dX12_findsWho_48 : decode cX12_findsWho 48 = .ok (.istore_n 3, 1) := by decide +kernel
theorem dX12_findsWho_49 : decode cX12_findsWho 49 = .ok (.aload_n 0, 1) := by decide +kernel
theorem dX12_findsWho_50 : decode cX12_findsWho 50 = .ok (.iload_n 1, 1) := by decide +kernel
theorem dX12_findsWho_51 : decode cX12_findsWho 51 = .ok (.iload_n 2, 1) := by decide +kernel
theorem dX12_findsWho_52 : decode cX12_findsWho 52 = .ok (.iload_n 3, 1) := by decide +kernel
theorem dX12_findsWho_53 : decode cX12_findsWho 53 = .ok (.iconst 0, 1) := by decide +kernel
theorem dX12_findsWho_54 : decode cX12_findsWho 54 = .ok (.invokevirtual 447, 3) := by decide +kernel
theorem dX12_findsWho_57 : decode cX12_findsWho 57 = .ok (.ifCond .ne 9, 3) := by decide +kernel
theorem dX12_findsWho_60 : decode cX12_findsWho 60 = .ok (.iinc 3 1, 3) := by decide +kernel
theorem dX12_findsWho_63 : decode cX12_findsWho 63 = .ok (.goto (-14), 3) := by decide +kernel
theorem dX12_findsWho_66 : decode cX12_findsWho 66 = .ok (.aload_n 0, 1) := by decide +kernel
theorem dX12_findsWho_67 : decode cX12_findsWho 67 = .ok (.iload_n 1, 1) := by decide +kernel
theorem dX12_findsWho_68 : decode cX12_findsWho 68 = .ok (.iload_n 2, 1) := by decide +kernel
theorem dX12_findsWho_69 : decode cX12_findsWho 69 = .ok (.iload_n 3, 1) := by decide +kernel
theorem dX12_findsWho_70 : decode cX12_findsWho 70 = .ok (.iconst 1, 1) := by decide +kernel
theorem dX12_findsWho_71 : decode cX12_findsWho 71 = .ok (.invokevirtual 447, 3) := by decide +kernel
theorem dX12_findsWho_74 : decode cX12_findsWho 74 = .ok (.istore 4, 2) := by decide +kernel
theorem dX12_findsWho_76 : decode cX12_findsWho 76 = .ok (.aload_n 0, 1) := by decide +kernel
theorem dX12_findsWho_77 : decode cX12_findsWho 77 = .ok (.getfield 120, 3) := by decide +kernel
theorem dX12_findsWho_80 : decode cX12_findsWho 80 = .ok (.aload_n 0, 1) := by decide +kernel
theorem dX12_findsWho_81 : decode cX12_findsWho 81 = .ok (.getfield 444, 3) := by decide +kernel
theorem dX12_findsWho_84 : decode cX12_findsWho 84 = .ok (.iload_n 3, 1) := by decide +kernel
theorem dX12_findsWho_85 : decode cX12_findsWho 85 = .ok (.iastore, 1) := by decide +kernel
theorem dX12_findsWho_86 : decode cX12_findsWho 86 = .ok (.aload_n 0, 1) := by decide +kernel
theorem dX12_findsWho_87 : decode cX12_findsWho 87 = .ok (.dup, 1) := by decide +kernel
theorem dX12_findsWho_88 : decode cX12_findsWho 88 = .ok (.getfield 444, 3) := by decide +kernel
theorem dX12_findsWho_91 : decode cX12_findsWho 91 = .ok (.iconst 1, 1) := by decide +kernel
theorem dX12_findsWho_92 : decode cX12_findsWho 92 = .ok (.iadd, 1) := by decide +kernel
theorem dX12_findsWho_93 : decode cX12_findsWho 93 = .ok (.putfield 444, 3) := by decide +kernel
theorem dX12_findsWho_96 : decode cX12_findsWho 96 = .ok (.iload_n 1, 1) := by decide +kernel
theorem dX12_findsWho_97 : decode cX12_findsWho 97 = .ok (.iload_n 3, 1) := by decide +kernel
theorem dX12_findsWho_98 : decode cX12_findsWho 98 = .ok (.invokestatic 435, 3) := by decide +kernel
theorem dX12_findsWho_101 : decode cX12_findsWho 101 = .ok (.iadd, 1) := by decide +kernel
theorem dX12_findsWho_102 : decode cX12_findsWho 102 = .ok (.istore_n 1, 1) := by decide +kernel
theorem dX12_findsWho_103 : decode cX12_findsWho 103 = .ok (.iload_n 3, 1) := by decide +kernel
theorem dX12_findsWho_104 : decode cX12_findsWho 104 = .ok (.istore_n 2, 1) := by decide +kernel
theorem dX12_findsWho_105 : decode cX12_findsWho 105 = .ok (.goto (-66), 3) := by decide +kernel
theorem dX12_findsWho_108 : decode cX12_findsWho 108 = .ok (.return_, 1) := by decide +kernel
theorem dX12_stateAfter_0 : decode cX12_stateAfter 0 = .ok (.iconst 0, 1) := by decide +kernel
theorem dX12_stateAfter_1 : decode cX12_stateAfter 1 = .ok (.istore_n 2, 1) := by decide +kernel
theorem dX12_stateAfter_2 : decode cX12_stateAfter 2 = .ok (.iconst 0, 1) := by decide +kernel
theorem dX12_stateAfter_3 : decode cX12_stateAfter 3 = .ok (.istore_n 3, 1) := by decide +kernel
theorem dX12_stateAfter_4 : decode cX12_stateAfter 4 = .ok (.iload_n 3, 1) := by decide +kernel
theorem dX12_stateAfter_5 : decode cX12_stateAfter 5 = .ok (.iload_n 1, 1) := by decide +kernel
theorem dX12_stateAfter_6 : decode cX12_stateAfter 6 = .ok (.if_icmp .ge 21, 3) := by decide +kernel
theorem dX12_stateAfter_9 : decode cX12_stateAfter 9 = .ok (.iload_n 2, 1) := by decide +kernel
theorem dX12_stateAfter_10 : decode cX12_stateAfter 10 = .ok (.aload_n 0, 1) := by decide +kernel
theorem dX12_stateAfter_11 : decode cX12_stateAfter 11 = .ok (.getfield 120, 3) := by decide +kernel
theorem dX12_stateAfter_14 : decode cX12_stateAfter 14 = .ok (.iload_n 3, 1) := by decide +kernel
theorem dX12_stateAfter_15 : decode cX12_stateAfter 15 = .ok (.iaload, 1) := by decide +kernel
theorem dX12_stateAfter_16 : decode cX12_stateAfter 16 = .ok (.invokestatic 435, 3) := by decide +kernel
theorem dX12_stateAfter_19 : decode cX12_stateAfter 19 = .ok (.iadd, 1) := by decide +kernel
theorem dX12_stateAfter_20 : decode cX12_stateAfter 20 = .ok (.istore_n 2, 1) := by decide +kernel
theorem dX12_stateAfter_21 : decode cX12_stateAfter 21 = .ok (.iinc 3 1, 3) := by decide +kernel
theorem dX12_stateAfter_24 : decode cX12_stateAfter 24 = .ok (.goto (-20), 3) := by decide +kernel
theorem dX12_stateAfter_27 : decode cX12_stateAfter 27 = .ok (.iload_n 2, 1) := by decide +kernel
theorem dX12_stateAfter_28 : decode cX12_stateAfter 28 = .ok (.ireturn, 1) := by decide +kernel
theorem dX12_follows_0 : decode cX12_follows 0 = .ok (.aload_n 0, 1) := by decide +kernel
theorem dX12_follows_1 : decode cX12_follows 1 = .ok (.iload_n 1, 1) := by decide +kernel
theorem dX12_follows_2 : decode cX12_follows 2 = .ok (.invokevirtual 451, 3) := by decide +kernel
theorem dX12_follows_5 : decode cX12_follows 5 = .ok (.istore 4, 2) := by decide +kernel
theorem dX12_follows_7 : decode cX12_follows 7 = .ok (.iload_n 1, 1) := by decide +kernel
theorem dX12_follows_8 : decode cX12_follows 8 = .ok (.ifCond .ne 7, 3) := by decide +kernel
theorem dX12_follows_11 : decode cX12_follows 11 = .ok (.iconst 4, 1) := by decide +kernel
theorem dX12_follows_12 : decode cX12_follows 12 = .ok (.goto 11, 3) := by decide +kernel
theorem dX12_follows_15 : decode cX12_follows 15 = .ok (.aload_n 0, 1) := by decide +kernel
theorem dX12_follows_16 : decode cX12_follows 16 = .ok (.getfield 120, 3) := by decide +kernel
theorem dX12_follows_19 : decode cX12_follows 19 = .ok (.iload_n 1, 1) := by decide +kernel
theorem dX12_follows_20 : decode cX12_follows 20 = .ok (.iconst 1, 1) := by decide +kernel
theorem dX12_follows_21 : decode cX12_follows 21 = .ok (.isub, 1) := by decide +kernel
theorem dX12_follows_22 : decode cX12_follows 22 = .ok (.iaload, 1) := by decide +kernel
theorem dX12_follows_23 : decode cX12_follows 23 = .ok (.istore 5, 2) := by decide +kernel
theorem dX12_follows_25 : decode cX12_follows 25 = .ok (.aload_n 0, 1) := by decide +kernel
theorem dX12_follows_26 : decode cX12_follows 26 = .ok (.iload 4, 2) := by decide +kernel
theorem dX12_follows_28 : decode cX12_follows 28 = .ok (.iload 5, 2) := by decide +kernel
theorem dX12_follows_30 : decode cX12_follows 30 = .ok (.iload_n 2, 1) := by decide +kernel
theorem dX12_follows_31 : decode cX12_follows 31 = .ok (.aload_n 0, 1) := by decide +kernel
theorem dX12_follows_32 : decode cX12_follows 32 = .ok (.getfield 120, 3) := by decide +kernel
theorem dX12_follows_35 : decode cX12_follows 35 = .ok (.iload_n 1, 1) := by decide +kernel
theorem dX12_follows_36 : decode cX12_follows 36 = .ok (.iaload, 1) := by decide +kernel
theorem dX12_follows_37 : decode cX12_follows 37 = .ok (.iload_n 3, 1) := by decide +kernel
theorem dX12_follows_38 : decode cX12_follows 38 = .ok (.invokevirtual 431, 3) := by decide +kernel
theorem dX12_follows_41 : decode cX12_follows 41 = .ok (.ifCond .ne 5, 3) := by decide +kernel
theorem dX12_follows_44 : decode cX12_follows 44 = .ok (.iconst 0, 1) := by decide +kernel
theorem dX12_follows_45 : decode cX12_follows 45 = .ok (.ireturn, 1) := by decide +kernel
theorem dX12_follows_46 : decode cX12_follows 46 = .ok (.aload_n 0, 1) := by decide +kernel
theorem dX12_follows_47 : decode cX12_follows 47 = .ok (.getfield 117, 3) := by decide +kernel
theorem dX12_follows_50 : decode cX12_follows 50 = .ok (.iload 4, 2) := by decide +kernel
theorem dX12_follows_52 : decode cX12_follows 52 = .ok (.aload_n 0, 1) := by decide +kernel
theorem dX12_follows_53 : decode cX12_follows 53 = .ok (.getfield 120, 3) := by decide +kernel
theorem dX12_follows_56 : decode cX12_follows 56 = .ok (.iload_n 1, 1) := by decide +kernel
theorem dX12_follows_57 : decode cX12_follows 57 = .ok (.iaload, 1) := by decide +kernel
theorem dX12_follows_58 : decode cX12_follows 58 = .ok (.invokestatic 435, 3) := by decide +kernel
theorem dX12_follows_61 : decode cX12_follows 61 = .ok (.iadd, 1) := by decide +kernel
theorem dX12_follows_62 : decode cX12_follows 62 = .ok (.aload_n 0, 1) := by decide +kernel
theorem dX12_follows_63 : decode cX12_follows 63 = .ok (.getfield 120, 3) := by decide +kernel
theorem dX12_follows_66 : decode cX12_follows 66 = .ok (.iload_n 1, 1) := by decide +kernel
theorem dX12_follows_67 : decode cX12_follows 67 = .ok (.iaload, 1) := by decide +kernel
theorem dX12_follows_68 : decode cX12_follows 68 = .ok (.iload_n 3, 1) := by decide +kernel
theorem dX12_follows_69 : decode cX12_follows 69 = .ok (.invokestatic 438, 3) := by decide +kernel
theorem dX12_follows_72 : decode cX12_follows 72 = .ok (.iaload, 1) := by decide +kernel
theorem dX12_follows_73 : decode cX12_follows 73 = .ok (.istore 6, 2) := by decide +kernel
theorem dX12_follows_75 : decode cX12_follows 75 = .ok (.iload 6, 2) := by decide +kernel
theorem dX12_follows_77 : decode cX12_follows 77 = .ok (.ldc_w 430, 3) := by decide +kernel
theorem dX12_follows_80 : decode cX12_follows 80 = .ok (.if_icmp .ge 30, 3) := by decide +kernel
theorem dX12_follows_83 : decode cX12_follows 83 = .ok (.iload_n 3, 1) := by decide +kernel
theorem dX12_follows_84 : decode cX12_follows 84 = .ok (.invokestatic 441, 3) := by decide +kernel
theorem dX12_follows_87 : decode cX12_follows 87 = .ok (.iload 6, 2) := by decide +kernel
theorem dX12_follows_89 : decode cX12_follows 89 = .ok (.iadd, 1) := by decide +kernel
theorem dX12_follows_90 : decode cX12_follows 90 = .ok (.aload_n 0, 1) := by decide +kernel
theorem dX12_follows_91 : decode cX12_follows 91 = .ok (.getfield 117, 3) := by decide +kernel
theorem dX12_follows_94 : decode cX12_follows 94 = .ok (.iload 4, 2) := by decide +kernel
theorem dX12_follows_96 : decode cX12_follows 96 = .ok (.iload 5, 2) := by decide +kernel
theorem dX12_follows_98 : decode cX12_follows 98 = .ok (.iload_n 2, 1) := by decide +kernel
theorem dX12_follows_99 : decode cX12_follows 99 = .ok (.invokestatic 438, 3) := by decide +kernel
theorem dX12_follows_102 : decode cX12_follows 102 = .ok (.iaload, 1) := by decide +kernel
theorem dX12_follows_103 : decode cX12_follows 103 = .ok (.if_icmp .ne 7, 3) := by decide +kernel
theorem dX12_follows_106 : decode cX12_follows 106 = .ok (.iconst 1, 1) := by decide +kernel
theorem dX12_follows_107 : decode cX12_follows 107 = .ok (.goto 4, 3) := by decide +kernel
theorem dX12_follows_110 : decode cX12_follows 110 = .ok (.iconst 0, 1) := by decide +kernel
theorem dX12_follows_111 : decode cX12_follows 111 = .ok (.ireturn, 1) := by decide +kernel
theorem dX12_findsGaps_0 : decode cX12_findsGaps 0 = .ok (.aload_n 0, 1) := by decide +kernel
theorem dX12_findsGaps_1 : decode cX12_findsGaps 1 = .ok (.getfield 444, 3) := by decide +kernel
theorem dX12_findsGaps_4 : decode cX12_findsGaps 4 = .ok (.iconst 1, 1) := by decide +kernel
theorem dX12_findsGaps_5 : decode cX12_findsGaps 5 = .ok (.isub, 1) := by decide +kernel
theorem dX12_findsGaps_6 : decode cX12_findsGaps 6 = .ok (.istore_n 1, 1) := by decide +kernel
theorem dX12_findsGaps_7 : decode cX12_findsGaps 7 = .ok (.iload_n 1, 1) := by decide +kernel
theorem dX12_findsGaps_8 : decode cX12_findsGaps 8 = .ok (.ifCond .le 106, 3) := by decide +kernel
theorem dX12_findsGaps_11 : decode cX12_findsGaps 11 = .ok (.iconst 1, 1) := by decide +kernel
theorem dX12_findsGaps_12 : decode cX12_findsGaps 12 = .ok (.istore_n 2, 1) := by decide +kernel
theorem dX12_findsGaps_13 : decode cX12_findsGaps 13 = .ok (.iload_n 2, 1) := by decide +kernel
theorem dX12_findsGaps_14 : decode cX12_findsGaps 14 = .ok (.bipush 22, 2) := by decide +kernel
theorem dX12_findsGaps_16 : decode cX12_findsGaps 16 = .ok (.if_icmp .ge 92, 3) := by decide +kernel
theorem dX12_findsGaps_19 : decode cX12_findsGaps 19 = .ok (.iconst 0, 1) := by decide +kernel
theorem dX12_findsGaps_20 : decode cX12_findsGaps 20 = .ok (.istore_n 3, 1) := by decide +kernel
theorem dX12_findsGaps_21 : decode cX12_findsGaps 21 = .ok (.iconst 1, 1) := by decide +kernel
theorem dX12_findsGaps_22 : decode cX12_findsGaps 22 = .ok (.istore 4, 2) := by decide +kernel
theorem dX12_findsGaps_24 : decode cX12_findsGaps 24 = .ok (.iload 4, 2) := by decide +kernel
theorem dX12_findsGaps_26 : decode cX12_findsGaps 26 = .ok (.bipush 21, 2) := by decide +kernel
theorem dX12_findsGaps_28 : decode cX12_findsGaps 28 = .ok (.if_icmp .ge 62, 3) := by decide +kernel
theorem dX12_findsGaps_31 : decode cX12_findsGaps 31 = .ok (.aload_n 0, 1) := by decide +kernel
theorem dX12_findsGaps_32 : decode cX12_findsGaps 32 = .ok (.getfield 126, 3) := by decide +kernel
theorem dX12_findsGaps_35 : decode cX12_findsGaps 35 = .ok (.bipush 22, 2) := by decide +kernel
theorem dX12_findsGaps_37 : decode cX12_findsGaps 37 = .ok (.iload_n 1, 1) := by decide +kernel
theorem dX12_findsGaps_38 : decode cX12_findsGaps 38 = .ok (.imul, 1) := by decide +kernel
theorem dX12_findsGaps_39 : decode cX12_findsGaps 39 = .ok (.iload_n 2, 1) := by decide +kernel
theorem dX12_findsGaps_40 : decode cX12_findsGaps 40 = .ok (.iadd, 1) := by decide +kernel
theorem dX12_findsGaps_41 : decode cX12_findsGaps 41 = .ok (.baload, 1) := by decide +kernel
theorem dX12_findsGaps_42 : decode cX12_findsGaps 42 = .ok (.ifCond .eq 48, 3) := by decide +kernel
theorem dX12_findsGaps_45 : decode cX12_findsGaps 45 = .ok (.iload_n 3, 1) := by decide +kernel
theorem dX12_findsGaps_46 : decode cX12_findsGaps 46 = .ok (.ifCond .ne 32, 3) := by decide +kernel
theorem dX12_findsGaps_49 : decode cX12_findsGaps 49 = .ok (.aload_n 0, 1) := by decide +kernel
theorem dX12_findsGaps_50 : decode cX12_findsGaps 50 = .ok (.getfield 126, 3) := by decide +kernel
theorem dX12_findsGaps_53 : decode cX12_findsGaps 53 = .ok (.bipush 22, 2) := by decide +kernel
theorem dX12_findsGaps_55 : decode cX12_findsGaps 55 = .ok (.iload_n 1, 1) := by decide +kernel
theorem dX12_findsGaps_56 : decode cX12_findsGaps 56 = .ok (.imul, 1) := by decide +kernel
theorem dX12_findsGaps_57 : decode cX12_findsGaps 57 = .ok (.bipush 22, 2) := by decide +kernel
theorem dX12_findsGaps_59 : decode cX12_findsGaps 59 = .ok (.iadd, 1) := by decide +kernel
theorem dX12_findsGaps_60 : decode cX12_findsGaps 60 = .ok (.iload 4, 2) := by decide +kernel
theorem dX12_findsGaps_62 : decode cX12_findsGaps 62 = .ok (.iadd, 1) := by decide +kernel
theorem dX12_findsGaps_63 : decode cX12_findsGaps 63 = .ok (.baload, 1) := by decide +kernel
theorem dX12_findsGaps_64 : decode cX12_findsGaps 64 = .ok (.ifCond .eq 18, 3) := by decide +kernel
theorem dX12_findsGaps_67 : decode cX12_findsGaps 67 = .ok (.aload_n 0, 1) := by decide +kernel
theorem dX12_findsGaps_68 : decode cX12_findsGaps 68 = .ok (.iload_n 1, 1) := by decide +kernel
theorem dX12_findsGaps_69 : decode cX12_findsGaps 69 = .ok (.iload_n 2, 1) := by decide +kernel
theorem dX12_findsGaps_70 : decode cX12_findsGaps 70 = .ok (.iload 4, 2) := by decide +kernel
theorem dX12_findsGaps_72 : decode cX12_findsGaps 72 = .ok (.invokevirtual 454, 3) := by decide +kernel
theorem dX12_findsGaps_75 : decode cX12_findsGaps 75 = .ok (.ifCond .eq 7, 3) := by decide +kernel
theorem dX12_findsGaps_78 : decode cX12_findsGaps 78 = .ok (.iconst 1, 1) := by decide +kernel
theorem dX12_findsGaps_79 : decode cX12_findsGaps 79 = .ok (.goto 4, 3) := by decide +kernel
theorem dX12_findsGaps_82 : decode cX12_findsGaps 82 = .ok (.iconst 0, 1) := by decide +kernel
theorem dX12_findsGaps_83 : decode cX12_findsGaps 83 = .ok (.istore_n 3, 1) := by decide +kernel
theorem dX12_findsGaps_84 : decode cX12_findsGaps 84 = .ok (.iinc 4 1, 3) := by decide +kernel
theorem dX12_findsGaps_87 : decode cX12_findsGaps 87 = .ok (.goto (-63), 3) := by decide +kernel
theorem dX12_findsGaps_90 : decode cX12_findsGaps 90 = .ok (.aload_n 0, 1) := by decide +kernel
theorem dX12_findsGaps_91 : decode cX12_findsGaps 91 = .ok (.getfield 126, 3) := by decide +kernel
theorem dX12_findsGaps_94 : decode cX12_findsGaps 94 = .ok (.bipush 22, 2) := by decide +kernel
theorem dX12_findsGaps_96 : decode cX12_findsGaps 96 = .ok (.iload_n 1, 1) := by decide +kernel
theorem dX12_findsGaps_97 : decode cX12_findsGaps 97 = .ok (.imul, 1) := by decide +kernel
theorem dX12_findsGaps_98 : decode cX12_findsGaps 98 = .ok (.iload_n 2, 1) := by decide +kernel
theorem dX12_findsGaps_99 : decode cX12_findsGaps 99 = .ok (.iadd, 1) := by decide +kernel
theorem dX12_findsGaps_100 : decode cX12_findsGaps 100 = .ok (.iload_n 3, 1) := by decide +kernel
theorem dX12_findsGaps_101 : decode cX12_findsGaps 101 = .ok (.bastore, 1) := by decide +kernel
theorem dX12_findsGaps_102 : decode cX12_findsGaps 102 = .ok (.iinc 2 1, 3) := by decide +kernel
theorem dX12_findsGaps_105 : decode cX12_findsGaps 105 = .ok (.goto (-92), 3) := by decide +kernel
theorem dX12_findsGaps_108 : decode cX12_findsGaps 108 = .ok (.iinc 1 (-1), 3) := by decide +kernel
theorem dX12_findsGaps_111 : decode cX12_findsGaps 111 = .ok (.goto (-104), 3) := by decide +kernel
theorem dX12_findsGaps_114 : decode cX12_findsGaps 114 = .ok (.bipush 21, 2) := by decide +kernel
theorem dX12_findsGaps_116 : decode cX12_findsGaps 116 = .ok (.istore_n 1, 1) := by decide +kernel
theorem dX12_findsGaps_117 : decode cX12_findsGaps 117 = .ok (.iconst 0, 1) := by decide +kernel
theorem dX12_findsGaps_118 : decode cX12_findsGaps 118 = .ok (.istore_n 2, 1) := by decide +kernel
theorem dX12_findsGaps_119 : decode cX12_findsGaps 119 = .ok (.iload_n 2, 1) := by decide +kernel
theorem dX12_findsGaps_120 : decode cX12_findsGaps 120 = .ok (.aload_n 0, 1) := by decide +kernel
theorem dX12_findsGaps_121 : decode cX12_findsGaps 121 = .ok (.getfield 444, 3) := by decide +kernel
theorem dX12_findsGaps_124 : decode cX12_findsGaps 124 = .ok (.if_icmp .ge 62, 3) := by decide +kernel
theorem dX12_findsGaps_127 : decode cX12_findsGaps 127 = .ok (.iload_n 2, 1) := by decide +kernel
theorem dX12_findsGaps_128 : decode cX12_findsGaps 128 = .ok (.ifCond .ne 8, 3) := by decide +kernel
theorem dX12_findsGaps_131 : decode cX12_findsGaps 131 = .ok (.bipush 21, 2) := by decide +kernel
theorem dX12_findsGaps_133 : decode cX12_findsGaps 133 = .ok (.goto 4, 3) := by decide +kernel
theorem dX12_findsGaps_136 : decode cX12_findsGaps 136 = .ok (.iconst 1, 1) := by decide +kernel
theorem dX12_findsGaps_137 : decode cX12_findsGaps 137 = .ok (.istore_n 3, 1) := by decide +kernel
theorem dX12_findsGaps_138 : decode cX12_findsGaps 138 = .ok (.aload_n 0, 1) := by decide +kernel
theorem dX12_findsGaps_139 : decode cX12_findsGaps 139 = .ok (.getfield 126, 3) := by decide +kernel
theorem dX12_findsGaps_142 : decode cX12_findsGaps 142 = .ok (.bipush 22, 2) := by decide +kernel
theorem dX12_findsGaps_144 : decode cX12_findsGaps 144 = .ok (.iload_n 2, 1) := by decide +kernel
theorem dX12_findsGaps_145 : decode cX12_findsGaps 145 = .ok (.imul, 1) := by decide +kernel
theorem dX12_findsGaps_146 : decode cX12_findsGaps 146 = .ok (.bipush 22, 2) := by decide +kernel
theorem dX12_findsGaps_148 : decode cX12_findsGaps 148 = .ok (.iadd, 1) := by decide +kernel
theorem dX12_findsGaps_149 : decode cX12_findsGaps 149 = .ok (.iload_n 3, 1) := by decide +kernel
theorem dX12_findsGaps_150 : decode cX12_findsGaps 150 = .ok (.iadd, 1) := by decide +kernel
theorem dX12_findsGaps_151 : decode cX12_findsGaps 151 = .ok (.baload, 1) := by decide +kernel
theorem dX12_findsGaps_152 : decode cX12_findsGaps 152 = .ok (.ifCond .eq 13, 3) := by decide +kernel
theorem dX12_findsGaps_155 : decode cX12_findsGaps 155 = .ok (.aload_n 0, 1) := by decide +kernel
theorem dX12_findsGaps_156 : decode cX12_findsGaps 156 = .ok (.iload_n 2, 1) := by decide +kernel
theorem dX12_findsGaps_157 : decode cX12_findsGaps 157 = .ok (.iload_n 1, 1) := by decide +kernel
theorem dX12_findsGaps_158 : decode cX12_findsGaps 158 = .ok (.iload_n 3, 1) := by decide +kernel
theorem dX12_findsGaps_159 : decode cX12_findsGaps 159 = .ok (.invokevirtual 454, 3) := by decide +kernel
theorem dX12_findsGaps_162 : decode cX12_findsGaps 162 = .ok (.ifCond .ne 9, 3) := by decide +kernel
theorem dX12_findsGaps_165 : decode cX12_findsGaps 165 = .ok (.iinc 3 1, 3) := by decide +kernel
theorem dX12_findsGaps_168 : decode cX12_findsGaps 168 = .ok (.goto (-30), 3) := by decide +kernel
theorem dX12_findsGaps_171 : decode cX12_findsGaps 171 = .ok (.aload_n 0, 1) := by decide +kernel
theorem dX12_findsGaps_172 : decode cX12_findsGaps 172 = .ok (.getfield 123, 3) := by decide +kernel
theorem dX12_findsGaps_175 : decode cX12_findsGaps 175 = .ok (.iload_n 2, 1) := by decide +kernel
theorem dX12_findsGaps_176 : decode cX12_findsGaps 176 = .ok (.iload_n 3, 1) := by decide +kernel
theorem dX12_findsGaps_177 : decode cX12_findsGaps 177 = .ok (.iastore, 1) := by decide +kernel
theorem dX12_findsGaps_178 : decode cX12_findsGaps 178 = .ok (.iload_n 3, 1) := by decide +kernel
theorem dX12_findsGaps_179 : decode cX12_findsGaps 179 = .ok (.istore_n 1, 1) := by decide +kernel
theorem dX12_findsGaps_180 : decode cX12_findsGaps 180 = .ok (.iinc 2 1, 3) := by decide +kernel
theorem dX12_findsGaps_183 : decode cX12_findsGaps 183 = .ok (.goto (-64), 3) := by decide +kernel
theorem dX12_findsGaps_186 : decode cX12_findsGaps 186 = .ok (.return_, 1) := by decide +kernel
theorem dX12_sizeOf_0 : decode cX12_sizeOf 0 = .ok (.iconst 0, 1) := by decide +kernel
theorem dX12_sizeOf_1 : decode cX12_sizeOf 1 = .ok (.istore_n 1, 1) := by decide +kernel
theorem dX12_sizeOf_2 : decode cX12_sizeOf 2 = .ok (.iload_n 0, 1) := by decide +kernel
theorem dX12_sizeOf_3 : decode cX12_sizeOf 3 = .ok (.istore_n 2, 1) := by decide +kernel
theorem dX12_sizeOf_4 : decode cX12_sizeOf 4 = .ok (.iload_n 2, 1) := by decide +kernel
theorem dX12_sizeOf_5 : decode cX12_sizeOf 5 = .ok (.ifCond .eq 15, 3) := by decide +kernel
theorem dX12_sizeOf_8 : decode cX12_sizeOf 8 = .ok (.iinc 1 1, 3) := by decide +kernel
theorem dX12_sizeOf_11 : decode cX12_sizeOf 11 = .ok (.iload_n 2, 1) := by decide +kernel
theorem dX12_sizeOf_12 : decode cX12_sizeOf 12 = .ok (.iload_n 2, 1) := by decide +kernel
theorem dX12_sizeOf_13 : decode cX12_sizeOf 13 = .ok (.iconst 1, 1) := by decide +kernel
theorem dX12_sizeOf_14 : decode cX12_sizeOf 14 = .ok (.isub, 1) := by decide +kernel
theorem dX12_sizeOf_15 : decode cX12_sizeOf 15 = .ok (.iand, 1) := by decide +kernel
theorem dX12_sizeOf_16 : decode cX12_sizeOf 16 = .ok (.istore_n 2, 1) := by decide +kernel
theorem dX12_sizeOf_17 : decode cX12_sizeOf 17 = .ok (.goto (-13), 3) := by decide +kernel
theorem dX12_sizeOf_20 : decode cX12_sizeOf 20 = .ok (.iload_n 1, 1) := by decide +kernel
theorem dX12_sizeOf_21 : decode cX12_sizeOf 21 = .ok (.ireturn, 1) := by decide +kernel
theorem dX12_areMouths_0 : decode cX12_areMouths 0 = .ok (.iload_n 1, 1) := by decide +kernel
theorem dX12_areMouths_1 : decode cX12_areMouths 1 = .ok (.i2l, 1) := by decide +kernel
theorem dX12_areMouths_2 : decode cX12_areMouths 2 = .ok (.lconst 1, 1) := by decide +kernel
theorem dX12_areMouths_3 : decode cX12_areMouths 3 = .ok (.iconst 1, 1) := by decide +kernel
theorem dX12_areMouths_4 : decode cX12_areMouths 4 = .ok (.aload_n 0, 1) := by decide +kernel
theorem dX12_areMouths_5 : decode cX12_areMouths 5 = .ok (.getfield 144, 3) := by decide +kernel
theorem dX12_areMouths_8 : decode cX12_areMouths 8 = .ok (.ishl, 1) := by decide +kernel
theorem dX12_areMouths_9 : decode cX12_areMouths 9 = .ok (.iconst 1, 1) := by decide +kernel
theorem dX12_areMouths_10 : decode cX12_areMouths 10 = .ok (.isub, 1) := by decide +kernel
theorem dX12_areMouths_11 : decode cX12_areMouths 11 = .ok (.i2l, 1) := by decide +kernel
theorem dX12_areMouths_12 : decode cX12_areMouths 12 = .ok (.invokestatic 147, 3) := by decide +kernel
theorem dX12_areMouths_15 : decode cX12_areMouths 15 = .ok (.ireturn, 1) := by decide +kernel
theorem dX12_soonest_0 : decode cX12_soonest 0 = .ok (.aload_n 0, 1) := by decide +kernel
theorem dX12_soonest_1 : decode cX12_soonest 1 = .ok (.iload_n 1, 1) := by decide +kernel
theorem dX12_soonest_2 : decode cX12_soonest 2 = .ok (.invokevirtual 457, 3) := by decide +kernel
theorem dX12_soonest_5 : decode cX12_soonest 5 = .ok (.ifCond .eq 11, 3) := by decide +kernel
theorem dX12_soonest_8 : decode cX12_soonest 8 = .ok (.iload_n 1, 1) := by decide +kernel
theorem dX12_soonest_9 : decode cX12_soonest 9 = .ok (.invokestatic 460, 3) := by decide +kernel
theorem dX12_soonest_12 : decode cX12_soonest 12 = .ok (.iconst 4, 1) := by decide +kernel
theorem dX12_soonest_13 : decode cX12_soonest 13 = .ok (.if_icmp .le 6, 3) := by decide +kernel
theorem dX12_soonest_16 : decode cX12_soonest 16 = .ok (.bipush (-3), 2) := by decide +kernel
theorem dX12_soonest_18 : decode cX12_soonest 18 = .ok (.ireturn, 1) := by decide +kernel
theorem dX12_soonest_19 : decode cX12_soonest 19 = .ok (.iconst 0, 1) := by decide +kernel
theorem dX12_soonest_20 : decode cX12_soonest 20 = .ok (.istore_n 3, 1) := by decide +kernel
theorem dX12_soonest_21 : decode cX12_soonest 21 = .ok (.iconst 0, 1) := by decide +kernel
theorem dX12_soonest_22 : decode cX12_soonest 22 = .ok (.istore 4, 2) := by decide +kernel
theorem dX12_soonest_24 : decode cX12_soonest 24 = .ok (.iload 4, 2) := by decide +kernel
theorem dX12_soonest_26 : decode cX12_soonest 26 = .ok (.aload_n 0, 1) := by decide +kernel
theorem dX12_soonest_27 : decode cX12_soonest 27 = .ok (.getfield 144, 3) := by decide +kernel
theorem dX12_soonest_30 : decode cX12_soonest 30 = .ok (.if_icmp .ge 32, 3) := by decide +kernel
theorem dX12_soonest_33 : decode cX12_soonest 33 = .ok (.iload_n 3, 1) := by decide +kernel
theorem dX12_soonest_34 : decode cX12_soonest 34 = .ok (.iload_n 1, 1) := by decide +kernel
theorem dX12_soonest_35 : decode cX12_soonest 35 = .ok (.iload 4, 2) := by decide +kernel
theorem dX12_soonest_37 : decode cX12_soonest 37 = .ok (.invokestatic 411, 3) := by decide +kernel
theorem dX12_soonest_40 : decode cX12_soonest 40 = .ok (.ifCond .eq 13, 3) := by decide +kernel
theorem dX12_soonest_43 : decode cX12_soonest 43 = .ok (.aload_n 0, 1) := by decide +kernel
theorem dX12_soonest_44 : decode cX12_soonest 44 = .ok (.getfield 33, 3) := by decide +kernel
theorem dX12_soonest_47 : decode cX12_soonest 47 = .ok (.iload 4, 2) := by decide +kernel
theorem dX12_soonest_49 : decode cX12_soonest 49 = .ok (.iaload, 1) := by decide +kernel
theorem dX12_soonest_50 : decode cX12_soonest 50 = .ok (.goto 4, 3) := by decide +kernel
theorem dX12_soonest_53 : decode cX12_soonest 53 = .ok (.iconst 0, 1) := by decide +kernel
theorem dX12_soonest_54 : decode cX12_soonest 54 = .ok (.iadd, 1) := by decide +kernel
theorem dX12_soonest_55 : decode cX12_soonest 55 = .ok (.istore_n 3, 1) := by decide +kernel
theorem dX12_soonest_56 : decode cX12_soonest 56 = .ok (.iinc 4 1, 3) := by decide +kernel
theorem dX12_soonest_59 : decode cX12_soonest 59 = .ok (.goto (-35), 3) := by decide +kernel
theorem dX12_soonest_62 : decode cX12_soonest 62 = .ok (.iload_n 2, 1) := by decide +kernel
theorem dX12_soonest_63 : decode cX12_soonest 63 = .ok (.iconst (-1), 1) := by decide +kernel
theorem dX12_soonest_64 : decode cX12_soonest 64 = .ok (.if_icmp .eq 39, 3) := by decide +kernel
theorem dX12_soonest_67 : decode cX12_soonest 67 = .ok (.iload_n 2, 1) := by decide +kernel
theorem dX12_soonest_68 : decode cX12_soonest 68 = .ok (.i2l, 1) := by decide +kernel
theorem dX12_soonest_69 : decode cX12_soonest 69 = .ok (.ldc2_w 159, 3) := by decide +kernel
theorem dX12_soonest_72 : decode cX12_soonest 72 = .ok (.bipush 99, 2) := by decide +kernel
theorem dX12_soonest_74 : decode cX12_soonest 74 = .ok (.iload_n 3, 1) := by decide +kernel
theorem dX12_soonest_75 : decode cX12_soonest 75 = .ok (.iadd, 1) := by decide +kernel
theorem dX12_soonest_76 : decode cX12_soonest 76 = .ok (.i2l, 1) := by decide +kernel
theorem dX12_soonest_77 : decode cX12_soonest 77 = .ok (.invokestatic 147, 3) := by decide +kernel
theorem dX12_soonest_80 : decode cX12_soonest 80 = .ok (.ifCond .ne 23, 3) := by decide +kernel
theorem dX12_soonest_83 : decode cX12_soonest 83 = .ok (.iload_n 2, 1) := by decide +kernel
theorem dX12_soonest_84 : decode cX12_soonest 84 = .ok (.i2l, 1) := by decide +kernel
theorem dX12_soonest_85 : decode cX12_soonest 85 = .ok (.ldc2_w 157, 3) := by decide +kernel
theorem dX12_soonest_88 : decode cX12_soonest 88 = .ok (.sipush 199, 3) := by decide +kernel
theorem dX12_soonest_91 : decode cX12_soonest 91 = .ok (.iload_n 3, 1) := by decide +kernel
theorem dX12_soonest_92 : decode cX12_soonest 92 = .ok (.iadd, 1) := by decide +kernel
theorem dX12_soonest_93 : decode cX12_soonest 93 = .ok (.i2l, 1) := by decide +kernel
theorem dX12_soonest_94 : decode cX12_soonest 94 = .ok (.invokestatic 147, 3) := by decide +kernel
theorem dX12_soonest_97 : decode cX12_soonest 97 = .ok (.ifCond .ne 6, 3) := by decide +kernel
theorem dX12_soonest_100 : decode cX12_soonest 100 = .ok (.bipush (-3), 2) := by decide +kernel
theorem dX12_soonest_102 : decode cX12_soonest 102 = .ok (.ireturn, 1) := by decide +kernel
theorem dX12_soonest_103 : decode cX12_soonest 103 = .ok (.aload_n 0, 1) := by decide +kernel
theorem dX12_soonest_104 : decode cX12_soonest 104 = .ok (.iload_n 1, 1) := by decide +kernel
theorem dX12_soonest_105 : decode cX12_soonest 105 = .ok (.invokevirtual 463, 3) := by decide +kernel
theorem dX12_soonest_108 : decode cX12_soonest 108 = .ok (.aload_n 0, 1) := by decide +kernel
theorem dX12_soonest_109 : decode cX12_soonest 109 = .ok (.invokevirtual 466, 3) := by decide +kernel
theorem dX12_soonest_112 : decode cX12_soonest 112 = .ok (.aload_n 0, 1) := by decide +kernel
theorem dX12_soonest_113 : decode cX12_soonest 113 = .ok (.getfield 117, 3) := by decide +kernel
theorem dX12_soonest_116 : decode cX12_soonest 116 = .ok (.iconst 0, 1) := by decide +kernel
theorem dX12_soonest_117 : decode cX12_soonest 117 = .ok (.iconst 4, 1) := by decide +kernel
theorem dX12_soonest_118 : decode cX12_soonest 118 = .ok (.bipush 21, 2) := by decide +kernel
theorem dX12_soonest_120 : decode cX12_soonest 120 = .ok (.invokestatic 438, 3) := by decide +kernel
theorem dX12_soonest_123 : decode cX12_soonest 123 = .ok (.iaload, 1) := by decide +kernel
theorem dX12_soonest_124 : decode cX12_soonest 124 = .ok (.istore 4, 2) := by decide +kernel
theorem dX12_soonest_126 : decode cX12_soonest 126 = .ok (.iload 4, 2) := by decide +kernel
theorem dX12_soonest_128 : decode cX12_soonest 128 = .ok (.ldc_w 430, 3) := by decide +kernel
theorem dX12_soonest_131 : decode cX12_soonest 131 = .ok (.if_icmp .ne 6, 3) := by decide +kernel
theorem dX12_soonest_134 : decode cX12_soonest 134 = .ok (.bipush (-2), 2) := by decide +kernel
theorem dX12_soonest_136 : decode cX12_soonest 136 = .ok (.ireturn, 1) := by decide +kernel
theorem dX12_soonest_137 : decode cX12_soonest 137 = .ok (.iload_n 2, 1) := by decide +kernel
theorem dX12_soonest_138 : decode cX12_soonest 138 = .ok (.iconst (-1), 1) := by decide +kernel
theorem dX12_soonest_139 : decode cX12_soonest 139 = .ok (.if_icmp .ne 6, 3) := by decide +kernel
theorem dX12_soonest_142 : decode cX12_soonest 142 = .ok (.iload 4, 2) := by decide +kernel
theorem dX12_soonest_144 : decode cX12_soonest 144 = .ok (.ireturn, 1) := by decide +kernel
theorem dX12_soonest_145 : decode cX12_soonest 145 = .ok (.aload_n 0, 1) := by decide +kernel
theorem dX12_soonest_146 : decode cX12_soonest 146 = .ok (.invokevirtual 469, 3) := by decide +kernel
theorem dX12_soonest_149 : decode cX12_soonest 149 = .ok (.aload_n 0, 1) := by decide +kernel
theorem dX12_soonest_150 : decode cX12_soonest 150 = .ok (.invokevirtual 472, 3) := by decide +kernel
theorem dX12_soonest_153 : decode cX12_soonest 153 = .ok (.iload_n 2, 1) := by decide +kernel
theorem dX12_soonest_154 : decode cX12_soonest 154 = .ok (.sipush 200, 3) := by decide +kernel
theorem dX12_soonest_157 : decode cX12_soonest 157 = .ok (.if_icmp .ge 20, 3) := by decide +kernel
theorem dX12_soonest_160 : decode cX12_soonest 160 = .ok (.aload_n 0, 1) := by decide +kernel
theorem dX12_soonest_161 : decode cX12_soonest 161 = .ok (.getfield 110, 3) := by decide +kernel
theorem dX12_soonest_164 : decode cX12_soonest 164 = .ok (.aload_n 0, 1) := by decide +kernel
theorem dX12_soonest_165 : decode cX12_soonest 165 = .ok (.getfield 120, 3) := by decide +kernel
theorem dX12_soonest_168 : decode cX12_soonest 168 = .ok (.iload_n 2, 1) := by decide +kernel
theorem dX12_soonest_169 : decode cX12_soonest 169 = .ok (.bipush 100, 2) := by decide +kernel
theorem dX12_soonest_171 : decode cX12_soonest 171 = .ok (.isub, 1) := by decide +kernel
theorem dX12_soonest_172 : decode cX12_soonest 172 = .ok (.iaload, 1) := by decide +kernel
theorem dX12_soonest_173 : decode cX12_soonest 173 = .ok (.iaload, 1) := by decide +kernel
theorem dX12_soonest_174 : decode cX12_soonest 174 = .ok (.goto 16, 3) := by decide +kernel
theorem dX12_soonest_177 : decode cX12_soonest 177 = .ok (.aload_n 0, 1) := by decide +kernel
theorem dX12_soonest_178 : decode cX12_soonest 178 = .ok (.getfield 123, 3) := by decide +kernel
theorem dX12_soonest_181 : decode cX12_soonest 181 = .ok (.iload_n 2, 1) := by decide +kernel
theorem dX12_soonest_182 : decode cX12_soonest 182 = .ok (.sipush 200, 3) := by decide +kernel
theorem dX12_soonest_185 : decode cX12_soonest 185 = .ok (.isub, 1) := by decide +kernel
theorem dX12_soonest_186 : decode cX12_soonest 186 = .ok (.iaload, 1) := by decide +kernel
theorem dX12_soonest_187 : decode cX12_soonest 187 = .ok (.invokestatic 418, 3) := by decide +kernel
theorem dX12_soonest_190 : decode cX12_soonest 190 = .ok (.ireturn, 1) := by decide +kernel
theorem dX12_nextOf_0 : decode cX12_nextOf 0 = .ok (.aload_n 0, 1) := by decide +kernel
theorem dX12_nextOf_1 : decode cX12_nextOf 1 = .ok (.getfield 129, 3) := by decide +kernel
theorem dX12_nextOf_4 : decode cX12_nextOf 4 = .ok (.iload_n 1, 1) := by decide +kernel
theorem dX12_nextOf_5 : decode cX12_nextOf 5 = .ok (.iaload, 1) := by decide +kernel
theorem dX12_nextOf_6 : decode cX12_nextOf 6 = .ok (.aload_n 0, 1) := by decide +kernel
theorem dX12_nextOf_7 : decode cX12_nextOf 7 = .ok (.getfield 33, 3) := by decide +kernel
theorem dX12_nextOf_10 : decode cX12_nextOf 10 = .ok (.iload_n 1, 1) := by decide +kernel
theorem dX12_nextOf_11 : decode cX12_nextOf 11 = .ok (.iaload, 1) := by decide +kernel
theorem dX12_nextOf_12 : decode cX12_nextOf 12 = .ok (.if_icmp .ge 21, 3) := by decide +kernel
theorem dX12_nextOf_15 : decode cX12_nextOf 15 = .ok (.aload_n 0, 1) := by decide +kernel
theorem dX12_nextOf_16 : decode cX12_nextOf 16 = .ok (.getfield 36, 3) := by decide +kernel
theorem dX12_nextOf_19 : decode cX12_nextOf 19 = .ok (.iconst 4, 1) := by decide +kernel
theorem dX12_nextOf_20 : decode cX12_nextOf 20 = .ok (.iload_n 1, 1) := by decide +kernel
theorem dX12_nextOf_21 : decode cX12_nextOf 21 = .ok (.imul, 1) := by decide +kernel
theorem dX12_nextOf_22 : decode cX12_nextOf 22 = .ok (.aload_n 0, 1) := by decide +kernel
theorem dX12_nextOf_23 : decode cX12_nextOf 23 = .ok (.getfield 129, 3) := by decide +kernel
theorem dX12_nextOf_26 : decode cX12_nextOf 26 = .ok (.iload_n 1, 1) := by decide +kernel
theorem dX12_nextOf_27 : decode cX12_nextOf 27 = .ok (.iaload, 1) := by decide +kernel
theorem dX12_nextOf_28 : decode cX12_nextOf 28 = .ok (.iadd, 1) := by decide +kernel
theorem dX12_nextOf_29 : decode cX12_nextOf 29 = .ok (.iaload, 1) := by decide +kernel
theorem dX12_nextOf_30 : decode cX12_nextOf 30 = .ok (.goto 4, 3) := by decide +kernel
theorem dX12_nextOf_33 : decode cX12_nextOf 33 = .ok (.iconst 0, 1) := by decide +kernel
theorem dX12_nextOf_34 : decode cX12_nextOf 34 = .ok (.ireturn, 1) := by decide +kernel
theorem dX12_wish_0 : decode cX12_wish 0 = .ok (.aload_n 0, 1) := by decide +kernel
theorem dX12_wish_1 : decode cX12_wish 1 = .ok (.getfield 129, 3) := by decide +kernel
theorem dX12_wish_4 : decode cX12_wish 4 = .ok (.iload_n 1, 1) := by decide +kernel
theorem dX12_wish_5 : decode cX12_wish 5 = .ok (.iaload, 1) := by decide +kernel
theorem dX12_wish_6 : decode cX12_wish 6 = .ok (.aload_n 0, 1) := by decide +kernel
theorem dX12_wish_7 : decode cX12_wish 7 = .ok (.getfield 33, 3) := by decide +kernel
theorem dX12_wish_10 : decode cX12_wish 10 = .ok (.iload_n 1, 1) := by decide +kernel
theorem dX12_wish_11 : decode cX12_wish 11 = .ok (.iaload, 1) := by decide +kernel
theorem dX12_wish_12 : decode cX12_wish 12 = .ok (.if_icmp .ne 5, 3) := by decide +kernel
theorem dX12_wish_15 : decode cX12_wish 15 = .ok (.iconst 0, 1) := by decide +kernel
theorem dX12_wish_16 : decode cX12_wish 16 = .ok (.ireturn, 1) := by decide +kernel
theorem dX12_wish_17 : decode cX12_wish 17 = .ok (.aload_n 0, 1) := by decide +kernel
theorem dX12_wish_18 : decode cX12_wish 18 = .ok (.iload_n 1, 1) := by decide +kernel
theorem dX12_wish_19 : decode cX12_wish 19 = .ok (.iload_n 2, 1) := by decide +kernel
theorem dX12_wish_20 : decode cX12_wish 20 = .ok (.iload_n 1, 1) := by decide +kernel
theorem dX12_wish_21 : decode cX12_wish 21 = .ok (.iload_n 3, 1) := by decide +kernel
theorem dX12_wish_22 : decode cX12_wish 22 = .ok (.iload 4, 2) := by decide +kernel
theorem dX12_wish_24 : decode cX12_wish 24 = .ok (.iconst 0, 1) := by decide +kernel
theorem dX12_wish_25 : decode cX12_wish 25 = .ok (.invokevirtual 360, 3) := by decide +kernel
theorem dX12_wish_28 : decode cX12_wish 28 = .ok (.istore 5, 2) := by decide +kernel
theorem dX12_wish_30 : decode cX12_wish 30 = .ok (.aload_n 0, 1) := by decide +kernel
theorem dX12_wish_31 : decode cX12_wish 31 = .ok (.aload_n 0, 1) := by decide +kernel
theorem dX12_wish_32 : decode cX12_wish 32 = .ok (.getfield 33, 3) := by decide +kernel
theorem dX12_wish_35 : decode cX12_wish 35 = .ok (.iload_n 1, 1) := by decide +kernel
theorem dX12_wish_36 : decode cX12_wish 36 = .ok (.iaload, 1) := by decide +kernel
theorem dX12_wish_37 : decode cX12_wish 37 = .ok (.aload_n 0, 1) := by decide +kernel
theorem dX12_wish_38 : decode cX12_wish 38 = .ok (.getfield 129, 3) := by decide +kernel
theorem dX12_wish_41 : decode cX12_wish 41 = .ok (.iload_n 1, 1) := by decide +kernel
theorem dX12_wish_42 : decode cX12_wish 42 = .ok (.iaload, 1) := by decide +kernel
theorem dX12_wish_43 : decode cX12_wish 43 = .ok (.isub, 1) := by decide +kernel
theorem dX12_wish_44 : decode cX12_wish 44 = .ok (.putfield 295, 3) := by decide +kernel
theorem dX12_wish_47 : decode cX12_wish 47 = .ok (.aload_n 0, 1) := by decide +kernel
theorem dX12_wish_48 : decode cX12_wish 48 = .ok (.aload_n 0, 1) := by decide +kernel
theorem dX12_wish_49 : decode cX12_wish 49 = .ok (.iload_n 1, 1) := by decide +kernel
theorem dX12_wish_50 : decode cX12_wish 50 = .ok (.invokevirtual 475, 3) := by decide +kernel
theorem dX12_wish_53 : decode cX12_wish 53 = .ok (.putfield 298, 3) := by decide +kernel
theorem dX12_wish_56 : decode cX12_wish 56 = .ok (.aload_n 0, 1) := by decide +kernel
theorem dX12_wish_57 : decode cX12_wish 57 = .ok (.iload 5, 2) := by decide +kernel
theorem dX12_wish_59 : decode cX12_wish 59 = .ok (.aload_n 0, 1) := by decide +kernel
theorem dX12_wish_60 : decode cX12_wish 60 = .ok (.getfield 298, 3) := by decide +kernel
theorem dX12_wish_63 : decode cX12_wish 63 = .ok (.if_icmp .ne 7, 3) := by decide +kernel
theorem dX12_wish_66 : decode cX12_wish 66 = .ok (.iconst 1, 1) := by decide +kernel
theorem dX12_wish_67 : decode cX12_wish 67 = .ok (.goto 4, 3) := by decide +kernel
theorem dX12_wish_70 : decode cX12_wish 70 = .ok (.iconst 0, 1) := by decide +kernel
theorem dX12_wish_71 : decode cX12_wish 71 = .ok (.putfield 301, 3) := by decide +kernel
theorem dX12_wish_74 : decode cX12_wish 74 = .ok (.aload_n 0, 1) := by decide +kernel
theorem dX12_wish_75 : decode cX12_wish 75 = .ok (.bipush 114, 2) := by decide +kernel
theorem dX12_wish_77 : decode cX12_wish 77 = .ok (.sipush 1000, 3) := by decide +kernel
theorem dX12_wish_80 : decode cX12_wish 80 = .ok (.invokevirtual 318, 3) := by decide +kernel
theorem dX12_wish_83 : decode cX12_wish 83 = .ok (.ireturn, 1) := by decide +kernel
theorem dX12_byRules_0 : decode cX12_byRules 0 = .ok (.aload_n 0, 1) := by decide +kernel
theorem dX12_byRules_1 : decode cX12_byRules 1 = .ok (.iload_n 1, 1) := by decide +kernel
theorem dX12_byRules_2 : decode cX12_byRules 2 = .ok (.invokevirtual 457, 3) := by decide +kernel
theorem dX12_byRules_5 : decode cX12_byRules 5 = .ok (.ifCond .eq 27, 3) := by decide +kernel
theorem dX12_byRules_8 : decode cX12_byRules 8 = .ok (.iload_n 2, 1) := by decide +kernel
theorem dX12_byRules_9 : decode cX12_byRules 9 = .ok (.i2l, 1) := by decide +kernel
theorem dX12_byRules_10 : decode cX12_byRules 10 = .ok (.lconst 1, 1) := by decide +kernel
theorem dX12_byRules_11 : decode cX12_byRules 11 = .ok (.ldc2_w 478, 3) := by decide +kernel
theorem dX12_byRules_14 : decode cX12_byRules 14 = .ok (.invokestatic 147, 3) := by decide +kernel
theorem dX12_byRules_17 : decode cX12_byRules 17 = .ok (.ifCond .eq 15, 3) := by decide +kernel
theorem dX12_byRules_20 : decode cX12_byRules 20 = .ok (.iload_n 3, 1) := by decide +kernel
theorem dX12_byRules_21 : decode cX12_byRules 21 = .ok (.i2l, 1) := by decide +kernel
theorem dX12_byRules_22 : decode cX12_byRules 22 = .ok (.lconst 0, 1) := by decide +kernel
theorem dX12_byRules_23 : decode cX12_byRules 23 = .ok (.ldc2_w 376, 3) := by decide +kernel
theorem dX12_byRules_26 : decode cX12_byRules 26 = .ok (.invokestatic 147, 3) := by decide +kernel
theorem dX12_byRules_29 : decode cX12_byRules 29 = .ok (.ifCond .ne 5, 3) := by decide +kernel
theorem dX12_byRules_32 : decode cX12_byRules 32 = .ok (.iconst (-1), 1) := by decide +kernel
theorem dX12_byRules_33 : decode cX12_byRules 33 = .ok (.ireturn, 1) := by decide +kernel
theorem dX12_byRules_34 : decode cX12_byRules 34 = .ok (.iconst 0, 1) := by decide +kernel
theorem dX12_byRules_35 : decode cX12_byRules 35 = .ok (.istore 4, 2) := by decide +kernel
theorem dX12_byRules_37 : decode cX12_byRules 37 = .ok (.iconst 0, 1) := by decide +kernel
theorem dX12_byRules_38 : decode cX12_byRules 38 = .ok (.istore 5, 2) := by decide +kernel
theorem dX12_byRules_40 : decode cX12_byRules 40 = .ok (.iload 5, 2) := by decide +kernel
theorem dX12_byRules_42 : decode cX12_byRules 42 = .ok (.bipush 8, 2) := by decide +kernel
theorem dX12_byRules_44 : decode cX12_byRules 44 = .ok (.if_icmp .ge 42, 3) := by decide +kernel
theorem dX12_byRules_47 : decode cX12_byRules 47 = .ok (.aload_n 0, 1) := by decide +kernel
theorem dX12_byRules_48 : decode cX12_byRules 48 = .ok (.getfield 129, 3) := by decide +kernel
theorem dX12_byRules_51 : decode cX12_byRules 51 = .ok (.iload 5, 2) := by decide +kernel
theorem dX12_byRules_53 : decode cX12_byRules 53 = .ok (.iconst 0, 1) := by decide +kernel
theorem dX12_byRules_54 : decode cX12_byRules 54 = .ok (.iastore, 1) := by decide +kernel
theorem dX12_byRules_55 : decode cX12_byRules 55 = .ok (.iload 4, 2) := by decide +kernel
theorem dX12_byRules_57 : decode cX12_byRules 57 = .ok (.iload_n 1, 1) := by decide +kernel
theorem dX12_byRules_58 : decode cX12_byRules 58 = .ok (.iload 5, 2) := by decide +kernel
theorem dX12_byRules_60 : decode cX12_byRules 60 = .ok (.invokestatic 411, 3) := by decide +kernel
theorem dX12_byRules_63 : decode cX12_byRules 63 = .ok (.ifCond .eq 13, 3) := by decide +kernel
theorem dX12_byRules_66 : decode cX12_byRules 66 = .ok (.aload_n 0, 1) := by decide +kernel
theorem dX12_byRules_67 : decode cX12_byRules 67 = .ok (.getfield 33, 3) := by decide +kernel
theorem dX12_byRules_70 : decode cX12_byRules 70 = .ok (.iload 5, 2) := by decide +kernel
theorem dX12_byRules_72 : decode cX12_byRules 72 = .ok (.iaload, 1) := by decide +kernel
theorem dX12_byRules_73 : decode cX12_byRules 73 = .ok (.goto 4, 3) := by decide +kernel
theorem dX12_byRules_76 : decode cX12_byRules 76 = .ok (.iconst 0, 1) := by decide +kernel
theorem dX12_byRules_77 : decode cX12_byRules 77 = .ok (.iadd, 1) := by decide +kernel
theorem dX12_byRules_78 : decode cX12_byRules 78 = .ok (.istore 4, 2) := by decide +kernel
theorem dX12_byRules_80 : decode cX12_byRules 80 = .ok (.iinc 5 1, 3) := by decide +kernel
theorem dX12_byRules_83 : decode cX12_byRules 83 = .ok (.goto (-43), 3) := by decide +kernel
theorem dX12_byRules_86 : decode cX12_byRules 86 = .ok (.bipush 8, 2) := by decide +kernel
theorem dX12_byRules_88 : decode cX12_byRules 88 = .ok (.istore 5, 2) := by decide +kernel
theorem dX12_byRules_90 : decode cX12_byRules 90 = .ok (.bipush 63, 2) := by decide +kernel
theorem dX12_byRules_92 : decode cX12_byRules 92 = .ok (.istore 6, 2) := by decide +kernel
theorem dX12_byRules_94 : decode cX12_byRules 94 = .ok (.iconst (-1), 1) := by decide +kernel
theorem dX12_byRules_95 : decode cX12_byRules 95 = .ok (.istore 7, 2) := by decide +kernel
theorem dX12_byRules_97 : decode cX12_byRules 97 = .ok (.iconst 0, 1) := by decide +kernel
theorem dX12_byRules_98 : decode cX12_byRules 98 = .ok (.istore 8, 2) := by decide +kernel
theorem dX12_byRules_100 : decode cX12_byRules 100 = .ok (.iconst 0, 1) := by decide +kernel
theorem dX12_byRules_101 : decode cX12_byRules 101 = .ok (.istore 9, 2) := by decide +kernel
theorem dX12_byRules_103 : decode cX12_byRules 103 = .ok (.iconst 0, 1) := by decide +kernel
theorem dX12_byRules_104 : decode cX12_byRules 104 = .ok (.istore 10, 2) := by decide +kernel
theorem dX12_byRules_106 : decode cX12_byRules 106 = .ok (.iconst 0, 1) := by decide +kernel
theorem dX12_byRules_107 : decode cX12_byRules 107 = .ok (.istore 11, 2) := by decide +kernel
theorem dX12_byRules_109 : decode cX12_byRules 109 = .ok (.iload 11, 2) := by decide +kernel
theorem dX12_byRules_111 : decode cX12_byRules 111 = .ok (.iload_n 2, 1) := by decide +kernel
theorem dX12_byRules_112 : decode cX12_byRules 112 = .ok (.if_icmp .ge 180, 3) := by decide +kernel
theorem dX12_byRules_115 : decode cX12_byRules 115 = .ok (.iload 4, 2) := by decide +kernel
theorem dX12_byRules_117 : decode cX12_byRules 117 = .ok (.ifCond .le 175, 3) := by decide +kernel
theorem dX12_byRules_120 : decode cX12_byRules 120 = .ok (.iload 7, 2) := by decide +kernel
theorem dX12_byRules_122 : decode cX12_byRules 122 = .ok (.iconst (-1), 1) := by decide +kernel
theorem dX12_byRules_123 : decode cX12_byRules 123 = .ok (.if_icmp .eq 13, 3) := by decide +kernel
theorem dX12_byRules_126 : decode cX12_byRules 126 = .ok (.iload 11, 2) := by decide +kernel
theorem dX12_byRules_128 : decode cX12_byRules 128 = .ok (.iload 7, 2) := by decide +kernel
theorem dX12_byRules_130 : decode cX12_byRules 130 = .ok (.isub, 1) := by decide +kernel
theorem dX12_byRules_131 : decode cX12_byRules 131 = .ok (.bipush 63, 2) := by decide +kernel
theorem dX12_byRules_133 : decode cX12_byRules 133 = .ok (.if_icmp .le 8, 3) := by decide +kernel
theorem dX12_byRules_136 : decode cX12_byRules 136 = .ok (.bipush 63, 2) := by decide +kernel
theorem dX12_byRules_138 : decode cX12_byRules 138 = .ok (.goto 8, 3) := by decide +kernel
theorem dX12_byRules_141 : decode cX12_byRules 141 = .ok (.iload 11, 2) := by decide +kernel
theorem dX12_byRules_143 : decode cX12_byRules 143 = .ok (.iload 7, 2) := by decide +kernel
theorem dX12_byRules_145 : decode cX12_byRules 145 = .ok (.isub, 1) := by decide +kernel
theorem dX12_byRules_146 : decode cX12_byRules 146 = .ok (.istore 12, 2) := by decide +kernel
theorem dX12_byRules_148 : decode cX12_byRules 148 = .ok (.iconst (-1), 1) := by decide +kernel
theorem dX12_byRules_149 : decode cX12_byRules 149 = .ok (.istore 13, 2) := by decide +kernel
theorem dX12_byRules_151 : decode cX12_byRules 151 = .ok (.iconst 0, 1) := by decide +kernel
theorem dX12_byRules_152 : decode cX12_byRules 152 = .ok (.istore 14, 2) := by decide +kernel
theorem dX12_byRules_154 : decode cX12_byRules 154 = .ok (.iconst 0, 1) := by decide +kernel
theorem dX12_byRules_155 : decode cX12_byRules 155 = .ok (.istore 15, 2) := by decide +kernel
theorem dX12_byRules_157 : decode cX12_byRules 157 = .ok (.iload 15, 2) := by decide +kernel
theorem dX12_byRules_159 : decode cX12_byRules 159 = .ok (.aload_n 0, 1) := by decide +kernel
theorem dX12_byRules_160 : decode cX12_byRules 160 = .ok (.getfield 144, 3) := by decide +kernel
theorem dX12_byRules_163 : decode cX12_byRules 163 = .ok (.if_icmp .ge 54, 3) := by decide +kernel
theorem dX12_byRules_166 : decode cX12_byRules 166 = .ok (.iload_n 1, 1) := by decide +kernel
theorem dX12_byRules_167 : decode cX12_byRules 167 = .ok (.iload 15, 2) := by decide +kernel
theorem dX12_byRules_169 : decode cX12_byRules 169 = .ok (.invokestatic 411, 3) := by decide +kernel
theorem dX12_byRules_172 : decode cX12_byRules 172 = .ok (.ifCond .eq 18, 3) := by decide +kernel
theorem dX12_byRules_175 : decode cX12_byRules 175 = .ok (.aload_n 0, 1) := by decide +kernel
theorem dX12_byRules_176 : decode cX12_byRules 176 = .ok (.iload 15, 2) := by decide +kernel
theorem dX12_byRules_178 : decode cX12_byRules 178 = .ok (.iload 12, 2) := by decide +kernel
theorem dX12_byRules_180 : decode cX12_byRules 180 = .ok (.iload 5, 2) := by decide +kernel
theorem dX12_byRules_182 : decode cX12_byRules 182 = .ok (.iload 6, 2) := by decide +kernel
theorem dX12_byRules_184 : decode cX12_byRules 184 = .ok (.invokevirtual 480, 3) := by decide +kernel
theorem dX12_byRules_187 : decode cX12_byRules 187 = .ok (.goto 4, 3) := by decide +kernel
theorem dX12_byRules_190 : decode cX12_byRules 190 = .ok (.iconst 0, 1) := by decide +kernel
theorem dX12_byRules_191 : decode cX12_byRules 191 = .ok (.istore 16, 2) := by decide +kernel
theorem dX12_byRules_193 : decode cX12_byRules 193 = .ok (.iload 16, 2) := by decide +kernel
theorem dX12_byRules_195 : decode cX12_byRules 195 = .ok (.iload 14, 2) := by decide +kernel
theorem dX12_byRules_197 : decode cX12_byRules 197 = .ok (.if_icmp .gt 6, 3) := by decide +kernel
theorem dX12_byRules_200 : decode cX12_byRules 200 = .ok (.goto 11, 3) := by decide +kernel
theorem dX12_byRules_203 : decode cX12_byRules 203 = .ok (.iload 15, 2) := by decide +kernel
theorem dX12_byRules_205 : decode cX12_byRules 205 = .ok (.istore 13, 2) := by decide +kernel
theorem dX12_byRules_207 : decode cX12_byRules 207 = .ok (.iload 16, 2) := by decide +kernel
theorem dX12_byRules_209 : decode cX12_byRules 209 = .ok (.istore 14, 2) := by decide +kernel
theorem dX12_byRules_211 : decode cX12_byRules 211 = .ok (.iinc 15 1, 3) := by decide +kernel
theorem dX12_byRules_214 : decode cX12_byRules 214 = .ok (.goto (-57), 3) := by decide +kernel
theorem dX12_byRules_217 : decode cX12_byRules 217 = .ok (.iload 13, 2) := by decide +kernel
theorem dX12_byRules_219 : decode cX12_byRules 219 = .ok (.iconst (-1), 1) := by decide +kernel
theorem dX12_byRules_220 : decode cX12_byRules 220 = .ok (.if_icmp .ne 6, 3) := by decide +kernel
theorem dX12_byRules_223 : decode cX12_byRules 223 = .ok (.goto 63, 3) := by decide +kernel
theorem dX12_byRules_226 : decode cX12_byRules 226 = .ok (.aload_n 0, 1) := by decide +kernel
theorem dX12_byRules_227 : decode cX12_byRules 227 = .ok (.iload 13, 2) := by decide +kernel
theorem dX12_byRules_229 : decode cX12_byRules 229 = .ok (.iload 12, 2) := by decide +kernel
theorem dX12_byRules_231 : decode cX12_byRules 231 = .ok (.iload 13, 2) := by decide +kernel
theorem dX12_byRules_233 : decode cX12_byRules 233 = .ok (.iload 5, 2) := by decide +kernel
theorem dX12_byRules_235 : decode cX12_byRules 235 = .ok (.iload 6, 2) := by decide +kernel
theorem dX12_byRules_237 : decode cX12_byRules 237 = .ok (.iconst 0, 1) := by decide +kernel
theorem dX12_byRules_238 : decode cX12_byRules 238 = .ok (.invokevirtual 360, 3) := by decide +kernel
theorem dX12_byRules_241 : decode cX12_byRules 241 = .ok (.aload_n 0, 1) := by decide +kernel
theorem dX12_byRules_242 : decode cX12_byRules 242 = .ok (.iload 13, 2) := by decide +kernel
theorem dX12_byRules_244 : decode cX12_byRules 244 = .ok (.invokevirtual 475, 3) := by decide +kernel
theorem dX12_byRules_247 : decode cX12_byRules 247 = .ok (.if_icmp .ne 24, 3) := by decide +kernel
theorem dX12_byRules_250 : decode cX12_byRules 250 = .ok (.aload_n 0, 1) := by decide +kernel
theorem dX12_byRules_251 : decode cX12_byRules 251 = .ok (.getfield 129, 3) := by decide +kernel
theorem dX12_byRules_254 : decode cX12_byRules 254 = .ok (.iload 13, 2) := by decide +kernel
theorem dX12_byRules_256 : decode cX12_byRules 256 = .ok (.dup2, 1) := by decide +kernel
theorem dX12_byRules_257 : decode cX12_byRules 257 = .ok (.iaload, 1) := by decide +kernel
theorem dX12_byRules_258 : decode cX12_byRules 258 = .ok (.iconst 1, 1) := by decide +kernel
theorem dX12_byRules_259 : decode cX12_byRules 259 = .ok (.iadd, 1) := by decide +kernel
theorem dX12_byRules_260 : decode cX12_byRules 260 = .ok (.iastore, 1) := by decide +kernel
theorem dX12_byRules_261 : decode cX12_byRules 261 = .ok (.iinc 8 1, 3) := by decide +kernel
theorem dX12_byRules_264 : decode cX12_byRules 264 = .ok (.iinc 4 (-1), 3) := by decide +kernel
theorem dX12_byRules_267 : decode cX12_byRules 267 = .ok (.iload 11, 2) := by decide +kernel
theorem dX12_byRules_269 : decode cX12_byRules 269 = .ok (.istore 10, 2) := by decide +kernel
theorem dX12_byRules_271 : decode cX12_byRules 271 = .ok (.iinc 9 1, 3) := by decide +kernel
theorem dX12_byRules_274 : decode cX12_byRules 274 = .ok (.iload 13, 2) := by decide +kernel
theorem dX12_byRules_276 : decode cX12_byRules 276 = .ok (.istore 5, 2) := by decide +kernel
theorem dX12_byRules_278 : decode cX12_byRules 278 = .ok (.iload 12, 2) := by decide +kernel
theorem dX12_byRules_280 : decode cX12_byRules 280 = .ok (.istore 6, 2) := by decide +kernel
theorem dX12_byRules_282 : decode cX12_byRules 282 = .ok (.iload 11, 2) := by decide +kernel
theorem dX12_byRules_284 : decode cX12_byRules 284 = .ok (.istore 7, 2) := by decide +kernel
theorem dX12_byRules_286 : decode cX12_byRules 286 = .ok (.iinc 11 1, 3) := by decide +kernel
theorem dX12_byRules_289 : decode cX12_byRules 289 = .ok (.goto (-180), 3) := by decide +kernel
theorem dX12_byRules_292 : decode cX12_byRules 292 = .ok (.iload_n 3, 1) := by decide +kernel
theorem dX12_byRules_293 : decode cX12_byRules 293 = .ok (.ifCond .ne 18, 3) := by decide +kernel
theorem dX12_byRules_296 : decode cX12_byRules 296 = .ok (.iload 4, 2) := by decide +kernel
theorem dX12_byRules_298 : decode cX12_byRules 298 = .ok (.ifCond .le 8, 3) := by decide +kernel
theorem dX12_byRules_301 : decode cX12_byRules 301 = .ok (.bipush (-2), 2) := by decide +kernel
theorem dX12_byRules_303 : decode cX12_byRules 303 = .ok (.goto 20, 3) := by decide +kernel
theorem dX12_byRules_306 : decode cX12_byRules 306 = .ok (.iload 10, 2) := by decide +kernel
theorem dX12_byRules_308 : decode cX12_byRules 308 = .ok (.goto 15, 3) := by decide +kernel
theorem dX12_byRules_311 : decode cX12_byRules 311 = .ok (.iload_n 3, 1) := by decide +kernel
theorem dX12_byRules_312 : decode cX12_byRules 312 = .ok (.iconst 1, 1) := by decide +kernel
theorem dX12_byRules_313 : decode cX12_byRules 313 = .ok (.if_icmp .ne 8, 3) := by decide +kernel
theorem dX12_byRules_316 : decode cX12_byRules 316 = .ok (.iload 8, 2) := by decide +kernel
theorem dX12_byRules_318 : decode cX12_byRules 318 = .ok (.goto 5, 3) := by decide +kernel
theorem dX12_byRules_321 : decode cX12_byRules 321 = .ok (.iload 9, 2) := by decide +kernel
theorem dX12_byRules_323 : decode cX12_byRules 323 = .ok (.ireturn, 1) := by decide +kernel
theorem dX12_table_0 : decode cX12_table 0 = .ok (.iload_n 1, 1) := by decide +kernel
theorem dX12_table_1 : decode cX12_table 1 = .ok (.i2l, 1) := by decide +kernel
theorem dX12_table_2 : decode cX12_table 2 = .ok (.lconst 1, 1) := by decide +kernel
theorem dX12_table_3 : decode cX12_table 3 = .ok (.ldc2_w 387, 3) := by decide +kernel
theorem dX12_table_6 : decode cX12_table 6 = .ok (.invokestatic 147, 3) := by decide +kernel
theorem dX12_table_9 : decode cX12_table 9 = .ok (.ifCond .eq 39, 3) := by decide +kernel
theorem dX12_table_12 : decode cX12_table 12 = .ok (.iload_n 2, 1) := by decide +kernel
theorem dX12_table_13 : decode cX12_table 13 = .ok (.i2l, 1) := by decide +kernel
theorem dX12_table_14 : decode cX12_table 14 = .ok (.lconst 1, 1) := by decide +kernel
theorem dX12_table_15 : decode cX12_table 15 = .ok (.ldc2_w 483, 3) := by decide +kernel
theorem dX12_table_18 : decode cX12_table 18 = .ok (.invokestatic 147, 3) := by decide +kernel
theorem dX12_table_21 : decode cX12_table 21 = .ok (.ifCond .eq 27, 3) := by decide +kernel
theorem dX12_table_24 : decode cX12_table 24 = .ok (.iload_n 3, 1) := by decide +kernel
theorem dX12_table_25 : decode cX12_table 25 = .ok (.iconst (-1), 1) := by decide +kernel
theorem dX12_table_26 : decode cX12_table 26 = .ok (.if_icmp .eq 14, 3) := by decide +kernel
theorem dX12_table_29 : decode cX12_table 29 = .ok (.iload_n 3, 1) := by decide +kernel
theorem dX12_table_30 : decode cX12_table 30 = .ok (.i2l, 1) := by decide +kernel
theorem dX12_table_31 : decode cX12_table 31 = .ok (.lconst 1, 1) := by decide +kernel
theorem dX12_table_32 : decode cX12_table 32 = .ok (.iload_n 1, 1) := by decide +kernel
theorem dX12_table_33 : decode cX12_table 33 = .ok (.i2l, 1) := by decide +kernel
theorem dX12_table_34 : decode cX12_table 34 = .ok (.invokestatic 147, 3) := by decide +kernel
theorem dX12_table_37 : decode cX12_table 37 = .ok (.ifCond .eq 11, 3) := by decide +kernel
theorem dX12_table_40 : decode cX12_table 40 = .ok (.iload_n 1, 1) := by decide +kernel
theorem dX12_table_41 : decode cX12_table 41 = .ok (.aload_n 0, 1) := by decide +kernel
theorem dX12_table_42 : decode cX12_table 42 = .ok (.getfield 161, 3) := by decide +kernel
theorem dX12_table_45 : decode cX12_table 45 = .ok (.if_icmp .le 5, 3) := by decide +kernel
theorem dX12_table_48 : decode cX12_table 48 = .ok (.iconst (-1), 1) := by decide +kernel
theorem dX12_table_49 : decode cX12_table 49 = .ok (.ireturn, 1) := by decide +kernel
theorem dX12_table_50 : decode cX12_table 50 = .ok (.aload_n 0, 1) := by decide +kernel
theorem dX12_table_51 : decode cX12_table 51 = .ok (.iconst 0, 1) := by decide +kernel
theorem dX12_table_52 : decode cX12_table 52 = .ok (.putfield 161, 3) := by decide +kernel
theorem dX12_table_55 : decode cX12_table 55 = .ok (.iconst 0, 1) := by decide +kernel
theorem dX12_table_56 : decode cX12_table 56 = .ok (.istore 4, 2) := by decide +kernel
theorem dX12_table_58 : decode cX12_table 58 = .ok (.iload 4, 2) := by decide +kernel
theorem dX12_table_60 : decode cX12_table 60 = .ok (.iload_n 1, 1) := by decide +kernel
theorem dX12_table_61 : decode cX12_table 61 = .ok (.if_icmp .ge 22, 3) := by decide +kernel
theorem dX12_table_64 : decode cX12_table 64 = .ok (.aload_n 0, 1) := by decide +kernel
theorem dX12_table_65 : decode cX12_table 65 = .ok (.getfield 132, 3) := by decide +kernel
theorem dX12_table_68 : decode cX12_table 68 = .ok (.iload 4, 2) := by decide +kernel
theorem dX12_table_70 : decode cX12_table 70 = .ok (.aload_n 0, 1) := by decide +kernel
theorem dX12_table_71 : decode cX12_table 71 = .ok (.iload 4, 2) := by decide +kernel
theorem dX12_table_73 : decode cX12_table 73 = .ok (.invokevirtual 327, 3) := by decide +kernel
theorem dX12_table_76 : decode cX12_table 76 = .ok (.iastore, 1) := by decide +kernel
theorem dX12_table_77 : decode cX12_table 77 = .ok (.iinc 4 1, 3) := by decide +kernel
theorem dX12_table_80 : decode cX12_table 80 = .ok (.goto (-22), 3) := by decide +kernel
theorem dX12_table_83 : decode cX12_table 83 = .ok (.iconst 0, 1) := by decide +kernel
theorem dX12_table_84 : decode cX12_table 84 = .ok (.istore 4, 2) := by decide +kernel
theorem dX12_table_86 : decode cX12_table 86 = .ok (.iconst 0, 1) := by decide +kernel
theorem dX12_table_87 : decode cX12_table 87 = .ok (.istore 5, 2) := by decide +kernel
theorem dX12_table_89 : decode cX12_table 89 = .ok (.iload 5, 2) := by decide +kernel
theorem dX12_table_91 : decode cX12_table 91 = .ok (.iload_n 1, 1) := by decide +kernel
theorem dX12_table_92 : decode cX12_table 92 = .ok (.if_icmp .ge 111, 3) := by decide +kernel
theorem dX12_table_95 : decode cX12_table 95 = .ok (.iconst 0, 1) := by decide +kernel
theorem dX12_table_96 : decode cX12_table 96 = .ok (.istore 6, 2) := by decide +kernel
theorem dX12_table_98 : decode cX12_table 98 = .ok (.iconst 0, 1) := by decide +kernel
theorem dX12_table_99 : decode cX12_table 99 = .ok (.istore 7, 2) := by decide +kernel
theorem dX12_table_101 : decode cX12_table 101 = .ok (.iload 7, 2) := by decide +kernel
theorem dX12_table_103 : decode cX12_table 103 = .ok (.iload_n 1, 1) := by decide +kernel
theorem dX12_table_104 : decode cX12_table 104 = .ok (.if_icmp .ge 60, 3) := by decide +kernel
theorem dX12_table_107 : decode cX12_table 107 = .ok (.iload 6, 2) := by decide +kernel
theorem dX12_table_109 : decode cX12_table 109 = .ok (.aload_n 0, 1) := by decide +kernel
theorem dX12_table_110 : decode cX12_table 110 = .ok (.getfield 132, 3) := by decide +kernel
theorem dX12_table_113 : decode cX12_table 113 = .ok (.iload 7, 2) := by decide +kernel
theorem dX12_table_115 : decode cX12_table 115 = .ok (.iaload, 1) := by decide +kernel
theorem dX12_table_116 : decode cX12_table 116 = .ok (.aload_n 0, 1) := by decide +kernel
theorem dX12_table_117 : decode cX12_table 117 = .ok (.getfield 132, 3) := by decide +kernel
theorem dX12_table_120 : decode cX12_table 120 = .ok (.iload 5, 2) := by decide +kernel
theorem dX12_table_122 : decode cX12_table 122 = .ok (.iaload, 1) := by decide +kernel
theorem dX12_table_123 : decode cX12_table 123 = .ok (.if_icmp .gt 27, 3) := by decide +kernel
theorem dX12_table_126 : decode cX12_table 126 = .ok (.aload_n 0, 1) := by decide +kernel
theorem dX12_table_127 : decode cX12_table 127 = .ok (.getfield 132, 3) := by decide +kernel
theorem dX12_table_130 : decode cX12_table 130 = .ok (.iload 7, 2) := by decide +kernel
theorem dX12_table_132 : decode cX12_table 132 = .ok (.iaload, 1) := by decide +kernel
theorem dX12_table_133 : decode cX12_table 133 = .ok (.aload_n 0, 1) := by decide +kernel
theorem dX12_table_134 : decode cX12_table 134 = .ok (.getfield 132, 3) := by decide +kernel
theorem dX12_table_137 : decode cX12_table 137 = .ok (.iload 5, 2) := by decide +kernel
theorem dX12_table_139 : decode cX12_table 139 = .ok (.iaload, 1) := by decide +kernel
theorem dX12_table_140 : decode cX12_table 140 = .ok (.if_icmp .ne 14, 3) := by decide +kernel
theorem dX12_table_143 : decode cX12_table 143 = .ok (.iload 7, 2) := by decide +kernel
theorem dX12_table_145 : decode cX12_table 145 = .ok (.iload 5, 2) := by decide +kernel
theorem dX12_table_147 : decode cX12_table 147 = .ok (.if_icmp .ge 7, 3) := by decide +kernel
theorem dX12_table_150 : decode cX12_table 150 = .ok (.iconst 1, 1) := by decide +kernel
theorem dX12_table_151 : decode cX12_table 151 = .ok (.goto 4, 3) := by decide +kernel
theorem dX12_table_154 : decode cX12_table 154 = .ok (.iconst 0, 1) := by decide +kernel
theorem dX12_table_155 : decode cX12_table 155 = .ok (.iadd, 1) := by decide +kernel
theorem dX12_table_156 : decode cX12_table 156 = .ok (.istore 6, 2) := by decide +kernel
theorem dX12_table_158 : decode cX12_table 158 = .ok (.iinc 7 1, 3) := by decide +kernel
theorem dX12_table_161 : decode cX12_table 161 = .ok (.goto (-60), 3) := by decide +kernel
theorem dX12_table_164 : decode cX12_table 164 = .ok (.aload_n 0, 1) := by decide +kernel
theorem dX12_table_165 : decode cX12_table 165 = .ok (.getfield 135, 3) := by decide +kernel
theorem dX12_table_168 : decode cX12_table 168 = .ok (.iload 5, 2) := by decide +kernel
theorem dX12_table_170 : decode cX12_table 170 = .ok (.iconst 1, 1) := by decide +kernel
theorem dX12_table_171 : decode cX12_table 171 = .ok (.iload_n 2, 1) := by decide +kernel
theorem dX12_table_172 : decode cX12_table 172 = .ok (.iload 6, 2) := by decide +kernel
theorem dX12_table_174 : decode cX12_table 174 = .ok (.imul, 1) := by decide +kernel
theorem dX12_table_175 : decode cX12_table 175 = .ok (.iadd, 1) := by decide +kernel
theorem dX12_table_176 : decode cX12_table 176 = .ok (.iastore, 1) := by decide +kernel
theorem dX12_table_177 : decode cX12_table 177 = .ok (.iload 4, 2) := by decide +kernel
theorem dX12_table_179 : decode cX12_table 179 = .ok (.aload_n 0, 1) := by decide +kernel
theorem dX12_table_180 : decode cX12_table 180 = .ok (.getfield 132, 3) := by decide +kernel
theorem dX12_table_183 : decode cX12_table 183 = .ok (.iload 5, 2) := by decide +kernel
theorem dX12_table_185 : decode cX12_table 185 = .ok (.iaload, 1) := by decide +kernel
theorem dX12_table_186 : decode cX12_table 186 = .ok (.aload_n 0, 1) := by decide +kernel
theorem dX12_table_187 : decode cX12_table 187 = .ok (.getfield 135, 3) := by decide +kernel
theorem dX12_table_190 : decode cX12_table 190 = .ok (.iload 5, 2) := by decide +kernel
theorem dX12_table_192 : decode cX12_table 192 = .ok (.iaload, 1) := by decide +kernel
theorem dX12_table_193 : decode cX12_table 193 = .ok (.imul, 1) := by decide +kernel
theorem dX12_table_194 : decode cX12_table 194 = .ok (.iadd, 1) := by decide +kernel
theorem dX12_table_195 : decode cX12_table 195 = .ok (.istore 4, 2) := by decide +kernel
theorem dX12_table_197 : decode cX12_table 197 = .ok (.iinc 5 1, 3) := by decide +kernel
theorem dX12_table_200 : decode cX12_table 200 = .ok (.goto (-111), 3) := by decide +kernel
theorem dX12_table_203 : decode cX12_table 203 = .ok (.iload_n 3, 1) := by decide +kernel
theorem dX12_table_204 : decode cX12_table 204 = .ok (.iconst (-1), 1) := by decide +kernel
theorem dX12_table_205 : decode cX12_table 205 = .ok (.if_icmp .ne 8, 3) := by decide +kernel
theorem dX12_table_208 : decode cX12_table 208 = .ok (.iload 4, 2) := by decide +kernel
theorem dX12_table_210 : decode cX12_table 210 = .ok (.goto 11, 3) := by decide +kernel
theorem dX12_table_213 : decode cX12_table 213 = .ok (.aload_n 0, 1) := by decide +kernel
theorem dX12_table_214 : decode cX12_table 214 = .ok (.getfield 135, 3) := by decide +kernel
theorem dX12_table_217 : decode cX12_table 217 = .ok (.iload_n 3, 1) := by decide +kernel
theorem dX12_table_218 : decode cX12_table 218 = .ok (.iconst 1, 1) := by decide +kernel
theorem dX12_table_219 : decode cX12_table 219 = .ok (.isub, 1) := by decide +kernel
theorem dX12_table_220 : decode cX12_table 220 = .ok (.iaload, 1) := by decide +kernel
theorem dX12_table_221 : decode cX12_table 221 = .ok (.ireturn, 1) := by decide +kernel
theorem dX12_meaningFor_0 : decode cX12_meaningFor 0 = .ok (.iconst 0, 1) := by decide +kernel
theorem dX12_meaningFor_1 : decode cX12_meaningFor 1 = .ok (.istore_n 3, 1) := by decide +kernel
theorem dX12_meaningFor_2 : decode cX12_meaningFor 2 = .ok (.iload_n 3, 1) := by decide +kernel
theorem dX12_meaningFor_3 : decode cX12_meaningFor 3 = .ok (.iload_n 1, 1) := by decide +kernel
theorem dX12_meaningFor_4 : decode cX12_meaningFor 4 = .ok (.if_icmp .ge 21, 3) := by decide +kernel
theorem dX12_meaningFor_7 : decode cX12_meaningFor 7 = .ok (.aload_n 0, 1) := by decide +kernel
theorem dX12_meaningFor_8 : decode cX12_meaningFor 8 = .ok (.getfield 135, 3) := by decide +kernel
theorem dX12_meaningFor_11 : decode cX12_meaningFor 11 = .ok (.iload_n 3, 1) := by decide +kernel
theorem dX12_meaningFor_12 : decode cX12_meaningFor 12 = .ok (.iaload, 1) := by decide +kernel
theorem dX12_meaningFor_13 : decode cX12_meaningFor 13 = .ok (.iload_n 2, 1) := by decide +kernel
theorem dX12_meaningFor_14 : decode cX12_meaningFor 14 = .ok (.if_icmp .ne 5, 3) := by decide +kernel
theorem dX12_meaningFor_17 : decode cX12_meaningFor 17 = .ok (.iload_n 3, 1) := by decide +kernel
theorem dX12_meaningFor_18 : decode cX12_meaningFor 18 = .ok (.ireturn, 1) := by decide +kernel
theorem dX12_meaningFor_19 : decode cX12_meaningFor 19 = .ok (.iinc 3 1, 3) := by decide +kernel
theorem dX12_meaningFor_22 : decode cX12_meaningFor 22 = .ok (.goto (-20), 3) := by decide +kernel
theorem dX12_meaningFor_25 : decode cX12_meaningFor 25 = .ok (.iconst (-1), 1) := by decide +kernel
theorem dX12_meaningFor_26 : decode cX12_meaningFor 26 = .ok (.ireturn, 1) := by decide +kernel
theorem dX12_alike_0 : decode cX12_alike 0 = .ok (.iload_n 1, 1) := by decide +kernel
theorem dX12_alike_1 : decode cX12_alike 1 = .ok (.i2l, 1) := by decide +kernel
theorem dX12_alike_2 : decode cX12_alike 2 = .ok (.lconst 1, 1) := by decide +kernel
theorem dX12_alike_3 : decode cX12_alike 3 = .ok (.ldc2_w 387, 3) := by decide +kernel
theorem dX12_alike_6 : decode cX12_alike 6 = .ok (.invokestatic 147, 3) := by decide +kernel
theorem dX12_alike_9 : decode cX12_alike 9 = .ok (.ifCond .eq 23, 3) := by decide +kernel
theorem dX12_alike_12 : decode cX12_alike 12 = .ok (.iload_n 2, 1) := by decide +kernel
theorem dX12_alike_13 : decode cX12_alike 13 = .ok (.i2l, 1) := by decide +kernel
theorem dX12_alike_14 : decode cX12_alike 14 = .ok (.lconst 0, 1) := by decide +kernel
theorem dX12_alike_15 : decode cX12_alike 15 = .ok (.ldc2_w 325, 3) := by decide +kernel
theorem dX12_alike_18 : decode cX12_alike 18 = .ok (.invokestatic 147, 3) := by decide +kernel
theorem dX12_alike_21 : decode cX12_alike 21 = .ok (.ifCond .eq 11, 3) := by decide +kernel
theorem dX12_alike_24 : decode cX12_alike 24 = .ok (.iload_n 1, 1) := by decide +kernel
theorem dX12_alike_25 : decode cX12_alike 25 = .ok (.aload_n 0, 1) := by decide +kernel
theorem dX12_alike_26 : decode cX12_alike 26 = .ok (.getfield 161, 3) := by decide +kernel
theorem dX12_alike_29 : decode cX12_alike 29 = .ok (.if_icmp .le 5, 3) := by decide +kernel
theorem dX12_alike_32 : decode cX12_alike 32 = .ok (.iconst (-1), 1) := by decide +kernel
theorem dX12_alike_33 : decode cX12_alike 33 = .ok (.ireturn, 1) := by decide +kernel
theorem dX12_alike_34 : decode cX12_alike 34 = .ok (.aload_n 0, 1) := by decide +kernel
theorem dX12_alike_35 : decode cX12_alike 35 = .ok (.iconst 0, 1) := by decide +kernel
theorem dX12_alike_36 : decode cX12_alike 36 = .ok (.putfield 161, 3) := by decide +kernel
theorem dX12_alike_39 : decode cX12_alike 39 = .ok (.iconst 0, 1) := by decide +kernel
theorem dX12_alike_40 : decode cX12_alike 40 = .ok (.istore_n 3, 1) := by decide +kernel
theorem dX12_alike_41 : decode cX12_alike 41 = .ok (.iload_n 3, 1) := by decide +kernel
theorem dX12_alike_42 : decode cX12_alike 42 = .ok (.iload_n 1, 1) := by decide +kernel
theorem dX12_alike_43 : decode cX12_alike 43 = .ok (.if_icmp .ge 20, 3) := by decide +kernel
theorem dX12_alike_46 : decode cX12_alike 46 = .ok (.aload_n 0, 1) := by decide +kernel
theorem dX12_alike_47 : decode cX12_alike 47 = .ok (.getfield 135, 3) := by decide +kernel
theorem dX12_alike_50 : decode cX12_alike 50 = .ok (.iload_n 3, 1) := by decide +kernel
theorem dX12_alike_51 : decode cX12_alike 51 = .ok (.aload_n 0, 1) := by decide +kernel
theorem dX12_alike_52 : decode cX12_alike 52 = .ok (.iload_n 3, 1) := by decide +kernel
theorem dX12_alike_53 : decode cX12_alike 53 = .ok (.invokevirtual 327, 3) := by decide +kernel
theorem dX12_alike_56 : decode cX12_alike 56 = .ok (.iastore, 1) := by decide +kernel
theorem dX12_alike_57 : decode cX12_alike 57 = .ok (.iinc 3 1, 3) := by decide +kernel
theorem dX12_alike_60 : decode cX12_alike 60 = .ok (.goto (-19), 3) := by decide +kernel
theorem dX12_alike_63 : decode cX12_alike 63 = .ok (.iconst 0, 1) := by decide +kernel
theorem dX12_alike_64 : decode cX12_alike 64 = .ok (.istore_n 3, 1) := by decide +kernel
theorem dX12_alike_65 : decode cX12_alike 65 = .ok (.iload_n 3, 1) := by decide +kernel
theorem dX12_alike_66 : decode cX12_alike 66 = .ok (.iload_n 1, 1) := by decide +kernel
theorem dX12_alike_67 : decode cX12_alike 67 = .ok (.if_icmp .ge 44, 3) := by decide +kernel
theorem dX12_alike_70 : decode cX12_alike 70 = .ok (.aload_n 0, 1) := by decide +kernel
theorem dX12_alike_71 : decode cX12_alike 71 = .ok (.getfield 135, 3) := by decide +kernel
theorem dX12_alike_74 : decode cX12_alike 74 = .ok (.iload_n 3, 1) := by decide +kernel
theorem dX12_alike_75 : decode cX12_alike 75 = .ok (.iaload, 1) := by decide +kernel
theorem dX12_alike_76 : decode cX12_alike 76 = .ok (.i2l, 1) := by decide +kernel
theorem dX12_alike_77 : decode cX12_alike 77 = .ok (.lconst 1, 1) := by decide +kernel
theorem dX12_alike_78 : decode cX12_alike 78 = .ok (.ldc2_w 372, 3) := by decide +kernel
theorem dX12_alike_81 : decode cX12_alike 81 = .ok (.invokestatic 147, 3) := by decide +kernel
theorem dX12_alike_84 : decode cX12_alike 84 = .ok (.ifCond .eq 18, 3) := by decide +kernel
theorem dX12_alike_87 : decode cX12_alike 87 = .ok (.aload_n 0, 1) := by decide +kernel
theorem dX12_alike_88 : decode cX12_alike 88 = .ok (.iload_n 1, 1) := by decide +kernel
theorem dX12_alike_89 : decode cX12_alike 89 = .ok (.aload_n 0, 1) := by decide +kernel
theorem dX12_alike_90 : decode cX12_alike 90 = .ok (.getfield 135, 3) := by decide +kernel
theorem dX12_alike_93 : decode cX12_alike 93 = .ok (.iload_n 3, 1) := by decide +kernel
theorem dX12_alike_94 : decode cX12_alike 94 = .ok (.iaload, 1) := by decide +kernel
theorem dX12_alike_95 : decode cX12_alike 95 = .ok (.invokevirtual 485, 3) := by decide +kernel
theorem dX12_alike_98 : decode cX12_alike 98 = .ok (.iload_n 3, 1) := by decide +kernel
theorem dX12_alike_99 : decode cX12_alike 99 = .ok (.if_icmp .eq 6, 3) := by decide +kernel
theorem dX12_alike_102 : decode cX12_alike 102 = .ok (.bipush (-2), 2) := by decide +kernel
theorem dX12_alike_104 : decode cX12_alike 104 = .ok (.ireturn, 1) := by decide +kernel
theorem dX12_alike_105 : decode cX12_alike 105 = .ok (.iinc 3 1, 3) := by decide +kernel
theorem dX12_alike_108 : decode cX12_alike 108 = .ok (.goto (-43), 3) := by decide +kernel
theorem dX12_alike_111 : decode cX12_alike 111 = .ok (.iconst 0, 1) := by decide +kernel
theorem dX12_alike_112 : decode cX12_alike 112 = .ok (.istore_n 3, 1) := by decide +kernel
theorem dX12_alike_113 : decode cX12_alike 113 = .ok (.bipush (-3), 2) := by decide +kernel
theorem dX12_alike_115 : decode cX12_alike 115 = .ok (.istore 4, 2) := by decide +kernel
theorem dX12_alike_117 : decode cX12_alike 117 = .ok (.iconst 0, 1) := by decide +kernel
theorem dX12_alike_118 : decode cX12_alike 118 = .ok (.istore 5, 2) := by decide +kernel
theorem dX12_alike_120 : decode cX12_alike 120 = .ok (.iload 5, 2) := by decide +kernel
theorem dX12_alike_122 : decode cX12_alike 122 = .ok (.iload_n 1, 1) := by decide +kernel
theorem dX12_alike_123 : decode cX12_alike 123 = .ok (.if_icmp .ge 113, 3) := by decide +kernel
theorem dX12_alike_126 : decode cX12_alike 126 = .ok (.iconst 0, 1) := by decide +kernel
theorem dX12_alike_127 : decode cX12_alike 127 = .ok (.istore 6, 2) := by decide +kernel
theorem dX12_alike_129 : decode cX12_alike 129 = .ok (.iload 6, 2) := by decide +kernel
theorem dX12_alike_131 : decode cX12_alike 131 = .ok (.iload_n 1, 1) := by decide +kernel
theorem dX12_alike_132 : decode cX12_alike 132 = .ok (.if_icmp .ge 98, 3) := by decide +kernel
theorem dX12_alike_135 : decode cX12_alike 135 = .ok (.aload_n 0, 1) := by decide +kernel
theorem dX12_alike_136 : decode cX12_alike 136 = .ok (.iload_n 1, 1) := by decide +kernel
theorem dX12_alike_137 : decode cX12_alike 137 = .ok (.aload_n 0, 1) := by decide +kernel
theorem dX12_alike_138 : decode cX12_alike 138 = .ok (.getfield 135, 3) := by decide +kernel
theorem dX12_alike_141 : decode cX12_alike 141 = .ok (.iload 5, 2) := by decide +kernel
theorem dX12_alike_143 : decode cX12_alike 143 = .ok (.iaload, 1) := by decide +kernel
theorem dX12_alike_144 : decode cX12_alike 144 = .ok (.iconst 1, 1) := by decide +kernel
theorem dX12_alike_145 : decode cX12_alike 145 = .ok (.iadd, 1) := by decide +kernel
theorem dX12_alike_146 : decode cX12_alike 146 = .ok (.invokevirtual 485, 3) := by decide +kernel
theorem dX12_alike_149 : decode cX12_alike 149 = .ok (.istore 7, 2) := by decide +kernel
theorem dX12_alike_151 : decode cX12_alike 151 = .ok (.aload_n 0, 1) := by decide +kernel
theorem dX12_alike_152 : decode cX12_alike 152 = .ok (.iload_n 1, 1) := by decide +kernel
theorem dX12_alike_153 : decode cX12_alike 153 = .ok (.aload_n 0, 1) := by decide +kernel
theorem dX12_alike_154 : decode cX12_alike 154 = .ok (.getfield 135, 3) := by decide +kernel
theorem dX12_alike_157 : decode cX12_alike 157 = .ok (.iload 6, 2) := by decide +kernel
theorem dX12_alike_159 : decode cX12_alike 159 = .ok (.iaload, 1) := by decide +kernel
theorem dX12_alike_160 : decode cX12_alike 160 = .ok (.iconst 1, 1) := by decide +kernel
theorem dX12_alike_161 : decode cX12_alike 161 = .ok (.isub, 1) := by decide +kernel
theorem dX12_alike_162 : decode cX12_alike 162 = .ok (.invokevirtual 485, 3) := by decide +kernel
theorem dX12_alike_165 : decode cX12_alike 165 = .ok (.istore 8, 2) := by decide +kernel
theorem dX12_alike_167 : decode cX12_alike 167 = .ok (.iload 7, 2) := by decide +kernel
theorem dX12_alike_169 : decode cX12_alike 169 = .ok (.iconst (-1), 1) := by decide +kernel
theorem dX12_alike_170 : decode cX12_alike 170 = .ok (.if_icmp .eq 54, 3) := by decide +kernel
theorem dX12_alike_173 : decode cX12_alike 173 = .ok (.iload 8, 2) := by decide +kernel
theorem dX12_alike_175 : decode cX12_alike 175 = .ok (.iconst (-1), 1) := by decide +kernel
theorem dX12_alike_176 : decode cX12_alike 176 = .ok (.if_icmp .ne 6, 3) := by decide +kernel
theorem dX12_alike_179 : decode cX12_alike 179 = .ok (.goto 45, 3) := by decide +kernel
theorem dX12_alike_182 : decode cX12_alike 182 = .ok (.iload_n 3, 1) := by decide +kernel
theorem dX12_alike_183 : decode cX12_alike 183 = .ok (.ifCond .ne 38, 3) := by decide +kernel
theorem dX12_alike_186 : decode cX12_alike 186 = .ok (.iconst 1, 1) := by decide +kernel
theorem dX12_alike_187 : decode cX12_alike 187 = .ok (.iload_n 2, 1) := by decide +kernel
theorem dX12_alike_188 : decode cX12_alike 188 = .ok (.ifCond .ne 8, 3) := by decide +kernel
theorem dX12_alike_191 : decode cX12_alike 191 = .ok (.iload 5, 2) := by decide +kernel
theorem dX12_alike_193 : decode cX12_alike 193 = .ok (.goto 25, 3) := by decide +kernel
theorem dX12_alike_196 : decode cX12_alike 196 = .ok (.iload_n 2, 1) := by decide +kernel
theorem dX12_alike_197 : decode cX12_alike 197 = .ok (.iconst 1, 1) := by decide +kernel
theorem dX12_alike_198 : decode cX12_alike 198 = .ok (.if_icmp .ne 8, 3) := by decide +kernel
theorem dX12_alike_201 : decode cX12_alike 201 = .ok (.iload 6, 2) := by decide +kernel
theorem dX12_alike_203 : decode cX12_alike 203 = .ok (.goto 15, 3) := by decide +kernel
theorem dX12_alike_206 : decode cX12_alike 206 = .ok (.iload_n 2, 1) := by decide +kernel
theorem dX12_alike_207 : decode cX12_alike 207 = .ok (.iconst 2, 1) := by decide +kernel
theorem dX12_alike_208 : decode cX12_alike 208 = .ok (.if_icmp .ne 8, 3) := by decide +kernel
theorem dX12_alike_211 : decode cX12_alike 211 = .ok (.iload 7, 2) := by decide +kernel
theorem dX12_alike_213 : decode cX12_alike 213 = .ok (.goto 5, 3) := by decide +kernel
theorem dX12_alike_216 : decode cX12_alike 216 = .ok (.iload 8, 2) := by decide +kernel
theorem dX12_alike_218 : decode cX12_alike 218 = .ok (.iadd, 1) := by decide +kernel
theorem dX12_alike_219 : decode cX12_alike 219 = .ok (.istore 4, 2) := by decide +kernel
theorem dX12_alike_221 : decode cX12_alike 221 = .ok (.iinc 3 1, 3) := by decide +kernel
theorem dX12_alike_224 : decode cX12_alike 224 = .ok (.iinc 6 1, 3) := by decide +kernel
theorem dX12_alike_227 : decode cX12_alike 227 = .ok (.goto (-98), 3) := by decide +kernel
theorem dX12_alike_230 : decode cX12_alike 230 = .ok (.iinc 5 1, 3) := by decide +kernel
theorem dX12_alike_233 : decode cX12_alike 233 = .ok (.goto (-113), 3) := by decide +kernel
theorem dX12_alike_236 : decode cX12_alike 236 = .ok (.iload_n 2, 1) := by decide +kernel
theorem dX12_alike_237 : decode cX12_alike 237 = .ok (.iconst 4, 1) := by decide +kernel
theorem dX12_alike_238 : decode cX12_alike 238 = .ok (.if_icmp .ne 7, 3) := by decide +kernel
theorem dX12_alike_241 : decode cX12_alike 241 = .ok (.iload_n 3, 1) := by decide +kernel
theorem dX12_alike_242 : decode cX12_alike 242 = .ok (.goto 5, 3) := by decide +kernel
theorem dX12_alike_245 : decode cX12_alike 245 = .ok (.iload 4, 2) := by decide +kernel
theorem dX12_alike_247 : decode cX12_alike 247 = .ok (.ireturn, 1) := by decide +kernel
theorem dX12_seed_0 : decode cX12_seed 0 = .ok (.iload_n 1, 1) := by decide +kernel
theorem dX12_seed_1 : decode cX12_seed 1 = .ok (.i2l, 1) := by decide +kernel
theorem dX12_seed_2 : decode cX12_seed 2 = .ok (.lconst 0, 1) := by decide +kernel
theorem dX12_seed_3 : decode cX12_seed 3 = .ok (.ldc2_w 488, 3) := by decide +kernel
theorem dX12_seed_6 : decode cX12_seed 6 = .ok (.invokestatic 147, 3) := by decide +kernel
theorem dX12_seed_9 : decode cX12_seed 9 = .ok (.ifCond .ne 5, 3) := by decide +kernel
theorem dX12_seed_12 : decode cX12_seed 12 = .ok (.iconst 0, 1) := by decide +kernel
theorem dX12_seed_13 : decode cX12_seed 13 = .ok (.ireturn, 1) := by decide +kernel
theorem dX12_seed_14 : decode cX12_seed 14 = .ok (.aload_n 0, 1) := by decide +kernel
theorem dX12_seed_15 : decode cX12_seed 15 = .ok (.iload_n 1, 1) := by decide +kernel
theorem dX12_seed_16 : decode cX12_seed 16 = .ok (.putfield 20, 3) := by decide +kernel
theorem dX12_seed_19 : decode cX12_seed 19 = .ok (.iconst 1, 1) := by decide +kernel
theorem dX12_seed_20 : decode cX12_seed 20 = .ok (.ireturn, 1) := by decide +kernel
theorem dX12_draw_0 : decode cX12_draw 0 = .ok (.iload_n 1, 1) := by decide +kernel
theorem dX12_draw_1 : decode cX12_draw 1 = .ok (.i2l, 1) := by decide +kernel
theorem dX12_draw_2 : decode cX12_draw 2 = .ok (.lconst 1, 1) := by decide +kernel
theorem dX12_draw_3 : decode cX12_draw 3 = .ok (.ldc2_w 157, 3) := by decide +kernel
theorem dX12_draw_6 : decode cX12_draw 6 = .ok (.invokestatic 147, 3) := by decide +kernel
theorem dX12_draw_9 : decode cX12_draw 9 = .ok (.ifCond .ne 5, 3) := by decide +kernel
theorem dX12_draw_12 : decode cX12_draw 12 = .ok (.iconst (-1), 1) := by decide +kernel
theorem dX12_draw_13 : decode cX12_draw 13 = .ok (.ireturn, 1) := by decide +kernel
theorem dX12_draw_14 : decode cX12_draw 14 = .ok (.aload_n 0, 1) := by decide +kernel
theorem dX12_draw_15 : decode cX12_draw 15 = .ok (.getfield 332, 3) := by decide +kernel
theorem dX12_draw_18 : decode cX12_draw 18 = .ok (.ifCond .ne 7, 3) := by decide +kernel
theorem dX12_draw_21 : decode cX12_draw 21 = .ok (.iconst 0, 1) := by decide +kernel
theorem dX12_draw_22 : decode cX12_draw 22 = .ok (.goto 16, 3) := by decide +kernel
theorem dX12_draw_25 : decode cX12_draw 25 = .ok (.aload_n 0, 1) := by decide +kernel
theorem dX12_draw_26 : decode cX12_draw 26 = .ok (.getfield 42, 3) := by decide +kernel
theorem dX12_draw_29 : decode cX12_draw 29 = .ok (.aload_n 0, 1) := by decide +kernel
theorem dX12_draw_30 : decode cX12_draw 30 = .ok (.getfield 332, 3) := by decide +kernel
theorem dX12_draw_33 : decode cX12_draw 33 = .ok (.iconst 1, 1) := by decide +kernel
theorem dX12_draw_34 : decode cX12_draw 34 = .ok (.isub, 1) := by decide +kernel
theorem dX12_draw_35 : decode cX12_draw 35 = .ok (.iaload, 1) := by decide +kernel
theorem dX12_draw_36 : decode cX12_draw 36 = .ok (.iconst 1, 1) := by decide +kernel
theorem dX12_draw_37 : decode cX12_draw 37 = .ok (.iadd, 1) := by decide +kernel
theorem dX12_draw_38 : decode cX12_draw 38 = .ok (.istore_n 2, 1) := by decide +kernel
theorem dX12_draw_39 : decode cX12_draw 39 = .ok (.iconst 0, 1) := by decide +kernel
theorem dX12_draw_40 : decode cX12_draw 40 = .ok (.istore_n 3, 1) := by decide +kernel
theorem dX12_draw_41 : decode cX12_draw 41 = .ok (.iconst 0, 1) := by decide +kernel
theorem dX12_draw_42 : decode cX12_draw 42 = .ok (.istore 4, 2) := by decide +kernel
theorem dX12_draw_44 : decode cX12_draw 44 = .ok (.iload 4, 2) := by decide +kernel
theorem dX12_draw_46 : decode cX12_draw 46 = .ok (.iload_n 1, 1) := by decide +kernel
theorem dX12_draw_47 : decode cX12_draw 47 = .ok (.if_icmp .ge 106, 3) := by decide +kernel
theorem dX12_draw_50 : decode cX12_draw 50 = .ok (.aload_n 0, 1) := by decide +kernel
theorem dX12_draw_51 : decode cX12_draw 51 = .ok (.sipush 25173, 3) := by decide +kernel
theorem dX12_draw_54 : decode cX12_draw 54 = .ok (.aload_n 0, 1) := by decide +kernel
theorem dX12_draw_55 : decode cX12_draw 55 = .ok (.getfield 20, 3) := by decide +kernel
theorem dX12_draw_58 : decode cX12_draw 58 = .ok (.imul, 1) := by decide +kernel
theorem dX12_draw_59 : decode cX12_draw 59 = .ok (.sipush 13849, 3) := by decide +kernel
theorem dX12_draw_62 : decode cX12_draw 62 = .ok (.iadd, 1) := by decide +kernel
theorem dX12_draw_63 : decode cX12_draw 63 = .ok (.ldc_w 490, 3) := by decide +kernel
theorem dX12_draw_66 : decode cX12_draw 66 = .ok (.irem, 1) := by decide +kernel
theorem dX12_draw_67 : decode cX12_draw 67 = .ok (.putfield 20, 3) := by decide +kernel
theorem dX12_draw_70 : decode cX12_draw 70 = .ok (.aload_n 0, 1) := by decide +kernel
theorem dX12_draw_71 : decode cX12_draw 71 = .ok (.getfield 20, 3) := by decide +kernel
theorem dX12_draw_74 : decode cX12_draw 74 = .ok (.bipush 8, 2) := by decide +kernel
theorem dX12_draw_76 : decode cX12_draw 76 = .ok (.irem, 1) := by decide +kernel
theorem dX12_draw_77 : decode cX12_draw 77 = .ok (.istore 5, 2) := by decide +kernel
theorem dX12_draw_79 : decode cX12_draw 79 = .ok (.aload_n 0, 1) := by decide +kernel
theorem dX12_draw_80 : decode cX12_draw 80 = .ok (.iload 5, 2) := by decide +kernel
theorem dX12_draw_82 : decode cX12_draw 82 = .ok (.invokevirtual 322, 3) := by decide +kernel
theorem dX12_draw_85 : decode cX12_draw 85 = .ok (.ifCond .eq 62, 3) := by decide +kernel
theorem dX12_draw_88 : decode cX12_draw 88 = .ok (.aload_n 0, 1) := by decide +kernel
theorem dX12_draw_89 : decode cX12_draw 89 = .ok (.getfield 20, 3) := by decide +kernel
theorem dX12_draw_92 : decode cX12_draw 92 = .ok (.bipush 8, 2) := by decide +kernel
theorem dX12_draw_94 : decode cX12_draw 94 = .ok (.idiv, 1) := by decide +kernel
theorem dX12_draw_95 : decode cX12_draw 95 = .ok (.sipush 1000, 3) := by decide +kernel
theorem dX12_draw_98 : decode cX12_draw 98 = .ok (.irem, 1) := by decide +kernel
theorem dX12_draw_99 : decode cX12_draw 99 = .ok (.aload_n 0, 1) := by decide +kernel
theorem dX12_draw_100 : decode cX12_draw 100 = .ok (.getfield 30, 3) := by decide +kernel
theorem dX12_draw_103 : decode cX12_draw 103 = .ok (.iload 5, 2) := by decide +kernel
theorem dX12_draw_105 : decode cX12_draw 105 = .ok (.iaload, 1) := by decide +kernel
theorem dX12_draw_106 : decode cX12_draw 106 = .ok (.if_icmp .ge 41, 3) := by decide +kernel
theorem dX12_draw_109 : decode cX12_draw 109 = .ok (.iload_n 2, 1) := by decide +kernel
theorem dX12_draw_110 : decode cX12_draw 110 = .ok (.iload 4, 2) := by decide +kernel
theorem dX12_draw_112 : decode cX12_draw 112 = .ok (.iadd, 1) := by decide +kernel
theorem dX12_draw_113 : decode cX12_draw 113 = .ok (.sipush 9999, 3) := by decide +kernel
theorem dX12_draw_116 : decode cX12_draw 116 = .ok (.if_icmp .gt 31, 3) := by decide +kernel
theorem dX12_draw_119 : decode cX12_draw 119 = .ok (.aload_n 0, 1) := by decide +kernel
theorem dX12_draw_120 : decode cX12_draw 120 = .ok (.getfield 332, 3) := by decide +kernel
theorem dX12_draw_123 : decode cX12_draw 123 = .ok (.sipush 150, 3) := by decide +kernel
theorem dX12_draw_126 : decode cX12_draw 126 = .ok (.if_icmp .ne 6, 3) := by decide +kernel
theorem dX12_draw_129 : decode cX12_draw 129 = .ok (.goto 18, 3) := by decide +kernel
theorem dX12_draw_132 : decode cX12_draw 132 = .ok (.aload_n 0, 1) := by decide +kernel
theorem dX12_draw_133 : decode cX12_draw 133 = .ok (.iload 5, 2) := by decide +kernel
theorem dX12_draw_135 : decode cX12_draw 135 = .ok (.iload_n 2, 1) := by decide +kernel
theorem dX12_draw_136 : decode cX12_draw 136 = .ok (.iload 4, 2) := by decide +kernel
theorem dX12_draw_138 : decode cX12_draw 138 = .ok (.iadd, 1) := by decide +kernel
theorem dX12_draw_139 : decode cX12_draw 139 = .ok (.invokevirtual 491, 3) := by decide +kernel
theorem dX12_draw_142 : decode cX12_draw 142 = .ok (.istore 6, 2) := by decide +kernel
theorem dX12_draw_144 : decode cX12_draw 144 = .ok (.iinc 3 1, 3) := by decide +kernel
theorem dX12_draw_147 : decode cX12_draw 147 = .ok (.iinc 4 1, 3) := by decide +kernel
theorem dX12_draw_150 : decode cX12_draw 150 = .ok (.goto (-106), 3) := by decide +kernel
theorem dX12_draw_153 : decode cX12_draw 153 = .ok (.iload_n 3, 1) := by decide +kernel
theorem dX12_draw_154 : decode cX12_draw 154 = .ok (.ireturn, 1) := by decide +kernel
theorem dX12_keep_0 : decode cX12_keep 0 = .ok (.aload_n 0, 1) := by decide +kernel
theorem dX12_keep_1 : decode cX12_keep 1 = .ok (.iconst 1, 1) := by decide +kernel
theorem dX12_keep_2 : decode cX12_keep 2 = .ok (.putfield 494, 3) := by decide +kernel
theorem dX12_keep_5 : decode cX12_keep 5 = .ok (.aload_n 0, 1) := by decide +kernel
theorem dX12_keep_6 : decode cX12_keep 6 = .ok (.aload_n 0, 1) := by decide +kernel
theorem dX12_keep_7 : decode cX12_keep 7 = .ok (.getfield 332, 3) := by decide +kernel
theorem dX12_keep_10 : decode cX12_keep 10 = .ok (.putfield 497, 3) := by decide +kernel
theorem dX12_keep_13 : decode cX12_keep 13 = .ok (.aload_n 0, 1) := by decide +kernel
theorem dX12_keep_14 : decode cX12_keep 14 = .ok (.aload_n 0, 1) := by decide +kernel
theorem dX12_keep_15 : decode cX12_keep 15 = .ok (.getfield 20, 3) := by decide +kernel
theorem dX12_keep_18 : decode cX12_keep 18 = .ok (.putfield 500, 3) := by decide +kernel
theorem dX12_keep_21 : decode cX12_keep 21 = .ok (.iconst 0, 1) := by decide +kernel
theorem dX12_keep_22 : decode cX12_keep 22 = .ok (.istore_n 1, 1) := by decide +kernel
theorem dX12_keep_23 : decode cX12_keep 23 = .ok (.iload_n 1, 1) := by decide +kernel
theorem dX12_keep_24 : decode cX12_keep 24 = .ok (.sipush 150, 3) := by decide +kernel
theorem dX12_keep_27 : decode cX12_keep 27 = .ok (.if_icmp .ge 33, 3) := by decide +kernel
theorem dX12_keep_30 : decode cX12_keep 30 = .ok (.aload_n 0, 1) := by decide +kernel
theorem dX12_keep_31 : decode cX12_keep 31 = .ok (.getfield 138, 3) := by decide +kernel
theorem dX12_keep_34 : decode cX12_keep 34 = .ok (.iload_n 1, 1) := by decide +kernel
theorem dX12_keep_35 : decode cX12_keep 35 = .ok (.aload_n 0, 1) := by decide +kernel
theorem dX12_keep_36 : decode cX12_keep 36 = .ok (.getfield 39, 3) := by decide +kernel
theorem dX12_keep_39 : decode cX12_keep 39 = .ok (.iload_n 1, 1) := by decide +kernel
theorem dX12_keep_40 : decode cX12_keep 40 = .ok (.iaload, 1) := by decide +kernel
theorem dX12_keep_41 : decode cX12_keep 41 = .ok (.iastore, 1) := by decide +kernel
theorem dX12_keep_42 : decode cX12_keep 42 = .ok (.aload_n 0, 1) := by decide +kernel
theorem dX12_keep_43 : decode cX12_keep 43 = .ok (.getfield 141, 3) := by decide +kernel
theorem dX12_keep_46 : decode cX12_keep 46 = .ok (.iload_n 1, 1) := by decide +kernel
theorem dX12_keep_47 : decode cX12_keep 47 = .ok (.aload_n 0, 1) := by decide +kernel
theorem dX12_keep_48 : decode cX12_keep 48 = .ok (.getfield 42, 3) := by decide +kernel
theorem dX12_keep_51 : decode cX12_keep 51 = .ok (.iload_n 1, 1) := by decide +kernel
theorem dX12_keep_52 : decode cX12_keep 52 = .ok (.iaload, 1) := by decide +kernel
theorem dX12_keep_53 : decode cX12_keep 53 = .ok (.iastore, 1) := by decide +kernel
theorem dX12_keep_54 : decode cX12_keep 54 = .ok (.iinc 1 1, 3) := by decide +kernel
theorem dX12_keep_57 : decode cX12_keep 57 = .ok (.goto (-34), 3) := by decide +kernel
theorem dX12_keep_60 : decode cX12_keep 60 = .ok (.aload_n 0, 1) := by decide +kernel
theorem dX12_keep_61 : decode cX12_keep 61 = .ok (.getfield 332, 3) := by decide +kernel
theorem dX12_keep_64 : decode cX12_keep 64 = .ok (.ireturn, 1) := by decide +kernel
theorem dX12_undo_0 : decode cX12_undo 0 = .ok (.aload_n 0, 1) := by decide +kernel
theorem dX12_undo_1 : decode cX12_undo 1 = .ok (.getfield 494, 3) := by decide +kernel
theorem dX12_undo_4 : decode cX12_undo 4 = .ok (.ifCond .ne 5, 3) := by decide +kernel
theorem dX12_undo_7 : decode cX12_undo 7 = .ok (.iconst 0, 1) := by decide +kernel
theorem dX12_undo_8 : decode cX12_undo 8 = .ok (.ireturn, 1) := by decide +kernel
theorem dX12_undo_9 : decode cX12_undo 9 = .ok (.aload_n 0, 1) := by decide +kernel
theorem dX12_undo_10 : decode cX12_undo 10 = .ok (.aload_n 0, 1) := by decide +kernel
theorem dX12_undo_11 : decode cX12_undo 11 = .ok (.getfield 497, 3) := by decide +kernel
theorem dX12_undo_14 : decode cX12_undo 14 = .ok (.putfield 332, 3) := by decide +kernel
theorem dX12_undo_17 : decode cX12_undo 17 = .ok (.aload_n 0, 1) := by decide +kernel
theorem dX12_undo_18 : decode cX12_undo 18 = .ok (.aload_n 0, 1) := by decide +kernel
theorem dX12_undo_19 : decode cX12_undo 19 = .ok (.getfield 500, 3) := by decide +kernel
theorem dX12_undo_22 : decode cX12_undo 22 = .ok (.putfield 20, 3) := by decide +kernel
theorem dX12_undo_25 : decode cX12_undo 25 = .ok (.iconst 0, 1) := by decide +kernel
theorem dX12_undo_26 : decode cX12_undo 26 = .ok (.istore_n 1, 1) := by decide +kernel
theorem dX12_undo_27 : decode cX12_undo 27 = .ok (.iload_n 1, 1) := by decide +kernel
theorem dX12_undo_28 : decode cX12_undo 28 = .ok (.sipush 150, 3) := by decide +kernel
theorem dX12_undo_31 : decode cX12_undo 31 = .ok (.if_icmp .ge 33, 3) := by decide +kernel
theorem dX12_undo_34 : decode cX12_undo 34 = .ok (.aload_n 0, 1) := by decide +kernel
theorem dX12_undo_35 : decode cX12_undo 35 = .ok (.getfield 39, 3) := by decide +kernel
theorem dX12_undo_38 : decode cX12_undo 38 = .ok (.iload_n 1, 1) := by decide +kernel
theorem dX12_undo_39 : decode cX12_undo 39 = .ok (.aload_n 0, 1) := by decide +kernel
theorem dX12_undo_40 : decode cX12_undo 40 = .ok (.getfield 138, 3) := by decide +kernel
theorem dX12_undo_43 : decode cX12_undo 43 = .ok (.iload_n 1, 1) := by decide +kernel
theorem dX12_undo_44 : decode cX12_undo 44 = .ok (.iaload, 1) := by decide +kernel
theorem dX12_undo_45 : decode cX12_undo 45 = .ok (.iastore, 1) := by decide +kernel
theorem dX12_undo_46 : decode cX12_undo 46 = .ok (.aload_n 0, 1) := by decide +kernel
theorem dX12_undo_47 : decode cX12_undo 47 = .ok (.getfield 42, 3) := by decide +kernel
theorem dX12_undo_50 : decode cX12_undo 50 = .ok (.iload_n 1, 1) := by decide +kernel
theorem dX12_undo_51 : decode cX12_undo 51 = .ok (.aload_n 0, 1) := by decide +kernel
theorem dX12_undo_52 : decode cX12_undo 52 = .ok (.getfield 141, 3) := by decide +kernel
theorem dX12_undo_55 : decode cX12_undo 55 = .ok (.iload_n 1, 1) := by decide +kernel
theorem dX12_undo_56 : decode cX12_undo 56 = .ok (.iaload, 1) := by decide +kernel
theorem dX12_undo_57 : decode cX12_undo 57 = .ok (.iastore, 1) := by decide +kernel
theorem dX12_undo_58 : decode cX12_undo 58 = .ok (.iinc 1 1, 3) := by decide +kernel
theorem dX12_undo_61 : decode cX12_undo 61 = .ok (.goto (-34), 3) := by decide +kernel
theorem dX12_undo_64 : decode cX12_undo 64 = .ok (.iconst 1, 1) := by decide +kernel
theorem dX12_undo_65 : decode cX12_undo 65 = .ok (.ireturn, 1) := by decide +kernel
theorem dX12_quiet_0 : decode cX12_quiet 0 = .ok (.aload_n 0, 1) := by decide +kernel
theorem dX12_quiet_1 : decode cX12_quiet 1 = .ok (.getfield 332, 3) := by decide +kernel
theorem dX12_quiet_4 : decode cX12_quiet 4 = .ok (.istore_n 1, 1) := by decide +kernel
theorem dX12_quiet_5 : decode cX12_quiet 5 = .ok (.aload_n 0, 1) := by decide +kernel
theorem dX12_quiet_6 : decode cX12_quiet 6 = .ok (.iconst 0, 1) := by decide +kernel
theorem dX12_quiet_7 : decode cX12_quiet 7 = .ok (.putfield 332, 3) := by decide +kernel
theorem dX12_quiet_10 : decode cX12_quiet 10 = .ok (.iload_n 1, 1) := by decide +kernel
theorem dX12_quiet_11 : decode cX12_quiet 11 = .ok (.ireturn, 1) := by decide +kernel
theorem dX12_numberAt_0 : decode cX12_numberAt 0 = .ok (.iconst 0, 1) := by decide +kernel
theorem dX12_numberAt_1 : decode cX12_numberAt 1 = .ok (.istore_n 2, 1) := by decide +kernel
theorem dX12_numberAt_2 : decode cX12_numberAt 2 = .ok (.iconst 0, 1) := by decide +kernel
theorem dX12_numberAt_3 : decode cX12_numberAt 3 = .ok (.istore_n 3, 1) := by decide +kernel
theorem dX12_numberAt_4 : decode cX12_numberAt 4 = .ok (.iload_n 3, 1) := by decide +kernel
theorem dX12_numberAt_5 : decode cX12_numberAt 5 = .ok (.iconst 4, 1) := by decide +kernel
theorem dX12_numberAt_6 : decode cX12_numberAt 6 = .ok (.if_icmp .ge 29, 3) := by decide +kernel
theorem dX12_numberAt_9 : decode cX12_numberAt 9 = .ok (.iload_n 2, 1) := by decide +kernel
theorem dX12_numberAt_10 : decode cX12_numberAt 10 = .ok (.bipush 8, 2) := by decide +kernel
theorem dX12_numberAt_12 : decode cX12_numberAt 12 = .ok (.ishl, 1) := by decide +kernel
theorem dX12_numberAt_13 : decode cX12_numberAt 13 = .ok (.aload_n 0, 1) := by decide +kernel
theorem dX12_numberAt_14 : decode cX12_numberAt 14 = .ok (.getfield 7, 3) := by decide +kernel
theorem dX12_numberAt_17 : decode cX12_numberAt 17 = .ok (.iconst 4, 1) := by decide +kernel
theorem dX12_numberAt_18 : decode cX12_numberAt 18 = .ok (.iload_n 1, 1) := by decide +kernel
theorem dX12_numberAt_19 : decode cX12_numberAt 19 = .ok (.imul, 1) := by decide +kernel
theorem dX12_numberAt_20 : decode cX12_numberAt 20 = .ok (.iload_n 3, 1) := by decide +kernel
theorem dX12_numberAt_21 : decode cX12_numberAt 21 = .ok (.iadd, 1) := by decide +kernel
theorem dX12_numberAt_22 : decode cX12_numberAt 22 = .ok (.baload, 1) := by decide +kernel
theorem dX12_numberAt_23 : decode cX12_numberAt 23 = .ok (.sipush 255, 3) := by decide +kernel
theorem dX12_numberAt_26 : decode cX12_numberAt 26 = .ok (.iand, 1) := by decide +kernel
theorem dX12_numberAt_27 : decode cX12_numberAt 27 = .ok (.ior, 1) := by decide +kernel
theorem dX12_numberAt_28 : decode cX12_numberAt 28 = .ok (.istore_n 2, 1) := by decide +kernel
theorem dX12_numberAt_29 : decode cX12_numberAt 29 = .ok (.iinc 3 1, 3) := by decide +kernel
theorem dX12_numberAt_32 : decode cX12_numberAt 32 = .ok (.goto (-28), 3) := by decide +kernel
theorem dX12_numberAt_35 : decode cX12_numberAt 35 = .ok (.iload_n 2, 1) := by decide +kernel
theorem dX12_numberAt_36 : decode cX12_numberAt 36 = .ok (.ireturn, 1) := by decide +kernel
theorem dX12_check_0 : decode cX12_check 0 = .ok (.aload_n 0, 1) := by decide +kernel
theorem dX12_check_1 : decode cX12_check 1 = .ok (.iload_n 1, 1) := by decide +kernel
theorem dX12_check_2 : decode cX12_check 2 = .ok (.invokevirtual 322, 3) := by decide +kernel
theorem dX12_check_5 : decode cX12_check 5 = .ok (.ifCond .eq 17, 3) := by decide +kernel
theorem dX12_check_8 : decode cX12_check 8 = .ok (.iload_n 2, 1) := by decide +kernel
theorem dX12_check_9 : decode cX12_check 9 = .ok (.ifCond .lt 13, 3) := by decide +kernel
theorem dX12_check_12 : decode cX12_check 12 = .ok (.iload_n 2, 1) := by decide +kernel
theorem dX12_check_13 : decode cX12_check 13 = .ok (.aload_n 0, 1) := by decide +kernel
theorem dX12_check_14 : decode cX12_check 14 = .ok (.getfield 161, 3) := by decide +kernel
theorem dX12_check_17 : decode cX12_check 17 = .ok (.iconst 4, 1) := by decide +kernel
theorem dX12_check_18 : decode cX12_check 18 = .ok (.idiv, 1) := by decide +kernel
theorem dX12_check_19 : decode cX12_check 19 = .ok (.if_icmp .le 6, 3) := by decide +kernel
theorem dX12_check_22 : decode cX12_check 22 = .ok (.bipush (-2), 2) := by decide +kernel
theorem dX12_check_24 : decode cX12_check 24 = .ok (.ireturn, 1) := by decide +kernel
theorem dX12_check_25 : decode cX12_check 25 = .ok (.aload_n 0, 1) := by decide +kernel
theorem dX12_check_26 : decode cX12_check 26 = .ok (.iconst 0, 1) := by decide +kernel
theorem dX12_check_27 : decode cX12_check 27 = .ok (.putfield 161, 3) := by decide +kernel
theorem dX12_check_30 : decode cX12_check 30 = .ok (.aload_n 0, 1) := by decide +kernel
theorem dX12_check_31 : decode cX12_check 31 = .ok (.iload_n 1, 1) := by decide +kernel
theorem dX12_check_32 : decode cX12_check 32 = .ok (.invokevirtual 364, 3) := by decide +kernel
theorem dX12_check_35 : decode cX12_check 35 = .ok (.iconst 0, 1) := by decide +kernel
theorem dX12_check_36 : decode cX12_check 36 = .ok (.istore_n 3, 1) := by decide +kernel
theorem dX12_check_37 : decode cX12_check 37 = .ok (.iload_n 3, 1) := by decide +kernel
theorem dX12_check_38 : decode cX12_check 38 = .ok (.aload_n 0, 1) := by decide +kernel
theorem dX12_check_39 : decode cX12_check 39 = .ok (.getfield 343, 3) := by decide +kernel
theorem dX12_check_42 : decode cX12_check 42 = .ok (.if_icmp .ge 32, 3) := by decide +kernel
theorem dX12_check_45 : decode cX12_check 45 = .ok (.iload_n 3, 1) := by decide +kernel
theorem dX12_check_46 : decode cX12_check 46 = .ok (.iload_n 2, 1) := by decide +kernel
theorem dX12_check_47 : decode cX12_check 47 = .ok (.if_icmp .ne 5, 3) := by decide +kernel
theorem dX12_check_50 : decode cX12_check 50 = .ok (.iload_n 2, 1) := by decide +kernel
theorem dX12_check_51 : decode cX12_check 51 = .ok (.ireturn, 1) := by decide +kernel
theorem dX12_check_52 : decode cX12_check 52 = .ok (.aload_n 0, 1) := by decide +kernel
theorem dX12_check_53 : decode cX12_check 53 = .ok (.iload_n 3, 1) := by decide +kernel
theorem dX12_check_54 : decode cX12_check 54 = .ok (.invokevirtual 503, 3) := by decide +kernel
theorem dX12_check_57 : decode cX12_check 57 = .ok (.aload_n 0, 1) := by decide +kernel
theorem dX12_check_58 : decode cX12_check 58 = .ok (.iload_n 1, 1) := by decide +kernel
theorem dX12_check_59 : decode cX12_check 59 = .ok (.iload_n 3, 1) := by decide +kernel
theorem dX12_check_60 : decode cX12_check 60 = .ok (.invokevirtual 369, 3) := by decide +kernel
theorem dX12_check_63 : decode cX12_check 63 = .ok (.if_icmp .eq 5, 3) := by decide +kernel
theorem dX12_check_66 : decode cX12_check 66 = .ok (.iload_n 3, 1) := by decide +kernel
theorem dX12_check_67 : decode cX12_check 67 = .ok (.ireturn, 1) := by decide +kernel
theorem dX12_check_68 : decode cX12_check 68 = .ok (.iinc 3 1, 3) := by decide +kernel
theorem dX12_check_71 : decode cX12_check 71 = .ok (.goto (-34), 3) := by decide +kernel
theorem dX12_check_74 : decode cX12_check 74 = .ok (.iload_n 2, 1) := by decide +kernel
theorem dX12_check_75 : decode cX12_check 75 = .ok (.aload_n 0, 1) := by decide +kernel
theorem dX12_check_76 : decode cX12_check 76 = .ok (.getfield 343, 3) := by decide +kernel
theorem dX12_check_79 : decode cX12_check 79 = .ok (.if_icmp .ne 7, 3) := by decide +kernel
theorem dX12_check_82 : decode cX12_check 82 = .ok (.iconst (-1), 1) := by decide +kernel
theorem dX12_check_83 : decode cX12_check 83 = .ok (.goto 7, 3) := by decide +kernel
theorem dX12_check_86 : decode cX12_check 86 = .ok (.aload_n 0, 1) := by decide +kernel
theorem dX12_check_87 : decode cX12_check 87 = .ok (.getfield 343, 3) := by decide +kernel
theorem dX12_check_90 : decode cX12_check 90 = .ok (.ireturn, 1) := by decide +kernel
theorem dX12_count_0 : decode cX12_count 0 = .ok (.iload_n 1, 1) := by decide +kernel
theorem dX12_count_1 : decode cX12_count 1 = .ok (.i2l, 1) := by decide +kernel
theorem dX12_count_2 : decode cX12_count 2 = .ok (.ldc2_w 402, 3) := by decide +kernel
theorem dX12_count_5 : decode cX12_count 5 = .ok (.bipush 9, 2) := by decide +kernel
theorem dX12_count_7 : decode cX12_count 7 = .ok (.aload_n 0, 1) := by decide +kernel
theorem dX12_count_8 : decode cX12_count 8 = .ok (.getfield 144, 3) := by decide +kernel
theorem dX12_count_11 : decode cX12_count 11 = .ok (.iadd, 1) := by decide +kernel
theorem dX12_count_12 : decode cX12_count 12 = .ok (.i2l, 1) := by decide +kernel
theorem dX12_count_13 : decode cX12_count 13 = .ok (.invokestatic 147, 3) := by decide +kernel
theorem dX12_count_16 : decode cX12_count 16 = .ok (.ifCond .eq 13, 3) := by decide +kernel
theorem dX12_count_19 : decode cX12_count 19 = .ok (.aload_n 0, 1) := by decide +kernel
theorem dX12_count_20 : decode cX12_count 20 = .ok (.getfield 33, 3) := by decide +kernel
theorem dX12_count_23 : decode cX12_count 23 = .ok (.iload_n 1, 1) := by decide +kernel
theorem dX12_count_24 : decode cX12_count 24 = .ok (.bipush 10, 2) := by decide +kernel
theorem dX12_count_26 : decode cX12_count 26 = .ok (.isub, 1) := by decide +kernel
theorem dX12_count_27 : decode cX12_count 27 = .ok (.iaload, 1) := by decide +kernel
theorem dX12_count_28 : decode cX12_count 28 = .ok (.ireturn, 1) := by decide +kernel
theorem dX12_count_29 : decode cX12_count 29 = .ok (.iload_n 1, 1) := by decide +kernel
theorem dX12_count_30 : decode cX12_count 30 = .ok (.i2l, 1) := by decide +kernel
theorem dX12_count_31 : decode cX12_count 31 = .ok (.ldc2_w 506, 3) := by decide +kernel
theorem dX12_count_34 : decode cX12_count 34 = .ok (.bipush 19, 2) := by decide +kernel
theorem dX12_count_36 : decode cX12_count 36 = .ok (.iconst 4, 1) := by decide +kernel
theorem dX12_count_37 : decode cX12_count 37 = .ok (.aload_n 0, 1) := by decide +kernel
theorem dX12_count_38 : decode cX12_count 38 = .ok (.getfield 144, 3) := by decide +kernel
theorem dX12_count_41 : decode cX12_count 41 = .ok (.imul, 1) := by decide +kernel
theorem dX12_count_42 : decode cX12_count 42 = .ok (.iadd, 1) := by decide +kernel
theorem dX12_count_43 : decode cX12_count 43 = .ok (.i2l, 1) := by decide +kernel
theorem dX12_count_44 : decode cX12_count 44 = .ok (.invokestatic 147, 3) := by decide +kernel
theorem dX12_count_47 : decode cX12_count 47 = .ok (.ifCond .eq 37, 3) := by decide +kernel
theorem dX12_count_50 : decode cX12_count 50 = .ok (.iload_n 1, 1) := by decide +kernel
theorem dX12_count_51 : decode cX12_count 51 = .ok (.bipush 20, 2) := by decide +kernel
theorem dX12_count_53 : decode cX12_count 53 = .ok (.isub, 1) := by decide +kernel
theorem dX12_count_54 : decode cX12_count 54 = .ok (.iconst 4, 1) := by decide +kernel
theorem dX12_count_55 : decode cX12_count 55 = .ok (.irem, 1) := by decide +kernel
theorem dX12_count_56 : decode cX12_count 56 = .ok (.aload_n 0, 1) := by decide +kernel
theorem dX12_count_57 : decode cX12_count 57 = .ok (.getfield 33, 3) := by decide +kernel
theorem dX12_count_60 : decode cX12_count 60 = .ok (.iload_n 1, 1) := by decide +kernel
theorem dX12_count_61 : decode cX12_count 61 = .ok (.bipush 20, 2) := by decide +kernel
theorem dX12_count_63 : decode cX12_count 63 = .ok (.isub, 1) := by decide +kernel
theorem dX12_count_64 : decode cX12_count 64 = .ok (.iconst 4, 1) := by decide +kernel
theorem dX12_count_65 : decode cX12_count 65 = .ok (.idiv, 1) := by decide +kernel
theorem dX12_count_66 : decode cX12_count 66 = .ok (.iaload, 1) := by decide +kernel
theorem dX12_count_67 : decode cX12_count 67 = .ok (.if_icmp .ge 15, 3) := by decide +kernel
theorem dX12_count_70 : decode cX12_count 70 = .ok (.aload_n 0, 1) := by decide +kernel
theorem dX12_count_71 : decode cX12_count 71 = .ok (.getfield 36, 3) := by decide +kernel
theorem dX12_count_74 : decode cX12_count 74 = .ok (.iload_n 1, 1) := by decide +kernel
theorem dX12_count_75 : decode cX12_count 75 = .ok (.bipush 20, 2) := by decide +kernel
theorem dX12_count_77 : decode cX12_count 77 = .ok (.isub, 1) := by decide +kernel
theorem dX12_count_78 : decode cX12_count 78 = .ok (.iaload, 1) := by decide +kernel
theorem dX12_count_79 : decode cX12_count 79 = .ok (.goto 4, 3) := by decide +kernel
theorem dX12_count_82 : decode cX12_count 82 = .ok (.iconst (-1), 1) := by decide +kernel
theorem dX12_count_83 : decode cX12_count 83 = .ok (.ireturn, 1) := by decide +kernel
theorem dX12_count_84 : decode cX12_count 84 = .ok (.iload_n 1, 1) := by decide +kernel
theorem dX12_count_85 : decode cX12_count 85 = .ok (.tableswitch 78 0 6 #[43, 48, 53, 58, 63, 68, 73], 43) := by decide +kernel
theorem dX12_count_128 : decode cX12_count 128 = .ok (.aload_n 0, 1) := by decide +kernel
theorem dX12_count_129 : decode cX12_count 129 = .ok (.getfield 144, 3) := by decide +kernel
theorem dX12_count_132 : decode cX12_count 132 = .ok (.ireturn, 1) := by decide +kernel
theorem dX12_count_133 : decode cX12_count 133 = .ok (.aload_n 0, 1) := by decide +kernel
theorem dX12_count_134 : decode cX12_count 134 = .ok (.getfield 332, 3) := by decide +kernel
theorem dX12_count_137 : decode cX12_count 137 = .ok (.ireturn, 1) := by decide +kernel
theorem dX12_count_138 : decode cX12_count 138 = .ok (.aload_n 0, 1) := by decide +kernel
theorem dX12_count_139 : decode cX12_count 139 = .ok (.getfield 274, 3) := by decide +kernel
theorem dX12_count_142 : decode cX12_count 142 = .ok (.ireturn, 1) := by decide +kernel
theorem dX12_count_143 : decode cX12_count 143 = .ok (.aload_n 0, 1) := by decide +kernel
theorem dX12_count_144 : decode cX12_count 144 = .ok (.getfield 161, 3) := by decide +kernel
theorem dX12_count_147 : decode cX12_count 147 = .ok (.ireturn, 1) := by decide +kernel
theorem dX12_count_148 : decode cX12_count 148 = .ok (.aload_n 0, 1) := by decide +kernel
theorem dX12_count_149 : decode cX12_count 149 = .ok (.getfield 20, 3) := by decide +kernel
theorem dX12_count_152 : decode cX12_count 152 = .ok (.ireturn, 1) := by decide +kernel
theorem dX12_count_153 : decode cX12_count 153 = .ok (.aload_n 0, 1) := by decide +kernel
theorem dX12_count_154 : decode cX12_count 154 = .ok (.getfield 13, 3) := by decide +kernel
theorem dX12_count_157 : decode cX12_count 157 = .ok (.ireturn, 1) := by decide +kernel
theorem dX12_count_158 : decode cX12_count 158 = .ok (.aload_n 0, 1) := by decide +kernel
theorem dX12_count_159 : decode cX12_count 159 = .ok (.getfield 17, 3) := by decide +kernel
theorem dX12_count_162 : decode cX12_count 162 = .ok (.ireturn, 1) := by decide +kernel
theorem dX12_count_163 : decode cX12_count 163 = .ok (.iconst (-1), 1) := by decide +kernel
theorem dX12_count_164 : decode cX12_count 164 = .ok (.ireturn, 1) := by decide +kernel
