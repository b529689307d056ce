theorem tw27 : Cond.methodLink "OneWord" 1 ⟨"java/lang/Object", "<init>", "()V"⟩ ∈ lw_tbl := List.mem_append_right _ (List.mem_of_getElem? (i := 27) (by decide +kernel))
theorem tw28 : Cond.instanceMethod ⟨"java/lang/Object", "<init>", "()V"⟩ ∈ lw_tbl := List.mem_append_right _ (List.mem_of_getElem? (i := 28) (by decide +kernel))
theorem tw29 : Cond.code ⟨"java/lang/Object", "<init>", "()V"⟩ object_method_1_code 1 none ∈ lw_tbl := List.mem_append_right _ (List.mem_of_getElem? (i := 29) (by decide +kernel))
theorem tw30 : Cond.classLink "OneWord" 7 "OneWord$People" ∈ lw_tbl := List.mem_append_right _ (List.mem_of_getElem? (i := 30) (by decide +kernel))
theorem tw31 : Cond.instantiable "OneWord$People" 8 ∈ lw_tbl := List.mem_append_right _ (List.mem_of_getElem? (i := 31) (by decide +kernel))
theorem tw33 : Cond.instanceMethod yX4_init ∈ lw_tbl := List.mem_append_right _ (List.mem_of_getElem? (i := 33) (by decide +kernel))
theorem tw34 : Cond.code yX4_init prog_6_method_1_code 1 none ∈ lw_tbl := List.mem_append_right _ (List.mem_of_getElem? (i := 34) (by decide +kernel))
theorem tw35 : Cond.methodLink "OneWord$People" 3 ⟨"java/lang/Object", "<init>", "()V"⟩ ∈ lw_tbl := List.mem_append_right _ (List.mem_of_getElem? (i := 35) (by decide +kernel))
theorem tw69 : Cond.classLink "OneWord" 16 "OneWord$Tape" ∈ lw_tbl := List.mem_append_right _ (List.mem_of_getElem? (i := 69) (by decide +kernel))
theorem tw70 : Cond.instantiable "OneWord$Tape" 2 ∈ lw_tbl := List.mem_append_right _ (List.mem_of_getElem? (i := 70) (by decide +kernel))
theorem tw72 : Cond.instanceMethod yX10_init ∈ lw_tbl := List.mem_append_right _ (List.mem_of_getElem? (i := 72) (by decide +kernel))
theorem tw73 : Cond.code yX10_init prog_12_method_1_code 1 none ∈ lw_tbl := List.mem_append_right _ (List.mem_of_getElem? (i := 73) (by decide +kernel))
theorem tw74 : Cond.methodLink "OneWord$Tape" 3 ⟨"java/lang/Object", "<init>", "()V"⟩ ∈ lw_tbl := List.mem_append_right _ (List.mem_of_getElem? (i := 74) (by decide +kernel))
theorem tw83 : Cond.classLink "OneWord" 23 "OneWord$Talk" ∈ lw_tbl := List.mem_append_right _ (List.mem_of_getElem? (i := 83) (by decide +kernel))
theorem tw84 : Cond.instantiable "OneWord$Talk" 8 ∈ lw_tbl := List.mem_append_right _ (List.mem_of_getElem? (i := 84) (by decide +kernel))
theorem tw86 : Cond.instanceMethod yX9_init ∈ lw_tbl := List.mem_append_right _ (List.mem_of_getElem? (i := 86) (by decide +kernel))
theorem tw87 : Cond.code yX9_init prog_11_method_1_code 1 none ∈ lw_tbl := List.mem_append_right _ (List.mem_of_getElem? (i := 87) (by decide +kernel))
theorem tw88 : Cond.methodLink "OneWord$Talk" 3 ⟨"java/lang/Object", "<init>", "()V"⟩ ∈ lw_tbl := List.mem_append_right _ (List.mem_of_getElem? (i := 88) (by decide +kernel))
theorem tw117 : Cond.classLink "OneWord" 30 "OneWord$Hearings" ∈ lw_tbl := List.mem_append_right _ (List.mem_of_getElem? (i := 117) (by decide +kernel))
theorem tw118 : Cond.instantiable "OneWord$Hearings" 6 ∈ lw_tbl := List.mem_append_right _ (List.mem_of_getElem? (i := 118) (by decide +kernel))
theorem tw119 : Cond.methodLink "OneWord" 32 yX3_init ∈ lw_tbl := List.mem_append_right _ (List.mem_of_getElem? (i := 119) (by decide +kernel))
theorem tw120 : Cond.instanceMethod yX3_init ∈ lw_tbl := List.mem_append_right _ (List.mem_of_getElem? (i := 120) (by decide +kernel))
theorem tw121 : Cond.code yX3_init prog_5_method_1_code 3 none ∈ lw_tbl := List.mem_append_right _ (List.mem_of_getElem? (i := 121) (by decide +kernel))
theorem tw122 : Cond.methodLink "OneWord$Hearings" 3 ⟨"java/lang/Object", "<init>", "()V"⟩ ∈ lw_tbl := List.mem_append_right _ (List.mem_of_getElem? (i := 122) (by decide +kernel))
theorem tw144 : Cond.classLink "OneWord" 39 "OneWord$Sense" ∈ lw_tbl := List.mem_append_right _ (List.mem_of_getElem? (i := 144) (by decide +kernel))
theorem tw145 : Cond.instantiable "OneWord$Sense" 6 ∈ lw_tbl := List.mem_append_right _ (List.mem_of_getElem? (i := 145) (by decide +kernel))
theorem tw146 : Cond.methodLink "OneWord" 41 yX7_init ∈ lw_tbl := List.mem_append_right _ (List.mem_of_getElem? (i := 146) (by decide +kernel))
theorem tw147 : Cond.instanceMethod yX7_init ∈ lw_tbl := List.mem_append_right _ (List.mem_of_getElem? (i := 147) (by decide +kernel))
theorem tw148 : Cond.code yX7_init prog_9_method_1_code 2 none ∈ lw_tbl := List.mem_append_right _ (List.mem_of_getElem? (i := 148) (by decide +kernel))
theorem tw149 : Cond.methodLink "OneWord$Sense" 3 ⟨"java/lang/Object", "<init>", "()V"⟩ ∈ lw_tbl := List.mem_append_right _ (List.mem_of_getElem? (i := 149) (by decide +kernel))
theorem tw150 : Cond.classLink "OneWord$Sense" 18 "OneWord$Code" ∈ lw_tbl := List.mem_append_right _ (List.mem_of_getElem? (i := 150) (by decide +kernel))
theorem tw151 : Cond.instantiable "OneWord$Code" 8 ∈ lw_tbl := List.mem_append_right _ (List.mem_of_getElem? (i := 151) (by decide +kernel))
theorem tw153 : Cond.instanceMethod yX0_init ∈ lw_tbl := List.mem_append_right _ (List.mem_of_getElem? (i := 153) (by decide +kernel))
theorem tw154 : Cond.code yX0_init prog_2_method_1_code 1 none ∈ lw_tbl := List.mem_append_right _ (List.mem_of_getElem? (i := 154) (by decide +kernel))
theorem tw155 : Cond.methodLink "OneWord$Code" 3 ⟨"java/lang/Object", "<init>", "()V"⟩ ∈ lw_tbl := List.mem_append_right _ (List.mem_of_getElem? (i := 155) (by decide +kernel))
theorem tw210 : Cond.classLink "OneWord" 48 "OneWord$Grammar" ∈ lw_tbl := List.mem_append_right _ (List.mem_of_getElem? (i := 210) (by decide +kernel))
theorem tw211 : Cond.instantiable "OneWord$Grammar" 6 ∈ lw_tbl := List.mem_append_right _ (List.mem_of_getElem? (i := 211) (by decide +kernel))
theorem tw212 : Cond.methodLink "OneWord" 54 yX2_init ∈ lw_tbl := List.mem_append_right _ (List.mem_of_getElem? (i := 212) (by decide +kernel))
theorem tw213 : Cond.instanceMethod yX2_init ∈ lw_tbl := List.mem_append_right _ (List.mem_of_getElem? (i := 213) (by decide +kernel))
theorem tw214 : Cond.code yX2_init prog_4_method_1_code 2 none ∈ lw_tbl := List.mem_append_right _ (List.mem_of_getElem? (i := 214) (by decide +kernel))
theorem tw215 : Cond.methodLink "OneWord$Grammar" 3 ⟨"java/lang/Object", "<init>", "()V"⟩ ∈ lw_tbl := List.mem_append_right _ (List.mem_of_getElem? (i := 215) (by decide +kernel))
theorem tw235 : Cond.classLink "OneWord" 61 "OneWord$ReadBack" ∈ lw_tbl := List.mem_append_right _ (List.mem_of_getElem? (i := 235) (by decide +kernel))
theorem tw236 : Cond.instantiable "OneWord$ReadBack" 15 ∈ lw_tbl := List.mem_append_right _ (List.mem_of_getElem? (i := 236) (by decide +kernel))
theorem tw237 : Cond.methodLink "OneWord" 63 yX5_init ∈ lw_tbl := List.mem_append_right _ (List.mem_of_getElem? (i := 237) (by decide +kernel))
theorem tw238 : Cond.instanceMethod yX5_init ∈ lw_tbl := List.mem_append_right _ (List.mem_of_getElem? (i := 238) (by decide +kernel))
theorem tw239 : Cond.code yX5_init prog_7_method_1_code 3 none ∈ lw_tbl := List.mem_append_right _ (List.mem_of_getElem? (i := 239) (by decide +kernel))
theorem tw240 : Cond.methodLink "OneWord$ReadBack" 3 ⟨"java/lang/Object", "<init>", "()V"⟩ ∈ lw_tbl := List.mem_append_right _ (List.mem_of_getElem? (i := 240) (by decide +kernel))
theorem tw287 : Cond.arrayClass .boolean ∈ lw_tbl := List.mem_append_right _ (List.mem_of_getElem? (i := 287) (by decide +kernel))
theorem tw288 : Cond.arrayClass .long ∈ lw_tbl := List.mem_append_right _ (List.mem_of_getElem? (i := 288) (by decide +kernel))
theorem tw289 : Cond.classLink "OneWord" 70 "OneWord$Crowd" ∈ lw_tbl := List.mem_append_right _ (List.mem_of_getElem? (i := 289) (by decide +kernel))
theorem tw290 : Cond.instantiable "OneWord$Crowd" 15 ∈ lw_tbl := List.mem_append_right _ (List.mem_of_getElem? (i := 290) (by decide +kernel))
theorem tw291 : Cond.methodLink "OneWord" 72 yX1_init ∈ lw_tbl := List.mem_append_right _ (List.mem_of_getElem? (i := 291) (by decide +kernel))
theorem tw292 : Cond.instanceMethod yX1_init ∈ lw_tbl := List.mem_append_right _ (List.mem_of_getElem? (i := 292) (by decide +kernel))
theorem tw293 : Cond.code yX1_init prog_3_method_1_code 3 none ∈ lw_tbl := List.mem_append_right _ (List.mem_of_getElem? (i := 293) (by decide +kernel))
theorem tw294 : Cond.methodLink "OneWord$Crowd" 5 ⟨"java/lang/Object", "<init>", "()V"⟩ ∈ lw_tbl := List.mem_append_right _ (List.mem_of_getElem? (i := 294) (by decide +kernel))
theorem tw342 : Cond.classLink "OneWord" 77 "OneWord$Rules" ∈ lw_tbl := List.mem_append_right _ (List.mem_of_getElem? (i := 342) (by decide +kernel))
theorem tw343 : Cond.instantiable "OneWord$Rules" 9 ∈ lw_tbl := List.mem_append_right _ (List.mem_of_getElem? (i := 343) (by decide +kernel))
theorem tw344 : Cond.methodLink "OneWord" 79 yX6_init ∈ lw_tbl := List.mem_append_right _ (List.mem_of_getElem? (i := 344) (by decide +kernel))
theorem tw345 : Cond.instanceMethod yX6_init ∈ lw_tbl := List.mem_append_right _ (List.mem_of_getElem? (i := 345) (by decide +kernel))
theorem tw346 : Cond.code yX6_init prog_8_method_1_code 3 none ∈ lw_tbl := List.mem_append_right _ (List.mem_of_getElem? (i := 346) (by decide +kernel))
theorem tw347 : Cond.methodLink "OneWord$Rules" 3 ⟨"java/lang/Object", "<init>", "()V"⟩ ∈ lw_tbl := List.mem_append_right _ (List.mem_of_getElem? (i := 347) (by decide +kernel))
theorem tw638 : Cond.arrayClass .byte ∈ lw_tbl := List.mem_append_right _ (List.mem_of_getElem? (i := 638) (by decide +kernel))
theorem tw1111 : Cond.methodLink "OneWordModel" 1 ⟨"java/lang/Object", "<init>", "()V"⟩ ∈ lw_tbl := List.mem_append_right _ (List.mem_of_getElem? (i := 1111) (by decide +kernel))
theorem tw1112 : Cond.constant "OneWordModel" 116 (Int32.ofInt (68750)) ∈ lw_tbl := List.mem_append_right _ (List.mem_of_getElem? (i := 1112) (by decide +kernel))
theorem dX4_init_0 : decode cX4_init 0 = .ok (.aload_n 0, 1) := by decide +kernel
theorem dX4_init_1 : decode cX4_init 1 = .ok (.invokespecial 3, 3) := by decide +kernel
theorem dX4_init_4 : decode cX4_init 4 = .ok (.aload_n 0, 1) := by decide +kernel
theorem dX4_init_5 : decode cX4_init 5 = .ok (.bipush 8, 2) := by decide +kernel
theorem dX4_init_7 : decode cX4_init 7 = .ok (.newarray .int, 2) := by decide +kernel
theorem dX4_init_9 : decode cX4_init 9 = .ok (.putfield 9, 3) := by decide +kernel
theorem dX4_init_12 : decode cX4_init 12 = .ok (.aload_n 0, 1) := by decide +kernel
theorem dX4_init_13 : decode cX4_init 13 = .ok (.bipush 8, 2) := by decide +kernel
theorem dX4_init_15 : decode cX4_init 15 = .ok (.newarray .int, 2) := by decide +kernel
theorem dX4_init_17 : decode cX4_init 17 = .ok (.putfield 15, 3) := by decide +kernel
theorem dX4_init_20 : decode cX4_init 20 = .ok (.aload_n 0, 1) := by decide +kernel
theorem dX4_init_21 : decode cX4_init 21 = .ok (.bipush 8, 2) := by decide +kernel
theorem dX4_init_23 : decode cX4_init 23 = .ok (.newarray .int, 2) := by decide +kernel
theorem dX4_init_25 : decode cX4_init 25 = .ok (.putfield 18, 3) := by decide +kernel
theorem dX4_init_28 : decode cX4_init 28 = .ok (.aload_n 0, 1) := by decide +kernel
theorem dX4_init_29 : decode cX4_init 29 = .ok (.bipush 8, 2) := by decide +kernel
theorem dX4_init_31 : decode cX4_init 31 = .ok (.newarray .int, 2) := by decide +kernel
theorem dX4_init_33 : decode cX4_init 33 = .ok (.putfield 21, 3) := by decide +kernel
theorem dX4_init_36 : decode cX4_init 36 = .ok (.aload_n 0, 1) := by decide +kernel
theorem dX4_init_37 : decode cX4_init 37 = .ok (.bipush 32, 2) := by decide +kernel
theorem dX4_init_39 : decode cX4_init 39 = .ok (.newarray .int, 2) := by decide +kernel
theorem dX4_init_41 : decode cX4_init 41 = .ok (.putfield 24, 3) := by decide +kernel
theorem dX4_init_44 : decode cX4_init 44 = .ok (.aload_n 0, 1) := by decide +kernel
theorem dX4_init_45 : decode cX4_init 45 = .ok (.sipush 200, 3) := by decide +kernel
theorem dX4_init_48 : decode cX4_init 48 = .ok (.putfield 27, 3) := by decide +kernel
theorem dX4_init_51 : decode cX4_init 51 = .ok (.aload_n 0, 1) := by decide +kernel
theorem dX4_init_52 : decode cX4_init 52 = .ok (.bipush 100, 2) := by decide +kernel
theorem dX4_init_54 : decode cX4_init 54 = .ok (.putfield 31, 3) := by decide +kernel
theorem dX4_init_57 : decode cX4_init 57 = .ok (.return_, 1) := by decide +kernel
theorem dX10_init_0 : decode cX10_init 0 = .ok (.aload_n 0, 1) := by decide +kernel
theorem dX10_init_1 : decode cX10_init 1 = .ok (.invokespecial 3, 3) := by decide +kernel
theorem dX10_init_4 : decode cX10_init 4 = .ok (.aload_n 0, 1) := by decide +kernel
theorem dX10_init_5 : decode cX10_init 5 = .ok (.sipush 220, 3) := by decide +kernel
theorem dX10_init_8 : decode cX10_init 8 = .ok (.newarray .int, 2) := by decide +kernel
theorem dX10_init_10 : decode cX10_init 10 = .ok (.putfield 9, 3) := by decide +kernel
theorem dX10_init_13 : decode cX10_init 13 = .ok (.return_, 1) := by decide +kernel
theorem dX9_init_0 : decode cX9_init 0 = .ok (.aload_n 0, 1) := by decide +kernel
theorem dX9_init_1 : decode cX9_init 1 = .ok (.invokespecial 3, 3) := by decide +kernel
theorem dX9_init_4 : decode cX9_init 4 = .ok (.aload_n 0, 1) := by decide +kernel
theorem dX9_init_5 : decode cX9_init 5 = .ok (.sipush 150, 3) := by decide +kernel
theorem dX9_init_8 : decode cX9_init 8 = .ok (.newarray .int, 2) := by decide +kernel
theorem dX9_init_10 : decode cX9_init 10 = .ok (.putfield 9, 3) := by decide +kernel
theorem dX9_init_13 : decode cX9_init 13 = .ok (.aload_n 0, 1) := by decide +kernel
theorem dX9_init_14 : decode cX9_init 14 = .ok (.sipush 150, 3) := by decide +kernel
theorem dX9_init_17 : decode cX9_init 17 = .ok (.newarray .int, 2) := by decide +kernel
theorem dX9_init_19 : decode cX9_init 19 = .ok (.putfield 15, 3) := by decide +kernel
theorem dX9_init_22 : decode cX9_init 22 = .ok (.aload_n 0, 1) := by decide +kernel
theorem dX9_init_23 : decode cX9_init 23 = .ok (.sipush 150, 3) := by decide +kernel
theorem dX9_init_26 : decode cX9_init 26 = .ok (.newarray .int, 2) := by decide +kernel
theorem dX9_init_28 : decode cX9_init 28 = .ok (.putfield 18, 3) := by decide +kernel
theorem dX9_init_31 : decode cX9_init 31 = .ok (.aload_n 0, 1) := by decide +kernel
theorem dX9_init_32 : decode cX9_init 32 = .ok (.sipush 150, 3) := by decide +kernel
theorem dX9_init_35 : decode cX9_init 35 = .ok (.newarray .int, 2) := by decide +kernel
theorem dX9_init_37 : decode cX9_init 37 = .ok (.putfield 21, 3) := by decide +kernel
theorem dX9_init_40 : decode cX9_init 40 = .ok (.aload_n 0, 1) := by decide +kernel
theorem dX9_init_41 : decode cX9_init 41 = .ok (.iconst 1, 1) := by decide +kernel
theorem dX9_init_42 : decode cX9_init 42 = .ok (.putfield 24, 3) := by decide +kernel
theorem dX9_init_45 : decode cX9_init 45 = .ok (.aload_n 0, 1) := by decide +kernel
theorem dX9_init_46 : decode cX9_init 46 = .ok (.iconst (-1), 1) := by decide +kernel
theorem dX9_init_47 : decode cX9_init 47 = .ok (.putfield 28, 3) := by decide +kernel
theorem dX9_init_50 : decode cX9_init 50 = .ok (.return_, 1) := by decide +kernel
theorem dX3_init_0 : decode cX3_init 0 = .ok (.aload_n 0, 1) := by decide +kernel
theorem dX3_init_1 : decode cX3_init 1 = .ok (.invokespecial 3, 3) := by decide +kernel
theorem dX3_init_4 : decode cX3_init 4 = .ok (.aload_n 0, 1) := by decide +kernel
theorem dX3_init_5 : decode cX3_init 5 = .ok (.sipush 150, 3) := by decide +kernel
theorem dX3_init_8 : decode cX3_init 8 = .ok (.newarray .int, 2) := by decide +kernel
theorem dX3_init_10 : decode cX3_init 10 = .ok (.putfield 9, 3) := by decide +kernel
theorem dX3_init_13 : decode cX3_init 13 = .ok (.aload_n 0, 1) := by decide +kernel
theorem dX3_init_14 : decode cX3_init 14 = .ok (.sipush 150, 3) := by decide +kernel
theorem dX3_init_17 : decode cX3_init 17 = .ok (.newarray .int, 2) := by decide +kernel
theorem dX3_init_19 : decode cX3_init 19 = .ok (.putfield 15, 3) := by decide +kernel
theorem dX3_init_22 : decode cX3_init 22 = .ok (.aload_n 0, 1) := by decide +kernel
theorem dX3_init_23 : decode cX3_init 23 = .ok (.iconst (-1), 1) := by decide +kernel
theorem dX3_init_24 : decode cX3_init 24 = .ok (.putfield 18, 3) := by decide +kernel
theorem dX3_init_27 : decode cX3_init 27 = .ok (.aload_n 0, 1) := by decide +kernel
theorem dX3_init_28 : decode cX3_init 28 = .ok (.aload_n 1, 1) := by decide +kernel
theorem dX3_init_29 : decode cX3_init 29 = .ok (.putfield 22, 3) := by decide +kernel
theorem dX3_init_32 : decode cX3_init 32 = .ok (.aload_n 0, 1) := by decide +kernel
theorem dX3_init_33 : decode cX3_init 33 = .ok (.aload_n 2, 1) := by decide +kernel
theorem dX3_init_34 : decode cX3_init 34 = .ok (.putfield 26, 3) := by decide +kernel
theorem dX3_init_37 : decode cX3_init 37 = .ok (.return_, 1) := by decide +kernel
theorem dX0_init_0 : decode cX0_init 0 = .ok (.aload_n 0, 1) := by decide +kernel
theorem dX0_init_1 : decode cX0_init 1 = .ok (.invokespecial 3, 3) := by decide +kernel
theorem dX0_init_4 : decode cX0_init 4 = .ok (.aload_n 0, 1) := by decide +kernel
theorem dX0_init_5 : decode cX0_init 5 = .ok (.sipush 200, 3) := by decide +kernel
theorem dX0_init_8 : decode cX0_init 8 = .ok (.newarray .int, 2) := by decide +kernel
theorem dX0_init_10 : decode cX0_init 10 = .ok (.putfield 9, 3) := by decide +kernel
theorem dX0_init_13 : decode cX0_init 13 = .ok (.aload_n 0, 1) := by decide +kernel
theorem dX0_init_14 : decode cX0_init 14 = .ok (.sipush 200, 3) := by decide +kernel
theorem dX0_init_17 : decode cX0_init 17 = .ok (.newarray .int, 2) := by decide +kernel
theorem dX0_init_19 : decode cX0_init 19 = .ok (.putfield 15, 3) := by decide +kernel
theorem dX0_init_22 : decode cX0_init 22 = .ok (.aload_n 0, 1) := by decide +kernel
theorem dX0_init_23 : decode cX0_init 23 = .ok (.bipush 14, 2) := by decide +kernel
theorem dX0_init_25 : decode cX0_init 25 = .ok (.newarray .int, 2) := by decide +kernel
theorem dX0_init_27 : decode cX0_init 27 = .ok (.putfield 18, 3) := by decide +kernel
theorem dX0_init_30 : decode cX0_init 30 = .ok (.aload_n 0, 1) := by decide +kernel
theorem dX0_init_31 : decode cX0_init 31 = .ok (.bipush 14, 2) := by decide +kernel
theorem dX0_init_33 : decode cX0_init 33 = .ok (.newarray .int, 2) := by decide +kernel
theorem dX0_init_35 : decode cX0_init 35 = .ok (.putfield 21, 3) := by decide +kernel
theorem dX0_init_38 : decode cX0_init 38 = .ok (.aload_n 0, 1) := by decide +kernel
theorem dX0_init_39 : decode cX0_init 39 = .ok (.bipush 14, 2) := by decide +kernel
theorem dX0_init_41 : decode cX0_init 41 = .ok (.newarray .int, 2) := by decide +kernel
theorem dX0_init_43 : decode cX0_init 43 = .ok (.putfield 24, 3) := by decide +kernel
theorem dX0_init_46 : decode cX0_init 46 = .ok (.return_, 1) := by decide +kernel
theorem dX7_init_0 : decode cX7_init 0 = .ok (.aload_n 0, 1) := by decide +kernel
theorem dX7_init_1 : decode cX7_init 1 = .ok (.invokespecial 3, 3) := by decide +kernel
theorem dX7_init_4 : decode cX7_init 4 = .ok (.aload_n 0, 1) := by decide +kernel
theorem dX7_init_5 : decode cX7_init 5 = .ok (.bipush 10, 2) := by decide +kernel
theorem dX7_init_7 : decode cX7_init 7 = .ok (.newarray .int, 2) := by decide +kernel
theorem dX7_init_9 : decode cX7_init 9 = .ok (.putfield 9, 3) := by decide +kernel
theorem dX7_init_12 : decode cX7_init 12 = .ok (.aload_n 0, 1) := by decide +kernel
theorem dX7_init_13 : decode cX7_init 13 = .ok (.bipush 24, 2) := by decide +kernel
theorem dX7_init_15 : decode cX7_init 15 = .ok (.newarray .int, 2) := by decide +kernel
theorem dX7_init_17 : decode cX7_init 17 = .ok (.putfield 15, 3) := by decide +kernel
theorem dX7_init_20 : decode cX7_init 20 = .ok (.aload_n 0, 1) := by decide +kernel
theorem dX7_init_21 : decode cX7_init 21 = .ok (.new 18, 3) := by decide +kernel
theorem dX7_init_24 : decode cX7_init 24 = .ok (.dup, 1) := by decide +kernel
theorem dX7_init_25 : decode cX7_init 25 = .ok (.invokespecial 20, 3) := by decide +kernel
theorem dX7_init_28 : decode cX7_init 28 = .ok (.putfield 21, 3) := by decide +kernel
theorem dX7_init_31 : decode cX7_init 31 = .ok (.aload_n 0, 1) := by decide +kernel
theorem dX7_init_32 : decode cX7_init 32 = .ok (.new 18, 3) := by decide +kernel
theorem dX7_init_35 : decode cX7_init 35 = .ok (.dup, 1) := by decide +kernel
theorem dX7_init_36 : decode cX7_init 36 = .ok (.invokespecial 20, 3) := by decide +kernel
theorem dX7_init_39 : decode cX7_init 39 = .ok (.putfield 25, 3) := by decide +kernel
theorem dX7_init_42 : decode cX7_init 42 = .ok (.aload_n 0, 1) := by decide +kernel
theorem dX7_init_43 : decode cX7_init 43 = .ok (.aload_n 1, 1) := by decide +kernel
theorem dX7_init_44 : decode cX7_init 44 = .ok (.putfield 28, 3) := by decide +kernel
theorem dX7_init_47 : decode cX7_init 47 = .ok (.return_, 1) := by decide +kernel
theorem dX2_init_0 : decode cX2_init 0 = .ok (.aload_n 0, 1) := by decide +kernel
theorem dX2_init_1 : decode cX2_init 1 = .ok (.invokespecial 3, 3) := by decide +kernel
theorem dX2_init_4 : decode cX2_init 4 = .ok (.aload_n 0, 1) := by decide +kernel
theorem dX2_init_5 : decode cX2_init 5 = .ok (.sipush 200, 3) := by decide +kernel
theorem dX2_init_8 : decode cX2_init 8 = .ok (.newarray .int, 2) := by decide +kernel
theorem dX2_init_10 : decode cX2_init 10 = .ok (.putfield 9, 3) := by decide +kernel
theorem dX2_init_13 : decode cX2_init 13 = .ok (.aload_n 0, 1) := by decide +kernel
theorem dX2_init_14 : decode cX2_init 14 = .ok (.aload_n 1, 1) := by decide +kernel
theorem dX2_init_15 : decode cX2_init 15 = .ok (.putfield 15, 3) := by decide +kernel
theorem dX2_init_18 : decode cX2_init 18 = .ok (.return_, 1) := by decide +kernel
theorem dX5_init_0 : decode cX5_init 0 = .ok (.aload_n 0, 1) := by decide +kernel
theorem dX5_init_1 : decode cX5_init 1 = .ok (.invokespecial 3, 3) := by decide +kernel
theorem dX5_init_4 : decode cX5_init 4 = .ok (.aload_n 0, 1) := by decide +kernel
theorem dX5_init_5 : decode cX5_init 5 = .ok (.bipush 12, 2) := by decide +kernel
theorem dX5_init_7 : decode cX5_init 7 = .ok (.newarray .int, 2) := by decide +kernel
theorem dX5_init_9 : decode cX5_init 9 = .ok (.putfield 9, 3) := by decide +kernel
theorem dX5_init_12 : decode cX5_init 12 = .ok (.aload_n 0, 1) := by decide +kernel
theorem dX5_init_13 : decode cX5_init 13 = .ok (.bipush 12, 2) := by decide +kernel
theorem dX5_init_15 : decode cX5_init 15 = .ok (.newarray .int, 2) := by decide +kernel
theorem dX5_init_17 : decode cX5_init 17 = .ok (.putfield 15, 3) := by decide +kernel
theorem dX5_init_20 : decode cX5_init 20 = .ok (.aload_n 0, 1) := by decide +kernel
theorem dX5_init_21 : decode cX5_init 21 = .ok (.bipush 108, 2) := by decide +kernel
theorem dX5_init_23 : decode cX5_init 23 = .ok (.newarray .int, 2) := by decide +kernel
theorem dX5_init_25 : decode cX5_init 25 = .ok (.putfield 18, 3) := by decide +kernel
theorem dX5_init_28 : decode cX5_init 28 = .ok (.aload_n 0, 1) := by decide +kernel
theorem dX5_init_29 : decode cX5_init 29 = .ok (.bipush 12, 2) := by decide +kernel
theorem dX5_init_31 : decode cX5_init 31 = .ok (.newarray .int, 2) := by decide +kernel
theorem dX5_init_33 : decode cX5_init 33 = .ok (.putfield 21, 3) := by decide +kernel
theorem dX5_init_36 : decode cX5_init 36 = .ok (.aload_n 0, 1) := by decide +kernel
theorem dX5_init_37 : decode cX5_init 37 = .ok (.iconst 3, 1) := by decide +kernel
theorem dX5_init_38 : decode cX5_init 38 = .ok (.newarray .int, 2) := by decide +kernel
theorem dX5_init_40 : decode cX5_init 40 = .ok (.putfield 24, 3) := by decide +kernel
theorem dX5_init_43 : decode cX5_init 43 = .ok (.aload_n 0, 1) := by decide +kernel
theorem dX5_init_44 : decode cX5_init 44 = .ok (.bipush 12, 2) := by decide +kernel
theorem dX5_init_46 : decode cX5_init 46 = .ok (.newarray .boolean, 2) := by decide +kernel
theorem dX5_init_48 : decode cX5_init 48 = .ok (.putfield 27, 3) := by decide +kernel
theorem dX5_init_51 : decode cX5_init 51 = .ok (.aload_n 0, 1) := by decide +kernel
theorem dX5_init_52 : decode cX5_init 52 = .ok (.bipush 9, 2) := by decide +kernel
theorem dX5_init_54 : decode cX5_init 54 = .ok (.newarray .long, 2) := by decide +kernel
theorem dX5_init_56 : decode cX5_init 56 = .ok (.putfield 31, 3) := by decide +kernel
theorem dX5_init_59 : decode cX5_init 59 = .ok (.aload_n 0, 1) := by decide +kernel
theorem dX5_init_60 : decode cX5_init 60 = .ok (.bipush 9, 2) := by decide +kernel
theorem dX5_init_62 : decode cX5_init 62 = .ok (.newarray .long, 2) := by decide +kernel
theorem dX5_init_64 : decode cX5_init 64 = .ok (.putfield 35, 3) := by decide +kernel
theorem dX5_init_67 : decode cX5_init 67 = .ok (.aload_n 0, 1) := by decide +kernel
theorem dX5_init_68 : decode cX5_init 68 = .ok (.aload_n 1, 1) := by decide +kernel
theorem dX5_init_69 : decode cX5_init 69 = .ok (.putfield 38, 3) := by decide +kernel
theorem dX5_init_72 : decode cX5_init 72 = .ok (.aload_n 0, 1) := by decide +kernel
theorem dX5_init_73 : decode cX5_init 73 = .ok (.aload_n 2, 1) := by decide +kernel
theorem dX5_init_74 : decode cX5_init 74 = .ok (.putfield 42, 3) := by decide +kernel
theorem dX5_init_77 : decode cX5_init 77 = .ok (.return_, 1) := by decide +kernel
theorem dX1_init_0 : decode cX1_init 0 = .ok (.aload_n 0, 1) := by decide +kernel
theorem dX1_init_1 : decode cX1_init 1 = .ok (.invokespecial 5, 3) := by decide +kernel
theorem dX1_init_4 : decode cX1_init 4 = .ok (.aload_n 0, 1) := by decide +kernel
theorem dX1_init_5 : decode cX1_init 5 = .ok (.iconst 4, 1) := by decide +kernel
theorem dX1_init_6 : decode cX1_init 6 = .ok (.newarray .int, 2) := by decide +kernel
theorem dX1_init_8 : decode cX1_init 8 = .ok (.putfield 11, 3) := by decide +kernel
theorem dX1_init_11 : decode cX1_init 11 = .ok (.aload_n 0, 1) := by decide +kernel
theorem dX1_init_12 : decode cX1_init 12 = .ok (.sipush 1344, 3) := by decide +kernel
theorem dX1_init_15 : decode cX1_init 15 = .ok (.newarray .int, 2) := by decide +kernel
theorem dX1_init_17 : decode cX1_init 17 = .ok (.putfield 15, 3) := by decide +kernel
theorem dX1_init_20 : decode cX1_init 20 = .ok (.aload_n 0, 1) := by decide +kernel
theorem dX1_init_21 : decode cX1_init 21 = .ok (.bipush 84, 2) := by decide +kernel
theorem dX1_init_23 : decode cX1_init 23 = .ok (.newarray .boolean, 2) := by decide +kernel
theorem dX1_init_25 : decode cX1_init 25 = .ok (.putfield 18, 3) := by decide +kernel
theorem dX1_init_28 : decode cX1_init 28 = .ok (.aload_n 0, 1) := by decide +kernel
theorem dX1_init_29 : decode cX1_init 29 = .ok (.bipush 84, 2) := by decide +kernel
theorem dX1_init_31 : decode cX1_init 31 = .ok (.newarray .int, 2) := by decide +kernel
theorem dX1_init_33 : decode cX1_init 33 = .ok (.putfield 22, 3) := by decide +kernel
theorem dX1_init_36 : decode cX1_init 36 = .ok (.aload_n 0, 1) := by decide +kernel
theorem dX1_init_37 : decode cX1_init 37 = .ok (.bipush 16, 2) := by decide +kernel
theorem dX1_init_39 : decode cX1_init 39 = .ok (.newarray .int, 2) := by decide +kernel
theorem dX1_init_41 : decode cX1_init 41 = .ok (.putfield 25, 3) := by decide +kernel
theorem dX1_init_44 : decode cX1_init 44 = .ok (.aload_n 0, 1) := by decide +kernel
theorem dX1_init_45 : decode cX1_init 45 = .ok (.bipush 16, 2) := by decide +kernel
theorem dX1_init_47 : decode cX1_init 47 = .ok (.newarray .int, 2) := by decide +kernel
theorem dX1_init_49 : decode cX1_init 49 = .ok (.putfield 28, 3) := by decide +kernel
theorem dX1_init_52 : decode cX1_init 52 = .ok (.aload_n 0, 1) := by decide +kernel
theorem dX1_init_53 : decode cX1_init 53 = .ok (.bipush 16, 2) := by decide +kernel
theorem dX1_init_55 : decode cX1_init 55 = .ok (.newarray .int, 2) := by decide +kernel
theorem dX1_init_57 : decode cX1_init 57 = .ok (.putfield 31, 3) := by decide +kernel
theorem dX1_init_60 : decode cX1_init 60 = .ok (.aload_n 0, 1) := by decide +kernel
theorem dX1_init_61 : decode cX1_init 61 = .ok (.iconst 0, 1) := by decide +kernel
theorem dX1_init_62 : decode cX1_init 62 = .ok (.newarray .int, 2) := by decide +kernel
theorem dX1_init_64 : decode cX1_init 64 = .ok (.putfield 34, 3) := by decide +kernel
theorem dX1_init_67 : decode cX1_init 67 = .ok (.aload_n 0, 1) := by decide +kernel
theorem dX1_init_68 : decode cX1_init 68 = .ok (.aload_n 1, 1) := by decide +kernel
theorem dX1_init_69 : decode cX1_init 69 = .ok (.putfield 37, 3) := by decide +kernel
theorem dX1_init_72 : decode cX1_init 72 = .ok (.aload_n 0, 1) := by decide +kernel
theorem dX1_init_73 : decode cX1_init 73 = .ok (.aload_n 2, 1) := by decide +kernel
theorem dX1_init_74 : decode cX1_init 74 = .ok (.putfield 41, 3) := by decide +kernel
theorem dX1_init_77 : decode cX1_init 77 = .ok (.return_, 1) := by decide +kernel
theorem dX6_init_0 : decode cX6_init 0 = .ok (.aload_n 0, 1) := by decide +kernel
theorem dX6_init_1 : decode cX6_init 1 = .ok (.invokespecial 3, 3) := by decide +kernel
theorem dX6_init_4 : decode cX6_init 4 = .ok (.aload_n 0, 1) := by decide +kernel
theorem dX6_init_5 : decode cX6_init 5 = .ok (.bipush 8, 2) := by decide +kernel
theorem dX6_init_7 : decode cX6_init 7 = .ok (.newarray .int, 2) := by decide +kernel
theorem dX6_init_9 : decode cX6_init 9 = .ok (.putfield 9, 3) := by decide +kernel
theorem dX6_init_12 : decode cX6_init 12 = .ok (.aload_n 0, 1) := by decide +kernel
theorem dX6_init_13 : decode cX6_init 13 = .ok (.aload_n 1, 1) := by decide +kernel
theorem dX6_init_14 : decode cX6_init 14 = .ok (.putfield 15, 3) := by decide +kernel
theorem dX6_init_17 : decode cX6_init 17 = .ok (.aload_n 0, 1) := by decide +kernel
theorem dX6_init_18 : decode cX6_init 18 = .ok (.aload_n 2, 1) := by decide +kernel
theorem dX6_init_19 : decode cX6_init 19 = .ok (.putfield 19, 3) := by decide +kernel
theorem dX6_init_22 : decode cX6_init 22 = .ok (.return_, 1) := by decide +kernel
theorem dX11_init_0 : decode cX11_init 0 = .ok (.aload_n 0, 1) := by decide +kernel
theorem dX11_init_1 : decode cX11_init 1 = .ok (.invokespecial 1, 3) := by decide +kernel
theorem dX11_init_4 : decode cX11_init 4 = .ok (.aload_n 0, 1) := by decide +kernel
theorem dX11_init_5 : decode cX11_init 5 = .ok (.new 7, 3) := by decide +kernel
theorem dX11_init_8 : decode cX11_init 8 = .ok (.dup, 1) := by decide +kernel
theorem dX11_init_9 : decode cX11_init 9 = .ok (.invokespecial 9, 3) := by decide +kernel
theorem dX11_init_12 : decode cX11_init 12 = .ok (.putfield 10, 3) := by decide +kernel
theorem dX11_init_15 : decode cX11_init 15 = .ok (.aload_n 0, 1) := by decide +kernel
theorem dX11_init_16 : decode cX11_init 16 = .ok (.new 16, 3) := by decide +kernel
theorem dX11_init_19 : decode cX11_init 19 = .ok (.dup, 1) := by decide +kernel
theorem dX11_init_20 : decode cX11_init 20 = .ok (.invokespecial 18, 3) := by decide +kernel
theorem dX11_init_23 : decode cX11_init 23 = .ok (.putfield 19, 3) := by decide +kernel
theorem dX11_init_26 : decode cX11_init 26 = .ok (.aload_n 0, 1) := by decide +kernel
theorem dX11_init_27 : decode cX11_init 27 = .ok (.new 23, 3) := by decide +kernel
theorem dX11_init_30 : decode cX11_init 30 = .ok (.dup, 1) := by decide +kernel
theorem dX11_init_31 : decode cX11_init 31 = .ok (.invokespecial 25, 3) := by decide +kernel
theorem dX11_init_34 : decode cX11_init 34 = .ok (.putfield 26, 3) := by decide +kernel
theorem dX11_init_37 : decode cX11_init 37 = .ok (.aload_n 0, 1) := by decide +kernel
theorem dX11_init_38 : decode cX11_init 38 = .ok (.new 30, 3) := by decide +kernel
theorem dX11_init_41 : decode cX11_init 41 = .ok (.dup, 1) := by decide +kernel
theorem dX11_init_42 : decode cX11_init 42 = .ok (.aload_n 0, 1) := by decide +kernel
theorem dX11_init_43 : decode cX11_init 43 = .ok (.getfield 10, 3) := by decide +kernel
theorem dX11_init_46 : decode cX11_init 46 = .ok (.aload_n 0, 1) := by decide +kernel
theorem dX11_init_47 : decode cX11_init 47 = .ok (.getfield 26, 3) := by decide +kernel
theorem dX11_init_50 : decode cX11_init 50 = .ok (.invokespecial 32, 3) := by decide +kernel
theorem dX11_init_53 : decode cX11_init 53 = .ok (.putfield 35, 3) := by decide +kernel
theorem dX11_init_56 : decode cX11_init 56 = .ok (.aload_n 0, 1) := by decide +kernel
theorem dX11_init_57 : decode cX11_init 57 = .ok (.new 39, 3) := by decide +kernel
theorem dX11_init_60 : decode cX11_init 60 = .ok (.dup, 1) := by decide +kernel
theorem dX11_init_61 : decode cX11_init 61 = .ok (.aload_n 0, 1) := by decide +kernel
theorem dX11_init_62 : decode cX11_init 62 = .ok (.getfield 10, 3) := by decide +kernel
theorem dX11_init_65 : decode cX11_init 65 = .ok (.invokespecial 41, 3) := by decide +kernel
theorem dX11_init_68 : decode cX11_init 68 = .ok (.putfield 44, 3) := by decide +kernel
theorem dX11_init_71 : decode cX11_init 71 = .ok (.aload_n 0, 1) := by decide +kernel
theorem dX11_init_72 : decode cX11_init 72 = .ok (.new 48, 3) := by decide +kernel
theorem dX11_init_75 : decode cX11_init 75 = .ok (.dup, 1) := by decide +kernel
theorem dX11_init_76 : decode cX11_init 76 = .ok (.aload_n 0, 1) := by decide +kernel
theorem dX11_init_77 : decode cX11_init 77 = .ok (.getfield 44, 3) := by decide +kernel
theorem dX11_init_80 : decode cX11_init 80 = .ok (.getfield 50, 3) := by decide +kernel
theorem dX11_init_83 : decode cX11_init 83 = .ok (.invokespecial 54, 3) := by decide +kernel
theorem dX11_init_86 : decode cX11_init 86 = .ok (.putfield 57, 3) := by decide +kernel
theorem dX11_init_89 : decode cX11_init 89 = .ok (.aload_n 0, 1) := by decide +kernel
theorem dX11_init_90 : decode cX11_init 90 = .ok (.new 61, 3) := by decide +kernel
theorem dX11_init_93 : decode cX11_init 93 = .ok (.dup, 1) := by decide +kernel
theorem dX11_init_94 : decode cX11_init 94 = .ok (.aload_n 0, 1) := by decide +kernel
theorem dX11_init_95 : decode cX11_init 95 = .ok (.getfield 10, 3) := by decide +kernel
theorem dX11_init_98 : decode cX11_init 98 = .ok (.aload_n 0, 1) := by decide +kernel
theorem dX11_init_99 : decode cX11_init 99 = .ok (.getfield 44, 3) := by decide +kernel
theorem dX11_init_102 : decode cX11_init 102 = .ok (.invokespecial 63, 3) := by decide +kernel
theorem dX11_init_105 : decode cX11_init 105 = .ok (.putfield 66, 3) := by decide +kernel
theorem dX11_init_108 : decode cX11_init 108 = .ok (.aload_n 0, 1) := by decide +kernel
theorem dX11_init_109 : decode cX11_init 109 = .ok (.new 70, 3) := by decide +kernel
theorem dX11_init_112 : decode cX11_init 112 = .ok (.dup, 1) := by decide +kernel
theorem dX11_init_113 : decode cX11_init 113 = .ok (.aload_n 0, 1) := by decide +kernel
theorem dX11_init_114 : decode cX11_init 114 = .ok (.getfield 10, 3) := by decide +kernel
theorem dX11_init_117 : decode cX11_init 117 = .ok (.aload_n 0, 1) := by decide +kernel
theorem dX11_init_118 : decode cX11_init 118 = .ok (.getfield 44, 3) := by decide +kernel
theorem dX11_init_121 : decode cX11_init 121 = .ok (.invokespecial 72, 3) := by decide +kernel
theorem dX11_init_124 : decode cX11_init 124 = .ok (.putfield 73, 3) := by decide +kernel
theorem dX11_init_127 : decode cX11_init 127 = .ok (.aload_n 0, 1) := by decide +kernel
theorem dX11_init_128 : decode cX11_init 128 = .ok (.new 77, 3) := by decide +kernel
theorem dX11_init_131 : decode cX11_init 131 = .ok (.dup, 1) := by decide +kernel
theorem dX11_init_132 : decode cX11_init 132 = .ok (.aload_n 0, 1) := by decide +kernel
theorem dX11_init_133 : decode cX11_init 133 = .ok (.getfield 10, 3) := by decide +kernel
theorem dX11_init_136 : decode cX11_init 136 = .ok (.aload_n 0, 1) := by decide +kernel
theorem dX11_init_137 : decode cX11_init 137 = .ok (.getfield 44, 3) := by decide +kernel
theorem dX11_init_140 : decode cX11_init 140 = .ok (.invokespecial 79, 3) := by decide +kernel
theorem dX11_init_143 : decode cX11_init 143 = .ok (.putfield 80, 3) := by decide +kernel
theorem dX11_init_146 : decode cX11_init 146 = .ok (.return_, 1) := by decide +kernel
theorem dX12_init_0 : decode cX12_init 0 = .ok (.aload_n 0, 1) := by decide +kernel
theorem dX12_init_1 : decode cX12_init 1 = .ok (.invokespecial 1, 3) := by decide +kernel
theorem dX12_init_4 : decode cX12_init 4 = .ok (.aload_n 0, 1) := by decide +kernel
theorem dX12_init_5 : decode cX12_init 5 = .ok (.sipush 220, 3) := by decide +kernel
theorem dX12_init_8 : decode cX12_init 8 = .ok (.newarray .byte, 2) := by decide +kernel
theorem dX12_init_10 : decode cX12_init 10 = .ok (.putfield 7, 3) := by decide +kernel
theorem dX12_init_13 : decode cX12_init 13 = .ok (.aload_n 0, 1) := by decide +kernel
theorem dX12_init_14 : decode cX12_init 14 = .ok (.sipush 200, 3) := by decide +kernel
theorem dX12_init_17 : decode cX12_init 17 = .ok (.putfield 13, 3) := by decide +kernel
theorem dX12_init_20 : decode cX12_init 20 = .ok (.aload_n 0, 1) := by decide +kernel
theorem dX12_init_21 : decode cX12_init 21 = .ok (.bipush 100, 2) := by decide +kernel
theorem dX12_init_23 : decode cX12_init 23 = .ok (.putfield 17, 3) := by decide +kernel
theorem dX12_init_26 : decode cX12_init 26 = .ok (.aload_n 0, 1) := by decide +kernel
theorem dX12_init_27 : decode cX12_init 27 = .ok (.iconst 1, 1) := by decide +kernel
theorem dX12_init_28 : decode cX12_init 28 = .ok (.putfield 20, 3) := by decide +kernel
theorem dX12_init_31 : decode cX12_init 31 = .ok (.aload_n 0, 1) := by decide +kernel
theorem dX12_init_32 : decode cX12_init 32 = .ok (.bipush 8, 2) := by decide +kernel
theorem dX12_init_34 : decode cX12_init 34 = .ok (.newarray .int, 2) := by decide +kernel
theorem dX12_init_36 : decode cX12_init 36 = .ok (.putfield 23, 3) := by decide +kernel
theorem dX12_init_39 : decode cX12_init 39 = .ok (.aload_n 0, 1) := by decide +kernel
theorem dX12_init_40 : decode cX12_init 40 = .ok (.bipush 8, 2) := by decide +kernel
theorem dX12_init_42 : decode cX12_init 42 = .ok (.newarray .int, 2) := by decide +kernel
theorem dX12_init_44 : decode cX12_init 44 = .ok (.putfield 27, 3) := by decide +kernel
theorem dX12_init_47 : decode cX12_init 47 = .ok (.aload_n 0, 1) := by decide +kernel
theorem dX12_init_48 : decode cX12_init 48 = .ok (.bipush 8, 2) := by decide +kernel
theorem dX12_init_50 : decode cX12_init 50 = .ok (.newarray .int, 2) := by decide +kernel
theorem dX12_init_52 : decode cX12_init 52 = .ok (.putfield 30, 3) := by decide +kernel
theorem dX12_init_55 : decode cX12_init 55 = .ok (.aload_n 0, 1) := by decide +kernel
theorem dX12_init_56 : decode cX12_init 56 = .ok (.bipush 8, 2) := by decide +kernel
theorem dX12_init_58 : decode cX12_init 58 = .ok (.newarray .int, 2) := by decide +kernel
theorem dX12_init_60 : decode cX12_init 60 = .ok (.putfield 33, 3) := by decide +kernel
theorem dX12_init_63 : decode cX12_init 63 = .ok (.aload_n 0, 1) := by decide +kernel
theorem dX12_init_64 : decode cX12_init 64 = .ok (.bipush 32, 2) := by decide +kernel
theorem dX12_init_66 : decode cX12_init 66 = .ok (.newarray .int, 2) := by decide +kernel
theorem dX12_init_68 : decode cX12_init 68 = .ok (.putfield 36, 3) := by decide +kernel
theorem dX12_init_71 : decode cX12_init 71 = .ok (.aload_n 0, 1) := by decide +kernel
theorem dX12_init_72 : decode cX12_init 72 = .ok (.sipush 150, 3) := by decide +kernel
theorem dX12_init_75 : decode cX12_init 75 = .ok (.newarray .int, 2) := by decide +kernel
theorem dX12_init_77 : decode cX12_init 77 = .ok (.putfield 39, 3) := by decide +kernel
theorem dX12_init_80 : decode cX12_init 80 = .ok (.aload_n 0, 1) := by decide +kernel
theorem dX12_init_81 : decode cX12_init 81 = .ok (.sipush 150, 3) := by decide +kernel
theorem dX12_init_84 : decode cX12_init 84 = .ok (.newarray .int, 2) := by decide +kernel
theorem dX12_init_86 : decode cX12_init 86 = .ok (.putfield 42, 3) := by decide +kernel
theorem dX12_init_89 : decode cX12_init 89 = .ok (.aload_n 0, 1) := by decide +kernel
theorem dX12_init_90 : decode cX12_init 90 = .ok (.bipush 14, 2) := by decide +kernel
theorem dX12_init_92 : decode cX12_init 92 = .ok (.newarray .int, 2) := by decide +kernel
theorem dX12_init_94 : decode cX12_init 94 = .ok (.putfield 45, 3) := by decide +kernel
theorem dX12_init_97 : decode cX12_init 97 = .ok (.aload_n 0, 1) := by decide +kernel
theorem dX12_init_98 : decode cX12_init 98 = .ok (.bipush 14, 2) := by decide +kernel
theorem dX12_init_100 : decode cX12_init 100 = .ok (.newarray .int, 2) := by decide +kernel
theorem dX12_init_102 : decode cX12_init 102 = .ok (.putfield 48, 3) := by decide +kernel
theorem dX12_init_105 : decode cX12_init 105 = .ok (.aload_n 0, 1) := by decide +kernel
theorem dX12_init_106 : decode cX12_init 106 = .ok (.bipush 14, 2) := by decide +kernel
theorem dX12_init_108 : decode cX12_init 108 = .ok (.newarray .int, 2) := by decide +kernel
theorem dX12_init_110 : decode cX12_init 110 = .ok (.putfield 51, 3) := by decide +kernel
theorem dX12_init_113 : decode cX12_init 113 = .ok (.aload_n 0, 1) := by decide +kernel
theorem dX12_init_114 : decode cX12_init 114 = .ok (.bipush 14, 2) := by decide +kernel
theorem dX12_init_116 : decode cX12_init 116 = .ok (.newarray .int, 2) := by decide +kernel
theorem dX12_init_118 : decode cX12_init 118 = .ok (.putfield 54, 3) := by decide +kernel
theorem dX12_init_121 : decode cX12_init 121 = .ok (.aload_n 0, 1) := by decide +kernel
theorem dX12_init_122 : decode cX12_init 122 = .ok (.sipush 200, 3) := by decide +kernel
theorem dX12_init_125 : decode cX12_init 125 = .ok (.newarray .int, 2) := by decide +kernel
theorem dX12_init_127 : decode cX12_init 127 = .ok (.putfield 57, 3) := by decide +kernel
theorem dX12_init_130 : decode cX12_init 130 = .ok (.aload_n 0, 1) := by decide +kernel
theorem dX12_init_131 : decode cX12_init 131 = .ok (.sipush 200, 3) := by decide +kernel
theorem dX12_init_134 : decode cX12_init 134 = .ok (.newarray .int, 2) := by decide +kernel
theorem dX12_init_136 : decode cX12_init 136 = .ok (.putfield 60, 3) := by decide +kernel
theorem dX12_init_139 : decode cX12_init 139 = .ok (.aload_n 0, 1) := by decide +kernel
theorem dX12_init_140 : decode cX12_init 140 = .ok (.bipush 14, 2) := by decide +kernel
theorem dX12_init_142 : decode cX12_init 142 = .ok (.newarray .int, 2) := by decide +kernel
theorem dX12_init_144 : decode cX12_init 144 = .ok (.putfield 63, 3) := by decide +kernel
theorem dX12_init_147 : decode cX12_init 147 = .ok (.aload_n 0, 1) := by decide +kernel
theorem dX12_init_148 : decode cX12_init 148 = .ok (.bipush 14, 2) := by decide +kernel
theorem dX12_init_150 : decode cX12_init 150 = .ok (.newarray .int, 2) := by decide +kernel
theorem dX12_init_152 : decode cX12_init 152 = .ok (.putfield 66, 3) := by decide +kernel
theorem dX12_init_155 : decode cX12_init 155 = .ok (.aload_n 0, 1) := by decide +kernel
theorem dX12_init_156 : decode cX12_init 156 = .ok (.bipush 14, 2) := by decide +kernel
theorem dX12_init_158 : decode cX12_init 158 = .ok (.newarray .int, 2) := by decide +kernel
theorem dX12_init_160 : decode cX12_init 160 = .ok (.putfield 69, 3) := by decide +kernel
theorem dX12_init_163 : decode cX12_init 163 = .ok (.aload_n 0, 1) := by decide +kernel
theorem dX12_init_164 : decode cX12_init 164 = .ok (.bipush 14, 2) := by decide +kernel
theorem dX12_init_166 : decode cX12_init 166 = .ok (.newarray .int, 2) := by decide +kernel
theorem dX12_init_168 : decode cX12_init 168 = .ok (.putfield 72, 3) := by decide +kernel
theorem dX12_init_171 : decode cX12_init 171 = .ok (.aload_n 0, 1) := by decide +kernel
theorem dX12_init_172 : decode cX12_init 172 = .ok (.sipush 200, 3) := by decide +kernel
theorem dX12_init_175 : decode cX12_init 175 = .ok (.newarray .int, 2) := by decide +kernel
theorem dX12_init_177 : decode cX12_init 177 = .ok (.putfield 75, 3) := by decide +kernel
theorem dX12_init_180 : decode cX12_init 180 = .ok (.aload_n 0, 1) := by decide +kernel
theorem dX12_init_181 : decode cX12_init 181 = .ok (.sipush 200, 3) := by decide +kernel
theorem dX12_init_184 : decode cX12_init 184 = .ok (.newarray .int, 2) := by decide +kernel
theorem dX12_init_186 : decode cX12_init 186 = .ok (.putfield 78, 3) := by decide +kernel
theorem dX12_init_189 : decode cX12_init 189 = .ok (.aload_n 0, 1) := by decide +kernel
theorem dX12_init_190 : decode cX12_init 190 = .ok (.sipush 240, 3) := by decide +kernel
theorem dX12_init_193 : decode cX12_init 193 = .ok (.newarray .int, 2) := by decide +kernel
theorem dX12_init_195 : decode cX12_init 195 = .ok (.putfield 81, 3) := by decide +kernel
theorem dX12_init_198 : decode cX12_init 198 = .ok (.aload_n 0, 1) := by decide +kernel
theorem dX12_init_199 : decode cX12_init 199 = .ok (.sipush 240, 3) := by decide +kernel
theorem dX12_init_202 : decode cX12_init 202 = .ok (.newarray .int, 2) := by decide +kernel
theorem dX12_init_204 : decode cX12_init 204 = .ok (.putfield 84, 3) := by decide +kernel
theorem dX12_init_207 : decode cX12_init 207 = .ok (.aload_n 0, 1) := by decide +kernel
theorem dX12_init_208 : decode cX12_init 208 = .ok (.sipush 240, 3) := by decide +kernel
theorem dX12_init_211 : decode cX12_init 211 = .ok (.newarray .boolean, 2) := by decide +kernel
theorem dX12_init_213 : decode cX12_init 213 = .ok (.putfield 87, 3) := by decide +kernel
theorem dX12_init_216 : decode cX12_init 216 = .ok (.aload_n 0, 1) := by decide +kernel
theorem dX12_init_217 : decode cX12_init 217 = .ok (.sipush 150, 3) := by decide +kernel
theorem dX12_init_220 : decode cX12_init 220 = .ok (.newarray .int, 2) := by decide +kernel
theorem dX12_init_222 : decode cX12_init 222 = .ok (.putfield 91, 3) := by decide +kernel
theorem dX12_init_225 : decode cX12_init 225 = .ok (.aload_n 0, 1) := by decide +kernel
theorem dX12_init_226 : decode cX12_init 226 = .ok (.sipush 150, 3) := by decide +kernel
theorem dX12_init_229 : decode cX12_init 229 = .ok (.newarray .int, 2) := by decide +kernel
theorem dX12_init_231 : decode cX12_init 231 = .ok (.putfield 94, 3) := by decide +kernel
theorem dX12_init_234 : decode cX12_init 234 = .ok (.aload_n 0, 1) := by decide +kernel
theorem dX12_init_235 : decode cX12_init 235 = .ok (.bipush 13, 2) := by decide +kernel
theorem dX12_init_237 : decode cX12_init 237 = .ok (.newarray .int, 2) := by decide +kernel
theorem dX12_init_239 : decode cX12_init 239 = .ok (.putfield 97, 3) := by decide +kernel
theorem dX12_init_242 : decode cX12_init 242 = .ok (.aload_n 0, 1) := by decide +kernel
theorem dX12_init_243 : decode cX12_init 243 = .ok (.bipush 13, 2) := by decide +kernel
theorem dX12_init_245 : decode cX12_init 245 = .ok (.newarray .int, 2) := by decide +kernel
theorem dX12_init_247 : decode cX12_init 247 = .ok (.putfield 100, 3) := by decide +kernel
theorem dX12_init_250 : decode cX12_init 250 = .ok (.aload_n 0, 1) := by decide +kernel
theorem dX12_init_251 : decode cX12_init 251 = .ok (.bipush 126, 2) := by decide +kernel
theorem dX12_init_253 : decode cX12_init 253 = .ok (.newarray .long, 2) := by decide +kernel
theorem dX12_init_255 : decode cX12_init 255 = .ok (.putfield 103, 3) := by decide +kernel
theorem dX12_init_258 : decode cX12_init 258 = .ok (.aload_n 0, 1) := by decide +kernel
theorem dX12_init_259 : decode cX12_init 259 = .ok (.bipush 126, 2) := by decide +kernel
theorem dX12_init_261 : decode cX12_init 261 = .ok (.newarray .long, 2) := by decide +kernel
theorem dX12_init_263 : decode cX12_init 263 = .ok (.putfield 107, 3) := by decide +kernel
theorem dX12_init_266 : decode cX12_init 266 = .ok (.aload_n 0, 1) := by decide +kernel
theorem dX12_init_267 : decode cX12_init 267 = .ok (.iconst 4, 1) := by decide +kernel
theorem dX12_init_268 : decode cX12_init 268 = .ok (.newarray .int, 2) := by decide +kernel
theorem dX12_init_270 : decode cX12_init 270 = .ok (.putfield 110, 3) := by decide +kernel
theorem dX12_init_273 : decode cX12_init 273 = .ok (.aload_n 0, 1) := by decide +kernel
theorem dX12_init_274 : decode cX12_init 274 = .ok (.sipush 9680, 3) := by decide +kernel
theorem dX12_init_277 : decode cX12_init 277 = .ok (.newarray .int, 2) := by decide +kernel
theorem dX12_init_279 : decode cX12_init 279 = .ok (.putfield 113, 3) := by decide +kernel
theorem dX12_init_282 : decode cX12_init 282 = .ok (.aload_n 0, 1) := by decide +kernel
theorem dX12_init_283 : decode cX12_init 283 = .ok (.ldc 116, 2) := by decide +kernel
theorem dX12_init_285 : decode cX12_init 285 = .ok (.newarray .int, 2) := by decide +kernel
theorem dX12_init_287 : decode cX12_init 287 = .ok (.putfield 117, 3) := by decide +kernel
theorem dX12_init_290 : decode cX12_init 290 = .ok (.aload_n 0, 1) := by decide +kernel
theorem dX12_init_291 : decode cX12_init 291 = .ok (.bipush 16, 2) := by decide +kernel
theorem dX12_init_293 : decode cX12_init 293 = .ok (.newarray .int, 2) := by decide +kernel
theorem dX12_init_295 : decode cX12_init 295 = .ok (.putfield 120, 3) := by decide +kernel
theorem dX12_init_298 : decode cX12_init 298 = .ok (.aload_n 0, 1) := by decide +kernel
theorem dX12_init_299 : decode cX12_init 299 = .ok (.bipush 16, 2) := by decide +kernel
theorem dX12_init_301 : decode cX12_init 301 = .ok (.newarray .int, 2) := by decide +kernel
theorem dX12_init_303 : decode cX12_init 303 = .ok (.putfield 123, 3) := by decide +kernel
theorem dX12_init_306 : decode cX12_init 306 = .ok (.aload_n 0, 1) := by decide +kernel
theorem dX12_init_307 : decode cX12_init 307 = .ok (.sipush 374, 3) := by decide +kernel
theorem dX12_init_310 : decode cX12_init 310 = .ok (.newarray .boolean, 2) := by decide +kernel
theorem dX12_init_312 : decode cX12_init 312 = .ok (.putfield 126, 3) := by decide +kernel
theorem dX12_init_315 : decode cX12_init 315 = .ok (.aload_n 0, 1) := by decide +kernel
theorem dX12_init_316 : decode cX12_init 316 = .ok (.bipush 8, 2) := by decide +kernel
theorem dX12_init_318 : decode cX12_init 318 = .ok (.newarray .int, 2) := by decide +kernel
theorem dX12_init_320 : decode cX12_init 320 = .ok (.putfield 129, 3) := by decide +kernel
theorem dX12_init_323 : decode cX12_init 323 = .ok (.aload_n 0, 1) := by decide +kernel
theorem dX12_init_324 : decode cX12_init 324 = .ok (.bipush 12, 2) := by decide +kernel
theorem dX12_init_326 : decode cX12_init 326 = .ok (.newarray .int, 2) := by decide +kernel
theorem dX12_init_328 : decode cX12_init 328 = .ok (.putfield 132, 3) := by decide +kernel
theorem dX12_init_331 : decode cX12_init 331 = .ok (.aload_n 0, 1) := by decide +kernel
theorem dX12_init_332 : decode cX12_init 332 = .ok (.bipush 12, 2) := by decide +kernel
theorem dX12_init_334 : decode cX12_init 334 = .ok (.newarray .int, 2) := by decide +kernel
theorem dX12_init_336 : decode cX12_init 336 = .ok (.putfield 135, 3) := by decide +kernel
theorem dX12_init_339 : decode cX12_init 339 = .ok (.aload_n 0, 1) := by decide +kernel
theorem dX12_init_340 : decode cX12_init 340 = .ok (.sipush 150, 3) := by decide +kernel
theorem dX12_init_343 : decode cX12_init 343 = .ok (.newarray .int, 2) := by decide +kernel
theorem dX12_init_345 : decode cX12_init 345 = .ok (.putfield 138, 3) := by decide +kernel
theorem dX12_init_348 : decode cX12_init 348 = .ok (.aload_n 0, 1) := by decide +kernel
theorem dX12_init_349 : decode cX12_init 349 = .ok (.sipush 150, 3) := by decide +kernel
theorem dX12_init_352 : decode cX12_init 352 = .ok (.newarray .int, 2) := by decide +kernel
theorem dX12_init_354 : decode cX12_init 354 = .ok (.putfield 141, 3) := by decide +kernel
theorem dX12_init_357 : decode cX12_init 357 = .ok (.return_, 1) := by decide +kernel
theorem fqX4_9 : FQk RX4 9 4 0 (.array .int) := ⟨_, _, _, _, clsX4, by decide, wfX4_9, rfl, rfl, rfl⟩
theorem fqX4_15 : FQk RX4 15 4 1 (.array .int) := ⟨_, _, _, _, clsX4, by decide, wfX4_15, rfl, rfl, rfl⟩
theorem fqX4_18 : FQk RX4 18 4 2 (.array .int) := ⟨_, _, _, _, clsX4, by decide, wfX4_18, rfl, rfl, rfl⟩
theorem fqX4_21 : FQk RX4 21 4 3 (.array .int) := ⟨_, _, _, _, clsX4, by decide, wfX4_21, rfl, rfl, rfl⟩
theorem fqX4_24 : FQk RX4 24 4 4 (.array .int) := ⟨_, _, _, _, clsX4, by decide, wfX4_24, rfl, rfl, rfl⟩
theorem fpX4_27 : FPk RX4 27 4 6 (.int) := ⟨_, _, _, _, clsX4, by decide, wfX4_27, rfl, rfl⟩
theorem fpX4_31 : FPk RX4 31 4 7 (.int) := ⟨_, _, _, _, clsX4, by decide, wfX4_31, rfl, rfl⟩
theorem fqX10_9 : FQk RX10 9 9 0 (.array .int) := ⟨_, _, _, _, clsX10, by decide, wfX10_9, rfl, rfl, rfl⟩
theorem fqX9_9 : FQk RX9 9 8 0 (.array .int) := ⟨_, _, _, _, clsX9, by decide, wfX9_9, rfl, rfl, rfl⟩
theorem fqX9_15 : FQk RX9 15 8 1 (.array .int) := ⟨_, _, _, _, clsX9, by decide, wfX9_15, rfl, rfl, rfl⟩
theorem fqX9_18 : FQk RX9 18 8 2 (.array .int) := ⟨_, _, _, _, clsX9, by decide, wfX9_18, rfl, rfl, rfl⟩
theorem fqX9_21 : FQk RX9 21 8 3 (.array .int) := ⟨_, _, _, _, clsX9, by decide, wfX9_21, rfl, rfl, rfl⟩
theorem fqX3_9 : FQk RX3 9 3 2 (.array .int) := ⟨_, _, _, _, clsX3, by decide, wfX3_9, rfl, rfl, rfl⟩
theorem fqX3_15 : FQk RX3 15 3 3 (.array .int) := ⟨_, _, _, _, clsX3, by decide, wfX3_15, rfl, rfl, rfl⟩
theorem fqX3_22 : FQk RX3 22 3 0 (.object "OneWord$People") := ⟨_, _, _, _, clsX3, by decide, wfX3_22, rfl, rfl, rfl⟩
theorem fqX3_26 : FQk RX3 26 3 1 (.object "OneWord$Talk") := ⟨_, _, _, _, clsX3, by decide, wfX3_26, rfl, rfl, rfl⟩
theorem fqX0_9 : FQk RX0 9 0 0 (.array .int) := ⟨_, _, _, _, clsX0, by decide, wfX0_9, rfl, rfl, rfl⟩
theorem fqX0_15 : FQk RX0 15 0 1 (.array .int) := ⟨_, _, _, _, clsX0, by decide, wfX0_15, rfl, rfl, rfl⟩
theorem fqX0_18 : FQk RX0 18 0 2 (.array .int) := ⟨_, _, _, _, clsX0, by decide, wfX0_18, rfl, rfl, rfl⟩
theorem fqX0_21 : FQk RX0 21 0 3 (.array .int) := ⟨_, _, _, _, clsX0, by decide, wfX0_21, rfl, rfl, rfl⟩
theorem fqX0_24 : FQk RX0 24 0 4 (.array .int) := ⟨_, _, _, _, clsX0, by decide, wfX0_24, rfl, rfl, rfl⟩
theorem fqX7_9 : FQk RX7 9 7 1 (.array .int) := ⟨_, _, _, _, clsX7, by decide, wfX7_9, rfl, rfl, rfl⟩
theorem fqX7_15 : FQk RX7 15 7 2 (.array .int) := ⟨_, _, _, _, clsX7, by decide, wfX7_15, rfl, rfl, rfl⟩
theorem dfX0 : ∀ (b : Bs) (j : Nat), j < 8 → defaultValue (tyX0 j) = fvN b 0 j (dflO 0 j) := by
  intro b j hj
  have : ∀ j, j < 8 → defaultValue (tyX0 j) = (if fty 0 j = 0 then iV 0 else .null) := by decide
  rw [this j hj]
  unfold fvN dflO
  by_cases h : fty 0 j = 0
  · rw [if_pos h, if_pos h, if_pos h]
  · rw [if_neg h, if_neg h, if_neg h]; rfl
theorem wiX0_init : Cond.initialized yX0_init.cls ∈ gtb := mg tw7 rfl
theorem wcX0_init : Cond.code yX0_init cX0_init 1 none ∈ gtb := mg tw154 rfl
theorem iiX7_20 : (MLk RX7 20 yX0_init cX0_init 1 none 0 ∨ NLk RX7 20 yX0_init cX0_init 1 none 0) ∧ yX0_init.name = "<init>" ∧ Cond.instanceMethod yX0_init ∈ gtb := ⟨Or.inr ⟨by decide +kernel, wiX0_init, wcX0_init, by decide +kernel, by decide +kernel⟩, rfl, mg tw153 rfl⟩
theorem fqX7_28 : FQk RX7 28 7 0 (.object "OneWord$People") := ⟨_, _, _, _, clsX7, by decide, wfX7_28, rfl, rfl, rfl⟩
theorem fqX2_9 : FQk RX2 9 2 0 (.array .int) := ⟨_, _, _, _, clsX2, by decide, wfX2_9, rfl, rfl, rfl⟩
theorem fqX5_9 : FQk RX5 9 5 2 (.array .int) := ⟨_, _, _, _, clsX5, by decide, wfX5_9, rfl, rfl, rfl⟩
theorem fqX5_15 : FQk RX5 15 5 3 (.array .int) := ⟨_, _, _, _, clsX5, by decide, wfX5_15, rfl, rfl, rfl⟩
theorem fqX5_18 : FQk RX5 18 5 4 (.array .int) := ⟨_, _, _, _, clsX5, by decide, wfX5_18, rfl, rfl, rfl⟩
theorem fqX5_21 : FQk RX5 21 5 5 (.array .int) := ⟨_, _, _, _, clsX5, by decide, wfX5_21, rfl, rfl, rfl⟩
theorem fqX5_24 : FQk RX5 24 5 6 (.array .int) := ⟨_, _, _, _, clsX5, by decide, wfX5_24, rfl, rfl, rfl⟩
theorem kaz : Cond.arrayClass .boolean ∈ gtb := mg tw287 rfl
theorem fqX5_27 : FQk RX5 27 5 7 (.array .boolean) := ⟨_, _, _, _, clsX5, by decide, wfX5_27, rfl, rfl, rfl⟩
theorem kal : Cond.arrayClass .long ∈ gtb := mg tw288 rfl
theorem fqX5_38 : FQk RX5 38 5 0 (.object "OneWord$People") := ⟨_, _, _, _, clsX5, by decide, wfX5_38, rfl, rfl, rfl⟩
theorem fqX5_42 : FQk RX5 42 5 1 (.object "OneWord$Sense") := ⟨_, _, _, _, clsX5, by decide, wfX5_42, rfl, rfl, rfl⟩
theorem fqX1_11 : FQk RX1 11 1 2 (.array .int) := ⟨_, _, _, _, clsX1, by decide, wfX1_11, rfl, rfl, rfl⟩
theorem fqX1_15 : FQk RX1 15 1 3 (.array .int) := ⟨_, _, _, _, clsX1, by decide, wfX1_15, rfl, rfl, rfl⟩
theorem fqX1_18 : FQk RX1 18 1 4 (.array .boolean) := ⟨_, _, _, _, clsX1, by decide, wfX1_18, rfl, rfl, rfl⟩
theorem fqX1_22 : FQk RX1 22 1 5 (.array .int) := ⟨_, _, _, _, clsX1, by decide, wfX1_22, rfl, rfl, rfl⟩
theorem fqX1_25 : FQk RX1 25 1 6 (.array .int) := ⟨_, _, _, _, clsX1, by decide, wfX1_25, rfl, rfl, rfl⟩
theorem fqX1_28 : FQk RX1 28 1 7 (.array .int) := ⟨_, _, _, _, clsX1, by decide, wfX1_28, rfl, rfl, rfl⟩
theorem fqX1_31 : FQk RX1 31 1 8 (.array .int) := ⟨_, _, _, _, clsX1, by decide, wfX1_31, rfl, rfl, rfl⟩
theorem fqX1_37 : FQk RX1 37 1 0 (.object "OneWord$People") := ⟨_, _, _, _, clsX1, by decide, wfX1_37, rfl, rfl, rfl⟩
theorem fqX1_41 : FQk RX1 41 1 1 (.object "OneWord$Sense") := ⟨_, _, _, _, clsX1, by decide, wfX1_41, rfl, rfl, rfl⟩
theorem fqX6_9 : FQk RX6 9 6 2 (.array .int) := ⟨_, _, _, _, clsX6, by decide, wfX6_9, rfl, rfl, rfl⟩
theorem fqX6_15 : FQk RX6 15 6 0 (.object "OneWord$People") := ⟨_, _, _, _, clsX6, by decide, wfX6_15, rfl, rfl, rfl⟩
theorem fqX6_19 : FQk RX6 19 6 1 (.object "OneWord$Sense") := ⟨_, _, _, _, clsX6, by decide, wfX6_19, rfl, rfl, rfl⟩
theorem dfX4 : ∀ (b : Bs) (j : Nat), j < 8 → defaultValue (tyX4 j) = fvN b 4 j (dflO 4 j) := by
  intro b j hj
  have : ∀ j, j < 8 → defaultValue (tyX4 j) = (if fty 4 j = 0 then iV 0 else .null) := by decide
  rw [this j hj]
  unfold fvN dflO
  by_cases h : fty 4 j = 0
  · rw [if_pos h, if_pos h, if_pos h]
  · rw [if_neg h, if_neg h, if_neg h]; rfl
theorem wiX4_init : Cond.initialized yX4_init.cls ∈ gtb := mg tw2 rfl
theorem wcX4_init : Cond.code yX4_init cX4_init 1 none ∈ gtb := mg tw34 rfl
theorem iiX11_9 : (MLk RX11 9 yX4_init cX4_init 1 none 0 ∨ NLk RX11 9 yX4_init cX4_init 1 none 0) ∧ yX4_init.name = "<init>" ∧ Cond.instanceMethod yX4_init ∈ gtb := ⟨Or.inr ⟨by decide +kernel, wiX4_init, wcX4_init, by decide +kernel, by decide +kernel⟩, rfl, mg tw33 rfl⟩
theorem fqX11_10 : FQk RX11 10 10 0 (.object "OneWord$People") := ⟨_, _, _, _, clsX11, by decide, wfX11_10, rfl, rfl, rfl⟩
theorem dfX10 : ∀ (b : Bs) (j : Nat), j < 2 → defaultValue (tyX10 j) = fvN b 9 j (dflO 9 j) := by
  intro b j hj
  have : ∀ j, j < 2 → defaultValue (tyX10 j) = (if fty 9 j = 0 then iV 0 else .null) := by decide
  rw [this j hj]
  unfold fvN dflO
  by_cases h : fty 9 j = 0
  · rw [if_pos h, if_pos h, if_pos h]
  · rw [if_neg h, if_neg h, if_neg h]; rfl
theorem wiX10_init : Cond.initialized yX10_init.cls ∈ gtb := mg tw3 rfl
theorem wcX10_init : Cond.code yX10_init cX10_init 1 none ∈ gtb := mg tw73 rfl
theorem iiX11_18 : (MLk RX11 18 yX10_init cX10_init 1 none 0 ∨ NLk RX11 18 yX10_init cX10_init 1 none 0) ∧ yX10_init.name = "<init>" ∧ Cond.instanceMethod yX10_init ∈ gtb := ⟨Or.inr ⟨by decide +kernel, wiX10_init, wcX10_init, by decide +kernel, by decide +kernel⟩, rfl, mg tw72 rfl⟩
theorem fqX11_19 : FQk RX11 19 10 1 (.object "OneWord$Tape") := ⟨_, _, _, _, clsX11, by decide, wfX11_19, rfl, rfl, rfl⟩
theorem dfX9 : ∀ (b : Bs) (j : Nat), j < 8 → defaultValue (tyX9 j) = fvN b 8 j (dflO 8 j) := by
  intro b j hj
  have : ∀ j, j < 8 → defaultValue (tyX9 j) = (if fty 8 j = 0 then iV 0 else .null) := by decide
  rw [this j hj]
  unfold fvN dflO
  by_cases h : fty 8 j = 0
  · rw [if_pos h, if_pos h, if_pos h]
  · rw [if_neg h, if_neg h, if_neg h]; rfl
theorem wiX9_init : Cond.initialized yX9_init.cls ∈ gtb := mg tw4 rfl
theorem wcX9_init : Cond.code yX9_init cX9_init 1 none ∈ gtb := mg tw87 rfl
theorem iiX11_25 : (MLk RX11 25 yX9_init cX9_init 1 none 0 ∨ NLk RX11 25 yX9_init cX9_init 1 none 0) ∧ yX9_init.name = "<init>" ∧ Cond.instanceMethod yX9_init ∈ gtb := ⟨Or.inr ⟨by decide +kernel, wiX9_init, wcX9_init, by decide +kernel, by decide +kernel⟩, rfl, mg tw86 rfl⟩
theorem fqX11_26 : FQk RX11 26 10 2 (.object "OneWord$Talk") := ⟨_, _, _, _, clsX11, by decide, wfX11_26, rfl, rfl, rfl⟩
theorem dfX3 : ∀ (b : Bs) (j : Nat), j < 6 → defaultValue (tyX3 j) = fvN b 3 j (dflO 3 j) := by
  intro b j hj
  have : ∀ j, j < 6 → defaultValue (tyX3 j) = (if fty 3 j = 0 then iV 0 else .null) := by decide
  rw [this j hj]
  unfold fvN dflO
  by_cases h : fty 3 j = 0
  · rw [if_pos h, if_pos h, if_pos h]
  · rw [if_neg h, if_neg h, if_neg h]; rfl
theorem wiX3_init : Cond.initialized yX3_init.cls ∈ gtb := mg tw5 rfl
theorem wcX3_init : Cond.code yX3_init cX3_init 3 none ∈ gtb := mg tw121 rfl
theorem iiX11_32 : (MLk RX11 32 yX3_init cX3_init 3 none 2 ∨ NLk RX11 32 yX3_init cX3_init 3 none 2) ∧ yX3_init.name = "<init>" ∧ Cond.instanceMethod yX3_init ∈ gtb := ⟨Or.inl ⟨mg tw119 rfl, wiX3_init, wcX3_init, by decide +kernel, by decide +kernel⟩, rfl, mg tw120 rfl⟩
theorem fqX11_35 : FQk RX11 35 10 3 (.object "OneWord$Hearings") := ⟨_, _, _, _, clsX11, by decide, wfX11_35, rfl, rfl, rfl⟩
theorem dfX7 : ∀ (b : Bs) (j : Nat), j < 6 → defaultValue (tyX7 j) = fvN b 7 j (dflO 7 j) := by
  intro b j hj
  have : ∀ j, j < 6 → defaultValue (tyX7 j) = (if fty 7 j = 0 then iV 0 else .null) := by decide
  rw [this j hj]
  unfold fvN dflO
  by_cases h : fty 7 j = 0
  · rw [if_pos h, if_pos h, if_pos h]
  · rw [if_neg h, if_neg h, if_neg h]; rfl
theorem wiX7_init : Cond.initialized yX7_init.cls ∈ gtb := mg tw6 rfl
theorem wcX7_init : Cond.code yX7_init cX7_init 2 none ∈ gtb := mg tw148 rfl
theorem iiX11_41 : (MLk RX11 41 yX7_init cX7_init 2 none 1 ∨ NLk RX11 41 yX7_init cX7_init 2 none 1) ∧ yX7_init.name = "<init>" ∧ Cond.instanceMethod yX7_init ∈ gtb := ⟨Or.inl ⟨mg tw146 rfl, wiX7_init, wcX7_init, by decide +kernel, by decide +kernel⟩, rfl, mg tw147 rfl⟩
theorem fqX11_44 : FQk RX11 44 10 4 (.object "OneWord$Sense") := ⟨_, _, _, _, clsX11, by decide, wfX11_44, rfl, rfl, rfl⟩
theorem dfX2 : ∀ (b : Bs) (j : Nat), j < 6 → defaultValue (tyX2 j) = fvN b 2 j (dflO 2 j) := by
  intro b j hj
  have : ∀ j, j < 6 → defaultValue (tyX2 j) = (if fty 2 j = 0 then iV 0 else .null) := by decide
  rw [this j hj]
  unfold fvN dflO
  by_cases h : fty 2 j = 0
  · rw [if_pos h, if_pos h, if_pos h]
  · rw [if_neg h, if_neg h, if_neg h]; rfl
theorem fpX11_50 : FPk RX11 50 7 4 (.object "OneWord$Code") := ⟨_, _, _, _, clsX7, by decide, wfX11_50, rfl, rfl⟩
theorem wiX2_init : Cond.initialized yX2_init.cls ∈ gtb := mg tw8 rfl
theorem wcX2_init : Cond.code yX2_init cX2_init 2 none ∈ gtb := mg tw214 rfl
theorem iiX11_54 : (MLk RX11 54 yX2_init cX2_init 2 none 1 ∨ NLk RX11 54 yX2_init cX2_init 2 none 1) ∧ yX2_init.name = "<init>" ∧ Cond.instanceMethod yX2_init ∈ gtb := ⟨Or.inl ⟨mg tw212 rfl, wiX2_init, wcX2_init, by decide +kernel, by decide +kernel⟩, rfl, mg tw213 rfl⟩
theorem fqX11_57 : FQk RX11 57 10 5 (.object "OneWord$Grammar") := ⟨_, _, _, _, clsX11, by decide, wfX11_57, rfl, rfl, rfl⟩
theorem dfX5 : ∀ (b : Bs) (j : Nat), j < 15 → defaultValue (tyX5 j) = fvN b 5 j (dflO 5 j) := by
  intro b j hj
  have : ∀ j, j < 15 → defaultValue (tyX5 j) = (if fty 5 j = 0 then iV 0 else .null) := by decide
  rw [this j hj]
  unfold fvN dflO
  by_cases h : fty 5 j = 0
  · rw [if_pos h, if_pos h, if_pos h]
  · rw [if_neg h, if_neg h, if_neg h]; rfl
theorem wiX5_init : Cond.initialized yX5_init.cls ∈ gtb := mg tw9 rfl
theorem wcX5_init : Cond.code yX5_init cX5_init 3 none ∈ gtb := mg tw239 rfl
theorem iiX11_63 : (MLk RX11 63 yX5_init cX5_init 3 none 2 ∨ NLk RX11 63 yX5_init cX5_init 3 none 2) ∧ yX5_init.name = "<init>" ∧ Cond.instanceMethod yX5_init ∈ gtb := ⟨Or.inl ⟨mg tw237 rfl, wiX5_init, wcX5_init, by decide +kernel, by decide +kernel⟩, rfl, mg tw238 rfl⟩
theorem fqX11_66 : FQk RX11 66 10 6 (.object "OneWord$ReadBack") := ⟨_, _, _, _, clsX11, by decide, wfX11_66, rfl, rfl, rfl⟩
theorem dfX1 : ∀ (b : Bs) (j : Nat), j < 15 → defaultValue (tyX1 j) = fvN b 1 j (dflO 1 j) := by
  intro b j hj
  have : ∀ j, j < 15 → defaultValue (tyX1 j) = (if fty 1 j = 0 then iV 0 else .null) := by decide
  rw [this j hj]
  unfold fvN dflO
  by_cases h : fty 1 j = 0
  · rw [if_pos h, if_pos h, if_pos h]
  · rw [if_neg h, if_neg h, if_neg h]; rfl
theorem wiX1_init : Cond.initialized yX1_init.cls ∈ gtb := mg tw10 rfl
theorem wcX1_init : Cond.code yX1_init cX1_init 3 none ∈ gtb := mg tw293 rfl
theorem iiX11_72 : (MLk RX11 72 yX1_init cX1_init 3 none 2 ∨ NLk RX11 72 yX1_init cX1_init 3 none 2) ∧ yX1_init.name = "<init>" ∧ Cond.instanceMethod yX1_init ∈ gtb := ⟨Or.inl ⟨mg tw291 rfl, wiX1_init, wcX1_init, by decide +kernel, by decide +kernel⟩, rfl, mg tw292 rfl⟩
theorem fqX11_73 : FQk RX11 73 10 7 (.object "OneWord$Crowd") := ⟨_, _, _, _, clsX11, by decide, wfX11_73, rfl, rfl, rfl⟩
theorem dfX6 : ∀ (b : Bs) (j : Nat), j < 9 → defaultValue (tyX6 j) = fvN b 6 j (dflO 6 j) := by
  intro b j hj
  have : ∀ j, j < 9 → defaultValue (tyX6 j) = (if fty 6 j = 0 then iV 0 else .null) := by decide
  rw [this j hj]
  unfold fvN dflO
  by_cases h : fty 6 j = 0
  · rw [if_pos h, if_pos h, if_pos h]
  · rw [if_neg h, if_neg h, if_neg h]; rfl
theorem wiX6_init : Cond.initialized yX6_init.cls ∈ gtb := mg tw11 rfl
theorem wcX6_init : Cond.code yX6_init cX6_init 3 none ∈ gtb := mg tw346 rfl
theorem iiX11_79 : (MLk RX11 79 yX6_init cX6_init 3 none 2 ∨ NLk RX11 79 yX6_init cX6_init 3 none 2) ∧ yX6_init.name = "<init>" ∧ Cond.instanceMethod yX6_init ∈ gtb := ⟨Or.inl ⟨mg tw344 rfl, wiX6_init, wcX6_init, by decide +kernel, by decide +kernel⟩, rfl, mg tw345 rfl⟩
theorem fqX11_80 : FQk RX11 80 10 8 (.object "OneWord$Rules") := ⟨_, _, _, _, clsX11, by decide, wfX11_80, rfl, rfl, rfl⟩
theorem kab : Cond.arrayClass .byte ∈ gtb := mg tw638 rfl
theorem fqX12_7 : FQk RX12 7 11 0 (.array .byte) := ⟨_, _, _, _, clsX12, by decide, wfX12_7, rfl, rfl, rfl⟩
theorem fqX12_23 : FQk RX12 23 11 7 (.array .int) := ⟨_, _, _, _, clsX12, by decide, wfX12_23, rfl, rfl, rfl⟩
theorem fqX12_27 : FQk RX12 27 11 8 (.array .int) := ⟨_, _, _, _, clsX12, by decide, wfX12_27, rfl, rfl, rfl⟩
theorem fqX12_30 : FQk RX12 30 11 9 (.array .int) := ⟨_, _, _, _, clsX12, by decide, wfX12_30, rfl, rfl, rfl⟩
theorem fqX12_33 : FQk RX12 33 11 10 (.array .int) := ⟨_, _, _, _, clsX12, by decide, wfX12_33, rfl, rfl, rfl⟩
theorem fqX12_36 : FQk RX12 36 11 11 (.array .int) := ⟨_, _, _, _, clsX12, by decide, wfX12_36, rfl, rfl, rfl⟩
theorem fqX12_39 : FQk RX12 39 11 12 (.array .int) := ⟨_, _, _, _, clsX12, by decide, wfX12_39, rfl, rfl, rfl⟩
theorem fqX12_42 : FQk RX12 42 11 13 (.array .int) := ⟨_, _, _, _, clsX12, by decide, wfX12_42, rfl, rfl, rfl⟩
theorem fqX12_45 : FQk RX12 45 11 15 (.array .int) := ⟨_, _, _, _, clsX12, by decide, wfX12_45, rfl, rfl, rfl⟩
theorem fqX12_48 : FQk RX12 48 11 16 (.array .int) := ⟨_, _, _, _, clsX12, by decide, wfX12_48, rfl, rfl, rfl⟩
theorem fqX12_51 : FQk RX12 51 11 17 (.array .int) := ⟨_, _, _, _, clsX12, by decide, wfX12_51, rfl, rfl, rfl⟩
theorem fqX12_54 : FQk RX12 54 11 18 (.array .int) := ⟨_, _, _, _, clsX12, by decide, wfX12_54, rfl, rfl, rfl⟩
theorem fqX12_57 : FQk RX12 57 11 19 (.array .int) := ⟨_, _, _, _, clsX12, by decide, wfX12_57, rfl, rfl, rfl⟩
theorem fqX12_60 : FQk RX12 60 11 20 (.array .int) := ⟨_, _, _, _, clsX12, by decide, wfX12_60, rfl, rfl, rfl⟩
theorem fqX12_63 : FQk RX12 63 11 21 (.array .int) := ⟨_, _, _, _, clsX12, by decide, wfX12_63, rfl, rfl, rfl⟩
theorem fqX12_66 : FQk RX12 66 11 22 (.array .int) := ⟨_, _, _, _, clsX12, by decide, wfX12_66, rfl, rfl, rfl⟩
theorem fqX12_69 : FQk RX12 69 11 23 (.array .int) := ⟨_, _, _, _, clsX12, by decide, wfX12_69, rfl, rfl, rfl⟩
theorem fqX12_72 : FQk RX12 72 11 24 (.array .int) := ⟨_, _, _, _, clsX12, by decide, wfX12_72, rfl, rfl, rfl⟩
theorem fqX12_75 : FQk RX12 75 11 25 (.array .int) := ⟨_, _, _, _, clsX12, by decide, wfX12_75, rfl, rfl, rfl⟩
theorem fqX12_78 : FQk RX12 78 11 26 (.array .int) := ⟨_, _, _, _, clsX12, by decide, wfX12_78, rfl, rfl, rfl⟩
theorem fqX12_81 : FQk RX12 81 11 36 (.array .int) := ⟨_, _, _, _, clsX12, by decide, wfX12_81, rfl, rfl, rfl⟩
theorem fqX12_84 : FQk RX12 84 11 46 (.array .int) := ⟨_, _, _, _, clsX12, by decide, wfX12_84, rfl, rfl, rfl⟩
theorem fqX12_87 : FQk RX12 87 11 47 (.array .boolean) := ⟨_, _, _, _, clsX12, by decide, wfX12_87, rfl, rfl, rfl⟩
theorem fqX12_91 : FQk RX12 91 11 49 (.array .int) := ⟨_, _, _, _, clsX12, by decide, wfX12_91, rfl, rfl, rfl⟩
theorem fqX12_94 : FQk RX12 94 11 50 (.array .int) := ⟨_, _, _, _, clsX12, by decide, wfX12_94, rfl, rfl, rfl⟩
theorem fqX12_97 : FQk RX12 97 11 51 (.array .int) := ⟨_, _, _, _, clsX12, by decide, wfX12_97, rfl, rfl, rfl⟩
theorem fqX12_100 : FQk RX12 100 11 52 (.array .int) := ⟨_, _, _, _, clsX12, by decide, wfX12_100, rfl, rfl, rfl⟩
theorem fqX12_103 : FQk RX12 103 11 53 (.array .long) := ⟨_, _, _, _, clsX12, by decide, wfX12_103, rfl, rfl, rfl⟩
theorem fqX12_107 : FQk RX12 107 11 54 (.array .long) := ⟨_, _, _, _, clsX12, by decide, wfX12_107, rfl, rfl, rfl⟩
theorem fqX12_110 : FQk RX12 110 11 58 (.array .int) := ⟨_, _, _, _, clsX12, by decide, wfX12_110, rfl, rfl, rfl⟩
theorem fqX12_113 : FQk RX12 113 11 59 (.array .int) := ⟨_, _, _, _, clsX12, by decide, wfX12_113, rfl, rfl, rfl⟩
theorem kwX12_116 : Cond.constant RX12 116 (Int32.ofInt 68750) ∈ gtb := mg tw1112 rfl
theorem fqX12_117 : FQk RX12 117 11 60 (.array .int) := ⟨_, _, _, _, clsX12, by decide, wfX12_117, rfl, rfl, rfl⟩
theorem fqX12_120 : FQk RX12 120 11 61 (.array .int) := ⟨_, _, _, _, clsX12, by decide, wfX12_120, rfl, rfl, rfl⟩
theorem fqX12_123 : FQk RX12 123 11 62 (.array .int) := ⟨_, _, _, _, clsX12, by decide, wfX12_123, rfl, rfl, rfl⟩
theorem fqX12_126 : FQk RX12 126 11 64 (.array .boolean) := ⟨_, _, _, _, clsX12, by decide, wfX12_126, rfl, rfl, rfl⟩
theorem fqX12_129 : FQk RX12 129 11 65 (.array .int) := ⟨_, _, _, _, clsX12, by decide, wfX12_129, rfl, rfl, rfl⟩
theorem fqX12_132 : FQk RX12 132 11 66 (.array .int) := ⟨_, _, _, _, clsX12, by decide, wfX12_132, rfl, rfl, rfl⟩
theorem fqX12_135 : FQk RX12 135 11 67 (.array .int) := ⟨_, _, _, _, clsX12, by decide, wfX12_135, rfl, rfl, rfl⟩
theorem fqX12_138 : FQk RX12 138 11 71 (.array .int) := ⟨_, _, _, _, clsX12, by decide, wfX12_138, rfl, rfl, rfl⟩
theorem fqX12_141 : FQk RX12 141 11 72 (.array .int) := ⟨_, _, _, _, clsX12, by decide, wfX12_141, rfl, rfl, rfl⟩
