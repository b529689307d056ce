theorem tw408 : Cond.methodLink "OneWordLaw" 13 yX11_mouth ∈ lw_tbl := List.mem_append_right _ (List.mem_of_getElem? (i := 408) (by decide +kernel))
theorem tw409 : Cond.instanceMethod yX11_mouth ∈ lw_tbl := List.mem_append_right _ (List.mem_of_getElem? (i := 409) (by decide +kernel))
theorem tw410 : Cond.selects "OneWord" yX11_mouth yX11_mouth ∈ lw_tbl := List.mem_append_right _ (List.mem_of_getElem? (i := 410) (by decide +kernel))
theorem tw411 : Cond.code yX11_mouth prog_1_method_2_code 5 (Option.some .int) ∈ lw_tbl := List.mem_append_right _ (List.mem_of_getElem? (i := 411) (by decide +kernel))
theorem tw419 : Cond.methodLink "OneWordLaw" 18 yX11_air ∈ lw_tbl := List.mem_append_right _ (List.mem_of_getElem? (i := 419) (by decide +kernel))
theorem tw420 : Cond.instanceMethod yX11_air ∈ lw_tbl := List.mem_append_right _ (List.mem_of_getElem? (i := 420) (by decide +kernel))
theorem tw421 : Cond.selects "OneWord" yX11_air yX11_air ∈ lw_tbl := List.mem_append_right _ (List.mem_of_getElem? (i := 421) (by decide +kernel))
theorem tw422 : Cond.code yX11_air prog_1_method_3_code 3 (Option.some .boolean) ∈ lw_tbl := List.mem_append_right _ (List.mem_of_getElem? (i := 422) (by decide +kernel))
theorem tw427 : Cond.methodLink "OneWordLaw" 23 yX11_feed ∈ lw_tbl := List.mem_append_right _ (List.mem_of_getElem? (i := 427) (by decide +kernel))
theorem tw428 : Cond.instanceMethod yX11_feed ∈ lw_tbl := List.mem_append_right _ (List.mem_of_getElem? (i := 428) (by decide +kernel))
theorem tw429 : Cond.selects "OneWord" yX11_feed yX11_feed ∈ lw_tbl := List.mem_append_right _ (List.mem_of_getElem? (i := 429) (by decide +kernel))
theorem tw430 : Cond.code yX11_feed prog_1_method_4_code 6 (Option.some .int) ∈ lw_tbl := List.mem_append_right _ (List.mem_of_getElem? (i := 430) (by decide +kernel))
theorem tw439 : Cond.methodLink "OneWordLaw" 28 yX11_tongue ∈ lw_tbl := List.mem_append_right _ (List.mem_of_getElem? (i := 439) (by decide +kernel))
theorem tw440 : Cond.instanceMethod yX11_tongue ∈ lw_tbl := List.mem_append_right _ (List.mem_of_getElem? (i := 440) (by decide +kernel))
theorem tw441 : Cond.selects "OneWord" yX11_tongue yX11_tongue ∈ lw_tbl := List.mem_append_right _ (List.mem_of_getElem? (i := 441) (by decide +kernel))
theorem tw442 : Cond.code yX11_tongue prog_1_method_5_code 3 (Option.some .int) ∈ lw_tbl := List.mem_append_right _ (List.mem_of_getElem? (i := 442) (by decide +kernel))
theorem tw639 : Cond.methodLink "OneWordLaw" 33 yX11_sentence ∈ lw_tbl := List.mem_append_right _ (List.mem_of_getElem? (i := 639) (by decide +kernel))
theorem tw640 : Cond.instanceMethod yX11_sentence ∈ lw_tbl := List.mem_append_right _ (List.mem_of_getElem? (i := 640) (by decide +kernel))
theorem tw641 : Cond.selects "OneWord" yX11_sentence yX11_sentence ∈ lw_tbl := List.mem_append_right _ (List.mem_of_getElem? (i := 641) (by decide +kernel))
theorem tw642 : Cond.code yX11_sentence prog_1_method_6_code 4 (Option.some .int) ∈ lw_tbl := List.mem_append_right _ (List.mem_of_getElem? (i := 642) (by decide +kernel))
theorem tw654 : Cond.methodLink "OneWordLaw" 38 yX11_say ∈ lw_tbl := List.mem_append_right _ (List.mem_of_getElem? (i := 654) (by decide +kernel))
theorem tw655 : Cond.instanceMethod yX11_say ∈ lw_tbl := List.mem_append_right _ (List.mem_of_getElem? (i := 655) (by decide +kernel))
theorem tw656 : Cond.selects "OneWord" yX11_say yX11_say ∈ lw_tbl := List.mem_append_right _ (List.mem_of_getElem? (i := 656) (by decide +kernel))
theorem tw657 : Cond.code yX11_say prog_1_method_7_code 3 (Option.some .int) ∈ lw_tbl := List.mem_append_right _ (List.mem_of_getElem? (i := 657) (by decide +kernel))
theorem tw666 : Cond.methodLink "OneWordLaw" 42 yX11_heard ∈ lw_tbl := List.mem_append_right _ (List.mem_of_getElem? (i := 666) (by decide +kernel))
theorem tw667 : Cond.instanceMethod yX11_heard ∈ lw_tbl := List.mem_append_right _ (List.mem_of_getElem? (i := 667) (by decide +kernel))
theorem tw668 : Cond.selects "OneWord" yX11_heard yX11_heard ∈ lw_tbl := List.mem_append_right _ (List.mem_of_getElem? (i := 668) (by decide +kernel))
theorem tw669 : Cond.code yX11_heard prog_1_method_8_code 2 (Option.some .int) ∈ lw_tbl := List.mem_append_right _ (List.mem_of_getElem? (i := 669) (by decide +kernel))
theorem tw707 : Cond.methodLink "OneWordLaw" 46 yX11_hearing ∈ lw_tbl := List.mem_append_right _ (List.mem_of_getElem? (i := 707) (by decide +kernel))
theorem tw708 : Cond.instanceMethod yX11_hearing ∈ lw_tbl := List.mem_append_right _ (List.mem_of_getElem? (i := 708) (by decide +kernel))
theorem tw709 : Cond.selects "OneWord" yX11_hearing yX11_hearing ∈ lw_tbl := List.mem_append_right _ (List.mem_of_getElem? (i := 709) (by decide +kernel))
theorem tw710 : Cond.code yX11_hearing prog_1_method_9_code 4 (Option.some .int) ∈ lw_tbl := List.mem_append_right _ (List.mem_of_getElem? (i := 710) (by decide +kernel))
theorem tw759 : Cond.methodLink "OneWordLaw" 50 yX11_way ∈ lw_tbl := List.mem_append_right _ (List.mem_of_getElem? (i := 759) (by decide +kernel))
theorem tw760 : Cond.instanceMethod yX11_way ∈ lw_tbl := List.mem_append_right _ (List.mem_of_getElem? (i := 760) (by decide +kernel))
theorem tw761 : Cond.selects "OneWord" yX11_way yX11_way ∈ lw_tbl := List.mem_append_right _ (List.mem_of_getElem? (i := 761) (by decide +kernel))
theorem tw762 : Cond.code yX11_way prog_1_method_10_code 3 (Option.some .int) ∈ lw_tbl := List.mem_append_right _ (List.mem_of_getElem? (i := 762) (by decide +kernel))
theorem tw764 : Cond.methodLink "OneWordLaw" 54 yX11_meaning ∈ lw_tbl := List.mem_append_right _ (List.mem_of_getElem? (i := 764) (by decide +kernel))
theorem tw765 : Cond.instanceMethod yX11_meaning ∈ lw_tbl := List.mem_append_right _ (List.mem_of_getElem? (i := 765) (by decide +kernel))
theorem tw766 : Cond.selects "OneWord" yX11_meaning yX11_meaning ∈ lw_tbl := List.mem_append_right _ (List.mem_of_getElem? (i := 766) (by decide +kernel))
theorem tw767 : Cond.code yX11_meaning prog_1_method_11_code 6 (Option.some .int) ∈ lw_tbl := List.mem_append_right _ (List.mem_of_getElem? (i := 767) (by decide +kernel))
theorem tw768 : Cond.methodLink "OneWordLaw" 58 yX11_read ∈ lw_tbl := List.mem_append_right _ (List.mem_of_getElem? (i := 768) (by decide +kernel))
theorem tw769 : Cond.instanceMethod yX11_read ∈ lw_tbl := List.mem_append_right _ (List.mem_of_getElem? (i := 769) (by decide +kernel))
theorem tw770 : Cond.selects "OneWord" yX11_read yX11_read ∈ lw_tbl := List.mem_append_right _ (List.mem_of_getElem? (i := 770) (by decide +kernel))
theorem tw771 : Cond.code yX11_read prog_1_method_12_code 6 (Option.some .long) ∈ lw_tbl := List.mem_append_right _ (List.mem_of_getElem? (i := 771) (by decide +kernel))
theorem tw817 : Cond.methodLink "OneWordLaw" 63 yX11_missed ∈ lw_tbl := List.mem_append_right _ (List.mem_of_getElem? (i := 817) (by decide +kernel))
theorem tw818 : Cond.instanceMethod yX11_missed ∈ lw_tbl := List.mem_append_right _ (List.mem_of_getElem? (i := 818) (by decide +kernel))
theorem tw819 : Cond.selects "OneWord" yX11_missed yX11_missed ∈ lw_tbl := List.mem_append_right _ (List.mem_of_getElem? (i := 819) (by decide +kernel))
theorem tw820 : Cond.code yX11_missed prog_1_method_13_code 7 (Option.some .int) ∈ lw_tbl := List.mem_append_right _ (List.mem_of_getElem? (i := 820) (by decide +kernel))
theorem tw846 : Cond.methodLink "OneWordLaw" 68 yX11_soonest ∈ lw_tbl := List.mem_append_right _ (List.mem_of_getElem? (i := 846) (by decide +kernel))
theorem tw847 : Cond.instanceMethod yX11_soonest ∈ lw_tbl := List.mem_append_right _ (List.mem_of_getElem? (i := 847) (by decide +kernel))
theorem tw848 : Cond.selects "OneWord" yX11_soonest yX11_soonest ∈ lw_tbl := List.mem_append_right _ (List.mem_of_getElem? (i := 848) (by decide +kernel))
theorem tw849 : Cond.code yX11_soonest prog_1_method_14_code 6 (Option.some .int) ∈ lw_tbl := List.mem_append_right _ (List.mem_of_getElem? (i := 849) (by decide +kernel))
theorem tw954 : Cond.methodLink "OneWordLaw" 72 yX11_byRules ∈ lw_tbl := List.mem_append_right _ (List.mem_of_getElem? (i := 954) (by decide +kernel))
theorem tw955 : Cond.instanceMethod yX11_byRules ∈ lw_tbl := List.mem_append_right _ (List.mem_of_getElem? (i := 955) (by decide +kernel))
theorem tw956 : Cond.selects "OneWord" yX11_byRules yX11_byRules ∈ lw_tbl := List.mem_append_right _ (List.mem_of_getElem? (i := 956) (by decide +kernel))
theorem tw957 : Cond.code yX11_byRules prog_1_method_15_code 4 (Option.some .int) ∈ lw_tbl := List.mem_append_right _ (List.mem_of_getElem? (i := 957) (by decide +kernel))
theorem tw984 : Cond.methodLink "OneWordLaw" 76 yX11_table ∈ lw_tbl := List.mem_append_right _ (List.mem_of_getElem? (i := 984) (by decide +kernel))
theorem tw985 : Cond.instanceMethod yX11_table ∈ lw_tbl := List.mem_append_right _ (List.mem_of_getElem? (i := 985) (by decide +kernel))
theorem tw986 : Cond.selects "OneWord" yX11_table yX11_table ∈ lw_tbl := List.mem_append_right _ (List.mem_of_getElem? (i := 986) (by decide +kernel))
theorem tw987 : Cond.code yX11_table prog_1_method_16_code 5 (Option.some .int) ∈ lw_tbl := List.mem_append_right _ (List.mem_of_getElem? (i := 987) (by decide +kernel))
theorem tw996 : Cond.methodLink "OneWordLaw" 80 yX11_alike ∈ lw_tbl := List.mem_append_right _ (List.mem_of_getElem? (i := 996) (by decide +kernel))
theorem tw997 : Cond.instanceMethod yX11_alike ∈ lw_tbl := List.mem_append_right _ (List.mem_of_getElem? (i := 997) (by decide +kernel))
theorem tw998 : Cond.selects "OneWord" yX11_alike yX11_alike ∈ lw_tbl := List.mem_append_right _ (List.mem_of_getElem? (i := 998) (by decide +kernel))
theorem tw999 : Cond.code yX11_alike prog_1_method_17_code 4 (Option.some .int) ∈ lw_tbl := List.mem_append_right _ (List.mem_of_getElem? (i := 999) (by decide +kernel))
theorem tw1022 : Cond.methodLink "OneWordLaw" 84 yX11_seed ∈ lw_tbl := List.mem_append_right _ (List.mem_of_getElem? (i := 1022) (by decide +kernel))
theorem tw1023 : Cond.instanceMethod yX11_seed ∈ lw_tbl := List.mem_append_right _ (List.mem_of_getElem? (i := 1023) (by decide +kernel))
theorem tw1024 : Cond.selects "OneWord" yX11_seed yX11_seed ∈ lw_tbl := List.mem_append_right _ (List.mem_of_getElem? (i := 1024) (by decide +kernel))
theorem tw1025 : Cond.code yX11_seed prog_1_method_18_code 2 (Option.some .boolean) ∈ lw_tbl := List.mem_append_right _ (List.mem_of_getElem? (i := 1025) (by decide +kernel))
theorem tw1027 : Cond.methodLink "OneWordLaw" 89 yX11_draw ∈ lw_tbl := List.mem_append_right _ (List.mem_of_getElem? (i := 1027) (by decide +kernel))
theorem tw1028 : Cond.instanceMethod yX11_draw ∈ lw_tbl := List.mem_append_right _ (List.mem_of_getElem? (i := 1028) (by decide +kernel))
theorem tw1029 : Cond.selects "OneWord" yX11_draw yX11_draw ∈ lw_tbl := List.mem_append_right _ (List.mem_of_getElem? (i := 1029) (by decide +kernel))
theorem tw1030 : Cond.code yX11_draw prog_1_method_19_code 2 (Option.some .int) ∈ lw_tbl := List.mem_append_right _ (List.mem_of_getElem? (i := 1030) (by decide +kernel))
theorem tw1042 : Cond.methodLink "OneWordLaw" 93 yX11_keep ∈ lw_tbl := List.mem_append_right _ (List.mem_of_getElem? (i := 1042) (by decide +kernel))
theorem tw1043 : Cond.instanceMethod yX11_keep ∈ lw_tbl := List.mem_append_right _ (List.mem_of_getElem? (i := 1043) (by decide +kernel))
theorem tw1044 : Cond.selects "OneWord" yX11_keep yX11_keep ∈ lw_tbl := List.mem_append_right _ (List.mem_of_getElem? (i := 1044) (by decide +kernel))
theorem tw1045 : Cond.code yX11_keep prog_1_method_20_code 1 (Option.some .int) ∈ lw_tbl := List.mem_append_right _ (List.mem_of_getElem? (i := 1045) (by decide +kernel))
theorem tw1053 : Cond.methodLink "OneWordLaw" 98 yX11_undo ∈ lw_tbl := List.mem_append_right _ (List.mem_of_getElem? (i := 1053) (by decide +kernel))
theorem tw1054 : Cond.instanceMethod yX11_undo ∈ lw_tbl := List.mem_append_right _ (List.mem_of_getElem? (i := 1054) (by decide +kernel))
theorem tw1055 : Cond.selects "OneWord" yX11_undo yX11_undo ∈ lw_tbl := List.mem_append_right _ (List.mem_of_getElem? (i := 1055) (by decide +kernel))
theorem tw1056 : Cond.code yX11_undo prog_1_method_21_code 1 (Option.some .boolean) ∈ lw_tbl := List.mem_append_right _ (List.mem_of_getElem? (i := 1056) (by decide +kernel))
theorem tw1061 : Cond.methodLink "OneWordLaw" 103 yX11_quiet ∈ lw_tbl := List.mem_append_right _ (List.mem_of_getElem? (i := 1061) (by decide +kernel))
theorem tw1062 : Cond.instanceMethod yX11_quiet ∈ lw_tbl := List.mem_append_right _ (List.mem_of_getElem? (i := 1062) (by decide +kernel))
theorem tw1063 : Cond.selects "OneWord" yX11_quiet yX11_quiet ∈ lw_tbl := List.mem_append_right _ (List.mem_of_getElem? (i := 1063) (by decide +kernel))
theorem tw1064 : Cond.code yX11_quiet prog_1_method_22_code 2 (Option.some .int) ∈ lw_tbl := List.mem_append_right _ (List.mem_of_getElem? (i := 1064) (by decide +kernel))
theorem tw1065 : Cond.methodLink "OneWordLaw" 107 yX11_said ∈ lw_tbl := List.mem_append_right _ (List.mem_of_getElem? (i := 1065) (by decide +kernel))
theorem tw1066 : Cond.instanceMethod yX11_said ∈ lw_tbl := List.mem_append_right _ (List.mem_of_getElem? (i := 1066) (by decide +kernel))
theorem tw1067 : Cond.selects "OneWord" yX11_said yX11_said ∈ lw_tbl := List.mem_append_right _ (List.mem_of_getElem? (i := 1067) (by decide +kernel))
theorem tw1068 : Cond.code yX11_said prog_1_method_23_code 3 (Option.some .int) ∈ lw_tbl := List.mem_append_right _ (List.mem_of_getElem? (i := 1068) (by decide +kernel))
theorem tw1079 : Cond.methodLink "OneWordLaw" 111 yX11_check ∈ lw_tbl := List.mem_append_right _ (List.mem_of_getElem? (i := 1079) (by decide +kernel))
theorem tw1080 : Cond.instanceMethod yX11_check ∈ lw_tbl := List.mem_append_right _ (List.mem_of_getElem? (i := 1080) (by decide +kernel))
theorem tw1081 : Cond.selects "OneWord" yX11_check yX11_check ∈ lw_tbl := List.mem_append_right _ (List.mem_of_getElem? (i := 1081) (by decide +kernel))
theorem tw1082 : Cond.code yX11_check prog_1_method_24_code 4 (Option.some .int) ∈ lw_tbl := List.mem_append_right _ (List.mem_of_getElem? (i := 1082) (by decide +kernel))
theorem tw1092 : Cond.methodLink "OneWordLaw" 115 yX11_count ∈ lw_tbl := List.mem_append_right _ (List.mem_of_getElem? (i := 1092) (by decide +kernel))
theorem tw1093 : Cond.instanceMethod yX11_count ∈ lw_tbl := List.mem_append_right _ (List.mem_of_getElem? (i := 1093) (by decide +kernel))
theorem tw1094 : Cond.selects "OneWord" yX11_count yX11_count ∈ lw_tbl := List.mem_append_right _ (List.mem_of_getElem? (i := 1094) (by decide +kernel))
theorem tw1095 : Cond.code yX11_count prog_1_method_25_code 2 (Option.some .int) ∈ lw_tbl := List.mem_append_right _ (List.mem_of_getElem? (i := 1095) (by decide +kernel))
theorem tw1333 : Cond.methodLink "OneWordLaw" 17 yX12_mouth ∈ lw_tbl := List.mem_append_right _ (List.mem_of_getElem? (i := 1333) (by decide +kernel))
theorem tw1334 : Cond.instanceMethod yX12_mouth ∈ lw_tbl := List.mem_append_right _ (List.mem_of_getElem? (i := 1334) (by decide +kernel))
theorem tw1335 : Cond.selects "OneWordModel" yX12_mouth yX12_mouth ∈ lw_tbl := List.mem_append_right _ (List.mem_of_getElem? (i := 1335) (by decide +kernel))
theorem tw1336 : Cond.code yX12_mouth prog_14_method_5_code 4 (Option.some .int) ∈ lw_tbl := List.mem_append_right _ (List.mem_of_getElem? (i := 1336) (by decide +kernel))
theorem tw1343 : Cond.methodLink "OneWordLaw" 22 yX12_air ∈ lw_tbl := List.mem_append_right _ (List.mem_of_getElem? (i := 1343) (by decide +kernel))
theorem tw1344 : Cond.instanceMethod yX12_air ∈ lw_tbl := List.mem_append_right _ (List.mem_of_getElem? (i := 1344) (by decide +kernel))
theorem tw1345 : Cond.selects "OneWordModel" yX12_air yX12_air ∈ lw_tbl := List.mem_append_right _ (List.mem_of_getElem? (i := 1345) (by decide +kernel))
theorem tw1346 : Cond.code yX12_air prog_14_method_6_code 3 (Option.some .boolean) ∈ lw_tbl := List.mem_append_right _ (List.mem_of_getElem? (i := 1346) (by decide +kernel))
theorem tw1349 : Cond.methodLink "OneWordLaw" 27 yX12_feed ∈ lw_tbl := List.mem_append_right _ (List.mem_of_getElem? (i := 1349) (by decide +kernel))
theorem tw1350 : Cond.instanceMethod yX12_feed ∈ lw_tbl := List.mem_append_right _ (List.mem_of_getElem? (i := 1350) (by decide +kernel))
theorem tw1351 : Cond.selects "OneWordModel" yX12_feed yX12_feed ∈ lw_tbl := List.mem_append_right _ (List.mem_of_getElem? (i := 1351) (by decide +kernel))
theorem tw1352 : Cond.code yX12_feed prog_14_method_8_code 6 (Option.some .int) ∈ lw_tbl := List.mem_append_right _ (List.mem_of_getElem? (i := 1352) (by decide +kernel))
theorem tw1357 : Cond.methodLink "OneWordLaw" 32 yX12_tongue ∈ lw_tbl := List.mem_append_right _ (List.mem_of_getElem? (i := 1357) (by decide +kernel))
theorem tw1358 : Cond.instanceMethod yX12_tongue ∈ lw_tbl := List.mem_append_right _ (List.mem_of_getElem? (i := 1358) (by decide +kernel))
theorem tw1359 : Cond.selects "OneWordModel" yX12_tongue yX12_tongue ∈ lw_tbl := List.mem_append_right _ (List.mem_of_getElem? (i := 1359) (by decide +kernel))
theorem tw1360 : Cond.code yX12_tongue prog_14_method_33_code 4 (Option.some .int) ∈ lw_tbl := List.mem_append_right _ (List.mem_of_getElem? (i := 1360) (by decide +kernel))
theorem tw1451 : Cond.methodLink "OneWordLaw" 37 yX12_sentence ∈ lw_tbl := List.mem_append_right _ (List.mem_of_getElem? (i := 1451) (by decide +kernel))
theorem tw1452 : Cond.instanceMethod yX12_sentence ∈ lw_tbl := List.mem_append_right _ (List.mem_of_getElem? (i := 1452) (by decide +kernel))
theorem tw1453 : Cond.selects "OneWordModel" yX12_sentence yX12_sentence ∈ lw_tbl := List.mem_append_right _ (List.mem_of_getElem? (i := 1453) (by decide +kernel))
theorem tw1454 : Cond.code yX12_sentence prog_14_method_40_code 4 (Option.some .int) ∈ lw_tbl := List.mem_append_right _ (List.mem_of_getElem? (i := 1454) (by decide +kernel))
theorem tw1465 : Cond.methodLink "OneWordLaw" 41 yX12_say ∈ lw_tbl := List.mem_append_right _ (List.mem_of_getElem? (i := 1465) (by decide +kernel))
theorem tw1470 : Cond.methodLink "OneWordLaw" 53 yX12_way ∈ lw_tbl := List.mem_append_right _ (List.mem_of_getElem? (i := 1470) (by decide +kernel))
theorem tw1471 : Cond.instanceMethod yX12_way ∈ lw_tbl := List.mem_append_right _ (List.mem_of_getElem? (i := 1471) (by decide +kernel))
theorem tw1472 : Cond.selects "OneWordModel" yX12_way yX12_way ∈ lw_tbl := List.mem_append_right _ (List.mem_of_getElem? (i := 1472) (by decide +kernel))
theorem tw1473 : Cond.code yX12_way prog_14_method_44_code 3 (Option.some .int) ∈ lw_tbl := List.mem_append_right _ (List.mem_of_getElem? (i := 1473) (by decide +kernel))
theorem tw1481 : Cond.methodLink "OneWordLaw" 45 yX12_heard ∈ lw_tbl := List.mem_append_right _ (List.mem_of_getElem? (i := 1481) (by decide +kernel))
theorem tw1482 : Cond.instanceMethod yX12_heard ∈ lw_tbl := List.mem_append_right _ (List.mem_of_getElem? (i := 1482) (by decide +kernel))
theorem tw1483 : Cond.selects "OneWordModel" yX12_heard yX12_heard ∈ lw_tbl := List.mem_append_right _ (List.mem_of_getElem? (i := 1483) (by decide +kernel))
theorem tw1484 : Cond.code yX12_heard prog_14_method_51_code 2 (Option.some .int) ∈ lw_tbl := List.mem_append_right _ (List.mem_of_getElem? (i := 1484) (by decide +kernel))
theorem tw1501 : Cond.methodLink "OneWordLaw" 49 yX12_hearing ∈ lw_tbl := List.mem_append_right _ (List.mem_of_getElem? (i := 1501) (by decide +kernel))
theorem tw1502 : Cond.instanceMethod yX12_hearing ∈ lw_tbl := List.mem_append_right _ (List.mem_of_getElem? (i := 1502) (by decide +kernel))
theorem tw1503 : Cond.selects "OneWordModel" yX12_hearing yX12_hearing ∈ lw_tbl := List.mem_append_right _ (List.mem_of_getElem? (i := 1503) (by decide +kernel))
theorem tw1504 : Cond.code yX12_hearing prog_14_method_52_code 4 (Option.some .int) ∈ lw_tbl := List.mem_append_right _ (List.mem_of_getElem? (i := 1504) (by decide +kernel))
theorem tw1537 : Cond.methodLink "OneWordLaw" 57 yX12_meaning ∈ lw_tbl := List.mem_append_right _ (List.mem_of_getElem? (i := 1537) (by decide +kernel))
theorem tw1538 : Cond.instanceMethod yX12_meaning ∈ lw_tbl := List.mem_append_right _ (List.mem_of_getElem? (i := 1538) (by decide +kernel))
theorem tw1539 : Cond.selects "OneWordModel" yX12_meaning yX12_meaning ∈ lw_tbl := List.mem_append_right _ (List.mem_of_getElem? (i := 1539) (by decide +kernel))
theorem tw1540 : Cond.code yX12_meaning prog_14_method_53_code 6 (Option.some .int) ∈ lw_tbl := List.mem_append_right _ (List.mem_of_getElem? (i := 1540) (by decide +kernel))
theorem tw1543 : Cond.methodLink "OneWordLaw" 110 yX12_said ∈ lw_tbl := List.mem_append_right _ (List.mem_of_getElem? (i := 1543) (by decide +kernel))
theorem tw1544 : Cond.instanceMethod yX12_said ∈ lw_tbl := List.mem_append_right _ (List.mem_of_getElem? (i := 1544) (by decide +kernel))
theorem tw1545 : Cond.selects "OneWordModel" yX12_said yX12_said ∈ lw_tbl := List.mem_append_right _ (List.mem_of_getElem? (i := 1545) (by decide +kernel))
theorem tw1546 : Cond.code yX12_said prog_14_method_54_code 7 (Option.some .int) ∈ lw_tbl := List.mem_append_right _ (List.mem_of_getElem? (i := 1546) (by decide +kernel))
theorem tw1548 : Cond.methodLink "OneWordLaw" 62 yX12_read ∈ lw_tbl := List.mem_append_right _ (List.mem_of_getElem? (i := 1548) (by decide +kernel))
theorem tw1549 : Cond.instanceMethod yX12_read ∈ lw_tbl := List.mem_append_right _ (List.mem_of_getElem? (i := 1549) (by decide +kernel))
theorem tw1550 : Cond.selects "OneWordModel" yX12_read yX12_read ∈ lw_tbl := List.mem_append_right _ (List.mem_of_getElem? (i := 1550) (by decide +kernel))
theorem tw1551 : Cond.code yX12_read prog_14_method_58_code 7 (Option.some .long) ∈ lw_tbl := List.mem_append_right _ (List.mem_of_getElem? (i := 1551) (by decide +kernel))
theorem tw1568 : Cond.methodLink "OneWordLaw" 67 yX12_missed ∈ lw_tbl := List.mem_append_right _ (List.mem_of_getElem? (i := 1568) (by decide +kernel))
theorem tw1569 : Cond.instanceMethod yX12_missed ∈ lw_tbl := List.mem_append_right _ (List.mem_of_getElem? (i := 1569) (by decide +kernel))
theorem tw1570 : Cond.selects "OneWordModel" yX12_missed yX12_missed ∈ lw_tbl := List.mem_append_right _ (List.mem_of_getElem? (i := 1570) (by decide +kernel))
theorem tw1571 : Cond.code yX12_missed prog_14_method_60_code 10 (Option.some .int) ∈ lw_tbl := List.mem_append_right _ (List.mem_of_getElem? (i := 1571) (by decide +kernel))
theorem tw1577 : Cond.methodLink "OneWordLaw" 71 yX12_soonest ∈ lw_tbl := List.mem_append_right _ (List.mem_of_getElem? (i := 1577) (by decide +kernel))
theorem tw1578 : Cond.instanceMethod yX12_soonest ∈ lw_tbl := List.mem_append_right _ (List.mem_of_getElem? (i := 1578) (by decide +kernel))
theorem tw1579 : Cond.selects "OneWordModel" yX12_soonest yX12_soonest ∈ lw_tbl := List.mem_append_right _ (List.mem_of_getElem? (i := 1579) (by decide +kernel))
theorem tw1580 : Cond.code yX12_soonest prog_14_method_79_code 5 (Option.some .int) ∈ lw_tbl := List.mem_append_right _ (List.mem_of_getElem? (i := 1580) (by decide +kernel))
theorem tw1650 : Cond.methodLink "OneWordLaw" 75 yX12_byRules ∈ lw_tbl := List.mem_append_right _ (List.mem_of_getElem? (i := 1650) (by decide +kernel))
theorem tw1651 : Cond.instanceMethod yX12_byRules ∈ lw_tbl := List.mem_append_right _ (List.mem_of_getElem? (i := 1651) (by decide +kernel))
theorem tw1652 : Cond.selects "OneWordModel" yX12_byRules yX12_byRules ∈ lw_tbl := List.mem_append_right _ (List.mem_of_getElem? (i := 1652) (by decide +kernel))
theorem tw1653 : Cond.code yX12_byRules prog_14_method_82_code 17 (Option.some .int) ∈ lw_tbl := List.mem_append_right _ (List.mem_of_getElem? (i := 1653) (by decide +kernel))
theorem tw1663 : Cond.methodLink "OneWordLaw" 79 yX12_table ∈ lw_tbl := List.mem_append_right _ (List.mem_of_getElem? (i := 1663) (by decide +kernel))
theorem tw1664 : Cond.instanceMethod yX12_table ∈ lw_tbl := List.mem_append_right _ (List.mem_of_getElem? (i := 1664) (by decide +kernel))
theorem tw1665 : Cond.selects "OneWordModel" yX12_table yX12_table ∈ lw_tbl := List.mem_append_right _ (List.mem_of_getElem? (i := 1665) (by decide +kernel))
theorem tw1666 : Cond.code yX12_table prog_14_method_83_code 8 (Option.some .int) ∈ lw_tbl := List.mem_append_right _ (List.mem_of_getElem? (i := 1666) (by decide +kernel))
theorem tw1668 : Cond.methodLink "OneWordLaw" 83 yX12_alike ∈ lw_tbl := List.mem_append_right _ (List.mem_of_getElem? (i := 1668) (by decide +kernel))
theorem tw1669 : Cond.instanceMethod yX12_alike ∈ lw_tbl := List.mem_append_right _ (List.mem_of_getElem? (i := 1669) (by decide +kernel))
theorem tw1670 : Cond.selects "OneWordModel" yX12_alike yX12_alike ∈ lw_tbl := List.mem_append_right _ (List.mem_of_getElem? (i := 1670) (by decide +kernel))
theorem tw1671 : Cond.code yX12_alike prog_14_method_85_code 9 (Option.some .int) ∈ lw_tbl := List.mem_append_right _ (List.mem_of_getElem? (i := 1671) (by decide +kernel))
theorem tw1676 : Cond.methodLink "OneWordLaw" 88 yX12_seed ∈ lw_tbl := List.mem_append_right _ (List.mem_of_getElem? (i := 1676) (by decide +kernel))
theorem tw1677 : Cond.instanceMethod yX12_seed ∈ lw_tbl := List.mem_append_right _ (List.mem_of_getElem? (i := 1677) (by decide +kernel))
theorem tw1678 : Cond.selects "OneWordModel" yX12_seed yX12_seed ∈ lw_tbl := List.mem_append_right _ (List.mem_of_getElem? (i := 1678) (by decide +kernel))
theorem tw1679 : Cond.code yX12_seed prog_14_method_86_code 2 (Option.some .boolean) ∈ lw_tbl := List.mem_append_right _ (List.mem_of_getElem? (i := 1679) (by decide +kernel))
theorem tw1681 : Cond.methodLink "OneWordLaw" 92 yX12_draw ∈ lw_tbl := List.mem_append_right _ (List.mem_of_getElem? (i := 1681) (by decide +kernel))
theorem tw1682 : Cond.instanceMethod yX12_draw ∈ lw_tbl := List.mem_append_right _ (List.mem_of_getElem? (i := 1682) (by decide +kernel))
theorem tw1683 : Cond.selects "OneWordModel" yX12_draw yX12_draw ∈ lw_tbl := List.mem_append_right _ (List.mem_of_getElem? (i := 1683) (by decide +kernel))
theorem tw1684 : Cond.code yX12_draw prog_14_method_87_code 7 (Option.some .int) ∈ lw_tbl := List.mem_append_right _ (List.mem_of_getElem? (i := 1684) (by decide +kernel))
theorem tw1687 : Cond.methodLink "OneWordLaw" 97 yX12_keep ∈ lw_tbl := List.mem_append_right _ (List.mem_of_getElem? (i := 1687) (by decide +kernel))
theorem tw1688 : Cond.instanceMethod yX12_keep ∈ lw_tbl := List.mem_append_right _ (List.mem_of_getElem? (i := 1688) (by decide +kernel))
theorem tw1689 : Cond.selects "OneWordModel" yX12_keep yX12_keep ∈ lw_tbl := List.mem_append_right _ (List.mem_of_getElem? (i := 1689) (by decide +kernel))
theorem tw1690 : Cond.code yX12_keep prog_14_method_88_code 2 (Option.some .int) ∈ lw_tbl := List.mem_append_right _ (List.mem_of_getElem? (i := 1690) (by decide +kernel))
theorem tw1691 : Cond.methodLink "OneWordLaw" 102 yX12_undo ∈ lw_tbl := List.mem_append_right _ (List.mem_of_getElem? (i := 1691) (by decide +kernel))
theorem tw1692 : Cond.instanceMethod yX12_undo ∈ lw_tbl := List.mem_append_right _ (List.mem_of_getElem? (i := 1692) (by decide +kernel))
theorem tw1693 : Cond.selects "OneWordModel" yX12_undo yX12_undo ∈ lw_tbl := List.mem_append_right _ (List.mem_of_getElem? (i := 1693) (by decide +kernel))
theorem tw1694 : Cond.code yX12_undo prog_14_method_89_code 2 (Option.some .boolean) ∈ lw_tbl := List.mem_append_right _ (List.mem_of_getElem? (i := 1694) (by decide +kernel))
theorem tw1695 : Cond.methodLink "OneWordLaw" 106 yX12_quiet ∈ lw_tbl := List.mem_append_right _ (List.mem_of_getElem? (i := 1695) (by decide +kernel))
theorem tw1696 : Cond.instanceMethod yX12_quiet ∈ lw_tbl := List.mem_append_right _ (List.mem_of_getElem? (i := 1696) (by decide +kernel))
theorem tw1697 : Cond.selects "OneWordModel" yX12_quiet yX12_quiet ∈ lw_tbl := List.mem_append_right _ (List.mem_of_getElem? (i := 1697) (by decide +kernel))
theorem tw1698 : Cond.code yX12_quiet prog_14_method_90_code 2 (Option.some .int) ∈ lw_tbl := List.mem_append_right _ (List.mem_of_getElem? (i := 1698) (by decide +kernel))
theorem tw1699 : Cond.methodLink "OneWordLaw" 114 yX12_check ∈ lw_tbl := List.mem_append_right _ (List.mem_of_getElem? (i := 1699) (by decide +kernel))
theorem tw1700 : Cond.instanceMethod yX12_check ∈ lw_tbl := List.mem_append_right _ (List.mem_of_getElem? (i := 1700) (by decide +kernel))
theorem tw1701 : Cond.selects "OneWordModel" yX12_check yX12_check ∈ lw_tbl := List.mem_append_right _ (List.mem_of_getElem? (i := 1701) (by decide +kernel))
theorem tw1702 : Cond.code yX12_check prog_14_method_92_code 4 (Option.some .int) ∈ lw_tbl := List.mem_append_right _ (List.mem_of_getElem? (i := 1702) (by decide +kernel))
theorem tw1707 : Cond.methodLink "OneWordLaw" 118 yX12_count ∈ lw_tbl := List.mem_append_right _ (List.mem_of_getElem? (i := 1707) (by decide +kernel))
theorem tw1708 : Cond.instanceMethod yX12_count ∈ lw_tbl := List.mem_append_right _ (List.mem_of_getElem? (i := 1708) (by decide +kernel))
theorem tw1709 : Cond.selects "OneWordModel" yX12_count yX12_count ∈ lw_tbl := List.mem_append_right _ (List.mem_of_getElem? (i := 1709) (by decide +kernel))
theorem tw1710 : Cond.code yX12_count prog_14_method_93_code 2 (Option.some .int) ∈ lw_tbl := List.mem_append_right _ (List.mem_of_getElem? (i := 1710) (by decide +kernel))
theorem dL_law_0 : decode cL_law 0 = .ok (.new 7, 3) := by decide +kernel
theorem dL_law_3 : decode cL_law 3 = .ok (.dup, 1) := by decide +kernel
theorem dL_law_4 : decode cL_law 4 = .ok (.invokespecial 9, 3) := by decide +kernel
theorem dL_law_7 : decode cL_law 7 = .ok (.astore_n 1, 1) := by decide +kernel
theorem dL_law_8 : decode cL_law 8 = .ok (.new 10, 3) := by decide +kernel
theorem dL_law_11 : decode cL_law 11 = .ok (.dup, 1) := by decide +kernel
theorem dL_law_12 : decode cL_law 12 = .ok (.invokespecial 12, 3) := by decide +kernel
theorem dL_law_15 : decode cL_law 15 = .ok (.astore_n 2, 1) := by decide +kernel
theorem dL_law_16 : decode cL_law 16 = .ok (.iconst 0, 1) := by decide +kernel
theorem dL_law_17 : decode cL_law 17 = .ok (.istore_n 3, 1) := by decide +kernel
theorem dL_law_18 : decode cL_law 18 = .ok (.iload_n 3, 1) := by decide +kernel
theorem dL_law_19 : decode cL_law 19 = .ok (.aload_n 0, 1) := by decide +kernel
theorem dL_law_20 : decode cL_law 20 = .ok (.arraylength, 1) := by decide +kernel
theorem dL_law_21 : decode cL_law 21 = .ok (.bipush 6, 2) := by decide +kernel
theorem dL_law_23 : decode cL_law 23 = .ok (.isub, 1) := by decide +kernel
theorem dL_law_24 : decode cL_law 24 = .ok (.if_icmp .gt 939, 3) := by decide +kernel
theorem dL_law_27 : decode cL_law 27 = .ok (.aload_n 0, 1) := by decide +kernel
theorem dL_law_28 : decode cL_law 28 = .ok (.iload_n 3, 1) := by decide +kernel
theorem dL_law_29 : decode cL_law 29 = .ok (.iaload, 1) := by decide +kernel
theorem dL_law_30 : decode cL_law 30 = .ok (.bipush 31, 2) := by decide +kernel
theorem dL_law_32 : decode cL_law 32 = .ok (.iand, 1) := by decide +kernel
theorem dL_law_33 : decode cL_law 33 = .ok (.tableswitch 924 0 23 #[111, 154, 187, 250, 273, 306, 339, 362, 405, 438, 501, 545, 598, 631, 674, 717, 750, 773, 796, 809, 822, 835, 868, 901], 111) := by decide +kernel
theorem dL_law_144 : decode cL_law 144 = .ok (.aload_n 1, 1) := by decide +kernel
theorem dL_law_145 : decode cL_law 145 = .ok (.aload_n 0, 1) := by decide +kernel
theorem dL_law_146 : decode cL_law 146 = .ok (.iload_n 3, 1) := by decide +kernel
theorem dL_law_147 : decode cL_law 147 = .ok (.iconst 1, 1) := by decide +kernel
theorem dL_law_148 : decode cL_law 148 = .ok (.iadd, 1) := by decide +kernel
theorem dL_law_149 : decode cL_law 149 = .ok (.iaload, 1) := by decide +kernel
theorem dL_law_150 : decode cL_law 150 = .ok (.aload_n 0, 1) := by decide +kernel
theorem dL_law_151 : decode cL_law 151 = .ok (.iload_n 3, 1) := by decide +kernel
theorem dL_law_152 : decode cL_law 152 = .ok (.iconst 2, 1) := by decide +kernel
theorem dL_law_153 : decode cL_law 153 = .ok (.iadd, 1) := by decide +kernel
theorem dL_law_154 : decode cL_law 154 = .ok (.iaload, 1) := by decide +kernel
theorem dL_law_155 : decode cL_law 155 = .ok (.aload_n 0, 1) := by decide +kernel
theorem dL_law_156 : decode cL_law 156 = .ok (.iload_n 3, 1) := by decide +kernel
theorem dL_law_157 : decode cL_law 157 = .ok (.iconst 3, 1) := by decide +kernel
theorem dL_law_158 : decode cL_law 158 = .ok (.iadd, 1) := by decide +kernel
theorem dL_law_159 : decode cL_law 159 = .ok (.iaload, 1) := by decide +kernel
theorem dL_law_160 : decode cL_law 160 = .ok (.invokevirtual 13, 3) := by decide +kernel
theorem dL_law_163 : decode cL_law 163 = .ok (.aload_n 2, 1) := by decide +kernel
theorem dL_law_164 : decode cL_law 164 = .ok (.aload_n 0, 1) := by decide +kernel
theorem dL_law_165 : decode cL_law 165 = .ok (.iload_n 3, 1) := by decide +kernel
theorem dL_law_166 : decode cL_law 166 = .ok (.iconst 1, 1) := by decide +kernel
theorem dL_law_167 : decode cL_law 167 = .ok (.iadd, 1) := by decide +kernel
theorem dL_law_168 : decode cL_law 168 = .ok (.iaload, 1) := by decide +kernel
theorem dL_law_169 : decode cL_law 169 = .ok (.aload_n 0, 1) := by decide +kernel
theorem dL_law_170 : decode cL_law 170 = .ok (.iload_n 3, 1) := by decide +kernel
theorem dL_law_171 : decode cL_law 171 = .ok (.iconst 2, 1) := by decide +kernel
theorem dL_law_172 : decode cL_law 172 = .ok (.iadd, 1) := by decide +kernel
theorem dL_law_173 : decode cL_law 173 = .ok (.iaload, 1) := by decide +kernel
theorem dL_law_174 : decode cL_law 174 = .ok (.aload_n 0, 1) := by decide +kernel
theorem dL_law_175 : decode cL_law 175 = .ok (.iload_n 3, 1) := by decide +kernel
theorem dL_law_176 : decode cL_law 176 = .ok (.iconst 3, 1) := by decide +kernel
theorem dL_law_177 : decode cL_law 177 = .ok (.iadd, 1) := by decide +kernel
theorem dL_law_178 : decode cL_law 178 = .ok (.iaload, 1) := by decide +kernel
theorem dL_law_179 : decode cL_law 179 = .ok (.invokevirtual 17, 3) := by decide +kernel
theorem dL_law_182 : decode cL_law 182 = .ok (.if_icmp .eq 775, 3) := by decide +kernel
theorem dL_law_185 : decode cL_law 185 = .ok (.iconst 0, 1) := by decide +kernel
theorem dL_law_186 : decode cL_law 186 = .ok (.ireturn, 1) := by decide +kernel
theorem dL_law_187 : decode cL_law 187 = .ok (.aload_n 1, 1) := by decide +kernel
theorem dL_law_188 : decode cL_law 188 = .ok (.aload_n 0, 1) := by decide +kernel
theorem dL_law_189 : decode cL_law 189 = .ok (.iload_n 3, 1) := by decide +kernel
theorem dL_law_190 : decode cL_law 190 = .ok (.iconst 1, 1) := by decide +kernel
theorem dL_law_191 : decode cL_law 191 = .ok (.iadd, 1) := by decide +kernel
theorem dL_law_192 : decode cL_law 192 = .ok (.iaload, 1) := by decide +kernel
theorem dL_law_193 : decode cL_law 193 = .ok (.aload_n 0, 1) := by decide +kernel
theorem dL_law_194 : decode cL_law 194 = .ok (.iload_n 3, 1) := by decide +kernel
theorem dL_law_195 : decode cL_law 195 = .ok (.iconst 2, 1) := by decide +kernel
theorem dL_law_196 : decode cL_law 196 = .ok (.iadd, 1) := by decide +kernel
theorem dL_law_197 : decode cL_law 197 = .ok (.iaload, 1) := by decide +kernel
theorem dL_law_198 : decode cL_law 198 = .ok (.invokevirtual 18, 3) := by decide +kernel
theorem dL_law_201 : decode cL_law 201 = .ok (.aload_n 2, 1) := by decide +kernel
theorem dL_law_202 : decode cL_law 202 = .ok (.aload_n 0, 1) := by decide +kernel
theorem dL_law_203 : decode cL_law 203 = .ok (.iload_n 3, 1) := by decide +kernel
theorem dL_law_204 : decode cL_law 204 = .ok (.iconst 1, 1) := by decide +kernel
theorem dL_law_205 : decode cL_law 205 = .ok (.iadd, 1) := by decide +kernel
theorem dL_law_206 : decode cL_law 206 = .ok (.iaload, 1) := by decide +kernel
theorem dL_law_207 : decode cL_law 207 = .ok (.aload_n 0, 1) := by decide +kernel
theorem dL_law_208 : decode cL_law 208 = .ok (.iload_n 3, 1) := by decide +kernel
theorem dL_law_209 : decode cL_law 209 = .ok (.iconst 2, 1) := by decide +kernel
theorem dL_law_210 : decode cL_law 210 = .ok (.iadd, 1) := by decide +kernel
theorem dL_law_211 : decode cL_law 211 = .ok (.iaload, 1) := by decide +kernel
theorem dL_law_212 : decode cL_law 212 = .ok (.invokevirtual 22, 3) := by decide +kernel
theorem dL_law_215 : decode cL_law 215 = .ok (.if_icmp .eq 742, 3) := by decide +kernel
theorem dL_law_218 : decode cL_law 218 = .ok (.iconst 0, 1) := by decide +kernel
theorem dL_law_219 : decode cL_law 219 = .ok (.ireturn, 1) := by decide +kernel
theorem dL_law_220 : decode cL_law 220 = .ok (.aload_n 1, 1) := by decide +kernel
theorem dL_law_221 : decode cL_law 221 = .ok (.aload_n 0, 1) := by decide +kernel
theorem dL_law_222 : decode cL_law 222 = .ok (.iload_n 3, 1) := by decide +kernel
theorem dL_law_223 : decode cL_law 223 = .ok (.iconst 1, 1) := by decide +kernel
theorem dL_law_224 : decode cL_law 224 = .ok (.iadd, 1) := by decide +kernel
theorem dL_law_225 : decode cL_law 225 = .ok (.iaload, 1) := by decide +kernel
theorem dL_law_226 : decode cL_law 226 = .ok (.aload_n 0, 1) := by decide +kernel
theorem dL_law_227 : decode cL_law 227 = .ok (.iload_n 3, 1) := by decide +kernel
theorem dL_law_228 : decode cL_law 228 = .ok (.iconst 2, 1) := by decide +kernel
theorem dL_law_229 : decode cL_law 229 = .ok (.iadd, 1) := by decide +kernel
theorem dL_law_230 : decode cL_law 230 = .ok (.iaload, 1) := by decide +kernel
theorem dL_law_231 : decode cL_law 231 = .ok (.aload_n 0, 1) := by decide +kernel
theorem dL_law_232 : decode cL_law 232 = .ok (.iload_n 3, 1) := by decide +kernel
theorem dL_law_233 : decode cL_law 233 = .ok (.iconst 3, 1) := by decide +kernel
theorem dL_law_234 : decode cL_law 234 = .ok (.iadd, 1) := by decide +kernel
theorem dL_law_235 : decode cL_law 235 = .ok (.iaload, 1) := by decide +kernel
theorem dL_law_236 : decode cL_law 236 = .ok (.aload_n 0, 1) := by decide +kernel
theorem dL_law_237 : decode cL_law 237 = .ok (.iload_n 3, 1) := by decide +kernel
theorem dL_law_238 : decode cL_law 238 = .ok (.iconst 4, 1) := by decide +kernel
theorem dL_law_239 : decode cL_law 239 = .ok (.iadd, 1) := by decide +kernel
theorem dL_law_240 : decode cL_law 240 = .ok (.iaload, 1) := by decide +kernel
theorem dL_law_241 : decode cL_law 241 = .ok (.aload_n 0, 1) := by decide +kernel
theorem dL_law_242 : decode cL_law 242 = .ok (.iload_n 3, 1) := by decide +kernel
theorem dL_law_243 : decode cL_law 243 = .ok (.iconst 5, 1) := by decide +kernel
theorem dL_law_244 : decode cL_law 244 = .ok (.iadd, 1) := by decide +kernel
theorem dL_law_245 : decode cL_law 245 = .ok (.iaload, 1) := by decide +kernel
theorem dL_law_246 : decode cL_law 246 = .ok (.invokevirtual 23, 3) := by decide +kernel
theorem dL_law_249 : decode cL_law 249 = .ok (.aload_n 2, 1) := by decide +kernel
theorem dL_law_250 : decode cL_law 250 = .ok (.aload_n 0, 1) := by decide +kernel
theorem dL_law_251 : decode cL_law 251 = .ok (.iload_n 3, 1) := by decide +kernel
theorem dL_law_252 : decode cL_law 252 = .ok (.iconst 1, 1) := by decide +kernel
theorem dL_law_253 : decode cL_law 253 = .ok (.iadd, 1) := by decide +kernel
theorem dL_law_254 : decode cL_law 254 = .ok (.iaload, 1) := by decide +kernel
theorem dL_law_255 : decode cL_law 255 = .ok (.aload_n 0, 1) := by decide +kernel
theorem dL_law_256 : decode cL_law 256 = .ok (.iload_n 3, 1) := by decide +kernel
theorem dL_law_257 : decode cL_law 257 = .ok (.iconst 2, 1) := by decide +kernel
theorem dL_law_258 : decode cL_law 258 = .ok (.iadd, 1) := by decide +kernel
theorem dL_law_259 : decode cL_law 259 = .ok (.iaload, 1) := by decide +kernel
theorem dL_law_260 : decode cL_law 260 = .ok (.aload_n 0, 1) := by decide +kernel
theorem dL_law_261 : decode cL_law 261 = .ok (.iload_n 3, 1) := by decide +kernel
theorem dL_law_262 : decode cL_law 262 = .ok (.iconst 3, 1) := by decide +kernel
theorem dL_law_263 : decode cL_law 263 = .ok (.iadd, 1) := by decide +kernel
theorem dL_law_264 : decode cL_law 264 = .ok (.iaload, 1) := by decide +kernel
theorem dL_law_265 : decode cL_law 265 = .ok (.aload_n 0, 1) := by decide +kernel
theorem dL_law_266 : decode cL_law 266 = .ok (.iload_n 3, 1) := by decide +kernel
theorem dL_law_267 : decode cL_law 267 = .ok (.iconst 4, 1) := by decide +kernel
theorem dL_law_268 : decode cL_law 268 = .ok (.iadd, 1) := by decide +kernel
theorem dL_law_269 : decode cL_law 269 = .ok (.iaload, 1) := by decide +kernel
theorem dL_law_270 : decode cL_law 270 = .ok (.aload_n 0, 1) := by decide +kernel
theorem dL_law_271 : decode cL_law 271 = .ok (.iload_n 3, 1) := by decide +kernel
theorem dL_law_272 : decode cL_law 272 = .ok (.iconst 5, 1) := by decide +kernel
theorem dL_law_273 : decode cL_law 273 = .ok (.iadd, 1) := by decide +kernel
theorem dL_law_274 : decode cL_law 274 = .ok (.iaload, 1) := by decide +kernel
theorem dL_law_275 : decode cL_law 275 = .ok (.invokevirtual 27, 3) := by decide +kernel
theorem dL_law_278 : decode cL_law 278 = .ok (.if_icmp .eq 679, 3) := by decide +kernel
theorem dL_law_281 : decode cL_law 281 = .ok (.iconst 0, 1) := by decide +kernel
theorem dL_law_282 : decode cL_law 282 = .ok (.ireturn, 1) := by decide +kernel
theorem dL_law_283 : decode cL_law 283 = .ok (.aload_n 1, 1) := by decide +kernel
theorem dL_law_284 : decode cL_law 284 = .ok (.aload_n 0, 1) := by decide +kernel
theorem dL_law_285 : decode cL_law 285 = .ok (.iload_n 3, 1) := by decide +kernel
theorem dL_law_286 : decode cL_law 286 = .ok (.iconst 1, 1) := by decide +kernel
theorem dL_law_287 : decode cL_law 287 = .ok (.iadd, 1) := by decide +kernel
theorem dL_law_288 : decode cL_law 288 = .ok (.iaload, 1) := by decide +kernel
theorem dL_law_289 : decode cL_law 289 = .ok (.invokevirtual 28, 3) := by decide +kernel
theorem dL_law_292 : decode cL_law 292 = .ok (.aload_n 2, 1) := by decide +kernel
theorem dL_law_293 : decode cL_law 293 = .ok (.aload_n 0, 1) := by decide +kernel
theorem dL_law_294 : decode cL_law 294 = .ok (.iload_n 3, 1) := by decide +kernel
theorem dL_law_295 : decode cL_law 295 = .ok (.iconst 1, 1) := by decide +kernel
theorem dL_law_296 : decode cL_law 296 = .ok (.iadd, 1) := by decide +kernel
theorem dL_law_297 : decode cL_law 297 = .ok (.iaload, 1) := by decide +kernel
theorem dL_law_298 : decode cL_law 298 = .ok (.invokevirtual 32, 3) := by decide +kernel
theorem dL_law_301 : decode cL_law 301 = .ok (.if_icmp .eq 656, 3) := by decide +kernel
theorem dL_law_304 : decode cL_law 304 = .ok (.iconst 0, 1) := by decide +kernel
theorem dL_law_305 : decode cL_law 305 = .ok (.ireturn, 1) := by decide +kernel
theorem dL_law_306 : decode cL_law 306 = .ok (.aload_n 1, 1) := by decide +kernel
theorem dL_law_307 : decode cL_law 307 = .ok (.aload_n 0, 1) := by decide +kernel
theorem dL_law_308 : decode cL_law 308 = .ok (.iload_n 3, 1) := by decide +kernel
theorem dL_law_309 : decode cL_law 309 = .ok (.iconst 1, 1) := by decide +kernel
theorem dL_law_310 : decode cL_law 310 = .ok (.iadd, 1) := by decide +kernel
theorem dL_law_311 : decode cL_law 311 = .ok (.iaload, 1) := by decide +kernel
theorem dL_law_312 : decode cL_law 312 = .ok (.aload_n 0, 1) := by decide +kernel
theorem dL_law_313 : decode cL_law 313 = .ok (.iload_n 3, 1) := by decide +kernel
theorem dL_law_314 : decode cL_law 314 = .ok (.iconst 2, 1) := by decide +kernel
theorem dL_law_315 : decode cL_law 315 = .ok (.iadd, 1) := by decide +kernel
theorem dL_law_316 : decode cL_law 316 = .ok (.iaload, 1) := by decide +kernel
theorem dL_law_317 : decode cL_law 317 = .ok (.invokevirtual 33, 3) := by decide +kernel
theorem dL_law_320 : decode cL_law 320 = .ok (.aload_n 2, 1) := by decide +kernel
theorem dL_law_321 : decode cL_law 321 = .ok (.aload_n 0, 1) := by decide +kernel
theorem dL_law_322 : decode cL_law 322 = .ok (.iload_n 3, 1) := by decide +kernel
theorem dL_law_323 : decode cL_law 323 = .ok (.iconst 1, 1) := by decide +kernel
theorem dL_law_324 : decode cL_law 324 = .ok (.iadd, 1) := by decide +kernel
theorem dL_law_325 : decode cL_law 325 = .ok (.iaload, 1) := by decide +kernel
theorem dL_law_326 : decode cL_law 326 = .ok (.aload_n 0, 1) := by decide +kernel
theorem dL_law_327 : decode cL_law 327 = .ok (.iload_n 3, 1) := by decide +kernel
theorem dL_law_328 : decode cL_law 328 = .ok (.iconst 2, 1) := by decide +kernel
theorem dL_law_329 : decode cL_law 329 = .ok (.iadd, 1) := by decide +kernel
theorem dL_law_330 : decode cL_law 330 = .ok (.iaload, 1) := by decide +kernel
theorem dL_law_331 : decode cL_law 331 = .ok (.invokevirtual 37, 3) := by decide +kernel
theorem dL_law_334 : decode cL_law 334 = .ok (.if_icmp .eq 623, 3) := by decide +kernel
theorem dL_law_337 : decode cL_law 337 = .ok (.iconst 0, 1) := by decide +kernel
theorem dL_law_338 : decode cL_law 338 = .ok (.ireturn, 1) := by decide +kernel
theorem dL_law_339 : decode cL_law 339 = .ok (.aload_n 1, 1) := by decide +kernel
theorem dL_law_340 : decode cL_law 340 = .ok (.aload_n 0, 1) := by decide +kernel
theorem dL_law_341 : decode cL_law 341 = .ok (.iload_n 3, 1) := by decide +kernel
theorem dL_law_342 : decode cL_law 342 = .ok (.iconst 1, 1) := by decide +kernel
theorem dL_law_343 : decode cL_law 343 = .ok (.iadd, 1) := by decide +kernel
theorem dL_law_344 : decode cL_law 344 = .ok (.iaload, 1) := by decide +kernel
theorem dL_law_345 : decode cL_law 345 = .ok (.aload_n 0, 1) := by decide +kernel
theorem dL_law_346 : decode cL_law 346 = .ok (.iload_n 3, 1) := by decide +kernel
theorem dL_law_347 : decode cL_law 347 = .ok (.iconst 2, 1) := by decide +kernel
theorem dL_law_348 : decode cL_law 348 = .ok (.iadd, 1) := by decide +kernel
theorem dL_law_349 : decode cL_law 349 = .ok (.iaload, 1) := by decide +kernel
theorem dL_law_350 : decode cL_law 350 = .ok (.invokevirtual 38, 3) := by decide +kernel
theorem dL_law_353 : decode cL_law 353 = .ok (.aload_n 2, 1) := by decide +kernel
theorem dL_law_354 : decode cL_law 354 = .ok (.aload_n 0, 1) := by decide +kernel
theorem dL_law_355 : decode cL_law 355 = .ok (.iload_n 3, 1) := by decide +kernel
theorem dL_law_356 : decode cL_law 356 = .ok (.iconst 1, 1) := by decide +kernel
theorem dL_law_357 : decode cL_law 357 = .ok (.iadd, 1) := by decide +kernel
theorem dL_law_358 : decode cL_law 358 = .ok (.iaload, 1) := by decide +kernel
theorem dL_law_359 : decode cL_law 359 = .ok (.aload_n 0, 1) := by decide +kernel
theorem dL_law_360 : decode cL_law 360 = .ok (.iload_n 3, 1) := by decide +kernel
theorem dL_law_361 : decode cL_law 361 = .ok (.iconst 2, 1) := by decide +kernel
theorem dL_law_362 : decode cL_law 362 = .ok (.iadd, 1) := by decide +kernel
theorem dL_law_363 : decode cL_law 363 = .ok (.iaload, 1) := by decide +kernel
theorem dL_law_364 : decode cL_law 364 = .ok (.invokevirtual 41, 3) := by decide +kernel
theorem dL_law_367 : decode cL_law 367 = .ok (.if_icmp .eq 590, 3) := by decide +kernel
theorem dL_law_370 : decode cL_law 370 = .ok (.iconst 0, 1) := by decide +kernel
theorem dL_law_371 : decode cL_law 371 = .ok (.ireturn, 1) := by decide +kernel
theorem dL_law_372 : decode cL_law 372 = .ok (.aload_n 1, 1) := by decide +kernel
theorem dL_law_373 : decode cL_law 373 = .ok (.aload_n 0, 1) := by decide +kernel
theorem dL_law_374 : decode cL_law 374 = .ok (.iload_n 3, 1) := by decide +kernel
theorem dL_law_375 : decode cL_law 375 = .ok (.iconst 1, 1) := by decide +kernel
theorem dL_law_376 : decode cL_law 376 = .ok (.iadd, 1) := by decide +kernel
theorem dL_law_377 : decode cL_law 377 = .ok (.iaload, 1) := by decide +kernel
theorem dL_law_378 : decode cL_law 378 = .ok (.invokevirtual 42, 3) := by decide +kernel
theorem dL_law_381 : decode cL_law 381 = .ok (.aload_n 2, 1) := by decide +kernel
theorem dL_law_382 : decode cL_law 382 = .ok (.aload_n 0, 1) := by decide +kernel
theorem dL_law_383 : decode cL_law 383 = .ok (.iload_n 3, 1) := by decide +kernel
theorem dL_law_384 : decode cL_law 384 = .ok (.iconst 1, 1) := by decide +kernel
theorem dL_law_385 : decode cL_law 385 = .ok (.iadd, 1) := by decide +kernel
theorem dL_law_386 : decode cL_law 386 = .ok (.iaload, 1) := by decide +kernel
theorem dL_law_387 : decode cL_law 387 = .ok (.invokevirtual 45, 3) := by decide +kernel
theorem dL_law_390 : decode cL_law 390 = .ok (.if_icmp .eq 567, 3) := by decide +kernel
theorem dL_law_393 : decode cL_law 393 = .ok (.iconst 0, 1) := by decide +kernel
theorem dL_law_394 : decode cL_law 394 = .ok (.ireturn, 1) := by decide +kernel
theorem dL_law_395 : decode cL_law 395 = .ok (.aload_n 1, 1) := by decide +kernel
theorem dL_law_396 : decode cL_law 396 = .ok (.aload_n 0, 1) := by decide +kernel
theorem dL_law_397 : decode cL_law 397 = .ok (.iload_n 3, 1) := by decide +kernel
theorem dL_law_398 : decode cL_law 398 = .ok (.iconst 1, 1) := by decide +kernel
theorem dL_law_399 : decode cL_law 399 = .ok (.iadd, 1) := by decide +kernel
theorem dL_law_400 : decode cL_law 400 = .ok (.iaload, 1) := by decide +kernel
theorem dL_law_401 : decode cL_law 401 = .ok (.aload_n 0, 1) := by decide +kernel
theorem dL_law_402 : decode cL_law 402 = .ok (.iload_n 3, 1) := by decide +kernel
theorem dL_law_403 : decode cL_law 403 = .ok (.iconst 2, 1) := by decide +kernel
theorem dL_law_404 : decode cL_law 404 = .ok (.iadd, 1) := by decide +kernel
theorem dL_law_405 : decode cL_law 405 = .ok (.iaload, 1) := by decide +kernel
theorem dL_law_406 : decode cL_law 406 = .ok (.aload_n 0, 1) := by decide +kernel
theorem dL_law_407 : decode cL_law 407 = .ok (.iload_n 3, 1) := by decide +kernel
theorem dL_law_408 : decode cL_law 408 = .ok (.iconst 3, 1) := by decide +kernel
theorem dL_law_409 : decode cL_law 409 = .ok (.iadd, 1) := by decide +kernel
theorem dL_law_410 : decode cL_law 410 = .ok (.iaload, 1) := by decide +kernel
theorem dL_law_411 : decode cL_law 411 = .ok (.invokevirtual 46, 3) := by decide +kernel
theorem dL_law_414 : decode cL_law 414 = .ok (.aload_n 2, 1) := by decide +kernel
theorem dL_law_415 : decode cL_law 415 = .ok (.aload_n 0, 1) := by decide +kernel
theorem dL_law_416 : decode cL_law 416 = .ok (.iload_n 3, 1) := by decide +kernel
theorem dL_law_417 : decode cL_law 417 = .ok (.iconst 1, 1) := by decide +kernel
theorem dL_law_418 : decode cL_law 418 = .ok (.iadd, 1) := by decide +kernel
theorem dL_law_419 : decode cL_law 419 = .ok (.iaload, 1) := by decide +kernel
theorem dL_law_420 : decode cL_law 420 = .ok (.aload_n 0, 1) := by decide +kernel
theorem dL_law_421 : decode cL_law 421 = .ok (.iload_n 3, 1) := by decide +kernel
theorem dL_law_422 : decode cL_law 422 = .ok (.iconst 2, 1) := by decide +kernel
theorem dL_law_423 : decode cL_law 423 = .ok (.iadd, 1) := by decide +kernel
theorem dL_law_424 : decode cL_law 424 = .ok (.iaload, 1) := by decide +kernel
theorem dL_law_425 : decode cL_law 425 = .ok (.aload_n 0, 1) := by decide +kernel
theorem dL_law_426 : decode cL_law 426 = .ok (.iload_n 3, 1) := by decide +kernel
theorem dL_law_427 : decode cL_law 427 = .ok (.iconst 3, 1) := by decide +kernel
theorem dL_law_428 : decode cL_law 428 = .ok (.iadd, 1) := by decide +kernel
theorem dL_law_429 : decode cL_law 429 = .ok (.iaload, 1) := by decide +kernel
theorem dL_law_430 : decode cL_law 430 = .ok (.invokevirtual 49, 3) := by decide +kernel
theorem dL_law_433 : decode cL_law 433 = .ok (.if_icmp .eq 524, 3) := by decide +kernel
theorem dL_law_436 : decode cL_law 436 = .ok (.iconst 0, 1) := by decide +kernel
theorem dL_law_437 : decode cL_law 437 = .ok (.ireturn, 1) := by decide +kernel
theorem dL_law_438 : decode cL_law 438 = .ok (.aload_n 1, 1) := by decide +kernel
theorem dL_law_439 : decode cL_law 439 = .ok (.aload_n 0, 1) := by decide +kernel
theorem dL_law_440 : decode cL_law 440 = .ok (.iload_n 3, 1) := by decide +kernel
theorem dL_law_441 : decode cL_law 441 = .ok (.iconst 1, 1) := by decide +kernel
theorem dL_law_442 : decode cL_law 442 = .ok (.iadd, 1) := by decide +kernel
theorem dL_law_443 : decode cL_law 443 = .ok (.iaload, 1) := by decide +kernel
theorem dL_law_444 : decode cL_law 444 = .ok (.aload_n 0, 1) := by decide +kernel
theorem dL_law_445 : decode cL_law 445 = .ok (.iload_n 3, 1) := by decide +kernel
theorem dL_law_446 : decode cL_law 446 = .ok (.iconst 2, 1) := by decide +kernel
theorem dL_law_447 : decode cL_law 447 = .ok (.iadd, 1) := by decide +kernel
theorem dL_law_448 : decode cL_law 448 = .ok (.iaload, 1) := by decide +kernel
theorem dL_law_449 : decode cL_law 449 = .ok (.invokevirtual 50, 3) := by decide +kernel
theorem dL_law_452 : decode cL_law 452 = .ok (.aload_n 2, 1) := by decide +kernel
theorem dL_law_453 : decode cL_law 453 = .ok (.aload_n 0, 1) := by decide +kernel
theorem dL_law_454 : decode cL_law 454 = .ok (.iload_n 3, 1) := by decide +kernel
theorem dL_law_455 : decode cL_law 455 = .ok (.iconst 1, 1) := by decide +kernel
theorem dL_law_456 : decode cL_law 456 = .ok (.iadd, 1) := by decide +kernel
theorem dL_law_457 : decode cL_law 457 = .ok (.iaload, 1) := by decide +kernel
theorem dL_law_458 : decode cL_law 458 = .ok (.aload_n 0, 1) := by decide +kernel
theorem dL_law_459 : decode cL_law 459 = .ok (.iload_n 3, 1) := by decide +kernel
theorem dL_law_460 : decode cL_law 460 = .ok (.iconst 2, 1) := by decide +kernel
theorem dL_law_461 : decode cL_law 461 = .ok (.iadd, 1) := by decide +kernel
theorem dL_law_462 : decode cL_law 462 = .ok (.iaload, 1) := by decide +kernel
theorem dL_law_463 : decode cL_law 463 = .ok (.invokevirtual 53, 3) := by decide +kernel
theorem dL_law_466 : decode cL_law 466 = .ok (.if_icmp .eq 491, 3) := by decide +kernel
theorem dL_law_469 : decode cL_law 469 = .ok (.iconst 0, 1) := by decide +kernel
theorem dL_law_470 : decode cL_law 470 = .ok (.ireturn, 1) := by decide +kernel
theorem dL_law_471 : decode cL_law 471 = .ok (.aload_n 1, 1) := by decide +kernel
theorem dL_law_472 : decode cL_law 472 = .ok (.aload_n 0, 1) := by decide +kernel
theorem dL_law_473 : decode cL_law 473 = .ok (.iload_n 3, 1) := by decide +kernel
theorem dL_law_474 : decode cL_law 474 = .ok (.iconst 1, 1) := by decide +kernel
theorem dL_law_475 : decode cL_law 475 = .ok (.iadd, 1) := by decide +kernel
theorem dL_law_476 : decode cL_law 476 = .ok (.iaload, 1) := by decide +kernel
theorem dL_law_477 : decode cL_law 477 = .ok (.aload_n 0, 1) := by decide +kernel
theorem dL_law_478 : decode cL_law 478 = .ok (.iload_n 3, 1) := by decide +kernel
theorem dL_law_479 : decode cL_law 479 = .ok (.iconst 2, 1) := by decide +kernel
theorem dL_law_480 : decode cL_law 480 = .ok (.iadd, 1) := by decide +kernel
theorem dL_law_481 : decode cL_law 481 = .ok (.iaload, 1) := by decide +kernel
theorem dL_law_482 : decode cL_law 482 = .ok (.aload_n 0, 1) := by decide +kernel
theorem dL_law_483 : decode cL_law 483 = .ok (.iload_n 3, 1) := by decide +kernel
theorem dL_law_484 : decode cL_law 484 = .ok (.iconst 3, 1) := by decide +kernel
theorem dL_law_485 : decode cL_law 485 = .ok (.iadd, 1) := by decide +kernel
theorem dL_law_486 : decode cL_law 486 = .ok (.iaload, 1) := by decide +kernel
theorem dL_law_487 : decode cL_law 487 = .ok (.aload_n 0, 1) := by decide +kernel
theorem dL_law_488 : decode cL_law 488 = .ok (.iload_n 3, 1) := by decide +kernel
theorem dL_law_489 : decode cL_law 489 = .ok (.iconst 4, 1) := by decide +kernel
theorem dL_law_490 : decode cL_law 490 = .ok (.iadd, 1) := by decide +kernel
theorem dL_law_491 : decode cL_law 491 = .ok (.iaload, 1) := by decide +kernel
theorem dL_law_492 : decode cL_law 492 = .ok (.aload_n 0, 1) := by decide +kernel
theorem dL_law_493 : decode cL_law 493 = .ok (.iload_n 3, 1) := by decide +kernel
theorem dL_law_494 : decode cL_law 494 = .ok (.iconst 5, 1) := by decide +kernel
theorem dL_law_495 : decode cL_law 495 = .ok (.iadd, 1) := by decide +kernel
theorem dL_law_496 : decode cL_law 496 = .ok (.iaload, 1) := by decide +kernel
theorem dL_law_497 : decode cL_law 497 = .ok (.invokevirtual 54, 3) := by decide +kernel
theorem dL_law_500 : decode cL_law 500 = .ok (.aload_n 2, 1) := by decide +kernel
theorem dL_law_501 : decode cL_law 501 = .ok (.aload_n 0, 1) := by decide +kernel
theorem dL_law_502 : decode cL_law 502 = .ok (.iload_n 3, 1) := by decide +kernel
theorem dL_law_503 : decode cL_law 503 = .ok (.iconst 1, 1) := by decide +kernel
theorem dL_law_504 : decode cL_law 504 = .ok (.iadd, 1) := by decide +kernel
theorem dL_law_505 : decode cL_law 505 = .ok (.iaload, 1) := by decide +kernel
theorem dL_law_506 : decode cL_law 506 = .ok (.aload_n 0, 1) := by decide +kernel
theorem dL_law_507 : decode cL_law 507 = .ok (.iload_n 3, 1) := by decide +kernel
theorem dL_law_508 : decode cL_law 508 = .ok (.iconst 2, 1) := by decide +kernel
theorem dL_law_509 : decode cL_law 509 = .ok (.iadd, 1) := by decide +kernel
theorem dL_law_510 : decode cL_law 510 = .ok (.iaload, 1) := by decide +kernel
theorem dL_law_511 : decode cL_law 511 = .ok (.aload_n 0, 1) := by decide +kernel
theorem dL_law_512 : decode cL_law 512 = .ok (.iload_n 3, 1) := by decide +kernel
theorem dL_law_513 : decode cL_law 513 = .ok (.iconst 3, 1) := by decide +kernel
theorem dL_law_514 : decode cL_law 514 = .ok (.iadd, 1) := by decide +kernel
theorem dL_law_515 : decode cL_law 515 = .ok (.iaload, 1) := by decide +kernel
theorem dL_law_516 : decode cL_law 516 = .ok (.aload_n 0, 1) := by decide +kernel
theorem dL_law_517 : decode cL_law 517 = .ok (.iload_n 3, 1) := by decide +kernel
theorem dL_law_518 : decode cL_law 518 = .ok (.iconst 4, 1) := by decide +kernel
theorem dL_law_519 : decode cL_law 519 = .ok (.iadd, 1) := by decide +kernel
theorem dL_law_520 : decode cL_law 520 = .ok (.iaload, 1) := by decide +kernel
theorem dL_law_521 : decode cL_law 521 = .ok (.aload_n 0, 1) := by decide +kernel
theorem dL_law_522 : decode cL_law 522 = .ok (.iload_n 3, 1) := by decide +kernel
theorem dL_law_523 : decode cL_law 523 = .ok (.iconst 5, 1) := by decide +kernel
theorem dL_law_524 : decode cL_law 524 = .ok (.iadd, 1) := by decide +kernel
theorem dL_law_525 : decode cL_law 525 = .ok (.iaload, 1) := by decide +kernel
theorem dL_law_526 : decode cL_law 526 = .ok (.invokevirtual 57, 3) := by decide +kernel
theorem dL_law_529 : decode cL_law 529 = .ok (.if_icmp .eq 428, 3) := by decide +kernel
theorem dL_law_532 : decode cL_law 532 = .ok (.iconst 0, 1) := by decide +kernel
theorem dL_law_533 : decode cL_law 533 = .ok (.ireturn, 1) := by decide +kernel
theorem dL_law_534 : decode cL_law 534 = .ok (.aload_n 1, 1) := by decide +kernel
theorem dL_law_535 : decode cL_law 535 = .ok (.aload_n 0, 1) := by decide +kernel
theorem dL_law_536 : decode cL_law 536 = .ok (.iload_n 3, 1) := by decide +kernel
theorem dL_law_537 : decode cL_law 537 = .ok (.iconst 1, 1) := by decide +kernel
theorem dL_law_538 : decode cL_law 538 = .ok (.iadd, 1) := by decide +kernel
theorem dL_law_539 : decode cL_law 539 = .ok (.iaload, 1) := by decide +kernel
theorem dL_law_540 : decode cL_law 540 = .ok (.aload_n 0, 1) := by decide +kernel
theorem dL_law_541 : decode cL_law 541 = .ok (.iload_n 3, 1) := by decide +kernel
theorem dL_law_542 : decode cL_law 542 = .ok (.iconst 2, 1) := by decide +kernel
theorem dL_law_543 : decode cL_law 543 = .ok (.iadd, 1) := by decide +kernel
theorem dL_law_544 : decode cL_law 544 = .ok (.iaload, 1) := by decide +kernel
theorem dL_law_545 : decode cL_law 545 = .ok (.aload_n 0, 1) := by decide +kernel
theorem dL_law_546 : decode cL_law 546 = .ok (.iload_n 3, 1) := by decide +kernel
theorem dL_law_547 : decode cL_law 547 = .ok (.iconst 3, 1) := by decide +kernel
theorem dL_law_548 : decode cL_law 548 = .ok (.iadd, 1) := by decide +kernel
theorem dL_law_549 : decode cL_law 549 = .ok (.iaload, 1) := by decide +kernel
theorem dL_law_550 : decode cL_law 550 = .ok (.invokevirtual 58, 3) := by decide +kernel
theorem dL_law_553 : decode cL_law 553 = .ok (.aload_n 2, 1) := by decide +kernel
theorem dL_law_554 : decode cL_law 554 = .ok (.aload_n 0, 1) := by decide +kernel
theorem dL_law_555 : decode cL_law 555 = .ok (.iload_n 3, 1) := by decide +kernel
theorem dL_law_556 : decode cL_law 556 = .ok (.iconst 1, 1) := by decide +kernel
theorem dL_law_557 : decode cL_law 557 = .ok (.iadd, 1) := by decide +kernel
theorem dL_law_558 : decode cL_law 558 = .ok (.iaload, 1) := by decide +kernel
theorem dL_law_559 : decode cL_law 559 = .ok (.aload_n 0, 1) := by decide +kernel
theorem dL_law_560 : decode cL_law 560 = .ok (.iload_n 3, 1) := by decide +kernel
theorem dL_law_561 : decode cL_law 561 = .ok (.iconst 2, 1) := by decide +kernel
theorem dL_law_562 : decode cL_law 562 = .ok (.iadd, 1) := by decide +kernel
theorem dL_law_563 : decode cL_law 563 = .ok (.iaload, 1) := by decide +kernel
theorem dL_law_564 : decode cL_law 564 = .ok (.aload_n 0, 1) := by decide +kernel
theorem dL_law_565 : decode cL_law 565 = .ok (.iload_n 3, 1) := by decide +kernel
theorem dL_law_566 : decode cL_law 566 = .ok (.iconst 3, 1) := by decide +kernel
theorem dL_law_567 : decode cL_law 567 = .ok (.iadd, 1) := by decide +kernel
theorem dL_law_568 : decode cL_law 568 = .ok (.iaload, 1) := by decide +kernel
theorem dL_law_569 : decode cL_law 569 = .ok (.invokevirtual 62, 3) := by decide +kernel
theorem dL_law_572 : decode cL_law 572 = .ok (.lcmp, 1) := by decide +kernel
theorem dL_law_573 : decode cL_law 573 = .ok (.ifCond .eq 384, 3) := by decide +kernel
theorem dL_law_576 : decode cL_law 576 = .ok (.iconst 0, 1) := by decide +kernel
theorem dL_law_577 : decode cL_law 577 = .ok (.ireturn, 1) := by decide +kernel
theorem dL_law_578 : decode cL_law 578 = .ok (.aload_n 1, 1) := by decide +kernel
theorem dL_law_579 : decode cL_law 579 = .ok (.aload_n 0, 1) := by decide +kernel
theorem dL_law_580 : decode cL_law 580 = .ok (.iload_n 3, 1) := by decide +kernel
theorem dL_law_581 : decode cL_law 581 = .ok (.iconst 1, 1) := by decide +kernel
theorem dL_law_582 : decode cL_law 582 = .ok (.iadd, 1) := by decide +kernel
theorem dL_law_583 : decode cL_law 583 = .ok (.iaload, 1) := by decide +kernel
theorem dL_law_584 : decode cL_law 584 = .ok (.aload_n 0, 1) := by decide +kernel
theorem dL_law_585 : decode cL_law 585 = .ok (.iload_n 3, 1) := by decide +kernel
theorem dL_law_586 : decode cL_law 586 = .ok (.iconst 2, 1) := by decide +kernel
theorem dL_law_587 : decode cL_law 587 = .ok (.iadd, 1) := by decide +kernel
theorem dL_law_588 : decode cL_law 588 = .ok (.iaload, 1) := by decide +kernel
theorem dL_law_589 : decode cL_law 589 = .ok (.aload_n 0, 1) := by decide +kernel
theorem dL_law_590 : decode cL_law 590 = .ok (.iload_n 3, 1) := by decide +kernel
theorem dL_law_591 : decode cL_law 591 = .ok (.iconst 3, 1) := by decide +kernel
theorem dL_law_592 : decode cL_law 592 = .ok (.iadd, 1) := by decide +kernel
theorem dL_law_593 : decode cL_law 593 = .ok (.iaload, 1) := by decide +kernel
theorem dL_law_594 : decode cL_law 594 = .ok (.aload_n 0, 1) := by decide +kernel
theorem dL_law_595 : decode cL_law 595 = .ok (.iload_n 3, 1) := by decide +kernel
theorem dL_law_596 : decode cL_law 596 = .ok (.iconst 4, 1) := by decide +kernel
theorem dL_law_597 : decode cL_law 597 = .ok (.iadd, 1) := by decide +kernel
theorem dL_law_598 : decode cL_law 598 = .ok (.iaload, 1) := by decide +kernel
theorem dL_law_599 : decode cL_law 599 = .ok (.invokevirtual 63, 3) := by decide +kernel
theorem dL_law_602 : decode cL_law 602 = .ok (.aload_n 2, 1) := by decide +kernel
theorem dL_law_603 : decode cL_law 603 = .ok (.aload_n 0, 1) := by decide +kernel
theorem dL_law_604 : decode cL_law 604 = .ok (.iload_n 3, 1) := by decide +kernel
theorem dL_law_605 : decode cL_law 605 = .ok (.iconst 1, 1) := by decide +kernel
theorem dL_law_606 : decode cL_law 606 = .ok (.iadd, 1) := by decide +kernel
theorem dL_law_607 : decode cL_law 607 = .ok (.iaload, 1) := by decide +kernel
theorem dL_law_608 : decode cL_law 608 = .ok (.aload_n 0, 1) := by decide +kernel
theorem dL_law_609 : decode cL_law 609 = .ok (.iload_n 3, 1) := by decide +kernel
theorem dL_law_610 : decode cL_law 610 = .ok (.iconst 2, 1) := by decide +kernel
theorem dL_law_611 : decode cL_law 611 = .ok (.iadd, 1) := by decide +kernel
theorem dL_law_612 : decode cL_law 612 = .ok (.iaload, 1) := by decide +kernel
theorem dL_law_613 : decode cL_law 613 = .ok (.aload_n 0, 1) := by decide +kernel
theorem dL_law_614 : decode cL_law 614 = .ok (.iload_n 3, 1) := by decide +kernel
theorem dL_law_615 : decode cL_law 615 = .ok (.iconst 3, 1) := by decide +kernel
theorem dL_law_616 : decode cL_law 616 = .ok (.iadd, 1) := by decide +kernel
theorem dL_law_617 : decode cL_law 617 = .ok (.iaload, 1) := by decide +kernel
theorem dL_law_618 : decode cL_law 618 = .ok (.aload_n 0, 1) := by decide +kernel
theorem dL_law_619 : decode cL_law 619 = .ok (.iload_n 3, 1) := by decide +kernel
theorem dL_law_620 : decode cL_law 620 = .ok (.iconst 4, 1) := by decide +kernel
theorem dL_law_621 : decode cL_law 621 = .ok (.iadd, 1) := by decide +kernel
theorem dL_law_622 : decode cL_law 622 = .ok (.iaload, 1) := by decide +kernel
theorem dL_law_623 : decode cL_law 623 = .ok (.invokevirtual 67, 3) := by decide +kernel
theorem dL_law_626 : decode cL_law 626 = .ok (.if_icmp .eq 331, 3) := by decide +kernel
theorem dL_law_629 : decode cL_law 629 = .ok (.iconst 0, 1) := by decide +kernel
theorem dL_law_630 : decode cL_law 630 = .ok (.ireturn, 1) := by decide +kernel
theorem dL_law_631 : decode cL_law 631 = .ok (.aload_n 1, 1) := by decide +kernel
theorem dL_law_632 : decode cL_law 632 = .ok (.aload_n 0, 1) := by decide +kernel
theorem dL_law_633 : decode cL_law 633 = .ok (.iload_n 3, 1) := by decide +kernel
theorem dL_law_634 : decode cL_law 634 = .ok (.iconst 1, 1) := by decide +kernel
theorem dL_law_635 : decode cL_law 635 = .ok (.iadd, 1) := by decide +kernel
theorem dL_law_636 : decode cL_law 636 = .ok (.iaload, 1) := by decide +kernel
theorem dL_law_637 : decode cL_law 637 = .ok (.aload_n 0, 1) := by decide +kernel
theorem dL_law_638 : decode cL_law 638 = .ok (.iload_n 3, 1) := by decide +kernel
theorem dL_law_639 : decode cL_law 639 = .ok (.iconst 2, 1) := by decide +kernel
theorem dL_law_640 : decode cL_law 640 = .ok (.iadd, 1) := by decide +kernel
theorem dL_law_641 : decode cL_law 641 = .ok (.iaload, 1) := by decide +kernel
theorem dL_law_642 : decode cL_law 642 = .ok (.invokevirtual 68, 3) := by decide +kernel
theorem dL_law_645 : decode cL_law 645 = .ok (.aload_n 2, 1) := by decide +kernel
theorem dL_law_646 : decode cL_law 646 = .ok (.aload_n 0, 1) := by decide +kernel
theorem dL_law_647 : decode cL_law 647 = .ok (.iload_n 3, 1) := by decide +kernel
theorem dL_law_648 : decode cL_law 648 = .ok (.iconst 1, 1) := by decide +kernel
theorem dL_law_649 : decode cL_law 649 = .ok (.iadd, 1) := by decide +kernel
theorem dL_law_650 : decode cL_law 650 = .ok (.iaload, 1) := by decide +kernel
theorem dL_law_651 : decode cL_law 651 = .ok (.aload_n 0, 1) := by decide +kernel
theorem dL_law_652 : decode cL_law 652 = .ok (.iload_n 3, 1) := by decide +kernel
theorem dL_law_653 : decode cL_law 653 = .ok (.iconst 2, 1) := by decide +kernel
theorem dL_law_654 : decode cL_law 654 = .ok (.iadd, 1) := by decide +kernel
theorem dL_law_655 : decode cL_law 655 = .ok (.iaload, 1) := by decide +kernel
theorem dL_law_656 : decode cL_law 656 = .ok (.invokevirtual 71, 3) := by decide +kernel
theorem dL_law_659 : decode cL_law 659 = .ok (.if_icmp .eq 298, 3) := by decide +kernel
theorem dL_law_662 : decode cL_law 662 = .ok (.iconst 0, 1) := by decide +kernel
theorem dL_law_663 : decode cL_law 663 = .ok (.ireturn, 1) := by decide +kernel
theorem dL_law_664 : decode cL_law 664 = .ok (.aload_n 1, 1) := by decide +kernel
theorem dL_law_665 : decode cL_law 665 = .ok (.aload_n 0, 1) := by decide +kernel
theorem dL_law_666 : decode cL_law 666 = .ok (.iload_n 3, 1) := by decide +kernel
theorem dL_law_667 : decode cL_law 667 = .ok (.iconst 1, 1) := by decide +kernel
theorem dL_law_668 : decode cL_law 668 = .ok (.iadd, 1) := by decide +kernel
theorem dL_law_669 : decode cL_law 669 = .ok (.iaload, 1) := by decide +kernel
theorem dL_law_670 : decode cL_law 670 = .ok (.aload_n 0, 1) := by decide +kernel
theorem dL_law_671 : decode cL_law 671 = .ok (.iload_n 3, 1) := by decide +kernel
theorem dL_law_672 : decode cL_law 672 = .ok (.iconst 2, 1) := by decide +kernel
theorem dL_law_673 : decode cL_law 673 = .ok (.iadd, 1) := by decide +kernel
theorem dL_law_674 : decode cL_law 674 = .ok (.iaload, 1) := by decide +kernel
theorem dL_law_675 : decode cL_law 675 = .ok (.aload_n 0, 1) := by decide +kernel
theorem dL_law_676 : decode cL_law 676 = .ok (.iload_n 3, 1) := by decide +kernel
theorem dL_law_677 : decode cL_law 677 = .ok (.iconst 3, 1) := by decide +kernel
theorem dL_law_678 : decode cL_law 678 = .ok (.iadd, 1) := by decide +kernel
theorem dL_law_679 : decode cL_law 679 = .ok (.iaload, 1) := by decide +kernel
theorem dL_law_680 : decode cL_law 680 = .ok (.invokevirtual 72, 3) := by decide +kernel
theorem dL_law_683 : decode cL_law 683 = .ok (.aload_n 2, 1) := by decide +kernel
theorem dL_law_684 : decode cL_law 684 = .ok (.aload_n 0, 1) := by decide +kernel
theorem dL_law_685 : decode cL_law 685 = .ok (.iload_n 3, 1) := by decide +kernel
theorem dL_law_686 : decode cL_law 686 = .ok (.iconst 1, 1) := by decide +kernel
theorem dL_law_687 : decode cL_law 687 = .ok (.iadd, 1) := by decide +kernel
theorem dL_law_688 : decode cL_law 688 = .ok (.iaload, 1) := by decide +kernel
theorem dL_law_689 : decode cL_law 689 = .ok (.aload_n 0, 1) := by decide +kernel
theorem dL_law_690 : decode cL_law 690 = .ok (.iload_n 3, 1) := by decide +kernel
theorem dL_law_691 : decode cL_law 691 = .ok (.iconst 2, 1) := by decide +kernel
theorem dL_law_692 : decode cL_law 692 = .ok (.iadd, 1) := by decide +kernel
theorem dL_law_693 : decode cL_law 693 = .ok (.iaload, 1) := by decide +kernel
theorem dL_law_694 : decode cL_law 694 = .ok (.aload_n 0, 1) := by decide +kernel
theorem dL_law_695 : decode cL_law 695 = .ok (.iload_n 3, 1) := by decide +kernel
theorem dL_law_696 : decode cL_law 696 = .ok (.iconst 3, 1) := by decide +kernel
theorem dL_law_697 : decode cL_law 697 = .ok (.iadd, 1) := by decide +kernel
theorem dL_law_698 : decode cL_law 698 = .ok (.iaload, 1) := by decide +kernel
theorem dL_law_699 : decode cL_law 699 = .ok (.invokevirtual 75, 3) := by decide +kernel
theorem dL_law_702 : decode cL_law 702 = .ok (.if_icmp .eq 255, 3) := by decide +kernel
theorem dL_law_705 : decode cL_law 705 = .ok (.iconst 0, 1) := by decide +kernel
theorem dL_law_706 : decode cL_law 706 = .ok (.ireturn, 1) := by decide +kernel
theorem dL_law_707 : decode cL_law 707 = .ok (.aload_n 1, 1) := by decide +kernel
theorem dL_law_708 : decode cL_law 708 = .ok (.aload_n 0, 1) := by decide +kernel
theorem dL_law_709 : decode cL_law 709 = .ok (.iload_n 3, 1) := by decide +kernel
theorem dL_law_710 : decode cL_law 710 = .ok (.iconst 1, 1) := by decide +kernel
theorem dL_law_711 : decode cL_law 711 = .ok (.iadd, 1) := by decide +kernel
theorem dL_law_712 : decode cL_law 712 = .ok (.iaload, 1) := by decide +kernel
theorem dL_law_713 : decode cL_law 713 = .ok (.aload_n 0, 1) := by decide +kernel
theorem dL_law_714 : decode cL_law 714 = .ok (.iload_n 3, 1) := by decide +kernel
theorem dL_law_715 : decode cL_law 715 = .ok (.iconst 2, 1) := by decide +kernel
theorem dL_law_716 : decode cL_law 716 = .ok (.iadd, 1) := by decide +kernel
theorem dL_law_717 : decode cL_law 717 = .ok (.iaload, 1) := by decide +kernel
theorem dL_law_718 : decode cL_law 718 = .ok (.aload_n 0, 1) := by decide +kernel
theorem dL_law_719 : decode cL_law 719 = .ok (.iload_n 3, 1) := by decide +kernel
theorem dL_law_720 : decode cL_law 720 = .ok (.iconst 3, 1) := by decide +kernel
theorem dL_law_721 : decode cL_law 721 = .ok (.iadd, 1) := by decide +kernel
theorem dL_law_722 : decode cL_law 722 = .ok (.iaload, 1) := by decide +kernel
theorem dL_law_723 : decode cL_law 723 = .ok (.invokevirtual 76, 3) := by decide +kernel
theorem dL_law_726 : decode cL_law 726 = .ok (.aload_n 2, 1) := by decide +kernel
theorem dL_law_727 : decode cL_law 727 = .ok (.aload_n 0, 1) := by decide +kernel
theorem dL_law_728 : decode cL_law 728 = .ok (.iload_n 3, 1) := by decide +kernel
theorem dL_law_729 : decode cL_law 729 = .ok (.iconst 1, 1) := by decide +kernel
theorem dL_law_730 : decode cL_law 730 = .ok (.iadd, 1) := by decide +kernel
theorem dL_law_731 : decode cL_law 731 = .ok (.iaload, 1) := by decide +kernel
theorem dL_law_732 : decode cL_law 732 = .ok (.aload_n 0, 1) := by decide +kernel
theorem dL_law_733 : decode cL_law 733 = .ok (.iload_n 3, 1) := by decide +kernel
theorem dL_law_734 : decode cL_law 734 = .ok (.iconst 2, 1) := by decide +kernel
theorem dL_law_735 : decode cL_law 735 = .ok (.iadd, 1) := by decide +kernel
theorem dL_law_736 : decode cL_law 736 = .ok (.iaload, 1) := by decide +kernel
theorem dL_law_737 : decode cL_law 737 = .ok (.aload_n 0, 1) := by decide +kernel
theorem dL_law_738 : decode cL_law 738 = .ok (.iload_n 3, 1) := by decide +kernel
theorem dL_law_739 : decode cL_law 739 = .ok (.iconst 3, 1) := by decide +kernel
theorem dL_law_740 : decode cL_law 740 = .ok (.iadd, 1) := by decide +kernel
theorem dL_law_741 : decode cL_law 741 = .ok (.iaload, 1) := by decide +kernel
theorem dL_law_742 : decode cL_law 742 = .ok (.invokevirtual 79, 3) := by decide +kernel
theorem dL_law_745 : decode cL_law 745 = .ok (.if_icmp .eq 212, 3) := by decide +kernel
theorem dL_law_748 : decode cL_law 748 = .ok (.iconst 0, 1) := by decide +kernel
theorem dL_law_749 : decode cL_law 749 = .ok (.ireturn, 1) := by decide +kernel
theorem dL_law_750 : decode cL_law 750 = .ok (.aload_n 1, 1) := by decide +kernel
theorem dL_law_751 : decode cL_law 751 = .ok (.aload_n 0, 1) := by decide +kernel
theorem dL_law_752 : decode cL_law 752 = .ok (.iload_n 3, 1) := by decide +kernel
theorem dL_law_753 : decode cL_law 753 = .ok (.iconst 1, 1) := by decide +kernel
theorem dL_law_754 : decode cL_law 754 = .ok (.iadd, 1) := by decide +kernel
theorem dL_law_755 : decode cL_law 755 = .ok (.iaload, 1) := by decide +kernel
theorem dL_law_756 : decode cL_law 756 = .ok (.aload_n 0, 1) := by decide +kernel
theorem dL_law_757 : decode cL_law 757 = .ok (.iload_n 3, 1) := by decide +kernel
theorem dL_law_758 : decode cL_law 758 = .ok (.iconst 2, 1) := by decide +kernel
theorem dL_law_759 : decode cL_law 759 = .ok (.iadd, 1) := by decide +kernel
theorem dL_law_760 : decode cL_law 760 = .ok (.iaload, 1) := by decide +kernel
theorem dL_law_761 : decode cL_law 761 = .ok (.invokevirtual 80, 3) := by decide +kernel
theorem dL_law_764 : decode cL_law 764 = .ok (.aload_n 2, 1) := by decide +kernel
theorem dL_law_765 : decode cL_law 765 = .ok (.aload_n 0, 1) := by decide +kernel
theorem dL_law_766 : decode cL_law 766 = .ok (.iload_n 3, 1) := by decide +kernel
theorem dL_law_767 : decode cL_law 767 = .ok (.iconst 1, 1) := by decide +kernel
theorem dL_law_768 : decode cL_law 768 = .ok (.iadd, 1) := by decide +kernel
theorem dL_law_769 : decode cL_law 769 = .ok (.iaload, 1) := by decide +kernel
theorem dL_law_770 : decode cL_law 770 = .ok (.aload_n 0, 1) := by decide +kernel
theorem dL_law_771 : decode cL_law 771 = .ok (.iload_n 3, 1) := by decide +kernel
theorem dL_law_772 : decode cL_law 772 = .ok (.iconst 2, 1) := by decide +kernel
theorem dL_law_773 : decode cL_law 773 = .ok (.iadd, 1) := by decide +kernel
theorem dL_law_774 : decode cL_law 774 = .ok (.iaload, 1) := by decide +kernel
theorem dL_law_775 : decode cL_law 775 = .ok (.invokevirtual 83, 3) := by decide +kernel
theorem dL_law_778 : decode cL_law 778 = .ok (.if_icmp .eq 179, 3) := by decide +kernel
theorem dL_law_781 : decode cL_law 781 = .ok (.iconst 0, 1) := by decide +kernel
theorem dL_law_782 : decode cL_law 782 = .ok (.ireturn, 1) := by decide +kernel
theorem dL_law_783 : decode cL_law 783 = .ok (.aload_n 1, 1) := by decide +kernel
theorem dL_law_784 : decode cL_law 784 = .ok (.aload_n 0, 1) := by decide +kernel
theorem dL_law_785 : decode cL_law 785 = .ok (.iload_n 3, 1) := by decide +kernel
theorem dL_law_786 : decode cL_law 786 = .ok (.iconst 1, 1) := by decide +kernel
theorem dL_law_787 : decode cL_law 787 = .ok (.iadd, 1) := by decide +kernel
theorem dL_law_788 : decode cL_law 788 = .ok (.iaload, 1) := by decide +kernel
theorem dL_law_789 : decode cL_law 789 = .ok (.invokevirtual 84, 3) := by decide +kernel
theorem dL_law_792 : decode cL_law 792 = .ok (.aload_n 2, 1) := by decide +kernel
theorem dL_law_793 : decode cL_law 793 = .ok (.aload_n 0, 1) := by decide +kernel
theorem dL_law_794 : decode cL_law 794 = .ok (.iload_n 3, 1) := by decide +kernel
theorem dL_law_795 : decode cL_law 795 = .ok (.iconst 1, 1) := by decide +kernel
theorem dL_law_796 : decode cL_law 796 = .ok (.iadd, 1) := by decide +kernel
theorem dL_law_797 : decode cL_law 797 = .ok (.iaload, 1) := by decide +kernel
theorem dL_law_798 : decode cL_law 798 = .ok (.invokevirtual 88, 3) := by decide +kernel
theorem dL_law_801 : decode cL_law 801 = .ok (.if_icmp .eq 156, 3) := by decide +kernel
theorem dL_law_804 : decode cL_law 804 = .ok (.iconst 0, 1) := by decide +kernel
theorem dL_law_805 : decode cL_law 805 = .ok (.ireturn, 1) := by decide +kernel
theorem dL_law_806 : decode cL_law 806 = .ok (.aload_n 1, 1) := by decide +kernel
theorem dL_law_807 : decode cL_law 807 = .ok (.aload_n 0, 1) := by decide +kernel
theorem dL_law_808 : decode cL_law 808 = .ok (.iload_n 3, 1) := by decide +kernel
theorem dL_law_809 : decode cL_law 809 = .ok (.iconst 1, 1) := by decide +kernel
theorem dL_law_810 : decode cL_law 810 = .ok (.iadd, 1) := by decide +kernel
theorem dL_law_811 : decode cL_law 811 = .ok (.iaload, 1) := by decide +kernel
theorem dL_law_812 : decode cL_law 812 = .ok (.invokevirtual 89, 3) := by decide +kernel
theorem dL_law_815 : decode cL_law 815 = .ok (.aload_n 2, 1) := by decide +kernel
theorem dL_law_816 : decode cL_law 816 = .ok (.aload_n 0, 1) := by decide +kernel
theorem dL_law_817 : decode cL_law 817 = .ok (.iload_n 3, 1) := by decide +kernel
theorem dL_law_818 : decode cL_law 818 = .ok (.iconst 1, 1) := by decide +kernel
theorem dL_law_819 : decode cL_law 819 = .ok (.iadd, 1) := by decide +kernel
theorem dL_law_820 : decode cL_law 820 = .ok (.iaload, 1) := by decide +kernel
theorem dL_law_821 : decode cL_law 821 = .ok (.invokevirtual 92, 3) := by decide +kernel
theorem dL_law_824 : decode cL_law 824 = .ok (.if_icmp .eq 133, 3) := by decide +kernel
theorem dL_law_827 : decode cL_law 827 = .ok (.iconst 0, 1) := by decide +kernel
theorem dL_law_828 : decode cL_law 828 = .ok (.ireturn, 1) := by decide +kernel
theorem dL_law_829 : decode cL_law 829 = .ok (.aload_n 1, 1) := by decide +kernel
theorem dL_law_830 : decode cL_law 830 = .ok (.invokevirtual 93, 3) := by decide +kernel
theorem dL_law_833 : decode cL_law 833 = .ok (.aload_n 2, 1) := by decide +kernel
theorem dL_law_834 : decode cL_law 834 = .ok (.invokevirtual 97, 3) := by decide +kernel
theorem dL_law_837 : decode cL_law 837 = .ok (.if_icmp .eq 120, 3) := by decide +kernel
theorem dL_law_840 : decode cL_law 840 = .ok (.iconst 0, 1) := by decide +kernel
theorem dL_law_841 : decode cL_law 841 = .ok (.ireturn, 1) := by decide +kernel
theorem dL_law_842 : decode cL_law 842 = .ok (.aload_n 1, 1) := by decide +kernel
theorem dL_law_843 : decode cL_law 843 = .ok (.invokevirtual 98, 3) := by decide +kernel
theorem dL_law_846 : decode cL_law 846 = .ok (.aload_n 2, 1) := by decide +kernel
theorem dL_law_847 : decode cL_law 847 = .ok (.invokevirtual 102, 3) := by decide +kernel
theorem dL_law_850 : decode cL_law 850 = .ok (.if_icmp .eq 107, 3) := by decide +kernel
theorem dL_law_853 : decode cL_law 853 = .ok (.iconst 0, 1) := by decide +kernel
theorem dL_law_854 : decode cL_law 854 = .ok (.ireturn, 1) := by decide +kernel
theorem dL_law_855 : decode cL_law 855 = .ok (.aload_n 1, 1) := by decide +kernel
theorem dL_law_856 : decode cL_law 856 = .ok (.invokevirtual 103, 3) := by decide +kernel
theorem dL_law_859 : decode cL_law 859 = .ok (.aload_n 2, 1) := by decide +kernel
theorem dL_law_860 : decode cL_law 860 = .ok (.invokevirtual 106, 3) := by decide +kernel
theorem dL_law_863 : decode cL_law 863 = .ok (.if_icmp .eq 94, 3) := by decide +kernel
theorem dL_law_866 : decode cL_law 866 = .ok (.iconst 0, 1) := by decide +kernel
theorem dL_law_867 : decode cL_law 867 = .ok (.ireturn, 1) := by decide +kernel
theorem dL_law_868 : decode cL_law 868 = .ok (.aload_n 1, 1) := by decide +kernel
theorem dL_law_869 : decode cL_law 869 = .ok (.aload_n 0, 1) := by decide +kernel
theorem dL_law_870 : decode cL_law 870 = .ok (.iload_n 3, 1) := by decide +kernel
theorem dL_law_871 : decode cL_law 871 = .ok (.iconst 1, 1) := by decide +kernel
theorem dL_law_872 : decode cL_law 872 = .ok (.iadd, 1) := by decide +kernel
theorem dL_law_873 : decode cL_law 873 = .ok (.iaload, 1) := by decide +kernel
theorem dL_law_874 : decode cL_law 874 = .ok (.aload_n 0, 1) := by decide +kernel
theorem dL_law_875 : decode cL_law 875 = .ok (.iload_n 3, 1) := by decide +kernel
theorem dL_law_876 : decode cL_law 876 = .ok (.iconst 2, 1) := by decide +kernel
theorem dL_law_877 : decode cL_law 877 = .ok (.iadd, 1) := by decide +kernel
theorem dL_law_878 : decode cL_law 878 = .ok (.iaload, 1) := by decide +kernel
theorem dL_law_879 : decode cL_law 879 = .ok (.invokevirtual 107, 3) := by decide +kernel
theorem dL_law_882 : decode cL_law 882 = .ok (.aload_n 2, 1) := by decide +kernel
theorem dL_law_883 : decode cL_law 883 = .ok (.aload_n 0, 1) := by decide +kernel
theorem dL_law_884 : decode cL_law 884 = .ok (.iload_n 3, 1) := by decide +kernel
theorem dL_law_885 : decode cL_law 885 = .ok (.iconst 1, 1) := by decide +kernel
theorem dL_law_886 : decode cL_law 886 = .ok (.iadd, 1) := by decide +kernel
theorem dL_law_887 : decode cL_law 887 = .ok (.iaload, 1) := by decide +kernel
theorem dL_law_888 : decode cL_law 888 = .ok (.aload_n 0, 1) := by decide +kernel
theorem dL_law_889 : decode cL_law 889 = .ok (.iload_n 3, 1) := by decide +kernel
theorem dL_law_890 : decode cL_law 890 = .ok (.iconst 2, 1) := by decide +kernel
theorem dL_law_891 : decode cL_law 891 = .ok (.iadd, 1) := by decide +kernel
theorem dL_law_892 : decode cL_law 892 = .ok (.iaload, 1) := by decide +kernel
theorem dL_law_893 : decode cL_law 893 = .ok (.invokevirtual 110, 3) := by decide +kernel
theorem dL_law_896 : decode cL_law 896 = .ok (.if_icmp .eq 61, 3) := by decide +kernel
theorem dL_law_899 : decode cL_law 899 = .ok (.iconst 0, 1) := by decide +kernel
theorem dL_law_900 : decode cL_law 900 = .ok (.ireturn, 1) := by decide +kernel
theorem dL_law_901 : decode cL_law 901 = .ok (.aload_n 1, 1) := by decide +kernel
theorem dL_law_902 : decode cL_law 902 = .ok (.aload_n 0, 1) := by decide +kernel
theorem dL_law_903 : decode cL_law 903 = .ok (.iload_n 3, 1) := by decide +kernel
theorem dL_law_904 : decode cL_law 904 = .ok (.iconst 1, 1) := by decide +kernel
theorem dL_law_905 : decode cL_law 905 = .ok (.iadd, 1) := by decide +kernel
theorem dL_law_906 : decode cL_law 906 = .ok (.iaload, 1) := by decide +kernel
theorem dL_law_907 : decode cL_law 907 = .ok (.aload_n 0, 1) := by decide +kernel
theorem dL_law_908 : decode cL_law 908 = .ok (.iload_n 3, 1) := by decide +kernel
theorem dL_law_909 : decode cL_law 909 = .ok (.iconst 2, 1) := by decide +kernel
theorem dL_law_910 : decode cL_law 910 = .ok (.iadd, 1) := by decide +kernel
theorem dL_law_911 : decode cL_law 911 = .ok (.iaload, 1) := by decide +kernel
theorem dL_law_912 : decode cL_law 912 = .ok (.invokevirtual 111, 3) := by decide +kernel
theorem dL_law_915 : decode cL_law 915 = .ok (.aload_n 2, 1) := by decide +kernel
theorem dL_law_916 : decode cL_law 916 = .ok (.aload_n 0, 1) := by decide +kernel
theorem dL_law_917 : decode cL_law 917 = .ok (.iload_n 3, 1) := by decide +kernel
theorem dL_law_918 : decode cL_law 918 = .ok (.iconst 1, 1) := by decide +kernel
theorem dL_law_919 : decode cL_law 919 = .ok (.iadd, 1) := by decide +kernel
theorem dL_law_920 : decode cL_law 920 = .ok (.iaload, 1) := by decide +kernel
theorem dL_law_921 : decode cL_law 921 = .ok (.aload_n 0, 1) := by decide +kernel
theorem dL_law_922 : decode cL_law 922 = .ok (.iload_n 3, 1) := by decide +kernel
theorem dL_law_923 : decode cL_law 923 = .ok (.iconst 2, 1) := by decide +kernel
theorem dL_law_924 : decode cL_law 924 = .ok (.iadd, 1) := by decide +kernel
theorem dL_law_925 : decode cL_law 925 = .ok (.iaload, 1) := by decide +kernel
theorem dL_law_926 : decode cL_law 926 = .ok (.invokevirtual 114, 3) := by decide +kernel
theorem dL_law_929 : decode cL_law 929 = .ok (.if_icmp .eq 28, 3) := by decide +kernel
theorem dL_law_932 : decode cL_law 932 = .ok (.iconst 0, 1) := by decide +kernel
theorem dL_law_933 : decode cL_law 933 = .ok (.ireturn, 1) := by decide +kernel
theorem dL_law_934 : decode cL_law 934 = .ok (.aload_n 1, 1) := by decide +kernel
theorem dL_law_935 : decode cL_law 935 = .ok (.aload_n 0, 1) := by decide +kernel
theorem dL_law_936 : decode cL_law 936 = .ok (.iload_n 3, 1) := by decide +kernel
theorem dL_law_937 : decode cL_law 937 = .ok (.iconst 1, 1) := by decide +kernel
theorem dL_law_938 : decode cL_law 938 = .ok (.iadd, 1) := by decide +kernel
theorem dL_law_939 : decode cL_law 939 = .ok (.iaload, 1) := by decide +kernel
theorem dL_law_940 : decode cL_law 940 = .ok (.invokevirtual 115, 3) := by decide +kernel
theorem dL_law_943 : decode cL_law 943 = .ok (.aload_n 2, 1) := by decide +kernel
theorem dL_law_944 : decode cL_law 944 = .ok (.aload_n 0, 1) := by decide +kernel
theorem dL_law_945 : decode cL_law 945 = .ok (.iload_n 3, 1) := by decide +kernel
theorem dL_law_946 : decode cL_law 946 = .ok (.iconst 1, 1) := by decide +kernel
theorem dL_law_947 : decode cL_law 947 = .ok (.iadd, 1) := by decide +kernel
theorem dL_law_948 : decode cL_law 948 = .ok (.iaload, 1) := by decide +kernel
theorem dL_law_949 : decode cL_law 949 = .ok (.invokevirtual 118, 3) := by decide +kernel
theorem dL_law_952 : decode cL_law 952 = .ok (.if_icmp .eq 5, 3) := by decide +kernel
theorem dL_law_955 : decode cL_law 955 = .ok (.iconst 0, 1) := by decide +kernel
theorem dL_law_956 : decode cL_law 956 = .ok (.ireturn, 1) := by decide +kernel
theorem dL_law_957 : decode cL_law 957 = .ok (.iinc 3 6, 3) := by decide +kernel
theorem dL_law_960 : decode cL_law 960 = .ok (.goto (-942), 3) := by decide +kernel
theorem dL_law_963 : decode cL_law 963 = .ok (.iconst 1, 1) := by decide +kernel
theorem dL_law_964 : decode cL_law 964 = .ok (.ireturn, 1) := by decide +kernel
theorem wiX11_mouth : Cond.initialized yX11_mouth.cls ∈ gtb := mg tw1 rfl
theorem wcX11_mouth : Cond.code yX11_mouth cX11_mouth 5 (some .int) ∈ gtb := mg tw411 rfl
theorem vlX11_mouth : VLk yX11_mouth 10 := ⟨mg tw409 rfl, mg tw410 rfl, _, _, rfl⟩
theorem mlL_13 : MLk RL 13 yX11_mouth cX11_mouth 5 (some .int) 3 := ⟨mg tw408 rfl, wiX11_mouth, wcX11_mouth, by decide +kernel, by decide +kernel⟩
theorem wiX12_mouth : Cond.initialized yX12_mouth.cls ∈ gtb := mg tw12 rfl
theorem wcX12_mouth : Cond.code yX12_mouth cX12_mouth 4 (some .int) ∈ gtb := mg tw1336 rfl
theorem vlX12_mouth : VLk yX12_mouth 11 := ⟨mg tw1334 rfl, mg tw1335 rfl, _, _, rfl⟩
theorem mlL_17 : MLk RL 17 yX12_mouth cX12_mouth 4 (some .int) 3 := ⟨mg tw1333 rfl, wiX12_mouth, wcX12_mouth, by decide +kernel, by decide +kernel⟩
theorem wiX11_air : Cond.initialized yX11_air.cls ∈ gtb := mg tw1 rfl
theorem wcX11_air : Cond.code yX11_air cX11_air 3 (some .boolean) ∈ gtb := mg tw422 rfl
theorem vlX11_air : VLk yX11_air 10 := ⟨mg tw420 rfl, mg tw421 rfl, _, _, rfl⟩
theorem mlL_18 : MLk RL 18 yX11_air cX11_air 3 (some .boolean) 2 := ⟨mg tw419 rfl, wiX11_air, wcX11_air, by decide +kernel, by decide +kernel⟩
theorem wiX12_air : Cond.initialized yX12_air.cls ∈ gtb := mg tw12 rfl
theorem wcX12_air : Cond.code yX12_air cX12_air 3 (some .boolean) ∈ gtb := mg tw1346 rfl
theorem vlX12_air : VLk yX12_air 11 := ⟨mg tw1344 rfl, mg tw1345 rfl, _, _, rfl⟩
theorem mlL_22 : MLk RL 22 yX12_air cX12_air 3 (some .boolean) 2 := ⟨mg tw1343 rfl, wiX12_air, wcX12_air, by decide +kernel, by decide +kernel⟩
theorem wiX11_feed : Cond.initialized yX11_feed.cls ∈ gtb := mg tw1 rfl
theorem wcX11_feed : Cond.code yX11_feed cX11_feed 6 (some .int) ∈ gtb := mg tw430 rfl
theorem vlX11_feed : VLk yX11_feed 10 := ⟨mg tw428 rfl, mg tw429 rfl, _, _, rfl⟩
theorem mlL_23 : MLk RL 23 yX11_feed cX11_feed 6 (some .int) 5 := ⟨mg tw427 rfl, wiX11_feed, wcX11_feed, by decide +kernel, by decide +kernel⟩
theorem wiX12_feed : Cond.initialized yX12_feed.cls ∈ gtb := mg tw12 rfl
theorem wcX12_feed : Cond.code yX12_feed cX12_feed 6 (some .int) ∈ gtb := mg tw1352 rfl
theorem vlX12_feed : VLk yX12_feed 11 := ⟨mg tw1350 rfl, mg tw1351 rfl, _, _, rfl⟩
theorem mlL_27 : MLk RL 27 yX12_feed cX12_feed 6 (some .int) 5 := ⟨mg tw1349 rfl, wiX12_feed, wcX12_feed, by decide +kernel, by decide +kernel⟩
theorem wiX11_tongue : Cond.initialized yX11_tongue.cls ∈ gtb := mg tw1 rfl
theorem wcX11_tongue : Cond.code yX11_tongue cX11_tongue 3 (some .int) ∈ gtb := mg tw442 rfl
theorem vlX11_tongue : VLk yX11_tongue 10 := ⟨mg tw440 rfl, mg tw441 rfl, _, _, rfl⟩
theorem mlL_28 : MLk RL 28 yX11_tongue cX11_tongue 3 (some .int) 1 := ⟨mg tw439 rfl, wiX11_tongue, wcX11_tongue, by decide +kernel, by decide +kernel⟩
theorem wiX12_tongue : Cond.initialized yX12_tongue.cls ∈ gtb := mg tw12 rfl
theorem wcX12_tongue : Cond.code yX12_tongue cX12_tongue 4 (some .int) ∈ gtb := mg tw1360 rfl
theorem vlX12_tongue : VLk yX12_tongue 11 := ⟨mg tw1358 rfl, mg tw1359 rfl, _, _, rfl⟩
theorem mlL_32 : MLk RL 32 yX12_tongue cX12_tongue 4 (some .int) 1 := ⟨mg tw1357 rfl, wiX12_tongue, wcX12_tongue, by decide +kernel, by decide +kernel⟩
theorem wiX11_sentence : Cond.initialized yX11_sentence.cls ∈ gtb := mg tw1 rfl
theorem wcX11_sentence : Cond.code yX11_sentence cX11_sentence 4 (some .int) ∈ gtb := mg tw642 rfl
theorem vlX11_sentence : VLk yX11_sentence 10 := ⟨mg tw640 rfl, mg tw641 rfl, _, _, rfl⟩
theorem mlL_33 : MLk RL 33 yX11_sentence cX11_sentence 4 (some .int) 2 := ⟨mg tw639 rfl, wiX11_sentence, wcX11_sentence, by decide +kernel, by decide +kernel⟩
theorem wiX12_sentence : Cond.initialized yX12_sentence.cls ∈ gtb := mg tw12 rfl
theorem wcX12_sentence : Cond.code yX12_sentence cX12_sentence 4 (some .int) ∈ gtb := mg tw1454 rfl
theorem vlX12_sentence : VLk yX12_sentence 11 := ⟨mg tw1452 rfl, mg tw1453 rfl, _, _, rfl⟩
theorem mlL_37 : MLk RL 37 yX12_sentence cX12_sentence 4 (some .int) 2 := ⟨mg tw1451 rfl, wiX12_sentence, wcX12_sentence, by decide +kernel, by decide +kernel⟩
theorem wiX11_say : Cond.initialized yX11_say.cls ∈ gtb := mg tw1 rfl
theorem wcX11_say : Cond.code yX11_say cX11_say 3 (some .int) ∈ gtb := mg tw657 rfl
theorem vlX11_say : VLk yX11_say 10 := ⟨mg tw655 rfl, mg tw656 rfl, _, _, rfl⟩
theorem mlL_38 : MLk RL 38 yX11_say cX11_say 3 (some .int) 2 := ⟨mg tw654 rfl, wiX11_say, wcX11_say, by decide +kernel, by decide +kernel⟩
theorem mlL_41 : MLk RL 41 yX12_say cX12_say 3 (some .int) 2 := ⟨mg tw1465 rfl, wiX12_say, wcX12_say, by decide +kernel, by decide +kernel⟩
theorem wiX11_heard : Cond.initialized yX11_heard.cls ∈ gtb := mg tw1 rfl
theorem wcX11_heard : Cond.code yX11_heard cX11_heard 2 (some .int) ∈ gtb := mg tw669 rfl
theorem vlX11_heard : VLk yX11_heard 10 := ⟨mg tw667 rfl, mg tw668 rfl, _, _, rfl⟩
theorem mlL_42 : MLk RL 42 yX11_heard cX11_heard 2 (some .int) 1 := ⟨mg tw666 rfl, wiX11_heard, wcX11_heard, by decide +kernel, by decide +kernel⟩
theorem wiX12_heard : Cond.initialized yX12_heard.cls ∈ gtb := mg tw12 rfl
theorem wcX12_heard : Cond.code yX12_heard cX12_heard 2 (some .int) ∈ gtb := mg tw1484 rfl
theorem vlX12_heard : VLk yX12_heard 11 := ⟨mg tw1482 rfl, mg tw1483 rfl, _, _, rfl⟩
theorem mlL_45 : MLk RL 45 yX12_heard cX12_heard 2 (some .int) 1 := ⟨mg tw1481 rfl, wiX12_heard, wcX12_heard, by decide +kernel, by decide +kernel⟩
theorem wiX11_hearing : Cond.initialized yX11_hearing.cls ∈ gtb := mg tw1 rfl
theorem wcX11_hearing : Cond.code yX11_hearing cX11_hearing 4 (some .int) ∈ gtb := mg tw710 rfl
theorem vlX11_hearing : VLk yX11_hearing 10 := ⟨mg tw708 rfl, mg tw709 rfl, _, _, rfl⟩
theorem mlL_46 : MLk RL 46 yX11_hearing cX11_hearing 4 (some .int) 3 := ⟨mg tw707 rfl, wiX11_hearing, wcX11_hearing, by decide +kernel, by decide +kernel⟩
theorem wiX12_hearing : Cond.initialized yX12_hearing.cls ∈ gtb := mg tw12 rfl
theorem wcX12_hearing : Cond.code yX12_hearing cX12_hearing 4 (some .int) ∈ gtb := mg tw1504 rfl
theorem vlX12_hearing : VLk yX12_hearing 11 := ⟨mg tw1502 rfl, mg tw1503 rfl, _, _, rfl⟩
theorem mlL_49 : MLk RL 49 yX12_hearing cX12_hearing 4 (some .int) 3 := ⟨mg tw1501 rfl, wiX12_hearing, wcX12_hearing, by decide +kernel, by decide +kernel⟩
theorem wiX11_way : Cond.initialized yX11_way.cls ∈ gtb := mg tw1 rfl
theorem wcX11_way : Cond.code yX11_way cX11_way 3 (some .int) ∈ gtb := mg tw762 rfl
theorem vlX11_way : VLk yX11_way 10 := ⟨mg tw760 rfl, mg tw761 rfl, _, _, rfl⟩
theorem mlL_50 : MLk RL 50 yX11_way cX11_way 3 (some .int) 2 := ⟨mg tw759 rfl, wiX11_way, wcX11_way, by decide +kernel, by decide +kernel⟩
theorem wiX12_way : Cond.initialized yX12_way.cls ∈ gtb := mg tw12 rfl
theorem wcX12_way : Cond.code yX12_way cX12_way 3 (some .int) ∈ gtb := mg tw1473 rfl
theorem vlX12_way : VLk yX12_way 11 := ⟨mg tw1471 rfl, mg tw1472 rfl, _, _, rfl⟩
theorem mlL_53 : MLk RL 53 yX12_way cX12_way 3 (some .int) 2 := ⟨mg tw1470 rfl, wiX12_way, wcX12_way, by decide +kernel, by decide +kernel⟩
theorem wiX11_meaning : Cond.initialized yX11_meaning.cls ∈ gtb := mg tw1 rfl
theorem wcX11_meaning : Cond.code yX11_meaning cX11_meaning 6 (some .int) ∈ gtb := mg tw767 rfl
theorem vlX11_meaning : VLk yX11_meaning 10 := ⟨mg tw765 rfl, mg tw766 rfl, _, _, rfl⟩
theorem mlL_54 : MLk RL 54 yX11_meaning cX11_meaning 6 (some .int) 5 := ⟨mg tw764 rfl, wiX11_meaning, wcX11_meaning, by decide +kernel, by decide +kernel⟩
theorem wiX12_meaning : Cond.initialized yX12_meaning.cls ∈ gtb := mg tw12 rfl
theorem wcX12_meaning : Cond.code yX12_meaning cX12_meaning 6 (some .int) ∈ gtb := mg tw1540 rfl
theorem vlX12_meaning : VLk yX12_meaning 11 := ⟨mg tw1538 rfl, mg tw1539 rfl, _, _, rfl⟩
theorem mlL_57 : MLk RL 57 yX12_meaning cX12_meaning 6 (some .int) 5 := ⟨mg tw1537 rfl, wiX12_meaning, wcX12_meaning, by decide +kernel, by decide +kernel⟩
theorem wiX11_read : Cond.initialized yX11_read.cls ∈ gtb := mg tw1 rfl
theorem wcX11_read : Cond.code yX11_read cX11_read 6 (some .long) ∈ gtb := mg tw771 rfl
theorem vlX11_read : VLk yX11_read 10 := ⟨mg tw769 rfl, mg tw770 rfl, _, _, rfl⟩
theorem mlL_58 : MLk RL 58 yX11_read cX11_read 6 (some .long) 3 := ⟨mg tw768 rfl, wiX11_read, wcX11_read, by decide +kernel, by decide +kernel⟩
theorem wiX12_read : Cond.initialized yX12_read.cls ∈ gtb := mg tw12 rfl
theorem wcX12_read : Cond.code yX12_read cX12_read 7 (some .long) ∈ gtb := mg tw1551 rfl
theorem vlX12_read : VLk yX12_read 11 := ⟨mg tw1549 rfl, mg tw1550 rfl, _, _, rfl⟩
theorem mlL_62 : MLk RL 62 yX12_read cX12_read 7 (some .long) 3 := ⟨mg tw1548 rfl, wiX12_read, wcX12_read, by decide +kernel, by decide +kernel⟩
theorem wiX11_missed : Cond.initialized yX11_missed.cls ∈ gtb := mg tw1 rfl
theorem wcX11_missed : Cond.code yX11_missed cX11_missed 7 (some .int) ∈ gtb := mg tw820 rfl
theorem vlX11_missed : VLk yX11_missed 10 := ⟨mg tw818 rfl, mg tw819 rfl, _, _, rfl⟩
theorem mlL_63 : MLk RL 63 yX11_missed cX11_missed 7 (some .int) 4 := ⟨mg tw817 rfl, wiX11_missed, wcX11_missed, by decide +kernel, by decide +kernel⟩
theorem wiX12_missed : Cond.initialized yX12_missed.cls ∈ gtb := mg tw12 rfl
theorem wcX12_missed : Cond.code yX12_missed cX12_missed 10 (some .int) ∈ gtb := mg tw1571 rfl
theorem vlX12_missed : VLk yX12_missed 11 := ⟨mg tw1569 rfl, mg tw1570 rfl, _, _, rfl⟩
theorem mlL_67 : MLk RL 67 yX12_missed cX12_missed 10 (some .int) 4 := ⟨mg tw1568 rfl, wiX12_missed, wcX12_missed, by decide +kernel, by decide +kernel⟩
theorem wiX11_soonest : Cond.initialized yX11_soonest.cls ∈ gtb := mg tw1 rfl
theorem wcX11_soonest : Cond.code yX11_soonest cX11_soonest 6 (some .int) ∈ gtb := mg tw849 rfl
theorem vlX11_soonest : VLk yX11_soonest 10 := ⟨mg tw847 rfl, mg tw848 rfl, _, _, rfl⟩
theorem mlL_68 : MLk RL 68 yX11_soonest cX11_soonest 6 (some .int) 2 := ⟨mg tw846 rfl, wiX11_soonest, wcX11_soonest, by decide +kernel, by decide +kernel⟩
theorem wiX12_soonest : Cond.initialized yX12_soonest.cls ∈ gtb := mg tw12 rfl
theorem wcX12_soonest : Cond.code yX12_soonest cX12_soonest 5 (some .int) ∈ gtb := mg tw1580 rfl
theorem vlX12_soonest : VLk yX12_soonest 11 := ⟨mg tw1578 rfl, mg tw1579 rfl, _, _, rfl⟩
theorem mlL_71 : MLk RL 71 yX12_soonest cX12_soonest 5 (some .int) 2 := ⟨mg tw1577 rfl, wiX12_soonest, wcX12_soonest, by decide +kernel, by decide +kernel⟩
theorem wiX11_byRules : Cond.initialized yX11_byRules.cls ∈ gtb := mg tw1 rfl
theorem wcX11_byRules : Cond.code yX11_byRules cX11_byRules 4 (some .int) ∈ gtb := mg tw957 rfl
theorem vlX11_byRules : VLk yX11_byRules 10 := ⟨mg tw955 rfl, mg tw956 rfl, _, _, rfl⟩
theorem mlL_72 : MLk RL 72 yX11_byRules cX11_byRules 4 (some .int) 3 := ⟨mg tw954 rfl, wiX11_byRules, wcX11_byRules, by decide +kernel, by decide +kernel⟩
theorem wiX12_byRules : Cond.initialized yX12_byRules.cls ∈ gtb := mg tw12 rfl
theorem wcX12_byRules : Cond.code yX12_byRules cX12_byRules 17 (some .int) ∈ gtb := mg tw1653 rfl
theorem vlX12_byRules : VLk yX12_byRules 11 := ⟨mg tw1651 rfl, mg tw1652 rfl, _, _, rfl⟩
theorem mlL_75 : MLk RL 75 yX12_byRules cX12_byRules 17 (some .int) 3 := ⟨mg tw1650 rfl, wiX12_byRules, wcX12_byRules, by decide +kernel, by decide +kernel⟩
theorem wiX11_table : Cond.initialized yX11_table.cls ∈ gtb := mg tw1 rfl
theorem wcX11_table : Cond.code yX11_table cX11_table 5 (some .int) ∈ gtb := mg tw987 rfl
theorem vlX11_table : VLk yX11_table 10 := ⟨mg tw985 rfl, mg tw986 rfl, _, _, rfl⟩
theorem mlL_76 : MLk RL 76 yX11_table cX11_table 5 (some .int) 3 := ⟨mg tw984 rfl, wiX11_table, wcX11_table, by decide +kernel, by decide +kernel⟩
theorem wiX12_table : Cond.initialized yX12_table.cls ∈ gtb := mg tw12 rfl
theorem wcX12_table : Cond.code yX12_table cX12_table 8 (some .int) ∈ gtb := mg tw1666 rfl
theorem vlX12_table : VLk yX12_table 11 := ⟨mg tw1664 rfl, mg tw1665 rfl, _, _, rfl⟩
theorem mlL_79 : MLk RL 79 yX12_table cX12_table 8 (some .int) 3 := ⟨mg tw1663 rfl, wiX12_table, wcX12_table, by decide +kernel, by decide +kernel⟩
theorem wiX11_alike : Cond.initialized yX11_alike.cls ∈ gtb := mg tw1 rfl
theorem wcX11_alike : Cond.code yX11_alike cX11_alike 4 (some .int) ∈ gtb := mg tw999 rfl
theorem vlX11_alike : VLk yX11_alike 10 := ⟨mg tw997 rfl, mg tw998 rfl, _, _, rfl⟩
theorem mlL_80 : MLk RL 80 yX11_alike cX11_alike 4 (some .int) 2 := ⟨mg tw996 rfl, wiX11_alike, wcX11_alike, by decide +kernel, by decide +kernel⟩
theorem wiX12_alike : Cond.initialized yX12_alike.cls ∈ gtb := mg tw12 rfl
theorem wcX12_alike : Cond.code yX12_alike cX12_alike 9 (some .int) ∈ gtb := mg tw1671 rfl
theorem vlX12_alike : VLk yX12_alike 11 := ⟨mg tw1669 rfl, mg tw1670 rfl, _, _, rfl⟩
theorem mlL_83 : MLk RL 83 yX12_alike cX12_alike 9 (some .int) 2 := ⟨mg tw1668 rfl, wiX12_alike, wcX12_alike, by decide +kernel, by decide +kernel⟩
theorem wiX11_seed : Cond.initialized yX11_seed.cls ∈ gtb := mg tw1 rfl
theorem wcX11_seed : Cond.code yX11_seed cX11_seed 2 (some .boolean) ∈ gtb := mg tw1025 rfl
theorem vlX11_seed : VLk yX11_seed 10 := ⟨mg tw1023 rfl, mg tw1024 rfl, _, _, rfl⟩
theorem mlL_84 : MLk RL 84 yX11_seed cX11_seed 2 (some .boolean) 1 := ⟨mg tw1022 rfl, wiX11_seed, wcX11_seed, by decide +kernel, by decide +kernel⟩
theorem wiX12_seed : Cond.initialized yX12_seed.cls ∈ gtb := mg tw12 rfl
theorem wcX12_seed : Cond.code yX12_seed cX12_seed 2 (some .boolean) ∈ gtb := mg tw1679 rfl
theorem vlX12_seed : VLk yX12_seed 11 := ⟨mg tw1677 rfl, mg tw1678 rfl, _, _, rfl⟩
theorem mlL_88 : MLk RL 88 yX12_seed cX12_seed 2 (some .boolean) 1 := ⟨mg tw1676 rfl, wiX12_seed, wcX12_seed, by decide +kernel, by decide +kernel⟩
theorem wiX11_draw : Cond.initialized yX11_draw.cls ∈ gtb := mg tw1 rfl
theorem wcX11_draw : Cond.code yX11_draw cX11_draw 2 (some .int) ∈ gtb := mg tw1030 rfl
theorem vlX11_draw : VLk yX11_draw 10 := ⟨mg tw1028 rfl, mg tw1029 rfl, _, _, rfl⟩
theorem mlL_89 : MLk RL 89 yX11_draw cX11_draw 2 (some .int) 1 := ⟨mg tw1027 rfl, wiX11_draw, wcX11_draw, by decide +kernel, by decide +kernel⟩
theorem wiX12_draw : Cond.initialized yX12_draw.cls ∈ gtb := mg tw12 rfl
theorem wcX12_draw : Cond.code yX12_draw cX12_draw 7 (some .int) ∈ gtb := mg tw1684 rfl
theorem vlX12_draw : VLk yX12_draw 11 := ⟨mg tw1682 rfl, mg tw1683 rfl, _, _, rfl⟩
theorem mlL_92 : MLk RL 92 yX12_draw cX12_draw 7 (some .int) 1 := ⟨mg tw1681 rfl, wiX12_draw, wcX12_draw, by decide +kernel, by decide +kernel⟩
theorem wiX11_keep : Cond.initialized yX11_keep.cls ∈ gtb := mg tw1 rfl
theorem wcX11_keep : Cond.code yX11_keep cX11_keep 1 (some .int) ∈ gtb := mg tw1045 rfl
theorem vlX11_keep : VLk yX11_keep 10 := ⟨mg tw1043 rfl, mg tw1044 rfl, _, _, rfl⟩
theorem mlL_93 : MLk RL 93 yX11_keep cX11_keep 1 (some .int) 0 := ⟨mg tw1042 rfl, wiX11_keep, wcX11_keep, by decide +kernel, by decide +kernel⟩
theorem wiX12_keep : Cond.initialized yX12_keep.cls ∈ gtb := mg tw12 rfl
theorem wcX12_keep : Cond.code yX12_keep cX12_keep 2 (some .int) ∈ gtb := mg tw1690 rfl
theorem vlX12_keep : VLk yX12_keep 11 := ⟨mg tw1688 rfl, mg tw1689 rfl, _, _, rfl⟩
theorem mlL_97 : MLk RL 97 yX12_keep cX12_keep 2 (some .int) 0 := ⟨mg tw1687 rfl, wiX12_keep, wcX12_keep, by decide +kernel, by decide +kernel⟩
theorem wiX11_undo : Cond.initialized yX11_undo.cls ∈ gtb := mg tw1 rfl
theorem wcX11_undo : Cond.code yX11_undo cX11_undo 1 (some .boolean) ∈ gtb := mg tw1056 rfl
theorem vlX11_undo : VLk yX11_undo 10 := ⟨mg tw1054 rfl, mg tw1055 rfl, _, _, rfl⟩
theorem mlL_98 : MLk RL 98 yX11_undo cX11_undo 1 (some .boolean) 0 := ⟨mg tw1053 rfl, wiX11_undo, wcX11_undo, by decide +kernel, by decide +kernel⟩
theorem wiX12_undo : Cond.initialized yX12_undo.cls ∈ gtb := mg tw12 rfl
theorem wcX12_undo : Cond.code yX12_undo cX12_undo 2 (some .boolean) ∈ gtb := mg tw1694 rfl
theorem vlX12_undo : VLk yX12_undo 11 := ⟨mg tw1692 rfl, mg tw1693 rfl, _, _, rfl⟩
theorem mlL_102 : MLk RL 102 yX12_undo cX12_undo 2 (some .boolean) 0 := ⟨mg tw1691 rfl, wiX12_undo, wcX12_undo, by decide +kernel, by decide +kernel⟩
theorem wiX11_quiet : Cond.initialized yX11_quiet.cls ∈ gtb := mg tw1 rfl
theorem wcX11_quiet : Cond.code yX11_quiet cX11_quiet 2 (some .int) ∈ gtb := mg tw1064 rfl
theorem vlX11_quiet : VLk yX11_quiet 10 := ⟨mg tw1062 rfl, mg tw1063 rfl, _, _, rfl⟩
theorem mlL_103 : MLk RL 103 yX11_quiet cX11_quiet 2 (some .int) 0 := ⟨mg tw1061 rfl, wiX11_quiet, wcX11_quiet, by decide +kernel, by decide +kernel⟩
theorem wiX12_quiet : Cond.initialized yX12_quiet.cls ∈ gtb := mg tw12 rfl
theorem wcX12_quiet : Cond.code yX12_quiet cX12_quiet 2 (some .int) ∈ gtb := mg tw1698 rfl
theorem vlX12_quiet : VLk yX12_quiet 11 := ⟨mg tw1696 rfl, mg tw1697 rfl, _, _, rfl⟩
theorem mlL_106 : MLk RL 106 yX12_quiet cX12_quiet 2 (some .int) 0 := ⟨mg tw1695 rfl, wiX12_quiet, wcX12_quiet, by decide +kernel, by decide +kernel⟩
theorem wiX11_said : Cond.initialized yX11_said.cls ∈ gtb := mg tw1 rfl
theorem wcX11_said : Cond.code yX11_said cX11_said 3 (some .int) ∈ gtb := mg tw1068 rfl
theorem vlX11_said : VLk yX11_said 10 := ⟨mg tw1066 rfl, mg tw1067 rfl, _, _, rfl⟩
theorem mlL_107 : MLk RL 107 yX11_said cX11_said 3 (some .int) 2 := ⟨mg tw1065 rfl, wiX11_said, wcX11_said, by decide +kernel, by decide +kernel⟩
theorem wiX12_said : Cond.initialized yX12_said.cls ∈ gtb := mg tw12 rfl
theorem wcX12_said : Cond.code yX12_said cX12_said 7 (some .int) ∈ gtb := mg tw1546 rfl
theorem vlX12_said : VLk yX12_said 11 := ⟨mg tw1544 rfl, mg tw1545 rfl, _, _, rfl⟩
theorem mlL_110 : MLk RL 110 yX12_said cX12_said 7 (some .int) 2 := ⟨mg tw1543 rfl, wiX12_said, wcX12_said, by decide +kernel, by decide +kernel⟩
theorem wiX11_check : Cond.initialized yX11_check.cls ∈ gtb := mg tw1 rfl
theorem wcX11_check : Cond.code yX11_check cX11_check 4 (some .int) ∈ gtb := mg tw1082 rfl
theorem vlX11_check : VLk yX11_check 10 := ⟨mg tw1080 rfl, mg tw1081 rfl, _, _, rfl⟩
theorem mlL_111 : MLk RL 111 yX11_check cX11_check 4 (some .int) 2 := ⟨mg tw1079 rfl, wiX11_check, wcX11_check, by decide +kernel, by decide +kernel⟩
theorem wiX12_check : Cond.initialized yX12_check.cls ∈ gtb := mg tw12 rfl
theorem wcX12_check : Cond.code yX12_check cX12_check 4 (some .int) ∈ gtb := mg tw1702 rfl
theorem vlX12_check : VLk yX12_check 11 := ⟨mg tw1700 rfl, mg tw1701 rfl, _, _, rfl⟩
theorem mlL_114 : MLk RL 114 yX12_check cX12_check 4 (some .int) 2 := ⟨mg tw1699 rfl, wiX12_check, wcX12_check, by decide +kernel, by decide +kernel⟩
theorem wiX11_count : Cond.initialized yX11_count.cls ∈ gtb := mg tw1 rfl
theorem wcX11_count : Cond.code yX11_count cX11_count 2 (some .int) ∈ gtb := mg tw1095 rfl
theorem vlX11_count : VLk yX11_count 10 := ⟨mg tw1093 rfl, mg tw1094 rfl, _, _, rfl⟩
theorem mlL_115 : MLk RL 115 yX11_count cX11_count 2 (some .int) 1 := ⟨mg tw1092 rfl, wiX11_count, wcX11_count, by decide +kernel, by decide +kernel⟩
theorem wiX12_count : Cond.initialized yX12_count.cls ∈ gtb := mg tw12 rfl
theorem wcX12_count : Cond.code yX12_count cX12_count 2 (some .int) ∈ gtb := mg tw1710 rfl
theorem vlX12_count : VLk yX12_count 11 := ⟨mg tw1708 rfl, mg tw1709 rfl, _, _, rfl⟩
theorem mlL_118 : MLk RL 118 yX12_count cX12_count 2 (some .int) 1 := ⟨mg tw1707 rfl, wiX12_count, wcX12_count, by decide +kernel, by decide +kernel⟩
