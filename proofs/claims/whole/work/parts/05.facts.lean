theorem kc_X0 : vv_Kc 0 RX0 TX0 5 := ⟨rfl, fun w h => List.mem_filter.mpr ⟨(goodIn_r wsX00 [255, 257, 259, 261, 263] (by decide +kernel) (by decide +kernel) w h).1, List.all_eq_true.mp (show wsX00.all goodWord = true by decide +kernel) w h⟩, nmX0, tyX0, tyX0_ok⟩
theorem pf_X0_4 : parseFieldDescriptor (TX0 4).2.2.1 = some .int ∧ (TX0 4).2.2.2 = false := ⟨by decide +kernel, rfl⟩
theorem kc_X1 : vv_Kc 1 RX1 TX1 8 := ⟨rfl, fun w h => List.mem_filter.mpr ⟨(goodIn_r wsX10 [117, 119, 121, 123, 125, 127, 129, 131] (by decide +kernel) (by decide +kernel) w h).1, List.all_eq_true.mp (show wsX10.all goodWord = true by decide +kernel) w h⟩, nmX1, tyX1, tyX1_ok⟩
theorem pf_X1_2 : parseFieldDescriptor (TX1 2).2.2.1 = some .int ∧ (TX1 2).2.2.2 = false := ⟨by decide +kernel, rfl⟩
theorem pf_X1_6 : parseFieldDescriptor (TX1 6).2.2.1 = some .int ∧ (TX1 6).2.2.2 = false := ⟨by decide +kernel, rfl⟩
theorem kc_X2 : vv_Kc 2 RX2 TX2 6 := ⟨rfl, fun w h => List.mem_filter.mpr ⟨(goodIn_r wsX20 [148, 150, 152, 154, 156, 158] (by decide +kernel) (by decide +kernel) w h).1, List.all_eq_true.mp (show wsX20.all goodWord = true by decide +kernel) w h⟩, nmX2, tyX2, tyX2_ok⟩
theorem pf_X2_1 : parseFieldDescriptor (TX2 1).2.2.1 = some .int ∧ (TX2 1).2.2.2 = false := ⟨by decide +kernel, rfl⟩
theorem pf_X2_4 : parseFieldDescriptor (TX2 4).2.2.1 = some .int ∧ (TX2 4).2.2.2 = false := ⟨by decide +kernel, rfl⟩
theorem kc_X3 : vv_Kc 3 RX3 TX3 16 := ⟨rfl, fun w h => List.mem_filter.mpr ⟨(goodIn_r wsX30 [211, 213, 215, 217, 219, 221, 223, 225, 227, 229, 231, 233, 235, 237, 239, 241] (by decide +kernel) (by decide +kernel) w h).1, List.all_eq_true.mp (show wsX30.all goodWord = true by decide +kernel) w h⟩, nmX3, tyX3, tyX3_ok⟩
theorem pf_X3_4 : parseFieldDescriptor (TX3 4).2.2.1 = some .int ∧ (TX3 4).2.2.2 = false := ⟨by decide +kernel, rfl⟩
theorem pf_X3_5 : parseFieldDescriptor (TX3 5).2.2.1 = some .int ∧ (TX3 5).2.2.2 = false := ⟨by decide +kernel, rfl⟩
theorem pf_X3_6 : parseFieldDescriptor (TX3 6).2.2.1 = some .int ∧ (TX3 6).2.2.2 = false := ⟨by decide +kernel, rfl⟩
theorem pf_X3_7 : parseFieldDescriptor (TX3 7).2.2.1 = some .int ∧ (TX3 7).2.2.2 = false := ⟨by decide +kernel, rfl⟩
theorem pf_X3_8 : parseFieldDescriptor (TX3 8).2.2.1 = some .int ∧ (TX3 8).2.2.2 = false := ⟨by decide +kernel, rfl⟩
theorem pf_X3_9 : parseFieldDescriptor (TX3 9).2.2.1 = some .int ∧ (TX3 9).2.2.2 = false := ⟨by decide +kernel, rfl⟩
theorem pf_X3_10 : parseFieldDescriptor (TX3 10).2.2.1 = some .int ∧ (TX3 10).2.2.2 = false := ⟨by decide +kernel, rfl⟩
theorem pf_X3_11 : parseFieldDescriptor (TX3 11).2.2.1 = some .int ∧ (TX3 11).2.2.2 = false := ⟨by decide +kernel, rfl⟩
theorem pf_X3_12 : parseFieldDescriptor (TX3 12).2.2.1 = some .int ∧ (TX3 12).2.2.2 = false := ⟨by decide +kernel, rfl⟩
theorem pf_X3_13 : parseFieldDescriptor (TX3 13).2.2.1 = some .int ∧ (TX3 13).2.2.2 = false := ⟨by decide +kernel, rfl⟩
theorem pf_X3_14 : parseFieldDescriptor (TX3 14).2.2.1 = some .int ∧ (TX3 14).2.2.2 = false := ⟨by decide +kernel, rfl⟩
theorem pf_X3_15 : parseFieldDescriptor (TX3 15).2.2.1 = some .int ∧ (TX3 15).2.2.2 = false := ⟨by decide +kernel, rfl⟩
theorem kc_X4 : vv_Kc 4 RX4 TX4 9 := ⟨rfl, fun w h => List.mem_filter.mpr ⟨(goodIn_r wsX40 [170, 172, 174, 176, 178, 180, 182, 184, 186] (by decide +kernel) (by decide +kernel) w h).1, List.all_eq_true.mp (show wsX40.all goodWord = true by decide +kernel) w h⟩, nmX4, tyX4, tyX4_ok⟩
theorem pf_X4_2 : parseFieldDescriptor (TX4 2).2.2.1 = some .int ∧ (TX4 2).2.2.2 = false := ⟨by decide +kernel, rfl⟩
theorem pf_X4_3 : parseFieldDescriptor (TX4 3).2.2.1 = some .int ∧ (TX4 3).2.2.2 = false := ⟨by decide +kernel, rfl⟩
theorem pf_X4_4 : parseFieldDescriptor (TX4 4).2.2.1 = some .int ∧ (TX4 4).2.2.2 = false := ⟨by decide +kernel, rfl⟩
theorem pf_X4_5 : parseFieldDescriptor (TX4 5).2.2.1 = some .int ∧ (TX4 5).2.2.2 = false := ⟨by decide +kernel, rfl⟩
theorem pf_X4_6 : parseFieldDescriptor (TX4 6).2.2.1 = some .int ∧ (TX4 6).2.2.2 = false := ⟨by decide +kernel, rfl⟩
theorem kc_X5 : vv_Kc 5 RX5 TX5 2 := ⟨rfl, fun w h => List.mem_filter.mpr ⟨(goodIn_r wsX50 [291, 293] (by decide +kernel) (by decide +kernel) w h).1, List.all_eq_true.mp (show wsX50.all goodWord = true by decide +kernel) w h⟩, nmX5, tyX5, tyX5_ok⟩
theorem pf_X5_1 : parseFieldDescriptor (TX5 1).2.2.1 = some .int ∧ (TX5 1).2.2.2 = false := ⟨by decide +kernel, rfl⟩
theorem kc_X6 : vv_Kc 6 RX6 TX6 3 := ⟨rfl, fun w h => List.mem_filter.mpr ⟨(goodIn_r wsX60 [276, 278, 280] (by decide +kernel) (by decide +kernel) w h).1, List.all_eq_true.mp (show wsX60.all goodWord = true by decide +kernel) w h⟩, nmX6, tyX6, tyX6_ok⟩
theorem pf_X6_2 : parseFieldDescriptor (TX6 2).2.2.1 = some .int ∧ (TX6 2).2.2.2 = false := ⟨by decide +kernel, rfl⟩
theorem kc_X7 : vv_Kc 7 RX7 TX7 4 := ⟨rfl, fun w h => List.mem_filter.mpr ⟨(goodIn_r wsX70 [87, 89, 91, 93] (by decide +kernel) (by decide +kernel) w h).1, List.all_eq_true.mp (show wsX70.all goodWord = true by decide +kernel) w h⟩, nmX7, tyX7, tyX7_ok⟩
theorem pf_X7_1 : parseFieldDescriptor (TX7 1).2.2.1 = some .int ∧ (TX7 1).2.2.2 = false := ⟨by decide +kernel, rfl⟩
theorem pf_X7_3 : parseFieldDescriptor (TX7 3).2.2.1 = some .int ∧ (TX7 3).2.2.2 = false := ⟨by decide +kernel, rfl⟩
theorem kc_X8 : vv_Kc 8 RX8 TX8 11 := ⟨rfl, fun w h => List.mem_filter.mpr ⟨(goodIn_r wsX80 [498, 500, 502, 504, 506, 508, 510, 512, 514, 516, 518] (by decide +kernel) (by decide +kernel) w h).1, List.all_eq_true.mp (show wsX80.all goodWord = true by decide +kernel) w h⟩, nmX8, tyX8, tyX8_ok⟩
theorem pf_X8_7 : parseFieldDescriptor (TX8 7).2.2.1 = some .int ∧ (TX8 7).2.2.2 = false := ⟨by decide +kernel, rfl⟩
theorem kc_X9 : vv_Kc 9 RX9 TX9 48 := ⟨rfl, fun w h => List.mem_filter.mpr ⟨(goodIn_r wsX90 [1032, 1034, 1036, 1038, 1040, 1042, 1044, 1046, 1048, 1050, 1052, 1054, 1056, 1058, 1060, 1062, 1064, 1066, 1068, 1070, 1072, 1074, 1076, 1078, 1080, 1082, 1084, 1086, 1088, 1090, 1092, 1094, 1096, 1098, 1100, 1102, 1104, 1106, 1108, 1110, 1112, 1114, 1116, 1118, 1120, 1122, 1124, 1126] (by decide +kernel) (by decide +kernel) w h).1, List.all_eq_true.mp (show wsX90.all goodWord = true by decide +kernel) w h⟩, nmX9, tyX9, tyX9_ok⟩
theorem pf_X9_0 : parseFieldDescriptor (TX9 0).2.2.1 = some .int ∧ (TX9 0).2.2.2 = false := ⟨by decide +kernel, rfl⟩
theorem pf_X9_25 : parseFieldDescriptor (TX9 25).2.2.1 = some .int ∧ (TX9 25).2.2.2 = false := ⟨by decide +kernel, rfl⟩
theorem pf_X9_26 : parseFieldDescriptor (TX9 26).2.2.1 = some .int ∧ (TX9 26).2.2.2 = false := ⟨by decide +kernel, rfl⟩
theorem pf_X9_29 : parseFieldDescriptor (TX9 29).2.2.1 = some .int ∧ (TX9 29).2.2.2 = false := ⟨by decide +kernel, rfl⟩
theorem pf_X9_38 : parseFieldDescriptor (TX9 38).2.2.1 = some .int ∧ (TX9 38).2.2.2 = false := ⟨by decide +kernel, rfl⟩
theorem pf_X9_39 : parseFieldDescriptor (TX9 39).2.2.1 = some .int ∧ (TX9 39).2.2.2 = false := ⟨by decide +kernel, rfl⟩
theorem pf_X9_40 : parseFieldDescriptor (TX9 40).2.2.1 = some .int ∧ (TX9 40).2.2.2 = false := ⟨by decide +kernel, rfl⟩
theorem pf_X9_41 : parseFieldDescriptor (TX9 41).2.2.1 = some .int ∧ (TX9 41).2.2.2 = false := ⟨by decide +kernel, rfl⟩
theorem pf_X9_47 : parseFieldDescriptor (TX9 47).2.2.1 = some .int ∧ (TX9 47).2.2.2 = false := ⟨by decide +kernel, rfl⟩
theorem fk_X0_9 : Cond.fieldLink RX0 9 (TX0 0).1 (TX0 0).2.1 (TX0 0).2.2.1 ∈ lw_ok := lw_ok_in (lw_g1 (List.mem_of_getElem? (i := 197) rfl)) rfl
theorem fk_X0_15 : Cond.fieldLink RX0 15 (TX0 1).1 (TX0 1).2.1 (TX0 1).2.2.1 ∈ lw_ok := lw_ok_in (lw_g1 (List.mem_of_getElem? (i := 198) rfl)) rfl
theorem fk_X0_18 : Cond.fieldLink RX0 18 (TX0 2).1 (TX0 2).2.1 (TX0 2).2.2.1 ∈ lw_ok := lw_ok_in (lw_g1 (List.mem_of_getElem? (i := 199) rfl)) rfl
theorem fk_X0_21 : Cond.fieldLink RX0 21 (TX0 3).1 (TX0 3).2.1 (TX0 3).2.2.1 ∈ lw_ok := lw_ok_in (lw_g1 (List.mem_of_getElem? (i := 200) rfl)) rfl
theorem fk_X0_24 : Cond.fieldLink RX0 24 (TX0 4).1 (TX0 4).2.1 (TX0 4).2.2.1 ∈ lw_ok := lw_ok_in (lw_g1 (List.mem_of_getElem? (i := 201) rfl)) rfl
theorem fk_X1_9 : Cond.fieldLink RX1 9 (TX1 0).1 (TX1 0).2.1 (TX1 0).2.2.1 ∈ lw_ok := lw_ok_in (lw_g1 (List.mem_of_getElem? (i := 56) rfl)) rfl
theorem fk_X1_15 : Cond.fieldLink RX1 15 (TX1 1).1 (TX1 1).2.1 (TX1 1).2.2.1 ∈ lw_ok := lw_ok_in (lw_g1 (List.mem_of_getElem? (i := 57) rfl)) rfl
theorem fk_X1_18 : Cond.fieldLink RX1 18 (TX1 3).1 (TX1 3).2.1 (TX1 3).2.2.1 ∈ lw_ok := lw_ok_in (lw_g1 (List.mem_of_getElem? (i := 59) rfl)) rfl
theorem fk_X1_21 : Cond.fieldLink RX1 21 (TX1 4).1 (TX1 4).2.1 (TX1 4).2.2.1 ∈ lw_ok := lw_ok_in (lw_g1 (List.mem_of_getElem? (i := 60) rfl)) rfl
theorem fk_X1_24 : Cond.fieldLink RX1 24 (TX1 5).1 (TX1 5).2.1 (TX1 5).2.2.1 ∈ lw_ok := lw_ok_in (lw_g1 (List.mem_of_getElem? (i := 61) rfl)) rfl
theorem fk_X1_27 : Cond.fieldLink RX1 27 (TX1 7).1 (TX1 7).2.1 (TX1 7).2.2.1 ∈ lw_ok := lw_ok_in (lw_g1 (List.mem_of_getElem? (i := 63) rfl)) rfl
theorem fk_X1_30 : Cond.fieldLink RX1 30 (TX1 2).1 (TX1 2).2.1 (TX1 2).2.2.1 ∈ lw_ok := lw_ok_in (lw_g1 (List.mem_of_getElem? (i := 58) rfl)) rfl
theorem fk_X1_34 : Cond.fieldLink RX1 34 (TX1 6).1 (TX1 6).2.1 (TX1 6).2.2.1 ∈ lw_ok := lw_ok_in (lw_g1 (List.mem_of_getElem? (i := 62) rfl)) rfl
theorem fk_X2_11 : Cond.fieldLink RX2 11 (TX2 0).1 (TX2 0).2.1 (TX2 0).2.2.1 ∈ lw_ok := lw_ok_in (lw_g1 (List.mem_of_getElem? (i := 89) rfl)) rfl
theorem fk_X2_16 : Cond.fieldLink RX2 16 (TX2 2).1 (TX2 2).2.1 (TX2 2).2.2.1 ∈ lw_ok := lw_ok_in (lw_g1 (List.mem_of_getElem? (i := 91) rfl)) rfl
theorem fk_X2_20 : Cond.fieldLink RX2 20 (TX2 3).1 (TX2 3).2.1 (TX2 3).2.2.1 ∈ lw_ok := lw_ok_in (lw_g1 (List.mem_of_getElem? (i := 92) rfl)) rfl
theorem fk_X2_23 : Cond.fieldLink RX2 23 (TX2 5).1 (TX2 5).2.1 (TX2 5).2.2.1 ∈ lw_ok := lw_ok_in (lw_g1 (List.mem_of_getElem? (i := 94) rfl)) rfl
theorem fk_X2_26 : Cond.fieldLink RX2 26 (TX2 1).1 (TX2 1).2.1 (TX2 1).2.2.1 ∈ lw_ok := lw_ok_in (lw_g1 (List.mem_of_getElem? (i := 90) rfl)) rfl
theorem fk_X2_30 : Cond.fieldLink RX2 30 (TX2 4).1 (TX2 4).2.1 (TX2 4).2.2.1 ∈ lw_ok := lw_ok_in (lw_g1 (List.mem_of_getElem? (i := 93) rfl)) rfl
theorem fk_X3_9 : Cond.fieldLink RX3 9 (TX3 1).1 (TX3 1).2.1 (TX3 1).2.2.1 ∈ lw_ok := lw_ok_in (lw_g1 (List.mem_of_getElem? (i := 143) rfl)) rfl
theorem fk_X3_15 : Cond.fieldLink RX3 15 (TX3 2).1 (TX3 2).2.1 (TX3 2).2.2.1 ∈ lw_ok := lw_ok_in (lw_g1 (List.mem_of_getElem? (i := 144) rfl)) rfl
theorem fk_X3_18 : Cond.fieldLink RX3 18 (TX3 3).1 (TX3 3).2.1 (TX3 3).2.2.1 ∈ lw_ok := lw_ok_in (lw_g1 (List.mem_of_getElem? (i := 145) rfl)) rfl
theorem fk_X3_21 : Cond.fieldLink RX3 21 (TX3 0).1 (TX3 0).2.1 (TX3 0).2.2.1 ∈ lw_ok := lw_ok_in (lw_g1 (List.mem_of_getElem? (i := 142) rfl)) rfl
theorem fk_X3_34 : Cond.fieldLink RX3 34 (TX3 4).1 (TX3 4).2.1 (TX3 4).2.2.1 ∈ lw_ok := lw_ok_in (lw_g1 (List.mem_of_getElem? (i := 146) rfl)) rfl
theorem fk_X3_38 : Cond.fieldLink RX3 38 (TX3 5).1 (TX3 5).2.1 (TX3 5).2.2.1 ∈ lw_ok := lw_ok_in (lw_g1 (List.mem_of_getElem? (i := 147) rfl)) rfl
theorem fk_X3_41 : Cond.fieldLink RX3 41 (TX3 6).1 (TX3 6).2.1 (TX3 6).2.2.1 ∈ lw_ok := lw_ok_in (lw_g1 (List.mem_of_getElem? (i := 148) rfl)) rfl
theorem fk_X3_44 : Cond.fieldLink RX3 44 (TX3 7).1 (TX3 7).2.1 (TX3 7).2.2.1 ∈ lw_ok := lw_ok_in (lw_g1 (List.mem_of_getElem? (i := 149) rfl)) rfl
theorem fk_X3_63 : Cond.fieldLink RX3 63 (TX3 8).1 (TX3 8).2.1 (TX3 8).2.2.1 ∈ lw_ok := lw_ok_in (lw_g1 (List.mem_of_getElem? (i := 150) rfl)) rfl
theorem fk_X3_66 : Cond.fieldLink RX3 66 (TX3 9).1 (TX3 9).2.1 (TX3 9).2.2.1 ∈ lw_ok := lw_ok_in (lw_g1 (List.mem_of_getElem? (i := 151) rfl)) rfl
theorem fk_X3_69 : Cond.fieldLink RX3 69 (TX3 11).1 (TX3 11).2.1 (TX3 11).2.2.1 ∈ lw_ok := lw_ok_in (lw_g1 (List.mem_of_getElem? (i := 153) rfl)) rfl
theorem fk_X3_72 : Cond.fieldLink RX3 72 (TX3 12).1 (TX3 12).2.1 (TX3 12).2.2.1 ∈ lw_ok := lw_ok_in (lw_g1 (List.mem_of_getElem? (i := 154) rfl)) rfl
theorem fk_X3_81 : Cond.fieldLink RX3 81 (TX3 10).1 (TX3 10).2.1 (TX3 10).2.2.1 ∈ lw_ok := lw_ok_in (lw_g1 (List.mem_of_getElem? (i := 152) rfl)) rfl
theorem fk_X3_99 : Cond.fieldLink RX3 99 (TX3 13).1 (TX3 13).2.1 (TX3 13).2.2.1 ∈ lw_ok := lw_ok_in (lw_g1 (List.mem_of_getElem? (i := 155) rfl)) rfl
theorem fk_X3_102 : Cond.fieldLink RX3 102 (TX3 14).1 (TX3 14).2.1 (TX3 14).2.2.1 ∈ lw_ok := lw_ok_in (lw_g1 (List.mem_of_getElem? (i := 156) rfl)) rfl
theorem fk_X3_105 : Cond.fieldLink RX3 105 (TX3 15).1 (TX3 15).2.1 (TX3 15).2.2.1 ∈ lw_ok := lw_ok_in (lw_g1 (List.mem_of_getElem? (i := 157) rfl)) rfl
theorem fk_X4_9 : Cond.fieldLink RX4 9 (TX4 0).1 (TX4 0).2.1 (TX4 0).2.2.1 ∈ lw_ok := lw_ok_in (lw_g1 (List.mem_of_getElem? (i := 108) rfl)) rfl
theorem fk_X4_15 : Cond.fieldLink RX4 15 (TX4 1).1 (TX4 1).2.1 (TX4 1).2.2.1 ∈ lw_ok := lw_ok_in (lw_g1 (List.mem_of_getElem? (i := 109) rfl)) rfl
theorem fk_X4_21 : Cond.fieldLink RX4 21 (TX4 7).1 (TX4 7).2.1 (TX4 7).2.2.1 ∈ lw_ok := lw_ok_in (lw_g1 (List.mem_of_getElem? (i := 115) rfl)) rfl
theorem fk_X4_28 : Cond.fieldLink RX4 28 (TX4 8).1 (TX4 8).2.1 (TX4 8).2.2.1 ∈ lw_ok := lw_ok_in (lw_g1 (List.mem_of_getElem? (i := 116) rfl)) rfl
theorem fk_X4_55 : Cond.fieldLink RX4 55 (TX4 2).1 (TX4 2).2.1 (TX4 2).2.2.1 ∈ lw_ok := lw_ok_in (lw_g1 (List.mem_of_getElem? (i := 110) rfl)) rfl
theorem fk_X4_59 : Cond.fieldLink RX4 59 (TX4 3).1 (TX4 3).2.1 (TX4 3).2.2.1 ∈ lw_ok := lw_ok_in (lw_g1 (List.mem_of_getElem? (i := 111) rfl)) rfl
theorem fk_X4_62 : Cond.fieldLink RX4 62 (TX4 4).1 (TX4 4).2.1 (TX4 4).2.2.1 ∈ lw_ok := lw_ok_in (lw_g1 (List.mem_of_getElem? (i := 112) rfl)) rfl
theorem fk_X4_65 : Cond.fieldLink RX4 65 (TX4 5).1 (TX4 5).2.1 (TX4 5).2.2.1 ∈ lw_ok := lw_ok_in (lw_g1 (List.mem_of_getElem? (i := 113) rfl)) rfl
theorem fk_X4_68 : Cond.fieldLink RX4 68 (TX4 6).1 (TX4 6).2.1 (TX4 6).2.2.1 ∈ lw_ok := lw_ok_in (lw_g1 (List.mem_of_getElem? (i := 114) rfl)) rfl
theorem fk_X5_9 : Cond.fieldLink RX5 9 (TX5 0).1 (TX5 0).2.1 (TX5 0).2.2.1 ∈ lw_ok := lw_ok_in (lw_g1 (List.mem_of_getElem? (i := 236) rfl)) rfl
theorem fk_X5_21 : Cond.fieldLink RX5 21 (TX5 1).1 (TX5 1).2.1 (TX5 1).2.2.1 ∈ lw_ok := lw_ok_in (lw_g1 (List.mem_of_getElem? (i := 237) rfl)) rfl
theorem fk_X6_9 : Cond.fieldLink RX6 9 (TX6 0).1 (TX6 0).2.1 (TX6 0).2.2.1 ∈ lw_ok := lw_ok_in (lw_g1 (List.mem_of_getElem? (i := 220) rfl)) rfl
theorem fk_X6_15 : Cond.fieldLink RX6 15 (TX6 1).1 (TX6 1).2.1 (TX6 1).2.2.1 ∈ lw_ok := lw_ok_in (lw_g1 (List.mem_of_getElem? (i := 221) rfl)) rfl
theorem fk_X6_18 : Cond.fieldLink RX6 18 (TX6 2).1 (TX6 2).2.1 (TX6 2).2.2.1 ∈ lw_ok := lw_ok_in (lw_g1 (List.mem_of_getElem? (i := 222) rfl)) rfl
theorem fk_X7_9 : Cond.fieldLink RX7 9 (TX7 0).1 (TX7 0).2.1 (TX7 0).2.2.1 ∈ lw_ok := lw_ok_in (lw_g1 (List.mem_of_getElem? (i := 30) rfl)) rfl
theorem fk_X7_15 : Cond.fieldLink RX7 15 (TX7 2).1 (TX7 2).2.1 (TX7 2).2.2.1 ∈ lw_ok := lw_ok_in (lw_g1 (List.mem_of_getElem? (i := 32) rfl)) rfl
theorem fk_X7_18 : Cond.fieldLink RX7 18 (TX7 1).1 (TX7 1).2.1 (TX7 1).2.2.1 ∈ lw_ok := lw_ok_in (lw_g1 (List.mem_of_getElem? (i := 31) rfl)) rfl
theorem fk_X7_22 : Cond.fieldLink RX7 22 (TX7 3).1 (TX7 3).2.1 (TX7 3).2.2.1 ∈ lw_ok := lw_ok_in (lw_g1 (List.mem_of_getElem? (i := 33) rfl)) rfl
theorem fk_X8_10 : Cond.fieldLink RX8 10 (TX8 0).1 (TX8 0).2.1 (TX8 0).2.2.1 ∈ lw_ok := lw_ok_in (lw_g2 (List.mem_of_getElem? (i := 194) rfl)) rfl
theorem fk_X8_19 : Cond.fieldLink RX8 19 (TX8 1).1 (TX8 1).2.1 (TX8 1).2.2.1 ∈ lw_ok := lw_ok_in (lw_g2 (List.mem_of_getElem? (i := 195) rfl)) rfl
theorem fk_X8_23 : Cond.fieldLink RX8 23 (TX8 2).1 (TX8 2).2.1 (TX8 2).2.2.1 ∈ lw_ok := lw_ok_in (lw_g2 (List.mem_of_getElem? (i := 196) rfl)) rfl
theorem fk_X8_31 : Cond.fieldLink RX8 31 (TX8 3).1 (TX8 3).2.1 (TX8 3).2.2.1 ∈ lw_ok := lw_ok_in (lw_g2 (List.mem_of_getElem? (i := 197) rfl)) rfl
theorem fk_X8_35 : Cond.fieldLink RX8 35 (TX8 4).1 (TX8 4).2.1 (TX8 4).2.2.1 ∈ lw_ok := lw_ok_in (lw_g2 (List.mem_of_getElem? (i := 198) rfl)) rfl
theorem fk_X8_41 : Cond.fieldLink RX8 41 (TX8 5).1 (TX8 5).2.1 (TX8 5).2.2.1 ∈ lw_ok := lw_ok_in (lw_g2 (List.mem_of_getElem? (i := 199) rfl)) rfl
theorem fk_X8_45 : Cond.fieldLink RX8 45 (TX8 6).1 (TX8 6).2.1 (TX8 6).2.2.1 ∈ lw_ok := lw_ok_in (lw_g2 (List.mem_of_getElem? (i := 200) rfl)) rfl
theorem fk_X8_52 : Cond.fieldLink RX8 52 (TX8 8).1 (TX8 8).2.1 (TX8 8).2.2.1 ∈ lw_ok := lw_ok_in (lw_g2 (List.mem_of_getElem? (i := 202) rfl)) rfl
theorem fk_X8_59 : Cond.fieldLink RX8 59 (TX8 9).1 (TX8 9).2.1 (TX8 9).2.2.1 ∈ lw_ok := lw_ok_in (lw_g2 (List.mem_of_getElem? (i := 203) rfl)) rfl
theorem fk_X8_63 : Cond.fieldLink RX8 63 (TX8 10).1 (TX8 10).2.1 (TX8 10).2.2.1 ∈ lw_ok := lw_ok_in (lw_g2 (List.mem_of_getElem? (i := 204) rfl)) rfl
theorem fk_X8_103 : Cond.fieldLink RX8 103 (TX8 7).1 (TX8 7).2.1 (TX8 7).2.2.1 ∈ lw_ok := lw_ok_in (lw_g2 (List.mem_of_getElem? (i := 201) rfl)) rfl
theorem fk_X9_7 : Cond.fieldLink RX9 7 (TX9 1).1 (TX9 1).2.1 (TX9 1).2.2.1 ∈ lw_ok := lw_ok_in (lw_g4 (List.mem_of_getElem? (i := 212) rfl)) rfl
theorem fk_X9_13 : Cond.fieldLink RX9 13 (TX9 2).1 (TX9 2).2.1 (TX9 2).2.2.1 ∈ lw_ok := lw_ok_in (lw_g4 (List.mem_of_getElem? (i := 213) rfl)) rfl
theorem fk_X9_16 : Cond.fieldLink RX9 16 (TX9 3).1 (TX9 3).2.1 (TX9 3).2.2.1 ∈ lw_ok := lw_ok_in (lw_g4 (List.mem_of_getElem? (i := 214) rfl)) rfl
theorem fk_X9_19 : Cond.fieldLink RX9 19 (TX9 4).1 (TX9 4).2.1 (TX9 4).2.2.1 ∈ lw_ok := lw_ok_in (lw_g4 (List.mem_of_getElem? (i := 215) rfl)) rfl
theorem fk_X9_22 : Cond.fieldLink RX9 22 (TX9 5).1 (TX9 5).2.1 (TX9 5).2.2.1 ∈ lw_ok := lw_ok_in (lw_g4 (List.mem_of_getElem? (i := 216) rfl)) rfl
theorem fk_X9_25 : Cond.fieldLink RX9 25 (TX9 6).1 (TX9 6).2.1 (TX9 6).2.2.1 ∈ lw_ok := lw_ok_in (lw_g4 (List.mem_of_getElem? (i := 217) rfl)) rfl
theorem fk_X9_28 : Cond.fieldLink RX9 28 (TX9 7).1 (TX9 7).2.1 (TX9 7).2.2.1 ∈ lw_ok := lw_ok_in (lw_g4 (List.mem_of_getElem? (i := 218) rfl)) rfl
theorem fk_X9_31 : Cond.fieldLink RX9 31 (TX9 8).1 (TX9 8).2.1 (TX9 8).2.2.1 ∈ lw_ok := lw_ok_in (lw_g4 (List.mem_of_getElem? (i := 219) rfl)) rfl
theorem fk_X9_34 : Cond.fieldLink RX9 34 (TX9 9).1 (TX9 9).2.1 (TX9 9).2.2.1 ∈ lw_ok := lw_ok_in (lw_g4 (List.mem_of_getElem? (i := 220) rfl)) rfl
theorem fk_X9_37 : Cond.fieldLink RX9 37 (TX9 10).1 (TX9 10).2.1 (TX9 10).2.2.1 ∈ lw_ok := lw_ok_in (lw_g4 (List.mem_of_getElem? (i := 221) rfl)) rfl
theorem fk_X9_40 : Cond.fieldLink RX9 40 (TX9 11).1 (TX9 11).2.1 (TX9 11).2.2.1 ∈ lw_ok := lw_ok_in (lw_g4 (List.mem_of_getElem? (i := 222) rfl)) rfl
theorem fk_X9_43 : Cond.fieldLink RX9 43 (TX9 12).1 (TX9 12).2.1 (TX9 12).2.2.1 ∈ lw_ok := lw_ok_in (lw_g4 (List.mem_of_getElem? (i := 223) rfl)) rfl
theorem fk_X9_46 : Cond.fieldLink RX9 46 (TX9 13).1 (TX9 13).2.1 (TX9 13).2.2.1 ∈ lw_ok := lw_ok_in (lw_g4 (List.mem_of_getElem? (i := 224) rfl)) rfl
theorem fk_X9_49 : Cond.fieldLink RX9 49 (TX9 14).1 (TX9 14).2.1 (TX9 14).2.2.1 ∈ lw_ok := lw_ok_in (lw_g4 (List.mem_of_getElem? (i := 225) rfl)) rfl
theorem fk_X9_52 : Cond.fieldLink RX9 52 (TX9 15).1 (TX9 15).2.1 (TX9 15).2.2.1 ∈ lw_ok := lw_ok_in (lw_g4 (List.mem_of_getElem? (i := 226) rfl)) rfl
theorem fk_X9_55 : Cond.fieldLink RX9 55 (TX9 16).1 (TX9 16).2.1 (TX9 16).2.2.1 ∈ lw_ok := lw_ok_in (lw_g4 (List.mem_of_getElem? (i := 227) rfl)) rfl
theorem fk_X9_58 : Cond.fieldLink RX9 58 (TX9 17).1 (TX9 17).2.1 (TX9 17).2.2.1 ∈ lw_ok := lw_ok_in (lw_g4 (List.mem_of_getElem? (i := 228) rfl)) rfl
theorem fk_X9_61 : Cond.fieldLink RX9 61 (TX9 18).1 (TX9 18).2.1 (TX9 18).2.2.1 ∈ lw_ok := lw_ok_in (lw_g4 (List.mem_of_getElem? (i := 229) rfl)) rfl
theorem fk_X9_64 : Cond.fieldLink RX9 64 (TX9 19).1 (TX9 19).2.1 (TX9 19).2.2.1 ∈ lw_ok := lw_ok_in (lw_g4 (List.mem_of_getElem? (i := 230) rfl)) rfl
theorem fk_X9_67 : Cond.fieldLink RX9 67 (TX9 20).1 (TX9 20).2.1 (TX9 20).2.2.1 ∈ lw_ok := lw_ok_in (lw_g4 (List.mem_of_getElem? (i := 231) rfl)) rfl
theorem fk_X9_70 : Cond.fieldLink RX9 70 (TX9 21).1 (TX9 21).2.1 (TX9 21).2.2.1 ∈ lw_ok := lw_ok_in (lw_g4 (List.mem_of_getElem? (i := 232) rfl)) rfl
theorem fk_X9_73 : Cond.fieldLink RX9 73 (TX9 22).1 (TX9 22).2.1 (TX9 22).2.2.1 ∈ lw_ok := lw_ok_in (lw_g4 (List.mem_of_getElem? (i := 233) rfl)) rfl
theorem fk_X9_76 : Cond.fieldLink RX9 76 (TX9 23).1 (TX9 23).2.1 (TX9 23).2.2.1 ∈ lw_ok := lw_ok_in (lw_g4 (List.mem_of_getElem? (i := 234) rfl)) rfl
theorem fk_X9_79 : Cond.fieldLink RX9 79 (TX9 24).1 (TX9 24).2.1 (TX9 24).2.2.1 ∈ lw_ok := lw_ok_in (lw_g4 (List.mem_of_getElem? (i := 235) rfl)) rfl
theorem fk_X9_82 : Cond.fieldLink RX9 82 (TX9 27).1 (TX9 27).2.1 (TX9 27).2.2.1 ∈ lw_ok := lw_ok_in (lw_g4 (List.mem_of_getElem? (i := 238) rfl)) rfl
theorem fk_X9_85 : Cond.fieldLink RX9 85 (TX9 28).1 (TX9 28).2.1 (TX9 28).2.2.1 ∈ lw_ok := lw_ok_in (lw_g4 (List.mem_of_getElem? (i := 239) rfl)) rfl
theorem fk_X9_88 : Cond.fieldLink RX9 88 (TX9 30).1 (TX9 30).2.1 (TX9 30).2.2.1 ∈ lw_ok := lw_ok_in (lw_g5 (List.mem_of_getElem? (i := 1) rfl)) rfl
theorem fk_X9_91 : Cond.fieldLink RX9 91 (TX9 31).1 (TX9 31).2.1 (TX9 31).2.2.1 ∈ lw_ok := lw_ok_in (lw_g5 (List.mem_of_getElem? (i := 2) rfl)) rfl
theorem fk_X9_94 : Cond.fieldLink RX9 94 (TX9 32).1 (TX9 32).2.1 (TX9 32).2.2.1 ∈ lw_ok := lw_ok_in (lw_g5 (List.mem_of_getElem? (i := 3) rfl)) rfl
theorem fk_X9_97 : Cond.fieldLink RX9 97 (TX9 33).1 (TX9 33).2.1 (TX9 33).2.2.1 ∈ lw_ok := lw_ok_in (lw_g5 (List.mem_of_getElem? (i := 4) rfl)) rfl
theorem fk_X9_100 : Cond.fieldLink RX9 100 (TX9 34).1 (TX9 34).2.1 (TX9 34).2.2.1 ∈ lw_ok := lw_ok_in (lw_g5 (List.mem_of_getElem? (i := 5) rfl)) rfl
theorem fk_X9_103 : Cond.fieldLink RX9 103 (TX9 35).1 (TX9 35).2.1 (TX9 35).2.2.1 ∈ lw_ok := lw_ok_in (lw_g5 (List.mem_of_getElem? (i := 6) rfl)) rfl
theorem fk_X9_106 : Cond.fieldLink RX9 106 (TX9 36).1 (TX9 36).2.1 (TX9 36).2.2.1 ∈ lw_ok := lw_ok_in (lw_g5 (List.mem_of_getElem? (i := 7) rfl)) rfl
theorem fk_X9_109 : Cond.fieldLink RX9 109 (TX9 37).1 (TX9 37).2.1 (TX9 37).2.2.1 ∈ lw_ok := lw_ok_in (lw_g5 (List.mem_of_getElem? (i := 8) rfl)) rfl
theorem fk_X9_112 : Cond.fieldLink RX9 112 (TX9 42).1 (TX9 42).2.1 (TX9 42).2.2.1 ∈ lw_ok := lw_ok_in (lw_g5 (List.mem_of_getElem? (i := 13) rfl)) rfl
theorem fk_X9_115 : Cond.fieldLink RX9 115 (TX9 43).1 (TX9 43).2.1 (TX9 43).2.2.1 ∈ lw_ok := lw_ok_in (lw_g5 (List.mem_of_getElem? (i := 14) rfl)) rfl
theorem fk_X9_118 : Cond.fieldLink RX9 118 (TX9 44).1 (TX9 44).2.1 (TX9 44).2.2.1 ∈ lw_ok := lw_ok_in (lw_g5 (List.mem_of_getElem? (i := 15) rfl)) rfl
theorem fk_X9_121 : Cond.fieldLink RX9 121 (TX9 45).1 (TX9 45).2.1 (TX9 45).2.2.1 ∈ lw_ok := lw_ok_in (lw_g5 (List.mem_of_getElem? (i := 16) rfl)) rfl
theorem fk_X9_124 : Cond.fieldLink RX9 124 (TX9 46).1 (TX9 46).2.1 (TX9 46).2.2.1 ∈ lw_ok := lw_ok_in (lw_g5 (List.mem_of_getElem? (i := 17) rfl)) rfl
theorem fk_X9_142 : Cond.fieldLink RX9 142 (TX9 0).1 (TX9 0).2.1 (TX9 0).2.2.1 ∈ lw_ok := lw_ok_in (lw_g4 (List.mem_of_getElem? (i := 211) rfl)) rfl
theorem fk_X9_146 : Cond.fieldLink RX9 146 (TX9 29).1 (TX9 29).2.1 (TX9 29).2.2.1 ∈ lw_ok := lw_ok_in (lw_g5 (List.mem_of_getElem? (i := 0) rfl)) rfl
theorem fk_X9_190 : Cond.fieldLink RX9 190 (TX9 25).1 (TX9 25).2.1 (TX9 25).2.2.1 ∈ lw_ok := lw_ok_in (lw_g4 (List.mem_of_getElem? (i := 236) rfl)) rfl
theorem fk_X9_193 : Cond.fieldLink RX9 193 (TX9 26).1 (TX9 26).2.1 (TX9 26).2.2.1 ∈ lw_ok := lw_ok_in (lw_g4 (List.mem_of_getElem? (i := 237) rfl)) rfl
theorem fk_X9_202 : Cond.fieldLink RX9 202 (TX9 40).1 (TX9 40).2.1 (TX9 40).2.2.1 ∈ lw_ok := lw_ok_in (lw_g5 (List.mem_of_getElem? (i := 11) rfl)) rfl
theorem fk_X9_211 : Cond.fieldLink RX9 211 (TX9 38).1 (TX9 38).2.1 (TX9 38).2.2.1 ∈ lw_ok := lw_ok_in (lw_g5 (List.mem_of_getElem? (i := 9) rfl)) rfl
theorem fk_X9_217 : Cond.fieldLink RX9 217 (TX9 39).1 (TX9 39).2.1 (TX9 39).2.2.1 ∈ lw_ok := lw_ok_in (lw_g5 (List.mem_of_getElem? (i := 10) rfl)) rfl
theorem fk_X9_263 : Cond.fieldLink RX9 263 (TX9 41).1 (TX9 41).2.1 (TX9 41).2.2.1 ∈ lw_ok := lw_ok_in (lw_g5 (List.mem_of_getElem? (i := 12) rfl)) rfl
theorem fk_X9_287 : Cond.fieldLink RX9 287 (TX9 47).1 (TX9 47).2.1 (TX9 47).2.2.1 ∈ lw_ok := lw_ok_in (lw_g5 (List.mem_of_getElem? (i := 18) rfl)) rfl
theorem lk_L_9 : Cond.methodLink RL 9 yX8_init ∈ lw_ok := lw_ok_in (lw_g1 (List.mem_of_getElem? (i := 18) rfl)) rfl
theorem lk_L_12 : Cond.methodLink RL 12 yX9_init ∈ lw_ok := lw_ok_in (lw_g4 (List.mem_of_getElem? (i := 156) rfl)) rfl
theorem lk_L_13 : Cond.methodLink RL 13 yX8_write ∈ lw_ok := lw_ok_in (lw_g2 (List.mem_of_getElem? (i := 229) rfl)) rfl
theorem lk_L_17 : Cond.methodLink RL 17 yX9_write ∈ lw_ok := lw_ok_in (lw_g5 (List.mem_of_getElem? (i := 116) rfl)) rfl
theorem lk_L_18 : Cond.methodLink RL 18 yX8_wipe ∈ lw_ok := lw_ok_in (lw_g2 (List.mem_of_getElem? (i := 234) rfl)) rfl
theorem lk_L_22 : Cond.methodLink RL 22 yX9_wipe ∈ lw_ok := lw_ok_in (lw_g5 (List.mem_of_getElem? (i := 122) rfl)) rfl
theorem lk_L_23 : Cond.methodLink RL 23 yX8_fault ∈ lw_ok := lw_ok_in (lw_g2 (List.mem_of_getElem? (i := 238) rfl)) rfl
theorem lk_L_26 : Cond.methodLink RL 26 yX9_fault ∈ lw_ok := lw_ok_in (lw_g5 (List.mem_of_getElem? (i := 126) rfl)) rfl
theorem lk_L_27 : Cond.methodLink RL 27 yX8_laid ∈ lw_ok := lw_ok_in (lw_g3 (List.mem_of_getElem? (i := 2) rfl)) rfl
theorem lk_L_30 : Cond.methodLink RL 30 yX9_laid ∈ lw_ok := lw_ok_in (lw_g5 (List.mem_of_getElem? (i := 171) rfl)) rfl
theorem lk_L_31 : Cond.methodLink RL 31 yX8_cell ∈ lw_ok := lw_ok_in (lw_g3 (List.mem_of_getElem? (i := 15) rfl)) rfl
theorem lk_L_35 : Cond.methodLink RL 35 yX9_cell ∈ lw_ok := lw_ok_in (lw_g5 (List.mem_of_getElem? (i := 175) rfl)) rfl
theorem lk_L_36 : Cond.methodLink RL 36 yX8_lake ∈ lw_ok := lw_ok_in (lw_g3 (List.mem_of_getElem? (i := 35) rfl)) rfl
theorem lk_L_39 : Cond.methodLink RL 39 yX9_lake ∈ lw_ok := lw_ok_in (lw_g5 (List.mem_of_getElem? (i := 183) rfl)) rfl
theorem lk_L_40 : Cond.methodLink RL 40 yX8_edge ∈ lw_ok := lw_ok_in (lw_g3 (List.mem_of_getElem? (i := 64) rfl)) rfl
theorem lk_L_43 : Cond.methodLink RL 43 yX9_edge ∈ lw_ok := lw_ok_in (lw_g5 (List.mem_of_getElem? (i := 187) rfl)) rfl
theorem lk_L_44 : Cond.methodLink RL 44 yX8_comes ∈ lw_ok := lw_ok_in (lw_g3 (List.mem_of_getElem? (i := 76) rfl)) rfl
theorem lk_L_47 : Cond.methodLink RL 47 yX9_comes ∈ lw_ok := lw_ok_in (lw_g5 (List.mem_of_getElem? (i := 191) rfl)) rfl
theorem lk_L_48 : Cond.methodLink RL 48 yX8_put ∈ lw_ok := lw_ok_in (lw_g3 (List.mem_of_getElem? (i := 89) rfl)) rfl
theorem lk_L_52 : Cond.methodLink RL 52 yX9_put ∈ lw_ok := lw_ok_in (lw_g5 (List.mem_of_getElem? (i := 196) rfl)) rfl
theorem lk_L_53 : Cond.methodLink RL 53 yX8_dig ∈ lw_ok := lw_ok_in (lw_g3 (List.mem_of_getElem? (i := 111) rfl)) rfl
theorem lk_L_56 : Cond.methodLink RL 56 yX9_dig ∈ lw_ok := lw_ok_in (lw_g5 (List.mem_of_getElem? (i := 206) rfl)) rfl
theorem lk_L_57 : Cond.methodLink RL 57 yX8_pass ∈ lw_ok := lw_ok_in (lw_g3 (List.mem_of_getElem? (i := 124) rfl)) rfl
theorem lk_L_60 : Cond.methodLink RL 60 yX9_pass ∈ lw_ok := lw_ok_in (lw_g5 (List.mem_of_getElem? (i := 210) rfl)) rfl
theorem lk_L_61 : Cond.methodLink RL 61 yX8_undo ∈ lw_ok := lw_ok_in (lw_g3 (List.mem_of_getElem? (i := 149) rfl)) rfl
theorem lk_L_64 : Cond.methodLink RL 64 yX9_undo ∈ lw_ok := lw_ok_in (lw_g5 (List.mem_of_getElem? (i := 215) rfl)) rfl
theorem lk_L_65 : Cond.methodLink RL 65 yX8_behind ∈ lw_ok := lw_ok_in (lw_g3 (List.mem_of_getElem? (i := 176) rfl)) rfl
theorem lk_L_68 : Cond.methodLink RL 68 yX9_behind ∈ lw_ok := lw_ok_in (lw_g5 (List.mem_of_getElem? (i := 219) rfl)) rfl
theorem lk_L_69 : Cond.methodLink RL 69 yX8_worn ∈ lw_ok := lw_ok_in (lw_g3 (List.mem_of_getElem? (i := 184) rfl)) rfl
theorem lk_L_72 : Cond.methodLink RL 72 yX9_worn ∈ lw_ok := lw_ok_in (lw_g5 (List.mem_of_getElem? (i := 235) rfl)) rfl
theorem lk_L_73 : Cond.methodLink RL 73 yX8_over ∈ lw_ok := lw_ok_in (lw_g3 (List.mem_of_getElem? (i := 188) rfl)) rfl
theorem lk_L_76 : Cond.methodLink RL 76 yX9_over ∈ lw_ok := lw_ok_in (lw_g5 (List.mem_of_getElem? (i := 239) rfl)) rfl
theorem lk_L_77 : Cond.methodLink RL 77 yX8_gone ∈ lw_ok := lw_ok_in (lw_g3 (List.mem_of_getElem? (i := 200) rfl)) rfl
theorem lk_L_80 : Cond.methodLink RL 80 yX9_gone ∈ lw_ok := lw_ok_in (lw_g6 (List.mem_of_getElem? (i := 3) rfl)) rfl
theorem lk_L_81 : Cond.methodLink RL 81 yX8_best ∈ lw_ok := lw_ok_in (lw_g3 (List.mem_of_getElem? (i := 212) rfl)) rfl
theorem lk_L_85 : Cond.methodLink RL 85 yX9_best ∈ lw_ok := lw_ok_in (lw_g6 (List.mem_of_getElem? (i := 11) rfl)) rfl
theorem lk_L_86 : Cond.methodLink RL 86 yX8_gap ∈ lw_ok := lw_ok_in (lw_g4 (List.mem_of_getElem? (i := 1) rfl)) rfl
theorem lk_L_89 : Cond.methodLink RL 89 yX9_gap ∈ lw_ok := lw_ok_in (lw_g6 (List.mem_of_getElem? (i := 24) rfl)) rfl
theorem lk_L_90 : Cond.methodLink RL 90 yX8_together ∈ lw_ok := lw_ok_in (lw_g4 (List.mem_of_getElem? (i := 15) rfl)) rfl
theorem lk_L_93 : Cond.methodLink RL 93 yX9_together ∈ lw_ok := lw_ok_in (lw_g6 (List.mem_of_getElem? (i := 32) rfl)) rfl
theorem lk_L_94 : Cond.methodLink RL 94 yX8_slow ∈ lw_ok := lw_ok_in (lw_g4 (List.mem_of_getElem? (i := 50) rfl)) rfl
theorem lk_L_97 : Cond.methodLink RL 97 yX9_slow ∈ lw_ok := lw_ok_in (lw_g6 (List.mem_of_getElem? (i := 42) rfl)) rfl
theorem lk_L_98 : Cond.methodLink RL 98 yX8_fill ∈ lw_ok := lw_ok_in (lw_g4 (List.mem_of_getElem? (i := 59) rfl)) rfl
theorem lk_L_101 : Cond.methodLink RL 101 yX9_fill ∈ lw_ok := lw_ok_in (lw_g6 (List.mem_of_getElem? (i := 50) rfl)) rfl
theorem lk_L_102 : Cond.methodLink RL 102 yX8_trodden ∈ lw_ok := lw_ok_in (lw_g4 (List.mem_of_getElem? (i := 67) rfl)) rfl
theorem lk_L_105 : Cond.methodLink RL 105 yX9_trodden ∈ lw_ok := lw_ok_in (lw_g6 (List.mem_of_getElem? (i := 55) rfl)) rfl
theorem lk_L_106 : Cond.methodLink RL 106 yX8_blame ∈ lw_ok := lw_ok_in (lw_g4 (List.mem_of_getElem? (i := 71) rfl)) rfl
theorem lk_L_109 : Cond.methodLink RL 109 yX9_blame ∈ lw_ok := lw_ok_in (lw_g6 (List.mem_of_getElem? (i := 59) rfl)) rfl
theorem lk_L_110 : Cond.methodLink RL 110 yX8_seen ∈ lw_ok := lw_ok_in (lw_g4 (List.mem_of_getElem? (i := 83) rfl)) rfl
theorem lk_L_113 : Cond.methodLink RL 113 yX9_seen ∈ lw_ok := lw_ok_in (lw_g6 (List.mem_of_getElem? (i := 67) rfl)) rfl
theorem lk_L_114 : Cond.methodLink RL 114 yX8_forget ∈ lw_ok := lw_ok_in (lw_g4 (List.mem_of_getElem? (i := 95) rfl)) rfl
theorem lk_L_117 : Cond.methodLink RL 117 yX9_forget ∈ lw_ok := lw_ok_in (lw_g6 (List.mem_of_getElem? (i := 72) rfl)) rfl
theorem lk_L_118 : Cond.methodLink RL 118 yX8_flows ∈ lw_ok := lw_ok_in (lw_g4 (List.mem_of_getElem? (i := 99) rfl)) rfl
theorem lk_L_121 : Cond.methodLink RL 121 yX9_flows ∈ lw_ok := lw_ok_in (lw_g6 (List.mem_of_getElem? (i := 76) rfl)) rfl
theorem lk_L_122 : Cond.methodLink RL 122 yX8_odds ∈ lw_ok := lw_ok_in (lw_g4 (List.mem_of_getElem? (i := 108) rfl)) rfl
theorem lk_L_125 : Cond.methodLink RL 125 yX9_odds ∈ lw_ok := lw_ok_in (lw_g6 (List.mem_of_getElem? (i := 80) rfl)) rfl
theorem lk_L_126 : Cond.methodLink RL 126 yX8_night ∈ lw_ok := lw_ok_in (lw_g4 (List.mem_of_getElem? (i := 123) rfl)) rfl
theorem lk_L_129 : Cond.methodLink RL 129 yX9_night ∈ lw_ok := lw_ok_in (lw_g6 (List.mem_of_getElem? (i := 89) rfl)) rfl
theorem lk_L_130 : Cond.methodLink RL 130 yX8_keep ∈ lw_ok := lw_ok_in (lw_g4 (List.mem_of_getElem? (i := 134) rfl)) rfl
theorem lk_L_133 : Cond.methodLink RL 133 yX9_keep ∈ lw_ok := lw_ok_in (lw_g6 (List.mem_of_getElem? (i := 98) rfl)) rfl
theorem lk_L_134 : Cond.methodLink RL 134 yX8_back ∈ lw_ok := lw_ok_in (lw_g4 (List.mem_of_getElem? (i := 142) rfl)) rfl
theorem lk_L_137 : Cond.methodLink RL 137 yX9_back ∈ lw_ok := lw_ok_in (lw_g6 (List.mem_of_getElem? (i := 106) rfl)) rfl
theorem lk_L_138 : Cond.methodLink RL 138 yX8_count ∈ lw_ok := lw_ok_in (lw_g4 (List.mem_of_getElem? (i := 146) rfl)) rfl
theorem lk_L_141 : Cond.methodLink RL 141 yX9_count ∈ lw_ok := lw_ok_in (lw_g6 (List.mem_of_getElem? (i := 110) rfl)) rfl
theorem lk_X0_28 : Cond.methodLink RX0 28 Lib.Math.max.name ∈ lw_ok := lw_ok_in (lw_g3 (List.mem_of_getElem? (i := 161) rfl)) rfl
theorem lk_X0_34 : Cond.methodLink RX0 34 yX3_startAnew ∈ lw_ok := lw_ok_in (lw_g3 (List.mem_of_getElem? (i := 166) rfl)) rfl
theorem lk_X0_39 : Cond.methodLink RX0 39 yX0_doOne ∈ lw_ok := lw_ok_in (lw_g3 (List.mem_of_getElem? (i := 167) rfl)) rfl
theorem lk_X0_43 : Cond.methodLink RX0 43 yX3_canRaise ∈ lw_ok := lw_ok_in (lw_g3 (List.mem_of_getElem? (i := 170) rfl)) rfl
theorem lk_X0_47 : Cond.methodLink RX0 47 yX3_layAt ∈ lw_ok := lw_ok_in (lw_g3 (List.mem_of_getElem? (i := 171) rfl)) rfl
theorem lk_X0_51 : Cond.methodLink RX0 51 yX3_canDig ∈ lw_ok := lw_ok_in (lw_g3 (List.mem_of_getElem? (i := 172) rfl)) rfl
theorem lk_X0_54 : Cond.methodLink RX0 54 yX3_digAt ∈ lw_ok := lw_ok_in (lw_g3 (List.mem_of_getElem? (i := 173) rfl)) rfl
theorem lk_X0_58 : Cond.methodLink RX0 58 yX3_canPass ∈ lw_ok := lw_ok_in (lw_g3 (List.mem_of_getElem? (i := 174) rfl)) rfl
theorem lk_X0_62 : Cond.methodLink RX0 62 yX3_letPass ∈ lw_ok := lw_ok_in (lw_g3 (List.mem_of_getElem? (i := 175) rfl)) rfl
theorem lk_X1_37 : Cond.methodLink RX1 37 yX1_flowIn ∈ lw_ok := lw_ok_in (lw_g2 (List.mem_of_getElem? (i := 147) rfl)) rfl
theorem lk_X1_41 : Cond.methodLink RX1 41 yX1_rainIn ∈ lw_ok := lw_ok_in (lw_g2 (List.mem_of_getElem? (i := 151) rfl)) rfl
theorem lk_X1_44 : Cond.methodLink RX1 44 Lib.Math.min.name ∈ lw_ok := lw_ok_in (lw_g3 (List.mem_of_getElem? (i := 88) rfl)) rfl
theorem lk_X2_33 : Cond.methodLink RX2 33 yX7_numberAt ∈ lw_ok := lw_ok_in (lw_g2 (List.mem_of_getElem? (i := 136) rfl)) rfl
theorem lk_X2_39 : (RX2, 39, yX8_isStuff, "DamOfTurf") ∈ vv_nest := List.mem_of_getElem? (i := 0) rfl
theorem lk_X2_43 : (RX2, 43, yX8_isWithin, "DamOfTurf") ∈ vv_nest := List.mem_of_getElem? (i := 1) rfl
theorem lk_X2_47 : Cond.methodLink RX2 47 yX2_wayCount ∈ lw_ok := lw_ok_in (lw_g4 (List.mem_of_getElem? (i := 31) rfl)) rfl
theorem lk_X2_51 : Cond.methodLink RX2 51 yX2_minutesBy ∈ lw_ok := lw_ok_in (lw_g4 (List.mem_of_getElem? (i := 35) rfl)) rfl
theorem lk_X2_54 : Cond.methodLink RX2 54 yX2_whoDoes ∈ lw_ok := lw_ok_in (lw_g4 (List.mem_of_getElem? (i := 39) rfl)) rfl
theorem lk_X2_58 : Cond.methodLink RX2 58 yX2_minutesFor ∈ lw_ok := lw_ok_in (lw_g4 (List.mem_of_getElem? (i := 43) rfl)) rfl
theorem lk_X2_61 : Cond.methodLink RX2 61 Lib.Math.max.name ∈ lw_ok := lw_ok_in (lw_g4 (List.mem_of_getElem? (i := 47) rfl)) rfl
theorem lk_X3_25 : Cond.methodLink RX3 25 yX4_firstHeight ∈ lw_ok := lw_ok_in (lw_g2 (List.mem_of_getElem? (i := 163) rfl)) rfl
theorem lk_X3_31 : Cond.methodLink RX3 31 yX4_firstStuff ∈ lw_ok := lw_ok_in (lw_g2 (List.mem_of_getElem? (i := 167) rfl)) rfl
theorem lk_X3_47 : Cond.methodLink RX3 47 yX3_survey ∈ lw_ok := lw_ok_in (lw_g2 (List.mem_of_getElem? (i := 171) rfl)) rfl
theorem lk_X3_50 : Cond.methodLink RX3 50 yX4_left ∈ lw_ok := lw_ok_in (lw_g2 (List.mem_of_getElem? (i := 175) rfl)) rfl
theorem lk_X3_54 : Cond.methodLink RX3 54 yX4_right ∈ lw_ok := lw_ok_in (lw_g2 (List.mem_of_getElem? (i := 179) rfl)) rfl
theorem lk_X3_57 : Cond.methodLink RX3 57 Lib.Math.min.name ∈ lw_ok := lw_ok_in (lw_g2 (List.mem_of_getElem? (i := 183) rfl)) rfl
theorem lk_X3_75 : Cond.methodLink RX3 75 yX4_cellCount ∈ lw_ok := lw_ok_in (lw_g2 (List.mem_of_getElem? (i := 186) rfl)) rfl
theorem lk_X3_78 : Cond.methodLink RX3 78 yX4_takes ∈ lw_ok := lw_ok_in (lw_g2 (List.mem_of_getElem? (i := 190) rfl)) rfl
theorem lk_X3_84 : Cond.methodLink RX3 84 yX4_brook ∈ lw_ok := lw_ok_in (lw_g3 (List.mem_of_getElem? (i := 140) rfl)) rfl
theorem lk_X3_88 : Cond.methodLink RX3 88 yX1_comesIn ∈ lw_ok := lw_ok_in (lw_g3 (List.mem_of_getElem? (i := 141) rfl)) rfl
theorem lk_X3_93 : Cond.methodLink RX3 93 yX4_levelOf ∈ lw_ok := lw_ok_in (lw_g3 (List.mem_of_getElem? (i := 43) rfl)) rfl
theorem lk_X3_96 : Cond.methodLink RX3 96 Lib.Math.max.name ∈ lw_ok := lw_ok_in (lw_g3 (List.mem_of_getElem? (i := 142) rfl)) rfl
theorem lk_X3_108 : Cond.methodLink RX3 108 yX3_wears ∈ lw_ok := lw_ok_in (lw_g3 (List.mem_of_getElem? (i := 145) rfl)) rfl
theorem lk_X3_112 : Cond.methodLink RX3 112 yX3_oneMinute ∈ lw_ok := lw_ok_in (lw_g3 (List.mem_of_getElem? (i := 136) rfl)) rfl
theorem lk_X3_116 : Cond.methodLink RX3 116 yX3_heightAt ∈ lw_ok := lw_ok_in (lw_g3 (List.mem_of_getElem? (i := 98) rfl)) rfl
theorem lk_X3_119 : Cond.methodLink RX3 119 yX3_remake ∈ lw_ok := lw_ok_in (lw_g3 (List.mem_of_getElem? (i := 107) rfl)) rfl
theorem lk_X3_123 : Cond.methodLink RX3 123 yX3_stuffAt ∈ lw_ok := lw_ok_in (lw_g3 (List.mem_of_getElem? (i := 123) rfl)) rfl
theorem lk_X3_126 : Cond.methodLink RX3 126 yX3_allBreaches ∈ lw_ok := lw_ok_in (lw_g4 (List.mem_of_getElem? (i := 79) rfl)) rfl
theorem lk_X4_32 : Cond.methodLink RX4 32 yX4_clear ∈ lw_ok := lw_ok_in (lw_g2 (List.mem_of_getElem? (i := 60) rfl)) rfl
theorem lk_X4_35 : Cond.methodLink RX4 35 yX7_size ∈ lw_ok := lw_ok_in (lw_g2 (List.mem_of_getElem? (i := 72) rfl)) rfl
theorem lk_X4_41 : Cond.methodLink RX4 41 yX7_readItem ∈ lw_ok := lw_ok_in (lw_g2 (List.mem_of_getElem? (i := 76) rfl)) rfl
theorem lk_X4_45 : Cond.methodLink RX4 45 yX7_letterAt ∈ lw_ok := lw_ok_in (lw_g2 (List.mem_of_getElem? (i := 92) rfl)) rfl
theorem lk_X4_48 : Cond.methodLink RX4 48 yX4_takeItem ∈ lw_ok := lw_ok_in (lw_g2 (List.mem_of_getElem? (i := 93) rfl)) rfl
theorem lk_X4_52 : Cond.methodLink RX4 52 yX1_settle ∈ lw_ok := lw_ok_in (lw_g2 (List.mem_of_getElem? (i := 143) rfl)) rfl
theorem lk_X4_71 : Cond.methodLink RX4 71 yX1_clear ∈ lw_ok := lw_ok_in (lw_g2 (List.mem_of_getElem? (i := 64) rfl)) rfl
theorem lk_X4_72 : Cond.methodLink RX4 72 yX2_clear ∈ lw_ok := lw_ok_in (lw_g2 (List.mem_of_getElem? (i := 68) rfl)) rfl
theorem lk_X4_73 : Cond.methodLink RX4 73 yX7_numberCount ∈ lw_ok := lw_ok_in (lw_g2 (List.mem_of_getElem? (i := 97) rfl)) rfl
theorem lk_X4_76 : Cond.methodLink RX4 76 yX7_numberAt ∈ lw_ok := lw_ok_in (lw_g2 (List.mem_of_getElem? (i := 101) rfl)) rfl
theorem lk_X4_79 : Cond.methodLink RX4 79 yX4_addCell ∈ lw_ok := lw_ok_in (lw_g2 (List.mem_of_getElem? (i := 105) rfl)) rfl
theorem lk_X4_83 : Cond.methodLink RX4 83 yX4_setBanks ∈ lw_ok := lw_ok_in (lw_g2 (List.mem_of_getElem? (i := 115) rfl)) rfl
theorem lk_X4_86 : Cond.methodLink RX4 86 yX4_setLake ∈ lw_ok := lw_ok_in (lw_g2 (List.mem_of_getElem? (i := 119) rfl)) rfl
theorem lk_X4_89 : Cond.methodLink RX4 89 yX1_addFlow ∈ lw_ok := lw_ok_in (lw_g2 (List.mem_of_getElem? (i := 124) rfl)) rfl
theorem lk_X4_92 : Cond.methodLink RX4 92 yX1_addRain ∈ lw_ok := lw_ok_in (lw_g2 (List.mem_of_getElem? (i := 128) rfl)) rfl
theorem lk_X4_96 : Cond.methodLink RX4 96 yX2_addChild ∈ lw_ok := lw_ok_in (lw_g2 (List.mem_of_getElem? (i := 132) rfl)) rfl
theorem lk_X4_100 : Cond.methodLink RX4 100 yX2_addJob ∈ lw_ok := lw_ok_in (lw_g2 (List.mem_of_getElem? (i := 137) rfl)) rfl
theorem lk_X4_103 : (RX4, 103, yX8_isStuff, "DamOfTurf") ∈ vv_nest := List.mem_of_getElem? (i := 2) rfl
theorem lk_X4_107 : (RX4, 107, yX8_isWithin, "DamOfTurf") ∈ vv_nest := List.mem_of_getElem? (i := 3) rfl
theorem lk_X4_110 : Cond.methodLink RX4 110 yX4_takes ∈ lw_ok := lw_ok_in (lw_g3 (List.mem_of_getElem? (i := 47) rfl)) rfl
theorem lk_X5_15 : Cond.methodLink RX5 15 Lib.Math.min.name ∈ lw_ok := lw_ok_in (lw_g3 (List.mem_of_getElem? (i := 224) rfl)) rfl
theorem lk_X6_22 : Cond.methodLink RX6 22 yX4_levelOf ∈ lw_ok := lw_ok_in (lw_g4 (List.mem_of_getElem? (i := 107) rfl)) rfl
theorem lk_X7_25 : Cond.methodLink RX7 25 yX7_figuresAt ∈ lw_ok := lw_ok_in (lw_g2 (List.mem_of_getElem? (i := 80) rfl)) rfl
theorem lk_X7_29 : Cond.methodLink RX7 29 yX7_figureAt ∈ lw_ok := lw_ok_in (lw_g2 (List.mem_of_getElem? (i := 84) rfl)) rfl
theorem lk_X7_32 : Cond.methodLink RX7 32 yX7_letterAt ∈ lw_ok := lw_ok_in (lw_g2 (List.mem_of_getElem? (i := 88) rfl)) rfl
theorem lk_X8_28 : Cond.methodLink RX8 28 yX3_init ∈ lw_ok := lw_ok_in (lw_g1 (List.mem_of_getElem? (i := 138) rfl)) rfl
theorem lk_X8_78 : Cond.methodLink RX8 78 yX7_add ∈ lw_ok := lw_ok_in (lw_g2 (List.mem_of_getElem? (i := 52) rfl)) rfl
theorem lk_X8_82 : Cond.methodLink RX8 82 yX4_readFrom ∈ lw_ok := lw_ok_in (lw_g2 (List.mem_of_getElem? (i := 56) rfl)) rfl
theorem lk_X8_86 : Cond.methodLink RX8 86 yX7_clear ∈ lw_ok := lw_ok_in (lw_g2 (List.mem_of_getElem? (i := 155) rfl)) rfl
theorem lk_X8_89 : Cond.methodLink RX8 89 yX3_startAnew ∈ lw_ok := lw_ok_in (lw_g2 (List.mem_of_getElem? (i := 159) rfl)) rfl
theorem lk_X8_92 : Cond.methodLink RX8 92 yX8_isWithin ∈ lw_ok := lw_ok_in (lw_g2 (List.mem_of_getElem? (i := 112) rfl)) rfl
theorem lk_X8_96 : Cond.methodLink RX8 96 yX7_size ∈ lw_ok := lw_ok_in (lw_g2 (List.mem_of_getElem? (i := 233) rfl)) rfl
theorem lk_X8_99 : Cond.methodLink RX8 99 yX4_cellCount ∈ lw_ok := lw_ok_in (lw_g3 (List.mem_of_getElem? (i := 6) rfl)) rfl
theorem lk_X8_102 : Cond.methodLink RX8 102 yX0_clear ∈ lw_ok := lw_ok_in (lw_g3 (List.mem_of_getElem? (i := 7) rfl)) rfl
theorem lk_X8_107 : Cond.methodLink RX8 107 yX6_clear ∈ lw_ok := lw_ok_in (lw_g3 (List.mem_of_getElem? (i := 11) rfl)) rfl
theorem lk_X8_108 : Cond.methodLink RX8 108 yX8_isCell ∈ lw_ok := lw_ok_in (lw_g3 (List.mem_of_getElem? (i := 19) rfl)) rfl
theorem lk_X8_111 : Cond.methodLink RX8 111 yX3_heightAt ∈ lw_ok := lw_ok_in (lw_g3 (List.mem_of_getElem? (i := 23) rfl)) rfl
theorem lk_X8_115 : Cond.methodLink RX8 115 yX3_stuffAt ∈ lw_ok := lw_ok_in (lw_g3 (List.mem_of_getElem? (i := 27) rfl)) rfl
theorem lk_X8_118 : Cond.methodLink RX8 118 yX3_breachesAt ∈ lw_ok := lw_ok_in (lw_g3 (List.mem_of_getElem? (i := 31) rfl)) rfl
theorem lk_X8_121 : Cond.methodLink RX8 121 yX3_level ∈ lw_ok := lw_ok_in (lw_g3 (List.mem_of_getElem? (i := 39) rfl)) rfl
theorem lk_X8_124 : Cond.methodLink RX8 124 yX3_units ∈ lw_ok := lw_ok_in (lw_g3 (List.mem_of_getElem? (i := 48) rfl)) rfl
theorem lk_X8_127 : Cond.methodLink RX8 127 yX3_minutesGone ∈ lw_ok := lw_ok_in (lw_g3 (List.mem_of_getElem? (i := 52) rfl)) rfl
theorem lk_X8_130 : Cond.methodLink RX8 130 yX3_allOver ∈ lw_ok := lw_ok_in (lw_g3 (List.mem_of_getElem? (i := 56) rfl)) rfl
theorem lk_X8_133 : Cond.methodLink RX8 133 yX3_allSeeped ∈ lw_ok := lw_ok_in (lw_g3 (List.mem_of_getElem? (i := 60) rfl)) rfl
theorem lk_X8_136 : Cond.methodLink RX8 136 yX3_edgeHeight ∈ lw_ok := lw_ok_in (lw_g3 (List.mem_of_getElem? (i := 68) rfl)) rfl
theorem lk_X8_139 : Cond.methodLink RX8 139 yX3_lowestPlace ∈ lw_ok := lw_ok_in (lw_g3 (List.mem_of_getElem? (i := 72) rfl)) rfl
theorem lk_X8_142 : Cond.methodLink RX8 142 yX4_brook ∈ lw_ok := lw_ok_in (lw_g3 (List.mem_of_getElem? (i := 80) rfl)) rfl
theorem lk_X8_146 : Cond.methodLink RX8 146 yX1_comesIn ∈ lw_ok := lw_ok_in (lw_g3 (List.mem_of_getElem? (i := 84) rfl)) rfl
theorem lk_X8_151 : Cond.methodLink RX8 151 yX8_isStuff ∈ lw_ok := lw_ok_in (lw_g3 (List.mem_of_getElem? (i := 93) rfl)) rfl
theorem lk_X8_154 : Cond.methodLink RX8 154 yX3_canRaise ∈ lw_ok := lw_ok_in (lw_g3 (List.mem_of_getElem? (i := 94) rfl)) rfl
theorem lk_X8_158 : Cond.methodLink RX8 158 yX0_add ∈ lw_ok := lw_ok_in (lw_g3 (List.mem_of_getElem? (i := 99) rfl)) rfl
theorem lk_X8_161 : Cond.methodLink RX8 161 yX3_layAt ∈ lw_ok := lw_ok_in (lw_g3 (List.mem_of_getElem? (i := 103) rfl)) rfl
theorem lk_X8_165 : Cond.methodLink RX8 165 yX3_canDig ∈ lw_ok := lw_ok_in (lw_g3 (List.mem_of_getElem? (i := 115) rfl)) rfl
theorem lk_X8_168 : Cond.methodLink RX8 168 yX3_digAt ∈ lw_ok := lw_ok_in (lw_g3 (List.mem_of_getElem? (i := 119) rfl)) rfl
theorem lk_X8_172 : Cond.methodLink RX8 172 yX3_canPass ∈ lw_ok := lw_ok_in (lw_g3 (List.mem_of_getElem? (i := 128) rfl)) rfl
theorem lk_X8_175 : Cond.methodLink RX8 175 yX3_letPass ∈ lw_ok := lw_ok_in (lw_g3 (List.mem_of_getElem? (i := 132) rfl)) rfl
theorem lk_X8_178 : Cond.methodLink RX8 178 yX0_size ∈ lw_ok := lw_ok_in (lw_g3 (List.mem_of_getElem? (i := 153) rfl)) rfl
theorem lk_X8_179 : Cond.methodLink RX8 179 yX0_dropLast ∈ lw_ok := lw_ok_in (lw_g3 (List.mem_of_getElem? (i := 157) rfl)) rfl
theorem lk_X8_182 : Cond.methodLink RX8 182 yX0_doAllBut ∈ lw_ok := lw_ok_in (lw_g3 (List.mem_of_getElem? (i := 162) rfl)) rfl
theorem lk_X8_186 : Cond.methodLink RX8 186 yX3_copyFrom ∈ lw_ok := lw_ok_in (lw_g3 (List.mem_of_getElem? (i := 180) rfl)) rfl
theorem lk_X8_190 : Cond.methodLink RX8 190 yX3_passTillOver ∈ lw_ok := lw_ok_in (lw_g3 (List.mem_of_getElem? (i := 192) rfl)) rfl
theorem lk_X8_193 : Cond.methodLink RX8 193 yX3_placeOver ∈ lw_ok := lw_ok_in (lw_g3 (List.mem_of_getElem? (i := 196) rfl)) rfl
theorem lk_X8_196 : Cond.methodLink RX8 196 yX3_passTillBreach ∈ lw_ok := lw_ok_in (lw_g3 (List.mem_of_getElem? (i := 204) rfl)) rfl
theorem lk_X8_199 : Cond.methodLink RX8 199 yX3_breachedCell ∈ lw_ok := lw_ok_in (lw_g3 (List.mem_of_getElem? (i := 208) rfl)) rfl
theorem lk_X8_202 : Cond.methodLink RX8 202 yX8_findBestShares ∈ lw_ok := lw_ok_in (lw_g3 (List.mem_of_getElem? (i := 216) rfl)) rfl
theorem lk_X8_206 : Cond.methodLink RX8 206 yX5_inchesAt ∈ lw_ok := lw_ok_in (lw_g3 (List.mem_of_getElem? (i := 229) rfl)) rfl
theorem lk_X8_209 : Cond.methodLink RX8 209 yX5_start ∈ lw_ok := lw_ok_in (lw_g3 (List.mem_of_getElem? (i := 220) rfl)) rfl
theorem lk_X8_212 : Cond.methodLink RX8 212 yX8_waterWithShares ∈ lw_ok := lw_ok_in (lw_g3 (List.mem_of_getElem? (i := 225) rfl)) rfl
theorem lk_X8_216 : Cond.methodLink RX8 216 yX5_copyFrom ∈ lw_ok := lw_ok_in (lw_g3 (List.mem_of_getElem? (i := 233) rfl)) rfl
theorem lk_X8_219 : Cond.methodLink RX8 219 yX5_next ∈ lw_ok := lw_ok_in (lw_g3 (List.mem_of_getElem? (i := 237) rfl)) rfl
theorem lk_X8_223 : Cond.methodLink RX8 223 yX8_isGap ∈ lw_ok := lw_ok_in (lw_g4 (List.mem_of_getElem? (i := 5) rfl)) rfl
theorem lk_X8_226 : Cond.methodLink RX8 226 yX3_remake ∈ lw_ok := lw_ok_in (lw_g4 (List.mem_of_getElem? (i := 9) rfl)) rfl
theorem lk_X8_229 : Cond.methodLink RX8 229 yX3_oneMinute ∈ lw_ok := lw_ok_in (lw_g4 (List.mem_of_getElem? (i := 10) rfl)) rfl
theorem lk_X8_233 : Cond.methodLink RX8 233 yX3_overInMinute ∈ lw_ok := lw_ok_in (lw_g4 (List.mem_of_getElem? (i := 11) rfl)) rfl
theorem lk_X8_236 : Cond.methodLink RX8 236 yX4_crew ∈ lw_ok := lw_ok_in (lw_g4 (List.mem_of_getElem? (i := 19) rfl)) rfl
theorem lk_X8_240 : Cond.methodLink RX8 240 yX2_jobCount ∈ lw_ok := lw_ok_in (lw_g4 (List.mem_of_getElem? (i := 23) rfl)) rfl
theorem lk_X8_245 : Cond.methodLink RX8 245 yX2_quickestWay ∈ lw_ok := lw_ok_in (lw_g4 (List.mem_of_getElem? (i := 27) rfl)) rfl
theorem lk_X8_248 : Cond.methodLink RX8 248 yX2_minutesBy ∈ lw_ok := lw_ok_in (lw_g4 (List.mem_of_getElem? (i := 48) rfl)) rfl
theorem lk_X8_251 : Cond.methodLink RX8 251 yX2_whoDoes ∈ lw_ok := lw_ok_in (lw_g4 (List.mem_of_getElem? (i := 49) rfl)) rfl
theorem lk_X8_254 : Cond.methodLink RX8 254 yX8_letOut ∈ lw_ok := lw_ok_in (lw_g4 (List.mem_of_getElem? (i := 54) rfl)) rfl
theorem lk_X8_258 : Cond.methodLink RX8 258 Lib.Math.max.name ∈ lw_ok := lw_ok_in (lw_g4 (List.mem_of_getElem? (i := 58) rfl)) rfl
theorem lk_X8_263 : Cond.methodLink RX8 263 yX3_empty ∈ lw_ok := lw_ok_in (lw_g4 (List.mem_of_getElem? (i := 63) rfl)) rfl
theorem lk_X8_266 : Cond.methodLink RX8 266 yX3_wasBreached ∈ lw_ok := lw_ok_in (lw_g4 (List.mem_of_getElem? (i := 75) rfl)) rfl
theorem lk_X8_269 : Cond.methodLink RX8 269 yX6_add ∈ lw_ok := lw_ok_in (lw_g4 (List.mem_of_getElem? (i := 87) rfl)) rfl
theorem lk_X8_271 : Cond.methodLink RX8 271 yX6_size ∈ lw_ok := lw_ok_in (lw_g4 (List.mem_of_getElem? (i := 91) rfl)) rfl
theorem lk_X8_272 : Cond.methodLink RX8 272 yX6_agreeWith ∈ lw_ok := lw_ok_in (lw_g4 (List.mem_of_getElem? (i := 103) rfl)) rfl
theorem lk_X8_276 : Cond.methodLink RX8 276 yX8_holdsIn ∈ lw_ok := lw_ok_in (lw_g4 (List.mem_of_getElem? (i := 112) rfl)) rfl
theorem lk_X8_279 : Cond.methodLink RX8 279 yX8_chanceOf ∈ lw_ok := lw_ok_in (lw_g4 (List.mem_of_getElem? (i := 117) rfl)) rfl
theorem lk_X8_282 : Cond.methodLink RX8 282 yX8_greatestDivisor ∈ lw_ok := lw_ok_in (lw_g4 (List.mem_of_getElem? (i := 120) rfl)) rfl
theorem lk_X8_285 : Cond.methodLink RX8 285 yX3_allBreaches ∈ lw_ok := lw_ok_in (lw_g4 (List.mem_of_getElem? (i := 116) rfl)) rfl
theorem lk_X8_288 : Cond.methodLink RX8 288 yX8_drawOf ∈ lw_ok := lw_ok_in (lw_g4 (List.mem_of_getElem? (i := 127) rfl)) rfl
theorem lk_X8_299 : Cond.methodLink RX8 299 yX0_copyFrom ∈ lw_ok := lw_ok_in (lw_g4 (List.mem_of_getElem? (i := 138) rfl)) rfl
theorem lk_X8_302 : Cond.methodLink RX8 302 yX2_childCount ∈ lw_ok := lw_ok_in (lw_g4 (List.mem_of_getElem? (i := 150) rfl)) rfl
theorem lk_X9_127 : Cond.methodLink RX9 127 yX9_noDam ∈ lw_ok := lw_ok_in (lw_g4 (List.mem_of_getElem? (i := 160) rfl)) rfl
theorem lk_X9_131 : Cond.methodLink RX9 131 yX9_begin ∈ lw_ok := lw_ok_in (lw_g4 (List.mem_of_getElem? (i := 164) rfl)) rfl
theorem lk_X9_138 : Cond.methodLink RX9 138 yX9_in ∈ lw_ok := lw_ok_in (lw_g4 (List.mem_of_getElem? (i := 188) rfl)) rfl
theorem lk_X9_149 : Cond.methodLink RX9 149 yX9_letterAt ∈ lw_ok := lw_ok_in (lw_g5 (List.mem_of_getElem? (i := 138) rfl)) rfl
theorem lk_X9_159 : Cond.methodLink RX9 159 yX9_figures ∈ lw_ok := lw_ok_in (lw_g5 (List.mem_of_getElem? (i := 146) rfl)) rfl
theorem lk_X9_165 : Cond.methodLink RX9 165 yX9_cellItem ∈ lw_ok := lw_ok_in (lw_g5 (List.mem_of_getElem? (i := 142) rfl)) rfl
theorem lk_X9_171 : Cond.methodLink RX9 171 yX9_flowItem ∈ lw_ok := lw_ok_in (lw_g5 (List.mem_of_getElem? (i := 154) rfl)) rfl
theorem lk_X9_174 : Cond.methodLink RX9 174 yX9_rainItem ∈ lw_ok := lw_ok_in (lw_g5 (List.mem_of_getElem? (i := 158) rfl)) rfl
theorem lk_X9_177 : Cond.methodLink RX9 177 yX9_childItem ∈ lw_ok := lw_ok_in (lw_g5 (List.mem_of_getElem? (i := 162) rfl)) rfl
theorem lk_X9_180 : Cond.methodLink RX9 180 yX9_jobItem ∈ lw_ok := lw_ok_in (lw_g5 (List.mem_of_getElem? (i := 166) rfl)) rfl
theorem lk_X9_183 : Cond.methodLink RX9 183 yX9_item ∈ lw_ok := lw_ok_in (lw_g5 (List.mem_of_getElem? (i := 134) rfl)) rfl
theorem lk_X9_186 : Cond.methodLink RX9 186 yX9_readAll ∈ lw_ok := lw_ok_in (lw_g5 (List.mem_of_getElem? (i := 130) rfl)) rfl
theorem lk_X9_196 : Cond.methodLink RX9 196 yX9_takes ∈ lw_ok := lw_ok_in (lw_g4 (List.mem_of_getElem? (i := 195) rfl)) rfl
theorem lk_X9_199 : Cond.methodLink RX9 199 yX9_edgeOf ∈ lw_ok := lw_ok_in (lw_g4 (List.mem_of_getElem? (i := 199) rfl)) rfl
theorem lk_X9_205 : Cond.methodLink RX9 205 yX9_comesIn ∈ lw_ok := lw_ok_in (lw_g4 (List.mem_of_getElem? (i := 184) rfl)) rfl
theorem lk_X9_208 : Cond.methodLink RX9 208 yX9_levelOf ∈ lw_ok := lw_ok_in (lw_g4 (List.mem_of_getElem? (i := 191) rfl)) rfl
theorem lk_X9_214 : Cond.methodLink RX9 214 yX9_placeOf ∈ lw_ok := lw_ok_in (lw_g4 (List.mem_of_getElem? (i := 203) rfl)) rfl
theorem lk_X9_220 : Cond.methodLink RX9 220 yX9_wear ∈ lw_ok := lw_ok_in (lw_g4 (List.mem_of_getElem? (i := 207) rfl)) rfl
theorem lk_X9_224 : Cond.methodLink RX9 224 yX9_go ∈ lw_ok := lw_ok_in (lw_g4 (List.mem_of_getElem? (i := 180) rfl)) rfl
theorem lk_X9_227 : Cond.methodLink RX9 227 yX9_canDo ∈ lw_ok := lw_ok_in (lw_g4 (List.mem_of_getElem? (i := 172) rfl)) rfl
theorem lk_X9_231 : Cond.methodLink RX9 231 yX9_doAct ∈ lw_ok := lw_ok_in (lw_g4 (List.mem_of_getElem? (i := 176) rfl)) rfl
theorem lk_X9_234 : Cond.methodLink RX9 234 yX9_beginBut ∈ lw_ok := lw_ok_in (lw_g4 (List.mem_of_getElem? (i := 168) rfl)) rfl
theorem lk_X9_237 : Cond.methodLink RX9 237 yX9_isCell ∈ lw_ok := lw_ok_in (lw_g5 (List.mem_of_getElem? (i := 179) rfl)) rfl
theorem lk_X9_246 : Cond.methodLink RX9 246 yX9_note ∈ lw_ok := lw_ok_in (lw_g5 (List.mem_of_getElem? (i := 202) rfl)) rfl
theorem lk_X9_254 : Cond.methodLink RX9 254 yX9_tryIt ∈ lw_ok := lw_ok_in (lw_g5 (List.mem_of_getElem? (i := 231) rfl)) rfl
theorem lk_X9_257 : Cond.methodLink RX9 257 yX9_areMinutes ∈ lw_ok := lw_ok_in (lw_g5 (List.mem_of_getElem? (i := 223) rfl)) rfl
theorem lk_X9_260 : Cond.methodLink RX9 260 yX9_goOn ∈ lw_ok := lw_ok_in (lw_g5 (List.mem_of_getElem? (i := 227) rfl)) rfl
theorem lk_X9_266 : Cond.methodLink RX9 266 yX9_goneFrom ∈ lw_ok := lw_ok_in (lw_g6 (List.mem_of_getElem? (i := 7) rfl)) rfl
theorem lk_X9_271 : Cond.methodLink RX9 271 yX9_layRow ∈ lw_ok := lw_ok_in (lw_g6 (List.mem_of_getElem? (i := 16) rfl)) rfl
theorem lk_X9_274 : Cond.methodLink RX9 274 yX9_nextRow ∈ lw_ok := lw_ok_in (lw_g6 (List.mem_of_getElem? (i := 20) rfl)) rfl
theorem lk_X9_277 : Cond.methodLink RX9 277 yX9_isGap ∈ lw_ok := lw_ok_in (lw_g6 (List.mem_of_getElem? (i := 28) rfl)) rfl
theorem lk_X9_284 : Cond.methodLink RX9 284 yX9_timeOf ∈ lw_ok := lw_ok_in (lw_g6 (List.mem_of_getElem? (i := 37) rfl)) rfl
theorem lk_X9_290 : Cond.methodLink RX9 290 yX9_isSlow ∈ lw_ok := lw_ok_in (lw_g6 (List.mem_of_getElem? (i := 46) rfl)) rfl
theorem lk_X9_295 : Cond.methodLink RX9 295 yX9_breaches ∈ lw_ok := lw_ok_in (lw_g6 (List.mem_of_getElem? (i := 63) rfl)) rfl
theorem lk_X9_302 : Cond.methodLink RX9 302 yX9_holds ∈ lw_ok := lw_ok_in (lw_g6 (List.mem_of_getElem? (i := 85) rfl)) rfl
theorem lk_X9_315 : Cond.methodLink RX9 315 yX9_copy ∈ lw_ok := lw_ok_in (lw_g6 (List.mem_of_getElem? (i := 102) rfl)) rfl
theorem lc_X8_291 : Cond.constantLong RX8 291 7919 ∈ lw_ok := lw_ok_in (lw_g4 (List.mem_of_getElem? (i := 130) rfl)) rfl
theorem lc_X8_293 : Cond.constantLong RX8 293 6151 ∈ lw_ok := lw_ok_in (lw_g4 (List.mem_of_getElem? (i := 131) rfl)) rfl
theorem lc_X8_295 : Cond.constantLong RX8 295 65521 ∈ lw_ok := lw_ok_in (lw_g4 (List.mem_of_getElem? (i := 132) rfl)) rfl
theorem lc_X8_297 : Cond.constantLong RX8 297 16 ∈ lw_ok := lw_ok_in (lw_g4 (List.mem_of_getElem? (i := 133) rfl)) rfl
theorem lc_X9_134 : Cond.constantLong RX9 134 32 ∈ lw_ok := lw_ok_in (lw_g5 (List.mem_of_getElem? (i := 120) rfl)) rfl
theorem lc_X9_136 : Cond.constantLong RX9 136 126 ∈ lw_ok := lw_ok_in (lw_g5 (List.mem_of_getElem? (i := 121) rfl)) rfl
theorem lc_X9_153 : Cond.constantLong RX9 153 48 ∈ lw_ok := lw_ok_in (lw_g5 (List.mem_of_getElem? (i := 150) rfl)) rfl
theorem lc_X9_155 : Cond.constantLong RX9 155 57 ∈ lw_ok := lw_ok_in (lw_g5 (List.mem_of_getElem? (i := 151) rfl)) rfl
theorem lc_X9_157 : Cond.constantLong RX9 157 2 ∈ lw_ok := lw_ok_in (lw_g5 (List.mem_of_getElem? (i := 152) rfl)) rfl
theorem lc_X9_163 : Cond.constantLong RX9 163 30 ∈ lw_ok := lw_ok_in (lw_g5 (List.mem_of_getElem? (i := 170) rfl)) rfl
theorem lc_X9_169 : Cond.constantLong RX9 169 20 ∈ lw_ok := lw_ok_in (lw_g5 (List.mem_of_getElem? (i := 153) rfl)) rfl
theorem lc_X9_240 : Cond.constantLong RX9 240 999 ∈ lw_ok := lw_ok_in (lw_g5 (List.mem_of_getElem? (i := 195) rfl)) rfl
theorem lc_X9_242 : Cond.constantLong RX9 242 3 ∈ lw_ok := lw_ok_in (lw_g5 (List.mem_of_getElem? (i := 200) rfl)) rfl
theorem lc_X9_244 : Cond.constantLong RX9 244 9 ∈ lw_ok := lw_ok_in (lw_g5 (List.mem_of_getElem? (i := 201) rfl)) rfl
theorem lc_X9_250 : Cond.constantLong RX9 250 60 ∈ lw_ok := lw_ok_in (lw_g5 (List.mem_of_getElem? (i := 214) rfl)) rfl
theorem lc_X9_252 : Cond.constantLong RX9 252 200 ∈ lw_ok := lw_ok_in (lw_g5 (List.mem_of_getElem? (i := 226) rfl)) rfl
theorem lc_X9_269 : Cond.constantLong RX9 269 5 ∈ lw_ok := lw_ok_in (lw_g6 (List.mem_of_getElem? (i := 15) rfl)) rfl
theorem lc_X9_282 : Cond.constantLong RX9 282 (-1) ∈ lw_ok := lw_ok_in (lw_g6 (List.mem_of_getElem? (i := 36) rfl)) rfl
theorem lc_X9_293 : Cond.constantLong RX9 293 40 ∈ lw_ok := lw_ok_in (lw_g6 (List.mem_of_getElem? (i := 54) rfl)) rfl
theorem lc_X9_298 : Cond.constantLong RX9 298 99 ∈ lw_ok := lw_ok_in (lw_g6 (List.mem_of_getElem? (i := 71) rfl)) rfl
theorem lc_X9_300 : Cond.constantLong RX9 300 10 ∈ lw_ok := lw_ok_in (lw_g6 (List.mem_of_getElem? (i := 84) rfl)) rfl
theorem lc_X9_305 : Cond.constantLong RX9 305 9999 ∈ lw_ok := lw_ok_in (lw_g6 (List.mem_of_getElem? (i := 93) rfl)) rfl
theorem lc_X9_307 : Cond.constantLong RX9 307 7919 ∈ lw_ok := lw_ok_in (lw_g6 (List.mem_of_getElem? (i := 94) rfl)) rfl
theorem lc_X9_309 : Cond.constantLong RX9 309 6151 ∈ lw_ok := lw_ok_in (lw_g6 (List.mem_of_getElem? (i := 95) rfl)) rfl
theorem lc_X9_311 : Cond.constantLong RX9 311 65521 ∈ lw_ok := lw_ok_in (lw_g6 (List.mem_of_getElem? (i := 96) rfl)) rfl
theorem lc_X9_313 : Cond.constantLong RX9 313 16 ∈ lw_ok := lw_ok_in (lw_g6 (List.mem_of_getElem? (i := 97) rfl)) rfl
theorem lw_X9_281 : Cond.constant RX9 281 100000 ∈ lw_ok := lw_ok_in (lw_g6 (List.mem_of_getElem? (i := 41) rfl)) rfl
theorem ma_max : Cond.static Lib.Math.max.name ∈ lw_ok := lw_ok_in (lw_g3 (List.mem_of_getElem? (i := 143) rfl)) rfl
theorem mb_max : Cond.initialized "java/lang/Math" ∈ lw_ok := lw_ok_in (lw_g1 (List.mem_of_getElem? (i := 14) rfl)) rfl
theorem mc_max : Cond.code Lib.Math.max.name Lib.Math.max.code 2 (some .int) ∈ lw_ok := lw_ok_in (lw_g3 (List.mem_of_getElem? (i := 144) rfl)) rfl
theorem mk_max : Cond.static Lib.Math.max.name ∈ lw_ok ∧ Cond.initialized "java/lang/Math" ∈ lw_ok ∧ Cond.code Lib.Math.max.name Lib.Math.max.code 2 (some .int) ∈ lw_ok := ⟨ma_max, mb_max, mc_max⟩
theorem ma_min : Cond.static Lib.Math.min.name ∈ lw_ok := lw_ok_in (lw_g2 (List.mem_of_getElem? (i := 184) rfl)) rfl
theorem mc_min : Cond.code Lib.Math.min.name Lib.Math.min.code 2 (some .int) ∈ lw_ok := lw_ok_in (lw_g2 (List.mem_of_getElem? (i := 185) rfl)) rfl
theorem mk_min : Cond.static Lib.Math.min.name ∈ lw_ok ∧ Cond.initialized "java/lang/Math" ∈ lw_ok ∧ Cond.code Lib.Math.min.name Lib.Math.min.code 2 (some .int) ∈ lw_ok := ⟨ma_min, mb_max, mc_min⟩
theorem in_X0 : Cond.initialized RX0 ∈ lw_ok := lw_ok_in (lw_g1 (List.mem_of_getElem? (i := 7) rfl)) rfl
theorem in_X1 : Cond.initialized RX1 ∈ lw_ok := lw_ok_in (lw_g1 (List.mem_of_getElem? (i := 4) rfl)) rfl
theorem in_X2 : Cond.initialized RX2 ∈ lw_ok := lw_ok_in (lw_g1 (List.mem_of_getElem? (i := 5) rfl)) rfl
theorem in_X3 : Cond.initialized RX3 ∈ lw_ok := lw_ok_in (lw_g1 (List.mem_of_getElem? (i := 6) rfl)) rfl
theorem in_X4 : Cond.initialized RX4 ∈ lw_ok := lw_ok_in (lw_g1 (List.mem_of_getElem? (i := 3) rfl)) rfl
theorem in_X5 : Cond.initialized RX5 ∈ lw_ok := lw_ok_in (lw_g1 (List.mem_of_getElem? (i := 9) rfl)) rfl
theorem in_X6 : Cond.initialized RX6 ∈ lw_ok := lw_ok_in (lw_g1 (List.mem_of_getElem? (i := 8) rfl)) rfl
theorem in_X7 : Cond.initialized RX7 ∈ lw_ok := lw_ok_in (lw_g1 (List.mem_of_getElem? (i := 2) rfl)) rfl
theorem in_X8 : Cond.initialized RX8 ∈ lw_ok := lw_ok_in (lw_g1 (List.mem_of_getElem? (i := 1) rfl)) rfl
theorem in_X9 : Cond.initialized RX9 ∈ lw_ok := lw_ok_in (lw_g1 (List.mem_of_getElem? (i := 15) rfl)) rfl
theorem cd_X0_init : Cond.code yX0_init cX0_init 1 none ∈ lw_ok := lw_ok_in (lw_g1 (List.mem_of_getElem? (i := 195) rfl)) rfl
theorem yk_X0_init : vv_yok yX0_init cX0_init 1 none 0 := ⟨cd_X0_init, in_X0, by decide +kernel⟩
theorem cd_X0_size : Cond.code yX0_size cX0_size 1 (some .int) ∈ lw_ok := lw_ok_in (lw_g3 (List.mem_of_getElem? (i := 156) rfl)) rfl
theorem yk_X0_size : vv_yok yX0_size cX0_size 1 (some .int) 0 := ⟨cd_X0_size, in_X0, by decide +kernel⟩
theorem vi_X0_size : Cond.instanceMethod yX0_size ∈ lw_ok := lw_ok_in (lw_g3 (List.mem_of_getElem? (i := 154) rfl)) rfl
theorem vs_X0_size : Cond.selects yX0_size.cls yX0_size yX0_size ∈ lw_ok := lw_ok_in (lw_g3 (List.mem_of_getElem? (i := 155) rfl)) rfl
theorem vk_X0_size : vv_vok yX0_size := ⟨vi_X0_size, vs_X0_size⟩
theorem cd_X0_clear : Cond.code yX0_clear cX0_clear 1 none ∈ lw_ok := lw_ok_in (lw_g3 (List.mem_of_getElem? (i := 10) rfl)) rfl
theorem yk_X0_clear : vv_yok yX0_clear cX0_clear 1 none 0 := ⟨cd_X0_clear, in_X0, by decide +kernel⟩
theorem vi_X0_clear : Cond.instanceMethod yX0_clear ∈ lw_ok := lw_ok_in (lw_g3 (List.mem_of_getElem? (i := 8) rfl)) rfl
theorem vs_X0_clear : Cond.selects yX0_clear.cls yX0_clear yX0_clear ∈ lw_ok := lw_ok_in (lw_g3 (List.mem_of_getElem? (i := 9) rfl)) rfl
theorem vk_X0_clear : vv_vok yX0_clear := ⟨vi_X0_clear, vs_X0_clear⟩
theorem cd_X0_add : Cond.code yX0_add cX0_add 5 (some .boolean) ∈ lw_ok := lw_ok_in (lw_g3 (List.mem_of_getElem? (i := 102) rfl)) rfl
theorem yk_X0_add : vv_yok yX0_add cX0_add 5 (some .boolean) 4 := ⟨cd_X0_add, in_X0, by decide +kernel⟩
theorem vi_X0_add : Cond.instanceMethod yX0_add ∈ lw_ok := lw_ok_in (lw_g3 (List.mem_of_getElem? (i := 100) rfl)) rfl
theorem vs_X0_add : Cond.selects yX0_add.cls yX0_add yX0_add ∈ lw_ok := lw_ok_in (lw_g3 (List.mem_of_getElem? (i := 101) rfl)) rfl
theorem vk_X0_add : vv_vok yX0_add := ⟨vi_X0_add, vs_X0_add⟩
theorem cd_X0_dropLast : Cond.code yX0_dropLast cX0_dropLast 1 none ∈ lw_ok := lw_ok_in (lw_g3 (List.mem_of_getElem? (i := 160) rfl)) rfl
theorem yk_X0_dropLast : vv_yok yX0_dropLast cX0_dropLast 1 none 0 := ⟨cd_X0_dropLast, in_X0, by decide +kernel⟩
theorem vi_X0_dropLast : Cond.instanceMethod yX0_dropLast ∈ lw_ok := lw_ok_in (lw_g3 (List.mem_of_getElem? (i := 158) rfl)) rfl
theorem vs_X0_dropLast : Cond.selects yX0_dropLast.cls yX0_dropLast yX0_dropLast ∈ lw_ok := lw_ok_in (lw_g3 (List.mem_of_getElem? (i := 159) rfl)) rfl
theorem vk_X0_dropLast : vv_vok yX0_dropLast := ⟨vi_X0_dropLast, vs_X0_dropLast⟩
theorem cd_X0_copyFrom : Cond.code yX0_copyFrom cX0_copyFrom 3 none ∈ lw_ok := lw_ok_in (lw_g4 (List.mem_of_getElem? (i := 141) rfl)) rfl
theorem yk_X0_copyFrom : vv_yok yX0_copyFrom cX0_copyFrom 3 none 1 := ⟨cd_X0_copyFrom, in_X0, by decide +kernel⟩
theorem vi_X0_copyFrom : Cond.instanceMethod yX0_copyFrom ∈ lw_ok := lw_ok_in (lw_g4 (List.mem_of_getElem? (i := 139) rfl)) rfl
theorem vs_X0_copyFrom : Cond.selects yX0_copyFrom.cls yX0_copyFrom yX0_copyFrom ∈ lw_ok := lw_ok_in (lw_g4 (List.mem_of_getElem? (i := 140) rfl)) rfl
theorem vk_X0_copyFrom : vv_vok yX0_copyFrom := ⟨vi_X0_copyFrom, vs_X0_copyFrom⟩
theorem cd_X0_doAllBut : Cond.code yX0_doAllBut cX0_doAllBut 4 none ∈ lw_ok := lw_ok_in (lw_g3 (List.mem_of_getElem? (i := 165) rfl)) rfl
theorem yk_X0_doAllBut : vv_yok yX0_doAllBut cX0_doAllBut 4 none 2 := ⟨cd_X0_doAllBut, in_X0, by decide +kernel⟩
theorem vi_X0_doAllBut : Cond.instanceMethod yX0_doAllBut ∈ lw_ok := lw_ok_in (lw_g3 (List.mem_of_getElem? (i := 163) rfl)) rfl
theorem vs_X0_doAllBut : Cond.selects yX0_doAllBut.cls yX0_doAllBut yX0_doAllBut ∈ lw_ok := lw_ok_in (lw_g3 (List.mem_of_getElem? (i := 164) rfl)) rfl
theorem vk_X0_doAllBut : vv_vok yX0_doAllBut := ⟨vi_X0_doAllBut, vs_X0_doAllBut⟩
theorem cd_X0_doOne : Cond.code yX0_doOne cX0_doOne 5 none ∈ lw_ok := lw_ok_in (lw_g3 (List.mem_of_getElem? (i := 169) rfl)) rfl
theorem yk_X0_doOne : vv_yok yX0_doOne cX0_doOne 5 none 5 := ⟨cd_X0_doOne, in_X0, by decide +kernel⟩
theorem sk_X0_doOne : Cond.static yX0_doOne ∈ lw_ok := lw_ok_in (lw_g3 (List.mem_of_getElem? (i := 168) rfl)) rfl
theorem cd_X1_init : Cond.code yX1_init cX1_init 1 none ∈ lw_ok := lw_ok_in (lw_g1 (List.mem_of_getElem? (i := 54) rfl)) rfl
theorem yk_X1_init : vv_yok yX1_init cX1_init 1 none 0 := ⟨cd_X1_init, in_X1, by decide +kernel⟩
theorem cd_X1_clear : Cond.code yX1_clear cX1_clear 1 none ∈ lw_ok := lw_ok_in (lw_g2 (List.mem_of_getElem? (i := 67) rfl)) rfl
theorem yk_X1_clear : vv_yok yX1_clear cX1_clear 1 none 0 := ⟨cd_X1_clear, in_X1, by decide +kernel⟩
theorem vi_X1_clear : Cond.instanceMethod yX1_clear ∈ lw_ok := lw_ok_in (lw_g2 (List.mem_of_getElem? (i := 65) rfl)) rfl
theorem vs_X1_clear : Cond.selects yX1_clear.cls yX1_clear yX1_clear ∈ lw_ok := lw_ok_in (lw_g2 (List.mem_of_getElem? (i := 66) rfl)) rfl
theorem vk_X1_clear : vv_vok yX1_clear := ⟨vi_X1_clear, vs_X1_clear⟩
theorem cd_X1_addFlow : Cond.code yX1_addFlow cX1_addFlow 3 (some .boolean) ∈ lw_ok := lw_ok_in (lw_g2 (List.mem_of_getElem? (i := 127) rfl)) rfl
theorem yk_X1_addFlow : vv_yok yX1_addFlow cX1_addFlow 3 (some .boolean) 2 := ⟨cd_X1_addFlow, in_X1, by decide +kernel⟩
theorem vi_X1_addFlow : Cond.instanceMethod yX1_addFlow ∈ lw_ok := lw_ok_in (lw_g2 (List.mem_of_getElem? (i := 125) rfl)) rfl
theorem vs_X1_addFlow : Cond.selects yX1_addFlow.cls yX1_addFlow yX1_addFlow ∈ lw_ok := lw_ok_in (lw_g2 (List.mem_of_getElem? (i := 126) rfl)) rfl
theorem vk_X1_addFlow : vv_vok yX1_addFlow := ⟨vi_X1_addFlow, vs_X1_addFlow⟩
theorem cd_X1_addRain : Cond.code yX1_addRain cX1_addRain 4 (some .boolean) ∈ lw_ok := lw_ok_in (lw_g2 (List.mem_of_getElem? (i := 131) rfl)) rfl
theorem yk_X1_addRain : vv_yok yX1_addRain cX1_addRain 4 (some .boolean) 3 := ⟨cd_X1_addRain, in_X1, by decide +kernel⟩
theorem vi_X1_addRain : Cond.instanceMethod yX1_addRain ∈ lw_ok := lw_ok_in (lw_g2 (List.mem_of_getElem? (i := 129) rfl)) rfl
theorem vs_X1_addRain : Cond.selects yX1_addRain.cls yX1_addRain yX1_addRain ∈ lw_ok := lw_ok_in (lw_g2 (List.mem_of_getElem? (i := 130) rfl)) rfl
theorem vk_X1_addRain : vv_vok yX1_addRain := ⟨vi_X1_addRain, vs_X1_addRain⟩
theorem cd_X1_settle : Cond.code yX1_settle cX1_settle 2 none ∈ lw_ok := lw_ok_in (lw_g2 (List.mem_of_getElem? (i := 146) rfl)) rfl
theorem yk_X1_settle : vv_yok yX1_settle cX1_settle 2 none 0 := ⟨cd_X1_settle, in_X1, by decide +kernel⟩
theorem vi_X1_settle : Cond.instanceMethod yX1_settle ∈ lw_ok := lw_ok_in (lw_g2 (List.mem_of_getElem? (i := 144) rfl)) rfl
theorem vs_X1_settle : Cond.selects yX1_settle.cls yX1_settle yX1_settle ∈ lw_ok := lw_ok_in (lw_g2 (List.mem_of_getElem? (i := 145) rfl)) rfl
theorem vk_X1_settle : vv_vok yX1_settle := ⟨vi_X1_settle, vs_X1_settle⟩
theorem cd_X1_flowIn : Cond.code yX1_flowIn cX1_flowIn 5 (some .int) ∈ lw_ok := lw_ok_in (lw_g2 (List.mem_of_getElem? (i := 150) rfl)) rfl
theorem yk_X1_flowIn : vv_yok yX1_flowIn cX1_flowIn 5 (some .int) 1 := ⟨cd_X1_flowIn, in_X1, by decide +kernel⟩
theorem vi_X1_flowIn : Cond.instanceMethod yX1_flowIn ∈ lw_ok := lw_ok_in (lw_g2 (List.mem_of_getElem? (i := 149) rfl)) rfl
theorem vs_X1_flowIn : Cond.selects yX1_flowIn.cls yX1_flowIn yX1_flowIn ∈ lw_ok := lw_ok_in (lw_g0 (List.mem_of_getElem? (i := 7) rfl)) rfl
theorem vk_X1_flowIn : vv_vok yX1_flowIn := ⟨vi_X1_flowIn, vs_X1_flowIn⟩
theorem cd_X1_rainIn : Cond.code yX1_rainIn cX1_rainIn 4 (some .int) ∈ lw_ok := lw_ok_in (lw_g2 (List.mem_of_getElem? (i := 154) rfl)) rfl
theorem yk_X1_rainIn : vv_yok yX1_rainIn cX1_rainIn 4 (some .int) 1 := ⟨cd_X1_rainIn, in_X1, by decide +kernel⟩
theorem vi_X1_rainIn : Cond.instanceMethod yX1_rainIn ∈ lw_ok := lw_ok_in (lw_g2 (List.mem_of_getElem? (i := 153) rfl)) rfl
theorem vs_X1_rainIn : Cond.selects yX1_rainIn.cls yX1_rainIn yX1_rainIn ∈ lw_ok := lw_ok_in (lw_g0 (List.mem_of_getElem? (i := 8) rfl)) rfl
theorem vk_X1_rainIn : vv_vok yX1_rainIn := ⟨vi_X1_rainIn, vs_X1_rainIn⟩
theorem cd_X1_comesIn : Cond.code yX1_comesIn cX1_comesIn 2 (some .int) ∈ lw_ok := lw_ok_in (lw_g3 (List.mem_of_getElem? (i := 87) rfl)) rfl
theorem yk_X1_comesIn : vv_yok yX1_comesIn cX1_comesIn 2 (some .int) 1 := ⟨cd_X1_comesIn, in_X1, by decide +kernel⟩
theorem vi_X1_comesIn : Cond.instanceMethod yX1_comesIn ∈ lw_ok := lw_ok_in (lw_g3 (List.mem_of_getElem? (i := 85) rfl)) rfl
theorem vs_X1_comesIn : Cond.selects yX1_comesIn.cls yX1_comesIn yX1_comesIn ∈ lw_ok := lw_ok_in (lw_g3 (List.mem_of_getElem? (i := 86) rfl)) rfl
theorem vk_X1_comesIn : vv_vok yX1_comesIn := ⟨vi_X1_comesIn, vs_X1_comesIn⟩
theorem cd_X2_init : Cond.code yX2_init cX2_init 1 none ∈ lw_ok := lw_ok_in (lw_g1 (List.mem_of_getElem? (i := 85) rfl)) rfl
theorem yk_X2_init : vv_yok yX2_init cX2_init 1 none 0 := ⟨cd_X2_init, in_X2, by decide +kernel⟩
theorem cd_X2_clear : Cond.code yX2_clear cX2_clear 1 none ∈ lw_ok := lw_ok_in (lw_g2 (List.mem_of_getElem? (i := 71) rfl)) rfl
theorem yk_X2_clear : vv_yok yX2_clear cX2_clear 1 none 0 := ⟨cd_X2_clear, in_X2, by decide +kernel⟩
theorem vi_X2_clear : Cond.instanceMethod yX2_clear ∈ lw_ok := lw_ok_in (lw_g2 (List.mem_of_getElem? (i := 69) rfl)) rfl
theorem vs_X2_clear : Cond.selects yX2_clear.cls yX2_clear yX2_clear ∈ lw_ok := lw_ok_in (lw_g2 (List.mem_of_getElem? (i := 70) rfl)) rfl
theorem vk_X2_clear : vv_vok yX2_clear := ⟨vi_X2_clear, vs_X2_clear⟩
theorem cd_X2_addChild : Cond.code yX2_addChild cX2_addChild 3 (some .boolean) ∈ lw_ok := lw_ok_in (lw_g2 (List.mem_of_getElem? (i := 135) rfl)) rfl
theorem yk_X2_addChild : vv_yok yX2_addChild cX2_addChild 3 (some .boolean) 1 := ⟨cd_X2_addChild, in_X2, by decide +kernel⟩
theorem vi_X2_addChild : Cond.instanceMethod yX2_addChild ∈ lw_ok := lw_ok_in (lw_g2 (List.mem_of_getElem? (i := 133) rfl)) rfl
theorem vs_X2_addChild : Cond.selects yX2_addChild.cls yX2_addChild yX2_addChild ∈ lw_ok := lw_ok_in (lw_g2 (List.mem_of_getElem? (i := 134) rfl)) rfl
theorem vk_X2_addChild : vv_vok yX2_addChild := ⟨vi_X2_addChild, vs_X2_addChild⟩
theorem cd_X2_addJob : Cond.code yX2_addJob cX2_addJob 3 (some .boolean) ∈ lw_ok := lw_ok_in (lw_g2 (List.mem_of_getElem? (i := 140) rfl)) rfl
theorem yk_X2_addJob : vv_yok yX2_addJob cX2_addJob 3 (some .boolean) 2 := ⟨cd_X2_addJob, in_X2, by decide +kernel⟩
theorem vi_X2_addJob : Cond.instanceMethod yX2_addJob ∈ lw_ok := lw_ok_in (lw_g2 (List.mem_of_getElem? (i := 138) rfl)) rfl
theorem vs_X2_addJob : Cond.selects yX2_addJob.cls yX2_addJob yX2_addJob ∈ lw_ok := lw_ok_in (lw_g2 (List.mem_of_getElem? (i := 139) rfl)) rfl
theorem vk_X2_addJob : vv_vok yX2_addJob := ⟨vi_X2_addJob, vs_X2_addJob⟩
theorem cd_X2_childCount : Cond.code yX2_childCount cX2_childCount 1 (some .int) ∈ lw_ok := lw_ok_in (lw_g4 (List.mem_of_getElem? (i := 153) rfl)) rfl
theorem yk_X2_childCount : vv_yok yX2_childCount cX2_childCount 1 (some .int) 0 := ⟨cd_X2_childCount, in_X2, by decide +kernel⟩
theorem vi_X2_childCount : Cond.instanceMethod yX2_childCount ∈ lw_ok := lw_ok_in (lw_g4 (List.mem_of_getElem? (i := 151) rfl)) rfl
theorem vs_X2_childCount : Cond.selects yX2_childCount.cls yX2_childCount yX2_childCount ∈ lw_ok := lw_ok_in (lw_g4 (List.mem_of_getElem? (i := 152) rfl)) rfl
theorem vk_X2_childCount : vv_vok yX2_childCount := ⟨vi_X2_childCount, vs_X2_childCount⟩
theorem cd_X2_jobCount : Cond.code yX2_jobCount cX2_jobCount 1 (some .int) ∈ lw_ok := lw_ok_in (lw_g4 (List.mem_of_getElem? (i := 26) rfl)) rfl
theorem yk_X2_jobCount : vv_yok yX2_jobCount cX2_jobCount 1 (some .int) 0 := ⟨cd_X2_jobCount, in_X2, by decide +kernel⟩
theorem vi_X2_jobCount : Cond.instanceMethod yX2_jobCount ∈ lw_ok := lw_ok_in (lw_g4 (List.mem_of_getElem? (i := 24) rfl)) rfl
theorem vs_X2_jobCount : Cond.selects yX2_jobCount.cls yX2_jobCount yX2_jobCount ∈ lw_ok := lw_ok_in (lw_g4 (List.mem_of_getElem? (i := 25) rfl)) rfl
theorem vk_X2_jobCount : vv_vok yX2_jobCount := ⟨vi_X2_jobCount, vs_X2_jobCount⟩
theorem cd_X2_quickestWay : Cond.code yX2_quickestWay cX2_quickestWay 6 (some .int) ∈ lw_ok := lw_ok_in (lw_g4 (List.mem_of_getElem? (i := 30) rfl)) rfl
theorem yk_X2_quickestWay : vv_yok yX2_quickestWay cX2_quickestWay 6 (some .int) 0 := ⟨cd_X2_quickestWay, in_X2, by decide +kernel⟩
theorem vi_X2_quickestWay : Cond.instanceMethod yX2_quickestWay ∈ lw_ok := lw_ok_in (lw_g4 (List.mem_of_getElem? (i := 28) rfl)) rfl
theorem vs_X2_quickestWay : Cond.selects yX2_quickestWay.cls yX2_quickestWay yX2_quickestWay ∈ lw_ok := lw_ok_in (lw_g4 (List.mem_of_getElem? (i := 29) rfl)) rfl
theorem vk_X2_quickestWay : vv_vok yX2_quickestWay := ⟨vi_X2_quickestWay, vs_X2_quickestWay⟩
theorem cd_X2_wayCount : Cond.code yX2_wayCount cX2_wayCount 3 (some .int) ∈ lw_ok := lw_ok_in (lw_g4 (List.mem_of_getElem? (i := 34) rfl)) rfl
theorem yk_X2_wayCount : vv_yok yX2_wayCount cX2_wayCount 3 (some .int) 0 := ⟨cd_X2_wayCount, in_X2, by decide +kernel⟩
theorem vi_X2_wayCount : Cond.instanceMethod yX2_wayCount ∈ lw_ok := lw_ok_in (lw_g4 (List.mem_of_getElem? (i := 33) rfl)) rfl
theorem vs_X2_wayCount : Cond.selects yX2_wayCount.cls yX2_wayCount yX2_wayCount ∈ lw_ok := lw_ok_in (lw_g0 (List.mem_of_getElem? (i := 15) rfl)) rfl
theorem vk_X2_wayCount : vv_vok yX2_wayCount := ⟨vi_X2_wayCount, vs_X2_wayCount⟩
theorem cd_X2_whoDoes : Cond.code yX2_whoDoes cX2_whoDoes 5 (some .int) ∈ lw_ok := lw_ok_in (lw_g4 (List.mem_of_getElem? (i := 42) rfl)) rfl
theorem yk_X2_whoDoes : vv_yok yX2_whoDoes cX2_whoDoes 5 (some .int) 2 := ⟨cd_X2_whoDoes, in_X2, by decide +kernel⟩
theorem vi_X2_whoDoes : Cond.instanceMethod yX2_whoDoes ∈ lw_ok := lw_ok_in (lw_g4 (List.mem_of_getElem? (i := 40) rfl)) rfl
theorem vs_X2_whoDoes : Cond.selects yX2_whoDoes.cls yX2_whoDoes yX2_whoDoes ∈ lw_ok := lw_ok_in (lw_g4 (List.mem_of_getElem? (i := 41) rfl)) rfl
theorem vk_X2_whoDoes : vv_vok yX2_whoDoes := ⟨vi_X2_whoDoes, vs_X2_whoDoes⟩
theorem cd_X2_minutesBy : Cond.code yX2_minutesBy cX2_minutesBy 6 (some .int) ∈ lw_ok := lw_ok_in (lw_g4 (List.mem_of_getElem? (i := 38) rfl)) rfl
theorem yk_X2_minutesBy : vv_yok yX2_minutesBy cX2_minutesBy 6 (some .int) 1 := ⟨cd_X2_minutesBy, in_X2, by decide +kernel⟩
theorem vi_X2_minutesBy : Cond.instanceMethod yX2_minutesBy ∈ lw_ok := lw_ok_in (lw_g4 (List.mem_of_getElem? (i := 36) rfl)) rfl
theorem vs_X2_minutesBy : Cond.selects yX2_minutesBy.cls yX2_minutesBy yX2_minutesBy ∈ lw_ok := lw_ok_in (lw_g4 (List.mem_of_getElem? (i := 37) rfl)) rfl
theorem vk_X2_minutesBy : vv_vok yX2_minutesBy := ⟨vi_X2_minutesBy, vs_X2_minutesBy⟩
theorem cd_X2_minutesFor : Cond.code yX2_minutesFor cX2_minutesFor 4 (some .int) ∈ lw_ok := lw_ok_in (lw_g4 (List.mem_of_getElem? (i := 46) rfl)) rfl
theorem yk_X2_minutesFor : vv_yok yX2_minutesFor cX2_minutesFor 4 (some .int) 2 := ⟨cd_X2_minutesFor, in_X2, by decide +kernel⟩
theorem vi_X2_minutesFor : Cond.instanceMethod yX2_minutesFor ∈ lw_ok := lw_ok_in (lw_g4 (List.mem_of_getElem? (i := 45) rfl)) rfl
theorem vs_X2_minutesFor : Cond.selects yX2_minutesFor.cls yX2_minutesFor yX2_minutesFor ∈ lw_ok := lw_ok_in (lw_g0 (List.mem_of_getElem? (i := 16) rfl)) rfl
theorem vk_X2_minutesFor : vv_vok yX2_minutesFor := ⟨vi_X2_minutesFor, vs_X2_minutesFor⟩
theorem cd_X3_init : Cond.code yX3_init cX3_init 2 none ∈ lw_ok := lw_ok_in (lw_g1 (List.mem_of_getElem? (i := 140) rfl)) rfl
theorem yk_X3_init : vv_yok yX3_init cX3_init 2 none 1 := ⟨cd_X3_init, in_X3, by decide +kernel⟩
theorem cd_X3_startAnew : Cond.code yX3_startAnew cX3_startAnew 2 none ∈ lw_ok := lw_ok_in (lw_g2 (List.mem_of_getElem? (i := 162) rfl)) rfl
theorem yk_X3_startAnew : vv_yok yX3_startAnew cX3_startAnew 2 none 0 := ⟨cd_X3_startAnew, in_X3, by decide +kernel⟩
theorem vi_X3_startAnew : Cond.instanceMethod yX3_startAnew ∈ lw_ok := lw_ok_in (lw_g2 (List.mem_of_getElem? (i := 160) rfl)) rfl
theorem vs_X3_startAnew : Cond.selects yX3_startAnew.cls yX3_startAnew yX3_startAnew ∈ lw_ok := lw_ok_in (lw_g2 (List.mem_of_getElem? (i := 161) rfl)) rfl
theorem vk_X3_startAnew : vv_vok yX3_startAnew := ⟨vi_X3_startAnew, vs_X3_startAnew⟩
theorem cd_X3_copyFrom : Cond.code yX3_copyFrom cX3_copyFrom 3 none ∈ lw_ok := lw_ok_in (lw_g3 (List.mem_of_getElem? (i := 183) rfl)) rfl
theorem yk_X3_copyFrom : vv_yok yX3_copyFrom cX3_copyFrom 3 none 1 := ⟨cd_X3_copyFrom, in_X3, by decide +kernel⟩
theorem vi_X3_copyFrom : Cond.instanceMethod yX3_copyFrom ∈ lw_ok := lw_ok_in (lw_g3 (List.mem_of_getElem? (i := 181) rfl)) rfl
theorem vs_X3_copyFrom : Cond.selects yX3_copyFrom.cls yX3_copyFrom yX3_copyFrom ∈ lw_ok := lw_ok_in (lw_g3 (List.mem_of_getElem? (i := 182) rfl)) rfl
theorem vk_X3_copyFrom : vv_vok yX3_copyFrom := ⟨vi_X3_copyFrom, vs_X3_copyFrom⟩
theorem cd_X3_survey : Cond.code yX3_survey cX3_survey 2 none ∈ lw_ok := lw_ok_in (lw_g2 (List.mem_of_getElem? (i := 174) rfl)) rfl
theorem yk_X3_survey : vv_yok yX3_survey cX3_survey 2 none 0 := ⟨cd_X3_survey, in_X3, by decide +kernel⟩
theorem vi_X3_survey : Cond.instanceMethod yX3_survey ∈ lw_ok := lw_ok_in (lw_g2 (List.mem_of_getElem? (i := 173) rfl)) rfl
theorem vs_X3_survey : Cond.selects yX3_survey.cls yX3_survey yX3_survey ∈ lw_ok := lw_ok_in (lw_g0 (List.mem_of_getElem? (i := 9) rfl)) rfl
theorem vk_X3_survey : vv_vok yX3_survey := ⟨vi_X3_survey, vs_X3_survey⟩
theorem cd_X3_oneMinute : Cond.code yX3_oneMinute cX3_oneMinute 4 none ∈ lw_ok := lw_ok_in (lw_g3 (List.mem_of_getElem? (i := 139) rfl)) rfl
theorem yk_X3_oneMinute : vv_yok yX3_oneMinute cX3_oneMinute 4 none 1 := ⟨cd_X3_oneMinute, in_X3, by decide +kernel⟩
theorem vi_X3_oneMinute : Cond.instanceMethod yX3_oneMinute ∈ lw_ok := lw_ok_in (lw_g3 (List.mem_of_getElem? (i := 137) rfl)) rfl
theorem vs_X3_oneMinute : Cond.selects yX3_oneMinute.cls yX3_oneMinute yX3_oneMinute ∈ lw_ok := lw_ok_in (lw_g3 (List.mem_of_getElem? (i := 138) rfl)) rfl
theorem vk_X3_oneMinute : vv_vok yX3_oneMinute := ⟨vi_X3_oneMinute, vs_X3_oneMinute⟩
theorem cd_X3_wears : Cond.code yX3_wears cX3_wears 3 (some .boolean) ∈ lw_ok := lw_ok_in (lw_g3 (List.mem_of_getElem? (i := 148) rfl)) rfl
theorem yk_X3_wears : vv_yok yX3_wears cX3_wears 3 (some .boolean) 1 := ⟨cd_X3_wears, in_X3, by decide +kernel⟩
theorem vi_X3_wears : Cond.instanceMethod yX3_wears ∈ lw_ok := lw_ok_in (lw_g3 (List.mem_of_getElem? (i := 147) rfl)) rfl
theorem vs_X3_wears : Cond.selects yX3_wears.cls yX3_wears yX3_wears ∈ lw_ok := lw_ok_in (lw_g0 (List.mem_of_getElem? (i := 11) rfl)) rfl
theorem vk_X3_wears : vv_vok yX3_wears := ⟨vi_X3_wears, vs_X3_wears⟩
theorem cd_X3_letPass : Cond.code yX3_letPass cX3_letPass 4 none ∈ lw_ok := lw_ok_in (lw_g3 (List.mem_of_getElem? (i := 135) rfl)) rfl
theorem yk_X3_letPass : vv_yok yX3_letPass cX3_letPass 4 none 2 := ⟨cd_X3_letPass, in_X3, by decide +kernel⟩
theorem vi_X3_letPass : Cond.instanceMethod yX3_letPass ∈ lw_ok := lw_ok_in (lw_g3 (List.mem_of_getElem? (i := 133) rfl)) rfl
theorem vs_X3_letPass : Cond.selects yX3_letPass.cls yX3_letPass yX3_letPass ∈ lw_ok := lw_ok_in (lw_g3 (List.mem_of_getElem? (i := 134) rfl)) rfl
theorem vk_X3_letPass : vv_vok yX3_letPass := ⟨vi_X3_letPass, vs_X3_letPass⟩
theorem cd_X3_passTillOver : Cond.code yX3_passTillOver cX3_passTillOver 2 (some .int) ∈ lw_ok := lw_ok_in (lw_g3 (List.mem_of_getElem? (i := 195) rfl)) rfl
theorem yk_X3_passTillOver : vv_yok yX3_passTillOver cX3_passTillOver 2 (some .int) 0 := ⟨cd_X3_passTillOver, in_X3, by decide +kernel⟩
theorem vi_X3_passTillOver : Cond.instanceMethod yX3_passTillOver ∈ lw_ok := lw_ok_in (lw_g3 (List.mem_of_getElem? (i := 193) rfl)) rfl
theorem vs_X3_passTillOver : Cond.selects yX3_passTillOver.cls yX3_passTillOver yX3_passTillOver ∈ lw_ok := lw_ok_in (lw_g3 (List.mem_of_getElem? (i := 194) rfl)) rfl
theorem vk_X3_passTillOver : vv_vok yX3_passTillOver := ⟨vi_X3_passTillOver, vs_X3_passTillOver⟩
theorem cd_X3_passTillBreach : Cond.code yX3_passTillBreach cX3_passTillBreach 2 (some .int) ∈ lw_ok := lw_ok_in (lw_g3 (List.mem_of_getElem? (i := 207) rfl)) rfl
theorem yk_X3_passTillBreach : vv_yok yX3_passTillBreach cX3_passTillBreach 2 (some .int) 0 := ⟨cd_X3_passTillBreach, in_X3, by decide +kernel⟩
theorem vi_X3_passTillBreach : Cond.instanceMethod yX3_passTillBreach ∈ lw_ok := lw_ok_in (lw_g3 (List.mem_of_getElem? (i := 205) rfl)) rfl
theorem vs_X3_passTillBreach : Cond.selects yX3_passTillBreach.cls yX3_passTillBreach yX3_passTillBreach ∈ lw_ok := lw_ok_in (lw_g3 (List.mem_of_getElem? (i := 206) rfl)) rfl
theorem vk_X3_passTillBreach : vv_vok yX3_passTillBreach := ⟨vi_X3_passTillBreach, vs_X3_passTillBreach⟩
theorem cd_X3_canRaise : Cond.code yX3_canRaise cX3_canRaise 3 (some .boolean) ∈ lw_ok := lw_ok_in (lw_g3 (List.mem_of_getElem? (i := 97) rfl)) rfl
theorem yk_X3_canRaise : vv_yok yX3_canRaise cX3_canRaise 3 (some .boolean) 2 := ⟨cd_X3_canRaise, in_X3, by decide +kernel⟩
theorem vi_X3_canRaise : Cond.instanceMethod yX3_canRaise ∈ lw_ok := lw_ok_in (lw_g3 (List.mem_of_getElem? (i := 95) rfl)) rfl
theorem vs_X3_canRaise : Cond.selects yX3_canRaise.cls yX3_canRaise yX3_canRaise ∈ lw_ok := lw_ok_in (lw_g3 (List.mem_of_getElem? (i := 96) rfl)) rfl
theorem vk_X3_canRaise : vv_vok yX3_canRaise := ⟨vi_X3_canRaise, vs_X3_canRaise⟩
theorem cd_X3_canDig : Cond.code yX3_canDig cX3_canDig 3 (some .boolean) ∈ lw_ok := lw_ok_in (lw_g3 (List.mem_of_getElem? (i := 118) rfl)) rfl
theorem yk_X3_canDig : vv_yok yX3_canDig cX3_canDig 3 (some .boolean) 2 := ⟨cd_X3_canDig, in_X3, by decide +kernel⟩
theorem vi_X3_canDig : Cond.instanceMethod yX3_canDig ∈ lw_ok := lw_ok_in (lw_g3 (List.mem_of_getElem? (i := 116) rfl)) rfl
theorem vs_X3_canDig : Cond.selects yX3_canDig.cls yX3_canDig yX3_canDig ∈ lw_ok := lw_ok_in (lw_g3 (List.mem_of_getElem? (i := 117) rfl)) rfl
theorem vk_X3_canDig : vv_vok yX3_canDig := ⟨vi_X3_canDig, vs_X3_canDig⟩
theorem cd_X3_canPass : Cond.code yX3_canPass cX3_canPass 2 (some .boolean) ∈ lw_ok := lw_ok_in (lw_g3 (List.mem_of_getElem? (i := 131) rfl)) rfl
theorem yk_X3_canPass : vv_yok yX3_canPass cX3_canPass 2 (some .boolean) 1 := ⟨cd_X3_canPass, in_X3, by decide +kernel⟩
theorem vi_X3_canPass : Cond.instanceMethod yX3_canPass ∈ lw_ok := lw_ok_in (lw_g3 (List.mem_of_getElem? (i := 129) rfl)) rfl
theorem vs_X3_canPass : Cond.selects yX3_canPass.cls yX3_canPass yX3_canPass ∈ lw_ok := lw_ok_in (lw_g3 (List.mem_of_getElem? (i := 130) rfl)) rfl
theorem vk_X3_canPass : vv_vok yX3_canPass := ⟨vi_X3_canPass, vs_X3_canPass⟩
theorem cd_X3_layAt : Cond.code yX3_layAt cX3_layAt 4 none ∈ lw_ok := lw_ok_in (lw_g3 (List.mem_of_getElem? (i := 106) rfl)) rfl
theorem yk_X3_layAt : vv_yok yX3_layAt cX3_layAt 4 none 3 := ⟨cd_X3_layAt, in_X3, by decide +kernel⟩
theorem vi_X3_layAt : Cond.instanceMethod yX3_layAt ∈ lw_ok := lw_ok_in (lw_g3 (List.mem_of_getElem? (i := 104) rfl)) rfl
theorem vs_X3_layAt : Cond.selects yX3_layAt.cls yX3_layAt yX3_layAt ∈ lw_ok := lw_ok_in (lw_g3 (List.mem_of_getElem? (i := 105) rfl)) rfl
theorem vk_X3_layAt : vv_vok yX3_layAt := ⟨vi_X3_layAt, vs_X3_layAt⟩
theorem cd_X3_digAt : Cond.code yX3_digAt cX3_digAt 3 none ∈ lw_ok := lw_ok_in (lw_g3 (List.mem_of_getElem? (i := 122) rfl)) rfl
theorem yk_X3_digAt : vv_yok yX3_digAt cX3_digAt 3 none 2 := ⟨cd_X3_digAt, in_X3, by decide +kernel⟩
theorem vi_X3_digAt : Cond.instanceMethod yX3_digAt ∈ lw_ok := lw_ok_in (lw_g3 (List.mem_of_getElem? (i := 120) rfl)) rfl
theorem vs_X3_digAt : Cond.selects yX3_digAt.cls yX3_digAt yX3_digAt ∈ lw_ok := lw_ok_in (lw_g3 (List.mem_of_getElem? (i := 121) rfl)) rfl
theorem vk_X3_digAt : vv_vok yX3_digAt := ⟨vi_X3_digAt, vs_X3_digAt⟩
theorem cd_X3_remake : Cond.code yX3_remake cX3_remake 4 none ∈ lw_ok := lw_ok_in (lw_g3 (List.mem_of_getElem? (i := 110) rfl)) rfl
theorem yk_X3_remake : vv_yok yX3_remake cX3_remake 4 none 3 := ⟨cd_X3_remake, in_X3, by decide +kernel⟩
theorem vi_X3_remake : Cond.instanceMethod yX3_remake ∈ lw_ok := lw_ok_in (lw_g3 (List.mem_of_getElem? (i := 108) rfl)) rfl
theorem vs_X3_remake : Cond.selects yX3_remake.cls yX3_remake yX3_remake ∈ lw_ok := lw_ok_in (lw_g3 (List.mem_of_getElem? (i := 109) rfl)) rfl
theorem vk_X3_remake : vv_vok yX3_remake := ⟨vi_X3_remake, vs_X3_remake⟩
theorem cd_X3_empty : Cond.code yX3_empty cX3_empty 1 none ∈ lw_ok := lw_ok_in (lw_g4 (List.mem_of_getElem? (i := 66) rfl)) rfl
theorem yk_X3_empty : vv_yok yX3_empty cX3_empty 1 none 0 := ⟨cd_X3_empty, in_X3, by decide +kernel⟩
theorem vi_X3_empty : Cond.instanceMethod yX3_empty ∈ lw_ok := lw_ok_in (lw_g4 (List.mem_of_getElem? (i := 64) rfl)) rfl
theorem vs_X3_empty : Cond.selects yX3_empty.cls yX3_empty yX3_empty ∈ lw_ok := lw_ok_in (lw_g4 (List.mem_of_getElem? (i := 65) rfl)) rfl
theorem vk_X3_empty : vv_vok yX3_empty := ⟨vi_X3_empty, vs_X3_empty⟩
theorem cd_X3_heightAt : Cond.code yX3_heightAt cX3_heightAt 2 (some .int) ∈ lw_ok := lw_ok_in (lw_g3 (List.mem_of_getElem? (i := 26) rfl)) rfl
theorem yk_X3_heightAt : vv_yok yX3_heightAt cX3_heightAt 2 (some .int) 1 := ⟨cd_X3_heightAt, in_X3, by decide +kernel⟩
theorem vi_X3_heightAt : Cond.instanceMethod yX3_heightAt ∈ lw_ok := lw_ok_in (lw_g3 (List.mem_of_getElem? (i := 24) rfl)) rfl
theorem vs_X3_heightAt : Cond.selects yX3_heightAt.cls yX3_heightAt yX3_heightAt ∈ lw_ok := lw_ok_in (lw_g3 (List.mem_of_getElem? (i := 25) rfl)) rfl
theorem vk_X3_heightAt : vv_vok yX3_heightAt := ⟨vi_X3_heightAt, vs_X3_heightAt⟩
theorem cd_X3_stuffAt : Cond.code yX3_stuffAt cX3_stuffAt 2 (some .int) ∈ lw_ok := lw_ok_in (lw_g3 (List.mem_of_getElem? (i := 30) rfl)) rfl
theorem yk_X3_stuffAt : vv_yok yX3_stuffAt cX3_stuffAt 2 (some .int) 1 := ⟨cd_X3_stuffAt, in_X3, by decide +kernel⟩
theorem vi_X3_stuffAt : Cond.instanceMethod yX3_stuffAt ∈ lw_ok := lw_ok_in (lw_g3 (List.mem_of_getElem? (i := 28) rfl)) rfl
theorem vs_X3_stuffAt : Cond.selects yX3_stuffAt.cls yX3_stuffAt yX3_stuffAt ∈ lw_ok := lw_ok_in (lw_g3 (List.mem_of_getElem? (i := 29) rfl)) rfl
theorem vk_X3_stuffAt : vv_vok yX3_stuffAt := ⟨vi_X3_stuffAt, vs_X3_stuffAt⟩
theorem cd_X3_breachesAt : Cond.code yX3_breachesAt cX3_breachesAt 2 (some .int) ∈ lw_ok := lw_ok_in (lw_g3 (List.mem_of_getElem? (i := 34) rfl)) rfl
theorem yk_X3_breachesAt : vv_yok yX3_breachesAt cX3_breachesAt 2 (some .int) 1 := ⟨cd_X3_breachesAt, in_X3, by decide +kernel⟩
theorem vi_X3_breachesAt : Cond.instanceMethod yX3_breachesAt ∈ lw_ok := lw_ok_in (lw_g3 (List.mem_of_getElem? (i := 32) rfl)) rfl
theorem vs_X3_breachesAt : Cond.selects yX3_breachesAt.cls yX3_breachesAt yX3_breachesAt ∈ lw_ok := lw_ok_in (lw_g3 (List.mem_of_getElem? (i := 33) rfl)) rfl
theorem vk_X3_breachesAt : vv_vok yX3_breachesAt := ⟨vi_X3_breachesAt, vs_X3_breachesAt⟩
theorem cd_X3_allBreaches : Cond.code yX3_allBreaches cX3_allBreaches 3 (some .int) ∈ lw_ok := lw_ok_in (lw_g4 (List.mem_of_getElem? (i := 82) rfl)) rfl
theorem yk_X3_allBreaches : vv_yok yX3_allBreaches cX3_allBreaches 3 (some .int) 0 := ⟨cd_X3_allBreaches, in_X3, by decide +kernel⟩
theorem vi_X3_allBreaches : Cond.instanceMethod yX3_allBreaches ∈ lw_ok := lw_ok_in (lw_g4 (List.mem_of_getElem? (i := 80) rfl)) rfl
theorem vs_X3_allBreaches : Cond.selects yX3_allBreaches.cls yX3_allBreaches yX3_allBreaches ∈ lw_ok := lw_ok_in (lw_g4 (List.mem_of_getElem? (i := 81) rfl)) rfl
theorem vk_X3_allBreaches : vv_vok yX3_allBreaches := ⟨vi_X3_allBreaches, vs_X3_allBreaches⟩
theorem cd_X3_wasBreached : Cond.code yX3_wasBreached cX3_wasBreached 1 (some .boolean) ∈ lw_ok := lw_ok_in (lw_g4 (List.mem_of_getElem? (i := 78) rfl)) rfl
theorem yk_X3_wasBreached : vv_yok yX3_wasBreached cX3_wasBreached 1 (some .boolean) 0 := ⟨cd_X3_wasBreached, in_X3, by decide +kernel⟩
theorem vi_X3_wasBreached : Cond.instanceMethod yX3_wasBreached ∈ lw_ok := lw_ok_in (lw_g4 (List.mem_of_getElem? (i := 76) rfl)) rfl
theorem vs_X3_wasBreached : Cond.selects yX3_wasBreached.cls yX3_wasBreached yX3_wasBreached ∈ lw_ok := lw_ok_in (lw_g4 (List.mem_of_getElem? (i := 77) rfl)) rfl
theorem vk_X3_wasBreached : vv_vok yX3_wasBreached := ⟨vi_X3_wasBreached, vs_X3_wasBreached⟩
theorem cd_X3_level : Cond.code yX3_level cX3_level 1 (some .int) ∈ lw_ok := lw_ok_in (lw_g3 (List.mem_of_getElem? (i := 42) rfl)) rfl
theorem yk_X3_level : vv_yok yX3_level cX3_level 1 (some .int) 0 := ⟨cd_X3_level, in_X3, by decide +kernel⟩
theorem vi_X3_level : Cond.instanceMethod yX3_level ∈ lw_ok := lw_ok_in (lw_g3 (List.mem_of_getElem? (i := 40) rfl)) rfl
theorem vs_X3_level : Cond.selects yX3_level.cls yX3_level yX3_level ∈ lw_ok := lw_ok_in (lw_g3 (List.mem_of_getElem? (i := 41) rfl)) rfl
theorem vk_X3_level : vv_vok yX3_level := ⟨vi_X3_level, vs_X3_level⟩
theorem cd_X3_units : Cond.code yX3_units cX3_units 1 (some .int) ∈ lw_ok := lw_ok_in (lw_g3 (List.mem_of_getElem? (i := 51) rfl)) rfl
theorem yk_X3_units : vv_yok yX3_units cX3_units 1 (some .int) 0 := ⟨cd_X3_units, in_X3, by decide +kernel⟩
theorem vi_X3_units : Cond.instanceMethod yX3_units ∈ lw_ok := lw_ok_in (lw_g3 (List.mem_of_getElem? (i := 49) rfl)) rfl
theorem vs_X3_units : Cond.selects yX3_units.cls yX3_units yX3_units ∈ lw_ok := lw_ok_in (lw_g3 (List.mem_of_getElem? (i := 50) rfl)) rfl
theorem vk_X3_units : vv_vok yX3_units := ⟨vi_X3_units, vs_X3_units⟩
theorem cd_X3_minutesGone : Cond.code yX3_minutesGone cX3_minutesGone 1 (some .int) ∈ lw_ok := lw_ok_in (lw_g3 (List.mem_of_getElem? (i := 55) rfl)) rfl
theorem yk_X3_minutesGone : vv_yok yX3_minutesGone cX3_minutesGone 1 (some .int) 0 := ⟨cd_X3_minutesGone, in_X3, by decide +kernel⟩
theorem vi_X3_minutesGone : Cond.instanceMethod yX3_minutesGone ∈ lw_ok := lw_ok_in (lw_g3 (List.mem_of_getElem? (i := 53) rfl)) rfl
theorem vs_X3_minutesGone : Cond.selects yX3_minutesGone.cls yX3_minutesGone yX3_minutesGone ∈ lw_ok := lw_ok_in (lw_g3 (List.mem_of_getElem? (i := 54) rfl)) rfl
theorem vk_X3_minutesGone : vv_vok yX3_minutesGone := ⟨vi_X3_minutesGone, vs_X3_minutesGone⟩
theorem cd_X3_allOver : Cond.code yX3_allOver cX3_allOver 1 (some .int) ∈ lw_ok := lw_ok_in (lw_g3 (List.mem_of_getElem? (i := 59) rfl)) rfl
theorem yk_X3_allOver : vv_yok yX3_allOver cX3_allOver 1 (some .int) 0 := ⟨cd_X3_allOver, in_X3, by decide +kernel⟩
theorem vi_X3_allOver : Cond.instanceMethod yX3_allOver ∈ lw_ok := lw_ok_in (lw_g3 (List.mem_of_getElem? (i := 57) rfl)) rfl
theorem vs_X3_allOver : Cond.selects yX3_allOver.cls yX3_allOver yX3_allOver ∈ lw_ok := lw_ok_in (lw_g3 (List.mem_of_getElem? (i := 58) rfl)) rfl
theorem vk_X3_allOver : vv_vok yX3_allOver := ⟨vi_X3_allOver, vs_X3_allOver⟩
theorem cd_X3_allSeeped : Cond.code yX3_allSeeped cX3_allSeeped 1 (some .int) ∈ lw_ok := lw_ok_in (lw_g3 (List.mem_of_getElem? (i := 63) rfl)) rfl
theorem yk_X3_allSeeped : vv_yok yX3_allSeeped cX3_allSeeped 1 (some .int) 0 := ⟨cd_X3_allSeeped, in_X3, by decide +kernel⟩
theorem vi_X3_allSeeped : Cond.instanceMethod yX3_allSeeped ∈ lw_ok := lw_ok_in (lw_g3 (List.mem_of_getElem? (i := 61) rfl)) rfl
theorem vs_X3_allSeeped : Cond.selects yX3_allSeeped.cls yX3_allSeeped yX3_allSeeped ∈ lw_ok := lw_ok_in (lw_g3 (List.mem_of_getElem? (i := 62) rfl)) rfl
theorem vk_X3_allSeeped : vv_vok yX3_allSeeped := ⟨vi_X3_allSeeped, vs_X3_allSeeped⟩
theorem cd_X3_edgeHeight : Cond.code yX3_edgeHeight cX3_edgeHeight 1 (some .int) ∈ lw_ok := lw_ok_in (lw_g3 (List.mem_of_getElem? (i := 71) rfl)) rfl
theorem yk_X3_edgeHeight : vv_yok yX3_edgeHeight cX3_edgeHeight 1 (some .int) 0 := ⟨cd_X3_edgeHeight, in_X3, by decide +kernel⟩
theorem vi_X3_edgeHeight : Cond.instanceMethod yX3_edgeHeight ∈ lw_ok := lw_ok_in (lw_g3 (List.mem_of_getElem? (i := 69) rfl)) rfl
theorem vs_X3_edgeHeight : Cond.selects yX3_edgeHeight.cls yX3_edgeHeight yX3_edgeHeight ∈ lw_ok := lw_ok_in (lw_g3 (List.mem_of_getElem? (i := 70) rfl)) rfl
theorem vk_X3_edgeHeight : vv_vok yX3_edgeHeight := ⟨vi_X3_edgeHeight, vs_X3_edgeHeight⟩
theorem cd_X3_lowestPlace : Cond.code yX3_lowestPlace cX3_lowestPlace 1 (some .int) ∈ lw_ok := lw_ok_in (lw_g3 (List.mem_of_getElem? (i := 75) rfl)) rfl
theorem yk_X3_lowestPlace : vv_yok yX3_lowestPlace cX3_lowestPlace 1 (some .int) 0 := ⟨cd_X3_lowestPlace, in_X3, by decide +kernel⟩
theorem vi_X3_lowestPlace : Cond.instanceMethod yX3_lowestPlace ∈ lw_ok := lw_ok_in (lw_g3 (List.mem_of_getElem? (i := 73) rfl)) rfl
theorem vs_X3_lowestPlace : Cond.selects yX3_lowestPlace.cls yX3_lowestPlace yX3_lowestPlace ∈ lw_ok := lw_ok_in (lw_g3 (List.mem_of_getElem? (i := 74) rfl)) rfl
theorem vk_X3_lowestPlace : vv_vok yX3_lowestPlace := ⟨vi_X3_lowestPlace, vs_X3_lowestPlace⟩
theorem cd_X3_overInMinute : Cond.code yX3_overInMinute cX3_overInMinute 1 (some .int) ∈ lw_ok := lw_ok_in (lw_g4 (List.mem_of_getElem? (i := 14) rfl)) rfl
theorem yk_X3_overInMinute : vv_yok yX3_overInMinute cX3_overInMinute 1 (some .int) 0 := ⟨cd_X3_overInMinute, in_X3, by decide +kernel⟩
theorem vi_X3_overInMinute : Cond.instanceMethod yX3_overInMinute ∈ lw_ok := lw_ok_in (lw_g4 (List.mem_of_getElem? (i := 12) rfl)) rfl
theorem vs_X3_overInMinute : Cond.selects yX3_overInMinute.cls yX3_overInMinute yX3_overInMinute ∈ lw_ok := lw_ok_in (lw_g4 (List.mem_of_getElem? (i := 13) rfl)) rfl
theorem vk_X3_overInMinute : vv_vok yX3_overInMinute := ⟨vi_X3_overInMinute, vs_X3_overInMinute⟩
theorem cd_X3_placeOver : Cond.code yX3_placeOver cX3_placeOver 1 (some .int) ∈ lw_ok := lw_ok_in (lw_g3 (List.mem_of_getElem? (i := 199) rfl)) rfl
theorem yk_X3_placeOver : vv_yok yX3_placeOver cX3_placeOver 1 (some .int) 0 := ⟨cd_X3_placeOver, in_X3, by decide +kernel⟩
theorem vi_X3_placeOver : Cond.instanceMethod yX3_placeOver ∈ lw_ok := lw_ok_in (lw_g3 (List.mem_of_getElem? (i := 197) rfl)) rfl
theorem vs_X3_placeOver : Cond.selects yX3_placeOver.cls yX3_placeOver yX3_placeOver ∈ lw_ok := lw_ok_in (lw_g3 (List.mem_of_getElem? (i := 198) rfl)) rfl
theorem vk_X3_placeOver : vv_vok yX3_placeOver := ⟨vi_X3_placeOver, vs_X3_placeOver⟩
theorem cd_X3_breachedCell : Cond.code yX3_breachedCell cX3_breachedCell 1 (some .int) ∈ lw_ok := lw_ok_in (lw_g3 (List.mem_of_getElem? (i := 211) rfl)) rfl
theorem yk_X3_breachedCell : vv_yok yX3_breachedCell cX3_breachedCell 1 (some .int) 0 := ⟨cd_X3_breachedCell, in_X3, by decide +kernel⟩
theorem vi_X3_breachedCell : Cond.instanceMethod yX3_breachedCell ∈ lw_ok := lw_ok_in (lw_g3 (List.mem_of_getElem? (i := 209) rfl)) rfl
theorem vs_X3_breachedCell : Cond.selects yX3_breachedCell.cls yX3_breachedCell yX3_breachedCell ∈ lw_ok := lw_ok_in (lw_g3 (List.mem_of_getElem? (i := 210) rfl)) rfl
theorem vk_X3_breachedCell : vv_vok yX3_breachedCell := ⟨vi_X3_breachedCell, vs_X3_breachedCell⟩
theorem cd_X4_init : Cond.code yX4_init cX4_init 1 none ∈ lw_ok := lw_ok_in (lw_g1 (List.mem_of_getElem? (i := 48) rfl)) rfl
theorem yk_X4_init : vv_yok yX4_init cX4_init 1 none 0 := ⟨cd_X4_init, in_X4, by decide +kernel⟩
theorem cd_X4_readFrom : Cond.code yX4_readFrom cX4_readFrom 5 (some .int) ∈ lw_ok := lw_ok_in (lw_g2 (List.mem_of_getElem? (i := 59) rfl)) rfl
theorem yk_X4_readFrom : vv_yok yX4_readFrom cX4_readFrom 5 (some .int) 1 := ⟨cd_X4_readFrom, in_X4, by decide +kernel⟩
theorem vi_X4_readFrom : Cond.instanceMethod yX4_readFrom ∈ lw_ok := lw_ok_in (lw_g2 (List.mem_of_getElem? (i := 57) rfl)) rfl
theorem vs_X4_readFrom : Cond.selects yX4_readFrom.cls yX4_readFrom yX4_readFrom ∈ lw_ok := lw_ok_in (lw_g2 (List.mem_of_getElem? (i := 58) rfl)) rfl
theorem vk_X4_readFrom : vv_vok yX4_readFrom := ⟨vi_X4_readFrom, vs_X4_readFrom⟩
theorem cd_X4_clear : Cond.code yX4_clear cX4_clear 1 none ∈ lw_ok := lw_ok_in (lw_g2 (List.mem_of_getElem? (i := 63) rfl)) rfl
theorem yk_X4_clear : vv_yok yX4_clear cX4_clear 1 none 0 := ⟨cd_X4_clear, in_X4, by decide +kernel⟩
theorem vi_X4_clear : Cond.instanceMethod yX4_clear ∈ lw_ok := lw_ok_in (lw_g2 (List.mem_of_getElem? (i := 62) rfl)) rfl
theorem vs_X4_clear : Cond.selects yX4_clear.cls yX4_clear yX4_clear ∈ lw_ok := lw_ok_in (lw_g0 (List.mem_of_getElem? (i := 0) rfl)) rfl
theorem vk_X4_clear : vv_vok yX4_clear := ⟨vi_X4_clear, vs_X4_clear⟩
theorem cd_X4_takeItem : Cond.code yX4_takeItem cX4_takeItem 7 (some .boolean) ∈ lw_ok := lw_ok_in (lw_g2 (List.mem_of_getElem? (i := 96) rfl)) rfl
theorem yk_X4_takeItem : vv_yok yX4_takeItem cX4_takeItem 7 (some .boolean) 2 := ⟨cd_X4_takeItem, in_X4, by decide +kernel⟩
theorem vi_X4_takeItem : Cond.instanceMethod yX4_takeItem ∈ lw_ok := lw_ok_in (lw_g2 (List.mem_of_getElem? (i := 95) rfl)) rfl
theorem vs_X4_takeItem : Cond.selects yX4_takeItem.cls yX4_takeItem yX4_takeItem ∈ lw_ok := lw_ok_in (lw_g0 (List.mem_of_getElem? (i := 3) rfl)) rfl
theorem vk_X4_takeItem : vv_vok yX4_takeItem := ⟨vi_X4_takeItem, vs_X4_takeItem⟩
theorem cd_X4_addCell : Cond.code yX4_addCell cX4_addCell 3 (some .boolean) ∈ lw_ok := lw_ok_in (lw_g2 (List.mem_of_getElem? (i := 108) rfl)) rfl
theorem yk_X4_addCell : vv_yok yX4_addCell cX4_addCell 3 (some .boolean) 2 := ⟨cd_X4_addCell, in_X4, by decide +kernel⟩
theorem vi_X4_addCell : Cond.instanceMethod yX4_addCell ∈ lw_ok := lw_ok_in (lw_g2 (List.mem_of_getElem? (i := 107) rfl)) rfl
theorem vs_X4_addCell : Cond.selects yX4_addCell.cls yX4_addCell yX4_addCell ∈ lw_ok := lw_ok_in (lw_g0 (List.mem_of_getElem? (i := 4) rfl)) rfl
theorem vk_X4_addCell : vv_vok yX4_addCell := ⟨vi_X4_addCell, vs_X4_addCell⟩
theorem cd_X4_setBanks : Cond.code yX4_setBanks cX4_setBanks 3 (some .boolean) ∈ lw_ok := lw_ok_in (lw_g2 (List.mem_of_getElem? (i := 118) rfl)) rfl
theorem yk_X4_setBanks : vv_yok yX4_setBanks cX4_setBanks 3 (some .boolean) 2 := ⟨cd_X4_setBanks, in_X4, by decide +kernel⟩
theorem vi_X4_setBanks : Cond.instanceMethod yX4_setBanks ∈ lw_ok := lw_ok_in (lw_g2 (List.mem_of_getElem? (i := 117) rfl)) rfl
theorem vs_X4_setBanks : Cond.selects yX4_setBanks.cls yX4_setBanks yX4_setBanks ∈ lw_ok := lw_ok_in (lw_g0 (List.mem_of_getElem? (i := 5) rfl)) rfl
theorem vk_X4_setBanks : vv_vok yX4_setBanks := ⟨vi_X4_setBanks, vs_X4_setBanks⟩
theorem cd_X4_setLake : Cond.code yX4_setLake cX4_setLake 3 (some .boolean) ∈ lw_ok := lw_ok_in (lw_g2 (List.mem_of_getElem? (i := 122) rfl)) rfl
theorem yk_X4_setLake : vv_yok yX4_setLake cX4_setLake 3 (some .boolean) 2 := ⟨cd_X4_setLake, in_X4, by decide +kernel⟩
theorem vi_X4_setLake : Cond.instanceMethod yX4_setLake ∈ lw_ok := lw_ok_in (lw_g2 (List.mem_of_getElem? (i := 121) rfl)) rfl
theorem vs_X4_setLake : Cond.selects yX4_setLake.cls yX4_setLake yX4_setLake ∈ lw_ok := lw_ok_in (lw_g0 (List.mem_of_getElem? (i := 6) rfl)) rfl
theorem vk_X4_setLake : vv_vok yX4_setLake := ⟨vi_X4_setLake, vs_X4_setLake⟩
theorem cd_X4_cellCount : Cond.code yX4_cellCount cX4_cellCount 1 (some .int) ∈ lw_ok := lw_ok_in (lw_g2 (List.mem_of_getElem? (i := 189) rfl)) rfl
theorem yk_X4_cellCount : vv_yok yX4_cellCount cX4_cellCount 1 (some .int) 0 := ⟨cd_X4_cellCount, in_X4, by decide +kernel⟩
theorem vi_X4_cellCount : Cond.instanceMethod yX4_cellCount ∈ lw_ok := lw_ok_in (lw_g2 (List.mem_of_getElem? (i := 187) rfl)) rfl
theorem vs_X4_cellCount : Cond.selects yX4_cellCount.cls yX4_cellCount yX4_cellCount ∈ lw_ok := lw_ok_in (lw_g2 (List.mem_of_getElem? (i := 188) rfl)) rfl
theorem vk_X4_cellCount : vv_vok yX4_cellCount := ⟨vi_X4_cellCount, vs_X4_cellCount⟩
theorem cd_X4_firstHeight : Cond.code yX4_firstHeight cX4_firstHeight 2 (some .int) ∈ lw_ok := lw_ok_in (lw_g2 (List.mem_of_getElem? (i := 166) rfl)) rfl
theorem yk_X4_firstHeight : vv_yok yX4_firstHeight cX4_firstHeight 2 (some .int) 1 := ⟨cd_X4_firstHeight, in_X4, by decide +kernel⟩
theorem vi_X4_firstHeight : Cond.instanceMethod yX4_firstHeight ∈ lw_ok := lw_ok_in (lw_g2 (List.mem_of_getElem? (i := 164) rfl)) rfl
theorem vs_X4_firstHeight : Cond.selects yX4_firstHeight.cls yX4_firstHeight yX4_firstHeight ∈ lw_ok := lw_ok_in (lw_g2 (List.mem_of_getElem? (i := 165) rfl)) rfl
theorem vk_X4_firstHeight : vv_vok yX4_firstHeight := ⟨vi_X4_firstHeight, vs_X4_firstHeight⟩
theorem cd_X4_firstStuff : Cond.code yX4_firstStuff cX4_firstStuff 2 (some .int) ∈ lw_ok := lw_ok_in (lw_g2 (List.mem_of_getElem? (i := 170) rfl)) rfl
theorem yk_X4_firstStuff : vv_yok yX4_firstStuff cX4_firstStuff 2 (some .int) 1 := ⟨cd_X4_firstStuff, in_X4, by decide +kernel⟩
theorem vi_X4_firstStuff : Cond.instanceMethod yX4_firstStuff ∈ lw_ok := lw_ok_in (lw_g2 (List.mem_of_getElem? (i := 168) rfl)) rfl
theorem vs_X4_firstStuff : Cond.selects yX4_firstStuff.cls yX4_firstStuff yX4_firstStuff ∈ lw_ok := lw_ok_in (lw_g2 (List.mem_of_getElem? (i := 169) rfl)) rfl
theorem vk_X4_firstStuff : vv_vok yX4_firstStuff := ⟨vi_X4_firstStuff, vs_X4_firstStuff⟩
theorem cd_X4_left : Cond.code yX4_left cX4_left 1 (some .int) ∈ lw_ok := lw_ok_in (lw_g2 (List.mem_of_getElem? (i := 178) rfl)) rfl
theorem yk_X4_left : vv_yok yX4_left cX4_left 1 (some .int) 0 := ⟨cd_X4_left, in_X4, by decide +kernel⟩
theorem vi_X4_left : Cond.instanceMethod yX4_left ∈ lw_ok := lw_ok_in (lw_g2 (List.mem_of_getElem? (i := 176) rfl)) rfl
theorem vs_X4_left : Cond.selects yX4_left.cls yX4_left yX4_left ∈ lw_ok := lw_ok_in (lw_g2 (List.mem_of_getElem? (i := 177) rfl)) rfl
theorem vk_X4_left : vv_vok yX4_left := ⟨vi_X4_left, vs_X4_left⟩
theorem cd_X4_right : Cond.code yX4_right cX4_right 1 (some .int) ∈ lw_ok := lw_ok_in (lw_g2 (List.mem_of_getElem? (i := 182) rfl)) rfl
theorem yk_X4_right : vv_yok yX4_right cX4_right 1 (some .int) 0 := ⟨cd_X4_right, in_X4, by decide +kernel⟩
theorem vi_X4_right : Cond.instanceMethod yX4_right ∈ lw_ok := lw_ok_in (lw_g2 (List.mem_of_getElem? (i := 180) rfl)) rfl
theorem vs_X4_right : Cond.selects yX4_right.cls yX4_right yX4_right ∈ lw_ok := lw_ok_in (lw_g2 (List.mem_of_getElem? (i := 181) rfl)) rfl
theorem vk_X4_right : vv_vok yX4_right := ⟨vi_X4_right, vs_X4_right⟩
theorem cd_X4_brook : Cond.code yX4_brook cX4_brook 1 (some (.object "DamOfTurf$Brook")) ∈ lw_ok := lw_ok_in (lw_g3 (List.mem_of_getElem? (i := 83) rfl)) rfl
theorem yk_X4_brook : vv_yok yX4_brook cX4_brook 1 (some (.object "DamOfTurf$Brook")) 0 := ⟨cd_X4_brook, in_X4, by decide +kernel⟩
theorem vi_X4_brook : Cond.instanceMethod yX4_brook ∈ lw_ok := lw_ok_in (lw_g3 (List.mem_of_getElem? (i := 81) rfl)) rfl
theorem vs_X4_brook : Cond.selects yX4_brook.cls yX4_brook yX4_brook ∈ lw_ok := lw_ok_in (lw_g3 (List.mem_of_getElem? (i := 82) rfl)) rfl
theorem vk_X4_brook : vv_vok yX4_brook := ⟨vi_X4_brook, vs_X4_brook⟩
theorem cd_X4_crew : Cond.code yX4_crew cX4_crew 1 (some (.object "DamOfTurf$Crew")) ∈ lw_ok := lw_ok_in (lw_g4 (List.mem_of_getElem? (i := 22) rfl)) rfl
theorem yk_X4_crew : vv_yok yX4_crew cX4_crew 1 (some (.object "DamOfTurf$Crew")) 0 := ⟨cd_X4_crew, in_X4, by decide +kernel⟩
theorem vi_X4_crew : Cond.instanceMethod yX4_crew ∈ lw_ok := lw_ok_in (lw_g4 (List.mem_of_getElem? (i := 20) rfl)) rfl
theorem vs_X4_crew : Cond.selects yX4_crew.cls yX4_crew yX4_crew ∈ lw_ok := lw_ok_in (lw_g4 (List.mem_of_getElem? (i := 21) rfl)) rfl
theorem vk_X4_crew : vv_vok yX4_crew := ⟨vi_X4_crew, vs_X4_crew⟩
theorem cd_X4_takes : Cond.code yX4_takes cX4_takes 2 (some .int) ∈ lw_ok := lw_ok_in (lw_g2 (List.mem_of_getElem? (i := 193) rfl)) rfl
theorem yk_X4_takes : vv_yok yX4_takes cX4_takes 2 (some .int) 1 := ⟨cd_X4_takes, in_X4, by decide +kernel⟩
theorem vi_X4_takes : Cond.instanceMethod yX4_takes ∈ lw_ok := lw_ok_in (lw_g2 (List.mem_of_getElem? (i := 191) rfl)) rfl
theorem vs_X4_takes : Cond.selects yX4_takes.cls yX4_takes yX4_takes ∈ lw_ok := lw_ok_in (lw_g2 (List.mem_of_getElem? (i := 192) rfl)) rfl
theorem vk_X4_takes : vv_vok yX4_takes := ⟨vi_X4_takes, vs_X4_takes⟩
theorem cd_X4_levelOf : Cond.code yX4_levelOf cX4_levelOf 5 (some .int) ∈ lw_ok := lw_ok_in (lw_g3 (List.mem_of_getElem? (i := 46) rfl)) rfl
theorem yk_X4_levelOf : vv_yok yX4_levelOf cX4_levelOf 5 (some .int) 1 := ⟨cd_X4_levelOf, in_X4, by decide +kernel⟩
theorem vi_X4_levelOf : Cond.instanceMethod yX4_levelOf ∈ lw_ok := lw_ok_in (lw_g3 (List.mem_of_getElem? (i := 44) rfl)) rfl
theorem vs_X4_levelOf : Cond.selects yX4_levelOf.cls yX4_levelOf yX4_levelOf ∈ lw_ok := lw_ok_in (lw_g3 (List.mem_of_getElem? (i := 45) rfl)) rfl
theorem vk_X4_levelOf : vv_vok yX4_levelOf := ⟨vi_X4_levelOf, vs_X4_levelOf⟩
theorem cd_X5_init : Cond.code yX5_init cX5_init 1 none ∈ lw_ok := lw_ok_in (lw_g1 (List.mem_of_getElem? (i := 234) rfl)) rfl
theorem yk_X5_init : vv_yok yX5_init cX5_init 1 none 0 := ⟨cd_X5_init, in_X5, by decide +kernel⟩
theorem cd_X5_start : Cond.code yX5_start cX5_start 4 none ∈ lw_ok := lw_ok_in (lw_g3 (List.mem_of_getElem? (i := 223) rfl)) rfl
theorem yk_X5_start : vv_yok yX5_start cX5_start 4 none 2 := ⟨cd_X5_start, in_X5, by decide +kernel⟩
theorem vi_X5_start : Cond.instanceMethod yX5_start ∈ lw_ok := lw_ok_in (lw_g3 (List.mem_of_getElem? (i := 221) rfl)) rfl
theorem vs_X5_start : Cond.selects yX5_start.cls yX5_start yX5_start ∈ lw_ok := lw_ok_in (lw_g3 (List.mem_of_getElem? (i := 222) rfl)) rfl
theorem vk_X5_start : vv_vok yX5_start := ⟨vi_X5_start, vs_X5_start⟩
theorem cd_X5_next : Cond.code yX5_next cX5_next 4 (some .boolean) ∈ lw_ok := lw_ok_in (lw_g4 (List.mem_of_getElem? (i := 0) rfl)) rfl
theorem yk_X5_next : vv_yok yX5_next cX5_next 4 (some .boolean) 0 := ⟨cd_X5_next, in_X5, by decide +kernel⟩
theorem vi_X5_next : Cond.instanceMethod yX5_next ∈ lw_ok := lw_ok_in (lw_g3 (List.mem_of_getElem? (i := 238) rfl)) rfl
theorem vs_X5_next : Cond.selects yX5_next.cls yX5_next yX5_next ∈ lw_ok := lw_ok_in (lw_g3 (List.mem_of_getElem? (i := 239) rfl)) rfl
theorem vk_X5_next : vv_vok yX5_next := ⟨vi_X5_next, vs_X5_next⟩
theorem cd_X5_inchesAt : Cond.code yX5_inchesAt cX5_inchesAt 2 (some .int) ∈ lw_ok := lw_ok_in (lw_g3 (List.mem_of_getElem? (i := 232) rfl)) rfl
theorem yk_X5_inchesAt : vv_yok yX5_inchesAt cX5_inchesAt 2 (some .int) 1 := ⟨cd_X5_inchesAt, in_X5, by decide +kernel⟩
theorem vi_X5_inchesAt : Cond.instanceMethod yX5_inchesAt ∈ lw_ok := lw_ok_in (lw_g3 (List.mem_of_getElem? (i := 230) rfl)) rfl
theorem vs_X5_inchesAt : Cond.selects yX5_inchesAt.cls yX5_inchesAt yX5_inchesAt ∈ lw_ok := lw_ok_in (lw_g3 (List.mem_of_getElem? (i := 231) rfl)) rfl
theorem vk_X5_inchesAt : vv_vok yX5_inchesAt := ⟨vi_X5_inchesAt, vs_X5_inchesAt⟩
theorem cd_X5_copyFrom : Cond.code yX5_copyFrom cX5_copyFrom 3 none ∈ lw_ok := lw_ok_in (lw_g3 (List.mem_of_getElem? (i := 236) rfl)) rfl
theorem yk_X5_copyFrom : vv_yok yX5_copyFrom cX5_copyFrom 3 none 1 := ⟨cd_X5_copyFrom, in_X5, by decide +kernel⟩
theorem vi_X5_copyFrom : Cond.instanceMethod yX5_copyFrom ∈ lw_ok := lw_ok_in (lw_g3 (List.mem_of_getElem? (i := 234) rfl)) rfl
theorem vs_X5_copyFrom : Cond.selects yX5_copyFrom.cls yX5_copyFrom yX5_copyFrom ∈ lw_ok := lw_ok_in (lw_g3 (List.mem_of_getElem? (i := 235) rfl)) rfl
theorem vk_X5_copyFrom : vv_vok yX5_copyFrom := ⟨vi_X5_copyFrom, vs_X5_copyFrom⟩
theorem cd_X6_init : Cond.code yX6_init cX6_init 1 none ∈ lw_ok := lw_ok_in (lw_g1 (List.mem_of_getElem? (i := 218) rfl)) rfl
theorem yk_X6_init : vv_yok yX6_init cX6_init 1 none 0 := ⟨cd_X6_init, in_X6, by decide +kernel⟩
theorem cd_X6_size : Cond.code yX6_size cX6_size 1 (some .int) ∈ lw_ok := lw_ok_in (lw_g4 (List.mem_of_getElem? (i := 94) rfl)) rfl
theorem yk_X6_size : vv_yok yX6_size cX6_size 1 (some .int) 0 := ⟨cd_X6_size, in_X6, by decide +kernel⟩
theorem vi_X6_size : Cond.instanceMethod yX6_size ∈ lw_ok := lw_ok_in (lw_g4 (List.mem_of_getElem? (i := 92) rfl)) rfl
theorem vs_X6_size : Cond.selects yX6_size.cls yX6_size yX6_size ∈ lw_ok := lw_ok_in (lw_g4 (List.mem_of_getElem? (i := 93) rfl)) rfl
theorem vk_X6_size : vv_vok yX6_size := ⟨vi_X6_size, vs_X6_size⟩
theorem cd_X6_clear : Cond.code yX6_clear cX6_clear 1 none ∈ lw_ok := lw_ok_in (lw_g3 (List.mem_of_getElem? (i := 14) rfl)) rfl
theorem yk_X6_clear : vv_yok yX6_clear cX6_clear 1 none 0 := ⟨cd_X6_clear, in_X6, by decide +kernel⟩
theorem vi_X6_clear : Cond.instanceMethod yX6_clear ∈ lw_ok := lw_ok_in (lw_g3 (List.mem_of_getElem? (i := 12) rfl)) rfl
theorem vs_X6_clear : Cond.selects yX6_clear.cls yX6_clear yX6_clear ∈ lw_ok := lw_ok_in (lw_g3 (List.mem_of_getElem? (i := 13) rfl)) rfl
theorem vk_X6_clear : vv_vok yX6_clear := ⟨vi_X6_clear, vs_X6_clear⟩
theorem cd_X6_add : Cond.code yX6_add cX6_add 3 (some .boolean) ∈ lw_ok := lw_ok_in (lw_g4 (List.mem_of_getElem? (i := 90) rfl)) rfl
theorem yk_X6_add : vv_yok yX6_add cX6_add 3 (some .boolean) 2 := ⟨cd_X6_add, in_X6, by decide +kernel⟩
theorem vi_X6_add : Cond.instanceMethod yX6_add ∈ lw_ok := lw_ok_in (lw_g4 (List.mem_of_getElem? (i := 88) rfl)) rfl
theorem vs_X6_add : Cond.selects yX6_add.cls yX6_add yX6_add ∈ lw_ok := lw_ok_in (lw_g4 (List.mem_of_getElem? (i := 89) rfl)) rfl
theorem vk_X6_add : vv_vok yX6_add := ⟨vi_X6_add, vs_X6_add⟩
theorem cd_X6_agreeWith : Cond.code yX6_agreeWith cX6_agreeWith 4 (some .boolean) ∈ lw_ok := lw_ok_in (lw_g4 (List.mem_of_getElem? (i := 106) rfl)) rfl
theorem yk_X6_agreeWith : vv_yok yX6_agreeWith cX6_agreeWith 4 (some .boolean) 2 := ⟨cd_X6_agreeWith, in_X6, by decide +kernel⟩
theorem vi_X6_agreeWith : Cond.instanceMethod yX6_agreeWith ∈ lw_ok := lw_ok_in (lw_g4 (List.mem_of_getElem? (i := 104) rfl)) rfl
theorem vs_X6_agreeWith : Cond.selects yX6_agreeWith.cls yX6_agreeWith yX6_agreeWith ∈ lw_ok := lw_ok_in (lw_g4 (List.mem_of_getElem? (i := 105) rfl)) rfl
theorem vk_X6_agreeWith : vv_vok yX6_agreeWith := ⟨vi_X6_agreeWith, vs_X6_agreeWith⟩
theorem cd_X7_init : Cond.code yX7_init cX7_init 1 none ∈ lw_ok := lw_ok_in (lw_g1 (List.mem_of_getElem? (i := 28) rfl)) rfl
theorem yk_X7_init : vv_yok yX7_init cX7_init 1 none 0 := ⟨cd_X7_init, in_X7, by decide +kernel⟩
theorem cd_X7_size : Cond.code yX7_size cX7_size 1 (some .int) ∈ lw_ok := lw_ok_in (lw_g2 (List.mem_of_getElem? (i := 75) rfl)) rfl
theorem yk_X7_size : vv_yok yX7_size cX7_size 1 (some .int) 0 := ⟨cd_X7_size, in_X7, by decide +kernel⟩
theorem vi_X7_size : Cond.instanceMethod yX7_size ∈ lw_ok := lw_ok_in (lw_g2 (List.mem_of_getElem? (i := 73) rfl)) rfl
theorem vs_X7_size : Cond.selects yX7_size.cls yX7_size yX7_size ∈ lw_ok := lw_ok_in (lw_g2 (List.mem_of_getElem? (i := 74) rfl)) rfl
theorem vk_X7_size : vv_vok yX7_size := ⟨vi_X7_size, vs_X7_size⟩
theorem cd_X7_clear : Cond.code yX7_clear cX7_clear 1 none ∈ lw_ok := lw_ok_in (lw_g2 (List.mem_of_getElem? (i := 158) rfl)) rfl
theorem yk_X7_clear : vv_yok yX7_clear cX7_clear 1 none 0 := ⟨cd_X7_clear, in_X7, by decide +kernel⟩
theorem vi_X7_clear : Cond.instanceMethod yX7_clear ∈ lw_ok := lw_ok_in (lw_g2 (List.mem_of_getElem? (i := 156) rfl)) rfl
theorem vs_X7_clear : Cond.selects yX7_clear.cls yX7_clear yX7_clear ∈ lw_ok := lw_ok_in (lw_g2 (List.mem_of_getElem? (i := 157) rfl)) rfl
theorem vk_X7_clear : vv_vok yX7_clear := ⟨vi_X7_clear, vs_X7_clear⟩
theorem cd_X7_add : Cond.code yX7_add cX7_add 2 (some .boolean) ∈ lw_ok := lw_ok_in (lw_g2 (List.mem_of_getElem? (i := 55) rfl)) rfl
theorem yk_X7_add : vv_yok yX7_add cX7_add 2 (some .boolean) 1 := ⟨cd_X7_add, in_X7, by decide +kernel⟩
theorem vi_X7_add : Cond.instanceMethod yX7_add ∈ lw_ok := lw_ok_in (lw_g2 (List.mem_of_getElem? (i := 53) rfl)) rfl
theorem vs_X7_add : Cond.selects yX7_add.cls yX7_add yX7_add ∈ lw_ok := lw_ok_in (lw_g2 (List.mem_of_getElem? (i := 54) rfl)) rfl
theorem vk_X7_add : vv_vok yX7_add := ⟨vi_X7_add, vs_X7_add⟩
theorem cd_X7_letterAt : Cond.code yX7_letterAt cX7_letterAt 2 (some .int) ∈ lw_ok := lw_ok_in (lw_g2 (List.mem_of_getElem? (i := 91) rfl)) rfl
theorem yk_X7_letterAt : vv_yok yX7_letterAt cX7_letterAt 2 (some .int) 1 := ⟨cd_X7_letterAt, in_X7, by decide +kernel⟩
theorem vi_X7_letterAt : Cond.instanceMethod yX7_letterAt ∈ lw_ok := lw_ok_in (lw_g2 (List.mem_of_getElem? (i := 89) rfl)) rfl
theorem vs_X7_letterAt : Cond.selects yX7_letterAt.cls yX7_letterAt yX7_letterAt ∈ lw_ok := lw_ok_in (lw_g2 (List.mem_of_getElem? (i := 90) rfl)) rfl
theorem vk_X7_letterAt : vv_vok yX7_letterAt := ⟨vi_X7_letterAt, vs_X7_letterAt⟩
theorem cd_X7_numberCount : Cond.code yX7_numberCount cX7_numberCount 1 (some .int) ∈ lw_ok := lw_ok_in (lw_g2 (List.mem_of_getElem? (i := 100) rfl)) rfl
theorem yk_X7_numberCount : vv_yok yX7_numberCount cX7_numberCount 1 (some .int) 0 := ⟨cd_X7_numberCount, in_X7, by decide +kernel⟩
theorem vi_X7_numberCount : Cond.instanceMethod yX7_numberCount ∈ lw_ok := lw_ok_in (lw_g2 (List.mem_of_getElem? (i := 98) rfl)) rfl
theorem vs_X7_numberCount : Cond.selects yX7_numberCount.cls yX7_numberCount yX7_numberCount ∈ lw_ok := lw_ok_in (lw_g2 (List.mem_of_getElem? (i := 99) rfl)) rfl
theorem vk_X7_numberCount : vv_vok yX7_numberCount := ⟨vi_X7_numberCount, vs_X7_numberCount⟩
theorem cd_X7_numberAt : Cond.code yX7_numberAt cX7_numberAt 2 (some .int) ∈ lw_ok := lw_ok_in (lw_g2 (List.mem_of_getElem? (i := 104) rfl)) rfl
theorem yk_X7_numberAt : vv_yok yX7_numberAt cX7_numberAt 2 (some .int) 1 := ⟨cd_X7_numberAt, in_X7, by decide +kernel⟩
theorem vi_X7_numberAt : Cond.instanceMethod yX7_numberAt ∈ lw_ok := lw_ok_in (lw_g2 (List.mem_of_getElem? (i := 102) rfl)) rfl
theorem vs_X7_numberAt : Cond.selects yX7_numberAt.cls yX7_numberAt yX7_numberAt ∈ lw_ok := lw_ok_in (lw_g2 (List.mem_of_getElem? (i := 103) rfl)) rfl
theorem vk_X7_numberAt : vv_vok yX7_numberAt := ⟨vi_X7_numberAt, vs_X7_numberAt⟩
theorem cd_X7_readItem : Cond.code yX7_readItem cX7_readItem 6 (some .int) ∈ lw_ok := lw_ok_in (lw_g2 (List.mem_of_getElem? (i := 79) rfl)) rfl
theorem yk_X7_readItem : vv_yok yX7_readItem cX7_readItem 6 (some .int) 1 := ⟨cd_X7_readItem, in_X7, by decide +kernel⟩
theorem vi_X7_readItem : Cond.instanceMethod yX7_readItem ∈ lw_ok := lw_ok_in (lw_g2 (List.mem_of_getElem? (i := 77) rfl)) rfl
theorem vs_X7_readItem : Cond.selects yX7_readItem.cls yX7_readItem yX7_readItem ∈ lw_ok := lw_ok_in (lw_g2 (List.mem_of_getElem? (i := 78) rfl)) rfl
theorem vk_X7_readItem : vv_vok yX7_readItem := ⟨vi_X7_readItem, vs_X7_readItem⟩
theorem cd_X7_figuresAt : Cond.code yX7_figuresAt cX7_figuresAt 2 (some .int) ∈ lw_ok := lw_ok_in (lw_g2 (List.mem_of_getElem? (i := 83) rfl)) rfl
theorem yk_X7_figuresAt : vv_yok yX7_figuresAt cX7_figuresAt 2 (some .int) 1 := ⟨cd_X7_figuresAt, in_X7, by decide +kernel⟩
theorem vi_X7_figuresAt : Cond.instanceMethod yX7_figuresAt ∈ lw_ok := lw_ok_in (lw_g2 (List.mem_of_getElem? (i := 82) rfl)) rfl
theorem vs_X7_figuresAt : Cond.selects yX7_figuresAt.cls yX7_figuresAt yX7_figuresAt ∈ lw_ok := lw_ok_in (lw_g0 (List.mem_of_getElem? (i := 1) rfl)) rfl
theorem vk_X7_figuresAt : vv_vok yX7_figuresAt := ⟨vi_X7_figuresAt, vs_X7_figuresAt⟩
theorem cd_X7_figureAt : Cond.code yX7_figureAt cX7_figureAt 3 (some .int) ∈ lw_ok := lw_ok_in (lw_g2 (List.mem_of_getElem? (i := 87) rfl)) rfl
theorem yk_X7_figureAt : vv_yok yX7_figureAt cX7_figureAt 3 (some .int) 1 := ⟨cd_X7_figureAt, in_X7, by decide +kernel⟩
theorem vi_X7_figureAt : Cond.instanceMethod yX7_figureAt ∈ lw_ok := lw_ok_in (lw_g2 (List.mem_of_getElem? (i := 86) rfl)) rfl
theorem vs_X7_figureAt : Cond.selects yX7_figureAt.cls yX7_figureAt yX7_figureAt ∈ lw_ok := lw_ok_in (lw_g0 (List.mem_of_getElem? (i := 2) rfl)) rfl
theorem vk_X7_figureAt : vv_vok yX7_figureAt := ⟨vi_X7_figureAt, vs_X7_figureAt⟩
theorem cd_X8_init : Cond.code yX8_init cX8_init 2 none ∈ lw_ok := lw_ok_in (lw_g1 (List.mem_of_getElem? (i := 20) rfl)) rfl
theorem yk_X8_init : vv_yok yX8_init cX8_init 2 none 0 := ⟨cd_X8_init, in_X8, by decide +kernel⟩
theorem cd_X8_write : Cond.code yX8_write cX8_write 2 (some .int) ∈ lw_ok := lw_ok_in (lw_g2 (List.mem_of_getElem? (i := 232) rfl)) rfl
theorem yk_X8_write : vv_yok yX8_write cX8_write 2 (some .int) 1 := ⟨cd_X8_write, in_X8, by decide +kernel⟩
theorem vi_X8_write : Cond.instanceMethod yX8_write ∈ lw_ok := lw_ok_in (lw_g2 (List.mem_of_getElem? (i := 230) rfl)) rfl
theorem vs_X8_write : Cond.selects yX8_write.cls yX8_write yX8_write ∈ lw_ok := lw_ok_in (lw_g2 (List.mem_of_getElem? (i := 231) rfl)) rfl
theorem vk_X8_write : vv_vok yX8_write := ⟨vi_X8_write, vs_X8_write⟩
theorem cd_X8_wipe : Cond.code yX8_wipe cX8_wipe 2 (some .int) ∈ lw_ok := lw_ok_in (lw_g2 (List.mem_of_getElem? (i := 237) rfl)) rfl
theorem yk_X8_wipe : vv_yok yX8_wipe cX8_wipe 2 (some .int) 0 := ⟨cd_X8_wipe, in_X8, by decide +kernel⟩
theorem vi_X8_wipe : Cond.instanceMethod yX8_wipe ∈ lw_ok := lw_ok_in (lw_g2 (List.mem_of_getElem? (i := 235) rfl)) rfl
theorem vs_X8_wipe : Cond.selects yX8_wipe.cls yX8_wipe yX8_wipe ∈ lw_ok := lw_ok_in (lw_g2 (List.mem_of_getElem? (i := 236) rfl)) rfl
theorem vk_X8_wipe : vv_vok yX8_wipe := ⟨vi_X8_wipe, vs_X8_wipe⟩
theorem cd_X8_fault : Cond.code yX8_fault cX8_fault 1 (some .int) ∈ lw_ok := lw_ok_in (lw_g3 (List.mem_of_getElem? (i := 1) rfl)) rfl
theorem yk_X8_fault : vv_yok yX8_fault cX8_fault 1 (some .int) 0 := ⟨cd_X8_fault, in_X8, by decide +kernel⟩
theorem vi_X8_fault : Cond.instanceMethod yX8_fault ∈ lw_ok := lw_ok_in (lw_g2 (List.mem_of_getElem? (i := 239) rfl)) rfl
theorem vs_X8_fault : Cond.selects yX8_fault.cls yX8_fault yX8_fault ∈ lw_ok := lw_ok_in (lw_g3 (List.mem_of_getElem? (i := 0) rfl)) rfl
theorem vk_X8_fault : vv_vok yX8_fault := ⟨vi_X8_fault, vs_X8_fault⟩
theorem cd_X8_laid : Cond.code yX8_laid cX8_laid 1 (some .int) ∈ lw_ok := lw_ok_in (lw_g3 (List.mem_of_getElem? (i := 5) rfl)) rfl
theorem yk_X8_laid : vv_yok yX8_laid cX8_laid 1 (some .int) 0 := ⟨cd_X8_laid, in_X8, by decide +kernel⟩
theorem vi_X8_laid : Cond.instanceMethod yX8_laid ∈ lw_ok := lw_ok_in (lw_g3 (List.mem_of_getElem? (i := 3) rfl)) rfl
theorem vs_X8_laid : Cond.selects yX8_laid.cls yX8_laid yX8_laid ∈ lw_ok := lw_ok_in (lw_g3 (List.mem_of_getElem? (i := 4) rfl)) rfl
theorem vk_X8_laid : vv_vok yX8_laid := ⟨vi_X8_laid, vs_X8_laid⟩
theorem cd_X8_cell : Cond.code yX8_cell cX8_cell 3 (some .int) ∈ lw_ok := lw_ok_in (lw_g3 (List.mem_of_getElem? (i := 18) rfl)) rfl
theorem yk_X8_cell : vv_yok yX8_cell cX8_cell 3 (some .int) 2 := ⟨cd_X8_cell, in_X8, by decide +kernel⟩
theorem vi_X8_cell : Cond.instanceMethod yX8_cell ∈ lw_ok := lw_ok_in (lw_g3 (List.mem_of_getElem? (i := 16) rfl)) rfl
theorem vs_X8_cell : Cond.selects yX8_cell.cls yX8_cell yX8_cell ∈ lw_ok := lw_ok_in (lw_g3 (List.mem_of_getElem? (i := 17) rfl)) rfl
theorem vk_X8_cell : vv_vok yX8_cell := ⟨vi_X8_cell, vs_X8_cell⟩
theorem cd_X8_lake : Cond.code yX8_lake cX8_lake 2 (some .int) ∈ lw_ok := lw_ok_in (lw_g3 (List.mem_of_getElem? (i := 38) rfl)) rfl
theorem yk_X8_lake : vv_yok yX8_lake cX8_lake 2 (some .int) 1 := ⟨cd_X8_lake, in_X8, by decide +kernel⟩
theorem vi_X8_lake : Cond.instanceMethod yX8_lake ∈ lw_ok := lw_ok_in (lw_g3 (List.mem_of_getElem? (i := 36) rfl)) rfl
theorem vs_X8_lake : Cond.selects yX8_lake.cls yX8_lake yX8_lake ∈ lw_ok := lw_ok_in (lw_g3 (List.mem_of_getElem? (i := 37) rfl)) rfl
theorem vk_X8_lake : vv_vok yX8_lake := ⟨vi_X8_lake, vs_X8_lake⟩
theorem cd_X8_edge : Cond.code yX8_edge cX8_edge 2 (some .int) ∈ lw_ok := lw_ok_in (lw_g3 (List.mem_of_getElem? (i := 67) rfl)) rfl
theorem yk_X8_edge : vv_yok yX8_edge cX8_edge 2 (some .int) 1 := ⟨cd_X8_edge, in_X8, by decide +kernel⟩
theorem vi_X8_edge : Cond.instanceMethod yX8_edge ∈ lw_ok := lw_ok_in (lw_g3 (List.mem_of_getElem? (i := 65) rfl)) rfl
theorem vs_X8_edge : Cond.selects yX8_edge.cls yX8_edge yX8_edge ∈ lw_ok := lw_ok_in (lw_g3 (List.mem_of_getElem? (i := 66) rfl)) rfl
theorem vk_X8_edge : vv_vok yX8_edge := ⟨vi_X8_edge, vs_X8_edge⟩
theorem cd_X8_comes : Cond.code yX8_comes cX8_comes 2 (some .int) ∈ lw_ok := lw_ok_in (lw_g3 (List.mem_of_getElem? (i := 79) rfl)) rfl
theorem yk_X8_comes : vv_yok yX8_comes cX8_comes 2 (some .int) 1 := ⟨cd_X8_comes, in_X8, by decide +kernel⟩
theorem vi_X8_comes : Cond.instanceMethod yX8_comes ∈ lw_ok := lw_ok_in (lw_g3 (List.mem_of_getElem? (i := 77) rfl)) rfl
theorem vs_X8_comes : Cond.selects yX8_comes.cls yX8_comes yX8_comes ∈ lw_ok := lw_ok_in (lw_g3 (List.mem_of_getElem? (i := 78) rfl)) rfl
theorem vk_X8_comes : vv_vok yX8_comes := ⟨vi_X8_comes, vs_X8_comes⟩
theorem cd_X8_put : Cond.code yX8_put cX8_put 4 (some .int) ∈ lw_ok := lw_ok_in (lw_g3 (List.mem_of_getElem? (i := 92) rfl)) rfl
theorem yk_X8_put : vv_yok yX8_put cX8_put 4 (some .int) 3 := ⟨cd_X8_put, in_X8, by decide +kernel⟩
theorem vi_X8_put : Cond.instanceMethod yX8_put ∈ lw_ok := lw_ok_in (lw_g3 (List.mem_of_getElem? (i := 90) rfl)) rfl
theorem vs_X8_put : Cond.selects yX8_put.cls yX8_put yX8_put ∈ lw_ok := lw_ok_in (lw_g3 (List.mem_of_getElem? (i := 91) rfl)) rfl
theorem vk_X8_put : vv_vok yX8_put := ⟨vi_X8_put, vs_X8_put⟩
theorem cd_X8_dig : Cond.code yX8_dig cX8_dig 3 (some .int) ∈ lw_ok := lw_ok_in (lw_g3 (List.mem_of_getElem? (i := 114) rfl)) rfl
theorem yk_X8_dig : vv_yok yX8_dig cX8_dig 3 (some .int) 2 := ⟨cd_X8_dig, in_X8, by decide +kernel⟩
theorem vi_X8_dig : Cond.instanceMethod yX8_dig ∈ lw_ok := lw_ok_in (lw_g3 (List.mem_of_getElem? (i := 112) rfl)) rfl
theorem vs_X8_dig : Cond.selects yX8_dig.cls yX8_dig yX8_dig ∈ lw_ok := lw_ok_in (lw_g3 (List.mem_of_getElem? (i := 113) rfl)) rfl
theorem vk_X8_dig : vv_vok yX8_dig := ⟨vi_X8_dig, vs_X8_dig⟩
theorem cd_X8_pass : Cond.code yX8_pass cX8_pass 2 (some .int) ∈ lw_ok := lw_ok_in (lw_g3 (List.mem_of_getElem? (i := 127) rfl)) rfl
theorem yk_X8_pass : vv_yok yX8_pass cX8_pass 2 (some .int) 1 := ⟨cd_X8_pass, in_X8, by decide +kernel⟩
theorem vi_X8_pass : Cond.instanceMethod yX8_pass ∈ lw_ok := lw_ok_in (lw_g3 (List.mem_of_getElem? (i := 125) rfl)) rfl
theorem vs_X8_pass : Cond.selects yX8_pass.cls yX8_pass yX8_pass ∈ lw_ok := lw_ok_in (lw_g3 (List.mem_of_getElem? (i := 126) rfl)) rfl
theorem vk_X8_pass : vv_vok yX8_pass := ⟨vi_X8_pass, vs_X8_pass⟩
theorem cd_X8_undo : Cond.code yX8_undo cX8_undo 1 (some .int) ∈ lw_ok := lw_ok_in (lw_g3 (List.mem_of_getElem? (i := 152) rfl)) rfl
theorem yk_X8_undo : vv_yok yX8_undo cX8_undo 1 (some .int) 0 := ⟨cd_X8_undo, in_X8, by decide +kernel⟩
theorem vi_X8_undo : Cond.instanceMethod yX8_undo ∈ lw_ok := lw_ok_in (lw_g3 (List.mem_of_getElem? (i := 150) rfl)) rfl
theorem vs_X8_undo : Cond.selects yX8_undo.cls yX8_undo yX8_undo ∈ lw_ok := lw_ok_in (lw_g3 (List.mem_of_getElem? (i := 151) rfl)) rfl
theorem vk_X8_undo : vv_vok yX8_undo := ⟨vi_X8_undo, vs_X8_undo⟩
theorem cd_X8_behind : Cond.code yX8_behind cX8_behind 3 (some .int) ∈ lw_ok := lw_ok_in (lw_g3 (List.mem_of_getElem? (i := 179) rfl)) rfl
theorem yk_X8_behind : vv_yok yX8_behind cX8_behind 3 (some .int) 2 := ⟨cd_X8_behind, in_X8, by decide +kernel⟩
theorem vi_X8_behind : Cond.instanceMethod yX8_behind ∈ lw_ok := lw_ok_in (lw_g3 (List.mem_of_getElem? (i := 177) rfl)) rfl
theorem vs_X8_behind : Cond.selects yX8_behind.cls yX8_behind yX8_behind ∈ lw_ok := lw_ok_in (lw_g3 (List.mem_of_getElem? (i := 178) rfl)) rfl
theorem vk_X8_behind : vv_vok yX8_behind := ⟨vi_X8_behind, vs_X8_behind⟩
theorem cd_X8_worn : Cond.code yX8_worn cX8_worn 3 (some .int) ∈ lw_ok := lw_ok_in (lw_g3 (List.mem_of_getElem? (i := 187) rfl)) rfl
theorem yk_X8_worn : vv_yok yX8_worn cX8_worn 3 (some .int) 2 := ⟨cd_X8_worn, in_X8, by decide +kernel⟩
theorem vi_X8_worn : Cond.instanceMethod yX8_worn ∈ lw_ok := lw_ok_in (lw_g3 (List.mem_of_getElem? (i := 185) rfl)) rfl
theorem vs_X8_worn : Cond.selects yX8_worn.cls yX8_worn yX8_worn ∈ lw_ok := lw_ok_in (lw_g3 (List.mem_of_getElem? (i := 186) rfl)) rfl
theorem vk_X8_worn : vv_vok yX8_worn := ⟨vi_X8_worn, vs_X8_worn⟩
theorem cd_X8_over : Cond.code yX8_over cX8_over 3 (some .int) ∈ lw_ok := lw_ok_in (lw_g3 (List.mem_of_getElem? (i := 191) rfl)) rfl
theorem yk_X8_over : vv_yok yX8_over cX8_over 3 (some .int) 1 := ⟨cd_X8_over, in_X8, by decide +kernel⟩
theorem vi_X8_over : Cond.instanceMethod yX8_over ∈ lw_ok := lw_ok_in (lw_g3 (List.mem_of_getElem? (i := 189) rfl)) rfl
theorem vs_X8_over : Cond.selects yX8_over.cls yX8_over yX8_over ∈ lw_ok := lw_ok_in (lw_g3 (List.mem_of_getElem? (i := 190) rfl)) rfl
theorem vk_X8_over : vv_vok yX8_over := ⟨vi_X8_over, vs_X8_over⟩
theorem cd_X8_gone : Cond.code yX8_gone cX8_gone 3 (some .int) ∈ lw_ok := lw_ok_in (lw_g3 (List.mem_of_getElem? (i := 203) rfl)) rfl
theorem yk_X8_gone : vv_yok yX8_gone cX8_gone 3 (some .int) 1 := ⟨cd_X8_gone, in_X8, by decide +kernel⟩
theorem vi_X8_gone : Cond.instanceMethod yX8_gone ∈ lw_ok := lw_ok_in (lw_g3 (List.mem_of_getElem? (i := 201) rfl)) rfl
theorem vs_X8_gone : Cond.selects yX8_gone.cls yX8_gone yX8_gone ∈ lw_ok := lw_ok_in (lw_g3 (List.mem_of_getElem? (i := 202) rfl)) rfl
theorem vk_X8_gone : vv_vok yX8_gone := ⟨vi_X8_gone, vs_X8_gone⟩
theorem cd_X8_best : Cond.code yX8_best cX8_best 6 (some .int) ∈ lw_ok := lw_ok_in (lw_g3 (List.mem_of_getElem? (i := 215) rfl)) rfl
theorem yk_X8_best : vv_yok yX8_best cX8_best 6 (some .int) 4 := ⟨cd_X8_best, in_X8, by decide +kernel⟩
theorem vi_X8_best : Cond.instanceMethod yX8_best ∈ lw_ok := lw_ok_in (lw_g3 (List.mem_of_getElem? (i := 213) rfl)) rfl
theorem vs_X8_best : Cond.selects yX8_best.cls yX8_best yX8_best ∈ lw_ok := lw_ok_in (lw_g3 (List.mem_of_getElem? (i := 214) rfl)) rfl
theorem vk_X8_best : vv_vok yX8_best := ⟨vi_X8_best, vs_X8_best⟩
theorem cd_X8_findBestShares : Cond.code yX8_findBestShares cX8_findBestShares 8 (some .int) ∈ lw_ok := lw_ok_in (lw_g3 (List.mem_of_getElem? (i := 219) rfl)) rfl
theorem yk_X8_findBestShares : vv_yok yX8_findBestShares cX8_findBestShares 8 (some .int) 3 := ⟨cd_X8_findBestShares, in_X8, by decide +kernel⟩
theorem vi_X8_findBestShares : Cond.instanceMethod yX8_findBestShares ∈ lw_ok := lw_ok_in (lw_g3 (List.mem_of_getElem? (i := 218) rfl)) rfl
theorem vs_X8_findBestShares : Cond.selects yX8_findBestShares.cls yX8_findBestShares yX8_findBestShares ∈ lw_ok := lw_ok_in (lw_g0 (List.mem_of_getElem? (i := 12) rfl)) rfl
theorem vk_X8_findBestShares : vv_vok yX8_findBestShares := ⟨vi_X8_findBestShares, vs_X8_findBestShares⟩
theorem cd_X8_waterWithShares : Cond.code yX8_waterWithShares cX8_waterWithShares 5 (some .int) ∈ lw_ok := lw_ok_in (lw_g3 (List.mem_of_getElem? (i := 228) rfl)) rfl
theorem yk_X8_waterWithShares : vv_yok yX8_waterWithShares cX8_waterWithShares 5 (some .int) 2 := ⟨cd_X8_waterWithShares, in_X8, by decide +kernel⟩
theorem vi_X8_waterWithShares : Cond.instanceMethod yX8_waterWithShares ∈ lw_ok := lw_ok_in (lw_g3 (List.mem_of_getElem? (i := 227) rfl)) rfl
theorem vs_X8_waterWithShares : Cond.selects yX8_waterWithShares.cls yX8_waterWithShares yX8_waterWithShares ∈ lw_ok := lw_ok_in (lw_g0 (List.mem_of_getElem? (i := 13) rfl)) rfl
theorem vk_X8_waterWithShares : vv_vok yX8_waterWithShares := ⟨vi_X8_waterWithShares, vs_X8_waterWithShares⟩
theorem cd_X8_gap : Cond.code yX8_gap cX8_gap 5 (some .int) ∈ lw_ok := lw_ok_in (lw_g4 (List.mem_of_getElem? (i := 4) rfl)) rfl
theorem yk_X8_gap : vv_yok yX8_gap cX8_gap 5 (some .int) 2 := ⟨cd_X8_gap, in_X8, by decide +kernel⟩
theorem vi_X8_gap : Cond.instanceMethod yX8_gap ∈ lw_ok := lw_ok_in (lw_g4 (List.mem_of_getElem? (i := 2) rfl)) rfl
theorem vs_X8_gap : Cond.selects yX8_gap.cls yX8_gap yX8_gap ∈ lw_ok := lw_ok_in (lw_g4 (List.mem_of_getElem? (i := 3) rfl)) rfl
theorem vk_X8_gap : vv_vok yX8_gap := ⟨vi_X8_gap, vs_X8_gap⟩
theorem cd_X8_isGap : Cond.code yX8_isGap cX8_isGap 5 (some .boolean) ∈ lw_ok := lw_ok_in (lw_g4 (List.mem_of_getElem? (i := 8) rfl)) rfl
theorem yk_X8_isGap : vv_yok yX8_isGap cX8_isGap 5 (some .boolean) 3 := ⟨cd_X8_isGap, in_X8, by decide +kernel⟩
theorem vi_X8_isGap : Cond.instanceMethod yX8_isGap ∈ lw_ok := lw_ok_in (lw_g4 (List.mem_of_getElem? (i := 7) rfl)) rfl
theorem vs_X8_isGap : Cond.selects yX8_isGap.cls yX8_isGap yX8_isGap ∈ lw_ok := lw_ok_in (lw_g0 (List.mem_of_getElem? (i := 14) rfl)) rfl
theorem vk_X8_isGap : vv_vok yX8_isGap := ⟨vi_X8_isGap, vs_X8_isGap⟩
theorem cd_X8_together : Cond.code yX8_together cX8_together 3 (some .int) ∈ lw_ok := lw_ok_in (lw_g4 (List.mem_of_getElem? (i := 18) rfl)) rfl
theorem yk_X8_together : vv_yok yX8_together cX8_together 3 (some .int) 1 := ⟨cd_X8_together, in_X8, by decide +kernel⟩
theorem vi_X8_together : Cond.instanceMethod yX8_together ∈ lw_ok := lw_ok_in (lw_g4 (List.mem_of_getElem? (i := 16) rfl)) rfl
theorem vs_X8_together : Cond.selects yX8_together.cls yX8_together yX8_together ∈ lw_ok := lw_ok_in (lw_g4 (List.mem_of_getElem? (i := 17) rfl)) rfl
theorem vk_X8_together : vv_vok yX8_together := ⟨vi_X8_together, vs_X8_together⟩
theorem cd_X8_slow : Cond.code yX8_slow cX8_slow 6 (some .int) ∈ lw_ok := lw_ok_in (lw_g4 (List.mem_of_getElem? (i := 53) rfl)) rfl
theorem yk_X8_slow : vv_yok yX8_slow cX8_slow 6 (some .int) 3 := ⟨cd_X8_slow, in_X8, by decide +kernel⟩
theorem vi_X8_slow : Cond.instanceMethod yX8_slow ∈ lw_ok := lw_ok_in (lw_g4 (List.mem_of_getElem? (i := 51) rfl)) rfl
theorem vs_X8_slow : Cond.selects yX8_slow.cls yX8_slow yX8_slow ∈ lw_ok := lw_ok_in (lw_g4 (List.mem_of_getElem? (i := 52) rfl)) rfl
theorem vk_X8_slow : vv_vok yX8_slow := ⟨vi_X8_slow, vs_X8_slow⟩
theorem cd_X8_letOut : Cond.code yX8_letOut cX8_letOut 7 (some .int) ∈ lw_ok := lw_ok_in (lw_g4 (List.mem_of_getElem? (i := 57) rfl)) rfl
theorem yk_X8_letOut : vv_yok yX8_letOut cX8_letOut 7 (some .int) 3 := ⟨cd_X8_letOut, in_X8, by decide +kernel⟩
theorem vi_X8_letOut : Cond.instanceMethod yX8_letOut ∈ lw_ok := lw_ok_in (lw_g4 (List.mem_of_getElem? (i := 56) rfl)) rfl
theorem vs_X8_letOut : Cond.selects yX8_letOut.cls yX8_letOut yX8_letOut ∈ lw_ok := lw_ok_in (lw_g0 (List.mem_of_getElem? (i := 17) rfl)) rfl
theorem vk_X8_letOut : vv_vok yX8_letOut := ⟨vi_X8_letOut, vs_X8_letOut⟩
theorem cd_X8_fill : Cond.code yX8_fill cX8_fill 3 (some .int) ∈ lw_ok := lw_ok_in (lw_g4 (List.mem_of_getElem? (i := 62) rfl)) rfl
theorem yk_X8_fill : vv_yok yX8_fill cX8_fill 3 (some .int) 1 := ⟨cd_X8_fill, in_X8, by decide +kernel⟩
theorem vi_X8_fill : Cond.instanceMethod yX8_fill ∈ lw_ok := lw_ok_in (lw_g4 (List.mem_of_getElem? (i := 60) rfl)) rfl
theorem vs_X8_fill : Cond.selects yX8_fill.cls yX8_fill yX8_fill ∈ lw_ok := lw_ok_in (lw_g4 (List.mem_of_getElem? (i := 61) rfl)) rfl
theorem vk_X8_fill : vv_vok yX8_fill := ⟨vi_X8_fill, vs_X8_fill⟩
theorem cd_X8_trodden : Cond.code yX8_trodden cX8_trodden 5 (some .int) ∈ lw_ok := lw_ok_in (lw_g4 (List.mem_of_getElem? (i := 70) rfl)) rfl
theorem yk_X8_trodden : vv_yok yX8_trodden cX8_trodden 5 (some .int) 2 := ⟨cd_X8_trodden, in_X8, by decide +kernel⟩
theorem vi_X8_trodden : Cond.instanceMethod yX8_trodden ∈ lw_ok := lw_ok_in (lw_g4 (List.mem_of_getElem? (i := 68) rfl)) rfl
theorem vs_X8_trodden : Cond.selects yX8_trodden.cls yX8_trodden yX8_trodden ∈ lw_ok := lw_ok_in (lw_g4 (List.mem_of_getElem? (i := 69) rfl)) rfl
theorem vk_X8_trodden : vv_vok yX8_trodden := ⟨vi_X8_trodden, vs_X8_trodden⟩
theorem cd_X8_blame : Cond.code yX8_blame cX8_blame 2 (some .int) ∈ lw_ok := lw_ok_in (lw_g4 (List.mem_of_getElem? (i := 74) rfl)) rfl
theorem yk_X8_blame : vv_yok yX8_blame cX8_blame 2 (some .int) 0 := ⟨cd_X8_blame, in_X8, by decide +kernel⟩
theorem vi_X8_blame : Cond.instanceMethod yX8_blame ∈ lw_ok := lw_ok_in (lw_g4 (List.mem_of_getElem? (i := 72) rfl)) rfl
theorem vs_X8_blame : Cond.selects yX8_blame.cls yX8_blame yX8_blame ∈ lw_ok := lw_ok_in (lw_g4 (List.mem_of_getElem? (i := 73) rfl)) rfl
theorem vk_X8_blame : vv_vok yX8_blame := ⟨vi_X8_blame, vs_X8_blame⟩
theorem cd_X8_seen : Cond.code yX8_seen cX8_seen 3 (some .int) ∈ lw_ok := lw_ok_in (lw_g4 (List.mem_of_getElem? (i := 86) rfl)) rfl
theorem yk_X8_seen : vv_yok yX8_seen cX8_seen 3 (some .int) 2 := ⟨cd_X8_seen, in_X8, by decide +kernel⟩
theorem vi_X8_seen : Cond.instanceMethod yX8_seen ∈ lw_ok := lw_ok_in (lw_g4 (List.mem_of_getElem? (i := 84) rfl)) rfl
theorem vs_X8_seen : Cond.selects yX8_seen.cls yX8_seen yX8_seen ∈ lw_ok := lw_ok_in (lw_g4 (List.mem_of_getElem? (i := 85) rfl)) rfl
theorem vk_X8_seen : vv_vok yX8_seen := ⟨vi_X8_seen, vs_X8_seen⟩
theorem cd_X8_forget : Cond.code yX8_forget cX8_forget 2 (some .int) ∈ lw_ok := lw_ok_in (lw_g4 (List.mem_of_getElem? (i := 98) rfl)) rfl
theorem yk_X8_forget : vv_yok yX8_forget cX8_forget 2 (some .int) 0 := ⟨cd_X8_forget, in_X8, by decide +kernel⟩
theorem vi_X8_forget : Cond.instanceMethod yX8_forget ∈ lw_ok := lw_ok_in (lw_g4 (List.mem_of_getElem? (i := 96) rfl)) rfl
theorem vs_X8_forget : Cond.selects yX8_forget.cls yX8_forget yX8_forget ∈ lw_ok := lw_ok_in (lw_g4 (List.mem_of_getElem? (i := 97) rfl)) rfl
theorem vk_X8_forget : vv_vok yX8_forget := ⟨vi_X8_forget, vs_X8_forget⟩
theorem cd_X8_flows : Cond.code yX8_flows cX8_flows 3 (some .int) ∈ lw_ok := lw_ok_in (lw_g4 (List.mem_of_getElem? (i := 102) rfl)) rfl
theorem yk_X8_flows : vv_yok yX8_flows cX8_flows 3 (some .int) 0 := ⟨cd_X8_flows, in_X8, by decide +kernel⟩
theorem vi_X8_flows : Cond.instanceMethod yX8_flows ∈ lw_ok := lw_ok_in (lw_g4 (List.mem_of_getElem? (i := 100) rfl)) rfl
theorem vs_X8_flows : Cond.selects yX8_flows.cls yX8_flows yX8_flows ∈ lw_ok := lw_ok_in (lw_g4 (List.mem_of_getElem? (i := 101) rfl)) rfl
theorem vk_X8_flows : vv_vok yX8_flows := ⟨vi_X8_flows, vs_X8_flows⟩
theorem cd_X8_odds : Cond.code yX8_odds cX8_odds 8 (some .int) ∈ lw_ok := lw_ok_in (lw_g4 (List.mem_of_getElem? (i := 111) rfl)) rfl
theorem yk_X8_odds : vv_yok yX8_odds cX8_odds 8 (some .int) 4 := ⟨cd_X8_odds, in_X8, by decide +kernel⟩
theorem vi_X8_odds : Cond.instanceMethod yX8_odds ∈ lw_ok := lw_ok_in (lw_g4 (List.mem_of_getElem? (i := 109) rfl)) rfl
theorem vs_X8_odds : Cond.selects yX8_odds.cls yX8_odds yX8_odds ∈ lw_ok := lw_ok_in (lw_g4 (List.mem_of_getElem? (i := 110) rfl)) rfl
theorem vk_X8_odds : vv_vok yX8_odds := ⟨vi_X8_odds, vs_X8_odds⟩
theorem cd_X8_holdsIn : Cond.code yX8_holdsIn cX8_holdsIn 6 (some .boolean) ∈ lw_ok := lw_ok_in (lw_g4 (List.mem_of_getElem? (i := 115) rfl)) rfl
theorem yk_X8_holdsIn : vv_yok yX8_holdsIn cX8_holdsIn 6 (some .boolean) 3 := ⟨cd_X8_holdsIn, in_X8, by decide +kernel⟩
theorem vi_X8_holdsIn : Cond.instanceMethod yX8_holdsIn ∈ lw_ok := lw_ok_in (lw_g4 (List.mem_of_getElem? (i := 114) rfl)) rfl
theorem vs_X8_holdsIn : Cond.selects yX8_holdsIn.cls yX8_holdsIn yX8_holdsIn ∈ lw_ok := lw_ok_in (lw_g0 (List.mem_of_getElem? (i := 18) rfl)) rfl
theorem vk_X8_holdsIn : vv_vok yX8_holdsIn := ⟨vi_X8_holdsIn, vs_X8_holdsIn⟩
theorem cd_X8_chanceOf : Cond.code yX8_chanceOf cX8_chanceOf 5 (some .int) ∈ lw_ok := lw_ok_in (lw_g4 (List.mem_of_getElem? (i := 119) rfl)) rfl
theorem yk_X8_chanceOf : vv_yok yX8_chanceOf cX8_chanceOf 5 (some .int) 3 := ⟨cd_X8_chanceOf, in_X8, by decide +kernel⟩
theorem sk_X8_chanceOf : Cond.static yX8_chanceOf ∈ lw_ok := lw_ok_in (lw_g4 (List.mem_of_getElem? (i := 118) rfl)) rfl
theorem cd_X8_greatestDivisor : Cond.code yX8_greatestDivisor cX8_greatestDivisor 6 (some .int) ∈ lw_ok := lw_ok_in (lw_g4 (List.mem_of_getElem? (i := 122) rfl)) rfl
theorem yk_X8_greatestDivisor : vv_yok yX8_greatestDivisor cX8_greatestDivisor 6 (some .int) 2 := ⟨cd_X8_greatestDivisor, in_X8, by decide +kernel⟩
theorem sk_X8_greatestDivisor : Cond.static yX8_greatestDivisor ∈ lw_ok := lw_ok_in (lw_g4 (List.mem_of_getElem? (i := 121) rfl)) rfl
theorem cd_X8_night : Cond.code yX8_night cX8_night 4 (some .int) ∈ lw_ok := lw_ok_in (lw_g4 (List.mem_of_getElem? (i := 126) rfl)) rfl
theorem yk_X8_night : vv_yok yX8_night cX8_night 4 (some .int) 2 := ⟨cd_X8_night, in_X8, by decide +kernel⟩
theorem vi_X8_night : Cond.instanceMethod yX8_night ∈ lw_ok := lw_ok_in (lw_g4 (List.mem_of_getElem? (i := 124) rfl)) rfl
theorem vs_X8_night : Cond.selects yX8_night.cls yX8_night yX8_night ∈ lw_ok := lw_ok_in (lw_g4 (List.mem_of_getElem? (i := 125) rfl)) rfl
theorem vk_X8_night : vv_vok yX8_night := ⟨vi_X8_night, vs_X8_night⟩
theorem cd_X8_drawOf : Cond.code yX8_drawOf cX8_drawOf 4 (some .int) ∈ lw_ok := lw_ok_in (lw_g4 (List.mem_of_getElem? (i := 129) rfl)) rfl
theorem yk_X8_drawOf : vv_yok yX8_drawOf cX8_drawOf 4 (some .int) 2 := ⟨cd_X8_drawOf, in_X8, by decide +kernel⟩
theorem sk_X8_drawOf : Cond.static yX8_drawOf ∈ lw_ok := lw_ok_in (lw_g4 (List.mem_of_getElem? (i := 128) rfl)) rfl
theorem cd_X8_keep : Cond.code yX8_keep cX8_keep 1 (some .int) ∈ lw_ok := lw_ok_in (lw_g4 (List.mem_of_getElem? (i := 137) rfl)) rfl
theorem yk_X8_keep : vv_yok yX8_keep cX8_keep 1 (some .int) 0 := ⟨cd_X8_keep, in_X8, by decide +kernel⟩
theorem vi_X8_keep : Cond.instanceMethod yX8_keep ∈ lw_ok := lw_ok_in (lw_g4 (List.mem_of_getElem? (i := 135) rfl)) rfl
theorem vs_X8_keep : Cond.selects yX8_keep.cls yX8_keep yX8_keep ∈ lw_ok := lw_ok_in (lw_g4 (List.mem_of_getElem? (i := 136) rfl)) rfl
theorem vk_X8_keep : vv_vok yX8_keep := ⟨vi_X8_keep, vs_X8_keep⟩
theorem cd_X8_back : Cond.code yX8_back cX8_back 1 (some .int) ∈ lw_ok := lw_ok_in (lw_g4 (List.mem_of_getElem? (i := 145) rfl)) rfl
theorem yk_X8_back : vv_yok yX8_back cX8_back 1 (some .int) 0 := ⟨cd_X8_back, in_X8, by decide +kernel⟩
theorem vi_X8_back : Cond.instanceMethod yX8_back ∈ lw_ok := lw_ok_in (lw_g4 (List.mem_of_getElem? (i := 143) rfl)) rfl
theorem vs_X8_back : Cond.selects yX8_back.cls yX8_back yX8_back ∈ lw_ok := lw_ok_in (lw_g4 (List.mem_of_getElem? (i := 144) rfl)) rfl
theorem vk_X8_back : vv_vok yX8_back := ⟨vi_X8_back, vs_X8_back⟩
theorem cd_X8_count : Cond.code yX8_count cX8_count 2 (some .int) ∈ lw_ok := lw_ok_in (lw_g4 (List.mem_of_getElem? (i := 149) rfl)) rfl
theorem yk_X8_count : vv_yok yX8_count cX8_count 2 (some .int) 1 := ⟨cd_X8_count, in_X8, by decide +kernel⟩
theorem vi_X8_count : Cond.instanceMethod yX8_count ∈ lw_ok := lw_ok_in (lw_g4 (List.mem_of_getElem? (i := 147) rfl)) rfl
theorem vs_X8_count : Cond.selects yX8_count.cls yX8_count yX8_count ∈ lw_ok := lw_ok_in (lw_g4 (List.mem_of_getElem? (i := 148) rfl)) rfl
theorem vk_X8_count : vv_vok yX8_count := ⟨vi_X8_count, vs_X8_count⟩
theorem cd_X8_isCell : Cond.code yX8_isCell cX8_isCell 2 (some .boolean) ∈ lw_ok := lw_ok_in (lw_g3 (List.mem_of_getElem? (i := 22) rfl)) rfl
theorem yk_X8_isCell : vv_yok yX8_isCell cX8_isCell 2 (some .boolean) 1 := ⟨cd_X8_isCell, in_X8, by decide +kernel⟩
theorem vi_X8_isCell : Cond.instanceMethod yX8_isCell ∈ lw_ok := lw_ok_in (lw_g3 (List.mem_of_getElem? (i := 21) rfl)) rfl
theorem vs_X8_isCell : Cond.selects yX8_isCell.cls yX8_isCell yX8_isCell ∈ lw_ok := lw_ok_in (lw_g0 (List.mem_of_getElem? (i := 10) rfl)) rfl
theorem vk_X8_isCell : vv_vok yX8_isCell := ⟨vi_X8_isCell, vs_X8_isCell⟩
theorem cd_X8_isStuff : Cond.code yX8_isStuff cX8_isStuff 1 (some .boolean) ∈ lw_ok := lw_ok_in (lw_g2 (List.mem_of_getElem? (i := 111) rfl)) rfl
theorem yk_X8_isStuff : vv_yok yX8_isStuff cX8_isStuff 1 (some .boolean) 1 := ⟨cd_X8_isStuff, in_X8, by decide +kernel⟩
theorem sk_X8_isStuff : Cond.static yX8_isStuff ∈ lw_ok := lw_ok_in (lw_g2 (List.mem_of_getElem? (i := 110) rfl)) rfl
theorem cd_X8_isWithin : Cond.code yX8_isWithin cX8_isWithin 3 (some .boolean) ∈ lw_ok := lw_ok_in (lw_g2 (List.mem_of_getElem? (i := 114) rfl)) rfl
theorem yk_X8_isWithin : vv_yok yX8_isWithin cX8_isWithin 3 (some .boolean) 3 := ⟨cd_X8_isWithin, in_X8, by decide +kernel⟩
theorem sk_X8_isWithin : Cond.static yX8_isWithin ∈ lw_ok := lw_ok_in (lw_g2 (List.mem_of_getElem? (i := 113) rfl)) rfl
theorem cd_X9_init : Cond.code yX9_init cX9_init 1 none ∈ lw_ok := lw_ok_in (lw_g4 (List.mem_of_getElem? (i := 158) rfl)) rfl
theorem yk_X9_init : vv_yok yX9_init cX9_init 1 none 0 := ⟨cd_X9_init, in_X9, by decide +kernel⟩
theorem cd_X9_in : Cond.code yX9_in cX9_in 6 (some .boolean) ∈ lw_ok := lw_ok_in (lw_g4 (List.mem_of_getElem? (i := 190) rfl)) rfl
theorem yk_X9_in : vv_yok yX9_in cX9_in 6 (some .boolean) 3 := ⟨cd_X9_in, in_X9, by decide +kernel⟩
theorem sk_X9_in : Cond.static yX9_in ∈ lw_ok := lw_ok_in (lw_g4 (List.mem_of_getElem? (i := 189) rfl)) rfl
theorem cd_X9_noDam : Cond.code yX9_noDam cX9_noDam 2 none ∈ lw_ok := lw_ok_in (lw_g4 (List.mem_of_getElem? (i := 163) rfl)) rfl
theorem yk_X9_noDam : vv_yok yX9_noDam cX9_noDam 2 none 1 := ⟨cd_X9_noDam, in_X9, by decide +kernel⟩
theorem vi_X9_noDam : Cond.instanceMethod yX9_noDam ∈ lw_ok := lw_ok_in (lw_g4 (List.mem_of_getElem? (i := 162) rfl)) rfl
theorem vs_X9_noDam : Cond.selects yX9_noDam.cls yX9_noDam yX9_noDam ∈ lw_ok := lw_ok_in (lw_g0 (List.mem_of_getElem? (i := 19) rfl)) rfl
theorem vk_X9_noDam : vv_vok yX9_noDam := ⟨vi_X9_noDam, vs_X9_noDam⟩
theorem cd_X9_write : Cond.code yX9_write cX9_write 2 (some .int) ∈ lw_ok := lw_ok_in (lw_g5 (List.mem_of_getElem? (i := 119) rfl)) rfl
theorem yk_X9_write : vv_yok yX9_write cX9_write 2 (some .int) 1 := ⟨cd_X9_write, in_X9, by decide +kernel⟩
theorem vi_X9_write : Cond.instanceMethod yX9_write ∈ lw_ok := lw_ok_in (lw_g5 (List.mem_of_getElem? (i := 117) rfl)) rfl
theorem vs_X9_write : Cond.selects yX9_write.cls yX9_write yX9_write ∈ lw_ok := lw_ok_in (lw_g5 (List.mem_of_getElem? (i := 118) rfl)) rfl
theorem vk_X9_write : vv_vok yX9_write := ⟨vi_X9_write, vs_X9_write⟩
theorem cd_X9_wipe : Cond.code yX9_wipe cX9_wipe 2 (some .int) ∈ lw_ok := lw_ok_in (lw_g5 (List.mem_of_getElem? (i := 125) rfl)) rfl
theorem yk_X9_wipe : vv_yok yX9_wipe cX9_wipe 2 (some .int) 0 := ⟨cd_X9_wipe, in_X9, by decide +kernel⟩
theorem vi_X9_wipe : Cond.instanceMethod yX9_wipe ∈ lw_ok := lw_ok_in (lw_g5 (List.mem_of_getElem? (i := 123) rfl)) rfl
theorem vs_X9_wipe : Cond.selects yX9_wipe.cls yX9_wipe yX9_wipe ∈ lw_ok := lw_ok_in (lw_g5 (List.mem_of_getElem? (i := 124) rfl)) rfl
theorem vk_X9_wipe : vv_vok yX9_wipe := ⟨vi_X9_wipe, vs_X9_wipe⟩
theorem cd_X9_letterAt : Cond.code yX9_letterAt cX9_letterAt 2 (some .int) ∈ lw_ok := lw_ok_in (lw_g5 (List.mem_of_getElem? (i := 141) rfl)) rfl
theorem yk_X9_letterAt : vv_yok yX9_letterAt cX9_letterAt 2 (some .int) 1 := ⟨cd_X9_letterAt, in_X9, by decide +kernel⟩
theorem vi_X9_letterAt : Cond.instanceMethod yX9_letterAt ∈ lw_ok := lw_ok_in (lw_g5 (List.mem_of_getElem? (i := 140) rfl)) rfl
theorem vs_X9_letterAt : Cond.selects yX9_letterAt.cls yX9_letterAt yX9_letterAt ∈ lw_ok := lw_ok_in (lw_g0 (List.mem_of_getElem? (i := 33) rfl)) rfl
theorem vk_X9_letterAt : vv_vok yX9_letterAt := ⟨vi_X9_letterAt, vs_X9_letterAt⟩
theorem cd_X9_figures : Cond.code yX9_figures cX9_figures 5 (some .boolean) ∈ lw_ok := lw_ok_in (lw_g5 (List.mem_of_getElem? (i := 149) rfl)) rfl
theorem yk_X9_figures : vv_yok yX9_figures cX9_figures 5 (some .boolean) 1 := ⟨cd_X9_figures, in_X9, by decide +kernel⟩
theorem vi_X9_figures : Cond.instanceMethod yX9_figures ∈ lw_ok := lw_ok_in (lw_g5 (List.mem_of_getElem? (i := 148) rfl)) rfl
theorem vs_X9_figures : Cond.selects yX9_figures.cls yX9_figures yX9_figures ∈ lw_ok := lw_ok_in (lw_g0 (List.mem_of_getElem? (i := 35) rfl)) rfl
theorem vk_X9_figures : vv_vok yX9_figures := ⟨vi_X9_figures, vs_X9_figures⟩
theorem cd_X9_cellItem : Cond.code yX9_cellItem cX9_cellItem 1 (some .boolean) ∈ lw_ok := lw_ok_in (lw_g5 (List.mem_of_getElem? (i := 145) rfl)) rfl
theorem yk_X9_cellItem : vv_yok yX9_cellItem cX9_cellItem 1 (some .boolean) 0 := ⟨cd_X9_cellItem, in_X9, by decide +kernel⟩
theorem vi_X9_cellItem : Cond.instanceMethod yX9_cellItem ∈ lw_ok := lw_ok_in (lw_g5 (List.mem_of_getElem? (i := 144) rfl)) rfl
theorem vs_X9_cellItem : Cond.selects yX9_cellItem.cls yX9_cellItem yX9_cellItem ∈ lw_ok := lw_ok_in (lw_g0 (List.mem_of_getElem? (i := 34) rfl)) rfl
theorem vk_X9_cellItem : vv_vok yX9_cellItem := ⟨vi_X9_cellItem, vs_X9_cellItem⟩
theorem cd_X9_flowItem : Cond.code yX9_flowItem cX9_flowItem 1 (some .boolean) ∈ lw_ok := lw_ok_in (lw_g5 (List.mem_of_getElem? (i := 157) rfl)) rfl
theorem yk_X9_flowItem : vv_yok yX9_flowItem cX9_flowItem 1 (some .boolean) 0 := ⟨cd_X9_flowItem, in_X9, by decide +kernel⟩
theorem vi_X9_flowItem : Cond.instanceMethod yX9_flowItem ∈ lw_ok := lw_ok_in (lw_g5 (List.mem_of_getElem? (i := 156) rfl)) rfl
theorem vs_X9_flowItem : Cond.selects yX9_flowItem.cls yX9_flowItem yX9_flowItem ∈ lw_ok := lw_ok_in (lw_g0 (List.mem_of_getElem? (i := 36) rfl)) rfl
theorem vk_X9_flowItem : vv_vok yX9_flowItem := ⟨vi_X9_flowItem, vs_X9_flowItem⟩
theorem cd_X9_rainItem : Cond.code yX9_rainItem cX9_rainItem 1 (some .boolean) ∈ lw_ok := lw_ok_in (lw_g5 (List.mem_of_getElem? (i := 161) rfl)) rfl
theorem yk_X9_rainItem : vv_yok yX9_rainItem cX9_rainItem 1 (some .boolean) 0 := ⟨cd_X9_rainItem, in_X9, by decide +kernel⟩
theorem vi_X9_rainItem : Cond.instanceMethod yX9_rainItem ∈ lw_ok := lw_ok_in (lw_g5 (List.mem_of_getElem? (i := 160) rfl)) rfl
theorem vs_X9_rainItem : Cond.selects yX9_rainItem.cls yX9_rainItem yX9_rainItem ∈ lw_ok := lw_ok_in (lw_g0 (List.mem_of_getElem? (i := 37) rfl)) rfl
theorem vk_X9_rainItem : vv_vok yX9_rainItem := ⟨vi_X9_rainItem, vs_X9_rainItem⟩
theorem cd_X9_childItem : Cond.code yX9_childItem cX9_childItem 3 (some .boolean) ∈ lw_ok := lw_ok_in (lw_g5 (List.mem_of_getElem? (i := 165) rfl)) rfl
theorem yk_X9_childItem : vv_yok yX9_childItem cX9_childItem 3 (some .boolean) 0 := ⟨cd_X9_childItem, in_X9, by decide +kernel⟩
theorem vi_X9_childItem : Cond.instanceMethod yX9_childItem ∈ lw_ok := lw_ok_in (lw_g5 (List.mem_of_getElem? (i := 164) rfl)) rfl
theorem vs_X9_childItem : Cond.selects yX9_childItem.cls yX9_childItem yX9_childItem ∈ lw_ok := lw_ok_in (lw_g0 (List.mem_of_getElem? (i := 38) rfl)) rfl
theorem vk_X9_childItem : vv_vok yX9_childItem := ⟨vi_X9_childItem, vs_X9_childItem⟩
theorem cd_X9_jobItem : Cond.code yX9_jobItem cX9_jobItem 1 (some .boolean) ∈ lw_ok := lw_ok_in (lw_g5 (List.mem_of_getElem? (i := 169) rfl)) rfl
theorem yk_X9_jobItem : vv_yok yX9_jobItem cX9_jobItem 1 (some .boolean) 0 := ⟨cd_X9_jobItem, in_X9, by decide +kernel⟩
theorem vi_X9_jobItem : Cond.instanceMethod yX9_jobItem ∈ lw_ok := lw_ok_in (lw_g5 (List.mem_of_getElem? (i := 168) rfl)) rfl
theorem vs_X9_jobItem : Cond.selects yX9_jobItem.cls yX9_jobItem yX9_jobItem ∈ lw_ok := lw_ok_in (lw_g0 (List.mem_of_getElem? (i := 39) rfl)) rfl
theorem vk_X9_jobItem : vv_vok yX9_jobItem := ⟨vi_X9_jobItem, vs_X9_jobItem⟩
theorem cd_X9_item : Cond.code yX9_item cX9_item 2 (some .boolean) ∈ lw_ok := lw_ok_in (lw_g5 (List.mem_of_getElem? (i := 137) rfl)) rfl
theorem yk_X9_item : vv_yok yX9_item cX9_item 2 (some .boolean) 0 := ⟨cd_X9_item, in_X9, by decide +kernel⟩
theorem vi_X9_item : Cond.instanceMethod yX9_item ∈ lw_ok := lw_ok_in (lw_g5 (List.mem_of_getElem? (i := 136) rfl)) rfl
theorem vs_X9_item : Cond.selects yX9_item.cls yX9_item yX9_item ∈ lw_ok := lw_ok_in (lw_g0 (List.mem_of_getElem? (i := 32) rfl)) rfl
theorem vk_X9_item : vv_vok yX9_item := ⟨vi_X9_item, vs_X9_item⟩
theorem cd_X9_readAll : Cond.code yX9_readAll cX9_readAll 2 (some .int) ∈ lw_ok := lw_ok_in (lw_g5 (List.mem_of_getElem? (i := 133) rfl)) rfl
theorem yk_X9_readAll : vv_yok yX9_readAll cX9_readAll 2 (some .int) 0 := ⟨cd_X9_readAll, in_X9, by decide +kernel⟩
theorem vi_X9_readAll : Cond.instanceMethod yX9_readAll ∈ lw_ok := lw_ok_in (lw_g5 (List.mem_of_getElem? (i := 132) rfl)) rfl
theorem vs_X9_readAll : Cond.selects yX9_readAll.cls yX9_readAll yX9_readAll ∈ lw_ok := lw_ok_in (lw_g0 (List.mem_of_getElem? (i := 31) rfl)) rfl
theorem vk_X9_readAll : vv_vok yX9_readAll := ⟨vi_X9_readAll, vs_X9_readAll⟩
theorem cd_X9_fault : Cond.code yX9_fault cX9_fault 1 (some .int) ∈ lw_ok := lw_ok_in (lw_g5 (List.mem_of_getElem? (i := 129) rfl)) rfl
theorem yk_X9_fault : vv_yok yX9_fault cX9_fault 1 (some .int) 0 := ⟨cd_X9_fault, in_X9, by decide +kernel⟩
theorem vi_X9_fault : Cond.instanceMethod yX9_fault ∈ lw_ok := lw_ok_in (lw_g5 (List.mem_of_getElem? (i := 127) rfl)) rfl
theorem vs_X9_fault : Cond.selects yX9_fault.cls yX9_fault yX9_fault ∈ lw_ok := lw_ok_in (lw_g5 (List.mem_of_getElem? (i := 128) rfl)) rfl
theorem vk_X9_fault : vv_vok yX9_fault := ⟨vi_X9_fault, vs_X9_fault⟩
theorem cd_X9_laid : Cond.code yX9_laid cX9_laid 2 (some .int) ∈ lw_ok := lw_ok_in (lw_g5 (List.mem_of_getElem? (i := 174) rfl)) rfl
theorem yk_X9_laid : vv_yok yX9_laid cX9_laid 2 (some .int) 0 := ⟨cd_X9_laid, in_X9, by decide +kernel⟩
theorem vi_X9_laid : Cond.instanceMethod yX9_laid ∈ lw_ok := lw_ok_in (lw_g5 (List.mem_of_getElem? (i := 172) rfl)) rfl
theorem vs_X9_laid : Cond.selects yX9_laid.cls yX9_laid yX9_laid ∈ lw_ok := lw_ok_in (lw_g5 (List.mem_of_getElem? (i := 173) rfl)) rfl
theorem vk_X9_laid : vv_vok yX9_laid := ⟨vi_X9_laid, vs_X9_laid⟩
theorem cd_X9_isCell : Cond.code yX9_isCell cX9_isCell 2 (some .boolean) ∈ lw_ok := lw_ok_in (lw_g5 (List.mem_of_getElem? (i := 182) rfl)) rfl
theorem yk_X9_isCell : vv_yok yX9_isCell cX9_isCell 2 (some .boolean) 1 := ⟨cd_X9_isCell, in_X9, by decide +kernel⟩
theorem vi_X9_isCell : Cond.instanceMethod yX9_isCell ∈ lw_ok := lw_ok_in (lw_g5 (List.mem_of_getElem? (i := 181) rfl)) rfl
theorem vs_X9_isCell : Cond.selects yX9_isCell.cls yX9_isCell yX9_isCell ∈ lw_ok := lw_ok_in (lw_g0 (List.mem_of_getElem? (i := 40) rfl)) rfl
theorem vk_X9_isCell : vv_vok yX9_isCell := ⟨vi_X9_isCell, vs_X9_isCell⟩
theorem cd_X9_takes : Cond.code yX9_takes cX9_takes 4 (some .int) ∈ lw_ok := lw_ok_in (lw_g4 (List.mem_of_getElem? (i := 198) rfl)) rfl
theorem yk_X9_takes : vv_yok yX9_takes cX9_takes 4 (some .int) 1 := ⟨cd_X9_takes, in_X9, by decide +kernel⟩
theorem vi_X9_takes : Cond.instanceMethod yX9_takes ∈ lw_ok := lw_ok_in (lw_g4 (List.mem_of_getElem? (i := 197) rfl)) rfl
theorem vs_X9_takes : Cond.selects yX9_takes.cls yX9_takes yX9_takes ∈ lw_ok := lw_ok_in (lw_g0 (List.mem_of_getElem? (i := 27) rfl)) rfl
theorem vk_X9_takes : vv_vok yX9_takes := ⟨vi_X9_takes, vs_X9_takes⟩
theorem cd_X9_levelOf : Cond.code yX9_levelOf cX9_levelOf 3 (some .int) ∈ lw_ok := lw_ok_in (lw_g4 (List.mem_of_getElem? (i := 194) rfl)) rfl
theorem yk_X9_levelOf : vv_yok yX9_levelOf cX9_levelOf 3 (some .int) 1 := ⟨cd_X9_levelOf, in_X9, by decide +kernel⟩
theorem vi_X9_levelOf : Cond.instanceMethod yX9_levelOf ∈ lw_ok := lw_ok_in (lw_g4 (List.mem_of_getElem? (i := 193) rfl)) rfl
theorem vs_X9_levelOf : Cond.selects yX9_levelOf.cls yX9_levelOf yX9_levelOf ∈ lw_ok := lw_ok_in (lw_g0 (List.mem_of_getElem? (i := 26) rfl)) rfl
theorem vk_X9_levelOf : vv_vok yX9_levelOf := ⟨vi_X9_levelOf, vs_X9_levelOf⟩
theorem cd_X9_comesIn : Cond.code yX9_comesIn cX9_comesIn 5 (some .int) ∈ lw_ok := lw_ok_in (lw_g4 (List.mem_of_getElem? (i := 187) rfl)) rfl
theorem yk_X9_comesIn : vv_yok yX9_comesIn cX9_comesIn 5 (some .int) 1 := ⟨cd_X9_comesIn, in_X9, by decide +kernel⟩
theorem vi_X9_comesIn : Cond.instanceMethod yX9_comesIn ∈ lw_ok := lw_ok_in (lw_g4 (List.mem_of_getElem? (i := 186) rfl)) rfl
theorem vs_X9_comesIn : Cond.selects yX9_comesIn.cls yX9_comesIn yX9_comesIn ∈ lw_ok := lw_ok_in (lw_g0 (List.mem_of_getElem? (i := 25) rfl)) rfl
theorem vk_X9_comesIn : vv_vok yX9_comesIn := ⟨vi_X9_comesIn, vs_X9_comesIn⟩
theorem cd_X9_edgeOf : Cond.code yX9_edgeOf cX9_edgeOf 4 (some .int) ∈ lw_ok := lw_ok_in (lw_g4 (List.mem_of_getElem? (i := 202) rfl)) rfl
theorem yk_X9_edgeOf : vv_yok yX9_edgeOf cX9_edgeOf 4 (some .int) 1 := ⟨cd_X9_edgeOf, in_X9, by decide +kernel⟩
theorem vi_X9_edgeOf : Cond.instanceMethod yX9_edgeOf ∈ lw_ok := lw_ok_in (lw_g4 (List.mem_of_getElem? (i := 201) rfl)) rfl
theorem vs_X9_edgeOf : Cond.selects yX9_edgeOf.cls yX9_edgeOf yX9_edgeOf ∈ lw_ok := lw_ok_in (lw_g0 (List.mem_of_getElem? (i := 28) rfl)) rfl
theorem vk_X9_edgeOf : vv_vok yX9_edgeOf := ⟨vi_X9_edgeOf, vs_X9_edgeOf⟩
theorem cd_X9_placeOf : Cond.code yX9_placeOf cX9_placeOf 4 (some .int) ∈ lw_ok := lw_ok_in (lw_g4 (List.mem_of_getElem? (i := 206) rfl)) rfl
theorem yk_X9_placeOf : vv_yok yX9_placeOf cX9_placeOf 4 (some .int) 1 := ⟨cd_X9_placeOf, in_X9, by decide +kernel⟩
theorem vi_X9_placeOf : Cond.instanceMethod yX9_placeOf ∈ lw_ok := lw_ok_in (lw_g4 (List.mem_of_getElem? (i := 205) rfl)) rfl
theorem vs_X9_placeOf : Cond.selects yX9_placeOf.cls yX9_placeOf yX9_placeOf ∈ lw_ok := lw_ok_in (lw_g0 (List.mem_of_getElem? (i := 29) rfl)) rfl
theorem vk_X9_placeOf : vv_vok yX9_placeOf := ⟨vi_X9_placeOf, vs_X9_placeOf⟩
theorem cd_X9_wear : Cond.code yX9_wear cX9_wear 6 none ∈ lw_ok := lw_ok_in (lw_g4 (List.mem_of_getElem? (i := 210) rfl)) rfl
theorem yk_X9_wear : vv_yok yX9_wear cX9_wear 6 none 2 := ⟨cd_X9_wear, in_X9, by decide +kernel⟩
theorem vi_X9_wear : Cond.instanceMethod yX9_wear ∈ lw_ok := lw_ok_in (lw_g4 (List.mem_of_getElem? (i := 209) rfl)) rfl
theorem vs_X9_wear : Cond.selects yX9_wear.cls yX9_wear yX9_wear ∈ lw_ok := lw_ok_in (lw_g0 (List.mem_of_getElem? (i := 30) rfl)) rfl
theorem vk_X9_wear : vv_vok yX9_wear := ⟨vi_X9_wear, vs_X9_wear⟩
theorem cd_X9_go : Cond.code yX9_go cX9_go 7 none ∈ lw_ok := lw_ok_in (lw_g4 (List.mem_of_getElem? (i := 183) rfl)) rfl
theorem yk_X9_go : vv_yok yX9_go cX9_go 7 none 2 := ⟨cd_X9_go, in_X9, by decide +kernel⟩
theorem vi_X9_go : Cond.instanceMethod yX9_go ∈ lw_ok := lw_ok_in (lw_g4 (List.mem_of_getElem? (i := 182) rfl)) rfl
theorem vs_X9_go : Cond.selects yX9_go.cls yX9_go yX9_go ∈ lw_ok := lw_ok_in (lw_g0 (List.mem_of_getElem? (i := 24) rfl)) rfl
theorem vk_X9_go : vv_vok yX9_go := ⟨vi_X9_go, vs_X9_go⟩
theorem cd_X9_canDo : Cond.code yX9_canDo cX9_canDo 4 (some .boolean) ∈ lw_ok := lw_ok_in (lw_g4 (List.mem_of_getElem? (i := 175) rfl)) rfl
theorem yk_X9_canDo : vv_yok yX9_canDo cX9_canDo 4 (some .boolean) 2 := ⟨cd_X9_canDo, in_X9, by decide +kernel⟩
theorem vi_X9_canDo : Cond.instanceMethod yX9_canDo ∈ lw_ok := lw_ok_in (lw_g4 (List.mem_of_getElem? (i := 174) rfl)) rfl
theorem vs_X9_canDo : Cond.selects yX9_canDo.cls yX9_canDo yX9_canDo ∈ lw_ok := lw_ok_in (lw_g0 (List.mem_of_getElem? (i := 22) rfl)) rfl
theorem vk_X9_canDo : vv_vok yX9_canDo := ⟨vi_X9_canDo, vs_X9_canDo⟩
theorem cd_X9_doAct : Cond.code yX9_doAct cX9_doAct 5 none ∈ lw_ok := lw_ok_in (lw_g4 (List.mem_of_getElem? (i := 179) rfl)) rfl
theorem yk_X9_doAct : vv_yok yX9_doAct cX9_doAct 5 none 2 := ⟨cd_X9_doAct, in_X9, by decide +kernel⟩
theorem vi_X9_doAct : Cond.instanceMethod yX9_doAct ∈ lw_ok := lw_ok_in (lw_g4 (List.mem_of_getElem? (i := 178) rfl)) rfl
theorem vs_X9_doAct : Cond.selects yX9_doAct.cls yX9_doAct yX9_doAct ∈ lw_ok := lw_ok_in (lw_g0 (List.mem_of_getElem? (i := 23) rfl)) rfl
theorem vk_X9_doAct : vv_vok yX9_doAct := ⟨vi_X9_doAct, vs_X9_doAct⟩
theorem cd_X9_beginBut : Cond.code yX9_beginBut cX9_beginBut 4 none ∈ lw_ok := lw_ok_in (lw_g4 (List.mem_of_getElem? (i := 171) rfl)) rfl
theorem yk_X9_beginBut : vv_yok yX9_beginBut cX9_beginBut 4 none 2 := ⟨cd_X9_beginBut, in_X9, by decide +kernel⟩
theorem vi_X9_beginBut : Cond.instanceMethod yX9_beginBut ∈ lw_ok := lw_ok_in (lw_g4 (List.mem_of_getElem? (i := 170) rfl)) rfl
theorem vs_X9_beginBut : Cond.selects yX9_beginBut.cls yX9_beginBut yX9_beginBut ∈ lw_ok := lw_ok_in (lw_g0 (List.mem_of_getElem? (i := 21) rfl)) rfl
theorem vk_X9_beginBut : vv_vok yX9_beginBut := ⟨vi_X9_beginBut, vs_X9_beginBut⟩
theorem cd_X9_begin : Cond.code yX9_begin cX9_begin 1 none ∈ lw_ok := lw_ok_in (lw_g4 (List.mem_of_getElem? (i := 167) rfl)) rfl
theorem yk_X9_begin : vv_yok yX9_begin cX9_begin 1 none 0 := ⟨cd_X9_begin, in_X9, by decide +kernel⟩
theorem vi_X9_begin : Cond.instanceMethod yX9_begin ∈ lw_ok := lw_ok_in (lw_g4 (List.mem_of_getElem? (i := 166) rfl)) rfl
theorem vs_X9_begin : Cond.selects yX9_begin.cls yX9_begin yX9_begin ∈ lw_ok := lw_ok_in (lw_g0 (List.mem_of_getElem? (i := 20) rfl)) rfl
theorem vk_X9_begin : vv_vok yX9_begin := ⟨vi_X9_begin, vs_X9_begin⟩
theorem cd_X9_tryIt : Cond.code yX9_tryIt cX9_tryIt 2 none ∈ lw_ok := lw_ok_in (lw_g5 (List.mem_of_getElem? (i := 234) rfl)) rfl
theorem yk_X9_tryIt : vv_yok yX9_tryIt cX9_tryIt 2 none 0 := ⟨cd_X9_tryIt, in_X9, by decide +kernel⟩
theorem vi_X9_tryIt : Cond.instanceMethod yX9_tryIt ∈ lw_ok := lw_ok_in (lw_g5 (List.mem_of_getElem? (i := 233) rfl)) rfl
theorem vs_X9_tryIt : Cond.selects yX9_tryIt.cls yX9_tryIt yX9_tryIt ∈ lw_ok := lw_ok_in (lw_g0 (List.mem_of_getElem? (i := 43) rfl)) rfl
theorem vk_X9_tryIt : vv_vok yX9_tryIt := ⟨vi_X9_tryIt, vs_X9_tryIt⟩
theorem cd_X9_cell : Cond.code yX9_cell cX9_cell 3 (some .int) ∈ lw_ok := lw_ok_in (lw_g5 (List.mem_of_getElem? (i := 178) rfl)) rfl
theorem yk_X9_cell : vv_yok yX9_cell cX9_cell 3 (some .int) 2 := ⟨cd_X9_cell, in_X9, by decide +kernel⟩
theorem vi_X9_cell : Cond.instanceMethod yX9_cell ∈ lw_ok := lw_ok_in (lw_g5 (List.mem_of_getElem? (i := 176) rfl)) rfl
theorem vs_X9_cell : Cond.selects yX9_cell.cls yX9_cell yX9_cell ∈ lw_ok := lw_ok_in (lw_g5 (List.mem_of_getElem? (i := 177) rfl)) rfl
theorem vk_X9_cell : vv_vok yX9_cell := ⟨vi_X9_cell, vs_X9_cell⟩
theorem cd_X9_lake : Cond.code yX9_lake cX9_lake 2 (some .int) ∈ lw_ok := lw_ok_in (lw_g5 (List.mem_of_getElem? (i := 186) rfl)) rfl
theorem yk_X9_lake : vv_yok yX9_lake cX9_lake 2 (some .int) 1 := ⟨cd_X9_lake, in_X9, by decide +kernel⟩
theorem vi_X9_lake : Cond.instanceMethod yX9_lake ∈ lw_ok := lw_ok_in (lw_g5 (List.mem_of_getElem? (i := 184) rfl)) rfl
theorem vs_X9_lake : Cond.selects yX9_lake.cls yX9_lake yX9_lake ∈ lw_ok := lw_ok_in (lw_g5 (List.mem_of_getElem? (i := 185) rfl)) rfl
theorem vk_X9_lake : vv_vok yX9_lake := ⟨vi_X9_lake, vs_X9_lake⟩
theorem cd_X9_edge : Cond.code yX9_edge cX9_edge 2 (some .int) ∈ lw_ok := lw_ok_in (lw_g5 (List.mem_of_getElem? (i := 190) rfl)) rfl
theorem yk_X9_edge : vv_yok yX9_edge cX9_edge 2 (some .int) 1 := ⟨cd_X9_edge, in_X9, by decide +kernel⟩
theorem vi_X9_edge : Cond.instanceMethod yX9_edge ∈ lw_ok := lw_ok_in (lw_g5 (List.mem_of_getElem? (i := 188) rfl)) rfl
theorem vs_X9_edge : Cond.selects yX9_edge.cls yX9_edge yX9_edge ∈ lw_ok := lw_ok_in (lw_g5 (List.mem_of_getElem? (i := 189) rfl)) rfl
theorem vk_X9_edge : vv_vok yX9_edge := ⟨vi_X9_edge, vs_X9_edge⟩
theorem cd_X9_comes : Cond.code yX9_comes cX9_comes 2 (some .int) ∈ lw_ok := lw_ok_in (lw_g5 (List.mem_of_getElem? (i := 194) rfl)) rfl
theorem yk_X9_comes : vv_yok yX9_comes cX9_comes 2 (some .int) 1 := ⟨cd_X9_comes, in_X9, by decide +kernel⟩
theorem vi_X9_comes : Cond.instanceMethod yX9_comes ∈ lw_ok := lw_ok_in (lw_g5 (List.mem_of_getElem? (i := 192) rfl)) rfl
theorem vs_X9_comes : Cond.selects yX9_comes.cls yX9_comes yX9_comes ∈ lw_ok := lw_ok_in (lw_g5 (List.mem_of_getElem? (i := 193) rfl)) rfl
theorem vk_X9_comes : vv_vok yX9_comes := ⟨vi_X9_comes, vs_X9_comes⟩
theorem cd_X9_note : Cond.code yX9_note cX9_note 6 none ∈ lw_ok := lw_ok_in (lw_g5 (List.mem_of_getElem? (i := 205) rfl)) rfl
theorem yk_X9_note : vv_yok yX9_note cX9_note 6 none 4 := ⟨cd_X9_note, in_X9, by decide +kernel⟩
theorem vi_X9_note : Cond.instanceMethod yX9_note ∈ lw_ok := lw_ok_in (lw_g5 (List.mem_of_getElem? (i := 204) rfl)) rfl
theorem vs_X9_note : Cond.selects yX9_note.cls yX9_note yX9_note ∈ lw_ok := lw_ok_in (lw_g0 (List.mem_of_getElem? (i := 41) rfl)) rfl
theorem vk_X9_note : vv_vok yX9_note := ⟨vi_X9_note, vs_X9_note⟩
theorem cd_X9_put : Cond.code yX9_put cX9_put 4 (some .int) ∈ lw_ok := lw_ok_in (lw_g5 (List.mem_of_getElem? (i := 199) rfl)) rfl
theorem yk_X9_put : vv_yok yX9_put cX9_put 4 (some .int) 3 := ⟨cd_X9_put, in_X9, by decide +kernel⟩
theorem vi_X9_put : Cond.instanceMethod yX9_put ∈ lw_ok := lw_ok_in (lw_g5 (List.mem_of_getElem? (i := 197) rfl)) rfl
theorem vs_X9_put : Cond.selects yX9_put.cls yX9_put yX9_put ∈ lw_ok := lw_ok_in (lw_g5 (List.mem_of_getElem? (i := 198) rfl)) rfl
theorem vk_X9_put : vv_vok yX9_put := ⟨vi_X9_put, vs_X9_put⟩
theorem cd_X9_dig : Cond.code yX9_dig cX9_dig 3 (some .int) ∈ lw_ok := lw_ok_in (lw_g5 (List.mem_of_getElem? (i := 209) rfl)) rfl
theorem yk_X9_dig : vv_yok yX9_dig cX9_dig 3 (some .int) 2 := ⟨cd_X9_dig, in_X9, by decide +kernel⟩
theorem vi_X9_dig : Cond.instanceMethod yX9_dig ∈ lw_ok := lw_ok_in (lw_g5 (List.mem_of_getElem? (i := 207) rfl)) rfl
theorem vs_X9_dig : Cond.selects yX9_dig.cls yX9_dig yX9_dig ∈ lw_ok := lw_ok_in (lw_g5 (List.mem_of_getElem? (i := 208) rfl)) rfl
theorem vk_X9_dig : vv_vok yX9_dig := ⟨vi_X9_dig, vs_X9_dig⟩
theorem cd_X9_pass : Cond.code yX9_pass cX9_pass 2 (some .int) ∈ lw_ok := lw_ok_in (lw_g5 (List.mem_of_getElem? (i := 213) rfl)) rfl
theorem yk_X9_pass : vv_yok yX9_pass cX9_pass 2 (some .int) 1 := ⟨cd_X9_pass, in_X9, by decide +kernel⟩
theorem vi_X9_pass : Cond.instanceMethod yX9_pass ∈ lw_ok := lw_ok_in (lw_g5 (List.mem_of_getElem? (i := 211) rfl)) rfl
theorem vs_X9_pass : Cond.selects yX9_pass.cls yX9_pass yX9_pass ∈ lw_ok := lw_ok_in (lw_g5 (List.mem_of_getElem? (i := 212) rfl)) rfl
theorem vk_X9_pass : vv_vok yX9_pass := ⟨vi_X9_pass, vs_X9_pass⟩
theorem cd_X9_undo : Cond.code yX9_undo cX9_undo 1 (some .int) ∈ lw_ok := lw_ok_in (lw_g5 (List.mem_of_getElem? (i := 218) rfl)) rfl
theorem yk_X9_undo : vv_yok yX9_undo cX9_undo 1 (some .int) 0 := ⟨cd_X9_undo, in_X9, by decide +kernel⟩
theorem vi_X9_undo : Cond.instanceMethod yX9_undo ∈ lw_ok := lw_ok_in (lw_g5 (List.mem_of_getElem? (i := 216) rfl)) rfl
theorem vs_X9_undo : Cond.selects yX9_undo.cls yX9_undo yX9_undo ∈ lw_ok := lw_ok_in (lw_g5 (List.mem_of_getElem? (i := 217) rfl)) rfl
theorem vk_X9_undo : vv_vok yX9_undo := ⟨vi_X9_undo, vs_X9_undo⟩
theorem cd_X9_areMinutes : Cond.code yX9_areMinutes cX9_areMinutes 1 (some .boolean) ∈ lw_ok := lw_ok_in (lw_g5 (List.mem_of_getElem? (i := 225) rfl)) rfl
theorem yk_X9_areMinutes : vv_yok yX9_areMinutes cX9_areMinutes 1 (some .boolean) 1 := ⟨cd_X9_areMinutes, in_X9, by decide +kernel⟩
theorem sk_X9_areMinutes : Cond.static yX9_areMinutes ∈ lw_ok := lw_ok_in (lw_g5 (List.mem_of_getElem? (i := 224) rfl)) rfl
theorem cd_X9_goOn : Cond.code yX9_goOn cX9_goOn 3 none ∈ lw_ok := lw_ok_in (lw_g5 (List.mem_of_getElem? (i := 230) rfl)) rfl
theorem yk_X9_goOn : vv_yok yX9_goOn cX9_goOn 3 none 1 := ⟨cd_X9_goOn, in_X9, by decide +kernel⟩
theorem vi_X9_goOn : Cond.instanceMethod yX9_goOn ∈ lw_ok := lw_ok_in (lw_g5 (List.mem_of_getElem? (i := 229) rfl)) rfl
theorem vs_X9_goOn : Cond.selects yX9_goOn.cls yX9_goOn yX9_goOn ∈ lw_ok := lw_ok_in (lw_g0 (List.mem_of_getElem? (i := 42) rfl)) rfl
theorem vk_X9_goOn : vv_vok yX9_goOn := ⟨vi_X9_goOn, vs_X9_goOn⟩
theorem cd_X9_behind : Cond.code yX9_behind cX9_behind 3 (some .int) ∈ lw_ok := lw_ok_in (lw_g5 (List.mem_of_getElem? (i := 222) rfl)) rfl
theorem yk_X9_behind : vv_yok yX9_behind cX9_behind 3 (some .int) 2 := ⟨cd_X9_behind, in_X9, by decide +kernel⟩
theorem vi_X9_behind : Cond.instanceMethod yX9_behind ∈ lw_ok := lw_ok_in (lw_g5 (List.mem_of_getElem? (i := 220) rfl)) rfl
theorem vs_X9_behind : Cond.selects yX9_behind.cls yX9_behind yX9_behind ∈ lw_ok := lw_ok_in (lw_g5 (List.mem_of_getElem? (i := 221) rfl)) rfl
theorem vk_X9_behind : vv_vok yX9_behind := ⟨vi_X9_behind, vs_X9_behind⟩
theorem cd_X9_worn : Cond.code yX9_worn cX9_worn 3 (some .int) ∈ lw_ok := lw_ok_in (lw_g5 (List.mem_of_getElem? (i := 238) rfl)) rfl
theorem yk_X9_worn : vv_yok yX9_worn cX9_worn 3 (some .int) 2 := ⟨cd_X9_worn, in_X9, by decide +kernel⟩
theorem vi_X9_worn : Cond.instanceMethod yX9_worn ∈ lw_ok := lw_ok_in (lw_g5 (List.mem_of_getElem? (i := 236) rfl)) rfl
theorem vs_X9_worn : Cond.selects yX9_worn.cls yX9_worn yX9_worn ∈ lw_ok := lw_ok_in (lw_g5 (List.mem_of_getElem? (i := 237) rfl)) rfl
theorem vk_X9_worn : vv_vok yX9_worn := ⟨vi_X9_worn, vs_X9_worn⟩
theorem cd_X9_over : Cond.code yX9_over cX9_over 3 (some .int) ∈ lw_ok := lw_ok_in (lw_g6 (List.mem_of_getElem? (i := 2) rfl)) rfl
theorem yk_X9_over : vv_yok yX9_over cX9_over 3 (some .int) 1 := ⟨cd_X9_over, in_X9, by decide +kernel⟩
theorem vi_X9_over : Cond.instanceMethod yX9_over ∈ lw_ok := lw_ok_in (lw_g6 (List.mem_of_getElem? (i := 0) rfl)) rfl
theorem vs_X9_over : Cond.selects yX9_over.cls yX9_over yX9_over ∈ lw_ok := lw_ok_in (lw_g6 (List.mem_of_getElem? (i := 1) rfl)) rfl
theorem vk_X9_over : vv_vok yX9_over := ⟨vi_X9_over, vs_X9_over⟩
theorem cd_X9_goneFrom : Cond.code yX9_goneFrom cX9_goneFrom 2 (some .int) ∈ lw_ok := lw_ok_in (lw_g6 (List.mem_of_getElem? (i := 10) rfl)) rfl
theorem yk_X9_goneFrom : vv_yok yX9_goneFrom cX9_goneFrom 2 (some .int) 0 := ⟨cd_X9_goneFrom, in_X9, by decide +kernel⟩
theorem vi_X9_goneFrom : Cond.instanceMethod yX9_goneFrom ∈ lw_ok := lw_ok_in (lw_g6 (List.mem_of_getElem? (i := 9) rfl)) rfl
theorem vs_X9_goneFrom : Cond.selects yX9_goneFrom.cls yX9_goneFrom yX9_goneFrom ∈ lw_ok := lw_ok_in (lw_g0 (List.mem_of_getElem? (i := 44) rfl)) rfl
theorem vk_X9_goneFrom : vv_vok yX9_goneFrom := ⟨vi_X9_goneFrom, vs_X9_goneFrom⟩
theorem cd_X9_gone : Cond.code yX9_gone cX9_gone 3 (some .int) ∈ lw_ok := lw_ok_in (lw_g6 (List.mem_of_getElem? (i := 6) rfl)) rfl
theorem yk_X9_gone : vv_yok yX9_gone cX9_gone 3 (some .int) 1 := ⟨cd_X9_gone, in_X9, by decide +kernel⟩
theorem vi_X9_gone : Cond.instanceMethod yX9_gone ∈ lw_ok := lw_ok_in (lw_g6 (List.mem_of_getElem? (i := 4) rfl)) rfl
theorem vs_X9_gone : Cond.selects yX9_gone.cls yX9_gone yX9_gone ∈ lw_ok := lw_ok_in (lw_g6 (List.mem_of_getElem? (i := 5) rfl)) rfl
theorem vk_X9_gone : vv_vok yX9_gone := ⟨vi_X9_gone, vs_X9_gone⟩
theorem cd_X9_nextRow : Cond.code yX9_nextRow cX9_nextRow 4 (some .boolean) ∈ lw_ok := lw_ok_in (lw_g6 (List.mem_of_getElem? (i := 23) rfl)) rfl
theorem yk_X9_nextRow : vv_yok yX9_nextRow cX9_nextRow 4 (some .boolean) 0 := ⟨cd_X9_nextRow, in_X9, by decide +kernel⟩
theorem vi_X9_nextRow : Cond.instanceMethod yX9_nextRow ∈ lw_ok := lw_ok_in (lw_g6 (List.mem_of_getElem? (i := 22) rfl)) rfl
theorem vs_X9_nextRow : Cond.selects yX9_nextRow.cls yX9_nextRow yX9_nextRow ∈ lw_ok := lw_ok_in (lw_g0 (List.mem_of_getElem? (i := 46) rfl)) rfl
theorem vk_X9_nextRow : vv_vok yX9_nextRow := ⟨vi_X9_nextRow, vs_X9_nextRow⟩
theorem cd_X9_layRow : Cond.code yX9_layRow cX9_layRow 4 (some .boolean) ∈ lw_ok := lw_ok_in (lw_g6 (List.mem_of_getElem? (i := 19) rfl)) rfl
theorem yk_X9_layRow : vv_yok yX9_layRow cX9_layRow 4 (some .boolean) 1 := ⟨cd_X9_layRow, in_X9, by decide +kernel⟩
theorem vi_X9_layRow : Cond.instanceMethod yX9_layRow ∈ lw_ok := lw_ok_in (lw_g6 (List.mem_of_getElem? (i := 18) rfl)) rfl
theorem vs_X9_layRow : Cond.selects yX9_layRow.cls yX9_layRow yX9_layRow ∈ lw_ok := lw_ok_in (lw_g0 (List.mem_of_getElem? (i := 45) rfl)) rfl
theorem vk_X9_layRow : vv_vok yX9_layRow := ⟨vi_X9_layRow, vs_X9_layRow⟩
theorem cd_X9_best : Cond.code yX9_best cX9_best 8 (some .int) ∈ lw_ok := lw_ok_in (lw_g6 (List.mem_of_getElem? (i := 14) rfl)) rfl
theorem yk_X9_best : vv_yok yX9_best cX9_best 8 (some .int) 4 := ⟨cd_X9_best, in_X9, by decide +kernel⟩
theorem vi_X9_best : Cond.instanceMethod yX9_best ∈ lw_ok := lw_ok_in (lw_g6 (List.mem_of_getElem? (i := 12) rfl)) rfl
theorem vs_X9_best : Cond.selects yX9_best.cls yX9_best yX9_best ∈ lw_ok := lw_ok_in (lw_g6 (List.mem_of_getElem? (i := 13) rfl)) rfl
theorem vk_X9_best : vv_vok yX9_best := ⟨vi_X9_best, vs_X9_best⟩
theorem cd_X9_isGap : Cond.code yX9_isGap cX9_isGap 6 (some .boolean) ∈ lw_ok := lw_ok_in (lw_g6 (List.mem_of_getElem? (i := 31) rfl)) rfl
theorem yk_X9_isGap : vv_yok yX9_isGap cX9_isGap 6 (some .boolean) 3 := ⟨cd_X9_isGap, in_X9, by decide +kernel⟩
theorem vi_X9_isGap : Cond.instanceMethod yX9_isGap ∈ lw_ok := lw_ok_in (lw_g6 (List.mem_of_getElem? (i := 30) rfl)) rfl
theorem vs_X9_isGap : Cond.selects yX9_isGap.cls yX9_isGap yX9_isGap ∈ lw_ok := lw_ok_in (lw_g0 (List.mem_of_getElem? (i := 47) rfl)) rfl
theorem vk_X9_isGap : vv_vok yX9_isGap := ⟨vi_X9_isGap, vs_X9_isGap⟩
theorem cd_X9_gap : Cond.code yX9_gap cX9_gap 5 (some .int) ∈ lw_ok := lw_ok_in (lw_g6 (List.mem_of_getElem? (i := 27) rfl)) rfl
theorem yk_X9_gap : vv_yok yX9_gap cX9_gap 5 (some .int) 2 := ⟨cd_X9_gap, in_X9, by decide +kernel⟩
theorem vi_X9_gap : Cond.instanceMethod yX9_gap ∈ lw_ok := lw_ok_in (lw_g6 (List.mem_of_getElem? (i := 25) rfl)) rfl
theorem vs_X9_gap : Cond.selects yX9_gap.cls yX9_gap yX9_gap ∈ lw_ok := lw_ok_in (lw_g6 (List.mem_of_getElem? (i := 26) rfl)) rfl
theorem vk_X9_gap : vv_vok yX9_gap := ⟨vi_X9_gap, vs_X9_gap⟩
theorem cd_X9_timeOf : Cond.code yX9_timeOf cX9_timeOf 7 (some .int) ∈ lw_ok := lw_ok_in (lw_g6 (List.mem_of_getElem? (i := 40) rfl)) rfl
theorem yk_X9_timeOf : vv_yok yX9_timeOf cX9_timeOf 7 (some .int) 1 := ⟨cd_X9_timeOf, in_X9, by decide +kernel⟩
theorem vi_X9_timeOf : Cond.instanceMethod yX9_timeOf ∈ lw_ok := lw_ok_in (lw_g6 (List.mem_of_getElem? (i := 39) rfl)) rfl
theorem vs_X9_timeOf : Cond.selects yX9_timeOf.cls yX9_timeOf yX9_timeOf ∈ lw_ok := lw_ok_in (lw_g0 (List.mem_of_getElem? (i := 48) rfl)) rfl
theorem vk_X9_timeOf : vv_vok yX9_timeOf := ⟨vi_X9_timeOf, vs_X9_timeOf⟩
theorem cd_X9_together : Cond.code yX9_together cX9_together 7 (some .int) ∈ lw_ok := lw_ok_in (lw_g6 (List.mem_of_getElem? (i := 35) rfl)) rfl
theorem yk_X9_together : vv_yok yX9_together cX9_together 7 (some .int) 1 := ⟨cd_X9_together, in_X9, by decide +kernel⟩
theorem vi_X9_together : Cond.instanceMethod yX9_together ∈ lw_ok := lw_ok_in (lw_g6 (List.mem_of_getElem? (i := 33) rfl)) rfl
theorem vs_X9_together : Cond.selects yX9_together.cls yX9_together yX9_together ∈ lw_ok := lw_ok_in (lw_g6 (List.mem_of_getElem? (i := 34) rfl)) rfl
theorem vk_X9_together : vv_vok yX9_together := ⟨vi_X9_together, vs_X9_together⟩
theorem cd_X9_isSlow : Cond.code yX9_isSlow cX9_isSlow 6 (some .boolean) ∈ lw_ok := lw_ok_in (lw_g6 (List.mem_of_getElem? (i := 49) rfl)) rfl
theorem yk_X9_isSlow : vv_yok yX9_isSlow cX9_isSlow 6 (some .boolean) 3 := ⟨cd_X9_isSlow, in_X9, by decide +kernel⟩
theorem vi_X9_isSlow : Cond.instanceMethod yX9_isSlow ∈ lw_ok := lw_ok_in (lw_g6 (List.mem_of_getElem? (i := 48) rfl)) rfl
theorem vs_X9_isSlow : Cond.selects yX9_isSlow.cls yX9_isSlow yX9_isSlow ∈ lw_ok := lw_ok_in (lw_g0 (List.mem_of_getElem? (i := 49) rfl)) rfl
theorem vk_X9_isSlow : vv_vok yX9_isSlow := ⟨vi_X9_isSlow, vs_X9_isSlow⟩
theorem cd_X9_slow : Cond.code yX9_slow cX9_slow 5 (some .int) ∈ lw_ok := lw_ok_in (lw_g6 (List.mem_of_getElem? (i := 45) rfl)) rfl
theorem yk_X9_slow : vv_yok yX9_slow cX9_slow 5 (some .int) 3 := ⟨cd_X9_slow, in_X9, by decide +kernel⟩
theorem vi_X9_slow : Cond.instanceMethod yX9_slow ∈ lw_ok := lw_ok_in (lw_g6 (List.mem_of_getElem? (i := 43) rfl)) rfl
theorem vs_X9_slow : Cond.selects yX9_slow.cls yX9_slow yX9_slow ∈ lw_ok := lw_ok_in (lw_g6 (List.mem_of_getElem? (i := 44) rfl)) rfl
theorem vk_X9_slow : vv_vok yX9_slow := ⟨vi_X9_slow, vs_X9_slow⟩
theorem cd_X9_fill : Cond.code yX9_fill cX9_fill 3 (some .int) ∈ lw_ok := lw_ok_in (lw_g6 (List.mem_of_getElem? (i := 53) rfl)) rfl
theorem yk_X9_fill : vv_yok yX9_fill cX9_fill 3 (some .int) 1 := ⟨cd_X9_fill, in_X9, by decide +kernel⟩
theorem vi_X9_fill : Cond.instanceMethod yX9_fill ∈ lw_ok := lw_ok_in (lw_g6 (List.mem_of_getElem? (i := 51) rfl)) rfl
theorem vs_X9_fill : Cond.selects yX9_fill.cls yX9_fill yX9_fill ∈ lw_ok := lw_ok_in (lw_g6 (List.mem_of_getElem? (i := 52) rfl)) rfl
theorem vk_X9_fill : vv_vok yX9_fill := ⟨vi_X9_fill, vs_X9_fill⟩
theorem cd_X9_trodden : Cond.code yX9_trodden cX9_trodden 5 (some .int) ∈ lw_ok := lw_ok_in (lw_g6 (List.mem_of_getElem? (i := 58) rfl)) rfl
theorem yk_X9_trodden : vv_yok yX9_trodden cX9_trodden 5 (some .int) 2 := ⟨cd_X9_trodden, in_X9, by decide +kernel⟩
theorem vi_X9_trodden : Cond.instanceMethod yX9_trodden ∈ lw_ok := lw_ok_in (lw_g6 (List.mem_of_getElem? (i := 56) rfl)) rfl
theorem vs_X9_trodden : Cond.selects yX9_trodden.cls yX9_trodden yX9_trodden ∈ lw_ok := lw_ok_in (lw_g6 (List.mem_of_getElem? (i := 57) rfl)) rfl
theorem vk_X9_trodden : vv_vok yX9_trodden := ⟨vi_X9_trodden, vs_X9_trodden⟩
theorem cd_X9_breaches : Cond.code yX9_breaches cX9_breaches 4 (some .int) ∈ lw_ok := lw_ok_in (lw_g6 (List.mem_of_getElem? (i := 66) rfl)) rfl
theorem yk_X9_breaches : vv_yok yX9_breaches cX9_breaches 4 (some .int) 1 := ⟨cd_X9_breaches, in_X9, by decide +kernel⟩
theorem vi_X9_breaches : Cond.instanceMethod yX9_breaches ∈ lw_ok := lw_ok_in (lw_g6 (List.mem_of_getElem? (i := 65) rfl)) rfl
theorem vs_X9_breaches : Cond.selects yX9_breaches.cls yX9_breaches yX9_breaches ∈ lw_ok := lw_ok_in (lw_g0 (List.mem_of_getElem? (i := 50) rfl)) rfl
theorem vk_X9_breaches : vv_vok yX9_breaches := ⟨vi_X9_breaches, vs_X9_breaches⟩
theorem cd_X9_blame : Cond.code yX9_blame cX9_blame 2 (some .int) ∈ lw_ok := lw_ok_in (lw_g6 (List.mem_of_getElem? (i := 62) rfl)) rfl
theorem yk_X9_blame : vv_yok yX9_blame cX9_blame 2 (some .int) 0 := ⟨cd_X9_blame, in_X9, by decide +kernel⟩
theorem vi_X9_blame : Cond.instanceMethod yX9_blame ∈ lw_ok := lw_ok_in (lw_g6 (List.mem_of_getElem? (i := 60) rfl)) rfl
theorem vs_X9_blame : Cond.selects yX9_blame.cls yX9_blame yX9_blame ∈ lw_ok := lw_ok_in (lw_g6 (List.mem_of_getElem? (i := 61) rfl)) rfl
theorem vk_X9_blame : vv_vok yX9_blame := ⟨vi_X9_blame, vs_X9_blame⟩
theorem cd_X9_seen : Cond.code yX9_seen cX9_seen 3 (some .int) ∈ lw_ok := lw_ok_in (lw_g6 (List.mem_of_getElem? (i := 70) rfl)) rfl
theorem yk_X9_seen : vv_yok yX9_seen cX9_seen 3 (some .int) 2 := ⟨cd_X9_seen, in_X9, by decide +kernel⟩
theorem vi_X9_seen : Cond.instanceMethod yX9_seen ∈ lw_ok := lw_ok_in (lw_g6 (List.mem_of_getElem? (i := 68) rfl)) rfl
theorem vs_X9_seen : Cond.selects yX9_seen.cls yX9_seen yX9_seen ∈ lw_ok := lw_ok_in (lw_g6 (List.mem_of_getElem? (i := 69) rfl)) rfl
theorem vk_X9_seen : vv_vok yX9_seen := ⟨vi_X9_seen, vs_X9_seen⟩
theorem cd_X9_forget : Cond.code yX9_forget cX9_forget 2 (some .int) ∈ lw_ok := lw_ok_in (lw_g6 (List.mem_of_getElem? (i := 75) rfl)) rfl
theorem yk_X9_forget : vv_yok yX9_forget cX9_forget 2 (some .int) 0 := ⟨cd_X9_forget, in_X9, by decide +kernel⟩
theorem vi_X9_forget : Cond.instanceMethod yX9_forget ∈ lw_ok := lw_ok_in (lw_g6 (List.mem_of_getElem? (i := 73) rfl)) rfl
theorem vs_X9_forget : Cond.selects yX9_forget.cls yX9_forget yX9_forget ∈ lw_ok := lw_ok_in (lw_g6 (List.mem_of_getElem? (i := 74) rfl)) rfl
theorem vk_X9_forget : vv_vok yX9_forget := ⟨vi_X9_forget, vs_X9_forget⟩
theorem cd_X9_flows : Cond.code yX9_flows cX9_flows 5 (some .int) ∈ lw_ok := lw_ok_in (lw_g6 (List.mem_of_getElem? (i := 79) rfl)) rfl
theorem yk_X9_flows : vv_yok yX9_flows cX9_flows 5 (some .int) 0 := ⟨cd_X9_flows, in_X9, by decide +kernel⟩
theorem vi_X9_flows : Cond.instanceMethod yX9_flows ∈ lw_ok := lw_ok_in (lw_g6 (List.mem_of_getElem? (i := 77) rfl)) rfl
theorem vs_X9_flows : Cond.selects yX9_flows.cls yX9_flows yX9_flows ∈ lw_ok := lw_ok_in (lw_g6 (List.mem_of_getElem? (i := 78) rfl)) rfl
theorem vk_X9_flows : vv_vok yX9_flows := ⟨vi_X9_flows, vs_X9_flows⟩
theorem cd_X9_holds : Cond.code yX9_holds cX9_holds 6 (some .boolean) ∈ lw_ok := lw_ok_in (lw_g6 (List.mem_of_getElem? (i := 88) rfl)) rfl
theorem yk_X9_holds : vv_yok yX9_holds cX9_holds 6 (some .boolean) 3 := ⟨cd_X9_holds, in_X9, by decide +kernel⟩
theorem vi_X9_holds : Cond.instanceMethod yX9_holds ∈ lw_ok := lw_ok_in (lw_g6 (List.mem_of_getElem? (i := 87) rfl)) rfl
theorem vs_X9_holds : Cond.selects yX9_holds.cls yX9_holds yX9_holds ∈ lw_ok := lw_ok_in (lw_g0 (List.mem_of_getElem? (i := 51) rfl)) rfl
theorem vk_X9_holds : vv_vok yX9_holds := ⟨vi_X9_holds, vs_X9_holds⟩
theorem cd_X9_odds : Cond.code yX9_odds cX9_odds 10 (some .int) ∈ lw_ok := lw_ok_in (lw_g6 (List.mem_of_getElem? (i := 83) rfl)) rfl
theorem yk_X9_odds : vv_yok yX9_odds cX9_odds 10 (some .int) 4 := ⟨cd_X9_odds, in_X9, by decide +kernel⟩
theorem vi_X9_odds : Cond.instanceMethod yX9_odds ∈ lw_ok := lw_ok_in (lw_g6 (List.mem_of_getElem? (i := 81) rfl)) rfl
theorem vs_X9_odds : Cond.selects yX9_odds.cls yX9_odds yX9_odds ∈ lw_ok := lw_ok_in (lw_g6 (List.mem_of_getElem? (i := 82) rfl)) rfl
theorem vk_X9_odds : vv_vok yX9_odds := ⟨vi_X9_odds, vs_X9_odds⟩
theorem cd_X9_night : Cond.code yX9_night cX9_night 6 (some .int) ∈ lw_ok := lw_ok_in (lw_g6 (List.mem_of_getElem? (i := 92) rfl)) rfl
theorem yk_X9_night : vv_yok yX9_night cX9_night 6 (some .int) 2 := ⟨cd_X9_night, in_X9, by decide +kernel⟩
theorem vi_X9_night : Cond.instanceMethod yX9_night ∈ lw_ok := lw_ok_in (lw_g6 (List.mem_of_getElem? (i := 90) rfl)) rfl
theorem vs_X9_night : Cond.selects yX9_night.cls yX9_night yX9_night ∈ lw_ok := lw_ok_in (lw_g6 (List.mem_of_getElem? (i := 91) rfl)) rfl
theorem vk_X9_night : vv_vok yX9_night := ⟨vi_X9_night, vs_X9_night⟩
theorem cd_X9_copy : Cond.code yX9_copy cX9_copy 4 none ∈ lw_ok := lw_ok_in (lw_g6 (List.mem_of_getElem? (i := 105) rfl)) rfl
theorem yk_X9_copy : vv_yok yX9_copy cX9_copy 4 none 2 := ⟨cd_X9_copy, in_X9, by decide +kernel⟩
theorem vi_X9_copy : Cond.instanceMethod yX9_copy ∈ lw_ok := lw_ok_in (lw_g6 (List.mem_of_getElem? (i := 104) rfl)) rfl
theorem vs_X9_copy : Cond.selects yX9_copy.cls yX9_copy yX9_copy ∈ lw_ok := lw_ok_in (lw_g0 (List.mem_of_getElem? (i := 52) rfl)) rfl
theorem vk_X9_copy : vv_vok yX9_copy := ⟨vi_X9_copy, vs_X9_copy⟩
theorem cd_X9_keep : Cond.code yX9_keep cX9_keep 1 (some .int) ∈ lw_ok := lw_ok_in (lw_g6 (List.mem_of_getElem? (i := 101) rfl)) rfl
theorem yk_X9_keep : vv_yok yX9_keep cX9_keep 1 (some .int) 0 := ⟨cd_X9_keep, in_X9, by decide +kernel⟩
theorem vi_X9_keep : Cond.instanceMethod yX9_keep ∈ lw_ok := lw_ok_in (lw_g6 (List.mem_of_getElem? (i := 99) rfl)) rfl
theorem vs_X9_keep : Cond.selects yX9_keep.cls yX9_keep yX9_keep ∈ lw_ok := lw_ok_in (lw_g6 (List.mem_of_getElem? (i := 100) rfl)) rfl
theorem vk_X9_keep : vv_vok yX9_keep := ⟨vi_X9_keep, vs_X9_keep⟩
theorem cd_X9_back : Cond.code yX9_back cX9_back 1 (some .int) ∈ lw_ok := lw_ok_in (lw_g6 (List.mem_of_getElem? (i := 109) rfl)) rfl
theorem yk_X9_back : vv_yok yX9_back cX9_back 1 (some .int) 0 := ⟨cd_X9_back, in_X9, by decide +kernel⟩
theorem vi_X9_back : Cond.instanceMethod yX9_back ∈ lw_ok := lw_ok_in (lw_g6 (List.mem_of_getElem? (i := 107) rfl)) rfl
theorem vs_X9_back : Cond.selects yX9_back.cls yX9_back yX9_back ∈ lw_ok := lw_ok_in (lw_g6 (List.mem_of_getElem? (i := 108) rfl)) rfl
theorem vk_X9_back : vv_vok yX9_back := ⟨vi_X9_back, vs_X9_back⟩
theorem cd_X9_count : Cond.code yX9_count cX9_count 2 (some .int) ∈ lw_ok := lw_ok_in (lw_g6 (List.mem_of_getElem? (i := 113) rfl)) rfl
theorem yk_X9_count : vv_yok yX9_count cX9_count 2 (some .int) 1 := ⟨cd_X9_count, in_X9, by decide +kernel⟩
theorem vi_X9_count : Cond.instanceMethod yX9_count ∈ lw_ok := lw_ok_in (lw_g6 (List.mem_of_getElem? (i := 111) rfl)) rfl
theorem vs_X9_count : Cond.selects yX9_count.cls yX9_count yX9_count ∈ lw_ok := lw_ok_in (lw_g6 (List.mem_of_getElem? (i := 112) rfl)) rfl
theorem vk_X9_count : vv_vok yX9_count := ⟨vi_X9_count, vs_X9_count⟩
