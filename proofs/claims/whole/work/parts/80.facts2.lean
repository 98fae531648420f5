theorem ac_int : Cond.arrayClass .int ∈ lw_ok := lw_ok_in (lw_g1 (List.mem_of_getElem? (i := 43) rfl)) rfl
theorem oi_i : Cond.instanceMethod objectInit ∈ lw_ok := lw_ok_in (lw_g1 (List.mem_of_getElem? (i := 22) rfl)) rfl
theorem oi_c : Cond.code objectInit ⟨#[0xb1]⟩ 1 none ∈ lw_ok := lw_ok_in (lw_g1 (List.mem_of_getElem? (i := 23) rfl)) rfl
theorem oi_X0 : Cond.methodLink RX0 3 objectInit ∈ lw_ok := lw_ok_in (lw_g1 (List.mem_of_getElem? (i := 196) rfl)) rfl
theorem oi_X1 : Cond.methodLink RX1 3 objectInit ∈ lw_ok := lw_ok_in (lw_g1 (List.mem_of_getElem? (i := 55) rfl)) rfl
theorem oi_X2 : Cond.methodLink RX2 3 objectInit ∈ lw_ok := lw_ok_in (lw_g1 (List.mem_of_getElem? (i := 86) rfl)) rfl
theorem oi_X3 : Cond.methodLink RX3 3 objectInit ∈ lw_ok := lw_ok_in (lw_g1 (List.mem_of_getElem? (i := 141) rfl)) rfl
theorem oi_X4 : Cond.methodLink RX4 3 objectInit ∈ lw_ok := lw_ok_in (lw_g1 (List.mem_of_getElem? (i := 49) rfl)) rfl
theorem oi_X5 : Cond.methodLink RX5 3 objectInit ∈ lw_ok := lw_ok_in (lw_g1 (List.mem_of_getElem? (i := 235) rfl)) rfl
theorem oi_X6 : Cond.methodLink RX6 3 objectInit ∈ lw_ok := lw_ok_in (lw_g1 (List.mem_of_getElem? (i := 219) rfl)) rfl
theorem oi_X7 : Cond.methodLink RX7 3 objectInit ∈ lw_ok := lw_ok_in (lw_g1 (List.mem_of_getElem? (i := 29) rfl)) rfl
theorem oi_X8 : Cond.methodLink RX8 1 objectInit ∈ lw_ok := lw_ok_in (lw_g1 (List.mem_of_getElem? (i := 21) rfl)) rfl
theorem oi_X9 : Cond.methodLink RX9 1 objectInit ∈ lw_ok := lw_ok_in (lw_g4 (List.mem_of_getElem? (i := 159) rfl)) rfl
theorem cl_L_7 : Cond.classLink RL 7 RX8 ∈ lw_ok := lw_ok_in (lw_g1 (List.mem_of_getElem? (i := 16) rfl)) rfl
theorem iz_X8 : Cond.instantiable RX8 11 ∈ lw_ok := lw_ok_in (lw_g1 (List.mem_of_getElem? (i := 17) rfl)) rfl
theorem cl_X8_7 : Cond.classLink RX8 7 RX7 ∈ lw_ok := lw_ok_in (lw_g1 (List.mem_of_getElem? (i := 24) rfl)) rfl
theorem iz_X7 : Cond.instantiable RX7 4 ∈ lw_ok := lw_ok_in (lw_g1 (List.mem_of_getElem? (i := 25) rfl)) rfl
theorem cl_X8_16 : Cond.classLink RX8 16 RX4 ∈ lw_ok := lw_ok_in (lw_g1 (List.mem_of_getElem? (i := 44) rfl)) rfl
theorem iz_X4 : Cond.instantiable RX4 9 ∈ lw_ok := lw_ok_in (lw_g1 (List.mem_of_getElem? (i := 45) rfl)) rfl
theorem cl_X4_18 : Cond.classLink RX4 18 RX1 ∈ lw_ok := lw_ok_in (lw_g1 (List.mem_of_getElem? (i := 50) rfl)) rfl
theorem iz_X1 : Cond.instantiable RX1 8 ∈ lw_ok := lw_ok_in (lw_g1 (List.mem_of_getElem? (i := 51) rfl)) rfl
theorem cl_X4_25 : Cond.classLink RX4 25 RX2 ∈ lw_ok := lw_ok_in (lw_g1 (List.mem_of_getElem? (i := 81) rfl)) rfl
theorem iz_X2 : Cond.instantiable RX2 6 ∈ lw_ok := lw_ok_in (lw_g1 (List.mem_of_getElem? (i := 82) rfl)) rfl
theorem cl_X2_9 : Cond.classLink RX2 9 "[[I" ∈ lw_ok := lw_ok_in (lw_g1 (List.mem_of_getElem? (i := 87) rfl)) rfl
theorem cl_X8_26 : Cond.classLink RX8 26 RX3 ∈ lw_ok := lw_ok_in (lw_g1 (List.mem_of_getElem? (i := 136) rfl)) rfl
theorem iz_X3 : Cond.instantiable RX3 16 ∈ lw_ok := lw_ok_in (lw_g1 (List.mem_of_getElem? (i := 137) rfl)) rfl
theorem cl_X8_38 : Cond.classLink RX8 38 RX0 ∈ lw_ok := lw_ok_in (lw_g1 (List.mem_of_getElem? (i := 191) rfl)) rfl
theorem iz_X0 : Cond.instantiable RX0 5 ∈ lw_ok := lw_ok_in (lw_g1 (List.mem_of_getElem? (i := 192) rfl)) rfl
theorem cl_X8_49 : Cond.classLink RX8 49 RX6 ∈ lw_ok := lw_ok_in (lw_g1 (List.mem_of_getElem? (i := 214) rfl)) rfl
theorem iz_X6 : Cond.instantiable RX6 3 ∈ lw_ok := lw_ok_in (lw_g1 (List.mem_of_getElem? (i := 215) rfl)) rfl
theorem cl_X8_56 : Cond.classLink RX8 56 RX5 ∈ lw_ok := lw_ok_in (lw_g1 (List.mem_of_getElem? (i := 230) rfl)) rfl
theorem iz_X5 : Cond.instantiable RX5 2 ∈ lw_ok := lw_ok_in (lw_g1 (List.mem_of_getElem? (i := 231) rfl)) rfl
theorem cl_L_10 : Cond.classLink RL 10 RX9 ∈ lw_ok := lw_ok_in (lw_g4 (List.mem_of_getElem? (i := 154) rfl)) rfl
theorem iz_X9 : Cond.instantiable RX9 48 ∈ lw_ok := lw_ok_in (lw_g4 (List.mem_of_getElem? (i := 155) rfl)) rfl
theorem ni_X0 : Cond.instanceMethod yX0_init ∈ lw_ok := lw_ok_in (lw_g1 (List.mem_of_getElem? (i := 194) rfl)) rfl
theorem ni_X1 : Cond.instanceMethod yX1_init ∈ lw_ok := lw_ok_in (lw_g1 (List.mem_of_getElem? (i := 53) rfl)) rfl
theorem ni_X2 : Cond.instanceMethod yX2_init ∈ lw_ok := lw_ok_in (lw_g1 (List.mem_of_getElem? (i := 84) rfl)) rfl
theorem ni_X3 : Cond.instanceMethod yX3_init ∈ lw_ok := lw_ok_in (lw_g1 (List.mem_of_getElem? (i := 139) rfl)) rfl
theorem ni_X4 : Cond.instanceMethod yX4_init ∈ lw_ok := lw_ok_in (lw_g1 (List.mem_of_getElem? (i := 47) rfl)) rfl
theorem ni_X5 : Cond.instanceMethod yX5_init ∈ lw_ok := lw_ok_in (lw_g1 (List.mem_of_getElem? (i := 233) rfl)) rfl
theorem ni_X6 : Cond.instanceMethod yX6_init ∈ lw_ok := lw_ok_in (lw_g1 (List.mem_of_getElem? (i := 217) rfl)) rfl
theorem ni_X7 : Cond.instanceMethod yX7_init ∈ lw_ok := lw_ok_in (lw_g1 (List.mem_of_getElem? (i := 27) rfl)) rfl
theorem ni_X8 : Cond.instanceMethod yX8_init ∈ lw_ok := lw_ok_in (lw_g1 (List.mem_of_getElem? (i := 19) rfl)) rfl
theorem ni_X9 : Cond.instanceMethod yX9_init ∈ lw_ok := lw_ok_in (lw_g4 (List.mem_of_getElem? (i := 157) rfl)) rfl
theorem pn_X0_0 : parseFieldDescriptor (TX0 0).2.2.1 = some (.array .int) ∧ (TX0 0).2.2.2 = true ∧ (TX0 0).1 = RX0 := ⟨by decide +kernel, rfl, rfl⟩
theorem pn_X0_1 : parseFieldDescriptor (TX0 1).2.2.1 = some (.array .int) ∧ (TX0 1).2.2.2 = true ∧ (TX0 1).1 = RX0 := ⟨by decide +kernel, rfl, rfl⟩
theorem pn_X0_2 : parseFieldDescriptor (TX0 2).2.2.1 = some (.array .int) ∧ (TX0 2).2.2.2 = true ∧ (TX0 2).1 = RX0 := ⟨by decide +kernel, rfl, rfl⟩
theorem pn_X0_3 : parseFieldDescriptor (TX0 3).2.2.1 = some (.array .int) ∧ (TX0 3).2.2.2 = true ∧ (TX0 3).1 = RX0 := ⟨by decide +kernel, rfl, rfl⟩
theorem pn_X1_0 : parseFieldDescriptor (TX1 0).2.2.1 = some (.array .int) ∧ (TX1 0).2.2.2 = true ∧ (TX1 0).1 = RX1 := ⟨by decide +kernel, rfl, rfl⟩
theorem pn_X1_1 : parseFieldDescriptor (TX1 1).2.2.1 = some (.array .int) ∧ (TX1 1).2.2.2 = true ∧ (TX1 1).1 = RX1 := ⟨by decide +kernel, rfl, rfl⟩
theorem pn_X1_3 : parseFieldDescriptor (TX1 3).2.2.1 = some (.array .int) ∧ (TX1 3).2.2.2 = true ∧ (TX1 3).1 = RX1 := ⟨by decide +kernel, rfl, rfl⟩
theorem pn_X1_4 : parseFieldDescriptor (TX1 4).2.2.1 = some (.array .int) ∧ (TX1 4).2.2.2 = true ∧ (TX1 4).1 = RX1 := ⟨by decide +kernel, rfl, rfl⟩
theorem pn_X1_5 : parseFieldDescriptor (TX1 5).2.2.1 = some (.array .int) ∧ (TX1 5).2.2.2 = true ∧ (TX1 5).1 = RX1 := ⟨by decide +kernel, rfl, rfl⟩
theorem pn_X1_7 : parseFieldDescriptor (TX1 7).2.2.1 = some (.array .int) ∧ (TX1 7).2.2.2 = true ∧ (TX1 7).1 = RX1 := ⟨by decide +kernel, rfl, rfl⟩
theorem pn_X2_0 : parseFieldDescriptor (TX2 0).2.2.1 = some (.array (.array .int)) ∧ (TX2 0).2.2.2 = true ∧ (TX2 0).1 = RX2 := ⟨by decide +kernel, rfl, rfl⟩
theorem pn_X2_2 : parseFieldDescriptor (TX2 2).2.2.1 = some (.array .int) ∧ (TX2 2).2.2.2 = true ∧ (TX2 2).1 = RX2 := ⟨by decide +kernel, rfl, rfl⟩
theorem pn_X2_3 : parseFieldDescriptor (TX2 3).2.2.1 = some (.array .int) ∧ (TX2 3).2.2.2 = true ∧ (TX2 3).1 = RX2 := ⟨by decide +kernel, rfl, rfl⟩
theorem pn_X2_5 : parseFieldDescriptor (TX2 5).2.2.1 = some (.array .int) ∧ (TX2 5).2.2.2 = true ∧ (TX2 5).1 = RX2 := ⟨by decide +kernel, rfl, rfl⟩
theorem pn_X3_0 : parseFieldDescriptor (TX3 0).2.2.1 = some (.object "DamOfTurf$Plan") ∧ (TX3 0).2.2.2 = true ∧ (TX3 0).1 = RX3 := ⟨by decide +kernel, rfl, rfl⟩
theorem pn_X3_1 : parseFieldDescriptor (TX3 1).2.2.1 = some (.array .int) ∧ (TX3 1).2.2.2 = true ∧ (TX3 1).1 = RX3 := ⟨by decide +kernel, rfl, rfl⟩
theorem pn_X3_2 : parseFieldDescriptor (TX3 2).2.2.1 = some (.array .int) ∧ (TX3 2).2.2.2 = true ∧ (TX3 2).1 = RX3 := ⟨by decide +kernel, rfl, rfl⟩
theorem pn_X3_3 : parseFieldDescriptor (TX3 3).2.2.1 = some (.array .int) ∧ (TX3 3).2.2.2 = true ∧ (TX3 3).1 = RX3 := ⟨by decide +kernel, rfl, rfl⟩
theorem pn_X4_0 : parseFieldDescriptor (TX4 0).2.2.1 = some (.array .int) ∧ (TX4 0).2.2.2 = true ∧ (TX4 0).1 = RX4 := ⟨by decide +kernel, rfl, rfl⟩
theorem pn_X4_1 : parseFieldDescriptor (TX4 1).2.2.1 = some (.array .int) ∧ (TX4 1).2.2.2 = true ∧ (TX4 1).1 = RX4 := ⟨by decide +kernel, rfl, rfl⟩
theorem pn_X4_7 : parseFieldDescriptor (TX4 7).2.2.1 = some (.object "DamOfTurf$Brook") ∧ (TX4 7).2.2.2 = true ∧ (TX4 7).1 = RX4 := ⟨by decide +kernel, rfl, rfl⟩
theorem pn_X4_8 : parseFieldDescriptor (TX4 8).2.2.1 = some (.object "DamOfTurf$Crew") ∧ (TX4 8).2.2.2 = true ∧ (TX4 8).1 = RX4 := ⟨by decide +kernel, rfl, rfl⟩
theorem pn_X5_0 : parseFieldDescriptor (TX5 0).2.2.1 = some (.array .int) ∧ (TX5 0).2.2.2 = true ∧ (TX5 0).1 = RX5 := ⟨by decide +kernel, rfl, rfl⟩
theorem pn_X6_0 : parseFieldDescriptor (TX6 0).2.2.1 = some (.array .int) ∧ (TX6 0).2.2.2 = true ∧ (TX6 0).1 = RX6 := ⟨by decide +kernel, rfl, rfl⟩
theorem pn_X6_1 : parseFieldDescriptor (TX6 1).2.2.1 = some (.array .int) ∧ (TX6 1).2.2.2 = true ∧ (TX6 1).1 = RX6 := ⟨by decide +kernel, rfl, rfl⟩
theorem pn_X7_0 : parseFieldDescriptor (TX7 0).2.2.1 = some (.array .int) ∧ (TX7 0).2.2.2 = true ∧ (TX7 0).1 = RX7 := ⟨by decide +kernel, rfl, rfl⟩
theorem pn_X7_2 : parseFieldDescriptor (TX7 2).2.2.1 = some (.array .int) ∧ (TX7 2).2.2.2 = true ∧ (TX7 2).1 = RX7 := ⟨by decide +kernel, rfl, rfl⟩
theorem pn_X8_0 : parseFieldDescriptor (TX8 0).2.2.1 = some (.object "DamOfTurf$Text") ∧ (TX8 0).2.2.2 = true ∧ (TX8 0).1 = RX8 := ⟨by decide +kernel, rfl, rfl⟩
theorem pn_X8_1 : parseFieldDescriptor (TX8 1).2.2.1 = some (.object "DamOfTurf$Plan") ∧ (TX8 1).2.2.2 = true ∧ (TX8 1).1 = RX8 := ⟨by decide +kernel, rfl, rfl⟩
theorem pn_X8_2 : parseFieldDescriptor (TX8 2).2.2.1 = some (.object "DamOfTurf$Plan") ∧ (TX8 2).2.2.2 = true ∧ (TX8 2).1 = RX8 := ⟨by decide +kernel, rfl, rfl⟩
theorem pn_X8_3 : parseFieldDescriptor (TX8 3).2.2.1 = some (.object "DamOfTurf$Dam") ∧ (TX8 3).2.2.2 = true ∧ (TX8 3).1 = RX8 := ⟨by decide +kernel, rfl, rfl⟩
theorem pn_X8_4 : parseFieldDescriptor (TX8 4).2.2.1 = some (.object "DamOfTurf$Dam") ∧ (TX8 4).2.2.2 = true ∧ (TX8 4).1 = RX8 := ⟨by decide +kernel, rfl, rfl⟩
theorem pn_X8_5 : parseFieldDescriptor (TX8 5).2.2.1 = some (.object "DamOfTurf$Acts") ∧ (TX8 5).2.2.2 = true ∧ (TX8 5).1 = RX8 := ⟨by decide +kernel, rfl, rfl⟩
theorem pn_X8_6 : parseFieldDescriptor (TX8 6).2.2.1 = some (.array (.object "DamOfTurf$Acts")) ∧ (TX8 6).2.2.2 = true ∧ (TX8 6).1 = RX8 := ⟨by decide +kernel, rfl, rfl⟩
theorem pn_X8_8 : parseFieldDescriptor (TX8 8).2.2.1 = some (.object "DamOfTurf$Sightings") ∧ (TX8 8).2.2.2 = true ∧ (TX8 8).1 = RX8 := ⟨by decide +kernel, rfl, rfl⟩
theorem pn_X8_9 : parseFieldDescriptor (TX8 9).2.2.1 = some (.object "DamOfTurf$Shares") ∧ (TX8 9).2.2.2 = true ∧ (TX8 9).1 = RX8 := ⟨by decide +kernel, rfl, rfl⟩
theorem pn_X8_10 : parseFieldDescriptor (TX8 10).2.2.1 = some (.object "DamOfTurf$Shares") ∧ (TX8 10).2.2.2 = true ∧ (TX8 10).1 = RX8 := ⟨by decide +kernel, rfl, rfl⟩
theorem pn_X9_1 : parseFieldDescriptor (TX9 1).2.2.1 = some (.array .int) ∧ (TX9 1).2.2.2 = true ∧ (TX9 1).1 = RX9 := ⟨by decide +kernel, rfl, rfl⟩
theorem pn_X9_2 : parseFieldDescriptor (TX9 2).2.2.1 = some (.array .int) ∧ (TX9 2).2.2.2 = true ∧ (TX9 2).1 = RX9 := ⟨by decide +kernel, rfl, rfl⟩
theorem pn_X9_3 : parseFieldDescriptor (TX9 3).2.2.1 = some (.array .int) ∧ (TX9 3).2.2.2 = true ∧ (TX9 3).1 = RX9 := ⟨by decide +kernel, rfl, rfl⟩
theorem pn_X9_4 : parseFieldDescriptor (TX9 4).2.2.1 = some (.array .int) ∧ (TX9 4).2.2.2 = true ∧ (TX9 4).1 = RX9 := ⟨by decide +kernel, rfl, rfl⟩
theorem pn_X9_5 : parseFieldDescriptor (TX9 5).2.2.1 = some (.array .int) ∧ (TX9 5).2.2.2 = true ∧ (TX9 5).1 = RX9 := ⟨by decide +kernel, rfl, rfl⟩
theorem pn_X9_6 : parseFieldDescriptor (TX9 6).2.2.1 = some (.array .int) ∧ (TX9 6).2.2.2 = true ∧ (TX9 6).1 = RX9 := ⟨by decide +kernel, rfl, rfl⟩
theorem pn_X9_7 : parseFieldDescriptor (TX9 7).2.2.1 = some (.array .int) ∧ (TX9 7).2.2.2 = true ∧ (TX9 7).1 = RX9 := ⟨by decide +kernel, rfl, rfl⟩
theorem pn_X9_8 : parseFieldDescriptor (TX9 8).2.2.1 = some (.array .int) ∧ (TX9 8).2.2.2 = true ∧ (TX9 8).1 = RX9 := ⟨by decide +kernel, rfl, rfl⟩
theorem pn_X9_9 : parseFieldDescriptor (TX9 9).2.2.1 = some (.array .int) ∧ (TX9 9).2.2.2 = true ∧ (TX9 9).1 = RX9 := ⟨by decide +kernel, rfl, rfl⟩
theorem pn_X9_10 : parseFieldDescriptor (TX9 10).2.2.1 = some (.array .int) ∧ (TX9 10).2.2.2 = true ∧ (TX9 10).1 = RX9 := ⟨by decide +kernel, rfl, rfl⟩
theorem pn_X9_11 : parseFieldDescriptor (TX9 11).2.2.1 = some (.array .int) ∧ (TX9 11).2.2.2 = true ∧ (TX9 11).1 = RX9 := ⟨by decide +kernel, rfl, rfl⟩
theorem pn_X9_12 : parseFieldDescriptor (TX9 12).2.2.1 = some (.array .int) ∧ (TX9 12).2.2.2 = true ∧ (TX9 12).1 = RX9 := ⟨by decide +kernel, rfl, rfl⟩
theorem pn_X9_13 : parseFieldDescriptor (TX9 13).2.2.1 = some (.array .int) ∧ (TX9 13).2.2.2 = true ∧ (TX9 13).1 = RX9 := ⟨by decide +kernel, rfl, rfl⟩
theorem pn_X9_14 : parseFieldDescriptor (TX9 14).2.2.1 = some (.array .int) ∧ (TX9 14).2.2.2 = true ∧ (TX9 14).1 = RX9 := ⟨by decide +kernel, rfl, rfl⟩
theorem pn_X9_15 : parseFieldDescriptor (TX9 15).2.2.1 = some (.array .int) ∧ (TX9 15).2.2.2 = true ∧ (TX9 15).1 = RX9 := ⟨by decide +kernel, rfl, rfl⟩
theorem pn_X9_16 : parseFieldDescriptor (TX9 16).2.2.1 = some (.array .int) ∧ (TX9 16).2.2.2 = true ∧ (TX9 16).1 = RX9 := ⟨by decide +kernel, rfl, rfl⟩
theorem pn_X9_17 : parseFieldDescriptor (TX9 17).2.2.1 = some (.array .int) ∧ (TX9 17).2.2.2 = true ∧ (TX9 17).1 = RX9 := ⟨by decide +kernel, rfl, rfl⟩
theorem pn_X9_18 : parseFieldDescriptor (TX9 18).2.2.1 = some (.array .int) ∧ (TX9 18).2.2.2 = true ∧ (TX9 18).1 = RX9 := ⟨by decide +kernel, rfl, rfl⟩
theorem pn_X9_19 : parseFieldDescriptor (TX9 19).2.2.1 = some (.array .int) ∧ (TX9 19).2.2.2 = true ∧ (TX9 19).1 = RX9 := ⟨by decide +kernel, rfl, rfl⟩
theorem pn_X9_20 : parseFieldDescriptor (TX9 20).2.2.1 = some (.array .int) ∧ (TX9 20).2.2.2 = true ∧ (TX9 20).1 = RX9 := ⟨by decide +kernel, rfl, rfl⟩
theorem pn_X9_21 : parseFieldDescriptor (TX9 21).2.2.1 = some (.array .int) ∧ (TX9 21).2.2.2 = true ∧ (TX9 21).1 = RX9 := ⟨by decide +kernel, rfl, rfl⟩
theorem pn_X9_22 : parseFieldDescriptor (TX9 22).2.2.1 = some (.array .int) ∧ (TX9 22).2.2.2 = true ∧ (TX9 22).1 = RX9 := ⟨by decide +kernel, rfl, rfl⟩
theorem pn_X9_23 : parseFieldDescriptor (TX9 23).2.2.1 = some (.array .int) ∧ (TX9 23).2.2.2 = true ∧ (TX9 23).1 = RX9 := ⟨by decide +kernel, rfl, rfl⟩
theorem pn_X9_24 : parseFieldDescriptor (TX9 24).2.2.1 = some (.array .int) ∧ (TX9 24).2.2.2 = true ∧ (TX9 24).1 = RX9 := ⟨by decide +kernel, rfl, rfl⟩
theorem pn_X9_27 : parseFieldDescriptor (TX9 27).2.2.1 = some (.array .int) ∧ (TX9 27).2.2.2 = true ∧ (TX9 27).1 = RX9 := ⟨by decide +kernel, rfl, rfl⟩
theorem pn_X9_28 : parseFieldDescriptor (TX9 28).2.2.1 = some (.array .int) ∧ (TX9 28).2.2.2 = true ∧ (TX9 28).1 = RX9 := ⟨by decide +kernel, rfl, rfl⟩
theorem pn_X9_30 : parseFieldDescriptor (TX9 30).2.2.1 = some (.array .int) ∧ (TX9 30).2.2.2 = true ∧ (TX9 30).1 = RX9 := ⟨by decide +kernel, rfl, rfl⟩
theorem pn_X9_31 : parseFieldDescriptor (TX9 31).2.2.1 = some (.array .int) ∧ (TX9 31).2.2.2 = true ∧ (TX9 31).1 = RX9 := ⟨by decide +kernel, rfl, rfl⟩
theorem pn_X9_32 : parseFieldDescriptor (TX9 32).2.2.1 = some (.array .int) ∧ (TX9 32).2.2.2 = true ∧ (TX9 32).1 = RX9 := ⟨by decide +kernel, rfl, rfl⟩
theorem pn_X9_33 : parseFieldDescriptor (TX9 33).2.2.1 = some (.array .int) ∧ (TX9 33).2.2.2 = true ∧ (TX9 33).1 = RX9 := ⟨by decide +kernel, rfl, rfl⟩
theorem pn_X9_34 : parseFieldDescriptor (TX9 34).2.2.1 = some (.array .int) ∧ (TX9 34).2.2.2 = true ∧ (TX9 34).1 = RX9 := ⟨by decide +kernel, rfl, rfl⟩
theorem pn_X9_35 : parseFieldDescriptor (TX9 35).2.2.1 = some (.array .int) ∧ (TX9 35).2.2.2 = true ∧ (TX9 35).1 = RX9 := ⟨by decide +kernel, rfl, rfl⟩
theorem pn_X9_36 : parseFieldDescriptor (TX9 36).2.2.1 = some (.array .int) ∧ (TX9 36).2.2.2 = true ∧ (TX9 36).1 = RX9 := ⟨by decide +kernel, rfl, rfl⟩
theorem pn_X9_37 : parseFieldDescriptor (TX9 37).2.2.1 = some (.array .int) ∧ (TX9 37).2.2.2 = true ∧ (TX9 37).1 = RX9 := ⟨by decide +kernel, rfl, rfl⟩
theorem pn_X9_42 : parseFieldDescriptor (TX9 42).2.2.1 = some (.array .int) ∧ (TX9 42).2.2.2 = true ∧ (TX9 42).1 = RX9 := ⟨by decide +kernel, rfl, rfl⟩
theorem pn_X9_43 : parseFieldDescriptor (TX9 43).2.2.1 = some (.array .int) ∧ (TX9 43).2.2.2 = true ∧ (TX9 43).1 = RX9 := ⟨by decide +kernel, rfl, rfl⟩
theorem pn_X9_44 : parseFieldDescriptor (TX9 44).2.2.1 = some (.array .int) ∧ (TX9 44).2.2.2 = true ∧ (TX9 44).1 = RX9 := ⟨by decide +kernel, rfl, rfl⟩
theorem pn_X9_45 : parseFieldDescriptor (TX9 45).2.2.1 = some (.array .int) ∧ (TX9 45).2.2.2 = true ∧ (TX9 45).1 = RX9 := ⟨by decide +kernel, rfl, rfl⟩
theorem pn_X9_46 : parseFieldDescriptor (TX9 46).2.2.1 = some (.array .int) ∧ (TX9 46).2.2.2 = true ∧ (TX9 46).1 = RX9 := ⟨by decide +kernel, rfl, rfl⟩
theorem in_J0 : Cond.initialized RJ0 ∈ lw_ok := lw_ok_in (lw_g1 (List.mem_of_getElem? (i := 10) rfl)) rfl
theorem in_J1 : Cond.initialized RJ1 ∈ lw_ok := lw_ok_in (lw_g1 (List.mem_of_getElem? (i := 11) rfl)) rfl
theorem in_J2 : Cond.initialized RJ2 ∈ lw_ok := lw_ok_in (lw_g1 (List.mem_of_getElem? (i := 13) rfl)) rfl
theorem in_J3 : Cond.initialized RJ3 ∈ lw_ok := lw_ok_in (lw_g1 (List.mem_of_getElem? (i := 12) rfl)) rfl
theorem cd_J0_length_8abf5 : Cond.code yJ0_length_8abf5 cJ0_length_8abf5 1 (some .int) ∈ lw_ok := lw_ok_in (lw_g2 (List.mem_of_getElem? (i := 7) rfl)) rfl
theorem yk_J0_length_8abf5 : vv_yok yJ0_length_8abf5 cJ0_length_8abf5 1 (some .int) 0 := ⟨cd_J0_length_8abf5, in_J0, by decide +kernel⟩
theorem vi_J0_length_8abf5 : Cond.instanceMethod yJ0_length_8abf5 ∈ lw_ok := lw_ok_in (lw_g2 (List.mem_of_getElem? (i := 5) rfl)) rfl
theorem vs_J0_length_8abf5 : Cond.selects yJ0_length_8abf5.cls yJ0_length_8abf5 yJ0_length_8abf5 ∈ lw_ok := lw_ok_in (lw_g2 (List.mem_of_getElem? (i := 6) rfl)) rfl
theorem vk_J0_length_8abf5 : vv_vok yJ0_length_8abf5 := ⟨vi_J0_length_8abf5, vs_J0_length_8abf5⟩
theorem cd_J0_charAt_5068e : Cond.code yJ0_charAt_5068e cJ0_charAt_5068e 2 (some .char) ∈ lw_ok := lw_ok_in (lw_g2 (List.mem_of_getElem? (i := 17) rfl)) rfl
theorem yk_J0_charAt_5068e : vv_yok yJ0_charAt_5068e cJ0_charAt_5068e 2 (some .char) 1 := ⟨cd_J0_charAt_5068e, in_J0, by decide +kernel⟩
theorem vi_J0_charAt_5068e : Cond.instanceMethod yJ0_charAt_5068e ∈ lw_ok := lw_ok_in (lw_g2 (List.mem_of_getElem? (i := 15) rfl)) rfl
theorem vs_J0_charAt_5068e : Cond.selects yJ0_charAt_5068e.cls yJ0_charAt_5068e yJ0_charAt_5068e ∈ lw_ok := lw_ok_in (lw_g2 (List.mem_of_getElem? (i := 16) rfl)) rfl
theorem vk_J0_charAt_5068e : vv_vok yJ0_charAt_5068e := ⟨vi_J0_charAt_5068e, vs_J0_charAt_5068e⟩
theorem cd_J0_coder_7d493 : Cond.code yJ0_coder_7d493 cJ0_coder_7d493 1 (some .byte) ∈ lw_ok := lw_ok_in (lw_g2 (List.mem_of_getElem? (i := 11) rfl)) rfl
theorem yk_J0_coder_7d493 : vv_yok yJ0_coder_7d493 cJ0_coder_7d493 1 (some .byte) 0 := ⟨cd_J0_coder_7d493, in_J0, by decide +kernel⟩
theorem vi_J0_coder_7d493 : Cond.instanceMethod yJ0_coder_7d493 ∈ lw_ok := lw_ok_in (lw_g2 (List.mem_of_getElem? (i := 9) rfl)) rfl
theorem vs_J0_coder_7d493 : Cond.selects yJ0_coder_7d493.cls yJ0_coder_7d493 yJ0_coder_7d493 ∈ lw_ok := lw_ok_in (lw_g2 (List.mem_of_getElem? (i := 10) rfl)) rfl
theorem vk_J0_coder_7d493 : vv_vok yJ0_coder_7d493 := ⟨vi_J0_coder_7d493, vs_J0_coder_7d493⟩
theorem cd_J0_isLatin1_aae02 : Cond.code yJ0_isLatin1_aae02 cJ0_isLatin1_aae02 1 (some .boolean) ∈ lw_ok := lw_ok_in (lw_g2 (List.mem_of_getElem? (i := 21) rfl)) rfl
theorem yk_J0_isLatin1_aae02 : vv_yok yJ0_isLatin1_aae02 cJ0_isLatin1_aae02 1 (some .boolean) 0 := ⟨cd_J0_isLatin1_aae02, in_J0, by decide +kernel⟩
theorem vi_J0_isLatin1_aae02 : Cond.instanceMethod yJ0_isLatin1_aae02 ∈ lw_ok := lw_ok_in (lw_g2 (List.mem_of_getElem? (i := 19) rfl)) rfl
theorem vs_J0_isLatin1_aae02 : Cond.selects yJ0_isLatin1_aae02.cls yJ0_isLatin1_aae02 yJ0_isLatin1_aae02 ∈ lw_ok := lw_ok_in (lw_g2 (List.mem_of_getElem? (i := 20) rfl)) rfl
theorem vk_J0_isLatin1_aae02 : vv_vok yJ0_isLatin1_aae02 := ⟨vi_J0_isLatin1_aae02, vs_J0_isLatin1_aae02⟩
theorem cd_J0_checkIndex_df160 : Cond.code yJ0_checkIndex_df160 cJ0_checkIndex_df160 2 none ∈ lw_ok := lw_ok_in (lw_g2 (List.mem_of_getElem? (i := 27) rfl)) rfl
theorem yk_J0_checkIndex_df160 : vv_yok yJ0_checkIndex_df160 cJ0_checkIndex_df160 2 none 2 := ⟨cd_J0_checkIndex_df160, in_J0, by decide +kernel⟩
theorem sk_J0_checkIndex_df160 : Cond.static yJ0_checkIndex_df160 ∈ lw_ok := lw_ok_in (lw_g2 (List.mem_of_getElem? (i := 26) rfl)) rfl
theorem cd_J1_charAt_3b067 : Cond.code yJ1_charAt_3b067 cJ1_charAt_3b067 2 (some .char) ∈ lw_ok := lw_ok_in (lw_g2 (List.mem_of_getElem? (i := 24) rfl)) rfl
theorem yk_J1_charAt_3b067 : vv_yok yJ1_charAt_3b067 cJ1_charAt_3b067 2 (some .char) 2 := ⟨cd_J1_charAt_3b067, in_J1, by decide +kernel⟩
theorem sk_J1_charAt_3b067 : Cond.static yJ1_charAt_3b067 ∈ lw_ok := lw_ok_in (lw_g2 (List.mem_of_getElem? (i := 23) rfl)) rfl
theorem cd_J3_checkIndex_8e157 : Cond.code yJ3_checkIndex_8e157 cJ3_checkIndex_8e157 3 (some .int) ∈ lw_ok := lw_ok_in (lw_g2 (List.mem_of_getElem? (i := 32) rfl)) rfl
theorem yk_J3_checkIndex_8e157 : vv_yok yJ3_checkIndex_8e157 cJ3_checkIndex_8e157 3 (some .int) 3 := ⟨cd_J3_checkIndex_8e157, in_J3, by decide +kernel⟩
theorem sk_J3_checkIndex_8e157 : Cond.static yJ3_checkIndex_8e157 ∈ lw_ok := lw_ok_in (lw_g2 (List.mem_of_getElem? (i := 31) rfl)) rfl
theorem lk_X8_68 : Cond.methodLink RX8 68 yJ0_length_8abf5 ∈ lw_ok := lw_ok_in (lw_g2 (List.mem_of_getElem? (i := 4) rfl)) rfl
theorem lk_J0_335 : Cond.methodLink RJ0 335 yJ0_coder_7d493 ∈ lw_ok := lw_ok_in (lw_g2 (List.mem_of_getElem? (i := 8) rfl)) rfl
theorem fk_J0_38 : Cond.fieldLink RJ0 38 "java/lang/String" "COMPACT_STRINGS" "Z" ∈ lw_ok := lw_ok_in (lw_g2 (List.mem_of_getElem? (i := 12) rfl)) rfl
theorem ls_COMPACT_STRINGS : Cond.laysStatic "java/lang/String" "COMPACT_STRINGS" "Z" ∈ lw_tbl := lw_g2 (List.mem_of_getElem? (i := 13) rfl)
theorem lk_X8_74 : Cond.methodLink RX8 74 yJ0_charAt_5068e ∈ lw_ok := lw_ok_in (lw_g2 (List.mem_of_getElem? (i := 14) rfl)) rfl
theorem lk_J0_492 : Cond.methodLink RJ0 492 yJ0_isLatin1_aae02 ∈ lw_ok := lw_ok_in (lw_g2 (List.mem_of_getElem? (i := 18) rfl)) rfl
theorem lk_J0_495 : Cond.methodLink RJ0 495 yJ1_charAt_3b067 ∈ lw_ok := lw_ok_in (lw_g2 (List.mem_of_getElem? (i := 22) rfl)) rfl
theorem lk_J1_9 : Cond.methodLink RJ1 9 yJ0_checkIndex_df160 ∈ lw_ok := lw_ok_in (lw_g2 (List.mem_of_getElem? (i := 25) rfl)) rfl
theorem fk_J0_1053 : Cond.fieldLink RJ0 1053 "jdk/internal/util/Preconditions" "SIOOBE_FORMATTER" "Ljava/util/function/BiFunction;" ∈ lw_ok := lw_ok_in (lw_g2 (List.mem_of_getElem? (i := 28) rfl)) rfl
theorem ls_SIOOBE_FORMATTER : Cond.laysStatic "jdk/internal/util/Preconditions" "SIOOBE_FORMATTER" "Ljava/util/function/BiFunction;" ∈ lw_tbl := lw_g2 (List.mem_of_getElem? (i := 29) rfl)
theorem lk_J0_1059 : Cond.methodLink RJ0 1059 yJ3_checkIndex_8e157 ∈ lw_ok := lw_ok_in (lw_g2 (List.mem_of_getElem? (i := 30) rfl)) rfl
theorem fk_J0_9 : Cond.fieldLink RJ0 9 "java/lang/String" "value" "[B" ∈ lw_ok := lw_ok_in (lw_g6 (List.mem_of_getElem? (i := 114) rfl)) rfl
theorem fk_J0_15 : Cond.fieldLink RJ0 15 "java/lang/String" "coder" "B" ∈ lw_ok := lw_ok_in (lw_g6 (List.mem_of_getElem? (i := 115) rfl)) rfl
theorem dJ0_length_8abf5_0 : decode cJ0_length_8abf5 0 = .ok (.aload_n 0, 1) := by decide +kernel
theorem dJ0_length_8abf5_1 : decode cJ0_length_8abf5 1 = .ok (.getfield 9, 3) := by decide +kernel
theorem dJ0_length_8abf5_4 : decode cJ0_length_8abf5 4 = .ok (.arraylength, 1) := by decide +kernel
theorem dJ0_length_8abf5_5 : decode cJ0_length_8abf5 5 = .ok (.aload_n 0, 1) := by decide +kernel
theorem dJ0_length_8abf5_6 : decode cJ0_length_8abf5 6 = .ok (.invokevirtual 335, 3) := by decide +kernel
theorem dJ0_length_8abf5_9 : decode cJ0_length_8abf5 9 = .ok (.ishr, 1) := by decide +kernel
theorem dJ0_length_8abf5_10 : decode cJ0_length_8abf5 10 = .ok (.ireturn, 1) := by decide +kernel
theorem dJ0_charAt_5068e_0 : decode cJ0_charAt_5068e 0 = .ok (.aload_n 0, 1) := by decide +kernel
theorem dJ0_charAt_5068e_1 : decode cJ0_charAt_5068e 1 = .ok (.invokevirtual 492, 3) := by decide +kernel
theorem dJ0_charAt_5068e_4 : decode cJ0_charAt_5068e 4 = .ok (.ifCond .eq 12, 3) := by decide +kernel
theorem dJ0_charAt_5068e_7 : decode cJ0_charAt_5068e 7 = .ok (.aload_n 0, 1) := by decide +kernel
theorem dJ0_charAt_5068e_8 : decode cJ0_charAt_5068e 8 = .ok (.getfield 9, 3) := by decide +kernel
theorem dJ0_charAt_5068e_11 : decode cJ0_charAt_5068e 11 = .ok (.iload_n 1, 1) := by decide +kernel
theorem dJ0_charAt_5068e_12 : decode cJ0_charAt_5068e 12 = .ok (.invokestatic 495, 3) := by decide +kernel
theorem dJ0_charAt_5068e_15 : decode cJ0_charAt_5068e 15 = .ok (.ireturn, 1) := by decide +kernel
theorem dJ0_charAt_5068e_16 : decode cJ0_charAt_5068e 16 = .ok (.aload_n 0, 1) := by decide +kernel
theorem dJ0_charAt_5068e_17 : decode cJ0_charAt_5068e 17 = .ok (.getfield 9, 3) := by decide +kernel
theorem dJ0_charAt_5068e_20 : decode cJ0_charAt_5068e 20 = .ok (.iload_n 1, 1) := by decide +kernel
theorem dJ0_charAt_5068e_21 : decode cJ0_charAt_5068e 21 = .ok (.invokestatic 498, 3) := by decide +kernel
theorem dJ0_charAt_5068e_24 : decode cJ0_charAt_5068e 24 = .ok (.ireturn, 1) := by decide +kernel
theorem dJ0_coder_7d493_0 : decode cJ0_coder_7d493 0 = .ok (.getstatic 38, 3) := by decide +kernel
theorem dJ0_coder_7d493_3 : decode cJ0_coder_7d493 3 = .ok (.ifCond .eq 10, 3) := by decide +kernel
theorem dJ0_coder_7d493_6 : decode cJ0_coder_7d493 6 = .ok (.aload_n 0, 1) := by decide +kernel
theorem dJ0_coder_7d493_7 : decode cJ0_coder_7d493 7 = .ok (.getfield 15, 3) := by decide +kernel
theorem dJ0_coder_7d493_10 : decode cJ0_coder_7d493 10 = .ok (.goto 4, 3) := by decide +kernel
theorem dJ0_coder_7d493_13 : decode cJ0_coder_7d493 13 = .ok (.iconst 1, 1) := by decide +kernel
theorem dJ0_coder_7d493_14 : decode cJ0_coder_7d493 14 = .ok (.ireturn, 1) := by decide +kernel
theorem dJ0_isLatin1_aae02_0 : decode cJ0_isLatin1_aae02 0 = .ok (.getstatic 38, 3) := by decide +kernel
theorem dJ0_isLatin1_aae02_3 : decode cJ0_isLatin1_aae02 3 = .ok (.ifCond .eq 14, 3) := by decide +kernel
theorem dJ0_isLatin1_aae02_6 : decode cJ0_isLatin1_aae02 6 = .ok (.aload_n 0, 1) := by decide +kernel
theorem dJ0_isLatin1_aae02_7 : decode cJ0_isLatin1_aae02 7 = .ok (.getfield 15, 3) := by decide +kernel
theorem dJ0_isLatin1_aae02_10 : decode cJ0_isLatin1_aae02 10 = .ok (.ifCond .ne 7, 3) := by decide +kernel
theorem dJ0_isLatin1_aae02_13 : decode cJ0_isLatin1_aae02 13 = .ok (.iconst 1, 1) := by decide +kernel
theorem dJ0_isLatin1_aae02_14 : decode cJ0_isLatin1_aae02 14 = .ok (.goto 4, 3) := by decide +kernel
theorem dJ0_isLatin1_aae02_17 : decode cJ0_isLatin1_aae02 17 = .ok (.iconst 0, 1) := by decide +kernel
theorem dJ0_isLatin1_aae02_18 : decode cJ0_isLatin1_aae02 18 = .ok (.ireturn, 1) := by decide +kernel
theorem dJ0_checkIndex_df160_0 : decode cJ0_checkIndex_df160 0 = .ok (.iload_n 0, 1) := by decide +kernel
theorem dJ0_checkIndex_df160_1 : decode cJ0_checkIndex_df160 1 = .ok (.iload_n 1, 1) := by decide +kernel
theorem dJ0_checkIndex_df160_2 : decode cJ0_checkIndex_df160 2 = .ok (.getstatic 1053, 3) := by decide +kernel
theorem dJ0_checkIndex_df160_5 : decode cJ0_checkIndex_df160 5 = .ok (.invokestatic 1059, 3) := by decide +kernel
theorem dJ0_checkIndex_df160_8 : decode cJ0_checkIndex_df160 8 = .ok (.pop, 1) := by decide +kernel
theorem dJ0_checkIndex_df160_9 : decode cJ0_checkIndex_df160 9 = .ok (.return_, 1) := by decide +kernel
theorem dJ1_charAt_3b067_0 : decode cJ1_charAt_3b067 0 = .ok (.iload_n 1, 1) := by decide +kernel
theorem dJ1_charAt_3b067_1 : decode cJ1_charAt_3b067 1 = .ok (.aload_n 0, 1) := by decide +kernel
theorem dJ1_charAt_3b067_2 : decode cJ1_charAt_3b067 2 = .ok (.arraylength, 1) := by decide +kernel
theorem dJ1_charAt_3b067_3 : decode cJ1_charAt_3b067 3 = .ok (.invokestatic 9, 3) := by decide +kernel
theorem dJ1_charAt_3b067_6 : decode cJ1_charAt_3b067 6 = .ok (.aload_n 0, 1) := by decide +kernel
theorem dJ1_charAt_3b067_7 : decode cJ1_charAt_3b067 7 = .ok (.iload_n 1, 1) := by decide +kernel
theorem dJ1_charAt_3b067_8 : decode cJ1_charAt_3b067 8 = .ok (.baload, 1) := by decide +kernel
theorem dJ1_charAt_3b067_9 : decode cJ1_charAt_3b067 9 = .ok (.sipush 255, 3) := by decide +kernel
theorem dJ1_charAt_3b067_12 : decode cJ1_charAt_3b067 12 = .ok (.iand, 1) := by decide +kernel
theorem dJ1_charAt_3b067_13 : decode cJ1_charAt_3b067 13 = .ok (.i2c, 1) := by decide +kernel
theorem dJ1_charAt_3b067_14 : decode cJ1_charAt_3b067 14 = .ok (.ireturn, 1) := by decide +kernel
theorem dJ3_checkIndex_8e157_0 : decode cJ3_checkIndex_8e157 0 = .ok (.iload_n 0, 1) := by decide +kernel
theorem dJ3_checkIndex_8e157_1 : decode cJ3_checkIndex_8e157 1 = .ok (.ifCond .lt 8, 3) := by decide +kernel
theorem dJ3_checkIndex_8e157_4 : decode cJ3_checkIndex_8e157 4 = .ok (.iload_n 0, 1) := by decide +kernel
theorem dJ3_checkIndex_8e157_5 : decode cJ3_checkIndex_8e157 5 = .ok (.iload_n 1, 1) := by decide +kernel
theorem dJ3_checkIndex_8e157_6 : decode cJ3_checkIndex_8e157 6 = .ok (.if_icmp .lt 10, 3) := by decide +kernel
theorem dJ3_checkIndex_8e157_9 : decode cJ3_checkIndex_8e157 9 = .ok (.aload_n 2, 1) := by decide +kernel
theorem dJ3_checkIndex_8e157_10 : decode cJ3_checkIndex_8e157 10 = .ok (.iload_n 0, 1) := by decide +kernel
theorem dJ3_checkIndex_8e157_11 : decode cJ3_checkIndex_8e157 11 = .ok (.iload_n 1, 1) := by decide +kernel
theorem dJ3_checkIndex_8e157_12 : decode cJ3_checkIndex_8e157 12 = .ok (.invokestatic 95, 3) := by decide +kernel
theorem dJ3_checkIndex_8e157_15 : decode cJ3_checkIndex_8e157 15 = .ok (.athrow, 1) := by decide +kernel
theorem dJ3_checkIndex_8e157_16 : decode cJ3_checkIndex_8e157 16 = .ok (.iload_n 0, 1) := by decide +kernel
theorem dJ3_checkIndex_8e157_17 : decode cJ3_checkIndex_8e157 17 = .ok (.ireturn, 1) := by decide +kernel
