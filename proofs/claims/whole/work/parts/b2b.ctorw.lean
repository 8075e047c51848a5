section JKW
theorem cwX0_init : jm_cw iX0_init 2 := ⟨jm_tw (n := 291) (by decide +kernel) rfl, jm_tw (n := 8) (by decide +kernel) rfl, ⟨by decide +kernel, by decide +kernel, by decide +kernel⟩, by decide⟩
theorem viX0_init : Cond.instanceMethod iX0_init.1 ∈ jm_T := jm_tw (n := 290) (by decide +kernel) rfl
theorem cwX1_init : jm_cw iX1_init 0 := ⟨jm_tw (n := 237) (by decide +kernel) rfl, jm_tw (n := 7) (by decide +kernel) rfl, ⟨by decide +kernel, by decide +kernel, by decide +kernel⟩, by decide⟩
theorem viX1_init : Cond.instanceMethod iX1_init.1 ∈ jm_T := jm_tw (n := 236) (by decide +kernel) rfl
theorem cwX2_init : jm_cw iX2_init 1 := ⟨jm_tw (n := 313) (by decide +kernel) rfl, jm_tw (n := 9) (by decide +kernel) rfl, ⟨by decide +kernel, by decide +kernel, by decide +kernel⟩, by decide⟩
theorem viX2_init : Cond.instanceMethod iX2_init.1 ∈ jm_T := jm_tw (n := 312) (by decide +kernel) rfl
theorem cwX3_init : jm_cw iX3_init 0 := ⟨jm_tw (n := 99) (by decide +kernel) rfl, jm_tw (n := 5) (by decide +kernel) rfl, ⟨by decide +kernel, by decide +kernel, by decide +kernel⟩, by decide⟩
theorem viX3_init : Cond.instanceMethod iX3_init.1 ∈ jm_T := jm_tw (n := 98) (by decide +kernel) rfl
theorem cwX4_init : jm_cw iX4_init 2 := ⟨jm_tw (n := 386) (by decide +kernel) rfl, jm_tw (n := 12) (by decide +kernel) rfl, ⟨by decide +kernel, by decide +kernel, by decide +kernel⟩, by decide⟩
theorem viX4_init : Cond.instanceMethod iX4_init.1 ∈ jm_T := jm_tw (n := 385) (by decide +kernel) rfl
theorem cwX5_init : jm_cw iX5_init 0 := ⟨jm_tw (n := 78) (by decide +kernel) rfl, jm_tw (n := 4) (by decide +kernel) rfl, ⟨by decide +kernel, by decide +kernel, by decide +kernel⟩, by decide⟩
theorem viX5_init : Cond.instanceMethod iX5_init.1 ∈ jm_T := jm_tw (n := 77) (by decide +kernel) rfl
theorem cwX6_init : jm_cw iX6_init 0 := ⟨jm_tw (n := 131) (by decide +kernel) rfl, jm_tw (n := 6) (by decide +kernel) rfl, ⟨by decide +kernel, by decide +kernel, by decide +kernel⟩, by decide⟩
theorem viX6_init : Cond.instanceMethod iX6_init.1 ∈ jm_T := jm_tw (n := 130) (by decide +kernel) rfl
theorem cwX7_init : jm_cw iX7_init 0 := ⟨jm_tw (n := 34) (by decide +kernel) rfl, jm_tw (n := 2) (by decide +kernel) rfl, ⟨by decide +kernel, by decide +kernel, by decide +kernel⟩, by decide⟩
theorem viX7_init : Cond.instanceMethod iX7_init.1 ∈ jm_T := jm_tw (n := 33) (by decide +kernel) rfl
theorem cwX8_init : jm_cw iX8_init 0 := ⟨jm_tw (n := 72) (by decide +kernel) rfl, jm_tw (n := 3) (by decide +kernel) rfl, ⟨by decide +kernel, by decide +kernel, by decide +kernel⟩, by decide⟩
theorem viX8_init : Cond.instanceMethod iX8_init.1 ∈ jm_T := jm_tw (n := 71) (by decide +kernel) rfl
theorem cwX9_init : jm_cw iX9_init 1 := ⟨jm_tw (n := 352) (by decide +kernel) rfl, jm_tw (n := 11) (by decide +kernel) rfl, ⟨by decide +kernel, by decide +kernel, by decide +kernel⟩, by decide⟩
theorem viX9_init : Cond.instanceMethod iX9_init.1 ∈ jm_T := jm_tw (n := 351) (by decide +kernel) rfl
theorem cwX10_init : jm_cw iX10_init 1 := ⟨jm_tw (n := 329) (by decide +kernel) rfl, jm_tw (n := 10) (by decide +kernel) rfl, ⟨by decide +kernel, by decide +kernel, by decide +kernel⟩, by decide⟩
theorem viX10_init : Cond.instanceMethod iX10_init.1 ∈ jm_T := jm_tw (n := 328) (by decide +kernel) rfl
theorem cwX11_init : jm_cw iX11_init 0 := ⟨jm_tw (n := 26) (by decide +kernel) rfl, jm_tw (n := 1) (by decide +kernel) rfl, ⟨by decide +kernel, by decide +kernel, by decide +kernel⟩, by decide⟩
theorem viX11_init : Cond.instanceMethod iX11_init.1 ∈ jm_T := jm_tw (n := 25) (by decide +kernel) rfl
theorem viX12_init : Cond.instanceMethod iX12_init.1 ∈ jm_T := jm_tw (n := 1241) (by decide +kernel) rfl
theorem oiX0_3 : Cond.methodLink RX0 3 Lib.objectInit ∈ jm_T := jm_tw (n := 292) (by decide +kernel) rfl
theorem fkX0_11 : jm_fl RX0 11 0 2 := ⟨(RX0, TX0, 3), rfl, by decide, uX0, jm_tw (n := 301) (by decide +kernel) rfl⟩
theorem fkX0_15 : jm_fl RX0 15 0 0 := ⟨(RX0, TX0, 3), rfl, by decide, uX0, jm_tw (n := 294) (by decide +kernel) rfl⟩
theorem fkX0_19 : jm_fl RX0 19 0 1 := ⟨(RX0, TX0, 3), rfl, by decide, uX0, jm_tw (n := 297) (by decide +kernel) rfl⟩
theorem oiX1_3 : Cond.methodLink RX1 3 Lib.objectInit ∈ jm_T := jm_tw (n := 238) (by decide +kernel) rfl
theorem fkX1_9 : jm_fl RX1 9 1 0 := ⟨(RX1, TX1, 10), rfl, by decide, uX1, jm_tw (n := 239) (by decide +kernel) rfl⟩
theorem fkX1_15 : jm_fl RX1 15 1 1 := ⟨(RX1, TX1, 10), rfl, by decide, uX1, jm_tw (n := 241) (by decide +kernel) rfl⟩
theorem fkX1_18 : jm_fl RX1 18 1 2 := ⟨(RX1, TX1, 10), rfl, by decide, uX1, jm_tw (n := 245) (by decide +kernel) rfl⟩
theorem fkX1_22 : jm_fl RX1 22 1 3 := ⟨(RX1, TX1, 10), rfl, by decide, uX1, jm_tw (n := 249) (by decide +kernel) rfl⟩
theorem fkX1_25 : jm_fl RX1 25 1 4 := ⟨(RX1, TX1, 10), rfl, by decide, uX1, jm_tw (n := 253) (by decide +kernel) rfl⟩
theorem fkX1_28 : jm_fl RX1 28 1 5 := ⟨(RX1, TX1, 10), rfl, by decide, uX1, jm_tw (n := 256) (by decide +kernel) rfl⟩
theorem fkX1_31 : jm_fl RX1 31 1 6 := ⟨(RX1, TX1, 10), rfl, by decide, uX1, jm_tw (n := 257) (by decide +kernel) rfl⟩
theorem fkX1_34 : jm_fl RX1 34 1 7 := ⟨(RX1, TX1, 10), rfl, by decide, uX1, jm_tw (n := 260) (by decide +kernel) rfl⟩
theorem fkX1_37 : jm_fl RX1 37 1 8 := ⟨(RX1, TX1, 10), rfl, by decide, uX1, jm_tw (n := 262) (by decide +kernel) rfl⟩
theorem fkX1_40 : jm_fl RX1 40 1 9 := ⟨(RX1, TX1, 10), rfl, by decide, uX1, jm_tw (n := 264) (by decide +kernel) rfl⟩
theorem oiX2_3 : Cond.methodLink RX2 3 Lib.objectInit ∈ jm_T := jm_tw (n := 314) (by decide +kernel) rfl
theorem fkX2_9 : jm_fl RX2 9 2 0 := ⟨(RX2, TX2, 3), rfl, by decide, uX2, jm_tw (n := 315) (by decide +kernel) rfl⟩
theorem fkX2_15 : jm_fl RX2 15 0 0 := ⟨(RX0, TX0, 3), rfl, by decide, uX0, jm_tw (n := 293) (by decide +kernel) rfl⟩
theorem fkX2_21 : jm_fl RX2 21 2 1 := ⟨(RX2, TX2, 3), rfl, by decide, uX2, jm_tw (n := 316) (by decide +kernel) rfl⟩
theorem fkX2_22 : jm_fl RX2 22 0 1 := ⟨(RX0, TX0, 3), rfl, by decide, uX0, jm_tw (n := 298) (by decide +kernel) rfl⟩
theorem fkX2_26 : jm_fl RX2 26 2 2 := ⟨(RX2, TX2, 3), rfl, by decide, uX2, jm_tw (n := 317) (by decide +kernel) rfl⟩
theorem oiX3_3 : Cond.methodLink RX3 3 Lib.objectInit ∈ jm_T := jm_tw (n := 100) (by decide +kernel) rfl
theorem fkX3_9 : jm_fl RX3 9 3 0 := ⟨(RX3, TX3, 8), rfl, by decide, uX3, jm_tw (n := 101) (by decide +kernel) rfl⟩
theorem fkX3_15 : jm_fl RX3 15 3 1 := ⟨(RX3, TX3, 8), rfl, by decide, uX3, jm_tw (n := 103) (by decide +kernel) rfl⟩
theorem fkX3_18 : jm_fl RX3 18 3 2 := ⟨(RX3, TX3, 8), rfl, by decide, uX3, jm_tw (n := 104) (by decide +kernel) rfl⟩
theorem fkX3_22 : jm_fl RX3 22 3 3 := ⟨(RX3, TX3, 8), rfl, by decide, uX3, jm_tw (n := 105) (by decide +kernel) rfl⟩
theorem fkX3_25 : jm_fl RX3 25 3 4 := ⟨(RX3, TX3, 8), rfl, by decide, uX3, jm_tw (n := 106) (by decide +kernel) rfl⟩
theorem fkX3_28 : jm_fl RX3 28 3 5 := ⟨(RX3, TX3, 8), rfl, by decide, uX3, jm_tw (n := 107) (by decide +kernel) rfl⟩
theorem fkX3_31 : jm_fl RX3 31 3 6 := ⟨(RX3, TX3, 8), rfl, by decide, uX3, jm_tw (n := 108) (by decide +kernel) rfl⟩
theorem fkX3_34 : jm_fl RX3 34 3 7 := ⟨(RX3, TX3, 8), rfl, by decide, uX3, jm_tw (n := 109) (by decide +kernel) rfl⟩
theorem oiX4_11 : Cond.methodLink RX4 11 Lib.objectInit ∈ jm_T := jm_tw (n := 387) (by decide +kernel) rfl
theorem fkX4_17 : jm_fl RX4 17 4 0 := ⟨(RX4, TX4, 2), rfl, by decide, uX4, jm_tw (n := 388) (by decide +kernel) rfl⟩
theorem fkX4_21 : jm_fl RX4 21 4 1 := ⟨(RX4, TX4, 2), rfl, by decide, uX4, jm_tw (n := 389) (by decide +kernel) rfl⟩
theorem oiX5_5 : Cond.methodLink RX5 5 Lib.objectInit ∈ jm_T := jm_tw (n := 79) (by decide +kernel) rfl
theorem fkX5_11 : jm_fl RX5 11 5 0 := ⟨(RX5, TX5, 3), rfl, by decide, uX5, jm_tw (n := 80) (by decide +kernel) rfl⟩
theorem fkX5_17 : jm_fl RX5 17 5 1 := ⟨(RX5, TX5, 3), rfl, by decide, uX5, jm_tw (n := 82) (by decide +kernel) rfl⟩
theorem fkX5_21 : jm_fl RX5 21 5 2 := ⟨(RX5, TX5, 3), rfl, by decide, uX5, jm_tw (n := 87) (by decide +kernel) rfl⟩
theorem oiX6_5 : Cond.methodLink RX6 5 Lib.objectInit ∈ jm_T := jm_tw (n := 132) (by decide +kernel) rfl
theorem fkX6_11 : jm_fl RX6 11 6 0 := ⟨(RX6, TX6, 8), rfl, by decide, uX6, jm_tw (n := 133) (by decide +kernel) rfl⟩
theorem fkX6_17 : jm_fl RX6 17 6 1 := ⟨(RX6, TX6, 8), rfl, by decide, uX6, jm_tw (n := 136) (by decide +kernel) rfl⟩
theorem fkX6_21 : jm_fl RX6 21 6 2 := ⟨(RX6, TX6, 8), rfl, by decide, uX6, jm_tw (n := 138) (by decide +kernel) rfl⟩
theorem fkX6_24 : jm_fl RX6 24 6 3 := ⟨(RX6, TX6, 8), rfl, by decide, uX6, jm_tw (n := 140) (by decide +kernel) rfl⟩
theorem fkX6_27 : jm_fl RX6 27 6 4 := ⟨(RX6, TX6, 8), rfl, by decide, uX6, jm_tw (n := 142) (by decide +kernel) rfl⟩
theorem fkX6_30 : jm_fl RX6 30 6 5 := ⟨(RX6, TX6, 8), rfl, by decide, uX6, jm_tw (n := 144) (by decide +kernel) rfl⟩
theorem fkX6_33 : jm_fl RX6 33 6 6 := ⟨(RX6, TX6, 8), rfl, by decide, uX6, jm_tw (n := 145) (by decide +kernel) rfl⟩
theorem fkX6_36 : jm_fl RX6 36 6 7 := ⟨(RX6, TX6, 8), rfl, by decide, uX6, jm_tw (n := 146) (by decide +kernel) rfl⟩
theorem oiX7_3 : Cond.methodLink RX7 3 Lib.objectInit ∈ jm_T := jm_tw (n := 35) (by decide +kernel) rfl
theorem fkX7_11 : jm_fl RX7 11 7 0 := ⟨(RX7, TX7, 9), rfl, by decide, uX7, jm_tw (n := 36) (by decide +kernel) rfl⟩
theorem fkX7_15 : jm_fl RX7 15 7 1 := ⟨(RX7, TX7, 9), rfl, by decide, uX7, jm_tw (n := 37) (by decide +kernel) rfl⟩
theorem fkX7_19 : jm_fl RX7 19 7 2 := ⟨(RX7, TX7, 9), rfl, by decide, uX7, jm_tw (n := 39) (by decide +kernel) rfl⟩
theorem fkX7_22 : jm_fl RX7 22 7 3 := ⟨(RX7, TX7, 9), rfl, by decide, uX7, jm_tw (n := 41) (by decide +kernel) rfl⟩
theorem fkX7_25 : jm_fl RX7 25 7 4 := ⟨(RX7, TX7, 9), rfl, by decide, uX7, jm_tw (n := 43) (by decide +kernel) rfl⟩
theorem fkX7_28 : jm_fl RX7 28 7 5 := ⟨(RX7, TX7, 9), rfl, by decide, uX7, jm_tw (n := 44) (by decide +kernel) rfl⟩
theorem fkX7_31 : jm_fl RX7 31 7 6 := ⟨(RX7, TX7, 9), rfl, by decide, uX7, jm_tw (n := 45) (by decide +kernel) rfl⟩
theorem fkX7_34 : jm_fl RX7 34 7 7 := ⟨(RX7, TX7, 9), rfl, by decide, uX7, jm_tw (n := 46) (by decide +kernel) rfl⟩
theorem fkX7_37 : jm_fl RX7 37 7 8 := ⟨(RX7, TX7, 9), rfl, by decide, uX7, jm_tw (n := 47) (by decide +kernel) rfl⟩
theorem oiX8_3 : Cond.methodLink RX8 3 Lib.objectInit ∈ jm_T := jm_tw (n := 73) (by decide +kernel) rfl
theorem fkX8_9 : jm_fl RX8 9 8 0 := ⟨(RX8, TX8, 13), rfl, by decide, uX8, jm_tw (n := 164) (by decide +kernel) rfl⟩
theorem fkX8_15 : jm_fl RX8 15 8 1 := ⟨(RX8, TX8, 13), rfl, by decide, uX8, jm_tw (n := 168) (by decide +kernel) rfl⟩
theorem fkX8_19 : jm_fl RX8 19 8 2 := ⟨(RX8, TX8, 13), rfl, by decide, uX8, jm_tw (n := 172) (by decide +kernel) rfl⟩
theorem fkX8_22 : jm_fl RX8 22 8 3 := ⟨(RX8, TX8, 13), rfl, by decide, uX8, jm_tw (n := 176) (by decide +kernel) rfl⟩
theorem fkX8_25 : jm_fl RX8 25 8 4 := ⟨(RX8, TX8, 13), rfl, by decide, uX8, jm_tw (n := 180) (by decide +kernel) rfl⟩
theorem fkX8_28 : jm_fl RX8 28 8 5 := ⟨(RX8, TX8, 13), rfl, by decide, uX8, jm_tw (n := 182) (by decide +kernel) rfl⟩
theorem fkX8_31 : jm_fl RX8 31 8 6 := ⟨(RX8, TX8, 13), rfl, by decide, uX8, jm_tw (n := 184) (by decide +kernel) rfl⟩
theorem fkX8_34 : jm_fl RX8 34 8 7 := ⟨(RX8, TX8, 13), rfl, by decide, uX8, jm_tw (n := 187) (by decide +kernel) rfl⟩
theorem fkX8_37 : jm_fl RX8 37 8 8 := ⟨(RX8, TX8, 13), rfl, by decide, uX8, jm_tw (n := 190) (by decide +kernel) rfl⟩
theorem fkX8_40 : jm_fl RX8 40 8 9 := ⟨(RX8, TX8, 13), rfl, by decide, uX8, jm_tw (n := 193) (by decide +kernel) rfl⟩
theorem clX8_43 : Cond.classLink RX8 43 RX5 ∈ jm_T := jm_tw (n := 74) (by decide +kernel) rfl
theorem miX8_45 : jm_mi RX8 45 iX5_init 0 := ⟨cwX5_init, Or.inr ⟨"SungEvidence", by unfold jc_NK; simp [iX5_init]⟩, viX5_init, rfl, rfl⟩
theorem fkX8_46 : jm_fl RX8 46 8 10 := ⟨(RX8, TX8, 13), rfl, by decide, uX8, jm_tw (n := 196) (by decide +kernel) rfl⟩
end JKW
