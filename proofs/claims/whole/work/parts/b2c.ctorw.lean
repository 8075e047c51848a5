section JKW
theorem clX8_50 : Cond.classLink RX8 50 RX3 ∈ jm_T := jm_tw (n := 95) (by decide +kernel) rfl
theorem miX8_52 : jm_mi RX8 52 iX3_init 0 := ⟨cwX3_init, Or.inr ⟨"SungEvidence", by unfold jc_NK; simp [iX3_init]⟩, viX3_init, rfl, rfl⟩
theorem fkX8_53 : jm_fl RX8 53 8 11 := ⟨(RX8, TX8, 13), rfl, by decide, uX8, jm_tw (n := 201) (by decide +kernel) rfl⟩
theorem clX8_57 : Cond.classLink RX8 57 RX6 ∈ jm_T := jm_tw (n := 127) (by decide +kernel) rfl
theorem miX8_59 : jm_mi RX8 59 iX6_init 0 := ⟨cwX6_init, Or.inr ⟨"SungEvidence", by unfold jc_NK; simp [iX6_init]⟩, viX6_init, rfl, rfl⟩
theorem fkX8_60 : jm_fl RX8 60 8 12 := ⟨(RX8, TX8, 13), rfl, by decide, uX8, jm_tw (n := 204) (by decide +kernel) rfl⟩
theorem oiX9_3 : Cond.methodLink RX9 3 Lib.objectInit ∈ jm_T := jm_tw (n := 353) (by decide +kernel) rfl
theorem fkX9_9 : jm_fl RX9 9 9 3 := ⟨(RX9, TX9, 7), rfl, by decide, uX9, jm_tw (n := 357) (by decide +kernel) rfl⟩
theorem fkX9_15 : jm_fl RX9 15 9 4 := ⟨(RX9, TX9, 7), rfl, by decide, uX9, jm_tw (n := 358) (by decide +kernel) rfl⟩
theorem fkX9_18 : jm_fl RX9 18 9 5 := ⟨(RX9, TX9, 7), rfl, by decide, uX9, jm_tw (n := 359) (by decide +kernel) rfl⟩
theorem fkX9_21 : jm_fl RX9 21 9 6 := ⟨(RX9, TX9, 7), rfl, by decide, uX9, jm_tw (n := 360) (by decide +kernel) rfl⟩
theorem fkX9_24 : jm_fl RX9 24 9 0 := ⟨(RX9, TX9, 7), rfl, by decide, uX9, jm_tw (n := 354) (by decide +kernel) rfl⟩
theorem fkX9_28 : jm_fl RX9 28 0 0 := ⟨(RX0, TX0, 3), rfl, by decide, uX0, jm_tw (n := 296) (by decide +kernel) rfl⟩
theorem fkX9_34 : jm_fl RX9 34 9 1 := ⟨(RX9, TX9, 7), rfl, by decide, uX9, jm_tw (n := 355) (by decide +kernel) rfl⟩
theorem fkX9_35 : jm_fl RX9 35 0 1 := ⟨(RX0, TX0, 3), rfl, by decide, uX0, jm_tw (n := 300) (by decide +kernel) rfl⟩
theorem fkX9_39 : jm_fl RX9 39 9 2 := ⟨(RX9, TX9, 7), rfl, by decide, uX9, jm_tw (n := 356) (by decide +kernel) rfl⟩
theorem oiX10_3 : Cond.methodLink RX10 3 Lib.objectInit ∈ jm_T := jm_tw (n := 330) (by decide +kernel) rfl
theorem fkX10_9 : jm_fl RX10 9 10 3 := ⟨(RX10, TX10, 5), rfl, by decide, uX10, jm_tw (n := 334) (by decide +kernel) rfl⟩
theorem fkX10_15 : jm_fl RX10 15 10 4 := ⟨(RX10, TX10, 5), rfl, by decide, uX10, jm_tw (n := 335) (by decide +kernel) rfl⟩
theorem fkX10_19 : jm_fl RX10 19 10 0 := ⟨(RX10, TX10, 5), rfl, by decide, uX10, jm_tw (n := 331) (by decide +kernel) rfl⟩
theorem fkX10_23 : jm_fl RX10 23 0 0 := ⟨(RX0, TX0, 3), rfl, by decide, uX0, jm_tw (n := 295) (by decide +kernel) rfl⟩
theorem fkX10_29 : jm_fl RX10 29 10 1 := ⟨(RX10, TX10, 5), rfl, by decide, uX10, jm_tw (n := 332) (by decide +kernel) rfl⟩
theorem fkX10_30 : jm_fl RX10 30 0 1 := ⟨(RX0, TX0, 3), rfl, by decide, uX0, jm_tw (n := 299) (by decide +kernel) rfl⟩
theorem fkX10_34 : jm_fl RX10 34 10 2 := ⟨(RX10, TX10, 5), rfl, by decide, uX10, jm_tw (n := 333) (by decide +kernel) rfl⟩
theorem oiX11_3 : Cond.methodLink RX11 3 Lib.objectInit ∈ jm_T := jm_tw (n := 27) (by decide +kernel) rfl
theorem clX11_9 : Cond.classLink RX11 9 RX7 ∈ jm_T := jm_tw (n := 30) (by decide +kernel) rfl
theorem miX11_11 : jm_mi RX11 11 iX7_init 0 := ⟨cwX7_init, Or.inr ⟨"SungEvidence", by unfold jc_NK; simp [iX7_init]⟩, viX7_init, rfl, rfl⟩
theorem fkX11_12 : jm_fl RX11 12 11 0 := ⟨(RX11, TX11, 17), rfl, by decide, uX11, jm_tw (n := 396) (by decide +kernel) rfl⟩
theorem clX11_16 : Cond.classLink RX11 16 RX8 ∈ jm_T := jm_tw (n := 68) (by decide +kernel) rfl
theorem miX11_18 : jm_mi RX11 18 iX8_init 0 := ⟨cwX8_init, Or.inr ⟨"SungEvidence", by unfold jc_NK; simp [iX8_init]⟩, viX8_init, rfl, rfl⟩
theorem fkX11_19 : jm_fl RX11 19 11 1 := ⟨(RX11, TX11, 17), rfl, by decide, uX11, jm_tw (n := 397) (by decide +kernel) rfl⟩
theorem clX11_23 : Cond.classLink RX11 23 RX1 ∈ jm_T := jm_tw (n := 233) (by decide +kernel) rfl
theorem miX11_25 : jm_mi RX11 25 iX1_init 0 := ⟨cwX1_init, Or.inr ⟨"SungEvidence", by unfold jc_NK; simp [iX1_init]⟩, viX1_init, rfl, rfl⟩
theorem fkX11_26 : jm_fl RX11 26 11 2 := ⟨(RX11, TX11, 17), rfl, by decide, uX11, jm_tw (n := 398) (by decide +kernel) rfl⟩
theorem clX11_30 : Cond.classLink RX11 30 RX0 ∈ jm_T := jm_tw (n := 287) (by decide +kernel) rfl
theorem miX11_32 : jm_mi RX11 32 iX0_init 2 := ⟨cwX0_init, Or.inl (jm_tw (n := 289) (by decide +kernel) rfl), viX0_init, rfl, rfl⟩
theorem fkX11_35 : jm_fl RX11 35 11 3 := ⟨(RX11, TX11, 17), rfl, by decide, uX11, jm_tw (n := 399) (by decide +kernel) rfl⟩
theorem clX11_39 : Cond.classLink RX11 39 RX2 ∈ jm_T := jm_tw (n := 309) (by decide +kernel) rfl
theorem miX11_41 : jm_mi RX11 41 iX2_init 1 := ⟨cwX2_init, Or.inl (jm_tw (n := 311) (by decide +kernel) rfl), viX2_init, rfl, rfl⟩
theorem fkX11_44 : jm_fl RX11 44 11 4 := ⟨(RX11, TX11, 17), rfl, by decide, uX11, jm_tw (n := 400) (by decide +kernel) rfl⟩
theorem clX11_48 : Cond.classLink RX11 48 RX10 ∈ jm_T := jm_tw (n := 325) (by decide +kernel) rfl
theorem miX11_50 : jm_mi RX11 50 iX10_init 1 := ⟨cwX10_init, Or.inl (jm_tw (n := 327) (by decide +kernel) rfl), viX10_init, rfl, rfl⟩
theorem fkX11_51 : jm_fl RX11 51 11 5 := ⟨(RX11, TX11, 17), rfl, by decide, uX11, jm_tw (n := 401) (by decide +kernel) rfl⟩
theorem clX11_55 : Cond.classLink RX11 55 RX9 ∈ jm_T := jm_tw (n := 348) (by decide +kernel) rfl
theorem miX11_57 : jm_mi RX11 57 iX9_init 1 := ⟨cwX9_init, Or.inl (jm_tw (n := 350) (by decide +kernel) rfl), viX9_init, rfl, rfl⟩
theorem fkX11_58 : jm_fl RX11 58 11 6 := ⟨(RX11, TX11, 17), rfl, by decide, uX11, jm_tw (n := 402) (by decide +kernel) rfl⟩
theorem clX11_62 : Cond.classLink RX11 62 RX5 ∈ jm_T := jm_tw (n := 376) (by decide +kernel) rfl
theorem miX11_64 : jm_mi RX11 64 iX5_init 0 := ⟨cwX5_init, Or.inr ⟨"SungEvidence", by unfold jc_NK; simp [iX5_init]⟩, viX5_init, rfl, rfl⟩
theorem fkX11_65 : jm_fl RX11 65 11 7 := ⟨(RX11, TX11, 17), rfl, by decide, uX11, jm_tw (n := 403) (by decide +kernel) rfl⟩
theorem clX11_69 : Cond.classLink RX11 69 RX3 ∈ jm_T := jm_tw (n := 378) (by decide +kernel) rfl
theorem miX11_71 : jm_mi RX11 71 iX3_init 0 := ⟨cwX3_init, Or.inr ⟨"SungEvidence", by unfold jc_NK; simp [iX3_init]⟩, viX3_init, rfl, rfl⟩
theorem fkX11_72 : jm_fl RX11 72 11 8 := ⟨(RX11, TX11, 17), rfl, by decide, uX11, jm_tw (n := 404) (by decide +kernel) rfl⟩
theorem clX11_76 : Cond.classLink RX11 76 RX6 ∈ jm_T := jm_tw (n := 380) (by decide +kernel) rfl
theorem miX11_78 : jm_mi RX11 78 iX6_init 0 := ⟨cwX6_init, Or.inr ⟨"SungEvidence", by unfold jc_NK; simp [iX6_init]⟩, viX6_init, rfl, rfl⟩
theorem fkX11_79 : jm_fl RX11 79 11 9 := ⟨(RX11, TX11, 17), rfl, by decide, uX11, jm_tw (n := 405) (by decide +kernel) rfl⟩
theorem clX11_83 : Cond.classLink RX11 83 RX4 ∈ jm_T := jm_tw (n := 382) (by decide +kernel) rfl
theorem miX11_85 : jm_mi RX11 85 iX4_init 2 := ⟨cwX4_init, Or.inl (jm_tw (n := 384) (by decide +kernel) rfl), viX4_init, rfl, rfl⟩
theorem fkX11_88 : jm_fl RX11 88 11 10 := ⟨(RX11, TX11, 17), rfl, by decide, uX11, jm_tw (n := 406) (by decide +kernel) rfl⟩
theorem fkX11_92 : jm_fl RX11 92 11 11 := ⟨(RX11, TX11, 17), rfl, by decide, uX11, jm_tw (n := 407) (by decide +kernel) rfl⟩
theorem fkX11_95 : jm_fl RX11 95 11 12 := ⟨(RX11, TX11, 17), rfl, by decide, uX11, jm_tw (n := 408) (by decide +kernel) rfl⟩
theorem fkX11_98 : jm_fl RX11 98 11 13 := ⟨(RX11, TX11, 17), rfl, by decide, uX11, jm_tw (n := 409) (by decide +kernel) rfl⟩
theorem fkX11_102 : jm_fl RX11 102 11 14 := ⟨(RX11, TX11, 17), rfl, by decide, uX11, jm_tw (n := 410) (by decide +kernel) rfl⟩
theorem fkX11_106 : jm_fl RX11 106 11 15 := ⟨(RX11, TX11, 17), rfl, by decide, uX11, jm_tw (n := 411) (by decide +kernel) rfl⟩
theorem fkX11_110 : jm_fl RX11 110 11 16 := ⟨(RX11, TX11, 17), rfl, by decide, uX11, jm_tw (n := 412) (by decide +kernel) rfl⟩
theorem oiX12_1 : Cond.methodLink RX12 1 Lib.objectInit ∈ jm_T := jm_tw (n := 1243) (by decide +kernel) rfl
theorem fkX12_7 : jm_fl RX12 7 12 1 := ⟨(RX12, TX12, 59), rfl, by decide, uX12, jm_tw (n := 1245) (by decide +kernel) rfl⟩
theorem fkX12_13 : jm_fl RX12 13 12 2 := ⟨(RX12, TX12, 59), rfl, by decide, uX12, jm_tw (n := 1246) (by decide +kernel) rfl⟩
theorem fkX12_16 : jm_fl RX12 16 12 5 := ⟨(RX12, TX12, 59), rfl, by decide, uX12, jm_tw (n := 1249) (by decide +kernel) rfl⟩
theorem fkX12_19 : jm_fl RX12 19 12 6 := ⟨(RX12, TX12, 59), rfl, by decide, uX12, jm_tw (n := 1250) (by decide +kernel) rfl⟩
theorem fkX12_22 : jm_fl RX12 22 12 7 := ⟨(RX12, TX12, 59), rfl, by decide, uX12, jm_tw (n := 1251) (by decide +kernel) rfl⟩
theorem fkX12_25 : jm_fl RX12 25 12 8 := ⟨(RX12, TX12, 59), rfl, by decide, uX12, jm_tw (n := 1252) (by decide +kernel) rfl⟩
theorem fkX12_28 : jm_fl RX12 28 12 12 := ⟨(RX12, TX12, 59), rfl, by decide, uX12, jm_tw (n := 1256) (by decide +kernel) rfl⟩
theorem fkX12_31 : jm_fl RX12 31 12 18 := ⟨(RX12, TX12, 59), rfl, by decide, uX12, jm_tw (n := 1262) (by decide +kernel) rfl⟩
theorem fkX12_34 : jm_fl RX12 34 12 19 := ⟨(RX12, TX12, 59), rfl, by decide, uX12, jm_tw (n := 1263) (by decide +kernel) rfl⟩
theorem fkX12_37 : jm_fl RX12 37 12 20 := ⟨(RX12, TX12, 59), rfl, by decide, uX12, jm_tw (n := 1264) (by decide +kernel) rfl⟩
theorem fkX12_40 : jm_fl RX12 40 12 21 := ⟨(RX12, TX12, 59), rfl, by decide, uX12, jm_tw (n := 1265) (by decide +kernel) rfl⟩
theorem fkX12_43 : jm_fl RX12 43 12 22 := ⟨(RX12, TX12, 59), rfl, by decide, uX12, jm_tw (n := 1266) (by decide +kernel) rfl⟩
theorem fkX12_46 : jm_fl RX12 46 12 23 := ⟨(RX12, TX12, 59), rfl, by decide, uX12, jm_tw (n := 1267) (by decide +kernel) rfl⟩
theorem fkX12_49 : jm_fl RX12 49 12 24 := ⟨(RX12, TX12, 59), rfl, by decide, uX12, jm_tw (n := 1268) (by decide +kernel) rfl⟩
theorem fkX12_52 : jm_fl RX12 52 12 25 := ⟨(RX12, TX12, 59), rfl, by decide, uX12, jm_tw (n := 1269) (by decide +kernel) rfl⟩
theorem fkX12_55 : jm_fl RX12 55 12 29 := ⟨(RX12, TX12, 59), rfl, by decide, uX12, jm_tw (n := 1273) (by decide +kernel) rfl⟩
theorem fkX12_58 : jm_fl RX12 58 12 34 := ⟨(RX12, TX12, 59), rfl, by decide, uX12, jm_tw (n := 1278) (by decide +kernel) rfl⟩
theorem fkX12_62 : jm_fl RX12 62 12 36 := ⟨(RX12, TX12, 59), rfl, by decide, uX12, jm_tw (n := 1280) (by decide +kernel) rfl⟩
theorem fkX12_65 : jm_fl RX12 65 12 37 := ⟨(RX12, TX12, 59), rfl, by decide, uX12, jm_tw (n := 1281) (by decide +kernel) rfl⟩
theorem fkX12_68 : jm_fl RX12 68 12 40 := ⟨(RX12, TX12, 59), rfl, by decide, uX12, jm_tw (n := 1284) (by decide +kernel) rfl⟩
theorem fkX12_71 : jm_fl RX12 71 12 41 := ⟨(RX12, TX12, 59), rfl, by decide, uX12, jm_tw (n := 1285) (by decide +kernel) rfl⟩
theorem fkX12_74 : jm_fl RX12 74 12 42 := ⟨(RX12, TX12, 59), rfl, by decide, uX12, jm_tw (n := 1286) (by decide +kernel) rfl⟩
theorem fkX12_77 : jm_fl RX12 77 12 43 := ⟨(RX12, TX12, 59), rfl, by decide, uX12, jm_tw (n := 1287) (by decide +kernel) rfl⟩
theorem fkX12_80 : jm_fl RX12 80 12 44 := ⟨(RX12, TX12, 59), rfl, by decide, uX12, jm_tw (n := 1288) (by decide +kernel) rfl⟩
theorem fkX12_83 : jm_fl RX12 83 12 45 := ⟨(RX12, TX12, 59), rfl, by decide, uX12, jm_tw (n := 1289) (by decide +kernel) rfl⟩
theorem fkX12_86 : jm_fl RX12 86 12 46 := ⟨(RX12, TX12, 59), rfl, by decide, uX12, jm_tw (n := 1290) (by decide +kernel) rfl⟩
theorem fkX12_89 : jm_fl RX12 89 12 47 := ⟨(RX12, TX12, 59), rfl, by decide, uX12, jm_tw (n := 1291) (by decide +kernel) rfl⟩
theorem fkX12_92 : jm_fl RX12 92 12 51 := ⟨(RX12, TX12, 59), rfl, by decide, uX12, jm_tw (n := 1295) (by decide +kernel) rfl⟩
theorem fkX12_95 : jm_fl RX12 95 12 53 := ⟨(RX12, TX12, 59), rfl, by decide, uX12, jm_tw (n := 1297) (by decide +kernel) rfl⟩
theorem fkX12_98 : jm_fl RX12 98 12 54 := ⟨(RX12, TX12, 59), rfl, by decide, uX12, jm_tw (n := 1298) (by decide +kernel) rfl⟩
theorem fkX12_101 : jm_fl RX12 101 12 58 := ⟨(RX12, TX12, 59), rfl, by decide, uX12, jm_tw (n := 1302) (by decide +kernel) rfl⟩
end JKW
