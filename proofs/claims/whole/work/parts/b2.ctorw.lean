section JKW
theorem oiI : Cond.instanceMethod Lib.objectInit ∈ jm_T := jm_tw (n := 28) (by decide +kernel) rfl
theorem oiC : Cond.code Lib.objectInit ⟨#[0xb1]⟩ 1 none ∈ jm_T := jm_tw (n := 29) (by decide +kernel) rfl
theorem acI : Cond.arrayClass .int ∈ jm_T := jm_tw (n := 67) (by decide +kernel) rfl
theorem acL : Cond.arrayClass .long ∈ jm_T := jm_tw (n := 347) (by decide +kernel) rfl
theorem insX0 : Cond.instantiable RX0 3 ∈ jm_T := jm_tw (n := 288) (by decide +kernel) rfl
theorem iniX0 : Cond.initialized RX0 ∈ jm_T := jm_tw (n := 8) (by decide +kernel) rfl
def dvX0 : List Value := [.null, .null, .null]
theorem dvX0_ok : ∀ j, j < 3 → defaultValue (tyX0 j) = vp_V dvX0 j := fun j hj => by
  have e : j = 0 ∨ j = 1 ∨ j = 2 := by omega
  rcases e with rfl | rfl | rfl <;> rfl
theorem insX1 : Cond.instantiable RX1 10 ∈ jm_T := jm_tw (n := 234) (by decide +kernel) rfl
theorem iniX1 : Cond.initialized RX1 ∈ jm_T := jm_tw (n := 7) (by decide +kernel) rfl
def dvX1 : List Value := [.int 0, .int 0, .null, .null, .int 0, .null, .int 0, .null, .int 0, .null]
theorem dvX1_ok : ∀ j, j < 10 → defaultValue (tyX1 j) = vp_V dvX1 j := fun j hj => by
  have e : j = 0 ∨ j = 1 ∨ j = 2 ∨ j = 3 ∨ j = 4 ∨ j = 5 ∨ j = 6 ∨ j = 7 ∨ j = 8 ∨ j = 9 := by omega
  rcases e with rfl | rfl | rfl | rfl | rfl | rfl | rfl | rfl | rfl | rfl <;> rfl
theorem insX2 : Cond.instantiable RX2 3 ∈ jm_T := jm_tw (n := 310) (by decide +kernel) rfl
theorem iniX2 : Cond.initialized RX2 ∈ jm_T := jm_tw (n := 9) (by decide +kernel) rfl
def dvX2 : List Value := [.null, .null, .null]
theorem dvX2_ok : ∀ j, j < 3 → defaultValue (tyX2 j) = vp_V dvX2 j := fun j hj => by
  have e : j = 0 ∨ j = 1 ∨ j = 2 := by omega
  rcases e with rfl | rfl | rfl <;> rfl
theorem insX3 : Cond.instantiable RX3 8 ∈ jm_T := jm_tw (n := 96) (by decide +kernel) rfl
theorem iniX3 : Cond.initialized RX3 ∈ jm_T := jm_tw (n := 5) (by decide +kernel) rfl
def dvX3 : List Value := [.int 0, .int 0, .null, .null, .null, .null, .null, .null]
theorem dvX3_ok : ∀ j, j < 8 → defaultValue (tyX3 j) = vp_V dvX3 j := fun j hj => by
  have e : j = 0 ∨ j = 1 ∨ j = 2 ∨ j = 3 ∨ j = 4 ∨ j = 5 ∨ j = 6 ∨ j = 7 := by omega
  rcases e with rfl | rfl | rfl | rfl | rfl | rfl | rfl | rfl <;> rfl
theorem insX4 : Cond.instantiable RX4 2 ∈ jm_T := jm_tw (n := 383) (by decide +kernel) rfl
theorem iniX4 : Cond.initialized RX4 ∈ jm_T := jm_tw (n := 12) (by decide +kernel) rfl
def dvX4 : List Value := [.null, .null]
theorem dvX4_ok : ∀ j, j < 2 → defaultValue (tyX4 j) = vp_V dvX4 j := fun j hj => by
  have e : j = 0 ∨ j = 1 := by omega
  rcases e with rfl | rfl <;> rfl
theorem insX5 : Cond.instantiable RX5 3 ∈ jm_T := jm_tw (n := 75) (by decide +kernel) rfl
theorem iniX5 : Cond.initialized RX5 ∈ jm_T := jm_tw (n := 4) (by decide +kernel) rfl
def dvX5 : List Value := [.int 0, .null, .null]
theorem dvX5_ok : ∀ j, j < 3 → defaultValue (tyX5 j) = vp_V dvX5 j := fun j hj => by
  have e : j = 0 ∨ j = 1 ∨ j = 2 := by omega
  rcases e with rfl | rfl | rfl <;> rfl
theorem insX6 : Cond.instantiable RX6 8 ∈ jm_T := jm_tw (n := 128) (by decide +kernel) rfl
theorem iniX6 : Cond.initialized RX6 ∈ jm_T := jm_tw (n := 6) (by decide +kernel) rfl
def dvX6 : List Value := [.int 0, .null, .null, .null, .null, .null, .null, .int 0]
theorem dvX6_ok : ∀ j, j < 8 → defaultValue (tyX6 j) = vp_V dvX6 j := fun j hj => by
  have e : j = 0 ∨ j = 1 ∨ j = 2 ∨ j = 3 ∨ j = 4 ∨ j = 5 ∨ j = 6 ∨ j = 7 := by omega
  rcases e with rfl | rfl | rfl | rfl | rfl | rfl | rfl | rfl <;> rfl
theorem insX7 : Cond.instantiable RX7 9 ∈ jm_T := jm_tw (n := 31) (by decide +kernel) rfl
theorem iniX7 : Cond.initialized RX7 ∈ jm_T := jm_tw (n := 2) (by decide +kernel) rfl
def dvX7 : List Value := [.null, .int 0, .int 0, .int 0, .null, .null, .null, .int 0, .int 0]
theorem dvX7_ok : ∀ j, j < 9 → defaultValue (tyX7 j) = vp_V dvX7 j := fun j hj => by
  have e : j = 0 ∨ j = 1 ∨ j = 2 ∨ j = 3 ∨ j = 4 ∨ j = 5 ∨ j = 6 ∨ j = 7 ∨ j = 8 := by omega
  rcases e with rfl | rfl | rfl | rfl | rfl | rfl | rfl | rfl | rfl <;> rfl
theorem insX8 : Cond.instantiable RX8 13 ∈ jm_T := jm_tw (n := 69) (by decide +kernel) rfl
theorem iniX8 : Cond.initialized RX8 ∈ jm_T := jm_tw (n := 3) (by decide +kernel) rfl
def dvX8 : List Value := [.int 0, .null, .null, .null, .null, .int 0, .int 0, .int 0, .int 0, .null, .null, .null, .null]
theorem dvX8_ok : ∀ j, j < 13 → defaultValue (tyX8 j) = vp_V dvX8 j := fun j hj => by
  have e : j = 0 ∨ j = 1 ∨ j = 2 ∨ j = 3 ∨ j = 4 ∨ j = 5 ∨ j = 6 ∨ j = 7 ∨ j = 8 ∨ j = 9 ∨ j = 10 ∨ j = 11 ∨ j = 12 := by omega
  rcases e with rfl | rfl | rfl | rfl | rfl | rfl | rfl | rfl | rfl | rfl | rfl | rfl | rfl <;> rfl
theorem insX9 : Cond.instantiable RX9 7 ∈ jm_T := jm_tw (n := 349) (by decide +kernel) rfl
theorem iniX9 : Cond.initialized RX9 ∈ jm_T := jm_tw (n := 11) (by decide +kernel) rfl
def dvX9 : List Value := [.null, .null, .null, .null, .null, .null, .null]
theorem dvX9_ok : ∀ j, j < 7 → defaultValue (tyX9 j) = vp_V dvX9 j := fun j hj => by
  have e : j = 0 ∨ j = 1 ∨ j = 2 ∨ j = 3 ∨ j = 4 ∨ j = 5 ∨ j = 6 := by omega
  rcases e with rfl | rfl | rfl | rfl | rfl | rfl | rfl <;> rfl
theorem insX10 : Cond.instantiable RX10 5 ∈ jm_T := jm_tw (n := 326) (by decide +kernel) rfl
theorem iniX10 : Cond.initialized RX10 ∈ jm_T := jm_tw (n := 10) (by decide +kernel) rfl
def dvX10 : List Value := [.null, .null, .null, .null, .null]
theorem dvX10_ok : ∀ j, j < 5 → defaultValue (tyX10 j) = vp_V dvX10 j := fun j hj => by
  have e : j = 0 ∨ j = 1 ∨ j = 2 ∨ j = 3 ∨ j = 4 := by omega
  rcases e with rfl | rfl | rfl | rfl | rfl <;> rfl
theorem insX11 : Cond.instantiable RX11 17 ∈ jm_T := jm_tw (n := 23) (by decide +kernel) rfl
theorem iniX11 : Cond.initialized RX11 ∈ jm_T := jm_tw (n := 1) (by decide +kernel) rfl
def dvX11 : List Value := [.null, .null, .null, .null, .null, .null, .null, .null, .null, .null, .null, .null, .null, .int 0, .null, .int 0, .int 0]
theorem dvX11_ok : ∀ j, j < 17 → defaultValue (tyX11 j) = vp_V dvX11 j := fun j hj => by
  have e : j = 0 ∨ j = 1 ∨ j = 2 ∨ j = 3 ∨ j = 4 ∨ j = 5 ∨ j = 6 ∨ j = 7 ∨ j = 8 ∨ j = 9 ∨ j = 10 ∨ j = 11 ∨ j = 12 ∨ j = 13 ∨ j = 14 ∨ j = 15 ∨ j = 16 := by omega
  rcases e with rfl | rfl | rfl | rfl | rfl | rfl | rfl | rfl | rfl | rfl | rfl | rfl | rfl | rfl | rfl | rfl | rfl <;> rfl
theorem insX12 : Cond.instantiable RX12 59 ∈ jm_T := jm_tw (n := 1239) (by decide +kernel) rfl
theorem iniX12 : Cond.initialized RX12 ∈ jm_T := jm_tw (n := 13) (by decide +kernel) rfl
def dvX12 : List Value := [.int 0, .null, .null, .int 0, .int 0, .null, .null, .null, .null, .int 0, .int 0, .int 0, .null, .int 0, .int 0, .int 0, .int 0, .int 0, .null, .null, .null, .null, .null, .null, .null, .null, .int 0, .int 0, .int 0, .null, .int 0, .int 0, .int 0, .int 0, .int 0, .int 0, .null, .null, .int 0, .int 0, .null, .null, .null, .null, .null, .null, .null, .null, .int 0, .int 0, .int 0, .null, .int 0, .null, .null, .int 0, .int 0, .int 0, .null]
theorem dvX12_ok : ∀ j, j < 59 → defaultValue (tyX12 j) = vp_V dvX12 j := fun j hj => by
  have e : j = 0 ∨ j = 1 ∨ j = 2 ∨ j = 3 ∨ j = 4 ∨ j = 5 ∨ j = 6 ∨ j = 7 ∨ j = 8 ∨ j = 9 ∨ j = 10 ∨ j = 11 ∨ j = 12 ∨ j = 13 ∨ j = 14 ∨ j = 15 ∨ j = 16 ∨ j = 17 ∨ j = 18 ∨ j = 19 ∨ j = 20 ∨ j = 21 ∨ j = 22 ∨ j = 23 ∨ j = 24 ∨ j = 25 ∨ j = 26 ∨ j = 27 ∨ j = 28 ∨ j = 29 ∨ j = 30 ∨ j = 31 ∨ j = 32 ∨ j = 33 ∨ j = 34 ∨ j = 35 ∨ j = 36 ∨ j = 37 ∨ j = 38 ∨ j = 39 ∨ j = 40 ∨ j = 41 ∨ j = 42 ∨ j = 43 ∨ j = 44 ∨ j = 45 ∨ j = 46 ∨ j = 47 ∨ j = 48 ∨ j = 49 ∨ j = 50 ∨ j = 51 ∨ j = 52 ∨ j = 53 ∨ j = 54 ∨ j = 55 ∨ j = 56 ∨ j = 57 ∨ j = 58 := by omega
  rcases e with rfl | rfl | rfl | rfl | rfl | rfl | rfl | rfl | rfl | rfl | rfl | rfl | rfl | rfl | rfl | rfl | rfl | rfl | rfl | rfl | rfl | rfl | rfl | rfl | rfl | rfl | rfl | rfl | rfl | rfl | rfl | rfl | rfl | rfl | rfl | rfl | rfl | rfl | rfl | rfl | rfl | rfl | rfl | rfl | rfl | rfl | rfl | rfl | rfl | rfl | rfl | rfl | rfl | rfl | rfl | rfl | rfl | rfl | rfl <;> rfl
def iX0_init : jm_I := (yX0_init, cX0_init, 3, none)
theorem cwX0_init : jm_cw iX0_init 2 := ⟨jm_tw (n := 291) (by decide +kernel) rfl, jm_tw (n := 8) (by decide +kernel) rfl, ⟨by decide +kernel, by decide +kernel, by decide +kernel⟩, by decide⟩
theorem viX0_init : Cond.instanceMethod iX0_init.1 ∈ jm_T := jm_tw (n := 290) (by decide +kernel) rfl
def iX1_init : jm_I := (yX1_init, cX1_init, 1, none)
theorem cwX1_init : jm_cw iX1_init 0 := ⟨jm_tw (n := 237) (by decide +kernel) rfl, jm_tw (n := 7) (by decide +kernel) rfl, ⟨by decide +kernel, by decide +kernel, by decide +kernel⟩, by decide⟩
theorem viX1_init : Cond.instanceMethod iX1_init.1 ∈ jm_T := jm_tw (n := 236) (by decide +kernel) rfl
def iX2_init : jm_I := (yX2_init, cX2_init, 2, none)
theorem cwX2_init : jm_cw iX2_init 1 := ⟨jm_tw (n := 313) (by decide +kernel) rfl, jm_tw (n := 9) (by decide +kernel) rfl, ⟨by decide +kernel, by decide +kernel, by decide +kernel⟩, by decide⟩
theorem viX2_init : Cond.instanceMethod iX2_init.1 ∈ jm_T := jm_tw (n := 312) (by decide +kernel) rfl
def iX3_init : jm_I := (yX3_init, cX3_init, 1, none)
theorem cwX3_init : jm_cw iX3_init 0 := ⟨jm_tw (n := 99) (by decide +kernel) rfl, jm_tw (n := 5) (by decide +kernel) rfl, ⟨by decide +kernel, by decide +kernel, by decide +kernel⟩, by decide⟩
theorem viX3_init : Cond.instanceMethod iX3_init.1 ∈ jm_T := jm_tw (n := 98) (by decide +kernel) rfl
def iX4_init : jm_I := (yX4_init, cX4_init, 3, none)
theorem cwX4_init : jm_cw iX4_init 2 := ⟨jm_tw (n := 386) (by decide +kernel) rfl, jm_tw (n := 12) (by decide +kernel) rfl, ⟨by decide +kernel, by decide +kernel, by decide +kernel⟩, by decide⟩
theorem viX4_init : Cond.instanceMethod iX4_init.1 ∈ jm_T := jm_tw (n := 385) (by decide +kernel) rfl
def iX5_init : jm_I := (yX5_init, cX5_init, 1, none)
theorem cwX5_init : jm_cw iX5_init 0 := ⟨jm_tw (n := 78) (by decide +kernel) rfl, jm_tw (n := 4) (by decide +kernel) rfl, ⟨by decide +kernel, by decide +kernel, by decide +kernel⟩, by decide⟩
theorem viX5_init : Cond.instanceMethod iX5_init.1 ∈ jm_T := jm_tw (n := 77) (by decide +kernel) rfl
def iX6_init : jm_I := (yX6_init, cX6_init, 1, none)
theorem cwX6_init : jm_cw iX6_init 0 := ⟨jm_tw (n := 131) (by decide +kernel) rfl, jm_tw (n := 6) (by decide +kernel) rfl, ⟨by decide +kernel, by decide +kernel, by decide +kernel⟩, by decide⟩
theorem viX6_init : Cond.instanceMethod iX6_init.1 ∈ jm_T := jm_tw (n := 130) (by decide +kernel) rfl
def iX7_init : jm_I := (yX7_init, cX7_init, 1, none)
theorem cwX7_init : jm_cw iX7_init 0 := ⟨jm_tw (n := 34) (by decide +kernel) rfl, jm_tw (n := 2) (by decide +kernel) rfl, ⟨by decide +kernel, by decide +kernel, by decide +kernel⟩, by decide⟩
theorem viX7_init : Cond.instanceMethod iX7_init.1 ∈ jm_T := jm_tw (n := 33) (by decide +kernel) rfl
def iX8_init : jm_I := (yX8_init, cX8_init, 1, none)
theorem cwX8_init : jm_cw iX8_init 0 := ⟨jm_tw (n := 72) (by decide +kernel) rfl, jm_tw (n := 3) (by decide +kernel) rfl, ⟨by decide +kernel, by decide +kernel, by decide +kernel⟩, by decide⟩
theorem viX8_init : Cond.instanceMethod iX8_init.1 ∈ jm_T := jm_tw (n := 71) (by decide +kernel) rfl
def iX9_init : jm_I := (yX9_init, cX9_init, 2, none)
theorem cwX9_init : jm_cw iX9_init 1 := ⟨jm_tw (n := 352) (by decide +kernel) rfl, jm_tw (n := 11) (by decide +kernel) rfl, ⟨by decide +kernel, by decide +kernel, by decide +kernel⟩, by decide⟩
theorem viX9_init : Cond.instanceMethod iX9_init.1 ∈ jm_T := jm_tw (n := 351) (by decide +kernel) rfl
def iX10_init : jm_I := (yX10_init, cX10_init, 2, none)
theorem cwX10_init : jm_cw iX10_init 1 := ⟨jm_tw (n := 329) (by decide +kernel) rfl, jm_tw (n := 10) (by decide +kernel) rfl, ⟨by decide +kernel, by decide +kernel, by decide +kernel⟩, by decide⟩
theorem viX10_init : Cond.instanceMethod iX10_init.1 ∈ jm_T := jm_tw (n := 328) (by decide +kernel) rfl
def iX11_init : jm_I := (yX11_init, cX11_init, 2, none)
theorem cwX11_init : jm_cw iX11_init 0 := ⟨jm_tw (n := 26) (by decide +kernel) rfl, jm_tw (n := 1) (by decide +kernel) rfl, ⟨by decide +kernel, by decide +kernel, by decide +kernel⟩, by decide⟩
theorem viX11_init : Cond.instanceMethod iX11_init.1 ∈ jm_T := jm_tw (n := 25) (by decide +kernel) rfl
def iX12_init : jm_I := (yX12_init, cX12_init, 1, none)
theorem cwX12_init : jm_cw iX12_init 0 := ⟨jm_tw (n := 1242) (by decide +kernel) rfl, jm_tw (n := 13) (by decide +kernel) rfl, ⟨by decide +kernel, by decide +kernel, by decide +kernel⟩, by decide⟩
theorem viX12_init : Cond.instanceMethod iX12_init.1 ∈ jm_T := jm_tw (n := 1241) (by decide +kernel) rfl
theorem oiX0_3 : Cond.methodLink RX0 3 Lib.objectInit ∈ jm_T := jm_tw (n := 292) (by decide +kernel) rfl
theorem fkX0_11 : jm_fl RX0 11 0 2 := ⟨(RX0, TX0, 3), rfl, by decide, uX0, jm_tw (n := 301) (by decide +kernel) rfl⟩
theorem fkX0_15 : jm_fl RX0 15 0 0 := ⟨(RX0, TX0, 3), rfl, by decide, uX0, jm_tw (n := 294) (by decide +kernel) rfl⟩
theorem fkX0_19 : jm_fl RX0 19 0 1 := ⟨(RX0, TX0, 3), rfl, by decide, uX0, jm_tw (n := 297) (by decide +kernel) rfl⟩
theorem oiX1_3 : Cond.methodLink RX1 3 Lib.objectInit ∈ jm_T := jm_tw (n := 238) (by decide +kernel) rfl
theorem fkX1_9 : jm_fl RX1 9 1 0 := ⟨(RX1, TX1, 10), rfl, by decide, uX1, jm_tw (n := 239) (by decide +kernel) rfl⟩
theorem fkX1_15 : jm_fl RX1 15 1 1 := ⟨(RX1, TX1, 10), rfl, by decide, uX1, jm_tw (n := 241) (by decide +kernel) rfl⟩
theorem fkX1_18 : jm_fl RX1 18 1 2 := ⟨(RX1, TX1, 10), rfl, by decide, uX1, jm_tw (n := 245) (by decide +kernel) rfl⟩
theorem fkX1_22 : jm_fl RX1 22 1 3 := ⟨(RX1, TX1, 10), rfl, by decide, uX1, jm_tw (n := 249) (by decide +kernel) rfl⟩
theorem fkX1_25 : jm_fl RX1 25 1 4 := ⟨(RX1, TX1, 10), rfl, by decide, uX1, jm_tw (n := 253) (by decide +kernel) rfl⟩
theorem fkX1_28 : jm_fl RX1 28 1 5 := ⟨(RX1, TX1, 10), rfl, by decide, uX1, jm_tw (n := 256) (by decide +kernel) rfl⟩
theorem fkX1_31 : jm_fl RX1 31 1 6 := ⟨(RX1, TX1, 10), rfl, by decide, uX1, jm_tw (n := 257) (by decide +kernel) rfl⟩
theorem fkX1_34 : jm_fl RX1 34 1 7 := ⟨(RX1, TX1, 10), rfl, by decide, uX1, jm_tw (n := 260) (by decide +kernel) rfl⟩
theorem fkX1_37 : jm_fl RX1 37 1 8 := ⟨(RX1, TX1, 10), rfl, by decide, uX1, jm_tw (n := 262) (by decide +kernel) rfl⟩
theorem fkX1_40 : jm_fl RX1 40 1 9 := ⟨(RX1, TX1, 10), rfl, by decide, uX1, jm_tw (n := 264) (by decide +kernel) rfl⟩
theorem oiX2_3 : Cond.methodLink RX2 3 Lib.objectInit ∈ jm_T := jm_tw (n := 314) (by decide +kernel) rfl
theorem fkX2_9 : jm_fl RX2 9 2 0 := ⟨(RX2, TX2, 3), rfl, by decide, uX2, jm_tw (n := 315) (by decide +kernel) rfl⟩
theorem fkX2_15 : jm_fl RX2 15 0 0 := ⟨(RX0, TX0, 3), rfl, by decide, uX0, jm_tw (n := 293) (by decide +kernel) rfl⟩
theorem fkX2_21 : jm_fl RX2 21 2 1 := ⟨(RX2, TX2, 3), rfl, by decide, uX2, jm_tw (n := 316) (by decide +kernel) rfl⟩
theorem fkX2_22 : jm_fl RX2 22 0 1 := ⟨(RX0, TX0, 3), rfl, by decide, uX0, jm_tw (n := 298) (by decide +kernel) rfl⟩
theorem fkX2_26 : jm_fl RX2 26 2 2 := ⟨(RX2, TX2, 3), rfl, by decide, uX2, jm_tw (n := 317) (by decide +kernel) rfl⟩
theorem oiX3_3 : Cond.methodLink RX3 3 Lib.objectInit ∈ jm_T := jm_tw (n := 100) (by decide +kernel) rfl
theorem fkX3_9 : jm_fl RX3 9 3 0 := ⟨(RX3, TX3, 8), rfl, by decide, uX3, jm_tw (n := 101) (by decide +kernel) rfl⟩
theorem fkX3_15 : jm_fl RX3 15 3 1 := ⟨(RX3, TX3, 8), rfl, by decide, uX3, jm_tw (n := 103) (by decide +kernel) rfl⟩
theorem fkX3_18 : jm_fl RX3 18 3 2 := ⟨(RX3, TX3, 8), rfl, by decide, uX3, jm_tw (n := 104) (by decide +kernel) rfl⟩
theorem fkX3_22 : jm_fl RX3 22 3 3 := ⟨(RX3, TX3, 8), rfl, by decide, uX3, jm_tw (n := 105) (by decide +kernel) rfl⟩
theorem fkX3_25 : jm_fl RX3 25 3 4 := ⟨(RX3, TX3, 8), rfl, by decide, uX3, jm_tw (n := 106) (by decide +kernel) rfl⟩
theorem fkX3_28 : jm_fl RX3 28 3 5 := ⟨(RX3, TX3, 8), rfl, by decide, uX3, jm_tw (n := 107) (by decide +kernel) rfl⟩
theorem fkX3_31 : jm_fl RX3 31 3 6 := ⟨(RX3, TX3, 8), rfl, by decide, uX3, jm_tw (n := 108) (by decide +kernel) rfl⟩
theorem fkX3_34 : jm_fl RX3 34 3 7 := ⟨(RX3, TX3, 8), rfl, by decide, uX3, jm_tw (n := 109) (by decide +kernel) rfl⟩
theorem oiX4_11 : Cond.methodLink RX4 11 Lib.objectInit ∈ jm_T := jm_tw (n := 387) (by decide +kernel) rfl
theorem fkX4_17 : jm_fl RX4 17 4 0 := ⟨(RX4, TX4, 2), rfl, by decide, uX4, jm_tw (n := 388) (by decide +kernel) rfl⟩
theorem fkX4_21 : jm_fl RX4 21 4 1 := ⟨(RX4, TX4, 2), rfl, by decide, uX4, jm_tw (n := 389) (by decide +kernel) rfl⟩
theorem oiX5_5 : Cond.methodLink RX5 5 Lib.objectInit ∈ jm_T := jm_tw (n := 79) (by decide +kernel) rfl
theorem fkX5_11 : jm_fl RX5 11 5 0 := ⟨(RX5, TX5, 3), rfl, by decide, uX5, jm_tw (n := 80) (by decide +kernel) rfl⟩
theorem fkX5_17 : jm_fl RX5 17 5 1 := ⟨(RX5, TX5, 3), rfl, by decide, uX5, jm_tw (n := 82) (by decide +kernel) rfl⟩
theorem fkX5_21 : jm_fl RX5 21 5 2 := ⟨(RX5, TX5, 3), rfl, by decide, uX5, jm_tw (n := 87) (by decide +kernel) rfl⟩
theorem oiX6_5 : Cond.methodLink RX6 5 Lib.objectInit ∈ jm_T := jm_tw (n := 132) (by decide +kernel) rfl
theorem fkX6_11 : jm_fl RX6 11 6 0 := ⟨(RX6, TX6, 8), rfl, by decide, uX6, jm_tw (n := 133) (by decide +kernel) rfl⟩
theorem fkX6_17 : jm_fl RX6 17 6 1 := ⟨(RX6, TX6, 8), rfl, by decide, uX6, jm_tw (n := 136) (by decide +kernel) rfl⟩
theorem fkX6_21 : jm_fl RX6 21 6 2 := ⟨(RX6, TX6, 8), rfl, by decide, uX6, jm_tw (n := 138) (by decide +kernel) rfl⟩
theorem fkX6_24 : jm_fl RX6 24 6 3 := ⟨(RX6, TX6, 8), rfl, by decide, uX6, jm_tw (n := 140) (by decide +kernel) rfl⟩
theorem fkX6_27 : jm_fl RX6 27 6 4 := ⟨(RX6, TX6, 8), rfl, by decide, uX6, jm_tw (n := 142) (by decide +kernel) rfl⟩
theorem fkX6_30 : jm_fl RX6 30 6 5 := ⟨(RX6, TX6, 8), rfl, by decide, uX6, jm_tw (n := 144) (by decide +kernel) rfl⟩
theorem fkX6_33 : jm_fl RX6 33 6 6 := ⟨(RX6, TX6, 8), rfl, by decide, uX6, jm_tw (n := 145) (by decide +kernel) rfl⟩
theorem fkX6_36 : jm_fl RX6 36 6 7 := ⟨(RX6, TX6, 8), rfl, by decide, uX6, jm_tw (n := 146) (by decide +kernel) rfl⟩
theorem oiX7_3 : Cond.methodLink RX7 3 Lib.objectInit ∈ jm_T := jm_tw (n := 35) (by decide +kernel) rfl
theorem fkX7_11 : jm_fl RX7 11 7 0 := ⟨(RX7, TX7, 9), rfl, by decide, uX7, jm_tw (n := 36) (by decide +kernel) rfl⟩
theorem fkX7_15 : jm_fl RX7 15 7 1 := ⟨(RX7, TX7, 9), rfl, by decide, uX7, jm_tw (n := 37) (by decide +kernel) rfl⟩
theorem fkX7_19 : jm_fl RX7 19 7 2 := ⟨(RX7, TX7, 9), rfl, by decide, uX7, jm_tw (n := 39) (by decide +kernel) rfl⟩
theorem fkX7_22 : jm_fl RX7 22 7 3 := ⟨(RX7, TX7, 9), rfl, by decide, uX7, jm_tw (n := 41) (by decide +kernel) rfl⟩
theorem fkX7_25 : jm_fl RX7 25 7 4 := ⟨(RX7, TX7, 9), rfl, by decide, uX7, jm_tw (n := 43) (by decide +kernel) rfl⟩
theorem fkX7_28 : jm_fl RX7 28 7 5 := ⟨(RX7, TX7, 9), rfl, by decide, uX7, jm_tw (n := 44) (by decide +kernel) rfl⟩
theorem fkX7_31 : jm_fl RX7 31 7 6 := ⟨(RX7, TX7, 9), rfl, by decide, uX7, jm_tw (n := 45) (by decide +kernel) rfl⟩
theorem fkX7_34 : jm_fl RX7 34 7 7 := ⟨(RX7, TX7, 9), rfl, by decide, uX7, jm_tw (n := 46) (by decide +kernel) rfl⟩
theorem fkX7_37 : jm_fl RX7 37 7 8 := ⟨(RX7, TX7, 9), rfl, by decide, uX7, jm_tw (n := 47) (by decide +kernel) rfl⟩
theorem oiX8_3 : Cond.methodLink RX8 3 Lib.objectInit ∈ jm_T := jm_tw (n := 73) (by decide +kernel) rfl
theorem fkX8_9 : jm_fl RX8 9 8 0 := ⟨(RX8, TX8, 13), rfl, by decide, uX8, jm_tw (n := 164) (by decide +kernel) rfl⟩
theorem fkX8_15 : jm_fl RX8 15 8 1 := ⟨(RX8, TX8, 13), rfl, by decide, uX8, jm_tw (n := 168) (by decide +kernel) rfl⟩
theorem fkX8_19 : jm_fl RX8 19 8 2 := ⟨(RX8, TX8, 13), rfl, by decide, uX8, jm_tw (n := 172) (by decide +kernel) rfl⟩
theorem fkX8_22 : jm_fl RX8 22 8 3 := ⟨(RX8, TX8, 13), rfl, by decide, uX8, jm_tw (n := 176) (by decide +kernel) rfl⟩
theorem fkX8_25 : jm_fl RX8 25 8 4 := ⟨(RX8, TX8, 13), rfl, by decide, uX8, jm_tw (n := 180) (by decide +kernel) rfl⟩
theorem fkX8_28 : jm_fl RX8 28 8 5 := ⟨(RX8, TX8, 13), rfl, by decide, uX8, jm_tw (n := 182) (by decide +kernel) rfl⟩
theorem fkX8_31 : jm_fl RX8 31 8 6 := ⟨(RX8, TX8, 13), rfl, by decide, uX8, jm_tw (n := 184) (by decide +kernel) rfl⟩
theorem fkX8_34 : jm_fl RX8 34 8 7 := ⟨(RX8, TX8, 13), rfl, by decide, uX8, jm_tw (n := 187) (by decide +kernel) rfl⟩
theorem fkX8_37 : jm_fl RX8 37 8 8 := ⟨(RX8, TX8, 13), rfl, by decide, uX8, jm_tw (n := 190) (by decide +kernel) rfl⟩
theorem fkX8_40 : jm_fl RX8 40 8 9 := ⟨(RX8, TX8, 13), rfl, by decide, uX8, jm_tw (n := 193) (by decide +kernel) rfl⟩
theorem clX8_43 : Cond.classLink RX8 43 RX5 ∈ jm_T := jm_tw (n := 74) (by decide +kernel) rfl
theorem miX8_45 : jm_mi RX8 45 iX5_init 0 := ⟨cwX5_init, Or.inr ⟨"SungEvidence", by unfold jc_NK; simp [iX5_init]⟩, viX5_init, rfl, rfl⟩
theorem fkX8_46 : jm_fl RX8 46 8 10 := ⟨(RX8, TX8, 13), rfl, by decide, uX8, jm_tw (n := 196) (by decide +kernel) rfl⟩
theorem clX8_50 : Cond.classLink RX8 50 RX3 ∈ jm_T := jm_tw (n := 95) (by decide +kernel) rfl
theorem miX8_52 : jm_mi RX8 52 iX3_init 0 := ⟨cwX3_init, Or.inr ⟨"SungEvidence", by unfold jc_NK; simp [iX3_init]⟩, viX3_init, rfl, rfl⟩
theorem fkX8_53 : jm_fl RX8 53 8 11 := ⟨(RX8, TX8, 13), rfl, by decide, uX8, jm_tw (n := 201) (by decide +kernel) rfl⟩
theorem clX8_57 : Cond.classLink RX8 57 RX6 ∈ jm_T := jm_tw (n := 127) (by decide +kernel) rfl
theorem miX8_59 : jm_mi RX8 59 iX6_init 0 := ⟨cwX6_init, Or.inr ⟨"SungEvidence", by unfold jc_NK; simp [iX6_init]⟩, viX6_init, rfl, rfl⟩
theorem fkX8_60 : jm_fl RX8 60 8 12 := ⟨(RX8, TX8, 13), rfl, by decide, uX8, jm_tw (n := 204) (by decide +kernel) rfl⟩
theorem oiX9_3 : Cond.methodLink RX9 3 Lib.objectInit ∈ jm_T := jm_tw (n := 353) (by decide +kernel) rfl
theorem fkX9_9 : jm_fl RX9 9 9 3 := ⟨(RX9, TX9, 7), rfl, by decide, uX9, jm_tw (n := 357) (by decide +kernel) rfl⟩
theorem fkX9_15 : jm_fl RX9 15 9 4 := ⟨(RX9, TX9, 7), rfl, by decide, uX9, jm_tw (n := 358) (by decide +kernel) rfl⟩
theorem fkX9_18 : jm_fl RX9 18 9 5 := ⟨(RX9, TX9, 7), rfl, by decide, uX9, jm_tw (n := 359) (by decide +kernel) rfl⟩
theorem fkX9_21 : jm_fl RX9 21 9 6 := ⟨(RX9, TX9, 7), rfl, by decide, uX9, jm_tw (n := 360) (by decide +kernel) rfl⟩
theorem fkX9_24 : jm_fl RX9 24 9 0 := ⟨(RX9, TX9, 7), rfl, by decide, uX9, jm_tw (n := 354) (by decide +kernel) rfl⟩
theorem fkX9_28 : jm_fl RX9 28 0 0 := ⟨(RX0, TX0, 3), rfl, by decide, uX0, jm_tw (n := 296) (by decide +kernel) rfl⟩
theorem fkX9_34 : jm_fl RX9 34 9 1 := ⟨(RX9, TX9, 7), rfl, by decide, uX9, jm_tw (n := 355) (by decide +kernel) rfl⟩
theorem fkX9_35 : jm_fl RX9 35 0 1 := ⟨(RX0, TX0, 3), rfl, by decide, uX0, jm_tw (n := 300) (by decide +kernel) rfl⟩
theorem fkX9_39 : jm_fl RX9 39 9 2 := ⟨(RX9, TX9, 7), rfl, by decide, uX9, jm_tw (n := 356) (by decide +kernel) rfl⟩
theorem oiX10_3 : Cond.methodLink RX10 3 Lib.objectInit ∈ jm_T := jm_tw (n := 330) (by decide +kernel) rfl
theorem fkX10_9 : jm_fl RX10 9 10 3 := ⟨(RX10, TX10, 5), rfl, by decide, uX10, jm_tw (n := 334) (by decide +kernel) rfl⟩
theorem fkX10_15 : jm_fl RX10 15 10 4 := ⟨(RX10, TX10, 5), rfl, by decide, uX10, jm_tw (n := 335) (by decide +kernel) rfl⟩
theorem fkX10_19 : jm_fl RX10 19 10 0 := ⟨(RX10, TX10, 5), rfl, by decide, uX10, jm_tw (n := 331) (by decide +kernel) rfl⟩
theorem fkX10_23 : jm_fl RX10 23 0 0 := ⟨(RX0, TX0, 3), rfl, by decide, uX0, jm_tw (n := 295) (by decide +kernel) rfl⟩
theorem fkX10_29 : jm_fl RX10 29 10 1 := ⟨(RX10, TX10, 5), rfl, by decide, uX10, jm_tw (n := 332) (by decide +kernel) rfl⟩
theorem fkX10_30 : jm_fl RX10 30 0 1 := ⟨(RX0, TX0, 3), rfl, by decide, uX0, jm_tw (n := 299) (by decide +kernel) rfl⟩
theorem fkX10_34 : jm_fl RX10 34 10 2 := ⟨(RX10, TX10, 5), rfl, by decide, uX10, jm_tw (n := 333) (by decide +kernel) rfl⟩
theorem oiX11_3 : Cond.methodLink RX11 3 Lib.objectInit ∈ jm_T := jm_tw (n := 27) (by decide +kernel) rfl
theorem clX11_9 : Cond.classLink RX11 9 RX7 ∈ jm_T := jm_tw (n := 30) (by decide +kernel) rfl
theorem miX11_11 : jm_mi RX11 11 iX7_init 0 := ⟨cwX7_init, Or.inr ⟨"SungEvidence", by unfold jc_NK; simp [iX7_init]⟩, viX7_init, rfl, rfl⟩
theorem fkX11_12 : jm_fl RX11 12 11 0 := ⟨(RX11, TX11, 17), rfl, by decide, uX11, jm_tw (n := 396) (by decide +kernel) rfl⟩
theorem clX11_16 : Cond.classLink RX11 16 RX8 ∈ jm_T := jm_tw (n := 68) (by decide +kernel) rfl
theorem miX11_18 : jm_mi RX11 18 iX8_init 0 := ⟨cwX8_init, Or.inr ⟨"SungEvidence", by unfold jc_NK; simp [iX8_init]⟩, viX8_init, rfl, rfl⟩
theorem fkX11_19 : jm_fl RX11 19 11 1 := ⟨(RX11, TX11, 17), rfl, by decide, uX11, jm_tw (n := 397) (by decide +kernel) rfl⟩
theorem clX11_23 : Cond.classLink RX11 23 RX1 ∈ jm_T := jm_tw (n := 233) (by decide +kernel) rfl
theorem miX11_25 : jm_mi RX11 25 iX1_init 0 := ⟨cwX1_init, Or.inr ⟨"SungEvidence", by unfold jc_NK; simp [iX1_init]⟩, viX1_init, rfl, rfl⟩
theorem fkX11_26 : jm_fl RX11 26 11 2 := ⟨(RX11, TX11, 17), rfl, by decide, uX11, jm_tw (n := 398) (by decide +kernel) rfl⟩
theorem clX11_30 : Cond.classLink RX11 30 RX0 ∈ jm_T := jm_tw (n := 287) (by decide +kernel) rfl
theorem miX11_32 : jm_mi RX11 32 iX0_init 2 := ⟨cwX0_init, Or.inl (jm_tw (n := 289) (by decide +kernel) rfl), viX0_init, rfl, rfl⟩
theorem fkX11_35 : jm_fl RX11 35 11 3 := ⟨(RX11, TX11, 17), rfl, by decide, uX11, jm_tw (n := 399) (by decide +kernel) rfl⟩
theorem clX11_39 : Cond.classLink RX11 39 RX2 ∈ jm_T := jm_tw (n := 309) (by decide +kernel) rfl
theorem miX11_41 : jm_mi RX11 41 iX2_init 1 := ⟨cwX2_init, Or.inl (jm_tw (n := 311) (by decide +kernel) rfl), viX2_init, rfl, rfl⟩
theorem fkX11_44 : jm_fl RX11 44 11 4 := ⟨(RX11, TX11, 17), rfl, by decide, uX11, jm_tw (n := 400) (by decide +kernel) rfl⟩
theorem clX11_48 : Cond.classLink RX11 48 RX10 ∈ jm_T := jm_tw (n := 325) (by decide +kernel) rfl
theorem miX11_50 : jm_mi RX11 50 iX10_init 1 := ⟨cwX10_init, Or.inl (jm_tw (n := 327) (by decide +kernel) rfl), viX10_init, rfl, rfl⟩
theorem fkX11_51 : jm_fl RX11 51 11 5 := ⟨(RX11, TX11, 17), rfl, by decide, uX11, jm_tw (n := 401) (by decide +kernel) rfl⟩
theorem clX11_55 : Cond.classLink RX11 55 RX9 ∈ jm_T := jm_tw (n := 348) (by decide +kernel) rfl
theorem miX11_57 : jm_mi RX11 57 iX9_init 1 := ⟨cwX9_init, Or.inl (jm_tw (n := 350) (by decide +kernel) rfl), viX9_init, rfl, rfl⟩
theorem fkX11_58 : jm_fl RX11 58 11 6 := ⟨(RX11, TX11, 17), rfl, by decide, uX11, jm_tw (n := 402) (by decide +kernel) rfl⟩
theorem clX11_62 : Cond.classLink RX11 62 RX5 ∈ jm_T := jm_tw (n := 376) (by decide +kernel) rfl
theorem miX11_64 : jm_mi RX11 64 iX5_init 0 := ⟨cwX5_init, Or.inr ⟨"SungEvidence", by unfold jc_NK; simp [iX5_init]⟩, viX5_init, rfl, rfl⟩
theorem fkX11_65 : jm_fl RX11 65 11 7 := ⟨(RX11, TX11, 17), rfl, by decide, uX11, jm_tw (n := 403) (by decide +kernel) rfl⟩
theorem clX11_69 : Cond.classLink RX11 69 RX3 ∈ jm_T := jm_tw (n := 378) (by decide +kernel) rfl
theorem miX11_71 : jm_mi RX11 71 iX3_init 0 := ⟨cwX3_init, Or.inr ⟨"SungEvidence", by unfold jc_NK; simp [iX3_init]⟩, viX3_init, rfl, rfl⟩
theorem fkX11_72 : jm_fl RX11 72 11 8 := ⟨(RX11, TX11, 17), rfl, by decide, uX11, jm_tw (n := 404) (by decide +kernel) rfl⟩
theorem clX11_76 : Cond.classLink RX11 76 RX6 ∈ jm_T := jm_tw (n := 380) (by decide +kernel) rfl
theorem miX11_78 : jm_mi RX11 78 iX6_init 0 := ⟨cwX6_init, Or.inr ⟨"SungEvidence", by unfold jc_NK; simp [iX6_init]⟩, viX6_init, rfl, rfl⟩
theorem fkX11_79 : jm_fl RX11 79 11 9 := ⟨(RX11, TX11, 17), rfl, by decide, uX11, jm_tw (n := 405) (by decide +kernel) rfl⟩
theorem clX11_83 : Cond.classLink RX11 83 RX4 ∈ jm_T := jm_tw (n := 382) (by decide +kernel) rfl
theorem miX11_85 : jm_mi RX11 85 iX4_init 2 := ⟨cwX4_init, Or.inl (jm_tw (n := 384) (by decide +kernel) rfl), viX4_init, rfl, rfl⟩
theorem fkX11_88 : jm_fl RX11 88 11 10 := ⟨(RX11, TX11, 17), rfl, by decide, uX11, jm_tw (n := 406) (by decide +kernel) rfl⟩
theorem fkX11_92 : jm_fl RX11 92 11 11 := ⟨(RX11, TX11, 17), rfl, by decide, uX11, jm_tw (n := 407) (by decide +kernel) rfl⟩
theorem fkX11_95 : jm_fl RX11 95 11 12 := ⟨(RX11, TX11, 17), rfl, by decide, uX11, jm_tw (n := 408) (by decide +kernel) rfl⟩
theorem fkX11_98 : jm_fl RX11 98 11 13 := ⟨(RX11, TX11, 17), rfl, by decide, uX11, jm_tw (n := 409) (by decide +kernel) rfl⟩
theorem fkX11_102 : jm_fl RX11 102 11 14 := ⟨(RX11, TX11, 17), rfl, by decide, uX11, jm_tw (n := 410) (by decide +kernel) rfl⟩
theorem fkX11_106 : jm_fl RX11 106 11 15 := ⟨(RX11, TX11, 17), rfl, by decide, uX11, jm_tw (n := 411) (by decide +kernel) rfl⟩
theorem fkX11_110 : jm_fl RX11 110 11 16 := ⟨(RX11, TX11, 17), rfl, by decide, uX11, jm_tw (n := 412) (by decide +kernel) rfl⟩
theorem oiX12_1 : Cond.methodLink RX12 1 Lib.objectInit ∈ jm_T := jm_tw (n := 1243) (by decide +kernel) rfl
theorem fkX12_7 : jm_fl RX12 7 12 1 := ⟨(RX12, TX12, 59), rfl, by decide, uX12, jm_tw (n := 1245) (by decide +kernel) rfl⟩
theorem fkX12_13 : jm_fl RX12 13 12 2 := ⟨(RX12, TX12, 59), rfl, by decide, uX12, jm_tw (n := 1246) (by decide +kernel) rfl⟩
theorem fkX12_16 : jm_fl RX12 16 12 5 := ⟨(RX12, TX12, 59), rfl, by decide, uX12, jm_tw (n := 1249) (by decide +kernel) rfl⟩
theorem fkX12_19 : jm_fl RX12 19 12 6 := ⟨(RX12, TX12, 59), rfl, by decide, uX12, jm_tw (n := 1250) (by decide +kernel) rfl⟩
theorem fkX12_22 : jm_fl RX12 22 12 7 := ⟨(RX12, TX12, 59), rfl, by decide, uX12, jm_tw (n := 1251) (by decide +kernel) rfl⟩
theorem fkX12_25 : jm_fl RX12 25 12 8 := ⟨(RX12, TX12, 59), rfl, by decide, uX12, jm_tw (n := 1252) (by decide +kernel) rfl⟩
theorem fkX12_28 : jm_fl RX12 28 12 12 := ⟨(RX12, TX12, 59), rfl, by decide, uX12, jm_tw (n := 1256) (by decide +kernel) rfl⟩
theorem fkX12_31 : jm_fl RX12 31 12 18 := ⟨(RX12, TX12, 59), rfl, by decide, uX12, jm_tw (n := 1262) (by decide +kernel) rfl⟩
theorem fkX12_34 : jm_fl RX12 34 12 19 := ⟨(RX12, TX12, 59), rfl, by decide, uX12, jm_tw (n := 1263) (by decide +kernel) rfl⟩
theorem fkX12_37 : jm_fl RX12 37 12 20 := ⟨(RX12, TX12, 59), rfl, by decide, uX12, jm_tw (n := 1264) (by decide +kernel) rfl⟩
theorem fkX12_40 : jm_fl RX12 40 12 21 := ⟨(RX12, TX12, 59), rfl, by decide, uX12, jm_tw (n := 1265) (by decide +kernel) rfl⟩
theorem fkX12_43 : jm_fl RX12 43 12 22 := ⟨(RX12, TX12, 59), rfl, by decide, uX12, jm_tw (n := 1266) (by decide +kernel) rfl⟩
theorem fkX12_46 : jm_fl RX12 46 12 23 := ⟨(RX12, TX12, 59), rfl, by decide, uX12, jm_tw (n := 1267) (by decide +kernel) rfl⟩
theorem fkX12_49 : jm_fl RX12 49 12 24 := ⟨(RX12, TX12, 59), rfl, by decide, uX12, jm_tw (n := 1268) (by decide +kernel) rfl⟩
theorem fkX12_52 : jm_fl RX12 52 12 25 := ⟨(RX12, TX12, 59), rfl, by decide, uX12, jm_tw (n := 1269) (by decide +kernel) rfl⟩
theorem fkX12_55 : jm_fl RX12 55 12 29 := ⟨(RX12, TX12, 59), rfl, by decide, uX12, jm_tw (n := 1273) (by decide +kernel) rfl⟩
theorem fkX12_58 : jm_fl RX12 58 12 34 := ⟨(RX12, TX12, 59), rfl, by decide, uX12, jm_tw (n := 1278) (by decide +kernel) rfl⟩
theorem fkX12_62 : jm_fl RX12 62 12 36 := ⟨(RX12, TX12, 59), rfl, by decide, uX12, jm_tw (n := 1280) (by decide +kernel) rfl⟩
theorem fkX12_65 : jm_fl RX12 65 12 37 := ⟨(RX12, TX12, 59), rfl, by decide, uX12, jm_tw (n := 1281) (by decide +kernel) rfl⟩
theorem fkX12_68 : jm_fl RX12 68 12 40 := ⟨(RX12, TX12, 59), rfl, by decide, uX12, jm_tw (n := 1284) (by decide +kernel) rfl⟩
theorem fkX12_71 : jm_fl RX12 71 12 41 := ⟨(RX12, TX12, 59), rfl, by decide, uX12, jm_tw (n := 1285) (by decide +kernel) rfl⟩
theorem fkX12_74 : jm_fl RX12 74 12 42 := ⟨(RX12, TX12, 59), rfl, by decide, uX12, jm_tw (n := 1286) (by decide +kernel) rfl⟩
theorem fkX12_77 : jm_fl RX12 77 12 43 := ⟨(RX12, TX12, 59), rfl, by decide, uX12, jm_tw (n := 1287) (by decide +kernel) rfl⟩
theorem fkX12_80 : jm_fl RX12 80 12 44 := ⟨(RX12, TX12, 59), rfl, by decide, uX12, jm_tw (n := 1288) (by decide +kernel) rfl⟩
theorem fkX12_83 : jm_fl RX12 83 12 45 := ⟨(RX12, TX12, 59), rfl, by decide, uX12, jm_tw (n := 1289) (by decide +kernel) rfl⟩
theorem fkX12_86 : jm_fl RX12 86 12 46 := ⟨(RX12, TX12, 59), rfl, by decide, uX12, jm_tw (n := 1290) (by decide +kernel) rfl⟩
theorem fkX12_89 : jm_fl RX12 89 12 47 := ⟨(RX12, TX12, 59), rfl, by decide, uX12, jm_tw (n := 1291) (by decide +kernel) rfl⟩
theorem fkX12_92 : jm_fl RX12 92 12 51 := ⟨(RX12, TX12, 59), rfl, by decide, uX12, jm_tw (n := 1295) (by decide +kernel) rfl⟩
theorem fkX12_95 : jm_fl RX12 95 12 53 := ⟨(RX12, TX12, 59), rfl, by decide, uX12, jm_tw (n := 1297) (by decide +kernel) rfl⟩
theorem fkX12_98 : jm_fl RX12 98 12 54 := ⟨(RX12, TX12, 59), rfl, by decide, uX12, jm_tw (n := 1298) (by decide +kernel) rfl⟩
theorem fkX12_101 : jm_fl RX12 101 12 58 := ⟨(RX12, TX12, 59), rfl, by decide, uX12, jm_tw (n := 1302) (by decide +kernel) rfl⟩
end JKW
