section JKW
theorem oiI : Cond.instanceMethod Lib.objectInit ∈ jm_T := jm_tw (n := 28) (by decide +kernel) rfl
theorem oiC : Cond.code Lib.objectInit ⟨#[0xb1]⟩ 1 none ∈ jm_T := jm_tw (n := 29) (by decide +kernel) rfl
theorem acI : Cond.arrayClass .int ∈ jm_T := jm_tw (n := 67) (by decide +kernel) rfl
theorem acL : Cond.arrayClass .long ∈ jm_T := jm_tw (n := 347) (by decide +kernel) rfl
theorem insX0 : Cond.instantiable RX0 3 ∈ jm_T := jm_tw (n := 288) (by decide +kernel) rfl
theorem iniX0 : Cond.initialized RX0 ∈ jm_T := jm_tw (n := 8) (by decide +kernel) rfl
def dvX0 : List Value := [.null, .null, .null]
theorem dvX0_ok : ∀ j, j < 3 → defaultValue (tyX0 j) = vp_V dvX0 j := fun j hj => by
  have e : j = 0 ∨ j = 1 ∨ j = 2 := by omega
  rcases e with rfl | rfl | rfl <;> rfl
theorem insX1 : Cond.instantiable RX1 10 ∈ jm_T := jm_tw (n := 234) (by decide +kernel) rfl
theorem iniX1 : Cond.initialized RX1 ∈ jm_T := jm_tw (n := 7) (by decide +kernel) rfl
def dvX1 : List Value := [.int 0, .int 0, .null, .null, .int 0, .null, .int 0, .null, .int 0, .null]
theorem dvX1_ok : ∀ j, j < 10 → defaultValue (tyX1 j) = vp_V dvX1 j := fun j hj => by
  have e : j = 0 ∨ j = 1 ∨ j = 2 ∨ j = 3 ∨ j = 4 ∨ j = 5 ∨ j = 6 ∨ j = 7 ∨ j = 8 ∨ j = 9 := by omega
  rcases e with rfl | rfl | rfl | rfl | rfl | rfl | rfl | rfl | rfl | rfl <;> rfl
theorem insX2 : Cond.instantiable RX2 3 ∈ jm_T := jm_tw (n := 310) (by decide +kernel) rfl
theorem iniX2 : Cond.initialized RX2 ∈ jm_T := jm_tw (n := 9) (by decide +kernel) rfl
def dvX2 : List Value := [.null, .null, .null]
theorem dvX2_ok : ∀ j, j < 3 → defaultValue (tyX2 j) = vp_V dvX2 j := fun j hj => by
  have e : j = 0 ∨ j = 1 ∨ j = 2 := by omega
  rcases e with rfl | rfl | rfl <;> rfl
theorem insX3 : Cond.instantiable RX3 8 ∈ jm_T := jm_tw (n := 96) (by decide +kernel) rfl
theorem iniX3 : Cond.initialized RX3 ∈ jm_T := jm_tw (n := 5) (by decide +kernel) rfl
def dvX3 : List Value := [.int 0, .int 0, .null, .null, .null, .null, .null, .null]
theorem dvX3_ok : ∀ j, j < 8 → defaultValue (tyX3 j) = vp_V dvX3 j := fun j hj => by
  have e : j = 0 ∨ j = 1 ∨ j = 2 ∨ j = 3 ∨ j = 4 ∨ j = 5 ∨ j = 6 ∨ j = 7 := by omega
  rcases e with rfl | rfl | rfl | rfl | rfl | rfl | rfl | rfl <;> rfl
theorem insX4 : Cond.instantiable RX4 2 ∈ jm_T := jm_tw (n := 383) (by decide +kernel) rfl
theorem iniX4 : Cond.initialized RX4 ∈ jm_T := jm_tw (n := 12) (by decide +kernel) rfl
def dvX4 : List Value := [.null, .null]
theorem dvX4_ok : ∀ j, j < 2 → defaultValue (tyX4 j) = vp_V dvX4 j := fun j hj => by
  have e : j = 0 ∨ j = 1 := by omega
  rcases e with rfl | rfl <;> rfl
theorem insX5 : Cond.instantiable RX5 3 ∈ jm_T := jm_tw (n := 75) (by decide +kernel) rfl
theorem iniX5 : Cond.initialized RX5 ∈ jm_T := jm_tw (n := 4) (by decide +kernel) rfl
def dvX5 : List Value := [.int 0, .null, .null]
theorem dvX5_ok : ∀ j, j < 3 → defaultValue (tyX5 j) = vp_V dvX5 j := fun j hj => by
  have e : j = 0 ∨ j = 1 ∨ j = 2 := by omega
  rcases e with rfl | rfl | rfl <;> rfl
theorem insX6 : Cond.instantiable RX6 8 ∈ jm_T := jm_tw (n := 128) (by decide +kernel) rfl
theorem iniX6 : Cond.initialized RX6 ∈ jm_T := jm_tw (n := 6) (by decide +kernel) rfl
def dvX6 : List Value := [.int 0, .null, .null, .null, .null, .null, .null, .int 0]
theorem dvX6_ok : ∀ j, j < 8 → defaultValue (tyX6 j) = vp_V dvX6 j := fun j hj => by
  have e : j = 0 ∨ j = 1 ∨ j = 2 ∨ j = 3 ∨ j = 4 ∨ j = 5 ∨ j = 6 ∨ j = 7 := by omega
  rcases e with rfl | rfl | rfl | rfl | rfl | rfl | rfl | rfl <;> rfl
theorem insX7 : Cond.instantiable RX7 9 ∈ jm_T := jm_tw (n := 31) (by decide +kernel) rfl
theorem iniX7 : Cond.initialized RX7 ∈ jm_T := jm_tw (n := 2) (by decide +kernel) rfl
def dvX7 : List Value := [.null, .int 0, .int 0, .int 0, .null, .null, .null, .int 0, .int 0]
theorem dvX7_ok : ∀ j, j < 9 → defaultValue (tyX7 j) = vp_V dvX7 j := fun j hj => by
  have e : j = 0 ∨ j = 1 ∨ j = 2 ∨ j = 3 ∨ j = 4 ∨ j = 5 ∨ j = 6 ∨ j = 7 ∨ j = 8 := by omega
  rcases e with rfl | rfl | rfl | rfl | rfl | rfl | rfl | rfl | rfl <;> rfl
theorem insX8 : Cond.instantiable RX8 13 ∈ jm_T := jm_tw (n := 69) (by decide +kernel) rfl
theorem iniX8 : Cond.initialized RX8 ∈ jm_T := jm_tw (n := 3) (by decide +kernel) rfl
def dvX8 : List Value := [.int 0, .null, .null, .null, .null, .int 0, .int 0, .int 0, .int 0, .null, .null, .null, .null]
theorem dvX8_ok : ∀ j, j < 13 → defaultValue (tyX8 j) = vp_V dvX8 j := fun j hj => by
  have e : j = 0 ∨ j = 1 ∨ j = 2 ∨ j = 3 ∨ j = 4 ∨ j = 5 ∨ j = 6 ∨ j = 7 ∨ j = 8 ∨ j = 9 ∨ j = 10 ∨ j = 11 ∨ j = 12 := by omega
  rcases e with rfl | rfl | rfl | rfl | rfl | rfl | rfl | rfl | rfl | rfl | rfl | rfl | rfl <;> rfl
theorem insX9 : Cond.instantiable RX9 7 ∈ jm_T := jm_tw (n := 349) (by decide +kernel) rfl
theorem iniX9 : Cond.initialized RX9 ∈ jm_T := jm_tw (n := 11) (by decide +kernel) rfl
def dvX9 : List Value := [.null, .null, .null, .null, .null, .null, .null]
theorem dvX9_ok : ∀ j, j < 7 → defaultValue (tyX9 j) = vp_V dvX9 j := fun j hj => by
  have e : j = 0 ∨ j = 1 ∨ j = 2 ∨ j = 3 ∨ j = 4 ∨ j = 5 ∨ j = 6 := by omega
  rcases e with rfl | rfl | rfl | rfl | rfl | rfl | rfl <;> rfl
theorem insX10 : Cond.instantiable RX10 5 ∈ jm_T := jm_tw (n := 326) (by decide +kernel) rfl
theorem iniX10 : Cond.initialized RX10 ∈ jm_T := jm_tw (n := 10) (by decide +kernel) rfl
def dvX10 : List Value := [.null, .null, .null, .null, .null]
theorem dvX10_ok : ∀ j, j < 5 → defaultValue (tyX10 j) = vp_V dvX10 j := fun j hj => by
  have e : j = 0 ∨ j = 1 ∨ j = 2 ∨ j = 3 ∨ j = 4 := by omega
  rcases e with rfl | rfl | rfl | rfl | rfl <;> rfl
theorem insX11 : Cond.instantiable RX11 17 ∈ jm_T := jm_tw (n := 23) (by decide +kernel) rfl
theorem iniX11 : Cond.initialized RX11 ∈ jm_T := jm_tw (n := 1) (by decide +kernel) rfl
def dvX11 : List Value := [.null, .null, .null, .null, .null, .null, .null, .null, .null, .null, .null, .null, .null, .int 0, .null, .int 0, .int 0]
theorem dvX11_ok : ∀ j, j < 17 → defaultValue (tyX11 j) = vp_V dvX11 j := fun j hj => by
  have e : j = 0 ∨ j = 1 ∨ j = 2 ∨ j = 3 ∨ j = 4 ∨ j = 5 ∨ j = 6 ∨ j = 7 ∨ j = 8 ∨ j = 9 ∨ j = 10 ∨ j = 11 ∨ j = 12 ∨ j = 13 ∨ j = 14 ∨ j = 15 ∨ j = 16 := by omega
  rcases e with rfl | rfl | rfl | rfl | rfl | rfl | rfl | rfl | rfl | rfl | rfl | rfl | rfl | rfl | rfl | rfl | rfl <;> rfl
theorem insX12 : Cond.instantiable RX12 59 ∈ jm_T := jm_tw (n := 1239) (by decide +kernel) rfl
theorem iniX12 : Cond.initialized RX12 ∈ jm_T := jm_tw (n := 13) (by decide +kernel) rfl
def dvX12 : List Value := [.int 0, .null, .null, .int 0, .int 0, .null, .null, .null, .null, .int 0, .int 0, .int 0, .null, .int 0, .int 0, .int 0, .int 0, .int 0, .null, .null, .null, .null, .null, .null, .null, .null, .int 0, .int 0, .int 0, .null, .int 0, .int 0, .int 0, .int 0, .int 0, .int 0, .null, .null, .int 0, .int 0, .null, .null, .null, .null, .null, .null, .null, .null, .int 0, .int 0, .int 0, .null, .int 0, .null, .null, .int 0, .int 0, .int 0, .null]
theorem dvX12_ok : ∀ j, j < 59 → defaultValue (tyX12 j) = vp_V dvX12 j := fun j hj => by
  have e : j = 0 ∨ j = 1 ∨ j = 2 ∨ j = 3 ∨ j = 4 ∨ j = 5 ∨ j = 6 ∨ j = 7 ∨ j = 8 ∨ j = 9 ∨ j = 10 ∨ j = 11 ∨ j = 12 ∨ j = 13 ∨ j = 14 ∨ j = 15 ∨ j = 16 ∨ j = 17 ∨ j = 18 ∨ j = 19 ∨ j = 20 ∨ j = 21 ∨ j = 22 ∨ j = 23 ∨ j = 24 ∨ j = 25 ∨ j = 26 ∨ j = 27 ∨ j = 28 ∨ j = 29 ∨ j = 30 ∨ j = 31 ∨ j = 32 ∨ j = 33 ∨ j = 34 ∨ j = 35 ∨ j = 36 ∨ j = 37 ∨ j = 38 ∨ j = 39 ∨ j = 40 ∨ j = 41 ∨ j = 42 ∨ j = 43 ∨ j = 44 ∨ j = 45 ∨ j = 46 ∨ j = 47 ∨ j = 48 ∨ j = 49 ∨ j = 50 ∨ j = 51 ∨ j = 52 ∨ j = 53 ∨ j = 54 ∨ j = 55 ∨ j = 56 ∨ j = 57 ∨ j = 58 := by omega
  rcases e with rfl | rfl | rfl | rfl | rfl | rfl | rfl | rfl | rfl | rfl | rfl | rfl | rfl | rfl | rfl | rfl | rfl | rfl | rfl | rfl | rfl | rfl | rfl | rfl | rfl | rfl | rfl | rfl | rfl | rfl | rfl | rfl | rfl | rfl | rfl | rfl | rfl | rfl | rfl | rfl | rfl | rfl | rfl | rfl | rfl | rfl | rfl | rfl | rfl | rfl | rfl | rfl | rfl | rfl | rfl | rfl | rfl | rfl | rfl <;> rfl
def iX0_init : jm_I := (yX0_init, cX0_init, 3, none)
def iX1_init : jm_I := (yX1_init, cX1_init, 1, none)
def iX2_init : jm_I := (yX2_init, cX2_init, 2, none)
def iX3_init : jm_I := (yX3_init, cX3_init, 1, none)
def iX4_init : jm_I := (yX4_init, cX4_init, 3, none)
def iX5_init : jm_I := (yX5_init, cX5_init, 1, none)
def iX6_init : jm_I := (yX6_init, cX6_init, 1, none)
def iX7_init : jm_I := (yX7_init, cX7_init, 1, none)
def iX8_init : jm_I := (yX8_init, cX8_init, 1, none)
def iX9_init : jm_I := (yX9_init, cX9_init, 2, none)
def iX10_init : jm_I := (yX10_init, cX10_init, 2, none)
def iX11_init : jm_I := (yX11_init, cX11_init, 2, none)
def iX12_init : jm_I := (yX12_init, cX12_init, 1, none)
end JKW
