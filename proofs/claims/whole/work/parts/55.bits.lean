section BT
theorem jm_nN {n : Nat} (h : n < 2147483648) : ((Int32.ofInt (n : Int)).toBitVec).toNat = n := by
  rw [Int32.toBitVec_ofInt, BitVec.ofInt_natCast, BitVec.toNat_ofNat]
  omega
theorem jm_tI {x : Int32} (h : x.toBitVec.toNat < 2147483648) : x.toInt = (x.toBitVec.toNat : Int) := by
  show x.toBitVec.toInt = _
  exact BitVec.toInt_eq_toNat_of_lt (by omega)
theorem jm_andN {n m : Nat} (hn : n < 2147483648) (hm : m < 2147483648) : jm_and n m = ((n &&& m : Nat) : Int) := by
  have e : ((Int32.ofInt (n : Int) &&& Int32.ofInt (m : Int)).toBitVec).toNat = n &&& m := by
    rw [Int32.toBitVec_and, BitVec.toNat_and, jm_nN hn, jm_nN hm]
  have hl : n &&& m < 2147483648 := Nat.lt_of_le_of_lt Nat.and_le_left hn
  unfold jm_and
  rw [jm_tI (by rw [e]; exact hl), e]
theorem jm_orN {n m : Nat} (hn : n < 2147483648) (hm : m < 2147483648) : jm_or n m = ((n ||| m : Nat) : Int) := by
  have e : ((Int32.ofInt (n : Int) ||| Int32.ofInt (m : Int)).toBitVec).toNat = n ||| m := by
    rw [Int32.toBitVec_or, BitVec.toNat_or, jm_nN hn, jm_nN hm]
  have hl : n ||| m < 2147483648 := Nat.or_lt_two_pow (n := 31) hn hm
  unfold jm_or
  rw [jm_tI (by rw [e]; exact hl), e]
theorem jm_and255 (a : Int) : 0 ≤ jm_and a 255 ∧ jm_and a 255 ≤ 255 := by
  have e : ((Int32.ofInt a &&& Int32.ofInt 255).toBitVec).toNat ≤ 255 := by
    rw [Int32.toBitVec_and, BitVec.toNat_and]
    exact Nat.le_trans Nat.and_le_right (by decide)
  unfold jm_and
  rw [jm_tI (by omega)]
  omega
theorem jm_b255 : ∀ i : Nat, i < 32 → 8 ≤ i → (255#32).getLsbD i = false := by decide
theorem jm_ush (x : BitVec 32) (s : Nat) (hs : s ≤ 24) : (x >>> s) &&& 255#32 = (x.sshiftRight s) &&& 255#32 := by
  apply BitVec.eq_of_getLsbD_eq
  intro i hi
  rw [BitVec.getLsbD_and, BitVec.getLsbD_and, BitVec.getLsbD_ushiftRight, BitVec.getLsbD_sshiftRight]
  by_cases h8 : i < 8
  · have h1 : s + i < 32 := by omega
    simp [h1, hi, show ¬ (32 ≤ i) by omega]
  · rw [jm_b255 i hi (by omega)]
    simp
theorem jm_ush24 (v : Int) : jm_and (jm_ushr v 24) 255 = jm_and (jm_shr v 24) 255 := by
  unfold jm_and jm_ushr jm_shr
  rw [Int32.ofInt_toInt, Int32.ofInt_toInt]
  congr 1
  apply Int32.toBitVec_inj.1
  exact jm_ush (Int32.ofInt v).toBitVec 24 (by decide)
theorem jm_ush16 (v : Int) : jm_and (jm_ushr v 16) 255 = jm_and (jm_shr v 16) 255 := by
  unfold jm_and jm_ushr jm_shr
  rw [Int32.ofInt_toInt, Int32.ofInt_toInt]
  congr 1
  apply Int32.toBitVec_inj.1
  exact jm_ush (Int32.ofInt v).toBitVec 16 (by decide)
theorem jm_ush8 (v : Int) : jm_and (jm_ushr v 8) 255 = jm_and (jm_shr v 8) 255 := by
  unfold jm_and jm_ushr jm_shr
  rw [Int32.ofInt_toInt, Int32.ofInt_toInt]
  congr 1
  apply Int32.toBitVec_inj.1
  exact jm_ush (Int32.ofInt v).toBitVec 8 (by decide)
theorem jm_ush0 (v : Int) : jm_and (jm_ushr v 0) 255 = jm_and (jm_shr v 0) 255 := by
  unfold jm_and jm_ushr jm_shr
  rw [Int32.ofInt_toInt, Int32.ofInt_toInt]
  congr 1
  apply Int32.toBitVec_inj.1
  exact jm_ush (Int32.ofInt v).toBitVec 0 (by decide)
end BT
