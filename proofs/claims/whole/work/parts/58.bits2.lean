section B2
theorem jm_sh32 : ∀ k : Fin 32, ((Int32.ofInt ((k.val : Nat) : Int) &&& 31).toBitVec.smod 32).toNat = k.val := by decide +kernel
theorem jm_shrB {a : Int} (ha : jm_rg a) (k : Nat) (hk : k < 32) : jm_shr a k = a / 2 ^ k := by
  have e : (Int32.ofInt a >>> (Int32.ofInt (k : Int) &&& 31)).toBitVec = (Int32.ofInt a).toBitVec.sshiftRight k := by
    rw [Int32.toBitVec_shiftRight]
    show (Int32.ofInt a).toBitVec.sshiftRight ((Int32.ofInt (k : Int) &&& 31).toBitVec.smod 32).toNat = _
    rw [jm_sh32 ⟨k, hk⟩]
  unfold jm_shr
  show (Int32.ofInt a >>> (Int32.ofInt (k : Int) &&& 31)).toBitVec.toInt = _
  rw [e, BitVec.toInt_sshiftRight]
  show (Int32.ofInt a).toInt >>> k = _
  rw [jm_ti ha, Int.shiftRight_eq_div_pow]
  norm_cast
theorem jm_shrV {a k : Int} (ha : jm_rg a) (k0 : 0 ≤ k) (k1 : k < 32) : jm_shr a k = a / 2 ^ k.toNat := by
  have := jm_shrB ha k.toNat (by omega)
  rwa [show ((k.toNat : Nat) : Int) = k by omega] at this
theorem jm_andM {a : Int} (h0 : 0 ≤ a) (h1 : a < 2147483648) (k : Nat) (hk : k < 31) : jm_and a (2 ^ k - 1) = a % 2 ^ k := by
  obtain ⟨n, rfl⟩ : ∃ n : Nat, a = n := ⟨a.toNat, by omega⟩
  have h2 : (2 : Nat) ^ k < 2147483648 := Nat.pow_lt_pow_right (by decide : 1 < 2) (by omega : k < 31)
  have h3 : 0 < (2 : Nat) ^ k := Nat.two_pow_pos k
  have hc : (((2 : Nat) ^ k : Nat) : Int) = (2 : Int) ^ k := Int.natCast_pow 2 k
  have e1 : ((2 : Int) ^ k - 1) = (((2 : Nat) ^ k - 1 : Nat) : Int) := by
    rw [← hc]
    omega
  rw [e1, jm_andN (by omega) (by omega), Nat.and_two_pow_sub_one_eq_mod, ← hc]
  rfl
theorem jm_and1 {a : Int} (h0 : 0 ≤ a) (h1 : a < 2147483648) : jm_and a 1 = a % 2 := jm_andM h0 h1 1 (by decide)
theorem jm_shlB (k : Nat) (hk : k < 31) : jm_shl 1 k = 2 ^ k := by
  have h : ∀ k : Fin 31, jm_shl 1 ((k.val : Nat) : Int) = 2 ^ k.val := by decide +kernel
  exact h ⟨k, hk⟩
end B2
