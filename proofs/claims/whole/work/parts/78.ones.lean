section ON
variable {l : Launch} {gC gR : jm_G} {d : Nat} {mu nu m n : jm_M} {v1 v2 v3 v4 v5 : Int} {Q : Option Value → jm_M → Prop}
/-- a bit of a set, and how many there are -/
def bt (s : Int) (w : Nat) : Int := s / 2 ^ w % 2
def pcn (s : Int) : Int := bt s 0 + bt s 1 + bt s 2 + bt s 3 + bt s 4 + bt s 5 + bt s 6 + bt s 7
theorem bt_01 (s : Int) (w : Nat) : bt s w = 0 ∨ bt s w = 1 := by unfold bt; omega
theorem pcn_b (s : Int) : 0 ≤ pcn s ∧ pcn s ≤ 8 := by
  have a0 := bt_01 s 0
  have a1 := bt_01 s 1
  have a2 := bt_01 s 2
  have a3 := bt_01 s 3
  have a4 := bt_01 s 4
  have a5 := bt_01 s 5
  have a6 := bt_01 s 6
  have a7 := bt_01 s 7
  unfold pcn
  omega
def bcE (v : Int) : Int :=
  let x1 := v - (jm_and (jm_ushr v 1) 1431655765)
  let x2 := (jm_and x1 858993459) + (jm_and (jm_ushr x1 2) 858993459)
  let x3 := jm_and (x2 + (jm_ushr x2 4)) 252645135
  let x4 := x3 + (jm_ushr x3 8)
  let x5 := x4 + (jm_ushr x4 16)
  jm_and x5 63
theorem bcE_e : ∀ k : Fin 256, bcE ((k.val : Nat) : Int) = pcn ((k.val : Nat) : Int) := by decide +kernel
theorem oneE : ∀ k : Fin 256, ¬ k.val = 0 → (0 ≤ jm_and ((k.val : Nat) : Int) (((k.val : Nat) : Int) - 1) ∧ jm_and ((k.val : Nat) : Int) (((k.val : Nat) : Int) - 1) < ((k.val : Nat) : Int)) ∧ pcn ((k.val : Nat) : Int) = pcn (jm_and ((k.val : Nat) : Int) (((k.val : Nat) : Int) - 1)) + 1 := by decide +kernel
theorem jm_bt {s : Int} {w : Int} (s0 : 0 ≤ s) (s1 : s < 256) (w0 : 0 ≤ w) (w1 : w < 32) : jm_and (jm_shr s w) 1 = bt s w.toNat := by
  rw [jm_shrV ⟨by omega, by omega⟩ w0 w1]
  have d0 : 0 ≤ s / 2 ^ w.toNat := Int.ediv_nonneg s0 (Int.pow_nonneg (by decide))
  have d1 : s / 2 ^ w.toNat ≤ s := Int.ediv_le_self _ s0
  exact jm_and1 d0 (by omega)
theorem sX12_onesOf (hR : jm_HR gR) (s0 : 0 ≤ v1) (s1 : v1 < 256) (h : Q (some (jm_i (pcn v1))) nu) : jm_R l gR (d + 1) iX12_onesOf [.ref 0, jm_i v1] nu Q := by
  have lp : ∀ (k : Nat) (c v : Int), 0 ≤ v → v < k → v < 256 → c + pcn v = pcn v1 → jm_V l gR (d + 1) iX12_onesOf 4 [(2, jm_i c), (3, jm_i v)] [] nu Q := by
    intro k
    induction k with
    | zero => intro c v a b; omega
    | succ k ih =>
      intro c v a b c1 e
      refine bX12_onesOf_4 hR ⟨⟨by omega, by omega⟩, fun q => ?_, fun q x2 e2 x3 e3 => ?_⟩
      · subst q
        have : pcn 0 = 0 := by decide
        rw [show c = pcn v1 by omega]
        exact h
      · have o := oneE ⟨v.toNat, by omega⟩ (by show ¬ v.toNat = 0; omega)
        have ev : ((v.toNat : Nat) : Int) = v := by omega
        have o : (0 ≤ jm_and v (v - 1) ∧ jm_and v (v - 1) < v) ∧ pcn v = pcn (jm_and v (v - 1)) + 1 := by
          simp only [ev] at o
          exact o
        rw [← e3] at o
        exact ih x2 x3 (by omega) (by omega) (by omega) (by omega)
  exact eX12_onesOf hR (lp 256 0 v1 s0 (by omega) s1 (by omega))
theorem sJ6_bitCount (hC : jm_HC gC) (s0 : 0 ≤ v1) (s1 : v1 < 256) (h : Q (some (jm_i (pcn v1))) mu) : jm_R l gC (d + 1) iJ6_bitCount_0f7a4 [jm_i v1] mu Q := by
  have e := bcE_e ⟨v1.toNat, by omega⟩
  have ev : ((v1.toNat : Nat) : Int) = v1 := by omega
  simp only [ev] at e
  refine eJ6_bitCount_0f7a4 (fun x1 e1 x2 e2 x3 e3 x4 e4 x5 e5 => ?_)
  rw [← e] at h
  subst e1 e2 e3 e4 e5
  exact h
theorem jm_shl8 {W : Int} (w0 : 0 ≤ W) (w8 : W ≤ 8) : jm_shl 1 W = 2 ^ W.toNat := by
  have := jm_shlB W.toNat (by omega)
  rwa [show ((W.toNat : Nat) : Int) = W by omega] at this
theorem p256 {W : Int} (w8 : W ≤ 8) : (1 : Int) ≤ 2 ^ W.toNat ∧ (2 : Int) ^ W.toNat ≤ 256 := by
  have h : W.toNat = 0 ∨ W.toNat = 1 ∨ W.toNat = 2 ∨ W.toNat = 3 ∨ W.toNat = 4 ∨ W.toNat = 5 ∨ W.toNat = 6 ∨ W.toNat = 7 ∨ W.toNat = 8 := by omega
  rcases h with h | h | h | h | h | h | h | h | h <;> rw [h] <;> decide
/-- a set within a set -/
theorem jm_within {s k : Nat} (hs : s < 256) (hk : k < 256) (h : jm_and s (jm_xor k (-1)) = 0) (w : Nat) (hw : s.testBit w = true) : k.testBit w = true := by
  unfold jm_and jm_xor at h
  rw [Int32.ofInt_toInt] at h
  have h0 : (Int32.ofInt (s : Int) &&& (Int32.ofInt (k : Int) ^^^ Int32.ofInt (-1))) = 0 := by
    apply Int32.toInt_inj.1
    exact h
  have h1 : (Int32.ofInt (s : Int) &&& (Int32.ofInt (k : Int) ^^^ Int32.ofInt (-1))).toBitVec = 0#32 := by rw [h0]; rfl
  have h2 : (Int32.ofInt (s : Int)).toBitVec &&& ((Int32.ofInt (k : Int)).toBitVec ^^^ BitVec.allOnes 32) = 0#32 := h1
  have w32 : w < 32 := by
    apply Decidable.byContradiction
    intro r
    have : s < 2 ^ w := Nat.lt_of_lt_of_le (by omega : s < 2 ^ 8) (Nat.pow_le_pow_right (by decide) (by omega))
    rw [Nat.testBit_lt_two_pow this] at hw
    cases hw
  have h3 := congrArg (fun b : BitVec 32 => b.getLsbD w) h2
  simp only [BitVec.getLsbD_and, BitVec.getLsbD_xor, BitVec.getLsbD_allOnes, BitVec.getLsbD_zero, w32, decide_true] at h3
  have es : (Int32.ofInt (s : Int)).toBitVec.getLsbD w = s.testBit w := by
    rw [← BitVec.testBit_toNat, jm_nN (by omega)]
  have ek : (Int32.ofInt (k : Int)).toBitVec.getLsbD w = k.testBit w := by
    rw [← BitVec.testBit_toNat, jm_nN (by omega)]
  rw [es, ek, hw] at h3
  simpa using h3
theorem bt_tb {s w : Nat} : bt (s : Int) w = if s.testBit w = true then 1 else 0 := by
  have e : bt (s : Int) w = ((s / 2 ^ w % 2 : Nat) : Int) := by
    unfold bt
    norm_cast
  rw [e, Nat.testBit_eq_decide_div_mod_eq]
  have : s / 2 ^ w % 2 < 2 := Nat.mod_lt _ (by decide)
  by_cases q : s / 2 ^ w % 2 = 1
  · rw [q]; simp
  · rw [show s / 2 ^ w % 2 = 0 by omega]; simp
end ON
