section PO
variable {l : Launch} {gC gR : jm_G} {d : Nat} {mu nu m n : jm_M} {v1 v2 v3 v4 v5 : Int} {Q : Option Value → jm_M → Prop}
theorem po8 {a r : Nat} (h : a < 256) : (a + 256 * r) / 2 ^ 8 = r := by omega
theorem po16 {a b r : Nat} (h : a < 256) (hb : b < 256) : (a + 256 * (b + 256 * r)) / 2 ^ 16 = r := by
  rw [show (2 : Nat) ^ 16 = 2 ^ 8 * 2 ^ 8 by decide, ← Nat.div_div_eq_div_mul, po8 h, po8 hb]
theorem po32 {a b c e r : Nat} (h : a < 256) (hb : b < 256) (hc : c < 256) (he : e < 256) : (a + 256 * (b + 256 * (c + 256 * (e + 256 * r)))) / 2 ^ 32 = r := by
  rw [show (2 : Nat) ^ 32 = 2 ^ 16 * 2 ^ 16 by decide, ← Nat.div_div_eq_div_mul, po16 h hb, po16 hc he]
theorem pol {a r k : Nat} (h : a < 128) (hr : r < k) : a + 256 * r < 256 * k := by omega
theorem pom {a b c e r : Nat} (h : a < 128) (hb : b < 128) (hc : c < 128) (he : e < 128) : (a + 256 * (b + 256 * (c + 256 * (e + 256 * r)))) % 4294967296 < 2147483648 := by
  have q : a + 256 * (b + 256 * (c + 256 * (e + 256 * r))) = (a + 256 * (b + 256 * (c + 256 * e))) + 4294967296 * r := by omega
  have lt : a + 256 * (b + 256 * (c + 256 * e)) < 2147483648 := by omega
  rw [q, Nat.add_mul_mod_self_left, Nat.mod_eq_of_lt (by omega)]
  exact lt
theorem po7 {a r : Nat} (h : a < 128) : (a + 256 * r) % 128 = a := by omega
theorem pob {a0 a1 a2 a3 a4 a5 a6 a7 : Nat} (h : a0 ≤ 64 ∧ a1 ≤ 64 ∧ a2 ≤ 64 ∧ a3 ≤ 64 ∧ a4 ≤ 64 ∧ a5 ≤ 64 ∧ a6 ≤ 64 ∧ a7 ≤ 60) : a0 + 256 * (a1 + 256 * (a2 + 256 * (a3 + 256 * (a4 + 256 * (a5 + 256 * (a6 + 256 * a7)))))) < 2 ^ 62 := by
  have b6 : a6 + 256 * a7 < 2 ^ 14 := by omega
  have b5 : a5 + 256 * (a6 + 256 * a7) < 2 ^ 22 := by omega
  have b4 : a4 + 256 * (a5 + 256 * (a6 + 256 * a7)) < 2 ^ 30 := by omega
  have b3 : a3 + 256 * (a4 + 256 * (a5 + 256 * (a6 + 256 * a7))) < 2 ^ 38 := by omega
  have b2 : a2 + 256 * (a3 + 256 * (a4 + 256 * (a5 + 256 * (a6 + 256 * a7)))) < 2 ^ 46 := by omega
  have b1 : a1 + 256 * (a2 + 256 * (a3 + 256 * (a4 + 256 * (a5 + 256 * (a6 + 256 * a7))))) < 2 ^ 54 := by omega
  omega
theorem poA1 {e0 e1 e2 e3 e4 e5 e6 e7 : Nat} : ((e0) + 256 * ((e1) + 256 * ((e2) + 256 * ((e3) + 256 * ((e4) + 256 * ((e5) + 256 * ((e6) + 256 * ((e7))))))))) + ((e1) + 256 * ((e2) + 256 * ((e3) + 256 * ((e4) + 256 * ((e5) + 256 * ((e6) + 256 * ((e7)))))))) = (e0 + e1) + 256 * ((e1 + e2) + 256 * ((e2 + e3) + 256 * ((e3 + e4) + 256 * ((e4 + e5) + 256 * ((e5 + e6) + 256 * ((e6 + e7) + 256 * ((e7)))))))) := by omega
theorem poA2 {f0 f1 f2 f3 f4 f5 f6 f7 : Nat} : ((f0) + 256 * ((f1) + 256 * ((f2) + 256 * ((f3) + 256 * ((f4) + 256 * ((f5) + 256 * ((f6) + 256 * ((f7))))))))) + ((f2) + 256 * ((f3) + 256 * ((f4) + 256 * ((f5) + 256 * ((f6) + 256 * ((f7))))))) = (f0 + f2) + 256 * ((f1 + f3) + 256 * ((f2 + f4) + 256 * ((f3 + f5) + 256 * ((f4 + f6) + 256 * ((f5 + f7) + 256 * ((f6) + 256 * ((f7)))))))) := by omega
theorem poA3 {g0 g1 g2 g3 g4 g5 g6 g7 : Nat} : ((g0) + 256 * ((g1) + 256 * ((g2) + 256 * ((g3) + 256 * ((g4) + 256 * ((g5) + 256 * ((g6) + 256 * ((g7))))))))) + ((g4) + 256 * ((g5) + 256 * ((g6) + 256 * ((g7))))) = (g0 + g4) + 256 * ((g1 + g5) + 256 * ((g2 + g6) + 256 * ((g3 + g7) + 256 * ((g4) + 256 * ((g5) + 256 * ((g6) + 256 * ((g7)))))))) := by omega
theorem po_1 {e0 e1 e2 e3 e4 e5 e6 e7 : Nat} (hB : e0 ≤ 8 ∧ e1 ≤ 8 ∧ e2 ≤ 8 ∧ e3 ≤ 8 ∧ e4 ≤ 8 ∧ e5 ≤ 8 ∧ e6 ≤ 8 ∧ e7 ≤ 8) : ((e0) + 256 * ((e1) + 256 * ((e2) + 256 * ((e3) + 256 * ((e4) + 256 * ((e5) + 256 * ((e6) + 256 * ((e7))))))))) + ((e0) + 256 * ((e1) + 256 * ((e2) + 256 * ((e3) + 256 * ((e4) + 256 * ((e5) + 256 * ((e6) + 256 * ((e7))))))))) / 2 ^ 8 = ((e0 + e1)) + 256 * (((e1 + e2)) + 256 * (((e2 + e3)) + 256 * (((e3 + e4)) + 256 * (((e4 + e5)) + 256 * (((e5 + e6)) + 256 * (((e6 + e7)) + 256 * ((e7)))))))) := by
  rw [po8 (by omega)]
  exact poA1
theorem po_2 {e0 e1 e2 e3 e4 e5 e6 e7 : Nat} (hB : e0 ≤ 8 ∧ e1 ≤ 8 ∧ e2 ≤ 8 ∧ e3 ≤ 8 ∧ e4 ≤ 8 ∧ e5 ≤ 8 ∧ e6 ≤ 8 ∧ e7 ≤ 8) : (((e0 + e1)) + 256 * (((e1 + e2)) + 256 * (((e2 + e3)) + 256 * (((e3 + e4)) + 256 * (((e4 + e5)) + 256 * (((e5 + e6)) + 256 * (((e6 + e7)) + 256 * ((e7))))))))) + (((e0 + e1)) + 256 * (((e1 + e2)) + 256 * (((e2 + e3)) + 256 * (((e3 + e4)) + 256 * (((e4 + e5)) + 256 * (((e5 + e6)) + 256 * (((e6 + e7)) + 256 * ((e7))))))))) / 2 ^ 16 = (((e0 + e1) + (e2 + e3))) + 256 * ((((e1 + e2) + (e3 + e4))) + 256 * ((((e2 + e3) + (e4 + e5))) + 256 * ((((e3 + e4) + (e5 + e6))) + 256 * ((((e4 + e5) + (e6 + e7))) + 256 * ((((e5 + e6) + e7)) + 256 * (((e6 + e7)) + 256 * ((e7)))))))) := by
  rw [po16 (by omega) (by omega)]
  exact poA2
theorem po_3 {e0 e1 e2 e3 e4 e5 e6 e7 : Nat} (hB : e0 ≤ 8 ∧ e1 ≤ 8 ∧ e2 ≤ 8 ∧ e3 ≤ 8 ∧ e4 ≤ 8 ∧ e5 ≤ 8 ∧ e6 ≤ 8 ∧ e7 ≤ 8) : ((((e0 + e1) + (e2 + e3))) + 256 * ((((e1 + e2) + (e3 + e4))) + 256 * ((((e2 + e3) + (e4 + e5))) + 256 * ((((e3 + e4) + (e5 + e6))) + 256 * ((((e4 + e5) + (e6 + e7))) + 256 * ((((e5 + e6) + e7)) + 256 * (((e6 + e7)) + 256 * ((e7))))))))) + ((((e0 + e1) + (e2 + e3))) + 256 * ((((e1 + e2) + (e3 + e4))) + 256 * ((((e2 + e3) + (e4 + e5))) + 256 * ((((e3 + e4) + (e5 + e6))) + 256 * ((((e4 + e5) + (e6 + e7))) + 256 * ((((e5 + e6) + e7)) + 256 * (((e6 + e7)) + 256 * ((e7))))))))) / 2 ^ 32 = ((((e0 + e1) + (e2 + e3)) + ((e4 + e5) + (e6 + e7)))) + 256 * (((((e1 + e2) + (e3 + e4)) + ((e5 + e6) + e7))) + 256 * (((((e2 + e3) + (e4 + e5)) + (e6 + e7))) + 256 * (((((e3 + e4) + (e5 + e6)) + e7)) + 256 * ((((e4 + e5) + (e6 + e7))) + 256 * ((((e5 + e6) + e7)) + 256 * (((e6 + e7)) + 256 * ((e7)))))))) := by
  rw [po32 (by omega) (by omega) (by omega) (by omega)]
  exact poA3
theorem po_b0 {e0 e1 e2 e3 e4 e5 e6 e7 : Nat} (hB : e0 ≤ 8 ∧ e1 ≤ 8 ∧ e2 ≤ 8 ∧ e3 ≤ 8 ∧ e4 ≤ 8 ∧ e5 ≤ 8 ∧ e6 ≤ 8 ∧ e7 ≤ 8) : (e0) + 256 * ((e1) + 256 * ((e2) + 256 * ((e3) + 256 * ((e4) + 256 * ((e5) + 256 * ((e6) + 256 * ((e7)))))))) < 2 ^ 62 := pob ⟨by omega, by omega, by omega, by omega, by omega, by omega, by omega, by omega⟩
theorem po_b1 {e0 e1 e2 e3 e4 e5 e6 e7 : Nat} (hB : e0 ≤ 8 ∧ e1 ≤ 8 ∧ e2 ≤ 8 ∧ e3 ≤ 8 ∧ e4 ≤ 8 ∧ e5 ≤ 8 ∧ e6 ≤ 8 ∧ e7 ≤ 8) : ((e0 + e1)) + 256 * (((e1 + e2)) + 256 * (((e2 + e3)) + 256 * (((e3 + e4)) + 256 * (((e4 + e5)) + 256 * (((e5 + e6)) + 256 * (((e6 + e7)) + 256 * ((e7)))))))) < 2 ^ 62 := pob ⟨by omega, by omega, by omega, by omega, by omega, by omega, by omega, by omega⟩
theorem po_b2 {e0 e1 e2 e3 e4 e5 e6 e7 : Nat} (hB : e0 ≤ 8 ∧ e1 ≤ 8 ∧ e2 ≤ 8 ∧ e3 ≤ 8 ∧ e4 ≤ 8 ∧ e5 ≤ 8 ∧ e6 ≤ 8 ∧ e7 ≤ 8) : (((e0 + e1) + (e2 + e3))) + 256 * ((((e1 + e2) + (e3 + e4))) + 256 * ((((e2 + e3) + (e4 + e5))) + 256 * ((((e3 + e4) + (e5 + e6))) + 256 * ((((e4 + e5) + (e6 + e7))) + 256 * ((((e5 + e6) + e7)) + 256 * (((e6 + e7)) + 256 * ((e7)))))))) < 2 ^ 62 := pob ⟨by omega, by omega, by omega, by omega, by omega, by omega, by omega, by omega⟩
theorem po_b3 {e0 e1 e2 e3 e4 e5 e6 e7 : Nat} (hB : e0 ≤ 8 ∧ e1 ≤ 8 ∧ e2 ≤ 8 ∧ e3 ≤ 8 ∧ e4 ≤ 8 ∧ e5 ≤ 8 ∧ e6 ≤ 8 ∧ e7 ≤ 8) : ((((e0 + e1) + (e2 + e3)) + ((e4 + e5) + (e6 + e7)))) + 256 * (((((e1 + e2) + (e3 + e4)) + ((e5 + e6) + e7))) + 256 * (((((e2 + e3) + (e4 + e5)) + (e6 + e7))) + 256 * (((((e3 + e4) + (e5 + e6)) + e7)) + 256 * ((((e4 + e5) + (e6 + e7))) + 256 * ((((e5 + e6) + e7)) + 256 * (((e6 + e7)) + 256 * ((e7)))))))) < 2 ^ 62 := pob ⟨by omega, by omega, by omega, by omega, by omega, by omega, by omega, by omega⟩
theorem po_m {e0 e1 e2 e3 e4 e5 e6 e7 : Nat} (hB : e0 ≤ 8 ∧ e1 ≤ 8 ∧ e2 ≤ 8 ∧ e3 ≤ 8 ∧ e4 ≤ 8 ∧ e5 ≤ 8 ∧ e6 ≤ 8 ∧ e7 ≤ 8) : (((((e0 + e1) + (e2 + e3)) + ((e4 + e5) + (e6 + e7)))) + 256 * (((((e1 + e2) + (e3 + e4)) + ((e5 + e6) + e7))) + 256 * (((((e2 + e3) + (e4 + e5)) + (e6 + e7))) + 256 * (((((e3 + e4) + (e5 + e6)) + e7)) + 256 * ((((e4 + e5) + (e6 + e7))) + 256 * ((((e5 + e6) + e7)) + 256 * (((e6 + e7)) + 256 * ((e7))))))))) % 4294967296 < 2147483648 := pom (by omega) (by omega) (by omega) (by omega)
theorem po_s {e0 e1 e2 e3 e4 e5 e6 e7 : Nat} (hB : e0 ≤ 8 ∧ e1 ≤ 8 ∧ e2 ≤ 8 ∧ e3 ≤ 8 ∧ e4 ≤ 8 ∧ e5 ≤ 8 ∧ e6 ≤ 8 ∧ e7 ≤ 8) : (((((e0 + e1) + (e2 + e3)) + ((e4 + e5) + (e6 + e7)))) + 256 * (((((e1 + e2) + (e3 + e4)) + ((e5 + e6) + e7))) + 256 * (((((e2 + e3) + (e4 + e5)) + (e6 + e7))) + 256 * (((((e3 + e4) + (e5 + e6)) + e7)) + 256 * ((((e4 + e5) + (e6 + e7))) + 256 * ((((e5 + e6) + e7)) + 256 * (((e6 + e7)) + 256 * ((e7))))))))) % 128 = e0 + e1 + e2 + e3 + e4 + e5 + e6 + e7 := by
  rw [po7 (by omega)]
  omega
theorem pop_s {X3 e0 e1 e2 e3 e4 e5 e6 e7 : Nat} (hE : X3 = (e0) + 256 * ((e1) + 256 * ((e2) + 256 * ((e3) + 256 * ((e4) + 256 * ((e5) + 256 * ((e6) + 256 * ((e7))))))))) (hB : e0 ≤ 8 ∧ e1 ≤ 8 ∧ e2 ≤ 8 ∧ e3 ≤ 8 ∧ e4 ≤ 8 ∧ e5 ≤ 8 ∧ e6 ≤ 8 ∧ e7 ≤ 8) {X4 X5 X6 : Nat} (h4 : X4 = X3 + X3 / 2 ^ 8) (h5 : X5 = X4 + X4 / 2 ^ 16) (h6 : X6 = X5 + X5 / 2 ^ 32) : X3 < 2 ^ 62 ∧ X4 < 2 ^ 62 ∧ X5 < 2 ^ 62 ∧ X6 < 2 ^ 62 ∧ X6 % 4294967296 < 2147483648 ∧ X6 % 128 = e0 + e1 + e2 + e3 + e4 + e5 + e6 + e7 := by
  rw [hE, po_1 hB] at h4
  rw [h4, po_2 hB] at h5
  rw [h5, po_3 hB] at h6
  rw [hE, h4, h5, h6]
  exact ⟨po_b0 hB, po_b1 hB, po_b2 hB, po_b3 hB, po_m hB, po_s hB⟩
theorem t63 {x : Nat} (h : x < 2 ^ 63) : x < 2 ^ 64 := by omega
theorem t62 {x : Nat} (h : x < 2 ^ 62) : x < 2 ^ 64 := by omega
theorem tdv {x k : Nat} (h : x < 2 ^ 64) : x / k < 2 ^ 64 := Nat.lt_of_le_of_lt (Nat.div_le_self _ _) h
theorem tsu {x k : Nat} (h : x < 2 ^ 64) : x - k < 2 ^ 64 := Nat.lt_of_le_of_lt (Nat.sub_le _ _) h
theorem sJ13_bitCount (hC : jm_HC gC) {n : Nat} (hn : n < 2 ^ 63) (h : Q (some (jm_i (cnt (fun z => n.testBit z) 64))) mu) : jm_R l gC (d + 1) iJ13_bitCount_95d88 [.long (lgo n)] mu Q := by
  obtain ⟨X3, e0, e1, e2, e3, e4, e5, e6, e7, ⟨hX, hl, h2, h3⟩, hE, hB, hS⟩ := pop_n hn
  refine eJ13_bitCount_95d88 (fun x1 q1 x2 q2 x3 q3 x4 q4 x5 q5 x6 q6 => ?_)
  have k1 : (6148914691236517205 : Int64) = lgo 6148914691236517205 := by decide +kernel
  have k2 : (3689348814741910323 : Int64) = lgo 3689348814741910323 := by decide +kernel
  have k3 : (1085102592571150095 : Int64) = lgo 1085102592571150095 := by decide +kernel
  rw [lgo_u (s := 1) (t63 hn) (by decide) (by decide +kernel), k1, lgo_and (tdv (t63 hn)) (by decide), lgo_sub (t63 hn) hl] at q1
  rw [q1, lgo_u (s := 2) (tsu (t63 hn)) (by decide) (by decide +kernel), k2, lgo_and (tsu (t63 hn)) (by decide), lgo_and (tdv (tsu (t63 hn))) (by decide), lgo_add (t63 h2)] at q2
  rw [q2, lgo_u (s := 4) (t63 h2) (by decide) (by decide +kernel), k3, lgo_add h3, lgo_and h3 (by decide), ← hX] at q3
  have ps := pop_s hE hB (X4 := X3 + X3 / 2 ^ 8) rfl rfl rfl
  rw [q3, lgo_u (s := 8) (t62 ps.1) (by decide) (by decide +kernel), lgo_add (t62 ps.2.1)] at q4
  rw [q4, lgo_u (s := 16) (t62 ps.2.1) (by decide) (by decide +kernel), lgo_add (t62 ps.2.2.1)] at q5
  rw [q5, lgo_u (s := 32) (t62 ps.2.2.1) (by decide) (by decide +kernel), lgo_add (t62 ps.2.2.2.1)] at q6
  have N6 : ∃ N : Nat, x6 = lgo N ∧ N < 2 ^ 64 ∧ N % 4294967296 < 2147483648 ∧ N % 128 = e0 + e1 + e2 + e3 + e4 + e5 + e6 + e7 := by
    exact ⟨_, q6, t62 ps.2.2.2.1, ps.2.2.2.2.1, ps.2.2.2.2.2⟩
  obtain ⟨N, qN, N1, N2, N3⟩ := N6
  clear q1 q2 q3 q4 q5 q6 ps hX hl h2 h3 hE hB
  have tn : (Int64.toInt32 x6).toBitVec.toNat = N % 4294967296 := by
    have e : (Int64.toInt32 x6).toBitVec = x6.toBitVec.signExtend 32 := rfl
    rw [e, BitVec.signExtend_eq_setWidth_of_le _ (by decide), BitVec.toNat_setWidth, qN, lgo_t N1]
  have ti := jm_tI (x := Int64.toInt32 x6) (by rw [tn]; exact N2)
  rw [tn] at ti
  have an := jm_andM (a := ((N % 4294967296 : Nat) : Int)) (Int.natCast_nonneg _) (by clear hS hn ti tn; omega) 7 (by decide)
  rw [show (2 : Int) ^ 7 - 1 = 127 by decide] at an
  rw [ti, an]
  have fe : ((N % 4294967296 : Nat) : Int) % 2 ^ 7 = cnt (fun z => n.testBit z) 64 := by
    rw [← hS, ← N3]
    show _ % (128 : Int) = _
    clear hS hn ti tn an N1
    omega
  rw [fe]
  exact h
end PO
