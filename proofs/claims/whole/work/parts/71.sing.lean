section SG
variable {l : Launch} {gC gR : jm_G} {d : Nat} {mu nu m n : jm_M} {v1 v2 v3 v4 v5 : Int} {Q : Option Value → jm_M → Prop}
/-- may be called -/
def ccl (mu : jm_M) (w f key : Int) : Prop := sng mu w f key ∧ mu.1 29 4 < 20 ∧ mu.1 29 6 + (mu.1 13 (mot mu w f) + (mu.1 13 (mot mu w f) - 1) / mu.1 9 w) ≤ 200
theorem brs {x b : Int} (x0 : 0 ≤ x) (x8 : x ≤ 7) (b1 : 1 ≤ b) (b9 : b ≤ 9) : 0 ≤ x / b ∧ x / b ≤ 7 := by
  have h : b = 1 ∨ b = 2 ∨ b = 3 ∨ b = 4 ∨ b = 5 ∨ b = 6 ∨ b = 7 ∨ b = 8 ∨ b = 9 := by omega
  rcases h with h | h | h | h | h | h | h | h | h <;> · subst h; omega
theorem sX2_canBeCalled (hC : jm_HC gC) (hI : Iv mu nu) (r1 : jm_rg v1) (r2 : jm_rg v2) (r3 : jm_rg v3) (y : ccl mu v1 v2 v3 → Q (some (jm_i 1)) mu) (no : ¬ ccl mu v1 v2 v3 → Q (some (jm_i 0)) mu) : jm_R l gC (d + 7) iX2_canBeCalled [.ref 37, jm_i v1, jm_i v2, jm_i v3] mu Q := by
  have hA := hI.1
  have hM := hI.2.1
  have mb := mot_bd hA v1 v2
  refine eX2_canBeCalled hC (sX0_motiveOf hC hA r1 r2 (jm_qiI ⟨by omega, by omega⟩ (eX0_canSing hC ⟨⟨by omega, by omega⟩, fun q => jm_qiI ⟨by decide, by decide⟩ ⟨fun _ => no (fun h => h.1.1 q), fun q => absurd rfl q⟩, fun q => ?_⟩)))
  obtain ⟨⟨⟨w0, w1⟩, f0, f5⟩, em, nc, ⟨m0, m1⟩, nz⟩ := mot_in hA q
  have lb := loK_bd hA hM w0 w1 m0 m1
  have hb := hiK_bd hA hM w0 w1 m0 m1
  have W8 := hA.1.2.1
  obtain ⟨-, -, -, B1, B9, -⟩ := hA.2.1 v1 w0 w1
  obtain ⟨n0, n8, -⟩ := hM.2.1 (mot mu v1 v2) m0 m1
  have k6 := hI.2.2.2.2.1.2.2.2.1
  refine sX0_lowestKey hC hA hM w0 w1 m0 m1 (jm_qiI ⟨by omega, by omega⟩ (sX0_highestKey hC hA hM w0 w1 m0 m1 (jm_qiI ⟨by omega, by omega⟩ ⟨r3, fun q2 => jm_qiI ⟨by decide, by decide⟩ ⟨fun r => absurd r (by decide), fun _ => ?_⟩, fun q2 => jm_qiI ⟨by decide, by decide⟩ ⟨fun _ => no (fun h => q2 ⟨h.1.2.1, h.1.2.2⟩), fun r => absurd rfl r⟩⟩)))
  refine eX2_barsOf hC ⟨⟨m0, m1⟩, fun x2 e2 => ⟨⟨w0, by omega⟩, fun x4 e4 => ⟨fun r => by omega, fun _ => ⟨⟨by omega, by omega⟩, by omega, ?_⟩⟩⟩⟩
  subst e2 e4
  rw [Int.tdiv_eq_ediv_of_nonneg (by omega)]
  have bq := brs (x := mu.1 13 (mot mu v1 v2) - 1) (b := mu.1 9 v1) (by omega) (by omega) B1 B9
  have sg : sng mu v1 v2 v3 := ⟨q, q2.1, q2.2⟩
  refine jm_qiI ⟨by omega, by omega⟩ (eX1_hasRoom hC ⟨fun r => jm_qiI ⟨by decide, by decide⟩ ⟨fun _ => no (fun h => ?_), fun r => absurd rfl r⟩, fun r => ⟨⟨by omega, by omega⟩, fun r2 => jm_qiI ⟨by decide, by decide⟩ ⟨fun _ => no (fun h => ?_), fun r => absurd rfl r⟩, fun r2 => jm_qiI ⟨by decide, by decide⟩ ⟨fun r => absurd r (by decide), fun _ => y ⟨sg, r, r2⟩⟩⟩⟩)
  · have := h.2.1; omega
  · have := h.2.2; omega
theorem ccl_in (hI : Iv mu nu) {w f key : Int} (h : ccl mu w f key) : (0 ≤ w ∧ w < mu.1 6 0) ∧ (0 ≤ f ∧ f ≤ 5) ∧ 0 ≤ key ∧ key ≤ 59 := by
  obtain ⟨⟨q, a, b⟩, -, -⟩ := h
  obtain ⟨⟨⟨w0, w1⟩, f0, f5⟩, em, nc, ⟨m0, m1⟩, nz⟩ := mot_in hI.1 q
  have lb := loK_bd hI.1 hI.2.1 w0 w1 m0 m1
  have hb := hiK_bd hI.1 hI.2.1 w0 w1 m0 m1
  exact ⟨⟨w0, w1⟩, ⟨f0, f5⟩, by omega, by omega⟩
theorem sX12_canCall (hR : jm_HR gR) (hI : Iv mu nu) (r1 : jm_rg v1) (r2 : jm_rg v2) (r3 : jm_rg v3) (y : ccl mu v1 v2 v3 → Q (some (jm_i 1)) nu) (no : ¬ ccl mu v1 v2 v3 → Q (some (jm_i 0)) nu) : jm_R l gR (d + 5) iX12_canCall [.ref 0, jm_i v1, jm_i v2, jm_i v3] nu Q := by
  have hA := hI.1
  have hM := hI.2.1
  have w4 := hA.1.2.2
  have W8 := hA.1.2.1
  obtain ⟨-, -, -, ⟨k6, k6', k3⟩, ⟨k4, k4', k44⟩, -⟩ := hI.2.2.2.2.1
  refine eX12_canCall hR ⟨r1, fun q => ⟨r2, fun q2 => ⟨r3, fun q3 => ?_, fun q3 => no (fun h => q3 (ccl_in hI h).2.2)⟩, fun q2 => no (fun h => q2 (by have := (ccl_in hI h).2.1; omega))⟩, fun q => no (fun h => q (by have := (ccl_in hI h).1; omega))⟩
  have w0 := q.1
  have w1 : v1 < mu.1 6 0 := by omega
  refine sX12_isSung hR hA hM w0 w1 q2.1 (by omega) ⟨by omega, by omega⟩ (fun s => jm_qiI ⟨by decide, by decide⟩ ⟨fun _ => ⟨fun r => no (fun h => ?_), fun r => ?_⟩, fun r => absurd r (by decide)⟩) (fun s => jm_qiI ⟨by decide, by decide⟩ ⟨fun r => absurd rfl r, fun _ => no (fun h => s h.1)⟩)
  · have := h.2.1; omega
  · obtain ⟨⟨-, f0, f5⟩, em, nc, ⟨m0, m1⟩, nz⟩ := mot_in hA s.1
    obtain ⟨-, -, -, B1, B9, -, -, B5⟩ := hA.2.1 v1 w0 w1
    obtain ⟨n0, n8, n17⟩ := hM.2.1 (mot mu v1 v2) m0 m1
    refine sX12_motiveOf hR hA hM w0 w1 q2.1 (by omega) (jm_qiI ⟨by omega, by omega⟩ ⟨⟨by omega, by omega⟩, ⟨w0, by omega⟩, ?_⟩)
    rw [n17, B5]
    have bq := brs (x := mu.1 13 (mot mu v1 v2) - 1) (b := mu.1 9 v1) (by omega) (by omega) B1 B9
    rw [Int.tdiv_eq_ediv_of_nonneg (by omega), k3]
    refine ⟨⟨by omega, by omega⟩, by omega, ⟨by omega, by omega⟩, fun r2 => no (fun h => ?_), fun r2 => y ⟨s, by omega, r2⟩⟩
    have := h.2.2
    have k3' : nu.1 1 3 = mu.1 29 6 := k3
    omega
/-- a testimony more -/
def cT (mu : jm_M) (t w f v s a b : Int) : jm_M := jm_wr (jm_wr (jm_wr (jm_wr (jm_wr (jm_wr (jm_wr (jm_wr mu 32 (t * 7 + 0) w) 32 (t * 7 + 1) f) 32 (t * 7 + 2) v) 32 (t * 7 + 3) s) 32 (t * 7 + 4) a) 32 (t * 7 + 5) b) 32 (t * 7 + 6) 0) 29 4 (t + 1)
def rT (nu : jm_M) (t w f v s a b : Int) : jm_M := jm_wr (jm_wr (jm_wr (jm_wr (jm_wr (jm_wr (jm_wr nu 24 (6 * t + 0) w) 24 (6 * t + 1) f) 24 (6 * t + 2) v) 24 (6 * t + 3) s) 24 (6 * t + 4) a) 24 (6 * t + 5) b) 1 4 (t + 1)
theorem jm_ediv0 {r : Int} {k : Nat} (h0 : 0 ≤ r) (h1 : r < 2 ^ k) : r / 2 ^ k = 0 := Int.ediv_eq_zero_of_lt h0 h1
theorem jm_z1 (x : Int) : ¬ (x = x + 1) := by omega
theorem jm_z2 (x : Int) : ¬ (x = x + 2) := by omega
theorem jm_z3 (x : Int) : ¬ (x = x + 3) := by omega
theorem jm_z4 (x : Int) : ¬ (x = x + 4) := by omega
theorem jm_z5 (x : Int) : ¬ (x = x + 5) := by omega
theorem jm_z6 (x : Int) : ¬ (x = x + 6) := by omega
theorem Iv.test (hI : Iv mu nu) {t w f v s a b : Int} (et : mu.1 29 4 = t) (t20 : t < 20) (w0 : 0 ≤ w) (w1 : w < mu.1 6 0) (f0 : 0 ≤ f) (f5 : f ≤ 5) (x0 : 0 ≤ v) (x3 : v ≤ 3) (s0 : 0 ≤ s) (s8 : s ≤ 8) (a0 : 0 ≤ a) (b0 : 0 ≤ b) (ab : a + b ≤ mu.1 29 6) : Iv (cT mu t w f v s a b) (rT nu t w f v s a b) := by
  obtain ⟨d0, d1, d2, d3, d4, d5, d6, d7, d8, d9, d10⟩ := hI.2.2.2.2.1
  rw [et] at d4 d5
  have clo : ∀ k, k < t * 7 → (cT mu t w f v s a b).1 32 k = mu.1 32 k := fun k hk => by
    unfold cT
    rw [jm_wrO (by decide), jm_wrI (by omega), jm_wrI (by omega), jm_wrI (by omega), jm_wrI (by omega), jm_wrI (by omega), jm_wrI (by omega), jm_wrI (by omega)]
  have cc : ∀ c, c ≠ 29 → c ≠ 32 → (cT mu t w f v s a b).1 c = mu.1 c := fun c h1 h2 => by
    funext i
    unfold cT
    rw [jm_wrO h1, jm_wrO h2, jm_wrO h2, jm_wrO h2, jm_wrO h2, jm_wrO h2, jm_wrO h2, jm_wrO h2]
  have c9 : ∀ i, i ≠ 4 → (cT mu t w f v s a b).1 29 i = mu.1 29 i := fun i hi => by
    unfold cT
    rw [jm_wrI hi, jm_wrO (by decide), jm_wrO (by decide), jm_wrO (by decide), jm_wrO (by decide), jm_wrO (by decide), jm_wrO (by decide), jm_wrO (by decide)]
  have c4 : (cT mu t w f v s a b).1 29 4 = t + 1 := by unfold cT; rw [jm_wrS]
  have rlo : ∀ k, k < 6 * t → (rT nu t w f v s a b).1 24 k = nu.1 24 k := fun k hk => by
    unfold rT
    rw [jm_wrO (by decide), jm_wrI (by omega), jm_wrI (by omega), jm_wrI (by omega), jm_wrI (by omega), jm_wrI (by omega), jm_wrI (by omega)]
  have rc : ∀ c, c ≠ 1 → c ≠ 24 → (rT nu t w f v s a b).1 c = nu.1 c := fun c h1 h2 => by
    funext i
    unfold rT
    rw [jm_wrO h1, jm_wrO h2, jm_wrO h2, jm_wrO h2, jm_wrO h2, jm_wrO h2, jm_wrO h2]
  have r1 : ∀ i, i ≠ 4 → (rT nu t w f v s a b).1 1 i = nu.1 1 i := fun i hi => by
    unfold rT
    rw [jm_wrI hi, jm_wrO (by decide), jm_wrO (by decide), jm_wrO (by decide), jm_wrO (by decide), jm_wrO (by decide), jm_wrO (by decide)]
  have r4 : (rT nu t w f v s a b).1 1 4 = t + 1 := by unfold rT; rw [jm_wrS]
  have p2 : (2 : Int) ^ t.toNat ≤ 2 ^ (t + 1).toNat := by
    rw [show (t + 1).toNat = t.toNat + 1 by omega, Int.pow_succ]
    have : (0 : Int) < 2 ^ t.toNat := Int.pow_pos (by decide)
    omega
  refine hI.gr ⟨fun c i hc => ?_, ⟨by omega, by rw [c9 6 (by decide)]; exact Int.le_refl _, by rw [c9 8 (by decide)]; exact Int.le_refl _⟩, fun c i hc => ?_, fun k k0 k1 => rlo k (by omega), fun k _ _ => by rw [rc 25 (by decide) (by decide)], fun k _ _ => by rw [rc 26 (by decide) (by decide)]⟩ ?_
  · rw [cc c (fun q => by subst q; simp [fCg, jm_fC] at hc) (fun q => by subst q; simp [fCg, jm_fC] at hc)]
  · rw [rc c (fun q => by subst q; simp [fRg] at hc) (fun q => by subst q; simp [fRg] at hc)]
  · unfold IC
    rw [cc 6 (by decide) (by decide), rc 25 (by decide) (by decide), rc 26 (by decide) (by decide)]
    refine ⟨by rw [c9 1 (by decide), r1 0 (by decide)]; exact d0, by rw [c9 0 (by decide), r1 1 (by decide)]; exact d1, by rw [c9 8 (by decide), r1 2 (by decide)]; exact d2, by rw [c9 6 (by decide), r1 3 (by decide)]; exact d3, by rw [c4, r4]; omega, by rw [c4, r1 5 (by decide)]; omega, fun y y0 y1 => ?_, fun i i0 i1 => ?_, fun i j i0 i1 j0 j1 => ?_, ?_, ?_⟩
    · rw [cc (29 + 1) (by decide) (by decide), cc (29 + 2) (by decide) (by decide), r1 (6 + y) (by omega), r1 (14 + y) (by omega)]
      exact d6 y y0 y1
    · rw [c4] at i1
      rw [c9 6 (by decide), r1 5 (by decide)]
      show (0 ≤ (cT mu t w f v s a b).1 32 (i * 7) ∧ (cT mu t w f v s a b).1 32 (i * 7) < mu.1 6 0) ∧ (0 ≤ (cT mu t w f v s a b).1 32 (i * 7 + 1) ∧ (cT mu t w f v s a b).1 32 (i * 7 + 1) ≤ 5) ∧ (0 ≤ (cT mu t w f v s a b).1 32 (i * 7 + 2) ∧ (cT mu t w f v s a b).1 32 (i * 7 + 2) ≤ 3) ∧ (0 ≤ (cT mu t w f v s a b).1 32 (i * 7 + 3) ∧ (cT mu t w f v s a b).1 32 (i * 7 + 3) ≤ 8) ∧ 0 ≤ (cT mu t w f v s a b).1 32 (i * 7 + 4) ∧ 0 ≤ (cT mu t w f v s a b).1 32 (i * 7 + 5) ∧ (cT mu t w f v s a b).1 32 (i * 7 + 4) + (cT mu t w f v s a b).1 32 (i * 7 + 5) ≤ mu.1 29 6 ∧ (cT mu t w f v s a b).1 32 (i * 7 + 6) = nu.1 1 5 / 2 ^ i.toNat % 2
      by_cases q : i = t
      · subst q
        rw [jm_ediv0 d5.1 d5.2]
        have u0 : (cT mu i w f v s a b).1 32 (i * 7) = w := by simp [cT, jm_wr, jm_z1, jm_z2, jm_z3, jm_z4, jm_z5, jm_z6]
        have u1 : (cT mu i w f v s a b).1 32 (i * 7 + 1) = f := by simp [cT, jm_wr]
        have u2 : (cT mu i w f v s a b).1 32 (i * 7 + 2) = v := by simp [cT, jm_wr]
        have u3 : (cT mu i w f v s a b).1 32 (i * 7 + 3) = s := by simp [cT, jm_wr]
        have u4 : (cT mu i w f v s a b).1 32 (i * 7 + 4) = a := by simp [cT, jm_wr]
        have u5 : (cT mu i w f v s a b).1 32 (i * 7 + 5) = b := by simp [cT, jm_wr]
        have u6 : (cT mu i w f v s a b).1 32 (i * 7 + 6) = 0 := by simp [cT, jm_wr]
        rw [u0, u1, u2, u3, u4, u5, u6]
        omega
      · rw [clo (i * 7) (by omega), clo (i * 7 + 1) (by omega), clo (i * 7 + 2) (by omega), clo (i * 7 + 3) (by omega), clo (i * 7 + 4) (by omega), clo (i * 7 + 5) (by omega), clo (i * 7 + 6) (by omega)]
        exact d7 i i0 (by omega)
    · rw [c4] at i1
      by_cases q : i = t
      · subst q
        have jj : j = 0 ∨ j = 1 ∨ j = 2 ∨ j = 3 ∨ j = 4 ∨ j = 5 := by omega
        rcases jj with h | h | h | h | h | h <;> · subst h; simp [cT, rT, jm_wr, jm_z1, jm_z2, jm_z3, jm_z4, jm_z5, jm_z6]
      · rw [rlo (6 * i + j) (by omega)]
        show _ = (cT mu t w f v s a b).1 32 (i * 7 + j)
        rw [clo (i * 7 + j) (by omega)]
        exact d8 i j i0 (by omega) j0 j1
    · rw [c9 6 (by decide), cc (29 + 4) (by decide) (by decide)]
      exact d9
    · rw [c9 8 (by decide), cc (29 + 5) (by decide) (by decide)]
      exact d10
theorem sX1_addTestimony (hC : jm_HC gC) (t0 : 0 ≤ mu.1 29 4) (t20 : mu.1 29 4 < 20) (r1 : jm_rg v1) (r2 : 0 ≤ v2 ∧ v2 < 24) (r3 : jm_rg v3) (r4 : 0 ≤ v4 ∧ v4 ≤ mu.1 29 6) (B : mu.1 29 6 ≤ 200) (h : Q none (cT mu (mu.1 29 4) v1 (v2 / 4) (v2 % 4) v3 v4 (mu.1 29 6 - v4))) : jm_R l gC (d + 1) iX1_addTestimony [.ref 29, jm_i v1, jm_i v2, jm_i v3, jm_i v4] mu Q := by
  refine eX1_addTestimony hC ⟨fun _ x1 e1 => ?_, fun q => by omega⟩
  subst e1
  have q1 : Int.tdiv v2 4 = v2 / 4 := Int.tdiv_eq_ediv_of_nonneg r2.1
  have q2 : Int.tmod v2 4 = v2 % 4 := Int.tmod_eq_emod_of_nonneg r2.1
  rw [q1, q2]
  refine ⟨⟨by omega, by omega⟩, r1, fun m4 e4 => ⟨⟨by omega, by omega⟩, ⟨by omega, by omega⟩, ⟨by omega, by omega⟩, fun m9 e9 => ⟨⟨by omega, by omega⟩, ⟨by omega, by omega⟩, fun m13 e13 => ⟨⟨by omega, by omega⟩, r3, fun m17 e17 => ⟨⟨by omega, by omega⟩, ⟨by omega, by omega⟩, fun m21 e21 => ⟨⟨by omega, by omega⟩, ?_⟩⟩⟩⟩⟩⟩
  have f6 : m21.1 29 6 = mu.1 29 6 := by rw [e21, jm_wrO (by decide), e17, jm_wrO (by decide), e13, jm_wrO (by decide), e9, jm_wrO (by decide), e4, jm_wrO (by decide)]
  rw [f6]
  refine ⟨⟨by omega, by omega⟩, fun m25 e25 => ⟨⟨by omega, by omega⟩, fun m28 e28 => ?_⟩⟩
  have f4 : m28.1 29 4 = mu.1 29 4 := by rw [e28, jm_wrO (by decide), e25, jm_wrO (by decide), e21, jm_wrO (by decide), e17, jm_wrO (by decide), e13, jm_wrO (by decide), e9, jm_wrO (by decide), e4, jm_wrO (by decide)]
  rw [f4]
  refine ⟨⟨by omega, by omega⟩, fun m31 e31 => ?_⟩
  rw [e31, e28, e25, e21, e17, e13, e9, e4]
  exact h
end SG
