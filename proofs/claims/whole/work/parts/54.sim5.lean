section S5
variable {l : Launch} {gC gR : jm_G} {d : Nat} {mu nu : jm_M} {v1 v2 v3 v4 v5 : Int} {Q : Option Value → jm_M → Prop}
/-- a stretch of a row set to x -/
def jm_fill (mu : jm_M) (c : Nat) (a b x : Int) : jm_M := (fun k i => if k = c ∧ a ≤ i ∧ i < b then x else mu.1 k i, mu.2)
theorem jm_ag.fill {S : Nat → Int → Bool} {m n : jm_M} (h : jm_ag S m n) {c : Nat} {a b x : Int} (hs : ∀ i, S c i = false) : jm_ag S m (jm_fill n c a b x) := by
  intro k j hk
  rw [← h k j hk]
  show (if k = c ∧ a ≤ j ∧ j < b then x else n.1 k j) = n.1 k j
  rw [if_neg]
  rintro ⟨rfl, -⟩
  rw [hs j] at hk
  cases hk
theorem jm_fillS (mu : jm_M) (c : Nat) (a b x : Int) (h : a < b) : jm_fill (jm_wr mu c a x) c (a + 1) b x = jm_fill mu c a b x := by
  unfold jm_fill jm_wr
  congr 1
  funext k i
  show (if k = c ∧ a + 1 ≤ i ∧ i < b then x else if k = c ∧ i = a then x else mu.1 k i) = if k = c ∧ a ≤ i ∧ i < b then x else mu.1 k i
  by_cases h1 : k = c ∧ a ≤ i ∧ i < b
  · rw [if_pos h1]
    by_cases h2 : i = a
    · rw [if_neg (by omega), if_pos ⟨h1.1, h2⟩]
    · rw [if_pos ⟨h1.1, by omega, by omega⟩]
  · rw [if_neg h1, if_neg (fun q => h1 ⟨q.1, by omega, by omega⟩), if_neg (fun q => h1 ⟨q.1, by omega, by omega⟩)]
theorem jm_fill0 (mu : jm_M) (c : Nat) (a x : Int) : jm_fill mu c a a x = mu := by
  unfold jm_fill
  have e : (fun (k : Nat) (i : Int) => if k = c ∧ a ≤ i ∧ i < a then x else mu.1 k i) = mu.1 := by
    funext k i
    rw [if_neg (by omega)]
  rw [e]
theorem lX8_addWitness (hC : jm_HC gC) (n : Nat) : ∀ (mu : jm_M) (v5 : Int), (6 - v5).toNat = n → 0 ≤ v5 → v5 ≤ 6 → 0 ≤ v4 → v4 < 8 → mu.1 6 0 = v4 → Q (some (jm_i v4)) (jm_wr (jm_fill mu 10 (v4 * 6 + v5) (v4 * 6 + 6) (-1)) 6 0 (v4 + 1)) → jm_V l gC (d + 1) iX8_addWitness 33 [(0, .ref 6), (4, jm_i v4), (5, jm_i v5)] [] mu Q := by
  induction n with
  | zero =>
    intro mu v5 hn h0 h6 w0 w8 hw h
    have e : v5 = 6 := by omega
    subst e
    refine bX8_addWitness_33 hC ⟨⟨by decide, by decide⟩, fun _ => ⟨by rw [hw]; exact ⟨by omega, by omega⟩, fun m3 e3 => ?_⟩, fun r => absurd r (by decide)⟩
    subst e3
    rw [jm_fill0] at h
    rw [hw]
    exact h
  | succ n ih =>
    intro mu v5 hn h0 h6 w0 w8 hw h
    refine bX8_addWitness_33 hC ⟨⟨by omega, by omega⟩, fun r => by omega, fun r => ⟨⟨by omega, by omega⟩, fun m6 e6 => ?_⟩⟩
    subst e6
    refine ih _ (v5 + 1) (by omega) (by omega) (by omega) w0 w8 (by simpa [jm_wr] using hw) ?_
    have e := jm_fillS mu 10 (v4 * 6 + v5) (v4 * 6 + 6) (-1) (by omega)
    rw [show v4 * 6 + (v5 + 1) = v4 * 6 + v5 + 1 by omega, e]
    exact h
theorem lX12_witness (hR : jm_HR gR) (n : Nat) : ∀ (nu : jm_M) (v5 : Int), (6 - v5).toNat = n → 0 ≤ v5 → v5 ≤ 6 → 0 ≤ v4 → v4 < 8 → nu.1 0 4 = v4 → Q (some (jm_i v4)) (jm_wr (jm_wr (jm_fill nu 6 (6 * v4 + v5) (6 * v4 + 6) 0) 0 4 (v4 + 1)) 0 3 0) → jm_V l gR (d + 2) iX12_witness 104 [(0, .ref 0), (4, jm_i v4), (5, jm_i v5)] [] nu Q := by
  induction n with
  | zero =>
    intro nu v5 hn h0 h6 w0 w8 hw h
    have e : v5 = 6 := by omega
    subst e
    refine bX12_witness_104 hR ⟨⟨by decide, by decide⟩, fun _ => ⟨by rw [hw]; exact ⟨by omega, by omega⟩, fun m3 e3 m5 e5 => ?_⟩, fun r => absurd r (by decide)⟩
    subst e3
    subst e5
    rw [jm_fill0] at h
    rw [hw]
    exact h
  | succ n ih =>
    intro nu v5 hn h0 h6 w0 w8 hw h
    refine bX12_witness_104 hR ⟨⟨by omega, by omega⟩, fun r => by omega, fun r => ⟨⟨by omega, by omega⟩, fun m8 e8 => ?_⟩⟩
    subst e8
    refine ih _ (v5 + 1) (by omega) (by omega) (by omega) w0 w8 (by simpa [jm_wr] using hw) ?_
    have e := jm_fillS nu 6 (6 * v4 + v5) (6 * v4 + 6) 0 (by omega)
    rw [show 6 * v4 + (v5 + 1) = 6 * v4 + v5 + 1 by omega, e]
    exact h
theorem sim_witness (hC : jm_HC gC) (hR : jm_HR gR) (hI : Iv mu nu) (h1 : jm_rg v1) (h2 : jm_rg v2) (h3 : jm_rg v3) : jm_sim l gC gR (d + 3) (d + 2) iX11_witness iX12_witness [jm_i v1, jm_i v2, jm_i v3] mu nu := by
  obtain ⟨⟨w0, w1, w2⟩, a2, a3, a4, a5, a6, a7, a8⟩ := hI.1
  have e4 : (jm_wr nu 0 0 0).1 0 4 = mu.1 6 0 := by simpa [jm_wr] using w2
  have no : ¬ ((1 ≤ v1 ∧ v1 ≤ 60) ∧ (v1 ≤ v2 ∧ v2 ≤ 60) ∧ (1 ≤ v3 ∧ v3 ≤ 9) ∧ mu.1 6 0 < 8) → jm_qi (fun z m => jm_R l gR (d + 2) iX12_witness [.ref 0, jm_i v1, jm_i v2, jm_i v3] nu (jm_qi fun y n => y = z ∧ Iv m n)) (some (jm_i (-1))) mu := by
    intro q
    refine jm_qiI ⟨by decide, by decide⟩ (eX12_witness hR (fun m1 e1 => ?_))
    subst e1
    have fi := jm_fin (z := -1) (y := -1) (F := fun n => Iv mu n) ⟨by decide, by decide⟩ rfl hI.t0
    refine ⟨h1, fun r1 => ⟨h2, fun r2 => ⟨h3, fun r3 => ⟨fun r4 => absurd (⟨r1, r2, r3, by omega⟩ : _ ∧ _ ∧ _ ∧ _) q, fun _ => fi⟩, fun _ => fi⟩, fun _ => fi⟩, fun _ => fi⟩
  refine eX11_witness hC ⟨h1, fun q1 => ⟨h2, fun q2 => ⟨fun r => no (by omega), fun q3 => ⟨h3, fun q4 => ⟨fun q5 => ?_, fun r => no (by omega)⟩, fun r => no (fun k => r k.2.2.1)⟩⟩, fun r => no (by omega)⟩, fun r => no (fun k => r k.1)⟩
  refine eX8_addWitness hC (fun x1 e1 => ?_)
  subst e1
  refine ⟨⟨w0, q5⟩, h1, fun m4 e4' => ⟨h2, fun m7 e7 => ⟨h3, fun m10 e10 => ?_⟩⟩⟩
  subst e4'
  subst e7
  subst e10
  refine lX8_addWitness hC 6 _ 0 (by decide) (by decide) (by decide) w0 q5 (by simp [jm_wr]) (jm_qiI ⟨by omega, by omega⟩ ⟨⟨w0, q5⟩, fun m9 e9 m11 e11 m13 e13 => ?_⟩)
  subst e9
  subst e11
  subst e13
  refine jm_qiI ⟨by omega, by omega⟩ (eX12_witness hR (fun m1 e1 => ?_))
  subst e1
  refine ⟨h1, fun _ => ⟨h2, fun _ => ⟨h3, fun _ => ⟨fun _ x6 e6 => ?_, fun r => by omega⟩, fun r => absurd q4 r⟩, fun r => by omega⟩, fun r => absurd q1 r⟩
  rw [e4] at e6
  subst e6
  refine ⟨⟨w0, q5⟩, fun m8 e8 m10 e10 m12 e12 => ⟨⟨by omega, by omega⟩, fun m15 e15 => ⟨⟨by omega, by omega⟩, fun m18 e18 => ?_⟩⟩⟩
  subst e8
  subst e10
  subst e12
  subst e15
  subst e18
  refine lX12_witness hR 6 _ 0 (by decide) (by decide) (by decide) w0 q5 (by simpa [jm_wr] using w2) ?_
  obtain ⟨i1, i2, i3, i4, i5, i6, i7, i8⟩ := hI
  have g6 : ∀ {S : Nat → Int → Bool} {m : jm_M} {a b c e f g h : Int}, S 7 a = false → S 8 a = false → S 9 a = false → (∀ i, S 10 i = false) → S 6 0 = false → S 30 a = false → S 31 a = false → S 0 15 = false → S 0 16 = false → jm_ag S m (jm_wr (jm_wr (jm_wr (jm_wr (jm_wr (jm_fill (jm_wr (jm_wr (jm_wr m 7 a b) 8 a c) 9 a e) 10 f g (-1)) 6 0 h) 30 a 50) 31 a 0) 0 15 0) 0 16 0) := fun x1 x2 x3 x4 x5 x6 x7 x8 x9 => (((((((((jm_ag.rf.wr x1).wr x2).wr x3).fill x4).wr x5).wr x6).wr x7).wr x8).wr x9)
  have g7 : ∀ {S : Nat → Int → Bool} {m : jm_M} {a b c e f g h : Int}, S 0 0 = false → S 3 a = false → S 4 a = false → S 5 a = false → S 1 (6 + a) = false → S 1 (14 + a) = false → (∀ i, S 6 i = false) → S 0 4 = false → S 0 3 = false → jm_ag S m (jm_wr (jm_wr (jm_fill (jm_wr (jm_wr (jm_wr (jm_wr (jm_wr (jm_wr m 0 0 0) 3 a b) 4 a c) 5 a e) 1 (6 + a) 0) 1 (14 + a) 0) 6 f g 0) 0 4 h) 0 3 0) := fun x1 x2 x3 x4 x5 x6 x7 x8 x9 => (((((((((jm_ag.rf.wr x1).wr x2).wr x3).wr x4).wr x5).wr x6).fill x7).wr x8).wr x9)
  refine jm_fin ⟨by omega, by omega⟩ rfl ⟨?_, i2.ag (g6 rfl rfl rfl (fun _ => rfl) rfl rfl rfl rfl rfl) (g7 rfl rfl rfl rfl rfl rfl (fun _ => rfl) rfl rfl), ?_, i4.ag (g6 rfl rfl rfl (fun _ => rfl) rfl rfl rfl rfl rfl) (g7 rfl rfl rfl rfl rfl rfl (fun _ => rfl) rfl rfl), ?_, IK_clear _ _, i7.ag (g6 rfl rfl rfl (fun _ => rfl) rfl rfl rfl rfl rfl) (g7 rfl rfl rfl rfl rfl rfl (fun _ => rfl) rfl rfl), i8.ag (g6 rfl rfl rfl (fun _ => rfl) rfl rfl rfl rfl rfl) (g7 rfl rfl rfl rfl rfl rfl (fun _ => rfl) rfl rfl)⟩
  · refine ⟨⟨by simp [jm_wr]; omega, by simp [jm_wr]; omega, by simp [jm_wr]⟩, fun w k0 k1 => ?_, fun k k0 k1 => ?_, by simpa [jm_wr, jm_fill] using a4, by simpa [jm_wr, jm_fill] using a5, by simpa [jm_wr, jm_fill] using a6, by simpa [jm_wr, jm_fill] using a7, by simpa [jm_wr, jm_fill] using a8⟩
    · have k2 : w < mu.1 6 0 + 1 := by simpa [jm_wr] using k1
      by_cases hw : w = mu.1 6 0
      · subst hw
        simp [jm_wr, jm_fill]
        omega
      · have := a2 w k0 (by omega)
        simpa [jm_wr, jm_fill, hw] using this
    · have k2 : k < 6 * (mu.1 6 0 + 1) := by simpa [jm_wr] using k1
      have hkk : mu.1 6 0 * 6 = 6 * mu.1 6 0 := by omega
      by_cases hk : 6 * mu.1 6 0 ≤ k
      · have hk6 : k < 6 * mu.1 6 0 + 6 := by omega
        simp [jm_wr, jm_fill, hkk, hk, hk6]
      · have := a3 k k0 (by omega)
        simpa [jm_wr, jm_fill, hkk, hk] using this
  · obtain ⟨p1, p2⟩ := i3
    refine ⟨by simpa [jm_wr, jm_fill] using p1, fun k k0 k1 => ?_⟩
    have := p2 k k0 (by simpa [jm_wr, jm_fill] using k1)
    have e9 : jm_deed (mu.1 23 k) (mu.1 24 k) (mu.1 25 k) (mu.1 26 k) (nu.1 19 (4 * k)) (nu.1 19 (4 * k + 1)) (nu.1 19 (4 * k + 2)) (nu.1 19 (4 * k + 3)) (mu.1 6 0 + 1) := by
      unfold jm_deed at this ⊢
      omega
    simpa [jm_wr, jm_fill] using e9
  · obtain ⟨d0, d1, d2, d3, d4, d5, d6, d7, d8, d9, d10⟩ := i5
    have hw9 : ∀ k : Int, k < 6 → ¬ k = 6 + mu.1 6 0 := fun k hk => by omega
    have hw8 : ∀ k : Int, k < 6 → ¬ k = 14 + mu.1 6 0 := fun k hk => by omega
    refine ⟨by simpa [jm_wr, jm_fill, hw9 0 (by omega), hw8 0 (by omega)] using d0, by simpa [jm_wr, jm_fill, hw9 1 (by omega), hw8 1 (by omega)] using d1, by simpa [jm_wr, jm_fill, hw9 2 (by omega), hw8 2 (by omega)] using d2, by simpa [jm_wr, jm_fill, hw9 3 (by omega), hw8 3 (by omega)] using d3, by simpa [jm_wr, jm_fill, hw9 4 (by omega), hw8 4 (by omega)] using d4, by simpa [jm_wr, jm_fill, hw9 5 (by omega), hw8 5 (by omega)] using d5, fun w k0 k1 => ?_, fun i j0 j1 => ?_, fun i j a b c e => ?_, fun k k0 k1 => ?_, fun k k0 k1 => ?_⟩
    · have k2 : w < mu.1 6 0 + 1 := by simpa [jm_wr] using k1
      by_cases hw : w = mu.1 6 0
      · subst hw
        simp [jm_wr, jm_fill, show ¬ (6 + mu.1 6 0 = 14 + mu.1 6 0) by omega]
      · have t := d6 w k0 (by omega)
        simpa [jm_wr, jm_fill, hw, show ¬ (6 + w = 14 + mu.1 6 0) by omega, show ¬ (14 + w = 6 + mu.1 6 0) by omega] using t
    · have t := d7 i j0 (by simpa [jm_wr, jm_fill] using j1)
      have e9 : mu.1 32 (i * 7) < mu.1 6 0 + 1 := by have := t.1.2; simp at this; omega
      simp [jm_wr, jm_fill, hw9 5 (by omega), hw8 5 (by omega)] at t ⊢
      exact ⟨⟨t.1.1, e9⟩, t.2⟩
    · have := d8 i j a (by simpa [jm_wr, jm_fill] using b) c e
      simpa [jm_wr, jm_fill] using this
    · have := d9 k k0 (by simpa [jm_wr, jm_fill] using k1)
      simpa [jm_wr, jm_fill] using this
    · have := d10 k k0 (by simpa [jm_wr, jm_fill] using k1)
      simpa [jm_wr, jm_fill] using this
end S5
