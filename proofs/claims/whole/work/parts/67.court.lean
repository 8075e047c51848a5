section CO
variable {l : Launch} {gC gR : jm_G} {d : Nat} {mu nu m n : jm_M} {v1 v2 v3 v4 v5 : Int} {Q : Option Value → jm_M → Prop}
theorem GR.rf : GR mu nu mu nu := GR.ofA (jm_aC.rf mu) (jm_aR.rf nu)
theorem GR.c (h : GR mu nu m n) {c : Nat} {i x : Int} (hs : fCg c i = false) (h9 : c = 29 → (i = 4 → m.1 29 4 ≤ x) ∧ (i = 6 → m.1 29 6 ≤ x) ∧ (i = 8 → m.1 29 8 ≤ x)) : GR mu nu (jm_wr m c i x) n := by
  obtain ⟨a, ⟨g4, g6, g8⟩, b⟩ := h
  refine ⟨a.wr hs, ⟨?_, ?_, ?_⟩, b⟩
  · by_cases q : c = 29 ∧ i = 4
    · obtain ⟨rfl, rfl⟩ := q; rw [jm_wrS]; have := (h9 rfl).1 rfl; omega
    · have : (jm_wr m c i x).1 29 4 = m.1 29 4 := if_neg (fun r => q ⟨r.1.symm, r.2.symm⟩)
      omega
  · by_cases q : c = 29 ∧ i = 6
    · obtain ⟨rfl, rfl⟩ := q; rw [jm_wrS]; have := (h9 rfl).2.1 rfl; omega
    · have : (jm_wr m c i x).1 29 6 = m.1 29 6 := if_neg (fun r => q ⟨r.1.symm, r.2.symm⟩)
      omega
  · by_cases q : c = 29 ∧ i = 8
    · obtain ⟨rfl, rfl⟩ := q; rw [jm_wrS]; have := (h9 rfl).2.2 rfl; omega
    · have : (jm_wr m c i x).1 29 8 = m.1 29 8 := if_neg (fun r => q ⟨r.1.symm, r.2.symm⟩)
      omega
theorem GR.r (h : GR mu nu m n) {c : Nat} {i x : Int} (hs : fRg c i = false) (h4 : c = 24 → 6 * mu.1 29 4 ≤ i) (h5 : c = 25 → mu.1 29 6 ≤ i) (h6 : c = 26 → 5 * mu.1 29 8 ≤ i) : GR mu nu m (jm_wr n c i x) := by
  obtain ⟨a, g, b, t4, t5, t6⟩ := h
  refine ⟨a, g, b.wr hs, fun k k0 k1 => ?_, fun k k0 k1 => ?_, fun k k0 k1 => ?_⟩
  · rw [← t4 k k0 k1]; exact if_neg (fun r => by have := h4 r.1.symm; omega)
  · rw [← t5 k k0 k1]; exact if_neg (fun r => by have := h5 r.1.symm; omega)
  · rw [← t6 k k0 k1]; exact if_neg (fun r => by have := h6 r.1.symm; omega)
theorem IC.nerve (h : IC mu nu) {w x : Int} (w0 : 0 ≤ w) (w1 : w < mu.1 6 0) (x0 : 0 ≤ x) (x1 : x ≤ 99) (W8 : mu.1 6 0 ≤ 8) : IC (jm_wr mu 30 w x) (jm_wr nu 1 (6 + w) (x - 50)) := by
  obtain ⟨d0, d1, d2, d3, d4, d5, d6, d7, d8, d9, d10⟩ := h
  have s0 : ∀ k : Int, k ≠ 6 + w → (jm_wr nu 1 (6 + w) (x - 50)).1 1 k = nu.1 1 k := fun k hk => by simp [jm_wr, hk]
  refine ⟨by rw [s0 0 (by omega)]; simpa [jm_wr] using d0, by rw [s0 1 (by omega)]; simpa [jm_wr] using d1, by rw [s0 2 (by omega)]; simpa [jm_wr] using d2, by rw [s0 3 (by omega)]; simpa [jm_wr] using d3, by rw [s0 4 (by omega)]; simpa [jm_wr] using d4, by rw [s0 5 (by omega)]; simpa [jm_wr] using d5, fun y y0 y1 => ?_, ?_, ?_, ?_, ?_⟩
  · have y1 : y < mu.1 6 0 := by simpa [jm_wr] using y1
    have t := d6 y y0 y1
    rw [s0 (14 + y) (by omega)]
    by_cases q : y = w
    · subst q
      simp [jm_wr] at t ⊢
      omega
    · rw [s0 (6 + y) (by omega)]
      simpa [jm_wr, q] using t
  · rw [s0 5 (by omega)]
    simpa [jm_wr] using d7
  · simpa [jm_wr] using d8
  · simpa [jm_wr] using d9
  · simpa [jm_wr] using d10
theorem IC.hoarse (h : IC mu nu) {w x : Int} (w0 : 0 ≤ w) (w1 : w < mu.1 6 0) (x0 : 0 ≤ x) (x1 : x ≤ 1) (W8 : mu.1 6 0 ≤ 8) : IC (jm_wr mu 31 w x) (jm_wr nu 1 (14 + w) x) := by
  obtain ⟨d0, d1, d2, d3, d4, d5, d6, d7, d8, d9, d10⟩ := h
  have s0 : ∀ k : Int, k ≠ 14 + w → (jm_wr nu 1 (14 + w) x).1 1 k = nu.1 1 k := fun k hk => by simp [jm_wr, hk]
  refine ⟨by rw [s0 0 (by omega)]; simpa [jm_wr] using d0, by rw [s0 1 (by omega)]; simpa [jm_wr] using d1, by rw [s0 2 (by omega)]; simpa [jm_wr] using d2, by rw [s0 3 (by omega)]; simpa [jm_wr] using d3, by rw [s0 4 (by omega)]; simpa [jm_wr] using d4, by rw [s0 5 (by omega)]; simpa [jm_wr] using d5, fun y y0 y1 => ?_, ?_, ?_, ?_, ?_⟩
  · have y1 : y < mu.1 6 0 := by simpa [jm_wr] using y1
    have t := d6 y y0 y1
    rw [s0 (6 + y) (by omega)]
    by_cases q : y = w
    · subst q
      simp [jm_wr] at t ⊢
      omega
    · rw [s0 (14 + y) (by omega)]
      simpa [jm_wr, q] using t
  · rw [s0 5 (by omega)]
    simpa [jm_wr] using d7
  · simpa [jm_wr] using d8
  · simpa [jm_wr] using d9
  · simpa [jm_wr] using d10
theorem IC.draw (h : IC mu nu) (x : Int) : IC (jm_wr mu 29 0 x) (jm_wr nu 1 1 x) := by
  obtain ⟨d0, d1, d2, d3, d4, d5, d6, d7, d8, d9, d10⟩ := h
  refine ⟨by simpa [jm_wr] using d0, by simp [jm_wr], by simpa [jm_wr] using d2, by simpa [jm_wr] using d3, by simpa [jm_wr] using d4, by simpa [jm_wr] using d5, fun y y0 y1 => ?_, by simpa [jm_wr] using d7, by simpa [jm_wr] using d8, by simpa [jm_wr] using d9, by simpa [jm_wr] using d10⟩
  have t := d6 y y0 (by simpa [jm_wr] using y1)
  have n6 : ¬ (6 + y = 1) := by omega
  have n14 : ¬ (14 + y = 1) := by omega
  simpa [jm_wr, n6, n14] using t
theorem IC.day (h : IC mu nu) {x : Int} (x0 : 0 ≤ x) (x1 : x ≤ 999) : IC (jm_wr mu 29 1 x) (jm_wr nu 1 0 x) := by
  obtain ⟨d0, d1, d2, d3, d4, d5, d6, d7, d8, d9, d10⟩ := h
  refine ⟨by simp [jm_wr]; omega, by simpa [jm_wr] using d1, by simpa [jm_wr] using d2, by simpa [jm_wr] using d3, by simpa [jm_wr] using d4, by simpa [jm_wr] using d5, fun y y0 y1 => ?_, by simpa [jm_wr] using d7, by simpa [jm_wr] using d8, by simpa [jm_wr] using d9, by simpa [jm_wr] using d10⟩
  have t := d6 y y0 (by simpa [jm_wr] using y1)
  have n6 : ¬ (6 + y = 0) := by omega
  have n14 : ¬ (14 + y = 0) := by omega
  simpa [jm_wr, n6, n14] using t
theorem IC.bar (h : IC mu nu) {b x : Int} (eb : mu.1 29 6 = b) (b1 : b < 200) (x0 : 0 ≤ x) (x1 : x ≤ 60) : IC (jm_wr (jm_wr mu 33 b x) 29 6 (b + 1)) (jm_wr (jm_wr nu 25 b x) 1 3 (b + 1)) := by
  obtain ⟨d0, d1, d2, d3, d4, d5, d6, d7, d8, d9, d10⟩ := h
  rw [eb] at d3
  refine ⟨by simpa [jm_wr] using d0, by simpa [jm_wr] using d1, by simpa [jm_wr] using d2, by simp [jm_wr]; omega, by simpa [jm_wr] using d4, by simpa [jm_wr] using d5, fun y y0 y1 => ?_, fun i i0 i1 => ?_, by simpa [jm_wr] using d8, fun k k0 k1 => ?_, by simpa [jm_wr] using d10⟩
  · have t := d6 y y0 (by simpa [jm_wr] using y1)
    have n6 : ¬ (6 + y = 3) := by omega
    have n14 : ¬ (14 + y = 3) := by omega
    simpa [jm_wr, n6, n14] using t
  · have t := d7 i i0 (by simpa [jm_wr] using i1)
    rw [eb] at t
    simp [jm_wr] at t ⊢
    omega
  · have k1 : k < b + 1 := by simpa [jm_wr] using k1
    by_cases q : k = b
    · subst q
      simp [jm_wr]
      omega
    · have t := d9 k k0 (by omega)
      simpa [jm_wr, q] using t
theorem GR.bar {b x : Int} (eb : mu.1 29 6 = b) : GR mu nu (jm_wr (jm_wr mu 33 b x) 29 6 (b + 1)) (jm_wr (jm_wr nu 25 b x) 1 3 (b + 1)) := by
  refine (((GR.rf.c (c := 33) rfl (fun q => absurd q (by decide))).c (c := 29) rfl (fun _ => ⟨fun q => absurd q (by decide), fun _ => ?_, fun q => absurd q (by decide)⟩)).r (c := 25) rfl (fun q => absurd q (by decide)) (fun _ => by omega) (fun q => absurd q (by decide))).r (c := 1) rfl (fun q => absurd q (by decide)) (fun q => absurd q (by decide)) (fun q => absurd q (by decide))
  rw [jm_wrO (by decide)]
  omega
theorem Iv.bar (hI : Iv mu nu) {b x : Int} (eb : mu.1 29 6 = b) (b1 : b < 200) (x0 : 0 ≤ x) (x1 : x ≤ 60) : Iv (jm_wr (jm_wr mu 33 b x) 29 6 (b + 1)) (jm_wr (jm_wr nu 25 b x) 1 3 (b + 1)) := hI.gr (GR.bar eb) (hI.2.2.2.2.1.bar eb b1 x0 x1)
theorem GR.w1 {c : Nat} {i j x y : Int} (hs : fCg c i = false) (h9 : c = 29 → i = 0 ∨ i = 1) : GR mu nu (jm_wr mu c i x) (jm_wr nu 1 j y) := (GR.rf.c hs (fun q => ⟨fun r => by have := h9 q; omega, fun r => by have := h9 q; omega, fun r => by have := h9 q; omega⟩)).r (c := 1) rfl (fun q => absurd q (by decide)) (fun q => absurd q (by decide)) (fun q => absurd q (by decide))
theorem Iv.nerve (hI : Iv mu nu) {w x : Int} (w0 : 0 ≤ w) (w1 : w < mu.1 6 0) (x0 : 0 ≤ x) (x1 : x ≤ 99) : Iv (jm_wr mu 30 w x) (jm_wr nu 1 (6 + w) (x - 50)) := hI.gr (GR.w1 rfl (fun q => absurd q (by decide))) (hI.2.2.2.2.1.nerve w0 w1 x0 x1 hI.1.1.2.1)
theorem Iv.hoarse (hI : Iv mu nu) {w x : Int} (w0 : 0 ≤ w) (w1 : w < mu.1 6 0) (x0 : 0 ≤ x) (x1 : x ≤ 1) : Iv (jm_wr mu 31 w x) (jm_wr nu 1 (14 + w) x) := hI.gr (GR.w1 rfl (fun q => absurd q (by decide))) (hI.2.2.2.2.1.hoarse w0 w1 x0 x1 hI.1.1.2.1)
theorem Iv.draw (hI : Iv mu nu) (x : Int) : Iv (jm_wr mu 29 0 x) (jm_wr nu 1 1 x) := hI.gr (GR.w1 rfl (fun _ => Or.inl rfl)) (hI.2.2.2.2.1.draw x)
theorem Iv.day (hI : Iv mu nu) {x : Int} (x0 : 0 ≤ x) (x1 : x ≤ 999) : Iv (jm_wr mu 29 1 x) (jm_wr nu 1 0 x) := hI.gr (GR.w1 rfl (fun _ => Or.inr rfl)) (hI.2.2.2.2.1.day x0 x1)
/-- a line in the book, both sides -/
def cW (mu : jm_M) (a b c e : Int) : jm_M := if mu.1 29 8 < 120 then jm_wr (jm_wr (jm_wr (jm_wr (jm_wr (jm_wr mu 34 (mu.1 29 8 * 5) (mu.1 29 1)) 34 (mu.1 29 8 * 5 + 1) a) 34 (mu.1 29 8 * 5 + 2) b) 34 (mu.1 29 8 * 5 + 3) c) 34 (mu.1 29 8 * 5 + 4) e) 29 8 (mu.1 29 8 + 1) else mu
def rW (nu : jm_M) (a b c e : Int) : jm_M := if nu.1 1 2 = 120 then nu else jm_wr (jm_wr (jm_wr (jm_wr (jm_wr (jm_wr nu 26 (5 * nu.1 1 2) (nu.1 1 0)) 26 (5 * nu.1 1 2 + 1) a) 26 (5 * nu.1 1 2 + 2) b) 26 (5 * nu.1 1 2 + 3) c) 26 (5 * nu.1 1 2 + 4) e) 1 2 (nu.1 1 2 + 1)
theorem sX1_write (hC : jm_HC gC) (L0 : 0 ≤ mu.1 29 8) (r1 : jm_rg v1) (r2 : jm_rg v2) (r3 : jm_rg v3) (r4 : jm_rg v4) (h : Q none (cW mu v1 v2 v3 v4)) : jm_R l gC (d + 1) iX1_write [.ref 29, jm_i v1, jm_i v2, jm_i v3, jm_i v4] mu Q := by
  refine eX1_write hC ⟨fun q x1 e1 => ?_, fun q => ?_⟩
  · subst e1
    refine ⟨⟨by omega, by omega⟩, fun m3 e3 => ⟨⟨by omega, by omega⟩, r1, fun m7 e7 => ⟨⟨by omega, by omega⟩, r2, fun m11 e11 => ⟨⟨by omega, by omega⟩, r3, fun m15 e15 => ⟨⟨by omega, by omega⟩, r4, fun m19 e19 => ?_⟩⟩⟩⟩⟩
    have e : m19.1 29 8 = mu.1 29 8 := by
      rw [e19, jm_wrO (by decide), e15, jm_wrO (by decide), e11, jm_wrO (by decide), e7, jm_wrO (by decide), e3, jm_wrO (by decide)]
    rw [e]
    refine ⟨⟨by omega, by omega⟩, fun m22 e22 => ?_⟩
    unfold cW at h
    rw [if_pos q] at h
    rw [e22, e19, e15, e11, e7, e3]
    exact h
  · unfold cW at h
    rw [if_neg (by omega)] at h
    exact h
theorem sX12_notes (hR : jm_HR gR) (L0 : 0 ≤ nu.1 1 2) (L1 : nu.1 1 2 ≤ 120) (r1 : jm_rg v1) (r2 : jm_rg v2) (r3 : jm_rg v3) (r4 : jm_rg v4) (h : Q none (rW nu v1 v2 v3 v4)) : jm_R l gR (d + 1) iX12_notes [.ref 0, jm_i v1, jm_i v2, jm_i v3, jm_i v4] nu Q := by
  refine eX12_notes hR ⟨fun q x1 e1 => ?_, fun q => ?_⟩
  · subst e1
    refine ⟨⟨by omega, by omega⟩, fun m3 e3 => ⟨⟨by omega, by omega⟩, r1, fun m7 e7 => ⟨⟨by omega, by omega⟩, r2, fun m11 e11 => ⟨⟨by omega, by omega⟩, r3, fun m15 e15 => ⟨⟨by omega, by omega⟩, r4, fun m19 e19 => ?_⟩⟩⟩⟩⟩
    have e : m19.1 1 2 = nu.1 1 2 := by
      rw [e19, jm_wrO (by decide), e15, jm_wrO (by decide), e11, jm_wrO (by decide), e7, jm_wrO (by decide), e3, jm_wrO (by decide)]
    rw [e]
    refine ⟨⟨by omega, by omega⟩, fun m22 e22 => ?_⟩
    unfold rW at h
    rw [if_neg q] at h
    rw [e22, e19, e15, e11, e7, e3]
    exact h
  · unfold rW at h
    rw [if_pos q] at h
    exact h
theorem Iv.write (hI : Iv mu nu) (a b c e : Int) : Iv (cW mu a b c e) (rW nu a b c e) := by
  obtain ⟨d0, d1, d2, d3, d4, d5, d6, d7, d8, d9, d10⟩ := hI.2.2.2.2.1
  unfold cW rW
  rw [d2.2.2]
  by_cases q : mu.1 29 8 < 120
  · rw [if_pos q, if_neg (by omega), d0.2.2, show 5 * mu.1 29 8 = mu.1 29 8 * 5 by omega]
    generalize hL : mu.1 29 8 = L at *
    refine hI.gr ?_ ?_
    · refine ((((((((((((GR.rf.c (c := 34) rfl (fun q => absurd q (by decide))).c (c := 34) rfl (fun q => absurd q (by decide))).c (c := 34) rfl (fun q => absurd q (by decide))).c (c := 34) rfl (fun q => absurd q (by decide))).c (c := 34) rfl (fun q => absurd q (by decide))).c (c := 29) rfl (fun _ => ⟨fun q => absurd q (by decide), fun q => absurd q (by decide), fun _ => ?_⟩)).r (c := 26) rfl (fun q => absurd q (by decide)) (fun q => absurd q (by decide)) (fun _ => ?_)).r (c := 26) rfl (fun q => absurd q (by decide)) (fun q => absurd q (by decide)) (fun _ => ?_)).r (c := 26) rfl (fun q => absurd q (by decide)) (fun q => absurd q (by decide)) (fun _ => ?_)).r (c := 26) rfl (fun q => absurd q (by decide)) (fun q => absurd q (by decide)) (fun _ => ?_)).r (c := 26) rfl (fun q => absurd q (by decide)) (fun q => absurd q (by decide)) (fun _ => ?_)).r (c := 1) rfl (fun q => absurd q (by decide)) (fun q => absurd q (by decide)) (fun q => absurd q (by decide)))
      · rw [jm_wrO (by decide), jm_wrO (by decide), jm_wrO (by decide), jm_wrO (by decide), jm_wrO (by decide)]
        omega
      all_goals omega
    · refine ⟨by simpa [jm_wr] using d0, by simpa [jm_wr] using d1, by simp [jm_wr]; omega, by simpa [jm_wr] using d3, by simpa [jm_wr] using d4, by simpa [jm_wr] using d5, fun y y0 y1 => ?_, by simpa [jm_wr] using d7, by simpa [jm_wr] using d8, by simpa [jm_wr] using d9, fun k k0 k1 => ?_⟩
      · have t := d6 y y0 (by simpa [jm_wr] using y1)
        have n6 : ¬ (6 + y = 2) := by omega
        have n14 : ¬ (14 + y = 2) := by omega
        simpa [jm_wr, n6, n14] using t
      · have k1 : k < 5 * (L + 1) := by simpa [jm_wr] using k1
        by_cases p : k < 5 * L
        · have t := d10 k k0 p
          have n0 : ¬ (k = L * 5) := by omega
          have n1 : ¬ (k = L * 5 + 1) := by omega
          have n2 : ¬ (k = L * 5 + 2) := by omega
          have n3 : ¬ (k = L * 5 + 3) := by omega
          have n4 : ¬ (k = L * 5 + 4) := by omega
          simpa [jm_wr, n0, n1, n2, n3, n4] using t
        · have o : k = L * 5 ∨ k = L * 5 + 1 ∨ k = L * 5 + 2 ∨ k = L * 5 + 3 ∨ k = L * 5 + 4 := by omega
          rcases o with o | o | o | o | o <;> · subst o; simp [jm_wr]
  · rw [if_neg q, if_pos (by omega)]
    exact hI
end CO
