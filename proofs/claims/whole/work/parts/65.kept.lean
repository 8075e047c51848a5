section KP
variable {l : Launch} {gC gR : jm_G} {d : Nat} {mu nu : jm_M} {v1 v2 v3 v4 v5 : Int} {Q : Option Value → jm_M → Prop}
/-- a court carried to other cells, and a row to another row -/
theorem jm_crt.tr {m : jm_M} {c c' : Nat} {row row' tes rec bk : Int → Int} {W : Int} (h : jm_crt mu c row tes rec bk W) (W8 : W ≤ 8) (f0 : m.1 c' 0 = mu.1 c 0) (f1 : m.1 c' 1 = mu.1 c 1) (f4 : m.1 c' 4 = mu.1 c 4) (f6 : m.1 c' 6 = mu.1 c 6) (f8 : m.1 c' 8 = mu.1 c 8)
    (e1 : ∀ i, 0 ≤ i → i < 8 → m.1 (c' + 1) i = mu.1 (c + 1) i) (e2 : ∀ i, 0 ≤ i → i < 8 → m.1 (c' + 2) i = mu.1 (c + 2) i) (e3 : ∀ i, 0 ≤ i → i < 140 → m.1 (c' + 3) i = mu.1 (c + 3) i) (e4 : ∀ i, 0 ≤ i → i < 200 → m.1 (c' + 4) i = mu.1 (c + 4) i) (e5 : ∀ i, 0 ≤ i → i < 600 → m.1 (c' + 5) i = mu.1 (c + 5) i)
    (er : ∀ k, 0 ≤ k → k < 22 → row' k = row k) : jm_crt m c' row' tes rec bk W := by
  obtain ⟨d0, d1, d2, d3, d4, d5, d6, d7, d8, d9, d10⟩ := h
  refine ⟨by rw [f1, er 0 (by decide) (by decide)]; exact d0, by rw [f0, er 1 (by decide) (by decide)]; exact d1, by rw [f8, er 2 (by decide) (by decide)]; exact d2, by rw [f6, er 3 (by decide) (by decide)]; exact d3, by rw [f4, er 4 (by decide) (by decide)]; exact d4, by rw [f4, er 5 (by decide) (by decide)]; exact d5, fun w w0 w1 => ?_, fun i i0 i1 => ?_, fun i j i0 i1 j0 j1 => ?_, fun k k0 k1 => ?_, fun k k0 k1 => ?_⟩
  · rw [e1 w w0 (by omega), e2 w w0 (by omega), er (6 + w) (by omega) (by omega), er (14 + w) (by omega) (by omega)]
    exact d6 w w0 w1
  · rw [f4] at i1
    rw [f6, er 5 (by decide) (by decide), e3 (i * 7) (by omega) (by omega), e3 (i * 7 + 1) (by omega) (by omega), e3 (i * 7 + 2) (by omega) (by omega), e3 (i * 7 + 3) (by omega) (by omega), e3 (i * 7 + 4) (by omega) (by omega), e3 (i * 7 + 5) (by omega) (by omega), e3 (i * 7 + 6) (by omega) (by omega)]
    exact d7 i i0 i1
  · rw [f4] at i1
    rw [e3 (i * 7 + j) (by omega) (by omega)]
    exact d8 i j i0 i1 j0 j1
  · rw [f6] at k1
    rw [e4 k k0 (by omega)]
    exact d9 k k0 k1
  · rw [f8] at k1
    rw [e5 k k0 (by omega)]
    exact d10 k k0 k1
/-- the same court against arrays that are alike below its counters -/
theorem jm_crt.ar {c : Nat} {row tes rec bk tes' rec' bk' : Int → Int} {W : Int} (h : jm_crt mu c row tes rec bk W) (et : ∀ k, 0 ≤ k → k < 6 * mu.1 c 4 → tes' k = tes k) (er : ∀ k, 0 ≤ k → k < mu.1 c 6 → rec' k = rec k) (eb : ∀ k, 0 ≤ k → k < 5 * mu.1 c 8 → bk' k = bk k) : jm_crt mu c row tes' rec' bk' W := by
  obtain ⟨d0, d1, d2, d3, d4, d5, d6, d7, d8, d9, d10⟩ := h
  refine ⟨d0, d1, d2, d3, d4, d5, d6, d7, fun i j i0 i1 j0 j1 => ?_, fun k k0 k1 => ?_, fun k k0 k1 => ?_⟩
  · rw [et (6 * i + j) (by omega) (by omega)]
    exact d8 i j i0 i1 j0 j1
  · rw [er k k0 k1]
    exact d9 k k0 k1
  · rw [eb k k0 k1]
    exact d10 k k0 k1
/-- court o copied to court c -/
def CPY (mu : jm_M) (c o : Nat) (m : jm_M) : Prop := (m.1 c 0 = mu.1 o 0 ∧ m.1 c 1 = mu.1 o 1 ∧ m.1 c 4 = mu.1 o 4 ∧ m.1 c 6 = mu.1 o 6 ∧ m.1 c 8 = mu.1 o 8)
  ∧ (∀ i, 0 ≤ i → i < 8 → m.1 (c + 1) i = mu.1 (o + 1) i) ∧ (∀ i, 0 ≤ i → i < 8 → m.1 (c + 2) i = mu.1 (o + 2) i) ∧ (∀ i, 0 ≤ i → i < 140 → m.1 (c + 3) i = mu.1 (o + 3) i) ∧ (∀ i, 0 ≤ i → i < 200 → m.1 (c + 4) i = mu.1 (o + 4) i) ∧ (∀ i, 0 ≤ i → i < 600 → m.1 (c + 5) i = mu.1 (o + 5) i)
  ∧ ∀ k, k < c ∨ c + 5 < k → m.1 k = mu.1 k
theorem sX1_copyFrom (g : jm_G) {c o : Nat} (hc : jm_ct g c) (ho : jm_ct g o) (hd : c + 5 < o ∨ o + 5 < c) (h : ∀ m, CPY mu c o m → Q none m) : jm_R l g (d + 1) iX1_copyFrom [.ref c, .ref o] mu Q := by
  refine eX1_copyFrom hc ho (fun m1 e1 m3 e3 m5 e5 m7 e7 m9 e9 m11 e11 m13 e13 m15 e15 m17 e17 m19 e19 => h m19 ?_)
  have n00 : ¬ (o = c) := by omega
  have n01 : ¬ (o = c + 1) := by omega
  have n02 : ¬ (o = c + 2) := by omega
  have n03 : ¬ (o = c + 3) := by omega
  have n04 : ¬ (o = c + 4) := by omega
  have n05 : ¬ (o = c + 5) := by omega
  have n10 : ¬ (o + 1 = c) := by omega
  have n11 : ¬ (o + 1 = c + 1) := by omega
  have n12 : ¬ (o + 1 = c + 2) := by omega
  have n13 : ¬ (o + 1 = c + 3) := by omega
  have n14 : ¬ (o + 1 = c + 4) := by omega
  have n15 : ¬ (o + 1 = c + 5) := by omega
  have n20 : ¬ (o + 2 = c) := by omega
  have n21 : ¬ (o + 2 = c + 1) := by omega
  have n22 : ¬ (o + 2 = c + 2) := by omega
  have n23 : ¬ (o + 2 = c + 3) := by omega
  have n24 : ¬ (o + 2 = c + 4) := by omega
  have n25 : ¬ (o + 2 = c + 5) := by omega
  have n30 : ¬ (o + 3 = c) := by omega
  have n31 : ¬ (o + 3 = c + 1) := by omega
  have n32 : ¬ (o + 3 = c + 2) := by omega
  have n33 : ¬ (o + 3 = c + 3) := by omega
  have n34 : ¬ (o + 3 = c + 4) := by omega
  have n35 : ¬ (o + 3 = c + 5) := by omega
  have n40 : ¬ (o + 4 = c) := by omega
  have n41 : ¬ (o + 4 = c + 1) := by omega
  have n42 : ¬ (o + 4 = c + 2) := by omega
  have n43 : ¬ (o + 4 = c + 3) := by omega
  have n44 : ¬ (o + 4 = c + 4) := by omega
  have n45 : ¬ (o + 4 = c + 5) := by omega
  have n50 : ¬ (o + 5 = c) := by omega
  have n51 : ¬ (o + 5 = c + 1) := by omega
  have n52 : ¬ (o + 5 = c + 2) := by omega
  have n53 : ¬ (o + 5 = c + 3) := by omega
  have n54 : ¬ (o + 5 = c + 4) := by omega
  have n55 : ¬ (o + 5 = c + 5) := by omega
  subst e1 e3 e5 e7 e9 e11 e13 e15 e17 e19
  refine ⟨⟨?_, ?_, ?_, ?_, ?_⟩, fun i i0 i1 => ?_, fun i i0 i1 => ?_, fun i i0 i1 => ?_, fun i i0 i1 => ?_, fun i i0 i1 => ?_, fun k hk => ?_⟩
  · simp [jm_wr, jm_cp, n00, n01, n02, n03, n04, n05, n10, n11, n12, n13, n14, n15, n20, n21, n22, n23, n24, n25, n30, n31, n32, n33, n34, n35, n40, n41, n42, n43, n44, n45, n50, n51, n52, n53, n54, n55]
  · simp [jm_wr, jm_cp, n00, n01, n02, n03, n04, n05, n10, n11, n12, n13, n14, n15, n20, n21, n22, n23, n24, n25, n30, n31, n32, n33, n34, n35, n40, n41, n42, n43, n44, n45, n50, n51, n52, n53, n54, n55]
  · simp [jm_wr, jm_cp, n00, n01, n02, n03, n04, n05, n10, n11, n12, n13, n14, n15, n20, n21, n22, n23, n24, n25, n30, n31, n32, n33, n34, n35, n40, n41, n42, n43, n44, n45, n50, n51, n52, n53, n54, n55]
  · simp [jm_wr, jm_cp, n00, n01, n02, n03, n04, n05, n10, n11, n12, n13, n14, n15, n20, n21, n22, n23, n24, n25, n30, n31, n32, n33, n34, n35, n40, n41, n42, n43, n44, n45, n50, n51, n52, n53, n54, n55]
  · simp [jm_wr, jm_cp, n00, n01, n02, n03, n04, n05, n10, n11, n12, n13, n14, n15, n20, n21, n22, n23, n24, n25, n30, n31, n32, n33, n34, n35, n40, n41, n42, n43, n44, n45, n50, n51, n52, n53, n54, n55]
  · simp [jm_wr, jm_cp, i0, i1, n00, n01, n02, n03, n04, n05, n10, n11, n12, n13, n14, n15, n20, n21, n22, n23, n24, n25, n30, n31, n32, n33, n34, n35, n40, n41, n42, n43, n44, n45, n50, n51, n52, n53, n54, n55]
  · simp [jm_wr, jm_cp, i0, i1, n00, n01, n02, n03, n04, n05, n10, n11, n12, n13, n14, n15, n20, n21, n22, n23, n24, n25, n30, n31, n32, n33, n34, n35, n40, n41, n42, n43, n44, n45, n50, n51, n52, n53, n54, n55]
  · simp [jm_wr, jm_cp, i0, i1, n00, n01, n02, n03, n04, n05, n10, n11, n12, n13, n14, n15, n20, n21, n22, n23, n24, n25, n30, n31, n32, n33, n34, n35, n40, n41, n42, n43, n44, n45, n50, n51, n52, n53, n54, n55]
  · simp [jm_wr, jm_cp, i0, i1, n00, n01, n02, n03, n04, n05, n10, n11, n12, n13, n14, n15, n20, n21, n22, n23, n24, n25, n30, n31, n32, n33, n34, n35, n40, n41, n42, n43, n44, n45, n50, n51, n52, n53, n54, n55]
  · simp [jm_wr, jm_cp, i0, i1, n00, n01, n02, n03, n04, n05, n10, n11, n12, n13, n14, n15, n20, n21, n22, n23, n24, n25, n30, n31, n32, n33, n34, n35, n40, n41, n42, n43, n44, n45, n50, n51, n52, n53, n54, n55]
  · funext i
    have k0 : ¬ (k = c) := by omega
    have k1 : ¬ (k = c + 1) := by omega
    have k2 : ¬ (k = c + 2) := by omega
    have k3 : ¬ (k = c + 3) := by omega
    have k4 : ¬ (k = c + 4) := by omega
    have k5 : ¬ (k = c + 5) := by omega
    simp [jm_wr, jm_cp, k0, k1, k2, k3, k4, k5]
theorem CPY.crt {c o : Nat} {m : jm_M} (h : CPY mu c o m) {row row' tes rec bk : Int → Int} {W : Int} (k : jm_crt mu o row tes rec bk W) (W8 : W ≤ 8) (er : ∀ k, 0 ≤ k → k < 22 → row' k = row k) : jm_crt m c row' tes rec bk W := k.tr W8 h.1.1 h.1.2.1 h.1.2.2.1 h.1.2.2.2.1 h.1.2.2.2.2 h.2.1 h.2.2.1 h.2.2.2.1 h.2.2.2.2.1 h.2.2.2.2.2.1 er
/-- the class keeps its court -/
def KPC (mu m : jm_M) : Prop := ∃ m1, CPY mu (94 + 6 * (mu.1 0 16).toNat) 29 m1 ∧ m = jm_wr (jm_wr m1 0 16 (if mu.1 0 16 = 5 then 0 else mu.1 0 16 + 1)) 0 15 (min 6 (mu.1 0 15 + 1))
theorem sX11_keepCourt (hC : jm_HC gC) (k0 : 0 ≤ mu.1 0 16) (k1 : mu.1 0 16 ≤ 5) (c0 : 0 ≤ mu.1 0 15) (c1 : mu.1 0 15 ≤ 6) (h : ∀ m, KPC mu m → Q none m) : jm_R l gC (d + 2) iX11_keepCourt [.ref 0] mu Q := by
  refine eX11_keepCourt hC ⟨⟨k0, by omega⟩, sX1_copyFrom gC (jm_ctK hC k0 (by omega)) (jm_ct29 hC) (by omega) (fun m1 hm => jm_qvI ?_)⟩
  have e0 : m1.1 0 = mu.1 0 := hm.2.2.2.2.2.2 0 (by omega)
  have e16 : m1.1 0 16 = mu.1 0 16 := by rw [e0]
  have e15 : m1.1 0 15 = mu.1 0 15 := by rw [e0]
  rw [e16]
  have fin : ∀ s : Int, s = (if mu.1 0 16 = 5 then 0 else mu.1 0 16 + 1) → jm_V l gC (d + 2) iX11_keepCourt 41 [(0, .ref 0)] [jm_i s, .ref 0] m1 Q := by
    intro s hs
    have rs : jm_rg s := by rw [hs]; split <;> exact ⟨by omega, by omega⟩
    refine bX11_keepCourt_41 hC ⟨rs, fun m2 e2 => ?_⟩
    subst e2
    have x15 : (jm_wr m1 0 16 s).1 0 15 = mu.1 0 15 := by simpa [jm_wr] using e15
    rw [x15]
    refine ⟨⟨by omega, by omega⟩, fun m5 e5 => h m5 ⟨m1, hm, ?_⟩⟩
    rw [e5, hs]
  exact ⟨fun q => fin _ (by rw [if_neg q]), fun q => fin _ (by rw [if_pos q])⟩
/-- the reference keeps its row -/
def KPR (nu n : jm_M) : Prop := ∃ u : Int, ((nu.1 0 3 = 6 ∧ u = 5) ∨ (¬ nu.1 0 3 = 6 ∧ u = nu.1 0 3)) ∧ n.1 0 3 = u + 1 ∧ (∀ k, 0 ≤ k → k < 22 * u → n.1 2 k = nu.1 2 (if nu.1 0 3 = 6 then k + 22 else k)) ∧ (∀ k, 0 ≤ k → k < 22 → n.1 2 (22 * u + k) = nu.1 1 k) ∧ (∀ c, c ≠ 0 → c ≠ 2 → n.1 c = nu.1 c) ∧ ∀ i, i ≠ 3 → n.1 0 i = nu.1 0 i
theorem lX12_keepsAhead2 (hR : jm_HR gR) {u : Int} (u0 : 0 ≤ u) (u5 : u ≤ 5) (h : ∀ m, m.1 0 3 = u + 1 → (∀ k, 0 ≤ k → k < 22 * u → m.1 2 k = nu.1 2 k) → (∀ k, 0 ≤ k → k < 22 → m.1 2 (22 * u + k) = nu.1 1 k) → (∀ c, c ≠ 0 → c ≠ 2 → m.1 c = nu.1 c) → (∀ i, i ≠ 3 → m.1 0 i = nu.1 0 i) → Q none m) (hu : nu.1 0 3 = u) (n : Nat) : ∀ (k : Int) (m : jm_M), k + n = 22 → 0 ≤ k → (∀ i, 0 ≤ i → i < 22 * u → m.1 2 i = nu.1 2 i) → (∀ i, 0 ≤ i → i < k → m.1 2 (22 * u + i) = nu.1 1 i) → (∀ c, c ≠ 2 → m.1 c = nu.1 c) → jm_V l gR (d + 1) iX12_keepsAhead 55 [(0, .ref 0), (1, jm_i k)] [] m Q := by
  induction n with
  | zero =>
    intro k m hk k0 r1 r2 r3
    have k22 : k = 22 := by omega
    subst k22
    have e3 : m.1 0 3 = u := by rw [r3 0 (by decide)]; exact hu
    refine bX12_keepsAhead_55 hR ⟨⟨by decide, by decide⟩, fun _ => ?_, fun r => absurd r (by decide)⟩
    rw [e3]
    refine ⟨⟨by omega, by omega⟩, fun m3 e => ?_⟩
    subst e
    refine h _ (by simp [jm_wr]) (fun i i0 i1 => ?_) (fun i i0 i1 => ?_) (fun c c0 c2 => ?_) (fun i hi => ?_)
    · rw [jm_wrO (by decide)]; exact r1 i i0 i1
    · rw [jm_wrO (by decide)]; exact r2 i i0 i1
    · funext b
      rw [jm_wrO c0, r3 c c2]
    · rw [jm_wrI hi, r3 0 (by decide)]
  | succ n ih =>
    intro k m hk k0 r1 r2 r3
    have e3 : m.1 0 3 = u := by rw [r3 0 (by decide)]; exact hu
    have e1 : m.1 1 = nu.1 1 := r3 1 (by decide)
    refine bX12_keepsAhead_55 hR ⟨⟨by omega, by omega⟩, fun r => by omega, fun _ => ?_⟩
    rw [e3, e1]
    refine ⟨⟨k0, by omega⟩, ⟨by omega, by omega⟩, fun m7 e7 => ?_⟩
    subst e7
    refine ih (k + 1) _ (by omega) (by omega) (fun i i0 i1 => ?_) (fun i i0 i1 => ?_) (fun c hc => ?_)
    · rw [jm_wrI (by omega)]; exact r1 i i0 i1
    · by_cases q : i = k
      · subst q; exact jm_wrS
      · rw [jm_wrI (by omega)]; exact r2 i i0 (by omega)
    · funext b
      rw [jm_wrO hc, r3 c hc]
theorem lX12_keepsAhead1 (hR : jm_HR gR) (h : ∀ m, m.1 0 3 = 6 → (∀ k, 0 ≤ k → k < 110 → m.1 2 k = nu.1 2 (k + 22)) → (∀ k, 0 ≤ k → k < 22 → m.1 2 (110 + k) = nu.1 1 k) → (∀ c, c ≠ 0 → c ≠ 2 → m.1 c = nu.1 c) → (∀ i, i ≠ 3 → m.1 0 i = nu.1 0 i) → Q none m) (n : Nat) : ∀ (k : Int) (m : jm_M), k + n = 110 → 0 ≤ k → m.1 0 3 = 5 → (∀ i, 0 ≤ i → i < k → m.1 2 i = nu.1 2 (i + 22)) → (∀ i, k ≤ i → m.1 2 i = nu.1 2 i) → (∀ c, c ≠ 0 → c ≠ 2 → m.1 c = nu.1 c) → (∀ i, i ≠ 3 → m.1 0 i = nu.1 0 i) → jm_V l gR (d + 1) iX12_keepsAhead 21 [(0, .ref 0), (1, jm_i k)] [] m Q := by
  induction n with
  | zero =>
    intro k m hk k0 e3 r1 r2 r3 r4
    refine bX12_keepsAhead_21 hR ⟨⟨by omega, by omega⟩, ?_⟩
    rw [e3]
    refine ⟨⟨by decide, by decide⟩, fun _ => ?_, fun r => by omega⟩
    refine lX12_keepsAhead2 hR (u := 5) (nu := m) (by decide) (by decide) (fun m2 f1 f2 f3 f4 f5 => h m2 f1 (fun i i0 i1 => ?_) (fun i i0 i1 => ?_) (fun c c0 c2 => ?_) (fun i hi => ?_)) e3 22 0 m (by decide) (by decide) (fun _ _ _ => rfl) (fun i i0 i1 => by omega) (fun _ _ => rfl)
    · rw [f2 i i0 (by omega)]; exact r1 i i0 (by omega)
    · rw [show (110 : Int) + i = 22 * 5 + i by omega, f3 i i0 i1, r3 1 (by decide) (by decide)]
    · rw [f4 c c0 c2, r3 c c0 c2]
    · rw [f5 i hi, r4 i hi]
  | succ n ih =>
    intro k m hk k0 e3 r1 r2 r3 r4
    refine bX12_keepsAhead_21 hR ⟨⟨by omega, by omega⟩, ?_⟩
    rw [e3]
    refine ⟨⟨by decide, by decide⟩, fun r => by omega, fun _ => ⟨⟨by omega, by omega⟩, ⟨k0, by omega⟩, fun m5 e5 => ?_⟩⟩
    subst e5
    refine ih (k + 1) _ (by omega) (by omega) (by rw [jm_wrO (by decide)]; exact e3) (fun i i0 i1 => ?_) (fun i i0 => ?_) (fun c c0 c2 => ?_) (fun i hi => ?_)
    · by_cases q : i = k
      · subst q
        rw [jm_wrS]
        exact r2 (i + 22) (by omega)
      · rw [jm_wrI q]; exact r1 i i0 (by omega)
    · rw [jm_wrI (by omega)]; exact r2 i (by omega)
    · funext b
      rw [jm_wrO c2, r3 c c0 c2]
    · rw [jm_wrO (by decide), r4 i hi]
theorem sX12_keepsAhead (hR : jm_HR gR) (u0 : 0 ≤ nu.1 0 3) (u6 : nu.1 0 3 ≤ 6) (h : ∀ n, KPR nu n → Q none n) : jm_R l gR (d + 1) iX12_keepsAhead [.ref 0] nu Q := by
  refine eX12_keepsAhead hR ⟨fun q => ?_, fun q => ?_⟩
  · refine lX12_keepsAhead2 hR (u := nu.1 0 3) u0 (by omega) (fun m f1 f2 f3 f4 f5 => h m ⟨nu.1 0 3, Or.inr ⟨q, rfl⟩, f1, fun k k0 k1 => ?_, f3, f4, f5⟩) rfl 22 0 nu (by decide) (by decide) (fun _ _ _ => rfl) (fun i i0 i1 => by omega) (fun _ _ => rfl)
    rw [if_neg q]
    exact f2 k k0 k1
  · rw [q]
    refine ⟨⟨by decide, by decide⟩, fun m2 e2 => ?_⟩
    subst e2
    refine lX12_keepsAhead1 hR (nu := nu) (fun m f1 f2 f3 f4 f5 => h m ⟨5, Or.inl ⟨q, rfl⟩, f1, fun k k0 k1 => ?_, fun k k0 k1 => f3 k k0 k1, f4, f5⟩) 110 0 _ (by decide) (by decide) (by simp [jm_wr]) (fun i i0 i1 => by omega) (fun i i0 => by simp [jm_wr]) (fun c c0 c2 => ?_) (fun i hi => ?_)
    · rw [if_pos q]
      exact f2 k k0 (by omega)
    · funext b
      rw [jm_wrO c0]
    · rw [jm_wrI hi]
end KP
