section UN
variable {l : Launch} {gC gR : jm_G} {d : Nat} {mu nu m n : jm_M} {v1 v2 v3 v4 v5 : Int} {Q : Option Value → jm_M → Prop}
theorem lX12_undo (hR : jm_HR gR) {u : Int} (u0 : 0 ≤ u) (u5 : u ≤ 5) (hu : nu.1 0 3 = u) (h : ∀ n, (∀ k, 0 ≤ k → k < 22 → n.1 1 k = nu.1 2 (22 * u + k)) → (∀ c, c ≠ 1 → n.1 c = nu.1 c) → Q (some (jm_i 1)) n) (j : Nat) : ∀ (k : Int) (m : jm_M), k + j = 22 → 0 ≤ k → (∀ i, 0 ≤ i → i < k → m.1 1 i = nu.1 2 (22 * u + i)) → (∀ c, c ≠ 1 → m.1 c = nu.1 c) → jm_V l gR (d + 1) iX12_undo 26 [(0, .ref 0), (1, jm_i k)] [] m Q := by
  induction j with
  | zero =>
    intro k m hk k0 r1 r2
    exact bX12_undo_26 hR ⟨⟨by omega, by omega⟩, fun _ => h m (fun i i0 i1 => r1 i i0 (by omega)) r2, fun q => by omega⟩
  | succ j ih =>
    intro k m hk k0 r1 r2
    have e3 : m.1 0 3 = u := by rw [r2 0 (by decide)]; exact hu
    refine bX12_undo_26 hR ⟨⟨by omega, by omega⟩, fun q => by omega, fun _ => ?_⟩
    rw [e3, r2 2 (by decide)]
    refine ⟨⟨by omega, by omega⟩, ⟨k0, by omega⟩, fun m4 e4 => ?_⟩
    subst e4
    refine ih (k + 1) _ (by omega) (by omega) (fun i i0 i1 => ?_) (fun c hc => ?_)
    · by_cases q : i = k
      · subst q; exact jm_wrS
      · rw [jm_wrI q]; exact r1 i i0 (by omega)
    · funext b
      rw [jm_wrO hc, r2 c hc]
theorem Iv.undo (hI : Iv mu nu) {s : Int} (hs : s = if mu.1 0 16 = 0 then 5 else mu.1 0 16 - 1) (c0 : ¬ mu.1 0 15 = 0) (hm : CPY (jm_wr (jm_wr mu 0 16 s) 0 15 (mu.1 0 15 - 1)) 29 (94 + 6 * s.toNat) m) (n3 : n.1 0 3 = nu.1 0 3 - 1) (r1 : ∀ k, 0 ≤ k → k < 22 → n.1 1 k = nu.1 2 (22 * (nu.1 0 3 - 1) + k)) (r2 : ∀ c, c ≠ 1 → c ≠ 0 → n.1 c = nu.1 c) (r0 : ∀ i, i ≠ 3 → i ≠ 0 → n.1 0 i = nu.1 0 i) : Iv m n := by
  obtain ⟨⟨k1, k2, k3⟩, ⟨k4, k5⟩, h3, h4⟩ := hI.2.2.2.2.2.1
  have off := hm.2.2.2.2.2.2
  have mo : ∀ c, c ≠ 0 → (c < 29 ∨ 34 < c) → m.1 c = mu.1 c := fun c hc h9 => by
    rw [off c (by omega)]
    funext i
    rw [jm_wrO hc, jm_wrO hc]
  have m0 : m.1 0 = (jm_wr (jm_wr mu 0 16 s) 0 15 (mu.1 0 15 - 1)).1 0 := off 0 (by omega)
  have m15 : m.1 0 15 = mu.1 0 15 - 1 := by rw [m0]; simp [jm_wr]
  have m16 : m.1 0 16 = s := by rw [m0]; simp [jm_wr]
  have mi : ∀ i, i ≠ 15 → i ≠ 16 → m.1 0 i = mu.1 0 i := fun i a b => by rw [m0, jm_wrI a, jm_wrI b]
  have sb : 0 ≤ s ∧ s ≤ 5 := by rw [hs]; split <;> omega
  have g1 : ∀ S : Nat → Int → Bool, (∀ c i, S c i = true → (c < 29 ∨ 34 < c) ∧ (c = 0 → i ≠ 15 ∧ i ≠ 16)) → jm_ag S mu m := fun S hS c i hc => by
    obtain ⟨q1, q2⟩ := hS c i hc
    by_cases q : c = 0
    · subst q; exact mi i (q2 rfl).1 (q2 rfl).2
    · rw [mo c q q1]
  have g2 : ∀ S : Nat → Int → Bool, (∀ c i, S c i = true → c ≠ 1 ∧ (c = 0 → i ≠ 3 ∧ i ≠ 0)) → jm_ag S nu n := fun S hS c i hc => by
    obtain ⟨q1, q2⟩ := hS c i hc
    by_cases q : c = 0
    · subst q; exact r0 i (q2 rfl).1 (q2 rfl).2
    · rw [r2 c q1 q]
  have r24 : n.1 24 = nu.1 24 := r2 24 (by decide) (by decide)
  have r25 : n.1 25 = nu.1 25 := r2 25 (by decide) (by decide)
  have r26 : n.1 26 = nu.1 26 := r2 26 (by decide) (by decide)
  have rr2 : n.1 2 = nu.1 2 := r2 2 (by decide) (by decide)
  have m6 : m.1 6 = mu.1 6 := mo 6 (by decide) (by omega)
  have kS : jm_kc mu (mu.1 0 15 - 1) = 94 + 6 * s.toNat := by
    unfold jm_kc
    rw [hs]
    split <;> omega
  have kO : ∀ j, jm_kc m j = jm_kc mu j := fun j => by
    unfold jm_kc
    rw [m15, m16, hs]
    split <;> omega
  have ce : ∀ (j : Int) (q : Nat), q ≤ 5 → m.1 (jm_kc mu j + q) = mu.1 (jm_kc mu j + q) := fun j q hq => by
    have := jm_kcB mu j
    exact mo _ (by omega) (by omega)
  have sc : ∀ q : Nat, q ≤ 5 → (jm_wr (jm_wr mu 0 16 s) 0 15 (mu.1 0 15 - 1)).1 (94 + 6 * s.toNat + q) = mu.1 (94 + 6 * s.toNat + q) := fun q hq => by
    funext i
    rw [jm_wrO (by omega), jm_wrO (by omega)]
  obtain ⟨t1, t2⟩ := h3 (mu.1 0 15 - 1) (by omega) (by omega)
  rw [kS] at t1
  have l9 : m.1 29 4 = mu.1 (94 + 6 * s.toNat) 4 ∧ m.1 29 6 = mu.1 (94 + 6 * s.toNat) 6 ∧ m.1 29 8 = mu.1 (94 + 6 * s.toNat) 8 := by
    have s0 := sc 0 (by omega)
    rw [Nat.add_zero] at s0
    refine ⟨?_, ?_, ?_⟩
    · rw [hm.1.2.2.1, s0]
    · rw [hm.1.2.2.2.1, s0]
    · rw [hm.1.2.2.2.2, s0]
  refine ⟨hI.1.ag (g1 _ fun c i h => by simp [fCA] at h; omega) (g2 _ fun c i h => by simp [fRA] at h; omega),
    hI.2.1.ag (g1 _ fun c i h => by simp [fCM] at h; omega) (g2 _ fun c i h => by simp [fRM] at h; omega),
    hI.2.2.1.ag (g1 _ fun c i h => by simp [fCP] at h; omega) (g2 _ fun c i h => by simp [fRP] at h; omega),
    hI.2.2.2.1.ag (g1 _ fun c i h => by simp [fCL] at h; omega) (g2 _ fun c i h => by simp [fRL] at h; omega),
    ?_, ?_,
    hI.2.2.2.2.2.2.1.ag (g1 _ fun c i h => by simp [fCI] at h; omega) (g2 _ fun c i h => by simp [fRI] at h; omega),
    hI.2.2.2.2.2.2.2.ag (g1 _ fun c i h => by simp [fCT] at h; omega) (g2 _ fun c i h => by simp [fRT] at h; omega)⟩
  · unfold IC
    rw [r24, r25, r26, m6]
    have t3 := t1.ext (sc 0 (by omega)) (sc 1 (by omega)) (sc 2 (by omega)) (sc 3 (by omega)) (sc 4 (by omega)) (sc 5 (by omega))
    refine hm.crt t3 hI.1.1.2.1 (fun k q0 q1 => ?_)
    rw [r1 k q0 q1, k3]
  · refine ⟨⟨by omega, by omega, by omega⟩, ⟨by omega, by omega⟩, fun j j0 j1 => ?_, fun i j i0 ij j1 => ?_⟩
    · rw [m15] at j1
      obtain ⟨a1, a2⟩ := h3 j j0 (by omega)
      have e0 : m.1 (jm_kc mu j) = mu.1 (jm_kc mu j) := ce j 0 (by omega)
      rw [kO, r24, r25, r26, rr2, m6]
      refine ⟨a1.ext e0 (ce j 1 (by omega)) (ce j 2 (by omega)) (ce j 3 (by omega)) (ce j 4 (by omega)) (ce j 5 (by omega)), ?_⟩
      have b := h4 j (mu.1 0 15 - 1) j0 (by omega) (by omega)
      rw [kS] at b
      unfold jm_le at b ⊢
      rw [e0, l9.1, l9.2.1, l9.2.2]
      exact b
    · rw [m15] at j1
      rw [kO, kO]
      exact (h4 i j i0 ij (by omega)).ext (ce i 0 (by omega)) (ce j 0 (by omega))
theorem sim_undo (hC : jm_HC gC) (hR : jm_HR gR) (hI : Iv mu nu) : jm_sim l gC gR (d + 2) (d + 1) iX11_undo iX12_undo [] mu nu := by
  have I0 := hI.t0
  obtain ⟨⟨k1, k2, k3⟩, ⟨k4, k5⟩, -, -⟩ := I0.2.2.2.2.2.1
  have go : ∀ s : Int, s = (if mu.1 0 16 = 0 then 5 else mu.1 0 16 - 1) → ¬ mu.1 0 15 = 0 → jm_V l gC (d + 2) iX11_undo 27 [(0, .ref 0)] [jm_i s, .ref 0] mu (jm_qi fun z m => jm_R l gR (d + 1) iX12_undo [.ref 0] nu (jm_qi fun y n => y = z ∧ Iv m n)) := by
    intro s hs c0
    have sb : 0 ≤ s ∧ s ≤ 5 := by rw [hs]; split <;> omega
    refine bX11_undo_27 hC ⟨⟨by omega, by omega⟩, fun m2 e2 => ?_⟩
    subst e2
    have e15 : (jm_wr mu 0 16 s).1 0 15 = mu.1 0 15 := jm_wrI (by decide)
    rw [e15]
    refine ⟨⟨by omega, by omega⟩, fun m5 e5 => ?_⟩
    have e16 : m5.1 0 16 = s := by rw [e5, jm_wrI (by decide), jm_wrS]
    rw [e16]
    refine ⟨⟨sb.1, by omega⟩, sX1_copyFrom gC (jm_ct29 hC) (jm_ctK hC sb.1 (by omega)) (by omega) (fun m8 h8 => jm_qvI (jm_qiI ⟨by decide, by decide⟩ ?_))⟩
    rw [e5] at h8
    refine eX12_undo hR (fun n1 f1 => ?_)
    subst f1
    refine ⟨fun q => ⟨⟨by omega, by omega⟩, fun n4 f4 => ?_⟩, fun q => by omega⟩
    subst f4
    refine lX12_undo hR (u := mu.1 0 15 - 1) (by omega) (by omega) (by rw [jm_wrS, k3]) (fun n a b => ?_) 22 0 _ (by decide) (by decide) (fun i i0 i1 => by omega) (fun c hc => rfl)
    refine jm_fin ⟨by decide, by decide⟩ rfl (Iv.undo I0 hs c0 h8 ?_ (fun k q0 q1 => ?_) (fun c c1 c0 => ?_) (fun i i3 i0 => ?_))
    · rw [b 0 (by decide), jm_wrS]
    · rw [a k q0 q1, jm_wrO (by decide), k3]
    · rw [b c c1]
      funext i
      rw [jm_wrO c0]
    · rw [b 0 (by decide), jm_wrI i3]
  refine eX11_undo hC ⟨fun q => ⟨fun q2 => go _ (by rw [if_neg q2]) q, fun q2 => go _ (by rw [if_pos q2]) q⟩, fun q => ?_⟩
  refine jm_qiI ⟨by decide, by decide⟩ (eX12_undo hR (fun n1 f1 => ?_))
  subst f1
  exact ⟨fun r => by omega, fun _ => jm_fin ⟨by decide, by decide⟩ rfl I0⟩
/-- the draws of a day's rest -/
def dS (s : Int) : Nat → Int
  | 0 => s
  | k + 1 => jm_nm (dS s k * 1664525 + 1013904223)
def hz (s : Int) (k : Nat) : Int := if Int.tmod (jm_ushr (dS s (k + 1)) 8) 10 = 0 then 1 else 0
theorem hz_01 (s : Int) (k : Nat) : hz s k = 0 ∨ hz s k = 1 := by unfold hz; split <;> omega
theorem jm_tmB (a : Int) {b : Int} (b0 : 0 < b) (b1 : b ≤ 1000) : jm_rg (Int.tmod a b) := by
  have h1 := Int.tmod_lt_of_pos a b0
  have h2 := Int.lt_tmod_of_pos a b0
  exact ⟨by omega, by omega⟩
theorem sX1_draw (hC : jm_HC gC) (b0 : 0 < v1) (b1 : v1 ≤ 1000) (h : Q (some (jm_i (Int.tmod (jm_ushr (jm_nm (mu.1 29 0 * 1664525 + 1013904223)) 8) v1))) (jm_wr mu 29 0 (jm_nm (mu.1 29 0 * 1664525 + 1013904223)))) : jm_R l gC (d + 1) iX1_draw [.ref 29, jm_i v1] mu Q := by
  refine eX1_draw hC (fun m1 e1 => ⟨⟨by omega, by omega⟩, fun q => by omega, fun _ => ⟨by omega, ?_⟩⟩)
  have e : m1.1 29 0 = jm_nm (mu.1 29 0 * 1664525 + 1013904223) := by rw [e1]; exact jm_wrS
  rw [e, e1]
  exact h
/-- what a day's rest does to nerves, hoarseness, draws: the class behind k witnesses -/
def RSC (mu m : jm_M) (k : Nat) : Prop := (∀ i, 0 ≤ i → i < (k : Int) → m.1 30 i = min 99 (mu.1 30 i + 7)) ∧ (∀ i, (k : Int) ≤ i → m.1 30 i = mu.1 30 i) ∧ (∀ i : Nat, i < k → m.1 31 i = hz (mu.1 29 0) i) ∧ m.1 29 0 = dS (mu.1 29 0) k ∧ (∀ i, i ≠ 0 → m.1 29 i = mu.1 29 i) ∧ ∀ c, c ≠ 29 → c ≠ 30 → c ≠ 31 → m.1 c = mu.1 c
def RSR (nu n : jm_M) (W : Nat) : Prop := (∀ i, 0 ≤ i → i < (W : Int) → n.1 1 (6 + i) = max 0 (min 99 (nu.1 1 (6 + i) + 50 + 7)) - 50) ∧ (∀ i : Nat, i < W → n.1 1 (14 + i) = hz (nu.1 1 1) i) ∧ n.1 1 1 = dS (nu.1 1 1) W ∧ (∀ i, i ≠ 1 → i < 6 → n.1 1 i = nu.1 1 i) ∧ ∀ c, c ≠ 1 → n.1 c = nu.1 c
theorem RSR_ex (nu : jm_M) (W : Nat) (W8 : W ≤ 8) : ∃ n, RSR nu n W := by
  refine ⟨(fun c i => if c = 1 then (if i = 1 then dS (nu.1 1 1) W else if 6 ≤ i ∧ i < 14 then max 0 (min 99 (nu.1 1 i + 50 + 7)) - 50 else if 14 ≤ i then hz (nu.1 1 1) (i - 14).toNat else nu.1 1 i) else nu.1 c i, nu.2), fun i i0 i1 => ?_, fun i i1 => ?_, ?_, fun i i1 i6 => ?_, fun c hc => ?_⟩
  · have a : ¬ (6 + i = 1) := by omega
    have b : 6 ≤ 6 + i ∧ 6 + i < 14 := by omega
    simp only [if_true, if_neg a, if_pos b]
  · have a : ¬ (14 + (i : Int) = 1) := by omega
    have b : ¬ (6 ≤ 14 + (i : Int) ∧ 14 + (i : Int) < 14) := by omega
    have c : 14 ≤ 14 + (i : Int) := by omega
    have e : (14 + (i : Int) - 14).toNat = i := by omega
    simp only [if_true, if_neg a, if_neg b, if_pos c, e]
  · simp
  · have b : ¬ (6 ≤ i ∧ i < 14) := by omega
    have c : ¬ (14 ≤ i) := by omega
    simp only [if_true, if_neg i1, if_neg b, if_neg c]
  · funext i
    simp [hc]
theorem Iv.rest (hI : Iv mu nu) (hm : RSC mu m (mu.1 6 0).toNat) (hn : RSR nu n (mu.1 6 0).toNat) : Iv m n := by
  obtain ⟨a1, a2, a3, a4, a5, a6⟩ := hm
  obtain ⟨b1, b2, b3, b4, b5⟩ := hn
  obtain ⟨d0, d1, d2, d3, d4, d5, d6, d7, d8, d9, d10⟩ := hI.2.2.2.2.1
  obtain ⟨w0, w8, -⟩ := hI.1.1
  have e6 : m.1 6 = mu.1 6 := a6 6 (by decide) (by decide) (by decide)
  have e32 : m.1 32 = mu.1 32 := a6 32 (by decide) (by decide) (by decide)
  have e33 : m.1 33 = mu.1 33 := a6 33 (by decide) (by decide) (by decide)
  have e34 : m.1 34 = mu.1 34 := a6 34 (by decide) (by decide) (by decide)
  have r24 : n.1 24 = nu.1 24 := b5 24 (by decide)
  have r25 : n.1 25 = nu.1 25 := b5 25 (by decide)
  have r26 : n.1 26 = nu.1 26 := b5 26 (by decide)
  refine hI.gr ⟨fun c i hc => ?_, ⟨?_, ?_, ?_⟩, fun c i hc => ?_, fun k _ _ => by rw [r24], fun k _ _ => by rw [r25], fun k _ _ => by rw [r26]⟩ ?_
  · rw [a6 c (fun q => by subst q; simp [fCg, jm_fC] at hc) (fun q => by subst q; simp [fCg, jm_fC] at hc) (fun q => by subst q; simp [fCg, jm_fC] at hc)]
  · rw [a5 4 (by decide)]; exact Int.le_refl _
  · rw [a5 6 (by decide)]; exact Int.le_refl _
  · rw [a5 8 (by decide)]; exact Int.le_refl _
  · rw [b5 c (fun q => by subst q; simp [fRg] at hc)]
  · unfold IC
    rw [r24, r25, r26]
    refine ⟨by rw [a5 1 (by decide), b4 0 (by decide) (by decide)]; exact d0, by rw [a4, b3, d1], by rw [a5 8 (by decide), b4 2 (by decide) (by decide)]; exact d2, by rw [a5 6 (by decide), b4 3 (by decide) (by decide)]; exact d3, by rw [a5 4 (by decide), b4 4 (by decide) (by decide)]; exact d4, by rw [a5 4 (by decide), b4 5 (by decide) (by decide)]; exact d5, fun y y0 y1 => ?_, ?_, ?_, ?_, ?_⟩
    · rw [e6] at y1
      obtain ⟨t1, t2, t3, t4, t5, t6⟩ := d6 y y0 y1
      have t1 : 0 ≤ mu.1 30 y := t1
      have t2 : mu.1 30 y ≤ 99 := t2
      have t3 : nu.1 1 (6 + y) = mu.1 30 y - 50 := t3
      have p1 : m.1 30 y = min 99 (mu.1 30 y + 7) := a1 y y0 (by omega)
      have p2 := b1 y y0 (by omega)
      have p3 := a3 y.toNat (by omega)
      have p4 := b2 y.toNat (by omega)
      rw [show ((y.toNat : Nat) : Int) = y by omega] at p3 p4
      rw [d1] at p4
      have h01 := hz_01 (mu.1 29 0) y.toNat
      show 0 ≤ m.1 30 y ∧ m.1 30 y ≤ 99 ∧ n.1 1 (6 + y) = m.1 30 y - 50 ∧ 0 ≤ m.1 31 y ∧ m.1 31 y ≤ 1 ∧ n.1 1 (14 + y) = m.1 31 y
      rw [p1, p2, p3, p4]
      omega
    · rw [a5 4 (by decide), a5 6 (by decide), b4 5 (by decide) (by decide), e6]
      show ∀ i, _
      rw [show m.1 (29 + 3) = mu.1 (29 + 3) from e32]
      exact d7
    · rw [a5 4 (by decide), show m.1 (29 + 3) = mu.1 (29 + 3) from e32]
      exact d8
    · rw [a5 6 (by decide), show m.1 (29 + 4) = mu.1 (29 + 4) from e33]
      exact d9
    · rw [a5 8 (by decide), show m.1 (29 + 5) = mu.1 (29 + 5) from e34]
      exact d10
theorem lX2_restOneDay (hC : jm_HC gC) (W0 : 0 ≤ mu.1 6 0) (W8 : mu.1 6 0 ≤ 8) (nb : ∀ w, 0 ≤ w → w < mu.1 6 0 → 0 ≤ mu.1 30 w ∧ mu.1 30 w ≤ 99) (L0 : 0 ≤ mu.1 29 8) (D : 0 ≤ mu.1 29 1 ∧ mu.1 29 1 ≤ 999) (h : ∀ m, RSC mu m (mu.1 6 0).toNat → Q none (jm_wr (cW m 3 (-1) (-1) 0) 29 1 (mu.1 29 1 + 1))) (j : Nat) : ∀ (k : Nat) (m : jm_M), k + j = (mu.1 6 0).toNat → RSC mu m k → jm_V l gC (d + 2) iX2_restOneDay 2 [(0, .ref 37), (1, jm_i k)] [] m Q := by
  induction j with
  | zero =>
    intro k m hk r
    have e6 : m.1 6 0 = mu.1 6 0 := by rw [r.2.2.2.2.2 6 (by decide) (by decide) (by decide)]
    have e8 : m.1 29 8 = mu.1 29 8 := r.2.2.2.2.1 8 (by decide)
    have e1 : m.1 29 1 = mu.1 29 1 := r.2.2.2.2.1 1 (by decide)
    refine bX2_restOneDay_2 hC ⟨⟨by omega, by omega⟩, fun _ => sX1_write hC (by omega) ⟨by decide, by decide⟩ ⟨by decide, by decide⟩ ⟨by decide, by decide⟩ ⟨by decide, by decide⟩ (jm_qvI ?_), fun q => by omega⟩
    rw [cW_9 (by decide), e1]
    refine ⟨⟨by omega, by omega⟩, fun m7 e7 => ?_⟩
    rw [e7]
    exact h m (by rw [← hk, Nat.add_zero]; exact r)
  | succ j ih =>
    intro k m hk r
    obtain ⟨a1, a2, a3, a4, a5, a6⟩ := r
    have e6 : m.1 6 0 = mu.1 6 0 := by rw [a6 6 (by decide) (by decide) (by decide)]
    have e30 := a2 k (by omega)
    have b := nb k (by omega) (by omega)
    refine bX2_restOneDay_2 hC ⟨⟨by omega, by omega⟩, fun q => by omega, fun _ => ⟨⟨by omega, by omega⟩, ⟨by omega, by omega⟩, fun m11 e11 => ?_⟩⟩
    have f0 : m11.1 29 0 = dS (mu.1 29 0) k := by rw [e11, jm_wrO (by decide), a4]
    refine sX1_draw hC (by decide) (by decide) (jm_qiI (jm_tmB _ (by decide) (by decide)) ?_)
    rw [f0]
    have nx : ∀ x, x = hz (mu.1 29 0) k → RSC mu (jm_wr (jm_wr m11 29 0 (jm_nm (dS (mu.1 29 0) k * 1664525 + 1013904223))) 31 k x) (k + 1) := by
      intro x hx
      refine ⟨fun i i0 i1 => ?_, fun i i1 => ?_, fun i i1 => ?_, ?_, fun i hi => ?_, fun c c1 c2 c3 => ?_⟩
      · rw [jm_wrO (by decide), jm_wrO (by decide), e11]
        by_cases q : i = k
        · subst q; rw [jm_wrS, e30]
        · rw [jm_wrI q]; exact a1 i i0 (by omega)
      · rw [jm_wrO (by decide), jm_wrO (by decide), e11, jm_wrI (by omega)]
        exact a2 i (by omega)
      · by_cases q : i = k
        · subst q; rw [jm_wrS, hx]
        · rw [jm_wrI (by omega), jm_wrO (by decide), e11, jm_wrO (by decide)]
          exact a3 i (by omega)
      · rw [jm_wrO (by decide), jm_wrS]
        rfl
      · rw [jm_wrO (by decide), jm_wrI hi, e11, jm_wrO (by decide)]
        exact a5 i hi
      · funext i
        rw [jm_wrO c3, jm_wrO c1, e11, jm_wrO c2, a6 c c1 c2 c3]
    have ek : ((k : Int) + 1) = ((k + 1 : Nat) : Int) := by omega
    refine ⟨fun q m17 e17 => ?_, fun q m19 e19 => ?_⟩
    · rw [ek]
      refine ih (k + 1) m17 (by omega) ?_
      rw [e17]
      exact nx 0 (by unfold hz dS; rw [if_neg q])
    · rw [ek]
      refine ih (k + 1) m19 (by omega) ?_
      rw [e19]
      exact nx 1 (by unfold hz dS; rw [if_pos q])
end UN
