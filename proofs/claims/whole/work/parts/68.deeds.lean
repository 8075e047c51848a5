section DD
variable {l : Launch} {gC gR : jm_G} {d : Nat} {mu nu m n : jm_M} {v1 v2 v3 v4 v5 : Int} {Q : Option Value → jm_M → Prop}
theorem stk (hK : IC mu nu) {t : Int} (t0 : 0 ≤ t) (t1 : t < mu.1 29 4) : jm_and (jm_shr (nu.1 1 5) t) 1 = mu.1 32 (t * 7 + 6) ∧ (mu.1 32 (t * 7 + 6) = 0 ∨ mu.1 32 (t * 7 + 6) = 1) := by
  obtain ⟨-, -, -, -, ⟨k1, k2, k3⟩, ⟨s1, s2⟩, -, kt, -⟩ := hK
  have sk : mu.1 32 (t * 7 + 6) = nu.1 1 5 / 2 ^ t.toNat % 2 := (kt t t0 t1).2.2.2.2.2.2.2
  have p31 := jm_p20' (n := (mu.1 29 4).toNat) (by omega)
  have rr : jm_rg (nu.1 1 5) := ⟨by omega, by omega⟩
  have e5 : jm_and (jm_shr (nu.1 1 5) t) 1 = nu.1 1 5 / 2 ^ t.toNat % 2 := by
    rw [jm_shrV rr t0 (by omega)]
    have d0 : 0 ≤ nu.1 1 5 / 2 ^ t.toNat := Int.ediv_nonneg s1 (Int.pow_nonneg (by decide))
    have d1 : nu.1 1 5 / 2 ^ t.toNat ≤ nu.1 1 5 := Int.ediv_le_self _ s1
    exact jm_and1 d0 (by have := rr.2; omega)
  refine ⟨by rw [e5, sk], ?_⟩
  rw [sk]
  omega
theorem jm_orbit {r : Int} {t c : Nat} (h0 : 0 ≤ r) (h1 : r < 2 ^ c) (c20 : c ≤ 20) (ht : t < c) : (0 ≤ jm_or r (jm_shl 1 t) ∧ jm_or r (jm_shl 1 t) < 2 ^ c) ∧ ∀ i : Nat, jm_or r (jm_shl 1 t) / 2 ^ i % 2 = if i = t then 1 else r / 2 ^ i % 2 := by
  obtain ⟨R, rfl⟩ : ∃ R : Nat, r = R := ⟨r.toNat, by omega⟩
  have p20 := jm_p20' c20
  have hc : ∀ k : Nat, (((2 : Nat) ^ k : Nat) : Int) = (2 : Int) ^ k := fun k => Int.natCast_pow 2 k
  rw [← hc] at h1 p20
  have R1 : R < 2 ^ c := by omega
  have T1 : 2 ^ t < 2 ^ c := Nat.pow_lt_pow_right (by decide : 1 < 2) ht
  have e : jm_or (R : Int) (jm_shl 1 t) = ((R ||| 2 ^ t : Nat) : Int) := by
    rw [jm_shlB t (by omega), ← hc, jm_orN (by omega) (by omega)]
  rw [e]
  refine ⟨⟨by omega, ?_⟩, fun i => ?_⟩
  · rw [← hc]
    have := Nat.or_lt_two_pow R1 T1
    omega
  · have b : ∀ x : Nat, ((x : Int) / 2 ^ i % 2) = ((x / 2 ^ i % 2 : Nat) : Int) := fun x => by
      rw [← hc]
      norm_cast
    rw [b, b]
    have tb := Nat.testBit_or R (2 ^ t) i
    rw [Nat.testBit_two_pow] at tb
    rw [Nat.testBit_eq_decide_div_mod_eq, Nat.testBit_eq_decide_div_mod_eq] at tb
    by_cases q : i = t
    · subst q
      simp at tb
      rw [if_pos rfl, tb]
      rfl
    · rw [if_neg q]
      have q' : ¬ t = i := fun x => q x.symm
      simp [q'] at tb
      omega
theorem Iv.strike (hI : Iv mu nu) {t : Int} (t0 : 0 ≤ t) (t1 : t < mu.1 29 4) : Iv (jm_wr mu 32 (t * 7 + 6) 1) (jm_wr nu 1 5 (jm_or (nu.1 1 5) (jm_shl 1 t))) := by
  refine hI.gr (GR.w1 rfl (fun q => absurd q (by decide))) ?_
  obtain ⟨d0, d1, d2, d3, d4, d5, d6, d7, d8, d9, d10⟩ := hI.2.2.2.2.1
  obtain ⟨⟨b0, b1⟩, bb⟩ := jm_orbit (t := t.toNat) d5.1 d5.2 (by omega) (by omega)
  rw [show ((t.toNat : Nat) : Int) = t by omega] at b0 b1 bb
  refine ⟨by simpa [jm_wr] using d0, by simpa [jm_wr] using d1, by simpa [jm_wr] using d2, by simpa [jm_wr] using d3, by simpa [jm_wr] using d4, ?_, fun y y0 y1 => ?_, fun i i0 i1 => ?_, fun i j i0 i1 j0 j1 => ?_, by simpa [jm_wr] using d9, by simpa [jm_wr] using d10⟩
  · simp only [jm_wr]
    simp
    exact ⟨b0, b1⟩
  · have u := d6 y y0 (by simpa [jm_wr] using y1)
    have n6 : ¬ (6 + y = 5) := by omega
    have n14 : ¬ (14 + y = 5) := by omega
    simpa [jm_wr, n6, n14] using u
  · have i1 : i < mu.1 29 4 := by simpa [jm_wr] using i1
    have u := d7 i i0 i1
    have n0 : ¬ (i * 7 = t * 7 + 6) := by omega
    have n1 : ¬ (i * 7 + 1 = t * 7 + 6) := by omega
    have n2 : ¬ (i * 7 + 2 = t * 7 + 6) := by omega
    have n3 : ¬ (i * 7 + 3 = t * 7 + 6) := by omega
    have n4 : ¬ (i * 7 + 4 = t * 7 + 6) := by omega
    have n5 : ¬ (i * 7 + 5 = t * 7 + 6) := by omega
    obtain ⟨u1, u2, u3, u4, u5, u6, u7, u8⟩ := u
    refine ⟨by simpa [jm_wr, n0] using u1, by simpa [jm_wr, n1] using u2, by simpa [jm_wr, n2] using u3, by simpa [jm_wr, n3] using u4, by simpa [jm_wr, n4] using u5, by simpa [jm_wr, n5] using u6, by simpa [jm_wr, n4, n5] using u7, ?_⟩
    rw [jm_wrS, bb i.toNat]
    by_cases q : i = t
    · subst q
      rw [if_pos rfl]
      exact jm_wrS
    · rw [if_neg (by omega)]
      have n6 : ¬ (i * 7 + 6 = t * 7 + 6) := by omega
      rw [jm_wrI n6]
      exact u8
  · have i1 : i < mu.1 29 4 := by simpa [jm_wr] using i1
    have u := d8 i j i0 i1 j0 j1
    have n0 : ¬ (i * 7 + j = t * 7 + 6) := by omega
    simpa [jm_wr, n0] using u
theorem cW_c {a b e f : Int} {c : Nat} (h4 : c ≠ 34) (h9 : c ≠ 29) : (cW mu a b e f).1 c = mu.1 c := by
  unfold cW
  split
  · funext i
    rw [jm_wrO h9, jm_wrO h4, jm_wrO h4, jm_wrO h4, jm_wrO h4, jm_wrO h4]
  · rfl
theorem cW_9 {a b e f i : Int} (h9 : i ≠ 8) : (cW mu a b e f).1 29 i = mu.1 29 i := by
  unfold cW
  split
  · rw [jm_wrI h9, jm_wrO (by decide), jm_wrO (by decide), jm_wrO (by decide), jm_wrO (by decide), jm_wrO (by decide)]
  · rfl
theorem Iv.bk (hI : Iv mu nu) : (0 ≤ mu.1 29 8 ∧ mu.1 29 8 ≤ 120 ∧ nu.1 1 2 = mu.1 29 8) := hI.2.2.2.2.1.2.2.1
theorem Iv.nv (hI : Iv mu nu) {w : Int} (w0 : 0 ≤ w) (w1 : w < mu.1 6 0) : 0 ≤ mu.1 30 w ∧ mu.1 30 w ≤ 99 ∧ nu.1 1 (6 + w) = mu.1 30 w - 50 ∧ 0 ≤ mu.1 31 w ∧ mu.1 31 w ≤ 1 ∧ nu.1 1 (14 + w) = mu.1 31 w := hI.2.2.2.2.1.2.2.2.2.2.2.1 w w0 w1
theorem d_cross (hC : jm_HC gC) (hR : jm_HR gR) (hI : Iv mu nu) (w0 : 0 ≤ v1) (w1 : v1 < mu.1 6 0) (h : ∀ m, (∃ n, Iv m n) → m.1 6 = mu.1 6 → m.1 29 1 = mu.1 29 1 → (∀ c, 12 ≤ c → c ≤ 26 → c ≠ 21 → m.1 c = mu.1 c) → jm_pr l gR (d + 7) iX12_crosses [.ref 0, jm_i v1] mu m (some (jm_i (m.1 30 v1))) → Q none m) : jm_R l gC (d + 6) iX2_crossExamine [.ref 37, jm_i v1] mu Q := by
  have W8 := hI.1.1.2.1
  have vr : jm_rg v1 := ⟨by omega, by omega⟩
  obtain ⟨p1, p2, p3, -⟩ := hI.nv w0 w1
  refine eX2_crossExamine hC (sX0_shakeOf hC hI.1 hI.2.2.2.1 hI.2.2.2.2.1 w0 w1 (by decide) (by decide) (fun m1 t1 => ?_))
  have e0 : shk mu v1 (0 / 4) (0 % 4) = shk mu v1 0 0 := rfl
  rw [e0]
  have sb : 0 ≤ shk mu v1 0 0 ∧ shk mu v1 0 0 ≤ 99 := by unfold shk; omega
  have e30 : m1.1 30 v1 = mu.1 30 v1 := by rw [t1 30 (by decide) (by decide)]
  have e6 : m1.1 6 = mu.1 6 := t1 6 (by decide) (by decide)
  refine jm_qiI ⟨by omega, by omega⟩ ⟨⟨w0, by omega⟩, ?_⟩
  rw [e30]
  refine ⟨⟨by omega, by omega⟩, fun m7 e7 => ?_⟩
  have step : ∀ n1, Iv m1 n1 → Iv (cW m7 1 v1 (-1) 0) (rW (jm_wr n1 1 (6 + v1) (max 0 (mu.1 30 v1 - (shk mu v1 0 0 + 10)) - 50)) 1 v1 (-1) 0) := fun n1 h1 => by
    rw [e7]
    exact (h1.nerve w0 (by rw [e6]; exact w1) (by omega) (by omega)).write 1 v1 (-1) 0
  have I1 : Iv m1 nu := hI.ext t1.aC (jm_aR.rf nu)
  have L8 : m7.1 29 8 = mu.1 29 8 := by rw [e7, jm_wrO (by decide), t1 29 (by decide) (by decide)]
  refine sX1_write hC (by rw [L8]; exact hI.bk.1) ⟨by decide, by decide⟩ vr ⟨by decide, by decide⟩ ⟨by decide, by decide⟩ (jm_qvI ?_)
  refine h _ ⟨_, step nu I1⟩ ?_ ?_ (fun c c1 c2 c3 => ?_) (fun nu' Q' hI' h' => ?_)
  · rw [cW_c (by decide) (by decide), e7]
    funext i
    rw [jm_wrO (by decide), e6]
  · rw [cW_9 (by decide), e7, jm_wrO (by decide), t1 29 (by decide) (by decide)]
  · rw [cW_c (by omega) (by omega), e7]
    funext i
    rw [jm_wrO (by omega), t1 c (by omega) (by omega)]
  · obtain ⟨-, -, p3', -⟩ := hI'.nv w0 w1
    refine eX12_crosses hR ⟨⟨by omega, by omega⟩, sX12_shakeOf hR hI'.1 hI'.2.2.2.1 hI'.2.2.2.2.1 w0 w1 ⟨by decide, by decide⟩ ⟨by decide, by decide⟩ (fun n1 t2 => jm_qiI ⟨by omega, by omega⟩ ?_)⟩
    rw [p3']
    refine sX12_nerveBe hR ⟨w0, by omega⟩ ⟨by omega, by omega⟩ (jm_qvI ?_)
    rw [show max 0 (min 99 (mu.1 30 v1 - 50 + 50 - shk mu v1 0 0 - 10)) = max 0 (mu.1 30 v1 - (shk mu v1 0 0 + 10)) by omega]
    have I2 : Iv m1 n1 := hI'.ext t1.aC t2.aR
    have fin := step n1 I2
    have L2 : (jm_wr n1 1 (6 + v1) (max 0 (mu.1 30 v1 - (shk mu v1 0 0 + 10)) - 50)).1 1 2 = mu.1 29 8 := by
      rw [jm_wrI (by omega), t2 1 (by decide) (by decide)]
      exact hI'.bk.2.2
    refine sX12_notes hR (by rw [L2]; exact hI.bk.1) (by rw [L2]; exact hI.bk.2.1) ⟨by decide, by decide⟩ vr ⟨by decide, by decide⟩ ⟨by decide, by decide⟩ (jm_qvI ⟨⟨by omega, by omega⟩, ?_⟩)
    have W7 : (cW m7 1 v1 (-1) 0).1 6 0 = mu.1 6 0 := by rw [cW_c (by decide) (by decide), e7, jm_wrO (by decide), e6]
    have := (fin.nv w0 (by rw [W7]; exact w1)).2.2.1
    rw [this, Int.sub_add_cancel]
    exact h' _ fin
theorem jm_pr.go {i : jm_I} {As : List Value} {r : Option Value} {dd : Nat} (h : jm_pr l gR dd i As mu m r) (hI : Iv mu nu) (k : ∀ n, Iv m n → Q r n) : jm_R l gR dd i As nu Q := h nu Q hI k
theorem sim_cross (hC : jm_HC gC) (hR : jm_HR gR) (hI : Iv mu nu) (h1 : jm_rg v1) : jm_sim l gC gR (d + 7) (d + 8) iX11_cross iX12_cross [jm_i v1] mu nu := by
  have I0 := hI.t0
  have w4 : (jm_wr nu 0 0 0).1 0 4 = mu.1 6 0 := I0.1.1.2.2
  have W8 := hI.1.1.2.1
  refine eX11_cross hC ⟨h1, fun q => ?_, fun q => ?_⟩
  · refine d_keep (l := l) (d := d + 4) hC hR hI (fun m1 x1 e6 _ _ pr1 => jm_qvI ?_)
    obtain ⟨n1, J1⟩ := x1
    refine d_cross (l := l) hC hR J1 q.1 (by rw [e6]; exact q.2) (fun m2 x2 f6 _ _ pr2 => jm_qvI ⟨⟨q.1, by omega⟩, ?_⟩)
    obtain ⟨n2, J2⟩ := x2
    have b := J2.nv q.1 (by rw [f6, e6]; exact q.2)
    have rz : jm_rg (m2.1 30 v1) := ⟨by omega, by omega⟩
    refine jm_qiI rz (eX12_cross hR (fun k1 ek => ?_))
    subst ek
    refine ⟨h1, fun _ => ?_, fun r => absurd (by rw [w4]; exact q) r⟩
    refine jm_R.up (pr1.go I0 (fun n1' J1' => jm_qvI (jm_R.up (pr2.go J1' (fun n2' J2' => jm_qiI rz (jm_fin rz rfl J2'))) (by omega)))) (by omega)
  · refine jm_qiI ⟨by decide, by decide⟩ (eX12_cross hR (fun k1 ek => ?_))
    subst ek
    exact ⟨h1, fun r => absurd (by rw [w4] at r; exact r) q, fun _ => jm_fin ⟨by decide, by decide⟩ rfl I0⟩
theorem sim_strike (hC : jm_HC gC) (hR : jm_HR gR) (hI : Iv mu nu) (h1 : jm_rg v1) : jm_sim l gC gR (d + 7) (d + 8) iX11_strike iX12_strike [jm_i v1] mu nu := by
  have I0 := hI.t0
  have k4 := hI.2.2.2.2.1.2.2.2.2.1
  have w4 : (jm_wr nu 0 0 0).1 1 4 = mu.1 29 4 := I0.2.2.2.2.1.2.2.2.2.1.2.2
  refine eX11_strike hC ⟨h1, fun q => ⟨⟨by omega, by omega⟩, fun q2 => ?_, fun q2 => ?_⟩, fun q => ?_⟩
  · refine d_keep (l := l) (d := d + 4) hC hR hI (fun m1 x1 e6 e29 e32 pr1 => jm_qvI ?_)
    obtain ⟨n1, J1⟩ := x1
    refine eX1_strikeOut hC ⟨⟨by omega, by omega⟩, fun m2 e2 => ?_⟩
    have t1 : v1 < m1.1 29 4 := by rw [e29]; exact q.2
    have J2 := J1.strike q.1 t1
    refine sX1_write hC (by rw [e2]; exact J2.bk.1) ⟨by decide, by decide⟩ h1 ⟨by decide, by decide⟩ ⟨by decide, by decide⟩ (jm_qvI (jm_qvI ?_))
    refine jm_qiI ⟨by decide, by decide⟩ (eX12_strike hR (fun k1 ek => ?_))
    subst ek
    have sk := (stk I0.2.2.2.2.1 q.1 q.2).1
    refine ⟨h1, fun _ => ⟨fun r => ?_, fun _ => ?_⟩, fun r => absurd (by rw [w4]; exact q) r⟩
    · rw [sk, q2] at r
      exact absurd r (by decide)
    · refine jm_R.up (pr1.go I0 (fun n1' J1' => jm_qvI (fun m8 e8 => ?_))) (by omega)
      have J2' := J1'.strike q.1 t1
      rw [← e8, ← e2] at J2'
      have bb := J2'.bk
      refine sX12_notes hR (by omega) (by omega) ⟨by decide, by decide⟩ h1 ⟨by decide, by decide⟩ ⟨by decide, by decide⟩ (jm_qvI (jm_fin ⟨by decide, by decide⟩ rfl (J2'.write _ _ _ _)))
  · refine jm_qiI ⟨by decide, by decide⟩ (eX12_strike hR (fun k1 ek => ?_))
    subst ek
    obtain ⟨sk, s01⟩ := stk I0.2.2.2.2.1 q.1 q.2
    refine ⟨h1, fun _ => ⟨fun r => jm_fin ⟨by decide, by decide⟩ rfl I0, fun r => ?_⟩, fun r => absurd (by rw [w4]; exact q) r⟩
    rw [sk] at r
    omega
  · refine jm_qiI ⟨by decide, by decide⟩ (eX12_strike hR (fun k1 ek => ?_))
    subst ek
    exact ⟨h1, fun r => absurd (by rw [w4] at r; exact r) q, fun _ => jm_fin ⟨by decide, by decide⟩ rfl I0⟩
end DD
