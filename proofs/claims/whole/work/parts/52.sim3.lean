section S3
variable {l : Launch} {gC gR : jm_G} {d : Nat} {mu nu : jm_M} {v1 v2 v3 : Int} {Q : Option Value → jm_M → Prop}
theorem IK_clear (m n : jm_M) : IK (jm_wr (jm_wr m 0 15 0) 0 16 0) (jm_wr n 0 3 0) := by
  have e15 : (jm_wr (jm_wr m 0 15 0) 0 16 0).1 0 15 = 0 := by simp [jm_wr]
  have e16 : (jm_wr (jm_wr m 0 15 0) 0 16 0).1 0 16 = 0 := by simp [jm_wr]
  refine ⟨⟨by omega, by omega, by rw [e15]; simp [jm_wr]⟩, ⟨by omega, by omega⟩, fun j j0 j1 => by omega, fun i j i0 ij j1 => by omega⟩
theorem sim_state (hC : jm_HC gC) (hR : jm_HR gR) (hI : Iv mu nu) (h1 : jm_rg v1) : jm_sim l gC gR (d + 2) (d + 1) iX11_state iX12_state [jm_i v1] mu nu := by
  refine jm_RmrI (fun hm => ?_)
  obtain ⟨i1, i2, i3, i4, i5, i6, i7, i8⟩ := hI
  refine pX11_state hC h1 (jm_qiI (hm _ _) (pX12_state hR h1 ?_))
  obtain ⟨c0, c1, c2, c3, c4, c5, c6, c7, c8, c9, c10⟩ := i5
  refine jm_fin (hm _ _) (by simpa [jm_wr] using c1) ⟨i1.ag (((jm_ag.rf.wr rfl).wr rfl).wr rfl) (((jm_ag.rf.wr rfl).wr rfl).wr rfl), i2.ag (((jm_ag.rf.wr rfl).wr rfl).wr rfl) (((jm_ag.rf.wr rfl).wr rfl).wr rfl), i3.ag (((jm_ag.rf.wr rfl).wr rfl).wr rfl) (((jm_ag.rf.wr rfl).wr rfl).wr rfl), i4.ag (((jm_ag.rf.wr rfl).wr rfl).wr rfl) (((jm_ag.rf.wr rfl).wr rfl).wr rfl), ?_, IK_clear _ _, i7.ag (((jm_ag.rf.wr rfl).wr rfl).wr rfl) (((jm_ag.rf.wr rfl).wr rfl).wr rfl), i8.ag (((jm_ag.rf.wr rfl).wr rfl).wr rfl) (((jm_ag.rf.wr rfl).wr rfl).wr rfl)⟩
  refine ⟨by simpa [jm_wr] using c0, by simp [jm_wr], by simpa [jm_wr] using c2, by simpa [jm_wr] using c3, by simpa [jm_wr] using c4, by simpa [jm_wr] using c5, fun w w0 w1 => ?_, fun i j0 j1 => ?_, fun i j a b c e => ?_, fun k k0 k1 => ?_, fun k k0 k1 => ?_⟩
  · have := c6 w w0 (by simpa [jm_wr] using w1)
    simp [jm_wr, show ¬ (6 + w = 1) by omega, show ¬ (14 + w = 1) by omega] at this ⊢
    exact this
  · have := c7 i j0 (by simpa [jm_wr] using j1)
    simpa [jm_wr] using this
  · have := c8 i j a (by simpa [jm_wr] using b) c e
    simpa [jm_wr] using this
  · have := c9 k k0 (by simpa [jm_wr] using k1)
    simpa [jm_wr] using this
  · have := c10 k k0 (by simpa [jm_wr] using k1)
    simpa [jm_wr] using this
theorem sim_heard (hC : jm_HC gC) (hR : jm_HR gR) (hI : Iv mu nu) (h1 : jm_rg v1) : jm_sim l gC gR (d + 3) (d + 2) iX11_heard iX12_heard [jm_i v1] mu nu := by
  refine jm_RmrI (fun hm => ?_)
  obtain ⟨⟨w0, w1⟩, a2, a3, a4, a5, a6, ⟨n1, n2, n3⟩, a8⟩ := hI.1
  have e52 : (jm_wr nu 0 0 0).1 0 52 = mu.1 6 8 := by simpa [jm_wr] using n3
  have no : ¬ v1 = 0 → ¬ ((1 ≤ v1 ∧ v1 ≤ 60) ∧ mu.1 6 8 < 12) → jm_qi (fun z m => jm_R l gR (d + 2) iX12_heard [.ref 0, jm_i v1] nu (jm_qi fun y n => y = z ∧ Iv m n)) (some (jm_i (-1))) mu := by
    intro q0 q
    refine jm_qiI ⟨by decide, by decide⟩ (eX12_heard hR (fun m1 e1 => ?_))
    subst e1
    refine ⟨h1, fun _ => ⟨fun r => ⟨fun r2 => absurd (⟨r, by omega⟩ : _ ∧ _) q, fun _ => jm_fin ⟨by decide, by decide⟩ rfl hI.t0⟩, fun _ => jm_fin ⟨by decide, by decide⟩ rfl hI.t0⟩, fun r => absurd r q0⟩
  refine eX11_heard hC ⟨h1, fun q => ⟨fun q1 => ⟨fun q2 => ⟨⟨n1, q2⟩, fun m3 e3 => ?_⟩, fun q2 => no q (by omega)⟩, fun q1 => no q (fun r => q1 r.1)⟩, fun q m8 e8 => ?_⟩
  · subst e3
    have x1 : (jm_wr mu 11 (mu.1 6 8) v1).1 6 8 = mu.1 6 8 := by simp [jm_wr]
    rw [x1]
    refine ⟨⟨by omega, by omega⟩, fun m6 e6 => ?_⟩
    subst e6
    have x2 : (jm_wr (jm_wr mu 11 (mu.1 6 8) v1) 6 8 (mu.1 6 8 + 1)).1 6 8 = mu.1 6 8 + 1 := by simp [jm_wr]
    rw [x2]
    refine jm_qiI ⟨by omega, by omega⟩ (eX12_heard hR (fun m1 e1 => ?_))
    subst e1
    refine ⟨h1, fun _ => ⟨fun _ => ⟨fun _ => ⟨⟨by omega, by omega⟩, fun m5 e5 => ?_⟩, fun r => by omega⟩, fun r => absurd q1 r⟩, fun r => absurd r q⟩
    subst e5
    have x3 : (jm_wr (jm_wr nu 0 0 0) 28 ((jm_wr nu 0 0 0).1 0 52) v1).1 0 52 = mu.1 6 8 := by
      rw [e52]
      simpa [jm_wr] using n3
    rw [x3, e52]
    refine ⟨⟨by omega, by omega⟩, fun m8 e8 => ?_⟩
    subst e8
    obtain ⟨i1, i2, i3, i4, i5, i6, i7, i8⟩ := hI
    refine jm_fin ⟨by omega, by omega⟩ (by simp [jm_wr]) ⟨?_, i2.ag ((jm_ag.rf.wr rfl).wr rfl) (((jm_ag.rf.wr rfl).wr rfl).wr rfl), i3.ag ((jm_ag.rf.wr rfl).wr rfl) (((jm_ag.rf.wr rfl).wr rfl).wr rfl), i4.ag ((jm_ag.rf.wr rfl).wr rfl) (((jm_ag.rf.wr rfl).wr rfl).wr rfl), i5.ag ((jm_ag.rf.wr rfl).wr rfl) (((jm_ag.rf.wr rfl).wr rfl).wr rfl), i6.ag ((jm_ag.rf.wr rfl).wr rfl) (((jm_ag.rf.wr rfl).wr rfl).wr rfl), i7.ag ((jm_ag.rf.wr rfl).wr rfl) (((jm_ag.rf.wr rfl).wr rfl).wr rfl), i8.ag ((jm_ag.rf.wr rfl).wr rfl) (((jm_ag.rf.wr rfl).wr rfl).wr rfl)⟩
    refine ⟨by simpa [jm_wr] using (⟨w0, w1⟩ : _ ∧ _), by simpa [jm_wr] using a2, by simpa [jm_wr] using a3, by simpa [jm_wr] using a4, by simpa [jm_wr] using a5, by simpa [jm_wr] using a6, ⟨by simp [jm_wr]; omega, by simp [jm_wr]; omega, by simp [jm_wr]⟩, fun k k0 k1 => ?_⟩
    have k2 : k < mu.1 6 8 + 1 := by simpa [jm_wr] using k1
    by_cases hk : k = mu.1 6 8
    · subst hk
      simp [jm_wr]
      omega
    · have := a8 k k0 (by omega)
      simpa [jm_wr, hk] using this
  · subst e8
    refine jm_qiI ⟨by decide, by decide⟩ (eX12_heard hR (fun m1 e1 => ?_))
    subst e1
    refine ⟨h1, fun r => absurd q r, fun _ m10 e10 => ?_⟩
    subst e10
    obtain ⟨i1, i2, i3, i4, i5, i6, i7, i8⟩ := hI
    refine jm_fin ⟨by decide, by decide⟩ rfl ⟨?_, i2.ag (jm_ag.rf.wr rfl) ((jm_ag.rf.wr rfl).wr rfl), i3.ag (jm_ag.rf.wr rfl) ((jm_ag.rf.wr rfl).wr rfl), i4.ag (jm_ag.rf.wr rfl) ((jm_ag.rf.wr rfl).wr rfl), i5.ag (jm_ag.rf.wr rfl) ((jm_ag.rf.wr rfl).wr rfl), i6.ag (jm_ag.rf.wr rfl) ((jm_ag.rf.wr rfl).wr rfl), i7.ag (jm_ag.rf.wr rfl) ((jm_ag.rf.wr rfl).wr rfl), i8.ag (jm_ag.rf.wr rfl) ((jm_ag.rf.wr rfl).wr rfl)⟩
    refine ⟨by simpa [jm_wr] using (⟨w0, w1⟩ : _ ∧ _), by simpa [jm_wr] using a2, by simpa [jm_wr] using a3, by simpa [jm_wr] using a4, by simpa [jm_wr] using a5, by simpa [jm_wr] using a6, ⟨by simp [jm_wr], by simp [jm_wr], by simp [jm_wr]⟩, fun k k0 k1 => ?_⟩
    have k2 : k < 0 := by simpa [jm_wr] using k1
    omega
theorem sim_claim (hC : jm_HC gC) (hR : jm_HR gR) (hI : Iv mu nu) (h1 : jm_rg v1) (h2 : jm_rg v2) (h3 : jm_rg v3) : jm_sim l gC gR (d + 3) (d + 2) iX11_claim iX12_claim [jm_i v1, jm_i v2, jm_i v3] mu nu := by
  obtain ⟨⟨w0, w1, w2⟩, a2, a3, a4, a5, a6, a7, a8⟩ := hI.1
  have e4 : (jm_wr nu 0 0 0).1 0 4 = mu.1 6 0 := by simpa [jm_wr] using w2
  have no : ¬ ((0 ≤ v1 ∧ v1 < mu.1 6 0) ∧ (0 ≤ v2 ∧ v2 ≤ 5) ∧ -1 ≤ v3 ∧ v3 ≤ 3) → jm_qi (fun z m => jm_R l gR (d + 2) iX12_claim [.ref 0, jm_i v1, jm_i v2, jm_i v3] nu (jm_qi fun y n => y = z ∧ Iv m n)) (some (jm_i 0)) mu := by
    intro q
    refine jm_qiI ⟨by decide, by decide⟩ (eX12_claim hR (fun m1 e1 => ?_))
    subst e1
    refine ⟨h1, fun r => ⟨h2, fun r2 => ⟨h3, fun r3 => absurd (⟨⟨r.1, by omega⟩, ⟨r2.1, by omega⟩, r3⟩ : _ ∧ _ ∧ _) q, fun _ => jm_fin ⟨by decide, by decide⟩ rfl hI.t0⟩, fun _ => jm_fin ⟨by decide, by decide⟩ rfl hI.t0⟩, fun _ => jm_fin ⟨by decide, by decide⟩ rfl hI.t0⟩
  refine eX11_claim hC ⟨h1, fun q => ⟨h2, fun q2 => ⟨h3, fun q3 => ⟨⟨by omega, by omega⟩, fun m5 e5 m7 e7 => ?_⟩, fun q3 => no (fun r => q3 r.2.2)⟩, fun q2 => no (fun r => q2 r.2.1)⟩, fun q => no (fun r => q r.1)⟩
  subst e5
  subst e7
  refine jm_qiI ⟨by decide, by decide⟩ (eX12_claim hR (fun m1 e1 => ?_))
  subst e1
  refine ⟨h1, fun r => ⟨h2, fun r2 => ⟨h3, fun r3 => ⟨⟨by omega, by omega⟩, ⟨by omega, by omega⟩, fun m8 e8 m10 e10 => ?_⟩, fun r3 => absurd q3 r3⟩, fun r2 => absurd (⟨q2.1, by omega⟩ : _ ∧ _) r2⟩, fun r => absurd (⟨q.1, by omega⟩ : _ ∧ _) r⟩
  subst e8
  subst e10
  obtain ⟨i1, i2, i3, i4, i5, i6, i7, i8⟩ := hI
  refine jm_fin ⟨by decide, by decide⟩ rfl ⟨?_, i2.ag (((jm_ag.rf.wr rfl).wr rfl).wr rfl) (((jm_ag.rf.wr rfl).wr rfl).wr rfl), i3.ag (((jm_ag.rf.wr rfl).wr rfl).wr rfl) (((jm_ag.rf.wr rfl).wr rfl).wr rfl), i4.ag (((jm_ag.rf.wr rfl).wr rfl).wr rfl) (((jm_ag.rf.wr rfl).wr rfl).wr rfl), i5.ag (((jm_ag.rf.wr rfl).wr rfl).wr rfl) (((jm_ag.rf.wr rfl).wr rfl).wr rfl), IK_clear _ _, i7.ag (((jm_ag.rf.wr rfl).wr rfl).wr rfl) (((jm_ag.rf.wr rfl).wr rfl).wr rfl), i8.ag (((jm_ag.rf.wr rfl).wr rfl).wr rfl) (((jm_ag.rf.wr rfl).wr rfl).wr rfl)⟩
  refine ⟨by simpa [jm_wr] using (⟨w0, w1, w2⟩ : _ ∧ _ ∧ _), by simpa [jm_wr] using a2, fun k k0 k1 => ?_, by simpa [jm_wr] using a4, by simpa [jm_wr] using a5, by simpa [jm_wr] using a6, by simpa [jm_wr] using a7, by simpa [jm_wr] using a8⟩
  have k2 : k < 6 * mu.1 6 0 := by simpa [jm_wr] using k1
  have hkk : v1 * 6 + v2 = 6 * v1 + v2 := by omega
  by_cases hk : k = 6 * v1 + v2
  · subst hk
    simp [jm_wr, hkk]
    omega
  · have := a3 k k0 k2
    simpa [jm_wr, hk, hkk] using this
theorem sX5_stepOf (hC : jm_HC gC) (h1 : 0 ≤ v1 ∧ v1 ≤ 23) (h2 : 0 ≤ v2 ∧ v2 ≤ 6) (h : Q (some (jm_i (mu.1 14 (v1 * 7 + v2)))) mu) : jm_R l gC (d + 2) iX5_stepOf [.ref 12, jm_i v1, jm_i v2] mu Q := by
  refine eX5_stepOf hC ⟨⟨by omega, by omega⟩, fun _ => ⟨⟨by omega, by omega⟩, fun _ => bX5_stepOf_25 hC ⟨⟨by decide, by decide⟩, fun r => absurd r (by decide), fun _ => ⟨⟨by omega, by omega⟩, h⟩⟩, fun r => absurd h2 r⟩, fun r => absurd h1 r⟩
theorem sX5_stepOf0 (hC : jm_HC gC) (r1 : jm_rg v1) (r2 : jm_rg v2) (h2 : ¬ (0 ≤ v2 ∧ v2 ≤ 6)) (h : Q (some (jm_i 0)) mu) : jm_R l gC (d + 2) iX5_stepOf [.ref 12, jm_i v1, jm_i v2] mu Q := by
  have k : jm_V l gC (d + 2) iX5_stepOf 25 [(0, .ref 12), (1, jm_i v1), (2, jm_i v2)] [jm_i 0] mu Q := bX5_stepOf_25 hC ⟨⟨by decide, by decide⟩, fun _ => h, fun r => absurd rfl r⟩
  exact eX5_stepOf hC ⟨r1, fun _ => ⟨r2, fun r => absurd r h2, fun _ => k⟩, fun _ => k⟩
theorem sim_motive (hC : jm_HC gC) (hR : jm_HR gR) (hI : Iv mu nu) (h1 : jm_rg v1) (h2 : jm_rg v2) : jm_sim l gC gR (d + 3) (d + 2) iX11_motive iX12_motive [jm_i v1, jm_i v2] mu nu := by
  refine jm_RmrI (fun hm => ?_)
  obtain ⟨-, m2, m3⟩ := hI.2.1
  have n17 : ∀ i, (jm_wr nu 0 0 0).1 17 i = nu.1 17 i := fun i => by simp [jm_wr]
  have no : ¬ (0 ≤ v1 ∧ v1 ≤ 23) ∨ ((0 ≤ v1 ∧ v1 ≤ 23) ∧ ¬ v2 = 0 ∧ ¬ (1 ≤ v2 ∧ v2 ≤ mu.1 13 v1 - 1)) → jm_qi (fun z m => jm_R l gR (d + 2) iX12_motive [.ref 0, jm_i v1, jm_i v2] nu (jm_qi fun y n => y = z ∧ Iv m n)) (some (jm_i (-100))) mu := by
    intro q
    refine jm_qiI ⟨by decide, by decide⟩ (eX12_motive hR (fun m1 e1 => ?_))
    subst e1
    refine ⟨h1, fun r => ⟨h2, fun r2 => ⟨⟨by omega, by omega⟩, ?_⟩, fun r2 => ?_⟩, fun _ => jm_fin ⟨by decide, by decide⟩ rfl hI.t0⟩
    · have b := m2 v1 r.1 (by omega)
      rw [n17, b.2.2]
      exact ⟨⟨by omega, by omega⟩, fun r3 => by omega, fun _ => jm_fin ⟨by decide, by decide⟩ rfl hI.t0⟩
    · omega
  refine eX11_motive hC ⟨h1, fun q => ⟨⟨q.1, by omega⟩, fun x3 e3 => ?_⟩, fun q => no (Or.inl q)⟩
  subst e3
  have b := m2 v1 q.1 (by omega)
  refine ⟨h2, fun q2 => ⟨⟨by omega, by omega⟩, fun q3 => ?_, fun q3 => no (Or.inr ⟨q, q2, q3⟩)⟩, fun q2 => ?_⟩
  · refine sX5_stepOf hC q (by omega) (jm_qiI (hm _ _) (jm_qiI (hm _ _) (eX12_motive hR (fun m1 e1 => ?_))))
    subst e1
    refine ⟨h1, fun _ => ⟨h2, fun _ => ⟨⟨by omega, by omega⟩, ?_⟩, fun r => absurd r q2⟩, fun r => absurd q r⟩
    rw [n17, b.2.2]
    refine ⟨⟨by omega, by omega⟩, fun _ => ⟨⟨by omega, by omega⟩, ?_⟩, fun r => absurd q3 r⟩
    have c := m3 v1 (v2 - 1) q.1 (by omega) (by omega) (by omega)
    exact jm_fin (hm _ _) (by rw [n17]; exact c.2.2) hI.t0
  · refine jm_qiI (hm _ _) (eX12_motive hR (fun m1 e1 => ?_))
    subst e1
    refine ⟨h1, fun _ => ⟨h2, fun r => absurd q2 r, fun _ => ⟨⟨by omega, by omega⟩, ?_⟩⟩, fun r => absurd q r⟩
    exact jm_fin (hm _ _) (by rw [n17]; exact b.2.2) hI.t0
end S3
