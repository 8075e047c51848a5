section S4
variable {l : Launch} {gC gR : jm_G} {d : Nat} {mu nu : jm_M} {v1 v2 v3 v4 v5 : Int} {Q : Option Value → jm_M → Prop}
def setOK (W v1 v2 v3 : Int) : Prop := (v1 = 0 ∧ 0 ≤ v3 ∧ v3 ≤ 4095) ∨ (v1 = 1 ∧ 1 ≤ v3 ∧ v3 ≤ 999) ∨ (v1 = 2 ∧ 0 ≤ v3 ∧ v3 ≤ 9) ∨ ((0 ≤ v2 ∧ v2 < W) ∧ v1 = 3 ∧ 0 ≤ v3 ∧ v3 ≤ 99) ∨ ((0 ≤ v2 ∧ v2 < W) ∧ v1 = 4 ∧ 0 ≤ v3 ∧ v3 ≤ 1)
theorem sX11_set (hC : jm_HC gC) (hW : mu.1 6 0 ≤ 8) (h1 : jm_rg v1) (h2 : jm_rg v2) (h3 : jm_rg v3) (no : ¬ setOK (mu.1 6 0) v1 v2 v3 → Q (some (jm_i 0)) mu)
    (c0 : v1 = 0 → 0 ≤ v3 → v3 ≤ 4095 → Q (some (jm_i 1)) (jm_wr (jm_wr (jm_wr mu 6 5 v3) 0 15 0) 0 16 0)) (c1 : v1 = 1 → 1 ≤ v3 → v3 ≤ 999 → Q (some (jm_i 1)) (jm_wr (jm_wr (jm_wr mu 6 6 v3) 0 15 0) 0 16 0)) (c2 : v1 = 2 → 0 ≤ v3 → v3 ≤ 9 → Q (some (jm_i 1)) (jm_wr (jm_wr (jm_wr mu 6 7 v3) 0 15 0) 0 16 0))
    (c3 : v1 = 3 → 0 ≤ v2 → v2 < mu.1 6 0 → 0 ≤ v3 → v3 ≤ 99 → Q (some (jm_i 1)) (jm_wr (jm_wr (jm_wr mu 30 v2 v3) 0 15 0) 0 16 0)) (c4 : v1 = 4 → 0 ≤ v2 → v2 < mu.1 6 0 → 0 ≤ v3 → v3 ≤ 1 → Q (some (jm_i 1)) (jm_wr (jm_wr (jm_wr mu 31 v2 v3) 0 15 0) 0 16 0)) : jm_R l gC (d + 4) iX11_set [.ref 0, jm_i v1, jm_i v2, jm_i v3] mu Q := by
  have k0 : ∀ {m : jm_M}, Q (some (jm_i 0)) m → jm_qi (fun z m => jm_V l gC (d + 4) iX11_set 21 [(0, .ref 0)] [jm_i z] m Q) (some (jm_i 0)) m := fun h => jm_qiI ⟨by decide, by decide⟩ (bX11_set_21 hC ⟨⟨by decide, by decide⟩, fun _ => ⟨Or.inl rfl, h⟩, fun r => absurd rfl r⟩)
  have k1 : ∀ {m : jm_M}, Q (some (jm_i 1)) (jm_wr (jm_wr m 0 15 0) 0 16 0) → jm_qi (fun z m => jm_V l gC (d + 4) iX11_set 21 [(0, .ref 0)] [jm_i z] m Q) (some (jm_i 1)) m := fun h => jm_qiI ⟨by decide, by decide⟩ (bX11_set_21 hC ⟨⟨by decide, by decide⟩, fun r => absurd r (by decide), fun _ m3 e3 => ⟨Or.inr rfl, by subst e3; exact h⟩⟩)
  refine eX11_set hC ⟨h1, fun q => ?_, fun q => ?_⟩
  · have z51 : ¬ (v1 = 0 ∧ 0 ≤ v3 ∧ v3 ≤ 4095) → ¬ (v1 = 1 ∧ 1 ≤ v3 ∧ v3 ≤ 999) → jm_V l gC (d + 3) iX11_setOfBench 51 [(0, .ref 0), (1, jm_i v1), (2, jm_i v3)] [] mu (jm_qi (fun z m => jm_V l gC (d + 4) iX11_set 21 [(0, .ref 0)] [jm_i z] m Q)) := fun n0 n1 => bX11_setOfBench_51 hC ⟨h1, fun r => k0 (no (by unfold setOK; omega)), fun r => ⟨h3, fun r2 m3 e3 => by subst e3; exact k1 (c2 r r2.1 r2.2), fun r2 => k0 (no (by unfold setOK; omega))⟩⟩
    have z25 : ¬ (v1 = 0 ∧ 0 ≤ v3 ∧ v3 ≤ 4095) → jm_V l gC (d + 3) iX11_setOfBench 25 [(0, .ref 0), (1, jm_i v1), (2, jm_i v3)] [] mu (jm_qi (fun z m => jm_V l gC (d + 4) iX11_set 21 [(0, .ref 0)] [jm_i z] m Q)) := fun n0 => bX11_setOfBench_25 hC ⟨h1, fun r => z51 n0 (by omega), fun r => ⟨h3, fun r2 m3 e3 => by subst e3; exact k1 (c1 r r2.1 r2.2), fun r2 => z51 n0 (by omega)⟩⟩
    exact eX11_setOfBench hC ⟨h1, fun r => z25 (by omega), fun r => ⟨h3, fun r2 m3 e3 => by subst e3; exact k1 (c0 r r2.1 r2.2), fun r2 => z25 (by omega)⟩⟩
  · have z40 : (0 ≤ v2 ∧ v2 < mu.1 6 0) → ¬ (v1 = 3 ∧ 0 ≤ v3 ∧ v3 ≤ 99) → jm_V l gC (d + 3) iX11_setOfWitness 40 [(0, .ref 0), (1, jm_i v1), (2, jm_i v2), (3, jm_i v3)] [] mu (jm_qi (fun z m => jm_V l gC (d + 4) iX11_set 21 [(0, .ref 0)] [jm_i z] m Q)) := fun w n0 => bX11_setOfWitness_40 hC ⟨h1, fun r => k0 (no (by unfold setOK; omega)), fun r => ⟨h3, fun r2 => ⟨⟨by omega, by omega⟩, fun m4 e4 => by subst e4; exact k1 (c4 r w.1 w.2 r2.1 r2.2)⟩, fun r2 => k0 (no (by unfold setOK; omega))⟩⟩
    exact eX11_setOfWitness hC ⟨h2, fun w => ⟨h1, fun r => z40 w (by omega), fun r => ⟨h3, fun r2 => ⟨⟨by omega, by omega⟩, fun m5 e5 => by subst e5; exact k1 (c3 r w.1 w.2 r2.1 r2.2)⟩, fun r2 => z40 w (by omega)⟩⟩, fun w => k0 (no (by unfold setOK; omega))⟩
theorem sX12_canSet (hR : jm_HR gR) (h1 : jm_rg v1) (h2 : jm_rg v2) (h3 : jm_rg v3) (y : setOK (nu.1 0 4) v1 v2 v3 → Q (some (jm_i 1)) nu) (no : ¬ setOK (nu.1 0 4) v1 v2 v3 → Q (some (jm_i 0)) nu) : jm_R l gR (d + 2) iX12_canSet [.ref 0, jm_i v1, jm_i v2, jm_i v3] nu Q := by
  refine eX12_canSet hR ⟨h1, fun q0 => ⟨fun q1 => ⟨fun q2 => ⟨fun q => ⟨h2, fun w => ⟨fun q3 => ?_, fun q3 => ?_⟩, fun w => no (by unfold setOK; omega)⟩, fun q => no (by unfold setOK; omega)⟩, fun q2 => ⟨h3, fun r => y (by unfold setOK; omega), fun r => no (by unfold setOK; omega)⟩⟩, fun q1 => ⟨h3, fun r => y (by unfold setOK; omega), fun r => no (by unfold setOK; omega)⟩⟩, fun q0 => ⟨h3, fun r => y (by unfold setOK; omega), fun r => no (by unfold setOK; omega)⟩⟩
  · exact bX12_canSet_75 hR ⟨h3, ⟨by decide, by decide⟩, ⟨by decide, by decide⟩, fun r => y (by unfold setOK; omega), fun r => no (by unfold setOK; omega)⟩
  · exact bX12_canSet_75 hR ⟨h3, ⟨by decide, by decide⟩, ⟨by decide, by decide⟩, fun r => y (by unfold setOK; omega), fun r => no (by unfold setOK; omega)⟩
theorem sX12_held (hR : jm_HR gR) (h1 : jm_rg v1) (h2 : jm_rg v2) (h3 : jm_rg v3) (hle : v2 ≤ v3) (h : Q (some (jm_i (max v2 (min v3 v1)))) nu) : jm_R l gR (d + 1) iX12_held [.ref 0, jm_i v1, jm_i v2, jm_i v3] nu Q := by
  refine eX12_held hR ⟨h1, h2, fun q => ⟨h3, fun r => ?_, fun r => ?_⟩, fun q => ?_⟩
  · rw [show max v2 (min v3 v1) = v1 by omega] at h; exact h
  · rw [show max v2 (min v3 v1) = v3 by omega] at h; exact h
  · rw [show max v2 (min v3 v1) = v2 by omega] at h; exact h
theorem sX12_nerveBe (hR : jm_HR gR) (h1 : 0 ≤ v1 ∧ v1 < 8) (h2 : jm_rg v2) (h : Q none (jm_wr nu 1 (6 + v1) (max 0 (min 99 v2) - 50))) : jm_R l gR (d + 2) iX12_nerveBe [.ref 0, jm_i v1, jm_i v2] nu Q := by
  refine eX12_nerveBe hR (sX12_held hR h2 ⟨by decide, by decide⟩ ⟨by decide, by decide⟩ (by decide) (jm_qiI ⟨by omega, by omega⟩ ⟨⟨by omega, by omega⟩, ⟨by omega, by omega⟩, fun m7 e7 => ?_⟩))
  subst e7
  exact h
theorem sim_set (hC : jm_HC gC) (hR : jm_HR gR) (hI : Iv mu nu) (h1 : jm_rg v1) (h2 : jm_rg v2) (h3 : jm_rg v3) : jm_sim l gC gR (d + 4) (d + 4) iX11_set iX12_set [jm_i v1, jm_i v2, jm_i v3] mu nu := by
  obtain ⟨i1, i2, i3, i4, i5, i6, i7, i8⟩ := hI
  have hI : Iv mu nu := ⟨i1, i2, i3, i4, i5, i6, i7, i8⟩
  obtain ⟨⟨w0, w1, w2⟩, a2, a3, a4, a5, a6, a7, a8⟩ := i1
  obtain ⟨d0, d1, d2, d3, d4, d5, d6, d7, d8, d9, d10⟩ := i5
  have i1 := hI.1
  have i5 := hI.2.2.2.2.1
  have e4 : (jm_wr nu 0 0 0).1 0 4 = mu.1 6 0 := by simpa [jm_wr] using w2
  have rk : ∀ {F : Int → jm_M → Prop}, (setOK (mu.1 6 0) v1 v2 v3 → jm_qi F (some (jm_i 1)) (jm_wr nu 0 0 0)) → (¬ setOK (mu.1 6 0) v1 v2 v3 → jm_qi F (some (jm_i 0)) (jm_wr nu 0 0 0)) → jm_R l gR (d + 3) iX12_canSet [.ref 0, jm_i v1, jm_i v2, jm_i v3] (jm_wr nu 0 0 0) (jm_qi F) := fun y n => sX12_canSet hR h1 h2 h3 (fun h => y (by rw [e4] at h; exact h)) (fun h => n (by rw [e4] at h; exact h))
  refine sX11_set hC w1 h1 h2 h3 (fun q => ?_) (fun q q1 q2 => ?_) (fun q q1 q2 => ?_) (fun q q1 q2 => ?_) (fun q q1 q2 q3 q4 => ?_) (fun q q1 q2 q3 q4 => ?_)
  · refine jm_qiI ⟨by decide, by decide⟩ (eX12_set hR (fun m1 e1 => ?_))
    subst e1
    refine rk (fun r => absurd r q) (fun _ => jm_qiI ⟨by decide, by decide⟩ ⟨fun r => absurd rfl r, fun _ => jm_fin ⟨by decide, by decide⟩ rfl hI.t0⟩)
  · refine jm_qiI ⟨by decide, by decide⟩ (eX12_set hR (fun m1 e1 => ?_))
    subst e1
    subst q
    refine rk (fun _ => jm_qiI ⟨by decide, by decide⟩ ⟨fun _ => ⟨h1, fun r => absurd rfl r, fun _ m8 e8 => ?_⟩, fun r => absurd r (by decide)⟩) (fun r => absurd (Or.inl ⟨rfl, q1, q2⟩) r)
    subst e8
    refine bX12_set_30 hR ⟨h1, fun _ => ⟨fun _ => bX12_set_55 hR ⟨h1, fun _ => bX12_set_66 hR ⟨h1, fun _ m2 e2 => ?_, fun r => absurd r (by decide)⟩, fun r => absurd r (by decide)⟩, fun r => absurd r (by decide)⟩, fun r => absurd r (by decide)⟩
    subst e2
    refine jm_fin ⟨by decide, by decide⟩ rfl ⟨?_, i2.ag (((jm_ag.rf.wr rfl).wr rfl).wr rfl) (((jm_ag.rf.wr rfl).wr rfl).wr rfl), i3.ag (((jm_ag.rf.wr rfl).wr rfl).wr rfl) (((jm_ag.rf.wr rfl).wr rfl).wr rfl), i4.ag (((jm_ag.rf.wr rfl).wr rfl).wr rfl) (((jm_ag.rf.wr rfl).wr rfl).wr rfl), i5.ag (((jm_ag.rf.wr rfl).wr rfl).wr rfl) (((jm_ag.rf.wr rfl).wr rfl).wr rfl), IK_clear _ _, i7.ag (((jm_ag.rf.wr rfl).wr rfl).wr rfl) (((jm_ag.rf.wr rfl).wr rfl).wr rfl), i8.ag (((jm_ag.rf.wr rfl).wr rfl).wr rfl) (((jm_ag.rf.wr rfl).wr rfl).wr rfl)⟩
    exact ⟨by simpa [jm_wr] using (⟨w0, w1, w2⟩ : _ ∧ _ ∧ _), by simpa [jm_wr] using a2, by simpa [jm_wr] using a3, by simpa [jm_wr] using (⟨q1, q2⟩ : _ ∧ _), by simpa [jm_wr] using a5, by simpa [jm_wr] using a6, by simpa [jm_wr] using a7, by simpa [jm_wr] using a8⟩
  · refine jm_qiI ⟨by decide, by decide⟩ (eX12_set hR (fun m1 e1 => ?_))
    subst e1
    subst q
    refine rk (fun _ => jm_qiI ⟨by decide, by decide⟩ ⟨fun _ => ⟨h1, fun _ => ?_, fun r => absurd r (by decide)⟩, fun r => absurd r (by decide)⟩) (fun r => absurd (Or.inr (Or.inl ⟨rfl, q1, q2⟩)) r)
    refine bX12_set_30 hR ⟨h1, fun r => absurd rfl r, fun _ => ⟨⟨by omega, by omega⟩, fun m6 e6 => ⟨fun _ => ?_, fun r => absurd r (by decide)⟩⟩⟩
    subst e6
    refine bX12_set_55 hR ⟨h1, fun _ => bX12_set_66 hR ⟨h1, fun _ m2 e2 => ?_, fun r => absurd r (by decide)⟩, fun r => absurd r (by decide)⟩
    subst e2
    refine jm_fin ⟨by decide, by decide⟩ rfl ⟨?_, i2.ag (((jm_ag.rf.wr rfl).wr rfl).wr rfl) (((jm_ag.rf.wr rfl).wr rfl).wr rfl), i3.ag (((jm_ag.rf.wr rfl).wr rfl).wr rfl) (((jm_ag.rf.wr rfl).wr rfl).wr rfl), i4.ag (((jm_ag.rf.wr rfl).wr rfl).wr rfl) (((jm_ag.rf.wr rfl).wr rfl).wr rfl), i5.ag (((jm_ag.rf.wr rfl).wr rfl).wr rfl) (((jm_ag.rf.wr rfl).wr rfl).wr rfl), IK_clear _ _, i7.ag (((jm_ag.rf.wr rfl).wr rfl).wr rfl) (((jm_ag.rf.wr rfl).wr rfl).wr rfl), i8.ag (((jm_ag.rf.wr rfl).wr rfl).wr rfl) (((jm_ag.rf.wr rfl).wr rfl).wr rfl)⟩
    exact ⟨by simpa [jm_wr] using (⟨w0, w1, w2⟩ : _ ∧ _ ∧ _), by simpa [jm_wr] using a2, by simpa [jm_wr] using a3, by simpa [jm_wr] using a4, by simpa [jm_wr] using (⟨q1, q2⟩ : _ ∧ _), by simpa [jm_wr] using a6, by simpa [jm_wr] using a7, by simpa [jm_wr] using a8⟩
  · refine jm_qiI ⟨by decide, by decide⟩ (eX12_set hR (fun m1 e1 => ?_))
    subst e1
    subst q
    refine rk (fun _ => jm_qiI ⟨by decide, by decide⟩ ⟨fun _ => ⟨h1, fun _ => ?_, fun r => absurd r (by decide)⟩, fun r => absurd r (by decide)⟩) (fun r => absurd (Or.inr (Or.inr (Or.inl ⟨rfl, q1, q2⟩))) r)
    refine bX12_set_30 hR ⟨h1, fun _ => ⟨fun r => absurd rfl r, fun _ => ⟨⟨by omega, by omega⟩, fun m3 e3 => ?_⟩⟩, fun r => absurd r (by decide)⟩
    subst e3
    refine bX12_set_55 hR ⟨h1, fun _ => bX12_set_66 hR ⟨h1, fun _ m2 e2 => ?_, fun r => absurd r (by decide)⟩, fun r => absurd r (by decide)⟩
    subst e2
    refine jm_fin ⟨by decide, by decide⟩ rfl ⟨?_, i2.ag (((jm_ag.rf.wr rfl).wr rfl).wr rfl) (((jm_ag.rf.wr rfl).wr rfl).wr rfl), i3.ag (((jm_ag.rf.wr rfl).wr rfl).wr rfl) (((jm_ag.rf.wr rfl).wr rfl).wr rfl), i4.ag (((jm_ag.rf.wr rfl).wr rfl).wr rfl) (((jm_ag.rf.wr rfl).wr rfl).wr rfl), i5.ag (((jm_ag.rf.wr rfl).wr rfl).wr rfl) (((jm_ag.rf.wr rfl).wr rfl).wr rfl), IK_clear _ _, i7.ag (((jm_ag.rf.wr rfl).wr rfl).wr rfl) (((jm_ag.rf.wr rfl).wr rfl).wr rfl), i8.ag (((jm_ag.rf.wr rfl).wr rfl).wr rfl) (((jm_ag.rf.wr rfl).wr rfl).wr rfl)⟩
    exact ⟨by simpa [jm_wr] using (⟨w0, w1, w2⟩ : _ ∧ _ ∧ _), by simpa [jm_wr] using a2, by simpa [jm_wr] using a3, by simpa [jm_wr] using a4, by simpa [jm_wr] using a5, by simpa [jm_wr] using (⟨q1, q2⟩ : _ ∧ _), by simpa [jm_wr] using a7, by simpa [jm_wr] using a8⟩
  · refine jm_qiI ⟨by decide, by decide⟩ (eX12_set hR (fun m1 e1 => ?_))
    subst e1
    subst q
    refine rk (fun _ => jm_qiI ⟨by decide, by decide⟩ ⟨fun _ => ⟨h1, fun _ => ?_, fun r => absurd r (by decide)⟩, fun r => absurd r (by decide)⟩) (fun r => absurd (Or.inr (Or.inr (Or.inr (Or.inl ⟨⟨q1, q2⟩, rfl, q3, q4⟩)))) r)
    refine bX12_set_30 hR ⟨h1, fun _ => ⟨fun _ => ?_, fun r => absurd r (by decide)⟩, fun r => absurd r (by decide)⟩
    refine bX12_set_55 hR ⟨h1, fun r => absurd rfl r, fun _ => sX12_nerveBe hR ⟨q1, by omega⟩ h3 (jm_qvI ?_)⟩
    rw [show max 0 (min 99 v3) = v3 by omega]
    refine bX12_set_66 hR ⟨h1, fun _ m2 e2 => ?_, fun r => absurd r (by decide)⟩
    subst e2
    refine jm_fin ⟨by decide, by decide⟩ rfl ⟨i1.ag (((jm_ag.rf.wr rfl).wr rfl).wr rfl) (((jm_ag.rf.wr rfl).wr rfl).wr rfl), i2.ag (((jm_ag.rf.wr rfl).wr rfl).wr rfl) (((jm_ag.rf.wr rfl).wr rfl).wr rfl), i3.ag (((jm_ag.rf.wr rfl).wr rfl).wr rfl) (((jm_ag.rf.wr rfl).wr rfl).wr rfl), i4.ag (((jm_ag.rf.wr rfl).wr rfl).wr rfl) (((jm_ag.rf.wr rfl).wr rfl).wr rfl), ?_, IK_clear _ _, i7.ag (((jm_ag.rf.wr rfl).wr rfl).wr rfl) (((jm_ag.rf.wr rfl).wr rfl).wr rfl), i8.ag (((jm_ag.rf.wr rfl).wr rfl).wr rfl) (((jm_ag.rf.wr rfl).wr rfl).wr rfl)⟩
    have s0 : ∀ k : Int, k ≠ 6 + v2 → (jm_wr (jm_wr (jm_wr nu 0 0 0) 1 (6 + v2) (v3 - 50)) 0 3 0).1 1 k = nu.1 1 k := fun k hk => by simp [jm_wr, hk]
    refine ⟨by rw [s0 0 (by omega)]; simpa [jm_wr] using d0, by rw [s0 1 (by omega)]; simpa [jm_wr] using d1, by rw [s0 2 (by omega)]; simpa [jm_wr] using d2, by rw [s0 3 (by omega)]; simpa [jm_wr] using d3, by rw [s0 4 (by omega)]; simpa [jm_wr] using d4, by rw [s0 5 (by omega)]; simpa [jm_wr] using d5, fun w w0 w1 => ?_, fun i j0 j1 => ?_, fun i j a b c e => ?_, fun k k0 k1 => ?_, fun k k0 k1 => ?_⟩
    · have t := d6 w w0 (by simpa [jm_wr] using w1)
      rw [s0 (14 + w) (by omega)]
      by_cases hw : w = v2
      · subst hw
        simp [jm_wr] at t ⊢
        omega
      · rw [s0 (6 + w) (by omega)]
        simpa [jm_wr, hw] using t
    · rw [s0 5 (by omega)]
      have := d7 i j0 (by simpa [jm_wr] using j1)
      simpa [jm_wr] using this
    · have := d8 i j a (by simpa [jm_wr] using b) c e
      simpa [jm_wr] using this
    · have := d9 k k0 (by simpa [jm_wr] using k1)
      simpa [jm_wr] using this
    · have := d10 k k0 (by simpa [jm_wr] using k1)
      simpa [jm_wr] using this
  · refine jm_qiI ⟨by decide, by decide⟩ (eX12_set hR (fun m1 e1 => ?_))
    subst e1
    subst q
    refine rk (fun _ => jm_qiI ⟨by decide, by decide⟩ ⟨fun _ => ⟨h1, fun _ => ?_, fun r => absurd r (by decide)⟩, fun r => absurd r (by decide)⟩) (fun r => absurd (Or.inr (Or.inr (Or.inr (Or.inr ⟨⟨q1, q2⟩, rfl, q3, q4⟩)))) r)
    refine bX12_set_30 hR ⟨h1, fun _ => ⟨fun _ => ?_, fun r => absurd r (by decide)⟩, fun r => absurd r (by decide)⟩
    refine bX12_set_55 hR ⟨h1, fun _ => ?_, fun r => absurd r (by decide)⟩
    refine bX12_set_66 hR ⟨h1, fun r => absurd rfl r, fun _ => ⟨⟨by omega, by omega⟩, h3, fun m6 e6 m8 e8 => ?_⟩⟩
    subst e6
    subst e8
    refine jm_fin ⟨by decide, by decide⟩ rfl ⟨i1.ag (((jm_ag.rf.wr rfl).wr rfl).wr rfl) (((jm_ag.rf.wr rfl).wr rfl).wr rfl), i2.ag (((jm_ag.rf.wr rfl).wr rfl).wr rfl) (((jm_ag.rf.wr rfl).wr rfl).wr rfl), i3.ag (((jm_ag.rf.wr rfl).wr rfl).wr rfl) (((jm_ag.rf.wr rfl).wr rfl).wr rfl), i4.ag (((jm_ag.rf.wr rfl).wr rfl).wr rfl) (((jm_ag.rf.wr rfl).wr rfl).wr rfl), ?_, IK_clear _ _, i7.ag (((jm_ag.rf.wr rfl).wr rfl).wr rfl) (((jm_ag.rf.wr rfl).wr rfl).wr rfl), i8.ag (((jm_ag.rf.wr rfl).wr rfl).wr rfl) (((jm_ag.rf.wr rfl).wr rfl).wr rfl)⟩
    have s0 : ∀ k : Int, k ≠ 14 + v2 → (jm_wr (jm_wr (jm_wr nu 0 0 0) 1 (14 + v2) v3) 0 3 0).1 1 k = nu.1 1 k := fun k hk => by simp [jm_wr, hk]
    refine ⟨by rw [s0 0 (by omega)]; simpa [jm_wr] using d0, by rw [s0 1 (by omega)]; simpa [jm_wr] using d1, by rw [s0 2 (by omega)]; simpa [jm_wr] using d2, by rw [s0 3 (by omega)]; simpa [jm_wr] using d3, by rw [s0 4 (by omega)]; simpa [jm_wr] using d4, by rw [s0 5 (by omega)]; simpa [jm_wr] using d5, fun w w0 w1 => ?_, fun i j0 j1 => ?_, fun i j a b c e => ?_, fun k k0 k1 => ?_, fun k k0 k1 => ?_⟩
    · have w2 : w < mu.1 6 0 := by simpa [jm_wr] using w1
      have t := d6 w w0 w2
      rw [s0 (6 + w) (by omega)]
      by_cases hw : w = v2
      · subst hw
        simp [jm_wr] at t ⊢
        omega
      · rw [s0 (14 + w) (by omega)]
        simpa [jm_wr, hw] using t
    · rw [s0 5 (by omega)]
      have := d7 i j0 (by simpa [jm_wr] using j1)
      simpa [jm_wr] using this
    · have := d8 i j a (by simpa [jm_wr] using b) c e
      simpa [jm_wr] using this
    · have := d9 k k0 (by simpa [jm_wr] using k1)
      simpa [jm_wr] using this
    · have := d10 k k0 (by simpa [jm_wr] using k1)
      simpa [jm_wr] using this
end S4
