section S2
variable {l : Launch} {gC gR : jm_G} {d : Nat} {mu nu : jm_M} {v1 v2 v3 : Int}
theorem sim_end (hC : jm_HC gC) (hR : jm_HR gR) (hI : Iv mu nu) (h1 : jm_rg v1) : jm_sim l gC gR (d + 1) (d + 2) iX11_end iX12_end [jm_i v1] mu nu := by
  obtain ⟨t1, t2, t3⟩ := hI.2.2.2.2.2.2.2.1
  have e13 : (jm_wr nu 0 0 0).1 0 13 = mu.1 1 1 := by simpa [jm_wr] using t3
  refine eX11_end hC ⟨h1, fun q => ?_, fun q => ⟨fun q1 m2 e2 => ?_, fun q1 => ?_⟩⟩
  · refine jm_qiI ⟨by decide, by decide⟩ (eX12_end hR (fun m1 e1 => ?_))
    subst e1
    refine ⟨h1, fun r => ?_, fun _ => jm_fin ⟨by decide, by decide⟩ rfl hI.t0⟩
    omega
  · subst e2
    refine jm_qiI ⟨by decide, by decide⟩ (eX12_end hR (fun m1 e1 => ?_))
    subst e1
    refine ⟨h1, fun r m4 e4 => ?_, fun r => absurd (⟨q, by omega⟩ : _ ∧ _) r⟩
    subst e4
    obtain ⟨i1, i2, i3, i4, i5, i6, i7, i8⟩ := hI
    refine jm_fin ⟨by decide, by decide⟩ rfl ⟨i1.ag (jm_ag.rf.wr rfl) ((jm_ag.rf.wr rfl).wr rfl), i2.ag (jm_ag.rf.wr rfl) ((jm_ag.rf.wr rfl).wr rfl), i3.ag (jm_ag.rf.wr rfl) ((jm_ag.rf.wr rfl).wr rfl), i4.ag (jm_ag.rf.wr rfl) ((jm_ag.rf.wr rfl).wr rfl), i5.ag (jm_ag.rf.wr rfl) ((jm_ag.rf.wr rfl).wr rfl), i6.ag (jm_ag.rf.wr rfl) ((jm_ag.rf.wr rfl).wr rfl), i7.ag (jm_ag.rf.wr rfl) ((jm_ag.rf.wr rfl).wr rfl), ?_⟩
    obtain ⟨-, f1, f2, f3, f4⟩ := i8
    refine ⟨⟨by simpa [jm_wr] using q, by simp [jm_wr]; omega, by simp [jm_wr]⟩, by simpa [jm_wr] using f1, by simpa [jm_wr] using f2, fun k k0 k1 => ?_, by simpa [jm_wr] using f4⟩
    have k2 : k < v1 := by simpa [jm_wr] using k1
    have := f3 k k0 (by omega)
    simpa [jm_wr] using this
  · refine jm_qiI ⟨by decide, by decide⟩ (eX12_end hR (fun m1 e1 => ?_))
    subst e1
    refine ⟨h1, fun r => ?_, fun _ => jm_fin ⟨by decide, by decide⟩ rfl hI.t0⟩
    omega
theorem sim_bar (hC : jm_HC gC) (hR : jm_HR gR) (hI : Iv mu nu) (h1 : jm_rg v1) : jm_sim l gC gR (d + 1) (d + 2) iX11_bar iX12_bar [jm_i v1] mu nu := by
  refine jm_RmrI (fun hm => ?_)
  obtain ⟨-, -, -, ⟨b1, b2, b3⟩, -, -, -, -, -, br, -⟩ := hI.2.2.2.2.1
  have e3 : (jm_wr nu 0 0 0).1 1 3 = mu.1 29 6 := by simpa [jm_wr] using b3
  have hr : jm_rg ((jm_wr nu 0 0 0).1 1 3 - 1) := by rw [e3]; exact ⟨by omega, by omega⟩
  have no : ¬ (0 ≤ v1 ∧ v1 < mu.1 29 6) → jm_qi (fun z m => jm_R l gR (d + 2) iX12_bar [.ref 0, jm_i v1] nu (jm_qi fun y n => y = z ∧ Iv m n)) (some (jm_i (-1))) mu := by
    intro q
    refine jm_qiI ⟨by decide, by decide⟩ (eX12_bar hR (fun m1 e1 => ?_))
    subst e1
    exact ⟨h1, hr, fun r => absurd (⟨r.1, by omega⟩ : _ ∧ _) q, fun _ => jm_fin ⟨by decide, by decide⟩ rfl hI.t0⟩
  refine eX11_bar hC ⟨h1, fun q => no (by omega), fun q => ⟨fun q1 => no (by omega), fun q1 => ⟨⟨q, by omega⟩, ?_⟩⟩⟩
  refine jm_qiI (hm _ _) (eX12_bar hR (fun m1 e1 => ?_))
  subst e1
  refine ⟨h1, hr, fun r => ⟨⟨q, by omega⟩, ?_⟩, fun r => absurd (⟨q, by omega⟩ : _ ∧ _) r⟩
  have e4 : (jm_wr nu 0 0 0).1 25 v1 = mu.1 33 v1 := by simpa [jm_wr] using (br v1 q q1).2.2
  exact jm_fin (hm _ _) e4 hI.t0
theorem sim_book (hC : jm_HC gC) (hR : jm_HR gR) (hI : Iv mu nu) (h1 : jm_rg v1) (h2 : jm_rg v2) : jm_sim l gC gR (d + 2) (d + 2) iX11_book iX12_book [jm_i v1, jm_i v2] mu nu := by
  refine jm_RmrI (fun hm => ?_)
  obtain ⟨-, -, ⟨b1, b2, b3⟩, -, -, -, -, -, -, -, bk⟩ := hI.2.2.2.2.1
  have e3 : (jm_wr nu 0 0 0).1 1 2 = mu.1 29 8 := by simpa [jm_wr] using b3
  have hr : jm_rg ((jm_wr nu 0 0 0).1 1 2 - 1) := by rw [e3]; exact ⟨by omega, by omega⟩
  have no : ¬ ((0 ≤ v1 ∧ v1 < mu.1 29 8) ∧ 0 ≤ v2 ∧ v2 ≤ 4) → jm_qi (fun z m => jm_R l gR (d + 2) iX12_book [.ref 0, jm_i v1, jm_i v2] nu (jm_qi fun y n => y = z ∧ Iv m n)) (some (jm_i (-2))) mu := by
    intro q
    refine jm_qiI ⟨by decide, by decide⟩ (eX12_book hR (fun m1 e1 => ?_))
    subst e1
    refine ⟨h1, hr, fun r => ⟨h2, fun r2 => absurd (⟨⟨r.1, by omega⟩, r2⟩ : _ ∧ _) q, fun _ => jm_fin ⟨by decide, by decide⟩ rfl hI.t0⟩, fun _ => jm_fin ⟨by decide, by decide⟩ rfl hI.t0⟩
  refine eX11_book hC ⟨h1, fun q => no (by omega), fun q => ⟨fun q1 => no (by omega), fun q1 => ⟨h2, fun q2 => ⟨⟨by omega, by omega⟩, ?_⟩, fun q2 => no (fun r => q2 r.2)⟩⟩⟩
  refine jm_qiI (hm _ _) (eX12_book hR (fun m1 e1 => ?_))
  subst e1
  refine ⟨h1, hr, fun r => ⟨h2, fun r2 => ⟨⟨by omega, by omega⟩, ?_⟩, fun r2 => absurd q2 r2⟩, fun r => absurd (⟨q, by omega⟩ : _ ∧ _) r⟩
  have e4 : (jm_wr nu 0 0 0).1 26 (5 * v1 + v2) = mu.1 34 (v1 * 5 + v2) := by
    have := bk (5 * v1 + v2) (by omega) (by omega)
    rw [show v1 * 5 + v2 = 5 * v1 + v2 by omega]
    simpa [jm_wr] using this
  exact jm_fin (hm _ _) e4 hI.t0
end S2
