section S1
variable {l : Launch} {gC gR : jm_G} {d : Nat} {mu nu : jm_M} {v1 v2 v3 : Int}
theorem jm_fin {F : jm_M → Prop} {z y : Int} {n : jm_M} (hz : jm_rg z) (e : y = z) (h : F n) : jm_qi (fun y n => y = z ∧ F n) (some (jm_i y)) n := by
  subst e
  exact ⟨y, rfl, hz, rfl, h⟩
theorem jm_x953 {a : Int} (h : jm_rg a) : jm_xor 953 (jm_xor a 953) = a := by
  unfold jm_xor
  rw [Int32.ofInt_toInt, Int32.xor_comm (Int32.ofInt a), ← Int32.xor_assoc, Int32.xor_self, Int32.zero_xor, jm_ti h]
theorem sim_fault (hC : jm_HC gC) (hR : jm_HR gR) (hI : Iv mu nu) (h1 : jm_rg v1) : jm_sim l gC gR (d + 1) (d + 1) iX11_fault iX12_fault [jm_i v1] mu nu := by
  refine jm_RmrI (fun hm => ?_)
  have hT := hI.2.2.2.2.2.2.2
  refine eX11_fault hC ⟨h1, fun q => ⟨fun q1 => ?_, fun q1 => ?_⟩, fun q => ?_⟩
  · refine jm_qiI ⟨by decide, by decide⟩ (eX12_fault hR (fun m1 e1 => ?_))
    subst e1
    refine ⟨h1, fun _ => ⟨fun _ => ?_, fun r => absurd r q1⟩, fun r => absurd r q⟩
    exact jm_fin ⟨by decide, by decide⟩ rfl hI.t0
  · refine jm_qiI (hm _ _) (eX12_fault hR (fun m1 e1 => ?_))
    subst e1
    refine ⟨h1, fun _ => ⟨fun r => absurd q1 r, fun _ => ?_⟩, fun r => absurd r q⟩
    exact jm_fin (hm _ _) hT.2.2.1 hI.t0
  · refine jm_qiI (hm _ _) (eX12_fault hR (fun m1 e1 => ?_))
    subst e1
    refine ⟨h1, fun r => absurd q r, fun _ => ?_⟩
    exact jm_fin (hm _ _) hT.2.1 hI.t0
theorem sim_look (hC : jm_HC gC) (hR : jm_HR gR) (hI : Iv mu nu) (h1 : jm_rg v1) : jm_sim l gC gR (d + 2) (d + 2) iX11_look iX12_look [jm_i v1] mu nu := by
  refine jm_RmrI (fun hm => ?_)
  have I0 := hI.t0
  obtain ⟨⟨⟨-, -, a0⟩, -, -, ⟨s1, s2, s3⟩, ⟨-, -, n3⟩, ⟨-, -, f3⟩, ⟨-, -, hd3⟩, -⟩, ⟨⟨-, -, mL⟩, -⟩, ⟨⟨-, -, pL⟩, -⟩, ⟨⟨-, -, lL⟩, -⟩, ⟨⟨-, -, c0⟩, c1, ⟨-, -, c2⟩, ⟨-, -, c3⟩, ⟨-, -, c4⟩, -⟩, ⟨⟨-, -, k1⟩, -⟩, -, -⟩ := I0
  refine eX11_look hC ⟨h1, ?_⟩
  refine ⟨fun q => ?_, fun q => ?_, fun q => ?_, fun q => ?_, fun q => ?_, fun q => ?_, fun q => ?_, fun q => ?_, fun q => ?_, fun q => ?_, fun q => ?_, fun q => ?_, fun q => ?_, fun q => ?_, fun q => ?_⟩
  all_goals
    refine jm_qiI (by first | exact hm _ _ | exact ⟨by decide, by decide⟩) (eX12_look hR (fun m1 e1 => ?_))
    subst e1
    refine ⟨h1, ?_⟩
  case refine_15 =>
    refine ⟨fun _ => ⟨fun _ => ⟨fun _ => ⟨fun _ => ⟨fun _ => ⟨fun _ => ⟨fun _ => ⟨fun _ => ⟨fun _ => ⟨fun _ => ⟨fun _ => ⟨fun _ => ⟨fun _ => ⟨fun _ => ?_, fun r => ?_⟩, fun r => ?_⟩, fun r => ?_⟩, fun r => ?_⟩, fun r => ?_⟩, fun r => ?_⟩, fun r => ?_⟩, fun r => ?_⟩, fun r => ?_⟩, fun r => ?_⟩, fun r => ?_⟩, fun r => ?_⟩, fun r => ?_⟩, fun r => ?_⟩
    · exact jm_fin ⟨by decide, by decide⟩ rfl hI.t0
    all_goals omega
  all_goals
    subst q
    simp only [Int.reduceEq, not_true_eq_false, not_false_eq_true, false_implies, true_implies, and_true, true_and, forall_const]
  · exact jm_fin (hm _ _) a0 hI.t0
  · exact jm_fin (hm _ _) c0 hI.t0
  · exact jm_fin (hm _ _) c4 hI.t0
  · exact jm_fin (hm _ _) c3 hI.t0
  · exact jm_fin (hm _ _) c2 hI.t0
  · exact jm_fin (hm _ _) c1 hI.t0
  · exact jm_fin (hm _ _) mL hI.t0
  · exact jm_fin (hm _ _) lL hI.t0
  · exact jm_fin (hm _ _) pL hI.t0
  · exact jm_fin (hm _ _) hd3 hI.t0
  · exact jm_fin (hm _ _) k1 hI.t0
  · exact jm_fin (hm _ _) (by rw [s3]; exact jm_x953 (hm _ _)) hI.t0
  · exact jm_fin (hm _ _) (by rw [n3]; omega) hI.t0
  · exact jm_fin (hm _ _) (by rw [f3]; omega) hI.t0
end S1
