section S6
variable {l : Launch} {gC gR : jm_G} {d : Nat} {mu nu : jm_M} {v1 v2 v3 v4 v5 : Int} {Q : Option Value → jm_M → Prop}
theorem jm_nm10 {v : Int} (h : jm_rg v) : (0 ≤ jm_nm (v - 10) ∧ jm_nm (v - 10) ≤ 5) ↔ (10 ≤ v ∧ v ≤ 15) := by
  obtain ⟨h1, h2⟩ := h
  by_cases q : -2147483638 ≤ v
  · rw [jm_nmE ⟨by omega, by omega⟩]
    omega
  · have e : jm_nm (v - 10) = v - 10 + 4294967296 := by
      unfold jm_nm
      rw [Int32.toInt_ofInt]
      show (v - 10).bmod 4294967296 = _
      unfold Int.bmod
      simp only
      split <;> omega
    omega
theorem jm_p20' {n : Nat} (h : n ≤ 20) : (2 : Int) ^ n ≤ 1048576 := by
  have h1 : 2 ^ n ≤ 1048576 := Nat.le_trans (Nat.pow_le_pow_right (by decide : 0 < 2) h) (by decide)
  have e : ((2 ^ n : Nat) : Int) = (2 : Int) ^ n := Int.natCast_pow 2 n
  omega
theorem sim_of (hC : jm_HC gC) (hR : jm_HR gR) (hI : Iv mu nu) (h1 : jm_rg v1) (h2 : jm_rg v2) : jm_sim l gC gR (d + 8) (d + 8) iX11_of iX12_of [jm_i v1, jm_i v2] mu nu := by
  refine jm_RmrI (fun hm => ?_)
  have I0 := hI.t0
  have hA := hI.1
  have hL := hI.2.2.2.1
  have hK := hI.2.2.2.2.1
  have hA0 := I0.1
  have hL0 := I0.2.2.2.1
  have hK0 := I0.2.2.2.2.1
  have e4 : (jm_wr nu 0 0 0).1 0 4 = mu.1 6 0 := hA0.1.2.2
  have w8 := hA.1.2.1
  have n10 := jm_nm10 h2
  -- the reference's way to an answer
  have no : ¬ (0 ≤ v1 ∧ v1 < mu.1 6 0) ∨ ((0 ≤ v1 ∧ v1 < mu.1 6 0) ∧ (v2 < 0 ∨ 6 < v2) ∧ ¬ (10 ≤ v2 ∧ v2 ≤ 15)) → jm_qi (fun z m => jm_R l gR (d + 8) iX12_of [.ref 0, jm_i v1, jm_i v2] nu (jm_qi fun y n => y = z ∧ Iv m n)) (some (jm_i (-2))) mu := by
    intro q
    refine jm_qiI ⟨by decide, by decide⟩ (eX12_of hR (fun m1 e1 => ?_))
    subst e1
    have fi := jm_fin (z := -2) (y := -2) (F := fun n => Iv mu n) ⟨by decide, by decide⟩ rfl I0
    refine ⟨h1, fun r => ⟨h2, fun _ => ⟨fun _ => ⟨fun _ => ⟨fun _ => ⟨fun _ => ⟨fun _ => ⟨fun _ => ⟨fun r2 => by omega, fun _ => fi⟩, fun r2 => by omega⟩, fun r2 => by omega⟩, fun r2 => by omega⟩, fun r2 => by omega⟩, fun r2 => by omega⟩, fun r2 => by omega⟩, fun r2 => by omega⟩, fun _ => fi⟩
  refine eX11_of hC ⟨h1, fun q => ?_, fun q => no (Or.inl q)⟩
  have qr : 0 ≤ v1 ∧ v1 < (jm_wr nu 0 0 0).1 0 4 := ⟨q.1, by omega⟩
  have aw := hA0.2.1 v1 q.1 q.2
  have kw := hK0.2.2.2.2.2.2.1 v1 q.1 q.2
  refine ⟨fun q2 => ?_, fun q2 => ⟨h2, fun r => ?_, fun r => ?_, fun r => ?_, fun r => ?_, fun r => ?_, fun r => ?_, fun r => ?_, fun r => no (Or.inr ⟨q, r, fun z => q2 (n10.mpr z)⟩)⟩⟩
  · have q3 := n10.mp q2
    refine sX8_claimOf hC hA h1 ⟨by omega, by omega⟩ ?_
    have cb := clm_bd hA v1 (v2 - 10)
    refine jm_qiI ⟨by omega, by omega⟩ (jm_qiI ⟨by omega, by omega⟩ (eX12_of hR (fun m1 e1 => ?_)))
    subst e1
    refine ⟨h1, fun _ => ⟨h2, fun _ => ⟨fun _ => ⟨fun _ => ⟨fun _ => ⟨fun _ => ⟨fun _ => ⟨fun _ => ⟨fun _ => ⟨⟨by omega, by omega⟩, ?_⟩, fun r2 => absurd q3 r2⟩, fun r2 => by omega⟩, fun r2 => by omega⟩, fun r2 => by omega⟩, fun r2 => by omega⟩, fun r2 => by omega⟩, fun r2 => by omega⟩, fun r2 => by omega⟩, fun r => absurd qr r⟩
    refine jm_fin ⟨by omega, by omega⟩ ?_ I0
    have c := hA0.2.2.1 (6 * v1 + (v2 - 10)) (by omega) (by omega)
    unfold clm
    rw [if_pos ⟨q, by omega, by omega⟩, c.2.2, show v1 * 6 + (v2 - 10) = 6 * v1 + (v2 - 10) by omega]
    omega
  · subst r
    refine ⟨⟨q.1, by omega⟩, jm_qiI (hm _ _) (eX12_of hR (fun m1 e1 => ?_))⟩
    subst e1
    exact ⟨h1, fun _ => ⟨h2, fun r2 => absurd rfl r2, fun _ => ⟨⟨q.1, by omega⟩, jm_fin (hm _ _) aw.2.2.2.2.2.1 I0⟩⟩, fun r => absurd qr r⟩
  · subst r
    refine ⟨⟨q.1, by omega⟩, jm_qiI (hm _ _) (eX12_of hR (fun m1 e1 => ?_))⟩
    subst e1
    exact ⟨h1, fun _ => ⟨h2, fun _ => ⟨fun r2 => absurd rfl r2, fun _ => ⟨⟨q.1, by omega⟩, jm_fin (hm _ _) aw.2.2.2.2.2.2.1 I0⟩⟩, fun r2 => absurd r2 (by decide)⟩, fun r => absurd qr r⟩
  · subst r
    refine ⟨⟨q.1, by omega⟩, jm_qiI (hm _ _) (eX12_of hR (fun m1 e1 => ?_))⟩
    subst e1
    exact ⟨h1, fun _ => ⟨h2, fun _ => ⟨fun _ => ⟨fun r2 => absurd rfl r2, fun _ => ⟨⟨q.1, by omega⟩, jm_fin (hm _ _) aw.2.2.2.2.2.2.2 I0⟩⟩, fun r2 => absurd r2 (by decide)⟩, fun r2 => absurd r2 (by decide)⟩, fun r => absurd qr r⟩
  · subst r
    refine ⟨⟨q.1, by omega⟩, jm_qiI (hm _ _) (eX12_of hR (fun m1 e1 => ?_))⟩
    subst e1
    refine ⟨h1, fun _ => ⟨h2, fun _ => ⟨fun _ => ⟨fun _ => ⟨fun r2 => absurd rfl r2, fun _ => ⟨⟨by omega, by omega⟩, jm_fin (hm _ _) ?_ I0⟩⟩, fun r2 => absurd r2 (by decide)⟩, fun r2 => absurd r2 (by decide)⟩, fun r2 => absurd r2 (by decide)⟩, fun r => absurd qr r⟩
    have : (jm_wr nu 0 0 0).1 1 (6 + v1) = mu.1 30 v1 - 50 := kw.2.2.1
    omega
  · subst r
    refine ⟨⟨q.1, by omega⟩, jm_qiI (hm _ _) (eX12_of hR (fun m1 e1 => ?_))⟩
    subst e1
    exact ⟨h1, fun _ => ⟨h2, fun _ => ⟨fun _ => ⟨fun _ => ⟨fun _ => ⟨fun r2 => absurd rfl r2, fun _ => ⟨⟨by omega, by omega⟩, jm_fin (hm _ _) kw.2.2.2.2.2 I0⟩⟩, fun r2 => absurd r2 (by decide)⟩, fun r2 => absurd r2 (by decide)⟩, fun r2 => absurd r2 (by decide)⟩, fun r2 => absurd r2 (by decide)⟩, fun r => absurd qr r⟩
  · subst r
    have n20 := hK.2.2.2.2.1
    have sb := sgN_bd (mu.1 32) v1 (mu.1 29 4).toNat
    have rs : jm_rg (sby mu v1) := by unfold sby; exact ⟨by omega, by omega⟩
    refine sX1_sungBy hC n20.1 n20.2.1 h1 (jm_qiI rs (jm_qiI rs (eX12_of hR (fun m1 e1 => ?_))))
    subst e1
    refine ⟨h1, fun _ => ⟨h2, fun _ => ⟨fun _ => ⟨fun _ => ⟨fun _ => ⟨fun _ => ⟨fun r2 => absurd rfl r2, fun _ => ?_⟩, fun r2 => absurd r2 (by decide)⟩, fun r2 => absurd r2 (by decide)⟩, fun r2 => absurd r2 (by decide)⟩, fun r2 => absurd r2 (by decide)⟩, fun r2 => absurd r2 (by decide)⟩, fun r => absurd qr r⟩
    exact sX12_sungBy hR hK0 h1 (jm_qiI rs (jm_fin rs rfl I0))
  · subst r
    have rs : jm_rg (shk mu v1 (0 / 4) (0 % 4)) := by unfold shk; exact ⟨by omega, by omega⟩
    refine sX0_shakeOf hC hA hL hK q.1 q.2 (by decide) (by decide) (fun m t => jm_qiI rs (jm_qiI rs (eX12_of hR (fun m1 e1 => ?_))))
    subst e1
    refine ⟨h1, fun _ => ⟨h2, fun _ => ⟨fun _ => ⟨fun _ => ⟨fun _ => ⟨fun _ => ⟨fun _ => ⟨fun r2 => absurd rfl r2, fun _ => ?_⟩, fun r2 => absurd r2 (by decide)⟩, fun r2 => absurd r2 (by decide)⟩, fun r2 => absurd r2 (by decide)⟩, fun r2 => absurd r2 (by decide)⟩, fun r2 => absurd r2 (by decide)⟩, fun r2 => absurd r2 (by decide)⟩, fun r => absurd qr r⟩
    exact sX12_shakeOf hR hA0 hL0 hK0 q.1 q.2 ⟨by decide, by decide⟩ ⟨by decide, by decide⟩ (fun n t2 => jm_qiI rs (jm_fin rs rfl (I0.ext t.aC t2.aR)))
theorem sim_testimony (hC : jm_HC gC) (hR : jm_HR gR) (hI : Iv mu nu) (h1 : jm_rg v1) (h2 : jm_rg v2) : jm_sim l gC gR (d + 8) (d + 8) iX11_testimony iX12_testimony [jm_i v1, jm_i v2] mu nu := by
  refine jm_RmrI (fun hm => ?_)
  have I0 := hI.t0
  have hA := hI.1
  have hL := hI.2.2.2.1
  have hK := hI.2.2.2.2.1
  have hA0 := I0.1
  have hL0 := I0.2.2.2.1
  have hK0 := I0.2.2.2.2.1
  obtain ⟨-, -, -, -, ⟨k1, k2, k3⟩, ⟨s1, s2⟩, -, kt, ktt, -, -⟩ := hK0
  have hK0 := I0.2.2.2.2.1
  have no : ¬ ((0 ≤ v1 ∧ v1 < mu.1 29 4) ∧ 0 ≤ v2 ∧ v2 ≤ 7) → jm_qi (fun z m => jm_R l gR (d + 8) iX12_testimony [.ref 0, jm_i v1, jm_i v2] nu (jm_qi fun y n => y = z ∧ Iv m n)) (some (jm_i (-1))) mu := by
    intro q
    refine jm_qiI ⟨by decide, by decide⟩ (eX12_testimony hR (fun m1 e1 => ?_))
    subst e1
    have fi := jm_fin (z := -1) (y := -1) (F := fun n => Iv mu n) ⟨by decide, by decide⟩ rfl I0
    exact ⟨h1, fun r => ⟨h2, fun r2 => absurd (⟨⟨r.1, by omega⟩, r2⟩ : _ ∧ _) q, fun _ => fi⟩, fun _ => fi⟩
  refine eX11_testimony hC ⟨h1, fun q => ⟨h2, fun q2 => ⟨fun q3 => ?_, fun q3 => no (by omega)⟩, fun q2 => ?_⟩, fun q => no (fun r => q r.1)⟩
  · have qr : 0 ≤ v1 ∧ v1 < (jm_wr nu 0 0 0).1 1 4 := ⟨q.1, by omega⟩
    refine ⟨⟨by omega, by omega⟩, jm_qiI (hm _ _) (eX12_testimony hR (fun m1 e1 => ?_))⟩
    subst e1
    refine ⟨h1, fun _ => ⟨h2, fun _ => ⟨fun r => ⟨fun r2 => by omega, fun r2 => ⟨fun r3 => ?_, fun r3 => ?_⟩⟩, fun r => ⟨⟨by omega, by omega⟩, ?_⟩⟩, fun r => absurd (⟨q3.1, by omega⟩ : _ ∧ _) r⟩, fun r => absurd qr r⟩
    all_goals
      have sk := (kt v1 q.1 q.2).2.2.2.2.2.2.2
      have rr : jm_rg ((jm_wr nu 0 0 0).1 1 5) := by
        have p31 := jm_p20' (n := (mu.1 29 4).toNat) (by omega)
        exact ⟨by omega, by omega⟩
    · have e5 : jm_and (jm_shr ((jm_wr nu 0 0 0).1 1 5) v1) 1 = (jm_wr nu 0 0 0).1 1 5 / 2 ^ v1.toNat % 2 := by
        rw [jm_shrV rr q.1 (by omega)]
        have d0 : 0 ≤ (jm_wr nu 0 0 0).1 1 5 / 2 ^ v1.toNat := Int.ediv_nonneg s1 (Int.pow_nonneg (by decide))
        have d1 : (jm_wr nu 0 0 0).1 1 5 / 2 ^ v1.toNat ≤ (jm_wr nu 0 0 0).1 1 5 := Int.ediv_le_self _ s1
        exact jm_and1 d0 (by have := rr.2; omega)
      rw [e5] at r3
      subst r2
      exact jm_fin (hm _ _) (by rw [← r3]; exact sk.symm) I0
    · have e5 : jm_and (jm_shr ((jm_wr nu 0 0 0).1 1 5) v1) 1 = (jm_wr nu 0 0 0).1 1 5 / 2 ^ v1.toNat % 2 := by
        rw [jm_shrV rr q.1 (by omega)]
        have d0 : 0 ≤ (jm_wr nu 0 0 0).1 1 5 / 2 ^ v1.toNat := Int.ediv_nonneg s1 (Int.pow_nonneg (by decide))
        have d1 : (jm_wr nu 0 0 0).1 1 5 / 2 ^ v1.toNat ≤ (jm_wr nu 0 0 0).1 1 5 := Int.ediv_le_self _ s1
        exact jm_and1 d0 (by have := rr.2; omega)
      rw [e5] at r3
      subst r2
      refine jm_fin (hm _ _) ?_ I0
      have : mu.1 32 (v1 * 7 + 6) = (jm_wr nu 0 0 0).1 1 5 / 2 ^ v1.toNat % 2 := sk
      omega
    · exact jm_fin (hm _ _) (ktt v1 v2 q.1 q.2 q3.1 r) I0
  · subst q2
    have qr : 0 ≤ v1 ∧ v1 < (jm_wr nu 0 0 0).1 1 4 := ⟨q.1, by omega⟩
    obtain ⟨⟨a1, a2⟩, ⟨a3, a4⟩, ⟨a5, a6⟩, ⟨a7, a8⟩, -⟩ := kt v1 q.1 q.2
    have b1 : 0 ≤ mu.1 32 (v1 * 7) := a1
    have b2 : mu.1 32 (v1 * 7) < mu.1 6 0 := a2
    have b3 : 0 ≤ mu.1 32 (v1 * 7 + 1) := a3
    have b4 : mu.1 32 (v1 * 7 + 1) ≤ 5 := a4
    have b5 : 0 ≤ mu.1 32 (v1 * 7 + 2) := a5
    have b6 : mu.1 32 (v1 * 7 + 2) ≤ 3 := a6
    have b7 : 0 ≤ mu.1 32 (v1 * 7 + 3) := a7
    have b8 : mu.1 32 (v1 * 7 + 3) ≤ 8 := a8
    refine eX0_weightOfTestimony hC ⟨⟨by omega, by omega⟩, ⟨by omega, by omega⟩, fun x3 e3 => ⟨⟨by omega, by omega⟩, ⟨by omega, by omega⟩, ?_⟩⟩
    rw [Int.add_zero]
    have d1 : x3 / 4 = mu.1 32 (v1 * 7 + 1) := by omega
    have d2 : x3 % 4 = mu.1 32 (v1 * 7 + 2) := by omega
    refine sX0_weightOf hC hA hL hK b1 b2 (by omega) (by omega) ⟨b7, by omega⟩ (fun m t => ?_)
    rw [d1, d2]
    have rs : jm_rg (wgt mu (mu.1 32 (v1 * 7)) (mu.1 32 (v1 * 7 + 1)) (mu.1 32 (v1 * 7 + 2)) (mu.1 32 (v1 * 7 + 3))) := by
      unfold wgt wg0
      split <;> exact ⟨by omega, by omega⟩
    refine jm_qiI rs (jm_qiI rs (jm_qiI rs (eX12_testimony hR (fun m1 e1 => ?_))))
    subst e1
    refine ⟨h1, fun _ => ⟨h2, fun _ => ⟨fun _ => ⟨fun _ => ⟨⟨by omega, by omega⟩, ⟨by omega, by omega⟩, ⟨by omega, by omega⟩, ⟨by omega, by omega⟩, ?_⟩, fun r => absurd r (by decide)⟩, fun r => absurd r (by decide)⟩, fun r => absurd (by decide : (0 : Int) ≤ 7 ∧ (7 : Int) ≤ 7) r⟩, fun r => absurd qr r⟩
    have c0 := ktt v1 0 q.1 q.2 (by decide) (by decide)
    have c1 := ktt v1 1 q.1 q.2 (by decide) (by decide)
    have c2 := ktt v1 2 q.1 q.2 (by decide) (by decide)
    have c3 := ktt v1 3 q.1 q.2 (by decide) (by decide)
    rw [c0, c1, c2, c3]
    have z0 : mu.1 (29 + 3) (v1 * 7 + 0) = mu.1 32 (v1 * 7) := by rw [Int.add_zero]
    rw [z0]
    exact sX12_weighOf hR hA0 hL0 hK0 b1 b2 ⟨by omega, by omega⟩ ⟨by omega, by omega⟩ ⟨b7, by omega⟩ (fun n t2 => jm_qiI rs (jm_fin rs rfl (I0.ext t.aC t2.aR)))
end S6
