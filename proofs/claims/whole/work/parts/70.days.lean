section DY
variable {l : Launch} {gC gR : jm_G} {d : Nat} {mu nu m n : jm_M} {v1 v2 v3 v4 v5 : Int} {Q : Option Value → jm_M → Prop}
theorem lX12_restsDay2 (hR : jm_HR gR) {W : Nat} (W8 : W ≤ 8) (hW : nu.1 0 4 = W) (L0 : 0 ≤ nu.1 1 2) (L1 : nu.1 1 2 ≤ 120) (D : 0 ≤ nu.1 1 0 ∧ nu.1 1 0 ≤ 999) (h : ∀ n, RSR nu n W → Q none (jm_wr (rW n 3 (-1) (-1) 0) 1 0 (nu.1 1 0 + 1))) (j : Nat) : ∀ (k : Nat) (n : jm_M), k + j = W → (∀ i, 0 ≤ i → i < (W : Int) → n.1 1 (6 + i) = max 0 (min 99 (nu.1 1 (6 + i) + 50 + 7)) - 50) → (∀ i : Nat, i < k → n.1 1 (14 + i) = hz (nu.1 1 1) i) → n.1 1 1 = dS (nu.1 1 1) k → (∀ i, i ≠ 1 → i < 6 → n.1 1 i = nu.1 1 i) → (∀ c, c ≠ 1 → n.1 c = nu.1 c) → jm_V l gR (d + 3) iX12_restsDay 31 [(0, .ref 0), (1, jm_i k)] [] n Q := by
  induction j with
  | zero =>
    intro k n hk b1 b2 b3 b4 b5
    have e4 : n.1 0 4 = W := by rw [b5 0 (by decide)]; exact hW
    have e2 : n.1 1 2 = nu.1 1 2 := b4 2 (by decide) (by decide)
    have e0 : n.1 1 0 = nu.1 1 0 := b4 0 (by decide) (by decide)
    have kW : k = W := by omega
    subst kW
    refine bX12_restsDay_31 hR ⟨⟨by omega, by omega⟩, fun _ => sX12_notes hR (by omega) (by omega) ⟨by decide, by decide⟩ ⟨by decide, by decide⟩ ⟨by decide, by decide⟩ ⟨by decide, by decide⟩ (jm_qvI ?_), fun q => by omega⟩
    have e0' : (rW n 3 (-1) (-1) 0).1 1 0 = nu.1 1 0 := by
      unfold rW
      split
      · exact e0
      · rw [jm_wrI (by decide), jm_wrO (by decide), jm_wrO (by decide), jm_wrO (by decide), jm_wrO (by decide), jm_wrO (by decide), e0]
    rw [e0']
    refine ⟨⟨by omega, by omega⟩, fun m7 e7 => ?_⟩
    rw [e7]
    exact h n ⟨b1, b2, b3, b4, b5⟩
  | succ j ih =>
    intro k n hk b1 b2 b3 b4 b5
    have e4 : n.1 0 4 = W := by rw [b5 0 (by decide)]; exact hW
    refine bX12_restsDay_31 hR ⟨⟨by omega, by omega⟩, fun q => by omega, fun _ m9 e9 => ?_⟩
    have es : jm_nm (1664525 * n.1 1 1 + 1013904223) = dS (nu.1 1 1) (k + 1) := by
      rw [b3, Int.mul_comm]
      rfl
    rw [es] at e9
    rw [es, jm_wrS]
    have nx : ∀ x, x = hz (nu.1 1 1) k → jm_V l gR (d + 3) iX12_restsDay 31 [(0, .ref 0), (1, jm_i ((k : Int) + 1))] [] (jm_wr m9 1 (14 + k) x) Q := by
      intro x hx
      rw [show ((k : Int) + 1) = ((k + 1 : Nat) : Int) by omega]
      refine ih (k + 1) _ (by omega) (fun i i0 i1 => ?_) (fun i i1 => ?_) ?_ (fun i i1 i6 => ?_) (fun c hc => ?_)
      · rw [jm_wrI (by omega), e9, jm_wrI (by omega)]
        exact b1 i i0 i1
      · by_cases q : i = k
        · subst q; rw [jm_wrS, hx]
        · rw [jm_wrI (by omega), e9, jm_wrI (by omega)]
          exact b2 i (by omega)
      · rw [jm_wrI (by omega), e9, jm_wrS]
      · rw [jm_wrI (by omega), e9, jm_wrI i1]
        exact b4 i i1 i6
      · funext i
        rw [jm_wrO hc, e9, jm_wrO hc, b5 c hc]
    refine ⟨jm_tmB _ (by decide) (by decide), fun q => ⟨⟨by omega, by omega⟩, fun m13 e13 => ?_⟩, fun q => ⟨⟨by omega, by omega⟩, fun m16 e16 => ?_⟩⟩
    · rw [e13]
      exact nx 0 (by unfold hz; rw [if_neg q])
    · rw [e16]
      exact nx 1 (by unfold hz; rw [if_pos q])
theorem lX12_restsDay1 (hR : jm_HR gR) {W : Nat} (W8 : W ≤ 8) (hW : nu.1 0 4 = W) (nb : ∀ w, 0 ≤ w → w < (W : Int) → -50 ≤ nu.1 1 (6 + w) ∧ nu.1 1 (6 + w) ≤ 49) (L0 : 0 ≤ nu.1 1 2) (L1 : nu.1 1 2 ≤ 120) (D : 0 ≤ nu.1 1 0 ∧ nu.1 1 0 ≤ 999) (h : ∀ n, RSR nu n W → Q none (jm_wr (rW n 3 (-1) (-1) 0) 1 0 (nu.1 1 0 + 1))) (j : Nat) : ∀ (k : Nat) (n : jm_M), k + j = W → (∀ i, 0 ≤ i → i < (k : Int) → n.1 1 (6 + i) = max 0 (min 99 (nu.1 1 (6 + i) + 50 + 7)) - 50) → (∀ i, (i < 6 ∨ 6 + (k : Int) ≤ i) → n.1 1 i = nu.1 1 i) → (∀ c, c ≠ 1 → n.1 c = nu.1 c) → jm_V l gR (d + 3) iX12_restsDay 2 [(0, .ref 0), (1, jm_i k)] [] n Q := by
  induction j with
  | zero =>
    intro k n hk b1 b2 b5
    have e4 : n.1 0 4 = W := by rw [b5 0 (by decide)]; exact hW
    have kW : k = W := by omega
    subst kW
    refine bX12_restsDay_2 hR ⟨⟨by omega, by omega⟩, fun _ => ?_, fun q => by omega⟩
    exact lX12_restsDay2 hR W8 hW L0 L1 D h k 0 n (by omega) b1 (fun i hi => by omega) (b2 1 (by omega)) (fun i i1 i6 => b2 i (by omega)) b5
  | succ j ih =>
    intro k n hk b1 b2 b5
    have e4 : n.1 0 4 = W := by rw [b5 0 (by decide)]; exact hW
    have b := nb k (by omega) (by omega)
    have e6 := b2 (6 + k) (by omega)
    refine bX12_restsDay_2 hR ⟨⟨by omega, by omega⟩, fun q => by omega, fun _ => ⟨⟨by omega, by omega⟩, ?_⟩⟩
    rw [e6]
    refine sX12_nerveBe hR ⟨by omega, by omega⟩ ⟨by omega, by omega⟩ (jm_qvI ?_)
    rw [show ((k : Int) + 1) = ((k + 1 : Nat) : Int) by omega]
    refine ih (k + 1) _ (by omega) (fun i i0 i1 => ?_) (fun i hi => ?_) (fun c hc => ?_)
    · by_cases q : i = k
      · subst q; rw [jm_wrS]
      · rw [jm_wrI (by omega)]; exact b1 i i0 (by omega)
    · rw [jm_wrI (by omega)]; exact b2 i (by omega)
    · funext i
      rw [jm_wrO hc, b5 c hc]
theorem d_rest (hC : jm_HC gC) (hR : jm_HR gR) (hI : Iv mu nu) (hd : mu.1 29 1 < 999) (h : ∀ m, (∃ n, Iv m n) → m.1 6 = mu.1 6 → m.1 29 1 = mu.1 29 1 + 1 → (∀ c, 12 ≤ c → c ≤ 26 → c ≠ 21 → m.1 c = mu.1 c) → jm_pr l gR (d + 3) iX12_restsDay [.ref 0] mu m none → Q none m) : jm_R l gC (d + 2) iX2_restOneDay [.ref 37] mu Q := by
  obtain ⟨w0, w8, w4⟩ := hI.1.1
  have D := hI.2.2.2.2.1.1
  refine eX2_restOneDay hC (lX2_restOneDay hC w0 w8 (fun w a b => ⟨(hI.nv a b).1, (hI.nv a b).2.1⟩) hI.bk.1 ⟨D.1, D.2.1⟩ (fun m hm => ?_) (mu.1 6 0).toNat 0 mu (by omega) ⟨fun i i0 i1 => by omega, fun i _ => rfl, fun i i1 => by omega, rfl, fun i _ => rfl, fun c _ _ _ => rfl⟩)
  have st : ∀ nu' n, Iv mu nu' → RSR nu' n (mu.1 6 0).toNat → Iv (jm_wr (cW m 3 (-1) (-1) 0) 29 1 (mu.1 29 1 + 1)) (jm_wr (rW n 3 (-1) (-1) 0) 1 0 (mu.1 29 1 + 1)) := fun nu' n hI' hn => ((hI'.rest hm hn).write 3 (-1) (-1) 0).day (by omega) (by omega)
  obtain ⟨n, hn⟩ := RSR_ex nu (mu.1 6 0).toNat (by omega)
  refine h _ ⟨_, st nu n hI hn⟩ ?_ jm_wrS (fun c c1 c2 c3 => ?_) (fun nu' Q' hI' h' => ?_)
  · funext i
    rw [jm_wrO (by decide), cW_c (by decide) (by decide), hm.2.2.2.2.2 6 (by decide) (by decide) (by decide)]
  · funext i
    rw [jm_wrO (by omega), cW_c (by omega) (by omega), hm.2.2.2.2.2 c (by omega) (by omega) (by omega)]
  · obtain ⟨-, -, w4'⟩ := hI'.1.1
    have D' := hI'.2.2.2.2.1.1
    have b' := hI'.bk
    refine eX12_restsDay hR (lX12_restsDay1 hR (W := (mu.1 6 0).toNat) (by omega) (by omega) (fun w a b => by have := hI'.nv a (by omega); omega) (by omega) (by omega) ⟨by omega, by omega⟩ (fun n hn => ?_) (mu.1 6 0).toNat 0 nu' (by omega) (fun i i0 i1 => by omega) (fun i _ => rfl) (fun c _ => rfl))
    rw [D'.2.2]
    exact h' _ (st nu' n hI' hn)
theorem abN_st (f : Int → Int) (n : Nat) : abN f n + f n = abN f (n + 1) := rfl
theorem sX1_howManyHoarse (hC : jm_HC gC) (hI : Iv mu nu) (h : Q (some (jm_i (abN (mu.1 31) (mu.1 6 0).toNat))) mu) : jm_R l gC (d + 1) iX1_howManyHoarse [.ref 29, jm_i (mu.1 6 0)] mu Q := by
  obtain ⟨w0, w8, w4⟩ := hI.1.1
  have lp : ∀ (j k : Nat), k + j = (mu.1 6 0).toNat → jm_V l gC (d + 1) iX1_howManyHoarse 4 [(0, .ref 29), (1, jm_i (mu.1 6 0)), (2, jm_i (abN (mu.1 31) k)), (3, jm_i k)] [] mu Q := by
    intro j
    induction j with
    | zero =>
      intro k hk
      have e : k = (mu.1 6 0).toNat := by omega
      refine bX1_howManyHoarse_4 hC ⟨⟨by omega, by omega⟩, ⟨by omega, by omega⟩, fun _ => by rw [e]; exact h, fun q => by omega⟩
    | succ j ih =>
      intro k hk
      refine bX1_howManyHoarse_4 hC ⟨⟨by omega, by omega⟩, ⟨by omega, by omega⟩, fun q => by omega, fun _ => ⟨fun q => by omega, fun _ => ⟨⟨by omega, by omega⟩, fun x4 e4 => ?_⟩⟩⟩
      rw [e4, abN_st, show ((k : Int) + 1) = ((k + 1 : Nat) : Int) by omega]
      exact ih (k + 1) (by omega)
  exact eX1_howManyHoarse hC (lp (mu.1 6 0).toNat 0 (by omega))
theorem sX12_hoarseMany (hR : jm_HR gR) (hI : Iv mu nu) (h : Q (some (jm_i (abN (mu.1 31) (mu.1 6 0).toNat))) nu) : jm_R l gR (d + 1) iX12_hoarseMany [.ref 0] nu Q := by
  obtain ⟨w0, w8, w4⟩ := hI.1.1
  have lp : ∀ (j k : Nat), k + j = (mu.1 6 0).toNat → jm_V l gR (d + 1) iX12_hoarseMany 4 [(0, .ref 0), (1, jm_i (abN (mu.1 31) k)), (2, jm_i k)] [] nu Q := by
    intro j
    induction j with
    | zero =>
      intro k hk
      have e : k = (mu.1 6 0).toNat := by omega
      refine bX12_hoarseMany_4 hR ⟨⟨by omega, by omega⟩, fun _ => by rw [e]; exact h, fun q => by omega⟩
    | succ j ih =>
      intro k hk
      have t := (hI.nv (w := k) (by omega) (by omega)).2.2.2.2.2
      refine bX12_hoarseMany_4 hR ⟨⟨by omega, by omega⟩, fun q => by omega, fun _ => ⟨⟨by omega, by omega⟩, fun x3 e3 => ?_⟩⟩
      rw [e3, t, abN_st, show ((k : Int) + 1) = ((k + 1 : Nat) : Int) by omega]
      exact ih (k + 1) (by omega)
  exact eX12_hoarseMany hR (lp (mu.1 6 0).toNat 0 (by omega))
theorem hoM (hI : Iv mu nu) : ∀ k : Nat, (k : Int) ≤ mu.1 6 0 → 0 ≤ abN (mu.1 31) k ∧ abN (mu.1 31) k ≤ k
  | 0, _ => ⟨Int.le_refl 0, Int.le_refl 0⟩
  | k + 1, hk => by
    have ih := hoM hI k (by omega)
    have t := hI.nv (w := k) (by omega) (by omega)
    rw [← abN_st]
    omega
theorem l_days (hC : jm_HC gC) (hR : jm_HR gR) (a1 : 1 ≤ v1) (a30 : v1 ≤ 30) (j : Nat) : ∀ (mu nu : jm_M) (k : Int), k + j = v1 → 0 ≤ k → Iv mu nu → mu.1 29 1 + j ≤ 999 → (∀ m z, jm_rg z → (∀ nu Q', Iv mu nu → (∀ n, Iv m n → Q' (some (jm_i z)) n) → jm_V l gR (d + 4) iX12_days 34 [(0, .ref 0), (1, jm_i v1), (2, jm_i k)] [] nu Q') → Q (some (jm_i z)) m) → jm_V l gC (d + 3) iX11_days 29 [(0, .ref 0), (1, jm_i v1), (2, jm_i k)] [] mu Q := by
  induction j with
  | zero =>
    intro mu nu k hk k0 hI hd h
    obtain ⟨w0, w8, w4⟩ := hI.1.1
    have hb := hoM hI (mu.1 6 0).toNat (by omega)
    have rz : jm_rg (abN (mu.1 31) (mu.1 6 0).toNat) := ⟨by omega, by omega⟩
    refine bX11_days_29 hC ⟨⟨by omega, by omega⟩, ⟨by omega, by omega⟩, fun _ => sX1_howManyHoarse hC hI (jm_qiI rz (h _ _ rz (fun nu' Q' hI' h' => ?_))), fun q => by omega⟩
    exact bX12_days_34 hR ⟨⟨by omega, by omega⟩, ⟨by omega, by omega⟩, fun _ => sX12_hoarseMany hR hI' (jm_qiI rz (h' _ hI')), fun q => by omega⟩
  | succ j ih =>
    intro mu nu k hk k0 hI hd h
    refine bX11_days_29 hC ⟨⟨by omega, by omega⟩, ⟨by omega, by omega⟩, fun q => by omega, fun _ => ?_⟩
    refine d_keep (l := l) (d := d) hC hR hI (fun m1 x1 e6 e29 e32 pr1 => jm_qvI ?_)
    obtain ⟨n1, J1⟩ := x1
    have D1 : m1.1 29 1 = mu.1 29 1 := by rw [e29]
    refine d_rest (l := l) (d := d) hC hR J1 (by omega) (fun m2 x2 f6 fd _ pr2 => jm_qvI ?_)
    obtain ⟨n2, J2⟩ := x2
    refine ih m2 n2 (k + 1) (by omega) (by omega) J2 (by omega) (fun m z rz co => h m z rz (fun nu' Q' hI' h' => ?_))
    refine bX12_days_34 hR ⟨⟨by omega, by omega⟩, ⟨by omega, by omega⟩, fun q => by omega, fun _ => ?_⟩
    exact jm_R.up (pr1.go hI' (fun n1' J1' => jm_qvI (pr2.go J1' (fun n2' J2' => jm_qvI (co n2' Q' J2' h'))))) (by omega)
theorem sim_days (hC : jm_HC gC) (hR : jm_HR gR) (hI : Iv mu nu) (h1 : jm_rg v1) : jm_sim l gC gR (d + 3) (d + 4) iX11_days iX12_days [jm_i v1] mu nu := by
  have I0 := hI.t0
  have D := hI.2.2.2.2.1.1
  have D0 : (jm_wr nu 0 0 0).1 1 0 = mu.1 29 1 := I0.2.2.2.2.1.1.2.2
  refine eX11_days hC ⟨h1, fun q => ⟨⟨by omega, by omega⟩, fun q2 => ?_, fun q2 => ?_⟩, fun q => ?_⟩
  · refine l_days hC hR q.1 q.2 v1.toNat mu nu 0 (by omega) (by omega) hI (by omega) (fun m z rz co => jm_qiI rz (eX12_days hR (fun n1 e1 => ?_)))
    subst e1
    refine ⟨h1, fun _ => ⟨⟨by omega, by omega⟩, fun _ => co _ _ I0 (fun n J => jm_fin rz rfl J), fun r => by omega⟩, fun r => absurd q r⟩
  · refine jm_qiI ⟨by decide, by decide⟩ (eX12_days hR (fun n1 e1 => ?_))
    subst e1
    exact ⟨h1, fun _ => ⟨⟨by omega, by omega⟩, fun r => by omega, fun _ => jm_fin ⟨by decide, by decide⟩ rfl I0⟩, fun r => absurd q r⟩
  · refine jm_qiI ⟨by decide, by decide⟩ (eX12_days hR (fun n1 e1 => ?_))
    subst e1
    exact ⟨h1, fun r => absurd r q, fun _ => jm_fin ⟨by decide, by decide⟩ rfl I0⟩
end DY
