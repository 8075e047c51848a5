section TR
variable {l : Launch} {gC gR : jm_G} {d : Nat} {mu nu m n : jm_M} {v1 v2 v3 v4 v5 : Int} {Q : Option Value → jm_M → Prop}
theorem clm_r (hA : IA mu nu) {w f : Int} (w0 : 0 ≤ w) (w1 : w < mu.1 6 0) (f0 : 0 ≤ f) (f5 : f ≤ 5) : nu.1 6 (6 * w + f) = clm mu w f + 1 := by
  unfold clm
  rw [if_pos ⟨⟨w0, w1⟩, f0, f5⟩, show 6 * w + f = w * 6 + f by omega]
  exact (hA.2.2.1 (w * 6 + f) (by omega) (by omega)).2.2
theorem d_sing (hC : jm_HC gC) (hR : jm_HR gR) {w f key : Int} (hI : Iv mu nu) (hc : ccl mu w f key) (h : ∀ m z, (∃ n, Iv m n) → m.1 6 = mu.1 6 → m.1 29 1 = mu.1 29 1 → (∀ c, 12 ≤ c → c ≤ 26 → c ≠ 21 → m.1 c = mu.1 c) → jm_rg z → jm_pr l gR (d + 7) iX12_sings [.ref 0, jm_i w, jm_i f, jm_i key] mu m (some (jm_i z)) → Q (some (jm_i z)) m) : jm_R l gC (d + 7) iX2_sing [.ref 37, jm_i w, jm_i f, jm_i key] mu Q := by
  obtain ⟨⟨w0, w1⟩, ⟨f0, f5⟩, k0, k59⟩ := ccl_in hI hc
  obtain ⟨sg, t20, room⟩ := hc
  have hA := hI.1
  have hM := hI.2.1
  have W8 := hA.1.2.1
  have q := sg.1
  obtain ⟨-, em, nc, ⟨mo0, mo1⟩, nz⟩ := mot_in hA q
  have cb := clm_bd hA w f
  obtain ⟨-, -, -, B1, B9, -⟩ := hA.2.1 w w0 w1
  obtain ⟨n0, n8, n17⟩ := hM.2.1 (mot mu w f) mo0 mo1
  have k6 := hI.2.2.2.2.1.2.2.2.1
  have k4 := hI.2.2.2.2.1.2.2.2.2.1
  have wr : jm_rg w := ⟨by omega, by omega⟩
  have fr : jm_rg f := ⟨by omega, by omega⟩
  have e1 : mot mu w f / 4 = f := by omega
  have e2 : mot mu w f % 4 = clm mu w f := by omega
  have nt : ((mu.1 13 (mot mu w f)).toNat : Int) = mu.1 13 (mot mu w f) := by omega
  refine eX2_sing hC (sX0_motiveOf hC hA wr fr (jm_qiI ⟨by omega, by omega⟩ ⟨fun _ x5 e5 => ?_, fun r => absurd r q⟩))
  refine eX2_singNotes hC (fun x1 ex1 => ?_)
  refine l_sing (l := l) hC hR (v := clm mu w f) (fb := mu.1 29 6) sg hA hM rfl (mu.1 13 (mot mu w f)).toNat mu nu 0 0 x1 0 (by omega) hI ⟨fun _ _ _ _ _ => rfl, fun _ _ _ => rfl⟩ (Or.inl ⟨rfl, rfl⟩) (fun _ => ?_) (fun _ => ?_) (by decide) (by decide) (fun m1 z x1 sg1 le1 z0 z1 co => jm_qiI ⟨by omega, by omega⟩ ?_)
  · rw [nt, Int.add_zero]
    omega
  · show x1 = key + 1 + 0
    omega
  obtain ⟨n1, J1⟩ := x1
  have g6 : m1.1 6 = mu.1 6 := sg1.1 6 (by decide) (by decide) (by decide) (by decide)
  have w1' : w < m1.1 6 0 := by rw [g6]; exact w1
  refine sX0_shakeOf hC J1.1 J1.2.2.2.1 J1.2.2.2.2.1 w0 w1' mo0 mo1 (fun m10 t10 => ?_)
  rw [e1, e2]
  generalize hsh : shk m1 w f (clm mu w f) = sh
  have shb : 0 ≤ sh ∧ sh ≤ 99 := by rw [← hsh]; unfold shk; omega
  obtain ⟨p1, p2, p3, -⟩ := J1.nv w0 w1'
  have e30 : m10.1 30 w = m1.1 30 w := by rw [t10 30 (by decide) (by decide)]
  refine jm_qiI ⟨by omega, by omega⟩ ⟨⟨w0, by omega⟩, ?_⟩
  rw [e30]
  refine ⟨⟨by omega, by omega⟩, fun m16 e16 => ?_⟩
  have h9 : ∀ i, m16.1 29 i = m1.1 29 i := fun i => by rw [e16, jm_wrO (by decide), t10 29 (by decide) (by decide)]
  have k6' := J1.2.2.2.2.1.2.2.2.1
  have t4 : m16.1 29 4 = mu.1 29 4 := by rw [h9, sg1.2 4 (by decide) (by decide)]
  have b6 : m16.1 29 6 = m1.1 29 6 := h9 6
  subst e5
  have h6 : m16.1 6 = mu.1 6 := by
    rw [e16]
    funext i
    rw [jm_wrO (by decide), t10 6 (by decide) (by decide), g6]
  refine sX1_addTestimony hC (by omega) (by omega) wr ⟨mo0, mo1⟩ ⟨by omega, by omega⟩ ⟨k6.1, by omega⟩ (by omega) (jm_qvI ?_)
  rw [e1, e2]
  have step : ∀ n10, Iv m10 n10 → Iv (cW (cT m16 (m16.1 29 4) w f (clm mu w f) z (mu.1 29 6) (m16.1 29 6 - mu.1 29 6)) 0 w f z) (rW (rT (jm_wr n10 1 (6 + w) (max 0 (m1.1 30 w - sh) - 50)) (m16.1 29 4) w f (clm mu w f) z (mu.1 29 6) (m16.1 29 6 - mu.1 29 6)) 0 w f z) := fun n10 J10 => by
    have J16 := J10.nerve (x := max 0 (m1.1 30 w - sh)) w0 (by rw [t10 6 (by decide) (by decide)]; exact w1') (by omega) (by omega)
    rw [← e16] at J16
    exact (J16.test rfl (by omega) w0 (by rw [h6]; exact w1) f0 f5 (by omega) (by omega) z0 (by omega) k6.1 (by omega) (by omega)).write 0 w f z
  have c9 : ∀ i, i ≠ 4 → (cT m16 (m16.1 29 4) w f (clm mu w f) z (mu.1 29 6) (m16.1 29 6 - mu.1 29 6)).1 29 i = m1.1 29 i := fun i hi => by
    unfold cT
    rw [jm_wrI hi, jm_wrO (by decide), jm_wrO (by decide), jm_wrO (by decide), jm_wrO (by decide), jm_wrO (by decide), jm_wrO (by decide), jm_wrO (by decide), h9]
  have cc : ∀ c, c ≠ 29 → c ≠ 32 → (cT m16 (m16.1 29 4) w f (clm mu w f) z (mu.1 29 6) (m16.1 29 6 - mu.1 29 6)).1 c = m16.1 c := fun c h1 h2 => by
    funext i
    unfold cT
    rw [jm_wrO h1, jm_wrO h2, jm_wrO h2, jm_wrO h2, jm_wrO h2, jm_wrO h2, jm_wrO h2, jm_wrO h2]
  refine sX1_write hC (by rw [c9 8 (by decide)]; exact J1.bk.1) ⟨by decide, by decide⟩ wr fr ⟨by omega, by omega⟩ (jm_qvI ?_)
  refine h _ z ⟨_, step n1 (J1.ext t10.aC (jm_aR.rf n1))⟩ ?_ ?_ (fun c c1 c2 c3 => ?_) ⟨by omega, by omega⟩ (fun nu' Q' hI' h' => ?_)
  · rw [cW_c (by decide) (by decide), cc 6 (by decide) (by decide), h6]
  · rw [cW_9 (by decide), c9 1 (by decide), sg1.2 1 (by decide) (by decide)]
  · rw [cW_c (by omega) (by omega), cc c (by omega) (by omega), e16]
    funext i
    rw [jm_wrO (by omega), t10 c (by omega) (by omega), sg1.1 c (by omega) (by omega) (by omega) (by omega)]
  · refine eX12_sings hR (sX12_motiveOf hR hI'.1 hI'.2.1 w0 w1 f0 f5 (jm_qiI ⟨by omega, by omega⟩ ⟨⟨by omega, by omega⟩, fun x6 e6 x7 e7 => ?_⟩))
    rw [clm_r hI'.1 w0 w1 f0 f5] at e6
    rw [show x6 = clm mu w f by omega, show x7 = mu.1 29 6 by rw [e7]; exact hI'.2.2.2.2.1.2.2.2.1.2.2]
    refine co nu' Q' hI' (fun n1' J1' => ?_)
    have w17 : n1'.1 17 (8 * mot mu w f) = mu.1 13 (mot mu w f) := by rw [(J1'.2.1.2.1 _ mo0 mo1).2.2, sg1.1 13 (by decide) (by decide) (by decide) (by decide)]
    obtain ⟨-, -, p3', -⟩ := J1'.nv w0 w1'
    refine bX12_sings_30 hR ⟨⟨by omega, by omega⟩, ⟨by omega, by omega⟩, fun _ => ⟨⟨by omega, by omega⟩, sX12_shakeOf hR J1'.1 J1'.2.2.2.1 J1'.2.2.2.2.1 w0 w1' fr ⟨by omega, by omega⟩ (fun n10 t10' => ?_)⟩, fun r => by rw [w17] at r; omega⟩
    rw [hsh]
    refine jm_qiI ⟨by omega, by omega⟩ ?_
    rw [p3']
    refine sX12_nerveBe hR ⟨w0, by omega⟩ ⟨by omega, by omega⟩ (jm_qvI ?_)
    rw [show max 0 (min 99 (m1.1 30 w - 50 + 50 - sh)) = max 0 (m1.1 30 w - sh) by omega]
    have fin := step n10 (J1'.ext t10.aC t10'.aR)
    have i4 : (jm_wr n10 1 (6 + w) (max 0 (m1.1 30 w - sh) - 50)).1 1 4 = m16.1 29 4 := by
      rw [jm_wrI (by omega), t10' 1 (by decide) (by decide), h9]
      exact J1'.2.2.2.2.1.2.2.2.2.1.2.2
    have i3 : (jm_wr n10 1 (6 + w) (max 0 (m1.1 30 w - sh) - 50)).1 1 3 = m16.1 29 6 := by
      rw [jm_wrI (by omega), t10' 1 (by decide) (by decide), h9]
      exact J1'.2.2.2.2.1.2.2.2.1.2.2
    have i2 : (jm_wr n10 1 (6 + w) (max 0 (m1.1 30 w - sh) - 50)).1 1 2 = m1.1 29 8 := by
      rw [jm_wrI (by omega), t10' 1 (by decide) (by decide)]
      exact J1'.bk.2.2
    generalize hn8 : jm_wr n10 1 (6 + w) (max 0 (m1.1 30 w - sh) - 50) = n8 at *
    intro x12 e12
    rw [i4] at e12
    subst e12
    refine ⟨⟨by omega, by omega⟩, wr, fun m15 e15 => ⟨⟨by omega, by omega⟩, fr, fun m19 e19 => ⟨⟨by omega, by omega⟩, ⟨by omega, by omega⟩, fun m23 e23 => ⟨⟨by omega, by omega⟩, ⟨by omega, by omega⟩, fun m27 e27 => ⟨⟨by omega, by omega⟩, ⟨by omega, by omega⟩, fun m31 e31 => ⟨⟨by omega, by omega⟩, ?_⟩⟩⟩⟩⟩⟩
    have j3 : m31.1 1 3 = m16.1 29 6 := by rw [e31, jm_wrO (by decide), e27, jm_wrO (by decide), e23, jm_wrO (by decide), e19, jm_wrO (by decide), e15, jm_wrO (by decide), i3]
    rw [j3]
    refine ⟨⟨by omega, by omega⟩, fun m35 e35 => ?_⟩
    have j4 : m35.1 1 4 = m16.1 29 4 := by rw [e35, jm_wrO (by decide), e31, jm_wrO (by decide), e27, jm_wrO (by decide), e23, jm_wrO (by decide), e19, jm_wrO (by decide), e15, jm_wrO (by decide), i4]
    rw [j4]
    refine ⟨⟨by omega, by omega⟩, fun m38 e38 => ?_⟩
    have eT : m38 = rT n8 (m16.1 29 4) w f (clm mu w f) z (mu.1 29 6) (m16.1 29 6 - mu.1 29 6) := by
      rw [e38, e35, e31, e27, e23, e19, e15]
      rfl
    have j2 : m38.1 1 2 = m1.1 29 8 := by
      rw [e38, jm_wrI (by decide), e35, jm_wrO (by decide), e31, jm_wrO (by decide), e27, jm_wrO (by decide), e23, jm_wrO (by decide), e19, jm_wrO (by decide), e15, jm_wrO (by decide), i2]
    have bb := J1.bk
    refine sX12_notes hR (by omega) (by omega) ⟨by decide, by decide⟩ wr fr ⟨by omega, by omega⟩ (jm_qvI ?_)
    rw [eT]
    exact h' _ fin
theorem d_keep2 (hC : jm_HC gC) (hR : jm_HR gR) (hI : Iv mu nu) (h : ∀ m, (∃ n, Iv m n) → (∀ c, c ≠ 0 → c < 94 → m.1 c = mu.1 c) → jm_pr l gR (d + 1) iX12_keepsAhead [.ref 0] mu m none → Q none m) : jm_R l gC (d + 2) iX11_keepCourt [.ref 0] mu Q := by
  obtain ⟨⟨c0, c6, c3⟩, ⟨k0, k5⟩, -, -⟩ := hI.2.2.2.2.2.1
  refine sX11_keepCourt hC k0 k5 c0 c6 (fun m hm => ?_)
  have cl : ∀ c, c ≠ 0 → c < 94 → m.1 c = mu.1 c := fun c h0 h94 => by
    obtain ⟨m1, cp, em⟩ := hm
    funext i
    rw [em, jm_wrO h0, jm_wrO h0, cp.2.2.2.2.2.2 c (by omega)]
  obtain ⟨n, hn⟩ := KPR_ex (nu := nu) (by omega) (by omega)
  refine h m ⟨n, hI.keep hm hn⟩ cl (fun nu' Q' hI' h' => ?_)
  obtain ⟨⟨c0', c6', c3'⟩, -, -, -⟩ := hI'.2.2.2.2.2.1
  exact sX12_keepsAhead hR (by omega) (by omega) (fun n' hn' => h' n' (hI'.keep hm hn'))
theorem ccl_e (e : ∀ c, c ≠ 0 → c < 94 → m.1 c = mu.1 c) {w f k : Int} (h : ccl mu w f k) : ccl m w f k := by
  have e6 := e 6 (by decide) (by decide)
  have e7 := e 7 (by decide) (by decide)
  have e8 := e 8 (by decide) (by decide)
  have e9 := e 9 (by decide) (by decide)
  have e10 := e 10 (by decide) (by decide)
  have e13 := e 13 (by decide) (by decide)
  have e14 := e 14 (by decide) (by decide)
  have e29 := e 29 (by decide) (by decide)
  have ec : clm m w f = clm mu w f := by unfold clm; rw [e6, e10]
  have em : mot m w f = mot mu w f := by unfold mot; rw [ec, e13]
  have el : ∀ x, loK m w x = loK mu w x := fun x => by unfold loK stf nst; rw [e7, e13, e14]
  have eh : ∀ x, hiK m w x = hiK mu w x := fun x => by unfold hiK stf nst; rw [e8, e13, e14]
  unfold ccl sng at h ⊢
  rw [em, el, eh, e29, e13, e9]
  exact h
theorem sim_call (hC : jm_HC gC) (hR : jm_HR gR) (hI : Iv mu nu) (h1 : jm_rg v1) (h2 : jm_rg v2) (h3 : jm_rg v3) : jm_sim l gC gR (d + 8) (d + 8) iX11_call iX12_call [jm_i v1, jm_i v2, jm_i v3] mu nu := by
  have I0 := hI.t0
  refine eX11_call hC (sX2_canBeCalled hC hI h1 h2 h3 (fun y => jm_qiI ⟨by decide, by decide⟩ ⟨fun _ => ?_, fun r => absurd r (by decide)⟩) (fun no => jm_qiI ⟨by decide, by decide⟩ ⟨fun r => absurd rfl r, fun _ => ?_⟩))
  · refine jm_R.up (d := d + 2) (d_keep2 (l := l) (d := d) hC hR hI (fun m1 x1 ee pr1 => jm_qvI ?_)) (by omega)
    obtain ⟨n1, J1⟩ := x1
    refine d_sing (l := l) hC hR J1 (ccl_e ee y) (fun m z x2 _ _ _ rz pr2 => jm_qiI rz (jm_qiI rz (eX12_call hR (fun k1 e1 => ?_))))
    subst e1
    refine sX12_canCall hR I0 h1 h2 h3 (fun _ => jm_qiI ⟨by decide, by decide⟩ ⟨fun _ => ?_, fun r => absurd r (by decide)⟩) (fun no => absurd y no)
    exact jm_R.up (pr1.go I0 (fun n1' J1' => jm_qvI (pr2.go J1' (fun n2' J2' => jm_qiI rz (jm_fin rz rfl J2'))))) (by omega)
  · refine jm_qiI ⟨by decide, by decide⟩ (eX12_call hR (fun n1 e1 => ?_))
    subst e1
    exact sX12_canCall hR I0 h1 h2 h3 (fun y => absurd y no) (fun _ => jm_qiI ⟨by decide, by decide⟩ ⟨fun r => absurd rfl r, fun _ => jm_fin ⟨by decide, by decide⟩ rfl I0⟩)
/-- the rests of the plan -/
def rsf (mu : jm_M) : Int → Int := fun k => if mu.1 23 k = 3 then 1 else 0
theorem rsf_01 (mu : jm_M) (k : Int) : rsf mu k = 0 ∨ rsf mu k = 1 := by unfold rsf; split <;> omega
theorem abN_mono (f : Int → Int) (hf : ∀ i, f i = 0 ∨ f i = 1) : ∀ (j k : Nat), abN f k ≤ abN f (k + j)
  | 0, k => Int.le_refl _
  | j + 1, k => by
    have ih := abN_mono f hf j k
    have t := hf ((k + j : Nat) : Int)
    rw [show k + (j + 1) = (k + j) + 1 by omega, ← abN_st]
    omega
theorem sX6_rests (hC : jm_HC gC) (hI : Iv mu nu) (h : Q (some (jm_i (abN (rsf mu) (mu.1 22 0).toNat))) mu) : jm_R l gC (d + 1) iX6_rests [.ref 22] mu Q := by
  obtain ⟨p0, p60, p39⟩ := hI.2.2.1.1
  have lp : ∀ (j k : Nat), k + j = (mu.1 22 0).toNat → jm_V l gC (d + 1) iX6_rests 4 [(0, .ref 22), (1, jm_i (abN (rsf mu) k)), (2, jm_i k)] [] mu Q := by
    intro j
    induction j with
    | zero =>
      intro k hk
      have e : k = (mu.1 22 0).toNat := by omega
      exact bX6_rests_4 hC ⟨⟨by omega, by omega⟩, fun _ => by rw [e]; exact h, fun q => by omega⟩
    | succ j ih =>
      intro k hk
      have nx := ih (k + 1) (by omega)
      rw [show ((k + 1 : Nat) : Int) = (k : Int) + 1 by omega, ← abN_st] at nx
      refine bX6_rests_4 hC ⟨⟨by omega, by omega⟩, fun q => by omega, fun _ => ⟨fun q => by omega, fun _ => ⟨⟨by omega, by omega⟩, fun q => ?_, fun q => ?_⟩⟩⟩
      · have e : rsf mu k = 0 := if_neg q
        rw [e, Int.add_zero] at nx
        exact nx
      · have e : rsf mu k = 1 := if_pos q
        rw [e] at nx
        exact nx
  exact eX6_rests hC (lp (mu.1 22 0).toNat 0 (by omega))
theorem sX12_restsOfTrial (hR : jm_HR gR) (hI : Iv mu nu) (h : Q (some (jm_i (abN (rsf mu) (mu.1 22 0).toNat))) nu) : jm_R l gR (d + 2) iX12_restsOfTrial [.ref 0] nu Q := by
  obtain ⟨p0, p60, p39⟩ := hI.2.2.1.1
  have lp : ∀ (j k : Nat), k + j = (mu.1 22 0).toNat → jm_V l gR (d + 2) iX12_restsOfTrial 4 [(0, .ref 0), (1, jm_i (abN (rsf mu) k)), (2, jm_i k)] [] nu Q := by
    intro j
    induction j with
    | zero =>
      intro k hk
      have e : k = (mu.1 22 0).toNat := by omega
      exact bX12_restsOfTrial_4 hR ⟨⟨by omega, by omega⟩, fun _ => by rw [e]; exact h, fun q => by omega⟩
    | succ j ih =>
      intro k hk
      have nx := ih (k + 1) (by omega)
      rw [show ((k + 1 : Nat) : Int) = (k : Int) + 1 by omega, ← abN_st] at nx
      have dd := hI.2.2.1.2 k (by omega) (by omega)
      refine bX12_restsOfTrial_4 hR ⟨⟨by omega, by omega⟩, fun q => by omega, fun _ => ?_⟩
      rw [Int.add_zero]
      refine ⟨⟨by omega, by omega⟩, fun q => ?_, fun q x3 e3 => ?_⟩
      · have e : rsf mu k = 0 := if_neg (fun r => by unfold jm_deed at dd; omega)
        rw [e, Int.add_zero] at nx
        exact nx
      · have e : rsf mu k = 1 := if_pos (by unfold jm_deed at dd; omega)
        rw [e] at nx
        rw [e3]
        exact nx
  exact eX12_restsOfTrial hR (lp (mu.1 22 0).toNat 0 (by omega))
theorem l_trial (hC : jm_HC gC) (hR : jm_HR gR) (j : Nat) : ∀ (m n : jm_M) (k : Nat) (z : Int), k + j = (mu.1 22 0).toNat → Iv m n → m.1 6 = mu.1 6 → (∀ c, 12 ≤ c → c ≤ 26 → c ≠ 21 → m.1 c = mu.1 c) → m.1 29 1 + (abN (rsf mu) (mu.1 22 0).toNat - abN (rsf mu) k) ≤ 999 → 0 ≤ z → z ≤ k → (∀ m' z', jm_rg z' → (∀ nu Q', Iv m nu → (∀ n', Iv m' n' → Q' (some (jm_i z')) n') → jm_V l gR (d + 9) iX12_trial 32 [(0, .ref 0), (1, jm_i z), (2, jm_i k)] [] nu Q') → Q (some (jm_i z')) m') → jm_V l gC (d + 8) iX2_goThrough 4 [(0, .ref 37), (1, .ref 22), (2, jm_i z), (3, jm_i k)] [] m Q := by
  induction j with
  | zero =>
    intro m n k z hk J e6 ep hd z0 zk h
    have e22 : m.1 22 = mu.1 22 := ep 22 (by decide) (by decide) (by decide)
    obtain ⟨p0, p60, p39⟩ := J.2.2.1.1
    rw [e22] at p0 p60
    have rz : jm_rg z := ⟨by omega, by omega⟩
    refine bX2_goThrough_4 hC ⟨⟨by omega, by omega⟩, fun _ => h m z rz (fun nu' Q' J' h' => ?_), fun q => by rw [e22] at q; omega⟩
    have p39' : nu'.1 0 39 = mu.1 22 0 := by rw [J'.2.2.1.1.2.2, e22]
    exact bX12_trial_32 hR ⟨⟨by omega, by omega⟩, fun _ => h' nu' J', fun q => by omega⟩
  | succ j ih =>
    intro m n k z hk J e6 ep hd z0 zk h
    have e22 : m.1 22 = mu.1 22 := ep 22 (by decide) (by decide) (by decide)
    have e23 : m.1 23 = mu.1 23 := ep 23 (by decide) (by decide) (by decide)
    have W8 := J.1.1.2.1
    obtain ⟨p0, p60, p39⟩ := J.2.2.1.1
    rw [e22] at p0 p60
    have kN : (k : Int) < mu.1 22 0 := by omega
    have dd := J.2.2.1.2 k (by omega) (by rw [e22]; exact kN)
    have mono := abN_mono (rsf mu) (rsf_01 mu) j (k + 1)
    rw [show k + 1 + j = (mu.1 22 0).toNat by omega] at mono
    have st := abN_st (rsf mu) k
    have f01 := rsf_01 mu k
    have D0 := J.2.2.2.2.1.1
    -- what the rest of the loop wants behind a deed
    have nx : ∀ (m2 : jm_M) (z2 : Int), (∃ n2, Iv m2 n2) → m2.1 6 = m.1 6 → (∀ c, 12 ≤ c → c ≤ 26 → c ≠ 21 → m2.1 c = m.1 c) → m2.1 29 1 = m.1 29 1 + rsf mu k → (z2 = z ∨ z2 = z + 1) → (∀ nu Q', Iv m nu → (∀ n', Iv m2 n' → Q' (some (jm_i (z2 - z))) n') → jm_R l gR (d + 8) iX12_isDone [.ref 0, jm_i k] nu Q') → jm_V l gC (d + 8) iX2_goThrough 4 [(0, .ref 37), (1, .ref 22), (2, jm_i z2), (3, jm_i ((k : Int) + 1))] [] m2 Q := by
      intro m2 z2 x2 f6 fp fd fz co
      obtain ⟨n2, J2⟩ := x2
      rw [show ((k : Int) + 1) = ((k + 1 : Nat) : Int) by omega]
      refine ih m2 n2 (k + 1) z2 (by omega) J2 (by rw [f6, e6]) (fun c c1 c2 c3 => by rw [fp c c1 c2 c3, ep c c1 c2 c3]) (by omega) (by omega) (by omega) (fun m' z' rz co2 => h m' z' rz (fun nu' Q' J' h' => ?_))
      have p39' : nu'.1 0 39 = mu.1 22 0 := by rw [J'.2.2.1.1.2.2, e22]
      refine bX12_trial_32 hR ⟨⟨by omega, by omega⟩, fun q => by omega, fun _ => co nu' _ J' (fun n' J2' => ?_)⟩
      have g := co2 n' Q' J2' h'
      rw [show ((k + 1 : Nat) : Int) = (k : Int) + 1 by omega] at g
      refine jm_qiI ⟨by omega, by omega⟩ ⟨fun q => ?_, fun q x6 e6 => ?_⟩
      · rw [show z2 = z by omega] at g
        exact g
      · rw [show z2 = x6 by omega] at g
        exact g
    -- the reference's deed
    have rd : ∀ nu', Iv m nu' → jm_deed (m.1 23 k) (m.1 24 k) (m.1 25 k) (m.1 26 k) (nu'.1 19 (4 * k)) (nu'.1 19 (4 * k + 1)) (nu'.1 19 (4 * k + 2)) (nu'.1 19 (4 * k + 3)) (m.1 6 0) := fun nu' J' => J'.2.2.1.2 k (by omega) (by rw [e22]; exact kN)
    refine bX2_goThrough_4 hC ⟨⟨by omega, by omega⟩, fun q => by rw [e22] at q; omega, fun _ => ⟨fun q => by omega, fun _ => ⟨⟨by omega, by omega⟩, fun q3 => ⟨fun q1 => ?_, fun q1 => ?_⟩, fun q3 => ?_⟩⟩⟩
    · have f0 : rsf mu k = 0 := if_neg (by rw [← e23]; exact q3)
      have dk : m.1 23 k = 0 ∧ 0 ≤ m.1 24 k ∧ m.1 24 k < m.1 6 0 ∧ 0 ≤ m.1 25 k ∧ m.1 25 k ≤ 5 ∧ 0 ≤ m.1 26 k ∧ m.1 26 k ≤ 59 := by unfold jm_deed at dd; omega
      have ra : jm_rg (m.1 24 k) := ⟨by omega, by omega⟩
      have rb : jm_rg (m.1 25 k) := ⟨by omega, by omega⟩
      have rc : jm_rg (m.1 26 k) := ⟨by omega, by omega⟩
      have rdk : ∀ nu', Iv m nu' → nu'.1 19 (4 * k) = 0 ∧ nu'.1 19 (4 * k + 1) = m.1 24 k ∧ nu'.1 19 (4 * k + 2) = m.1 25 k ∧ nu'.1 19 (4 * k + 3) = m.1 26 k := fun nu' J' => by
        have t := rd nu' J'
        unfold jm_deed at t
        omega
      refine sX2_canBeCalled hC J ra rb rc (fun y => jm_qiI ⟨by decide, by decide⟩ ⟨fun r => absurd r (by decide), fun _ => ?_⟩) (fun no => jm_qiI ⟨by decide, by decide⟩ ⟨fun _ => ?_, fun r => absurd rfl r⟩)
      · refine d_sing (l := l) (d := d) hC hR J y (fun m2 z2 x2 f6 fd fp rz pr => jm_qiI rz (nx m2 (z + 1) x2 f6 fp (by omega) (Or.inr rfl) (fun nu' Q' J' h' => ?_)))
        obtain ⟨a0, a1, a2, a3⟩ := rdk nu' J'
        refine eX12_isDone hR ⟨⟨by omega, by omega⟩, fun x2 ex2 => ⟨⟨by omega, by omega⟩, ?_⟩⟩
        rw [Int.add_zero, a0, a2, a3]
        refine ⟨fun _ => ⟨⟨by omega, by omega⟩, fun _ => ⟨⟨by omega, by omega⟩, ⟨by omega, by omega⟩, ?_⟩, fun r => absurd r (by decide)⟩, fun r => absurd r (by decide)⟩
        rw [ex2, a1]
        refine sX12_canCall hR J' ra rb rc (fun _ => jm_qiI ⟨by decide, by decide⟩ ⟨fun _ => ⟨⟨by omega, by omega⟩, ⟨by omega, by omega⟩, ?_⟩, fun r => absurd r (by decide)⟩) (fun no => absurd y no)
        rw [a2, a3]
        refine pr.go J' (fun n2' J2' => jm_qiI rz ?_)
        have := h' n2' J2'
        rwa [show z + 1 - z = 1 by omega] at this
      · rw [show z + 1 + -1 = z by omega]
        refine nx m z ⟨n, J⟩ rfl (fun _ _ _ _ => rfl) (by omega) (Or.inl rfl) (fun nu' Q' J' h' => ?_)
        obtain ⟨a0, a1, a2, a3⟩ := rdk nu' J'
        refine eX12_isDone hR ⟨⟨by omega, by omega⟩, fun x2 ex2 => ⟨⟨by omega, by omega⟩, ?_⟩⟩
        rw [Int.add_zero, a0, a2, a3]
        refine ⟨fun _ => ⟨⟨by omega, by omega⟩, fun _ => ⟨⟨by omega, by omega⟩, ⟨by omega, by omega⟩, ?_⟩, fun r => absurd r (by decide)⟩, fun r => absurd r (by decide)⟩
        rw [ex2, a1]
        refine sX12_canCall hR J' ra rb rc (fun y => absurd y no) (fun _ => jm_qiI ⟨by decide, by decide⟩ ⟨fun r => absurd rfl r, fun _ => ?_⟩)
        have := h' nu' J'
        rwa [Int.sub_self] at this
    · have f0 : rsf mu k = 0 := if_neg (by rw [← e23]; exact q3)
      have dk : 0 ≤ m.1 24 k ∧ m.1 24 k < m.1 6 0 := by unfold jm_deed at dd; omega
      refine jm_R.up (d := d + 6) (d_cross (l := l) (d := d) hC hR J dk.1 dk.2 (fun m2 x2 f6 fd fp pr => jm_qvI (nx m2 (z + 1) x2 f6 fp (by omega) (Or.inr rfl) (fun nu' Q' J' h' => ?_)))) (by omega)
      have t := rd nu' J'
      have tk : nu'.1 19 (4 * k) = 1 ∧ nu'.1 19 (4 * k + 1) = m.1 24 k := by unfold jm_deed at t; omega
      obtain ⟨n2, J2⟩ := x2
      have nv := J2.nv dk.1 (by rw [f6]; exact dk.2)
      refine eX12_isDone hR ⟨⟨by omega, by omega⟩, fun x2 ex2 => ⟨⟨by omega, by omega⟩, ?_⟩⟩
      rw [Int.add_zero, tk.1]
      refine ⟨fun _ => ⟨⟨by omega, by omega⟩, fun r => absurd rfl r, fun _ => ?_⟩, fun r => absurd r (by decide)⟩
      rw [ex2, tk.2]
      refine pr.go J' (fun n2' J2' => jm_qiI ⟨by omega, by omega⟩ ?_)
      have := h' n2' J2'
      rwa [show z + 1 - z = 1 by omega] at this
    · have f0 : rsf mu k = 1 := if_pos (by rw [← e23]; exact q3)
      refine jm_R.up (d := d + 2) (d_rest (l := l) (d := d) hC hR J (by omega) (fun m2 x2 f6 fd fp pr => jm_qvI (nx m2 (z + 1) x2 f6 fp (by omega) (Or.inr rfl) (fun nu' Q' J' h' => ?_)))) (by omega)
      have t := rd nu' J'
      have tk : nu'.1 19 (4 * k) = 2 := by unfold jm_deed at t; omega
      refine eX12_isDone hR ⟨⟨by omega, by omega⟩, fun x2 ex2 => ⟨⟨by omega, by omega⟩, ?_⟩⟩
      rw [Int.add_zero, tk]
      refine ⟨fun r => absurd rfl r, fun _ => jm_R.up (pr.go J' (fun n2' J2' => jm_qvI ?_)) (by omega)⟩
      have := h' n2' J2'
      rwa [show z + 1 - z = 1 by omega] at this
theorem sim_trial (hC : jm_HC gC) (hR : jm_HR gR) (hI : Iv mu nu) : jm_sim l gC gR (d + 9) (d + 9) iX11_trial iX12_trial [] mu nu := by
  have I0 := hI.t0
  have D := hI.2.2.2.2.1.1
  have D0 : (jm_wr nu 0 0 0).1 1 0 = mu.1 29 1 := I0.2.2.2.2.1.1.2.2
  obtain ⟨p0, p60, p39⟩ := hI.2.2.1.1
  have rb := abN_01 (rsf mu) (rsf_01 mu) (mu.1 22 0).toNat
  refine eX11_trial hC (sX6_rests hC hI (jm_qiI ⟨by omega, by omega⟩ ⟨⟨by omega, by omega⟩, fun q => ?_, fun q => ?_⟩))
  · refine jm_R.up (d := d + 2) (d_keep2 (l := l) (d := d) hC hR hI (fun m1 x1 ee pr1 => jm_qvI ?_)) (by omega)
    obtain ⟨n1, J1⟩ := x1
    have e291 : m1.1 29 1 = mu.1 29 1 := by rw [ee 29 (by decide) (by decide)]
    refine eX2_goThrough hC (l_trial (l := l) (mu := mu) hC hR (mu.1 22 0).toNat m1 n1 0 0 (by omega) J1 (ee 6 (by decide) (by decide)) (fun c c1 c2 c3 => ee c (by omega) (by omega)) ?_ (by decide) (by decide) (fun m2 z rz co => jm_qiI rz (jm_qiI rz (eX12_trial hR (fun k1 e1 => ?_)))))
    · show m1.1 29 1 + (abN (rsf mu) (mu.1 22 0).toNat - 0) ≤ 999
      omega
    · subst e1
      refine sX12_restsOfTrial hR I0 (jm_qiI ⟨by omega, by omega⟩ ⟨⟨by omega, by omega⟩, fun _ => ?_, fun r => by omega⟩)
      exact jm_R.up (pr1.go I0 (fun n1' J1' => jm_qvI (co n1' _ J1' (fun n' J' => jm_fin rz rfl J')))) (by omega)
  · refine jm_qiI ⟨by decide, by decide⟩ (eX12_trial hR (fun k1 e1 => ?_))
    subst e1
    exact sX12_restsOfTrial hR I0 (jm_qiI ⟨by omega, by omega⟩ ⟨⟨by omega, by omega⟩, fun r => by omega, fun _ => jm_fin ⟨by decide, by decide⟩ rfl I0⟩)
end TR
