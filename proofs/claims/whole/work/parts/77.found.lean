section FO
variable {l : Launch} {gC gR : jm_G} {d : Nat} {mu nu m n : jm_M} {v1 v2 v3 v4 v5 : Int} {Q : Option Value → jm_M → Prop}
/-- what the i-th testimony weighs for a value of a fact -/
def wq (mu : jm_M) (f v : Int) : Int → Int := fun i => if (mu.1 32 (i * 7 + 6) = 0 ∧ mu.1 32 (i * 7 + 3) ≤ mu.1 6 7) ∧ mu.1 32 (i * 7 + 1) = f ∧ mu.1 32 (i * 7 + 2) = v then wgt mu (mu.1 32 (i * 7)) f v (mu.1 32 (i * 7 + 3)) else 0
def wfor (mu : jm_M) (f v : Int) : Int := abN (wq mu f v) (mu.1 29 4).toNat
theorem wgt_b (mu : jm_M) (w f v s : Int) : 0 ≤ wgt mu w f v s ∧ wgt mu w f v s ≤ 99 := by
  unfold wgt wg0
  split <;> omega
theorem wq_b (mu : jm_M) (f v i : Int) : 0 ≤ wq mu f v i ∧ wq mu f v i ≤ 99 := by
  unfold wq
  split
  · exact wgt_b _ _ _ _ _
  · omega
theorem wsum (mu : jm_M) (f v : Int) : ∀ n : Nat, 0 ≤ abN (wq mu f v) n ∧ abN (wq mu f v) n ≤ 99 * n
  | 0 => ⟨Int.le_refl 0, Int.le_refl 0⟩
  | n + 1 => by
    have ih := wsum mu f v n
    have t := wq_b mu f v n
    rw [← abN_st]
    omega
theorem wfor_b (hI : Iv mu nu) (f v : Int) : 0 ≤ wfor mu f v ∧ wfor mu f v ≤ 1980 := by
  have b := wsum mu f v (mu.1 29 4).toNat
  have k4 := hI.2.2.2.2.1.2.2.2.2.1
  unfold wfor
  omega
theorem tes (hI : Iv mu nu) {i : Int} (i0 : 0 ≤ i) (i1 : i < mu.1 29 4) : (0 ≤ mu.1 32 (i * 7) ∧ mu.1 32 (i * 7) < mu.1 6 0) ∧ (0 ≤ mu.1 32 (i * 7 + 1) ∧ mu.1 32 (i * 7 + 1) ≤ 5) ∧ (0 ≤ mu.1 32 (i * 7 + 2) ∧ mu.1 32 (i * 7 + 2) ≤ 3) ∧ (0 ≤ mu.1 32 (i * 7 + 3) ∧ mu.1 32 (i * 7 + 3) ≤ 8) ∧ nu.1 24 (6 * i) = mu.1 32 (i * 7) ∧ nu.1 24 (6 * i + 1) = mu.1 32 (i * 7 + 1) ∧ nu.1 24 (6 * i + 2) = mu.1 32 (i * 7 + 2) ∧ nu.1 24 (6 * i + 3) = mu.1 32 (i * 7 + 3) := by
  obtain ⟨-, -, -, -, -, -, -, d7, d8, -, -⟩ := hI.2.2.2.2.1
  obtain ⟨a1, a2, a3, a4, -⟩ := d7 i i0 i1
  have b0 := d8 i 0 i0 i1 (by decide) (by decide)
  have b1 := d8 i 1 i0 i1 (by decide) (by decide)
  have b2 := d8 i 2 i0 i1 (by decide) (by decide)
  have b3 := d8 i 3 i0 i1 (by decide) (by decide)
  rw [Int.add_zero, Int.add_zero] at b0
  exact ⟨a1, a2, a3, a4, b0, b1, b2, b3⟩
theorem sX0_weightOfTestimony (hC : jm_HC gC) (hI : Iv mu nu) {i : Int} (i0 : 0 ≤ i) (i1 : i < mu.1 29 4) (h : ∀ m, jm_t 36 21 mu m → Q (some (jm_i (wgt mu (mu.1 32 (i * 7)) (mu.1 32 (i * 7 + 1)) (mu.1 32 (i * 7 + 2)) (mu.1 32 (i * 7 + 3))))) m) : jm_R l gC (d + 6) iX0_weightOfTestimony [.ref 35, jm_i i] mu Q := by
  obtain ⟨⟨b1, b2⟩, ⟨b3, b4⟩, ⟨b5, b6⟩, ⟨b7, b8⟩, -⟩ := tes hI i0 i1
  have k4 := hI.2.2.2.2.1.2.2.2.2.1
  refine eX0_weightOfTestimony hC ⟨⟨by omega, by omega⟩, ⟨by omega, by omega⟩, fun x3 e3 => ⟨⟨by omega, by omega⟩, ⟨by omega, by omega⟩, ?_⟩⟩
  rw [Int.add_zero]
  have d1 : x3 / 4 = mu.1 32 (i * 7 + 1) := by omega
  have d2 : x3 % 4 = mu.1 32 (i * 7 + 2) := by omega
  refine sX0_weightOf hC hI.1 hI.2.2.2.1 hI.2.2.2.2.1 b1 b2 (by omega) (by omega) ⟨b7, by omega⟩ (fun m t => ?_)
  rw [d1, d2]
  have rs := wgt_b mu (mu.1 32 (i * 7)) (mu.1 32 (i * 7 + 1)) (mu.1 32 (i * 7 + 2)) (mu.1 32 (i * 7 + 3))
  exact jm_qiI ⟨by omega, by omega⟩ (h m t)
theorem sX9_weighAll (hC : jm_HC gC) (hI : Iv mu nu) (r1 : jm_rg v1) (h : ∀ m, jm_aC mu m → (∀ v, 0 ≤ v → v ≤ 3 → m.1 42 v = wfor mu v1 v) → Q none m) : jm_R l gC (d + 7) iX9_weighAll [.ref 41, jm_i v1] mu Q := by
  have k4 := hI.2.2.2.2.1.2.2.2.2.1
  have main : ∀ (j k : Nat) (m : jm_M), (k : Int) + j = mu.1 29 4 → jm_aC mu m → (∀ v, 0 ≤ v → v ≤ 3 → m.1 42 v = abN (wq mu v1 v) k) → jm_V l gC (d + 7) iX9_weighAll 22 [(0, .ref 41), (1, jm_i v1), (2, jm_i k)] [] m Q := by
    intro j
    induction j with
    | zero =>
      intro k m hk a hc
      have e9 : m.1 29 = mu.1 29 := a.1 29 rfl
      refine bX9_weighAll_22 hC ⟨⟨by omega, by omega⟩, fun _ => h m a (fun v v0 v3 => ?_), fun r => by rw [e9] at r; omega⟩
      rw [hc v v0 v3]
      unfold wfor
      rw [show (mu.1 29 4).toNat = k by omega]
    | succ j ih =>
      intro k m hk a hc
      have e9 : m.1 29 = mu.1 29 := a.1 29 rfl
      have e32 : m.1 32 = mu.1 32 := a.1 32 rfl
      have e6 : m.1 6 = mu.1 6 := a.1 6 rfl
      have kT : (k : Int) < mu.1 29 4 := by omega
      obtain ⟨⟨b1, b2⟩, ⟨b3, b4⟩, ⟨b5, b6⟩, ⟨b7, b8⟩, -⟩ := tes hI (i := (k : Int)) (by omega) kT
      have none : (∀ v, wq mu v1 v k = 0) → jm_V l gC (d + 7) iX9_weighAll 22 [(0, .ref 41), (1, jm_i v1), (2, jm_i ((k : Int) + 1))] [] m Q := by
        intro hz
        rw [show ((k : Int) + 1) = ((k + 1 : Nat) : Int) by omega]
        refine ih (k + 1) m (by omega) a (fun v v0 v3 => ?_)
        rw [← abN_st, hz v, Int.add_zero]
        exact hc v v0 v3
      refine bX9_weighAll_22 hC ⟨⟨by omega, by omega⟩, fun r => by rw [e9] at r; omega, fun _ => ⟨⟨by omega, by omega⟩, ?_⟩⟩
      rw [e32, e6]
      refine ⟨fun q => bX9_weighAll_70 hC ⟨⟨by decide, by decide⟩, fun _ => none (fun v => if_neg (fun r => q r.1.1)), fun r => absurd rfl r⟩, fun q => ⟨⟨by omega, by omega⟩, fun q2 => bX9_weighAll_70 hC ⟨⟨by decide, by decide⟩, fun _ => none (fun v => if_neg (fun r => by have := r.1.2; omega)), fun r => absurd rfl r⟩, fun q2 => bX9_weighAll_70 hC ⟨⟨by decide, by decide⟩, fun r => absurd r (by decide), fun _ => ⟨⟨by omega, by omega⟩, r1, ?_⟩⟩⟩⟩
      rw [e32]
      refine ⟨fun q3 => none (fun v => if_neg (fun r => q3 r.2.1)), fun q3 => ⟨⟨by omega, by omega⟩, ⟨b5, by omega⟩, ?_⟩⟩
      have J : Iv m nu := hI.ext a (jm_aR.rf nu)
      refine sX0_weightOfTestimony hC J (by omega) (by rw [e9]; exact kT) (fun m6 t6 => ?_)
      rw [e32, wgt_e a, q3]
      have wb := wgt_b mu (mu.1 32 ((k : Int) * 7)) v1 (mu.1 32 ((k : Int) * 7 + 2)) (mu.1 32 ((k : Int) * 7 + 3))
      have sb := wsum mu v1 (mu.1 32 ((k : Int) * 7 + 2)) k
      rw [hc _ b5 b6]
      refine jm_qiI ⟨by omega, by omega⟩ ⟨⟨by omega, by omega⟩, fun m11 e11 => ?_⟩
      rw [show ((k : Int) + 1) = ((k + 1 : Nat) : Int) by omega]
      refine ih (k + 1) m11 (by omega) (by rw [e11]; exact (a.tr t6.aC).wr rfl rfl) (fun v v0 v3 => ?_)
      rw [e11, ← abN_st]
      by_cases qv : v = mu.1 32 ((k : Int) * 7 + 2)
      · subst qv
        rw [jm_wrS]
        congr 1
        exact (if_pos ⟨⟨q, q2⟩, q3, rfl⟩).symm
      · rw [jm_wrI qv, t6 42 (by decide) (by decide), hc v v0 v3]
        have : wq mu v1 v k = 0 := if_neg (fun r => qv r.2.2.symm)
        omega
  have fill : ∀ (j k : Nat) (m : jm_M), k + j = 4 → jm_aC mu m → (∀ v, 0 ≤ v → v < (k : Int) → m.1 42 v = 0) → jm_V l gC (d + 7) iX9_weighAll 2 [(0, .ref 41), (1, jm_i v1), (2, jm_i k)] [] m Q := by
    intro j
    induction j with
    | zero =>
      intro k m hk a hc
      refine bX9_weighAll_2 hC ⟨⟨by omega, by omega⟩, fun _ => main (mu.1 29 4).toNat 0 m (by omega) a (fun v v0 v3 => hc v v0 (by omega)), fun r => by omega⟩
    | succ j ih =>
      intro k m hk a hc
      refine bX9_weighAll_2 hC ⟨⟨by omega, by omega⟩, fun r => by omega, fun _ => ⟨⟨by omega, by omega⟩, fun m3 e3 => ?_⟩⟩
      rw [show ((k : Int) + 1) = ((k + 1 : Nat) : Int) by omega]
      refine ih (k + 1) m3 (by omega) (by rw [e3]; exact a.wr rfl rfl) (fun v v0 v1 => ?_)
      rw [e3]
      by_cases q : v = k
      · subst q; exact jm_wrS
      · rw [jm_wrI q]; exact hc v v0 (by omega)
  exact eX9_weighAll hC (fill 4 0 mu (by decide) (jm_aC.rf mu) (fun v v0 v1 => by omega))
theorem sX12_weighedFor (hR : jm_HR gR) (hI : Iv mu nu) (r1 : jm_rg v1) (r2 : jm_rg v2) (h : ∀ n, jm_t 22 23 nu n → Q (some (jm_i (wfor mu v1 v2))) n) : jm_R l gR (d + 7) iX12_weighedFor [.ref 0, jm_i v1, jm_i v2] nu Q := by
  have k4 := hI.2.2.2.2.1.2.2.2.2.1
  have main : ∀ (j k : Nat) (n : jm_M), (k : Int) + j = mu.1 29 4 → jm_t 22 23 nu n → jm_V l gR (d + 7) iX12_weighedFor 5 [(0, .ref 0), (1, jm_i v1), (2, jm_i v2), (3, jm_i (abN (wq mu v1 v2) k)), (4, jm_i k)] [] n Q := by
    intro j
    induction j with
    | zero =>
      intro k n hk t
      have J : Iv mu n := hI.ext (jm_aC.rf mu) t.aR
      have e4 : n.1 1 4 = mu.1 29 4 := J.2.2.2.2.1.2.2.2.2.1.2.2
      have hh := h n t
      unfold wfor at hh
      rw [show (mu.1 29 4).toNat = k by omega] at hh
      exact bX12_weighedFor_5 hR ⟨⟨by omega, by omega⟩, fun _ => hh, fun r => by omega⟩
    | succ j ih =>
      intro k n hk t
      have J : Iv mu n := hI.ext (jm_aC.rf mu) t.aR
      have e4 : n.1 1 4 = mu.1 29 4 := J.2.2.2.2.1.2.2.2.2.1.2.2
      have kT : (k : Int) < mu.1 29 4 := by omega
      obtain ⟨⟨b1, b2⟩, ⟨b3, b4⟩, ⟨b5, b6⟩, ⟨b7, b8⟩, c0, c1, c2, c3⟩ := tes J (i := (k : Int)) (by omega) kT
      obtain ⟨sk, s01⟩ := stk J.2.2.2.2.1 (t := (k : Int)) (by omega) kT
      have fl := J.1.2.2.2.2.2.1
      have none : wq mu v1 v2 k = 0 → jm_V l gR (d + 7) iX12_weighedFor 5 [(0, .ref 0), (1, jm_i v1), (2, jm_i v2), (3, jm_i (abN (wq mu v1 v2) k)), (4, jm_i ((k : Int) + 1))] [] n Q := by
        intro hz
        have nx := ih (k + 1) n (by omega) t
        rw [← abN_st, hz, Int.add_zero, show ((k + 1 : Nat) : Int) = (k : Int) + 1 by omega] at nx
        exact nx
      refine bX12_weighedFor_5 hR ⟨⟨by omega, by omega⟩, fun r => by omega, fun _ => ⟨⟨by omega, by omega⟩, r1, ?_⟩⟩
      rw [c1, c2, sk, c3, Int.add_zero, c0, fl.2.2]
      refine ⟨fun q => none (if_neg (fun r => q r.2.1)), fun q => ⟨⟨by omega, by omega⟩, r2, fun q2 => none (if_neg (fun r => q2 r.2.2)), fun q2 => ⟨fun q3 => none (if_neg (fun r => by have := r.1.1; omega)), fun q3 => ⟨⟨by omega, by omega⟩, ⟨by omega, by omega⟩, fun q4 => none (if_neg (fun r => by have := r.1.2; omega)), fun q4 => ⟨⟨by omega, by omega⟩, ⟨by omega, by omega⟩, ?_⟩⟩⟩⟩⟩
      refine sX12_weighOf hR J.1 J.2.2.2.1 J.2.2.2.2.1 b1 b2 r1 r2 ⟨b7, by omega⟩ (fun n2 t2 => ?_)
      have wb := wgt_b mu (mu.1 32 ((k : Int) * 7)) v1 v2 (mu.1 32 ((k : Int) * 7 + 3))
      refine jm_qiI ⟨by omega, by omega⟩ (fun x14 e14 => ?_)
      have nx := ih (k + 1) n2 (by omega) (t.tr t2)
      have ew : wq mu v1 v2 k = wgt mu (mu.1 32 ((k : Int) * 7)) v1 v2 (mu.1 32 ((k : Int) * 7 + 3)) := if_pos ⟨⟨by omega, by omega⟩, q, q2⟩
      rw [← abN_st, ew, show ((k + 1 : Nat) : Int) = (k : Int) + 1 by omega] at nx
      rw [e14]
      exact nx
  exact eX12_weighedFor hR (main (mu.1 29 4).toNat 0 nu (by omega) jm_t.rf)
theorem sim_weighed (hC : jm_HC gC) (hR : jm_HR gR) (hI : Iv mu nu) (h1 : jm_rg v1) (h2 : jm_rg v2) : jm_sim l gC gR (d + 9) (d + 8) iX11_weighed iX12_weighed [jm_i v1, jm_i v2] mu nu := by
  have I0 := hI.t0
  have fi := jm_fin (z := -1) (y := -1) (F := fun n => Iv mu n) ⟨by decide, by decide⟩ rfl I0
  have wb := wfor_b hI v1 v2
  have rz : jm_rg (wfor mu v1 v2) := ⟨by omega, by omega⟩
  refine eX11_weighed hC ⟨h1, fun q1 => ⟨h2, fun q2 => ?_, fun q2 => ?_⟩, fun q1 => ?_⟩
  · refine eX9_weightFor hC (sX9_weighAll hC hI h1 (fun m a hm => jm_qvI ⟨⟨q2.1, by omega⟩, ?_⟩))
    rw [hm v2 q2.1 q2.2]
    refine jm_qiI rz (jm_qiI rz (eX12_weighed hR (fun n1 e1 => ?_)))
    subst e1
    exact ⟨h1, fun _ => ⟨h2, fun _ => sX12_weighedFor hR I0 h1 h2 (fun n t => jm_qiI rz (jm_fin rz rfl (I0.ext a t.aR))), fun r => absurd q2 r⟩, fun r => by omega⟩
  · refine jm_qiI ⟨by decide, by decide⟩ (eX12_weighed hR (fun n1 e1 => ?_))
    subst e1
    exact ⟨h1, fun _ => ⟨h2, fun r => absurd r q2, fun _ => fi⟩, fun r => by omega⟩
  · refine jm_qiI ⟨by decide, by decide⟩ (eX12_weighed hR (fun n1 e1 => ?_))
    subst e1
    exact ⟨h1, fun r => by omega, fun _ => fi⟩
/-- what a value must reach -/
def lst (W : Int → Int) (v need : Int) : Nat → Int
  | 0 => need
  | k + 1 => if (k : Int) = v then lst W v need k else max (lst W v need k) (W k + 1)
theorem lst_le (W : Int → Int) (v need x : Int) : ∀ k : Nat, lst W v need k ≤ x ↔ need ≤ x ∧ ∀ o : Int, 0 ≤ o → o < k → ¬ o = v → W o < x
  | 0 => ⟨fun h => ⟨h, fun o a b => by omega⟩, fun h => h.1⟩
  | k + 1 => by
    have ih := lst_le W v need x k
    unfold lst
    split
    · rename_i q
      rw [ih]
      refine ⟨fun h => ⟨h.1, fun o a b c => h.2 o a (by omega) c⟩, fun h => ⟨h.1, fun o a b c => h.2 o a (by omega) c⟩⟩
    · rename_i q
      refine ⟨fun h => ?_, fun h => ?_⟩
      · have h1 := ih.1 (by omega)
        refine ⟨h1.1, fun o a b c => ?_⟩
        by_cases e : o = k
        · rw [e]; omega
        · exact h1.2 o a (by omega) c
      · have h1 := ih.2 ⟨h.1, fun o a b c => h.2 o a (by omega) c⟩
        have h2 := h.2 k (by omega) (by omega) q
        omega
theorem lst_b {W : Int → Int} {v need : Int} (hW : ∀ k, 0 ≤ W k ∧ W k ≤ 1980) (n1 : 1 ≤ need) (n9 : need ≤ 999) : ∀ k : Nat, 1 ≤ lst W v need k ∧ lst W v need k ≤ 1981
  | 0 => ⟨n1, by show need ≤ 1981; omega⟩
  | k + 1 => by
    have ih := lst_b (v := v) hW n1 n9 k
    have := hW k
    unfold lst
    split <;> omega
/-- what is missing -/
def msf (mu : jm_M) (f v : Int) : Int := lst (wfor mu f) v (mu.1 6 6) 4 - wfor mu f v
theorem msf_b (hI : Iv mu nu) (f v : Int) : -1980 ≤ msf mu f v ∧ msf mu f v ≤ 1981 := by
  have nd := hI.1.2.2.2.2.1
  have b := lst_b (v := v) (fun k => wfor_b hI f k) nd.1 nd.2.1 4
  have := wfor_b hI f v
  unfold msf
  omega
theorem sX9_missingFor (hC : jm_HC gC) (hI : Iv mu nu) {f v : Int} (a : jm_aC mu m) (hm : ∀ v, 0 ≤ v → v ≤ 3 → m.1 42 v = wfor mu f v) (v0 : 0 ≤ v) (v3 : v ≤ 3) (h : Q (some (jm_i (msf mu f v))) m) : jm_R l gC (d + 1) iX9_missingFor [.ref 41, jm_i v] m Q := by
  have nd := hI.1.2.2.2.2.1
  have wb := fun k => wfor_b hI f k
  have lp : ∀ (j k : Nat), k + j = 4 → jm_V l gC (d + 1) iX9_missingFor 10 [(0, .ref 41), (1, jm_i v), (2, jm_i (lst (wfor mu f) v (mu.1 6 6) k)), (3, jm_i k)] [] m Q := by
    intro j
    induction j with
    | zero =>
      intro k hk
      have e : k = 4 := by omega
      subst e
      refine bX9_missingFor_10 hC ⟨⟨by omega, by omega⟩, fun _ => ⟨⟨v0, by omega⟩, ?_⟩, fun r => by omega⟩
      rw [hm v v0 v3]
      exact h
    | succ j ih =>
      intro k hk
      have nx := ih (k + 1) (by omega)
      have b := lst_b (v := v) wb nd.1 nd.2.1 k
      have w := wb k
      refine bX9_missingFor_10 hC ⟨⟨by omega, by omega⟩, fun r => by omega, fun _ => ⟨⟨by omega, by omega⟩, fun q => ?_, fun q => ⟨⟨by omega, by omega⟩, ⟨by omega, by omega⟩, ?_⟩⟩⟩
      · have e : lst (wfor mu f) v (mu.1 6 6) (k + 1) = lst (wfor mu f) v (mu.1 6 6) k := if_pos q
        rw [e, show ((k + 1 : Nat) : Int) = (k : Int) + 1 by omega] at nx
        exact nx
      · have e : lst (wfor mu f) v (mu.1 6 6) (k + 1) = max (lst (wfor mu f) v (mu.1 6 6) k) (wfor mu f k + 1) := if_neg q
        rw [e, show ((k + 1 : Nat) : Int) = (k : Int) + 1 by omega] at nx
        rw [hm k (by omega) (by omega)]
        refine ⟨⟨by omega, by omega⟩, fun x7 e7 => ?_⟩
        rw [e7]
        exact nx
  refine eX9_missingFor hC (fun x1 e1 => ?_)
  rw [e1, a.1 6 rfl]
  exact lp 4 0 (by decide)
theorem sX12_isFoundWith (hR : jm_HR gR) (hI : Iv mu nu) {f v more : Int} (f0 : 0 ≤ f) (f5 : f ≤ 5) (v0 : 0 ≤ v) (v3 : v ≤ 3) (m0 : 0 ≤ more) (m1 : more ≤ 1000) (y : ∀ n, jm_t 22 23 nu n → msf mu f v ≤ more → Q (some (jm_i 1)) n) (no : ∀ n, jm_t 22 23 nu n → ¬ msf mu f v ≤ more → Q (some (jm_i 0)) n) : jm_R l gR (d + 8) iX12_isFoundWith [.ref 0, jm_i f, jm_i v, jm_i more] nu Q := by
  have fr : jm_rg f := ⟨by omega, by omega⟩
  have vr : jm_rg v := ⟨by omega, by omega⟩
  have wv := wfor_b hI f v
  have nd := hI.1.2.2.2.2.1
  have eqv : msf mu f v ≤ more ↔ mu.1 6 6 ≤ wfor mu f v + more ∧ ∀ o : Int, 0 ≤ o → o < (4 : Nat) → ¬ o = v → wfor mu f o < wfor mu f v + more := by
    have t := lst_le (wfor mu f) v (mu.1 6 6) (wfor mu f v + more) 4
    unfold msf
    refine ⟨fun h => t.1 (by omega), fun h => ?_⟩
    have := t.2 h
    omega
  have lp : ∀ (j k : Nat) (n : jm_M), k + j = 4 → jm_t 22 23 nu n → (∀ o : Int, 0 ≤ o → o < k → ¬ o = v → wfor mu f o < wfor mu f v + more) → jm_V l gR (d + 8) iX12_isFoundWith 13 [(0, .ref 0), (1, jm_i f), (2, jm_i v), (4, jm_i (wfor mu f v + more)), (5, jm_i k)] [] n Q := by
    intro j
    induction j with
    | zero =>
      intro k n hk t hs
      have J : Iv mu n := hI.ext (jm_aC.rf mu) t.aR
      have n10 := J.1.2.2.2.2.1.2.2
      have e : k = 4 := by omega
      subst e
      refine bX12_isFoundWith_13 hR ⟨⟨by omega, by omega⟩, fun _ => ⟨⟨by omega, by omega⟩, ?_⟩, fun r => by omega⟩
      rw [n10]
      refine ⟨⟨by omega, by omega⟩, fun q => no n t (fun r => ?_), fun q => y n t (eqv.2 ⟨by omega, hs⟩)⟩
      have := (eqv.1 r).1
      omega
    | succ j ih =>
      intro k n hk t hs
      have J : Iv mu n := hI.ext (jm_aC.rf mu) t.aR
      refine bX12_isFoundWith_13 hR ⟨⟨by omega, by omega⟩, fun r => by omega, fun _ => ⟨vr, fun q => ?_, fun q => ?_⟩⟩
      · rw [show ((k : Int) + 1) = ((k + 1 : Nat) : Int) by omega]
        exact ih (k + 1) n (by omega) t (fun o a b c => hs o a (by omega) c)
      · have wk := wfor_b hI f k
        refine sX12_weighedFor hR J fr ⟨by omega, by omega⟩ (fun n2 t2 => jm_qiI ⟨by omega, by omega⟩ ⟨⟨by omega, by omega⟩, fun q2 => ?_, fun q2 => no n2 (t.tr t2) (fun r => ?_)⟩)
        · rw [show ((k : Int) + 1) = ((k + 1 : Nat) : Int) by omega]
          refine ih (k + 1) n2 (by omega) (t.tr t2) (fun o a b c => ?_)
          by_cases e : o = k
          · rw [e]; exact q2
          · exact hs o a (by omega) c
        · have := (eqv.1 r).2 k (by omega) (by omega) q
          omega
  refine eX12_isFoundWith hR (sX12_weighedFor hR hI fr vr (fun n t => jm_qiI ⟨by omega, by omega⟩ (fun x5 e5 => ?_)))
  rw [e5]
  exact lp 4 0 n (by decide) t (fun o a b => by omega)
/-- the first value that nothing is missing for -/
def fnR (mu : jm_M) (f : Int) : Nat → Int → Int
  | 0, _ => -1
  | n + 1, v => if msf mu f v ≤ 0 then v else fnR mu f n (v + 1)
theorem fnR_b (mu : jm_M) (f : Int) : ∀ (n : Nat) (v : Int), 0 ≤ v → v + n ≤ 4 → -1 ≤ fnR mu f n v ∧ fnR mu f n v ≤ 4
  | 0, v, _, _ => by show -1 ≤ (-1 : Int) ∧ (-1 : Int) ≤ 4; omega
  | n + 1, v, h0, h1 => by
    have ih := fnR_b mu f n (v + 1) (by omega) (by omega)
    unfold fnR
    split <;> omega
theorem sim_found (hC : jm_HC gC) (hR : jm_HR gR) (hI : Iv mu nu) (h1 : jm_rg v1) : jm_sim l gC gR (d + 9) (d + 9) iX11_found iX12_found [jm_i v1] mu nu := by
  have I0 := hI.t0
  have fi := jm_fin (z := -1) (y := -1) (F := fun n => Iv mu n) ⟨by decide, by decide⟩ rfl I0
  refine eX11_found hC ⟨h1, fun q1 => ?_, fun q1 => ?_⟩
  · have fb := fnR_b mu v1 4 0 (by decide) (by decide)
    have rz : jm_rg (fnR mu v1 4 0) := ⟨by omega, by omega⟩
    refine eX9_finding hC (sX9_weighAll hC hI h1 (fun m a hm => jm_qvI ?_))
    have fin : jm_qi (fun z m => jm_qi (fun z3 m2 => jm_R l gR (d + 9) iX12_found [.ref 0, jm_i v1] nu (jm_qi fun y n => y = z3 ∧ Iv m2 n)) (some (jm_i z)) m) (some (jm_i (fnR mu v1 4 0))) m := by
      refine jm_qiI rz (jm_qiI rz (eX12_found hR (fun n1 e1 => ?_)))
      subst e1
      refine ⟨h1, fun _ => ?_, fun r => by omega⟩
      have lp : ∀ (j k : Nat) (n : jm_M), k + j = 4 → jm_t 22 23 (jm_wr nu 0 0 0) n → fnR mu v1 j k = fnR mu v1 4 0 → jm_V l gR (d + 9) iX12_found 17 [(0, .ref 0), (1, jm_i v1), (2, jm_i k)] [] n (jm_qi fun y n => y = fnR mu v1 4 0 ∧ Iv m n) := by
        intro j
        induction j with
        | zero =>
          intro k n hk t e
          rw [← e]
          exact bX12_found_17 hR ⟨⟨by omega, by omega⟩, fun _ => jm_fin (z := fnR mu v1 0 k) (by show jm_rg (-1); exact ⟨by decide, by decide⟩) rfl (I0.ext a t.aR), fun r => by omega⟩
        | succ j ih =>
          intro k n hk t e
          have J : Iv mu n := I0.ext (jm_aC.rf mu) t.aR
          have e' : (if msf mu v1 k ≤ 0 then (k : Int) else fnR mu v1 j (k + 1)) = fnR mu v1 4 0 := e
          refine bX12_found_17 hR ⟨⟨by omega, by omega⟩, fun r => by omega, fun _ => sX12_isFoundWith hR J q1.1 q1.2 (by omega) (by omega) (by decide) (by decide) (fun n2 t2 q => jm_qiI ⟨by decide, by decide⟩ ⟨fun r => absurd r (by decide), fun _ => ?_⟩) (fun n2 t2 q => jm_qiI ⟨by decide, by decide⟩ ⟨fun _ => ?_, fun r => absurd rfl r⟩)⟩
          · rw [if_pos q] at e'
            exact jm_fin ⟨by omega, by omega⟩ e' (I0.ext a (t.tr t2).aR)
          · rw [if_neg q] at e'
            exact ih (k + 1) n2 (by omega) (t.tr t2) e'
      exact lp 4 0 (jm_wr nu 0 0 0) (by decide) jm_t.rf rfl
    have lp : ∀ (j k : Nat), k + j = 4 → fnR mu v1 j k = fnR mu v1 4 0 → jm_V l gC (d + 8) iX9_finding 7 [(0, .ref 41), (2, jm_i k)] [] m (jm_qi fun z m => jm_qi (fun z3 m2 => jm_R l gR (d + 9) iX12_found [.ref 0, jm_i v1] nu (jm_qi fun y n => y = z3 ∧ Iv m2 n)) (some (jm_i z)) m) := by
      intro j
      induction j with
      | zero =>
        intro k hk e
        rw [← e] at fin
        exact bX9_finding_7 hC ⟨⟨by omega, by omega⟩, fun _ => fin, fun r => by omega⟩
      | succ j ih =>
        intro k hk e
        have e' : (if msf mu v1 k ≤ 0 then (k : Int) else fnR mu v1 j (k + 1)) = fnR mu v1 4 0 := e
        have mb := msf_b hI v1 k
        refine bX9_finding_7 hC ⟨⟨by omega, by omega⟩, fun r => by omega, fun _ => sX9_missingFor hC hI a hm (by omega) (by omega) (jm_qiI ⟨by omega, by omega⟩ ⟨fun q => ?_, fun q => ?_⟩)⟩
        · rw [if_neg (by omega)] at e'
          exact ih (k + 1) (by omega) e'
        · rw [if_pos q] at e'
          rw [← e'] at fin
          exact fin
    exact lp 4 0 (by decide) rfl
  · refine jm_qiI ⟨by decide, by decide⟩ (eX12_found hR (fun n1 e1 => ?_))
    subst e1
    exact ⟨h1, fun r => by omega, fun _ => fi⟩
end FO
