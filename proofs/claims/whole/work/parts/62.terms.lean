section TE
variable {l : Launch} {gC gR : jm_G} {d : Nat} {mu nu : jm_M} {v1 v2 v3 v4 v5 : Int} {Q : Option Value → jm_M → Prop}
def sgN (f : Int → Int) (w : Int) : Nat → Int
  | 0 => 0
  | n + 1 => sgN f w n + (if f ((n : Int) * 7) = w then 1 else 0)
/-- how many testimonies a witness has sung -/
def sby (mu : jm_M) (w : Int) : Int := sgN (mu.1 32) w (mu.1 29 4).toNat
theorem sgN_bd (f : Int → Int) (w : Int) : ∀ n : Nat, 0 ≤ sgN f w n ∧ sgN f w n ≤ n
  | 0 => ⟨Int.le_refl 0, Int.le_refl 0⟩
  | n + 1 => by
    have := sgN_bd f w n
    show 0 ≤ sgN f w n + (if f ((n : Int) * 7) = w then 1 else 0) ∧ sgN f w n + (if f ((n : Int) * 7) = w then 1 else 0) ≤ _
    split <;> omega
theorem lX1_sungBy (hC : jm_HC gC) (h0 : 0 ≤ mu.1 29 4) (h1 : mu.1 29 4 ≤ 20) (r1 : jm_rg v1) (h : Q (some (jm_i (sby mu v1))) mu) (n : Nat) : ∀ k : Nat, (k : Int) + n = mu.1 29 4 → jm_V l gC (d + 2) iX1_sungBy 4 [(0, .ref 29), (1, jm_i v1), (2, jm_i (sgN (mu.1 32) v1 k)), (3, jm_i k)] [] mu Q := by
  induction n with
  | zero =>
    intro k hk
    refine bX1_sungBy_4 hC ⟨⟨by omega, by omega⟩, fun _ => ?_, fun r => by omega⟩
    have e : sby mu v1 = sgN (mu.1 32) v1 k := by unfold sby; rw [show (mu.1 29 4).toNat = k by omega]
    rw [← e]
    exact h
  | succ n ih =>
    intro k hk
    have b := sgN_bd (mu.1 32) v1 k
    refine bX1_sungBy_4 hC ⟨⟨by omega, by omega⟩, fun r => by omega, fun _ => ⟨⟨by omega, by omega⟩, r1, fun r => ?_, fun r => ?_⟩⟩
    · rw [Int.add_zero] at r
      have := ih (k + 1) (by omega)
      have e : sgN (mu.1 32) v1 (k + 1) = sgN (mu.1 32) v1 k := by
        show sgN (mu.1 32) v1 k + (if (mu.1 32) ((k : Int) * 7) = v1 then 1 else 0) = _
        rw [if_neg r]; omega
      rw [e] at this
      exact this
    · rw [Int.add_zero] at r
      have := ih (k + 1) (by omega)
      have e : sgN (mu.1 32) v1 (k + 1) = sgN (mu.1 32) v1 k + 1 := by
        show sgN (mu.1 32) v1 k + (if (mu.1 32) ((k : Int) * 7) = v1 then 1 else 0) = _
        rw [if_pos r]
      rw [e] at this
      exact this
theorem sX1_sungBy (hC : jm_HC gC) (h0 : 0 ≤ mu.1 29 4) (h1 : mu.1 29 4 ≤ 20) (r1 : jm_rg v1) (h : Q (some (jm_i (sby mu v1))) mu) : jm_R l gC (d + 2) iX1_sungBy [.ref 29, jm_i v1] mu Q := eX1_sungBy hC (lX1_sungBy hC h0 h1 r1 h (mu.1 29 4).toNat 0 (by omega))
theorem lX12_sungBy (hR : jm_HR gR) (hK : IC mu nu) (r1 : jm_rg v1) (h : Q (some (jm_i (sby mu v1))) nu) (n : Nat) : ∀ k : Nat, (k : Int) + n = mu.1 29 4 → jm_V l gR (d + 2) iX12_sungBy 4 [(0, .ref 0), (1, jm_i v1), (2, jm_i (sgN (mu.1 32) v1 k)), (3, jm_i k)] [] nu Q := by
  obtain ⟨-, -, -, -, ⟨h0, h1, e4⟩, -, -, -, ht, -⟩ := hK
  induction n with
  | zero =>
    intro k hk
    refine bX12_sungBy_4 hR ⟨⟨by omega, by omega⟩, fun _ => ?_, fun r => by omega⟩
    have e : sby mu v1 = sgN (mu.1 32) v1 k := by unfold sby; rw [show (mu.1 29 4).toNat = k by omega]
    rw [← e]
    exact h
  | succ n ih =>
    intro k hk
    have b := sgN_bd (mu.1 32) v1 k
    have t : nu.1 24 (6 * (k : Int) + 0) = mu.1 32 ((k : Int) * 7 + 0) := ht k 0 (by omega) (by omega) (by omega) (by omega)
    rw [Int.add_zero, Int.add_zero] at t
    refine bX12_sungBy_4 hR ⟨⟨by omega, by omega⟩, fun r => by omega, fun _ => ⟨⟨by omega, by omega⟩, r1, fun r => ?_, fun r x4 x4e => ?_⟩⟩
    · rw [Int.add_zero, t] at r
      have := ih (k + 1) (by omega)
      have e : sgN (mu.1 32) v1 (k + 1) = sgN (mu.1 32) v1 k := by
        show sgN (mu.1 32) v1 k + (if (mu.1 32) ((k : Int) * 7) = v1 then 1 else 0) = _
        rw [if_neg r]; omega
      rw [e] at this
      exact this
    · rw [Int.add_zero, t] at r
      subst x4e
      have := ih (k + 1) (by omega)
      have e : sgN (mu.1 32) v1 (k + 1) = sgN (mu.1 32) v1 k + 1 := by
        show sgN (mu.1 32) v1 k + (if (mu.1 32) ((k : Int) * 7) = v1 then 1 else 0) = _
        rw [if_pos r]
      rw [e] at this
      exact this
theorem sX12_sungBy (hR : jm_HR gR) (hK : IC mu nu) (r1 : jm_rg v1) (h : Q (some (jm_i (sby mu v1))) nu) : jm_R l gR (d + 2) iX12_sungBy [.ref 0, jm_i v1] nu Q := by
  have := hK.2.2.2.2.1
  exact eX12_sungBy hR (lX12_sungBy hR hK r1 h (mu.1 29 4).toNat 0 (by omega))
/-- the law's terms -/
def TT (mu : jm_M) (w f v b nt rm sl : Int) : Int → Int := fun i => if i = 0 then mu.1 30 w else if i = 1 then mu.1 31 w else if i = 2 then mu.1 9 w else if i = 3 then b else if i = 4 then nt else if i = 5 then rm else if i = 6 then f else if i = 7 then v else if i = 8 then mu.1 29 1 else if i = 9 then sby mu w else if i = 10 then sl else 0
theorem jm_11 {j : Int} (h0 : 0 ≤ j) (h1 : j ≤ 10) : j = 0 ∨ j = 1 ∨ j = 2 ∨ j = 3 ∨ j = 4 ∨ j = 5 ∨ j = 6 ∨ j = 7 ∨ j = 8 ∨ j = 9 ∨ j = 10 := by omega
theorem sX0_setTerms (hC : jm_HC gC) (w0 : 0 ≤ v1) (w1 : v1 < 8) (h0 : 0 ≤ mu.1 29 4) (h1 : mu.1 29 4 ≤ 20) (m0 : 0 ≤ v2) (m1 : v2 < 24) (h : ∀ m, jm_o 36 mu m → (∀ j, 0 ≤ j → j ≤ 10 → m.1 36 j = TT mu v1 (v2 / 4) (v2 % 4) 0 0 0 0 j) → Q none m) : jm_R l gC (d + 3) iX0_setTerms [.ref 35, jm_i v1, jm_i v2] mu Q := by
  have t1 : v2.tdiv 4 = v2 / 4 := Int.tdiv_eq_ediv_of_nonneg m0
  have t2 : v2.tmod 4 = v2 % 4 := Int.tmod_eq_emod_of_nonneg m0
  refine eX0_setTerms hC ⟨⟨w0, w1⟩, fun m2 e2 m4 e4 m6 e6 m8 e8 m10 e10 m12 e12 => ?_⟩
  rw [t1, t2]
  refine ⟨⟨by omega, by omega⟩, ⟨by omega, by omega⟩, fun m16 e16 => ⟨⟨by omega, by omega⟩, fun m19 e19 m21 e21 => ?_⟩⟩
  have o21 : jm_o 36 mu m21 := by
    subst e2 e4 e6 e8 e10 e12 e16 e19 e21
    exact jm_o.rf.wr.wr.wr.wr.wr.wr.wr.wr.wr
  have s21 : sby m21 v1 = sby mu v1 := by
    unfold sby
    rw [o21 32 (by decide), o21 29 (by decide)]
  have sb := sgN_bd (mu.1 32) v1 (mu.1 29 4).toNat
  refine sX1_sungBy hC (by rw [o21 29 (by decide)]; exact h0) (by rw [o21 29 (by decide)]; exact h1) ⟨by omega, by omega⟩ (jm_qiI (by rw [s21]; unfold sby; exact ⟨by omega, by omega⟩) (fun m27 e27 m29 e29 => ?_))
  subst e27
  subst e29
  refine h _ o21.wr.wr (fun j j0 j1 => ?_)
  rw [s21]
  subst e2 e4 e6 e8 e10 e12 e16 e19 e21
  rcases jm_11 j0 j1 with rfl | rfl | rfl | rfl | rfl | rfl | rfl | rfl | rfl | rfl | rfl <;> simp [jm_wr, TT]
theorem sX12_asks (hR : jm_HR gR) (hA : IA mu nu) (hK : IC mu nu) (w0 : 0 ≤ v1) (w1 : v1 < mu.1 6 0) (r2 : jm_rg v2) (r3 : jm_rg v3) (r4 : jm_rg v4) (h : ∀ m, jm_o 22 nu m → (∀ j, 0 ≤ j → j ≤ 10 → m.1 22 j = TT mu v1 v2 v3 0 0 0 v4 j) → Q none m) : jm_R l gR (d + 3) iX12_asks [.ref 0, jm_i v1, jm_i v2, jm_i v3, jm_i v4] nu Q := by
  have w8 := hA.1.2.1
  have aw := hA.2.1 v1 w0 w1
  have kw := hK.2.2.2.2.2.2.1 v1 w0 w1
  have kd := hK.1
  obtain ⟨n1, n2, n3, n4, n5, n6⟩ := kw
  have e6 : nu.1 1 (6 + v1) + 50 = mu.1 30 v1 := by
    have : nu.1 1 (6 + v1) = mu.1 30 v1 - 50 := n3
    omega
  have e14 : nu.1 1 (14 + v1) = mu.1 31 v1 := n6
  have n1' : 0 ≤ mu.1 30 v1 := n1
  have n2' : mu.1 30 v1 ≤ 99 := n2
  refine eX12_asks hR ⟨⟨by omega, by omega⟩, ⟨by omega, by omega⟩, fun m3 e3 => ⟨⟨by omega, by omega⟩, fun m6 e6' => ⟨⟨w0, by omega⟩, fun m9 e9 m11 e11 m13 e13 m15 e15 => ⟨r2, fun m18 e18 => ⟨r3, fun m21 e21 m23 e23 => ?_⟩⟩⟩⟩⟩
  have o23 : jm_o 22 nu m23 := by
    subst e3 e6' e9 e11 e13 e15 e18 e21 e23
    exact jm_o.rf.wr.wr.wr.wr.wr.wr.wr.wr.wr
  have hK2 : IC mu m23 := hK.ext (jm_aC.rf mu) (o23.aR rfl (by decide))
  have sb := sgN_bd (mu.1 32) v1 (mu.1 29 4).toNat
  have n20 := hK.2.2.2.2.1
  refine sX12_sungBy hR hK2 ⟨by omega, by omega⟩ (jm_qiI (by unfold sby; exact ⟨by omega, by omega⟩) (fun m29 e29 => ⟨r4, fun m32 e32 => ?_⟩))
  subst e29
  subst e32
  refine h _ o23.wr.wr (fun j j0 j1 => ?_)
  have kd3 : nu.1 1 0 = mu.1 29 1 := kd.2.2
  have a9 : nu.1 5 v1 = mu.1 9 v1 := aw.2.2.2.2.2.2.2
  subst e3 e6' e9 e11 e13 e15 e18 e21 e23
  rcases jm_11 j0 j1 with rfl | rfl | rfl | rfl | rfl | rfl | rfl | rfl | rfl | rfl | rfl <;> simp [jm_wr, TT, e6, e14, kd3, a9]
/-- all but two cells as they were -/
def jm_t (a b : Nat) (m n : jm_M) : Prop := ∀ k, k ≠ a → k ≠ b → n.1 k = m.1 k
theorem jm_t.of {a b : Nat} {m n p : jm_M} (h : jm_o a m n) (k : jm_o b n p) : jm_t a b m p := fun x xa xb => (k x xb).trans (h x xa)
theorem jm_t.rf {a b : Nat} {m : jm_M} : jm_t a b m m := fun _ _ _ => rfl
theorem jm_t.tr {a b : Nat} {m n p : jm_M} (h : jm_t a b m n) (k : jm_t a b n p) : jm_t a b m p := fun x xa xb => (k x xa xb).trans (h x xa xb)
theorem jm_t.aC {m n : jm_M} (h : jm_t 36 21 m n) : jm_aC m n := ⟨fun k hk => h k (fun e => by rw [e] at hk; cases hk) (fun e => by rw [e] at hk; cases hk), fun k i hk => by rw [h k (fun e => by rw [e] at hk; cases hk) (fun e => by rw [e] at hk; cases hk)]⟩
theorem jm_t.aR {m n : jm_M} (h : jm_t 22 23 m n) : jm_aR m n := ⟨fun k hk => h k (fun e => by rw [e] at hk; cases hk) (fun e => by rw [e] at hk; cases hk), fun i _ => by rw [h 0 (by decide) (by decide)]⟩
theorem lwA.ext {p : Int → Int} (h : lwA mu nu p) {m n : jm_M} (a : jm_aC mu m) (b : jm_aR nu n) : lwA m n p := by
  unfold lwA at h ⊢
  rw [a.1 15 rfl, a.1 16 rfl, a.1 17 rfl, a.1 18 rfl, a.1 19 rfl, a.1 20 rfl, b.1 9 rfl, b.1 10 rfl, b.1 11 rfl, b.1 12 rfl, b.1 13 rfl, b.1 14 rfl, b.1 15 rfl]
  exact h
theorem TT_rg (hA : IA mu nu) (hK : IC mu nu) {w f v b nt rm sl : Int} (w0 : 0 ≤ w) (w1 : w < mu.1 6 0) (r1 : jm_rg f) (r2 : jm_rg v) (r3 : jm_rg b) (r4 : jm_rg nt) (r5 : jm_rg rm) (r6 : jm_rg sl) (i : Int) : jm_rg (TT mu w f v b nt rm sl i) := by
  have aw := hA.2.1 w w0 w1
  obtain ⟨n1, n2, n3, n4, n5, n6⟩ := hK.2.2.2.2.2.2.1 w w0 w1
  have n1' : 0 ≤ mu.1 30 w := n1
  have n2' : mu.1 30 w ≤ 99 := n2
  have n4' : 0 ≤ mu.1 31 w := n4
  have n5' : mu.1 31 w ≤ 1 := n5
  have kd := hK.1
  have sb := sgN_bd (mu.1 32) w (mu.1 29 4).toNat
  have n20 := hK.2.2.2.2.1
  unfold TT
  split
  · exact ⟨by omega, by omega⟩
  split
  · exact ⟨by omega, by omega⟩
  split
  · exact ⟨by omega, by omega⟩
  split
  · exact r3
  split
  · exact r4
  split
  · exact r5
  split
  · exact r1
  split
  · exact r2
  split
  · exact ⟨by omega, by omega⟩
  split
  · unfold sby; exact ⟨by omega, by omega⟩
  split
  · exact r6
  · exact ⟨by decide, by decide⟩
/-- how likely a slip, a shake, a weight -/
def slp (mu : jm_M) (w f v b nt : Int) : Int := max 0 (min 1000 (tld mu (TT mu w f v b nt (mu.1 8 w - nt) 0) 0 (99 - mu.1 30 w)))
def shk (mu : jm_M) (w f v : Int) : Int := max 0 (min 99 (tld mu (TT mu w f v 0 0 0 0) 1 5))
def wg0 (mu : jm_M) (w f v s : Int) : Int := max 0 (min 99 (tld mu (TT mu w f v 0 0 0 s) 2 (4 - s)))
def wgt (mu : jm_M) (w f v s : Int) : Int := if mu.1 31 w = 1 then wg0 mu w f v s / 2 else wg0 mu w f v s
theorem jm_lawC {m : jm_M} (a : jm_aC mu m) (T : Int → Int) (w o : Int) : tld m T w o = tld mu T w o := tld_m (fun c c0 c1 => a.1 c (by unfold jm_cC; simp; omega)) T w o
theorem sX0_shakeOf (hC : jm_HC gC) (hA : IA mu nu) (hL : IL mu nu) (hK : IC mu nu) (w0 : 0 ≤ v1) (w1 : v1 < mu.1 6 0) (m0 : 0 ≤ v2) (m1 : v2 < 24) (h : ∀ m, jm_t 36 21 mu m → Q (some (jm_i (shk mu v1 (v2 / 4) (v2 % 4)))) m) : jm_R l gC (d + 5) iX0_shakeOf [.ref 35, jm_i v1, jm_i v2] mu Q := by
  obtain ⟨p, hp⟩ := hL.lw
  have w8 := hA.1.2.1
  have n20 := hK.2.2.2.2.1
  refine eX0_shakeOf hC (sX0_setTerms hC w0 (by omega) n20.1 n20.2.1 m0 m1 (fun m o hT => jm_qvI (jm_RmrI (fun hm => ?_))))
  have aC : jm_aC mu m := o.aC rfl (fun _ => rfl)
  have hp2 := hp.ext aC (jm_aR.rf nu)
  have rg := tld_rg hp2 (fun i => hm 36 i) (w := 1) (o := 5) ⟨by decide, by decide⟩
  refine sX3_tell hC hp2 (fun i => hm 36 i) ⟨by decide, by decide⟩ (fun m3 o3 => jm_qiI rg ?_)
  have e : tld m (m.1 36) 1 5 = tld mu (TT mu v1 (v2 / 4) (v2 % 4) 0 0 0 0) 1 5 := by
    rw [jm_lawC aC, tld_T hp hT]
  rw [e]
  exact h m3 (jm_t.of o o3)
theorem sX0_slipOf (hC : jm_HC gC) (hA : IA mu nu) (hL : IL mu nu) (hK : IC mu nu) (w0 : 0 ≤ v1) (w1 : v1 < mu.1 6 0) (m0 : 0 ≤ v2) (m1 : v2 < 24) (r3 : jm_rg v3) (r4 : -1000 ≤ v4 ∧ v4 ≤ 1000) (h : ∀ m, jm_t 36 21 mu m → Q (some (jm_i (slp mu v1 (v2 / 4) (v2 % 4) v3 v4))) m) : jm_R l gC (d + 5) iX0_slipOf [.ref 35, jm_i v1, jm_i v2, jm_i v3, jm_i v4] mu Q := by
  obtain ⟨p, hp⟩ := hL.lw
  have w8 := hA.1.2.1
  have aw := hA.2.1 v1 w0 w1
  have n20 := hK.2.2.2.2.1
  refine eX0_slipOf hC (sX0_setTerms hC w0 (by omega) n20.1 n20.2.1 m0 m1 (fun m o hT => jm_qvI ⟨r3, fun m6 e6 => ⟨⟨by omega, by omega⟩, fun m9 e9 => ⟨⟨w0, by omega⟩, ?_⟩⟩⟩))
  have o9 : jm_o 36 mu m9 := by
    subst e6 e9
    exact o.wr.wr
  have e8 : m9.1 8 v1 = mu.1 8 v1 := by rw [o9 8 (by decide)]
  rw [e8]
  refine ⟨⟨by omega, by omega⟩, fun m13 e13 => jm_RmrI (fun hm => ?_)⟩
  have o13 : jm_o 36 mu m13 := by
    subst e13
    exact o9.wr
  have aC : jm_aC mu m13 := o13.aC rfl (fun _ => rfl)
  have hp2 := hp.ext aC (jm_aR.rf nu)
  have hT2 : ∀ j, 0 ≤ j → j ≤ 10 → m13.1 36 j = TT mu v1 (v2 / 4) (v2 % 4) v3 v4 (mu.1 8 v1 - v4) 0 j := by
    intro j j0 j1
    have t := hT j j0 j1
    subst e6 e9 e13
    rcases jm_11 j0 j1 with rfl | rfl | rfl | rfl | rfl | rfl | rfl | rfl | rfl | rfl | rfl <;> simp [jm_wr, TT] at t ⊢ <;> exact t
  have t0 : m13.1 36 0 = mu.1 30 v1 := hT2 0 (by decide) (by decide)
  rw [t0]
  have kw := hK.2.2.2.2.2.2.1 v1 w0 w1
  have n1' : 0 ≤ mu.1 30 v1 := kw.1
  have n2' : mu.1 30 v1 ≤ 99 := kw.2.1
  have rg := tld_rg hp2 (fun i => hm 36 i) (w := 0) (o := 99 - mu.1 30 v1) ⟨by omega, by omega⟩
  refine sX3_tell hC hp2 (fun i => hm 36 i) ⟨by decide, by decide⟩ (fun m3 o3 => jm_qiI rg ?_)
  have e : tld m13 (m13.1 36) 0 (99 - mu.1 30 v1) = tld mu (TT mu v1 (v2 / 4) (v2 % 4) v3 v4 (mu.1 8 v1 - v4) 0) 0 (99 - mu.1 30 v1) := by
    rw [jm_lawC aC, tld_T hp hT2]
  rw [e]
  exact h m3 (jm_t.of o13 o3)
theorem sX0_weightOf (hC : jm_HC gC) (hA : IA mu nu) (hL : IL mu nu) (hK : IC mu nu) (w0 : 0 ≤ v1) (w1 : v1 < mu.1 6 0) (m0 : 0 ≤ v2) (m1 : v2 < 24) (r3 : 0 ≤ v3 ∧ v3 ≤ 1000) (h : ∀ m, jm_t 36 21 mu m → Q (some (jm_i (wgt mu v1 (v2 / 4) (v2 % 4) v3))) m) : jm_R l gC (d + 5) iX0_weightOf [.ref 35, jm_i v1, jm_i v2, jm_i v3] mu Q := by
  obtain ⟨p, hp⟩ := hL.lw
  have w8 := hA.1.2.1
  have n20 := hK.2.2.2.2.1
  refine eX0_weightOf hC (sX0_setTerms hC w0 (by omega) n20.1 n20.2.1 m0 m1 (fun m o hT => jm_qvI ⟨⟨by omega, by omega⟩, fun m6 e6 => jm_RmrI (fun hm => ?_)⟩))
  have o6 : jm_o 36 mu m6 := by
    subst e6
    exact o.wr
  have aC : jm_aC mu m6 := o6.aC rfl (fun _ => rfl)
  have hp2 := hp.ext aC (jm_aR.rf nu)
  have hT2 : ∀ j, 0 ≤ j → j ≤ 10 → m6.1 36 j = TT mu v1 (v2 / 4) (v2 % 4) 0 0 0 v3 j := by
    intro j j0 j1
    have t := hT j j0 j1
    subst e6
    rcases jm_11 j0 j1 with rfl | rfl | rfl | rfl | rfl | rfl | rfl | rfl | rfl | rfl | rfl <;> simp [jm_wr, TT] at t ⊢ <;> exact t
  have rg := tld_rg hp2 (fun i => hm 36 i) (w := 2) (o := 4 - v3) ⟨by omega, by omega⟩
  refine sX3_tell hC hp2 (fun i => hm 36 i) ⟨by decide, by decide⟩ (fun m3 o3 => jm_qiI rg (fun x12 e12 => ?_))
  have e : tld m6 (m6.1 36) 2 (4 - v3) = tld mu (TT mu v1 (v2 / 4) (v2 % 4) 0 0 0 v3) 2 (4 - v3) := by
    rw [jm_lawC aC, tld_T hp hT2]
  rw [e] at e12
  have e13 : x12 = wg0 mu v1 (v2 / 4) (v2 % 4) v3 := e12
  have t := jm_t.of o6 o3
  have h31 : m3.1 31 v1 = mu.1 31 v1 := by rw [t 31 (by decide) (by decide)]
  have hh := h m3 t
  rw [h31]
  unfold wgt at hh
  refine ⟨⟨w0, by omega⟩, fun q => ?_, fun q => ⟨⟨by omega, by omega⟩, ?_⟩⟩
  · rw [if_neg q] at hh
    rw [e13]
    exact hh
  · rw [if_pos q] at hh
    rw [e13, Int.tdiv_eq_ediv_of_nonneg (by rw [← e13]; omega)]
    exact hh
/-! the reference's -/
theorem sX12_shakeOf (hR : jm_HR gR) (hA : IA mu nu) (hL : IL mu nu) (hK : IC mu nu) (w0 : 0 ≤ v1) (w1 : v1 < mu.1 6 0) (r2 : jm_rg v2) (r3 : jm_rg v3) (h : ∀ m, jm_t 22 23 nu m → Q (some (jm_i (shk mu v1 v2 v3))) m) : jm_R l gR (d + 6) iX12_shakeOf [.ref 0, jm_i v1, jm_i v2, jm_i v3] nu Q := by
  obtain ⟨p, hp⟩ := hL.lw
  refine eX12_shakeOf hR (sX12_asks hR hA hK w0 w1 r2 r3 ⟨by decide, by decide⟩ (fun m o hT => jm_qvI ?_))
  have aR : jm_aR nu m := o.aR rfl (by decide)
  have rT := TT_rg hA hK w0 w1 r2 r3 ⟨by decide, by decide⟩ ⟨by decide, by decide⟩ ⟨by decide, by decide⟩ ⟨by decide, by decide⟩ (b := 0) (nt := 0) (rm := 0) (sl := 0)
  refine sX12_lawTells hR (hp.ext (jm_aC.rf mu) aR) rT hT ⟨by decide, by decide⟩ ⟨by decide, by decide⟩ (by decide) (fun m3 o3 => jm_qiI ⟨by omega, by omega⟩ ?_)
  exact h m3 (jm_t.of o o3)
theorem sX12_slipOf (hR : jm_HR gR) (hA : IA mu nu) (hL : IL mu nu) (hK : IC mu nu) (w0 : 0 ≤ v1) (w1 : v1 < mu.1 6 0) (r2 : jm_rg v2) (r3 : jm_rg v3) (r4 : jm_rg v4) (r5 : -1000 ≤ v5 ∧ v5 ≤ 1000) (h : ∀ m, jm_t 22 23 nu m → Q (some (jm_i (slp mu v1 v2 v3 v4 v5))) m) : jm_R l gR (d + 6) iX12_slipOf [.ref 0, jm_i v1, jm_i v2, jm_i v3, jm_i v4, jm_i v5] nu Q := by
  obtain ⟨p, hp⟩ := hL.lw
  have w8 := hA.1.2.1
  have aw := hA.2.1 v1 w0 w1
  refine eX12_slipOf hR (sX12_asks hR hA hK w0 w1 r2 r3 ⟨by decide, by decide⟩ (fun m o hT => jm_qvI ⟨r4, fun m6 e6 => ⟨⟨by omega, by omega⟩, fun m9 e9 => ⟨⟨w0, by omega⟩, ?_⟩⟩⟩))
  have o9 : jm_o 22 nu m9 := by
    subst e6 e9
    exact o.wr.wr
  have e8 : m9.1 4 v1 = mu.1 8 v1 := by
    rw [o9 4 (by decide)]
    exact aw.2.2.2.2.2.2.1
  rw [e8]
  refine ⟨⟨by omega, by omega⟩, fun m13 e13 => ?_⟩
  have o13 : jm_o 22 nu m13 := by
    subst e13
    exact o9.wr
  have aR : jm_aR nu m13 := o13.aR rfl (by decide)
  have hT2 : ∀ j, 0 ≤ j → j ≤ 10 → m13.1 22 j = TT mu v1 v2 v3 v4 v5 (mu.1 8 v1 - v5) 0 j := by
    intro j j0 j1
    have t := hT j j0 j1
    subst e6 e9 e13
    rcases jm_11 j0 j1 with rfl | rfl | rfl | rfl | rfl | rfl | rfl | rfl | rfl | rfl | rfl <;> simp [jm_wr, TT] at t ⊢ <;> exact t
  have t0 : m13.1 22 0 = mu.1 30 v1 := hT2 0 (by decide) (by decide)
  rw [t0]
  have kw := hK.2.2.2.2.2.2.1 v1 w0 w1
  have n1' : 0 ≤ mu.1 30 v1 := kw.1
  have n2' : mu.1 30 v1 ≤ 99 := kw.2.1
  have rT := TT_rg hA hK w0 w1 r2 r3 r4 (nt := v5) ⟨by omega, by omega⟩ (rm := mu.1 8 v1 - v5) ⟨by omega, by omega⟩ (sl := 0) ⟨by decide, by decide⟩
  refine sX12_lawTells hR (hp.ext (jm_aC.rf mu) aR) rT hT2 ⟨by decide, by decide⟩ ⟨by omega, by omega⟩ (by decide) (fun m3 o3 => jm_qiI ⟨by omega, by omega⟩ ?_)
  exact h m3 (jm_t.of o13 o3)
theorem sX12_weighOf (hR : jm_HR gR) (hA : IA mu nu) (hL : IL mu nu) (hK : IC mu nu) (w0 : 0 ≤ v1) (w1 : v1 < mu.1 6 0) (r2 : jm_rg v2) (r3 : jm_rg v3) (r4 : 0 ≤ v4 ∧ v4 ≤ 1000) (h : ∀ m, jm_t 22 23 nu m → Q (some (jm_i (wgt mu v1 v2 v3 v4))) m) : jm_R l gR (d + 6) iX12_weighOf [.ref 0, jm_i v1, jm_i v2, jm_i v3, jm_i v4] nu Q := by
  obtain ⟨p, hp⟩ := hL.lw
  have w8 := hA.1.2.1
  refine eX12_weighOf hR (sX12_asks hR hA hK w0 w1 r2 r3 ⟨by omega, by omega⟩ (fun m o hT => jm_qvI ?_))
  have aR : jm_aR nu m := o.aR rfl (by decide)
  have rT := TT_rg hA hK w0 w1 r2 r3 (b := 0) ⟨by decide, by decide⟩ (nt := 0) ⟨by decide, by decide⟩ (rm := 0) ⟨by decide, by decide⟩ (sl := v4) ⟨by omega, by omega⟩
  refine sX12_lawTells hR (hp.ext (jm_aC.rf mu) aR) rT hT ⟨by decide, by decide⟩ ⟨by omega, by omega⟩ (by decide) (fun m3 o3 => jm_qiI ⟨by omega, by omega⟩ ?_)
  have t := jm_t.of o o3
  have hh := h m3 t
  have h31 : m3.1 1 (14 + v1) = mu.1 31 v1 := by
    rw [t 1 (by decide) (by decide)]
    exact (hK.2.2.2.2.2.2.1 v1 w0 w1).2.2.2.2.2
  rw [h31]
  unfold wgt at hh
  refine ⟨⟨by omega, by omega⟩, fun q => ?_, fun q => ?_⟩
  · rw [if_neg q] at hh
    exact hh
  · rw [if_pos q] at hh
    rw [Int.tdiv_eq_ediv_of_nonneg (by omega)]
    exact hh
end TE
