section FA
variable {l : Launch} {gC gR : jm_G} {d : Nat} {mu nu m n : jm_M} {v1 v2 v3 v4 v5 : Int} {Q : Option Value → jm_M → Prop}
theorem TT_e (a : jm_aC mu m) (w f v b nt rm sl : Int) : TT m w f v b nt rm sl = TT mu w f v b nt rm sl := by
  unfold TT sby
  rw [a.1 30 rfl, a.1 31 rfl, a.1 9 rfl, a.1 29 rfl, a.1 32 rfl]
theorem slp_e (a : jm_aC mu m) (w f v b nt : Int) : slp m w f v b nt = slp mu w f v b nt := by
  unfold slp
  rw [jm_lawC a, TT_e a, a.1 8 rfl, a.1 30 rfl]
theorem wgt_e (a : jm_aC mu m) (w f v s : Int) : wgt m w f v s = wgt mu w f v s := by
  unfold wgt wg0
  rw [jm_lawC a, TT_e a, a.1 31 rfl]
/-- the chances, behind a note that slips with s in 1000 -/
def chS (s : Int) (c : Int → Int) : Int → Int := fun k => c k * (1000 - s) / 1000 + (if k = 0 then 0 else c (k - 1) * s / 1000)
def chN (sl : Nat → Int) : Nat → Int → Int
  | 0 => fun k => if k = 0 then 1000000 else 0
  | n + 1 => chS (sl n) (chN sl n)
theorem ch_b {a s : Int} (a0 : 0 ≤ a) (a1 : a ≤ 1000000) (s0 : 0 ≤ s) (s1 : s ≤ 1000) : 0 ≤ a * s ∧ a * s ≤ 1000000 * s := ⟨Int.mul_nonneg a0 s0, Int.mul_le_mul_of_nonneg_right a1 s0⟩
theorem chS_b {s : Int} {c : Int → Int} (s0 : 0 ≤ s) (s1 : s ≤ 1000) (hc : ∀ k, 0 ≤ k → 0 ≤ c k ∧ c k ≤ 1000000) (k : Int) (k0 : 0 ≤ k) : 0 ≤ chS s c k ∧ chS s c k ≤ 1000000 := by
  unfold chS
  have p1 := ch_b (hc k k0).1 (hc k k0).2 (s := 1000 - s) (by omega) (by omega)
  split
  · omega
  · have p2 := ch_b (hc (k - 1) (by omega)).1 (hc (k - 1) (by omega)).2 s0 s1
    omega
theorem chN_b {sl : Nat → Int} (h : ∀ i, 0 ≤ sl i ∧ sl i ≤ 1000) : ∀ (n : Nat) (k : Int), 0 ≤ k → 0 ≤ chN sl n k ∧ chN sl n k ≤ 1000000
  | 0, k, _ => by unfold chN; split <;> omega
  | n + 1, k, k0 => chS_b (h n).1 (h n).2 (chN_b h n) k k0
theorem chN_0 {sl : Nat → Int} : ∀ (n : Nat) (k : Int), (n : Int) < k → chN sl n k = 0
  | 0, k, hk => by unfold chN; rw [if_neg (by omega)]
  | n + 1, k, hk => by
    show chS (sl n) (chN sl n) k = 0
    unfold chS
    rw [chN_0 n k (by omega), chN_0 n (k - 1) (by omega), if_neg (by omega)]
    omega
theorem lX10_addChance (hC : jm_HC gC) {s : Int} {c : Int → Int} (s0 : 0 ≤ s) (s1 : s ≤ 1000) (hc : ∀ k, 0 ≤ k → 0 ≤ c k ∧ c k ≤ 1000000) (h : ∀ m', jm_o 39 mu m' → (∀ k, 0 ≤ k → k ≤ 9 → m'.1 39 k = chS s c k) → Q none m') (j : Nat) : ∀ (m : jm_M), j ≤ 9 → jm_o 39 mu m → (∀ k : Int, 0 ≤ k → k ≤ j → m.1 39 k = c k) → (∀ k, (j : Int) < k → k ≤ 9 → m.1 39 k = chS s c k) → jm_V l gC (d + 1) iX10_addChance 3 [(0, .ref 38), (1, jm_i s), (2, jm_i j)] [] m Q := by
  induction j with
  | zero =>
    intro m j9 o lo hi
    have e0 := lo 0 (by decide) (by decide)
    have b0 := hc 0 (by decide)
    have p1 := ch_b b0.1 b0.2 (s := 1000 - s) (by omega) (by omega)
    refine bX10_addChance_3 hC ⟨⟨by omega, by omega⟩, fun _ => ?_, fun q => absurd q (by decide)⟩
    rw [e0, Int.tdiv_eq_ediv_of_nonneg p1.1]
    refine ⟨⟨by omega, by omega⟩, ⟨by omega, by omega⟩, fun m4 e4 => h m4 (by rw [e4]; exact o.wr) (fun k k0 k9 => ?_)⟩
    rw [e4]
    by_cases q : k = 0
    · subst q
      rw [jm_wrS]
      unfold chS
      rw [if_pos rfl, Int.add_zero]
    · rw [jm_wrI q]
      exact hi k (by omega) k9
  | succ j ih =>
    intro m j9 o lo hi
    have e1 := lo ((j + 1 : Nat) : Int) (by omega) (by omega)
    have e0 := lo (((j + 1 : Nat) : Int) - 1) (by omega) (by omega)
    have b1 := hc ((j + 1 : Nat) : Int) (by omega)
    have b0 := hc (((j + 1 : Nat) : Int) - 1) (by omega)
    have p1 := ch_b b1.1 b1.2 (s := 1000 - s) (by omega) (by omega)
    have p0 := ch_b b0.1 b0.2 s0 s1
    refine bX10_addChance_3 hC ⟨⟨by omega, by omega⟩, fun q => by omega, fun _ => ?_⟩
    rw [e1, e0, Int.tdiv_eq_ediv_of_nonneg p1.1, Int.tdiv_eq_ediv_of_nonneg p0.1]
    refine ⟨⟨by omega, by omega⟩, ⟨by omega, by omega⟩, ⟨by omega, by omega⟩, ⟨by omega, by omega⟩, ⟨by omega, by omega⟩, fun m11 e11 => ?_⟩
    rw [show ((j + 1 : Nat) : Int) + -1 = (j : Int) by omega]
    refine ih m11 (by omega) (by rw [e11]; exact o.wr) (fun k k0 k1 => ?_) (fun k k0 k9 => ?_)
    · rw [e11, jm_wrI (by omega)]
      exact lo k k0 (by omega)
    · rw [e11]
      by_cases q : k = ((j + 1 : Nat) : Int)
      · subst q
        rw [jm_wrS]
        unfold chS
        rw [if_neg (by omega)]
      · rw [jm_wrI q]
        exact hi k (by omega) k9
/-- how likely each note slips -/
def slq (mu : jm_M) (w f v key : Int) (wh : Int) : Nat → Int := fun i => slp mu w f v i (key + 1 + abN (stf mu wh) i)
theorem slq_b (mu : jm_M) (w f v key wh : Int) (i : Nat) : 0 ≤ slq mu w f v key wh i ∧ slq mu w f v key wh i ≤ 1000 := by unfold slq slp; omega
theorem chsum {f : Int → Int} (h : ∀ k, 0 ≤ k → 0 ≤ f k ∧ f k ≤ 1000000) : ∀ n : Nat, 0 ≤ abN f n ∧ abN f n ≤ 1000000 * n
  | 0 => ⟨Int.le_refl 0, Int.le_refl 0⟩
  | n + 1 => by
    have ih := chsum h n
    have t := h n (by omega)
    rw [← abN_st]
    omega
theorem lX10_lw3 (hC : jm_HC gC) {e : Nat} (e9 : e ≤ 9) {c : Int → Int} (hc : ∀ k, 0 ≤ k → 0 ≤ c k ∧ c k ≤ 1000000) (hm : ∀ k, 0 ≤ k → k ≤ 9 → m.1 39 k = c k) (h : Q (some (jm_i (abN c (e + 1)))) m) (j : Nat) : ∀ k : Nat, k + j = e + 1 → jm_V l gC (d + 1) iX10_likelyWithin 104 [(0, .ref 38), (4, jm_i e), (6, jm_i (abN c k)), (7, jm_i k)] [] m Q := by
  induction j with
  | zero =>
    intro k hk
    have ek : k = e + 1 := by omega
    subst ek
    exact bX10_likelyWithin_104 hC ⟨⟨by omega, by omega⟩, ⟨by omega, by omega⟩, fun _ => h, fun q => by omega⟩
  | succ j ih =>
    intro k hk
    refine bX10_likelyWithin_104 hC ⟨⟨by omega, by omega⟩, ⟨by omega, by omega⟩, fun q => by omega, fun _ => ⟨fun q => by omega, fun _ => ⟨⟨by omega, by omega⟩, fun x4 e4 => ?_⟩⟩⟩
    rw [e4, hm k (by omega) (by omega), abN_st, show ((k : Int) + 1) = ((k + 1 : Nat) : Int) by omega]
    exact ih (k + 1) (by omega)
theorem sX10_likelyWithin (hC : jm_HC gC) (hI : Iv mu nu) {w f key : Int} (hs : sng mu w f key) {e : Nat} (e9 : e ≤ 9) (h : ∀ m, jm_aC mu m → Q (some (jm_i (abN (chN (slq mu w f (clm mu w f) key (mot mu w f)) (mu.1 13 (mot mu w f)).toNat) (e + 1)))) m) : jm_R l gC (d + 6) iX10_likelyWithin [.ref 38, jm_i w, jm_i (mot mu w f), jm_i key, jm_i e] mu Q := by
  have hA := hI.1
  have hM := hI.2.1
  obtain ⟨q, klo, khi⟩ := hs
  obtain ⟨⟨⟨w0, w1⟩, f0, f5⟩, em, nc, ⟨mo0, mo1⟩, nz⟩ := mot_in hA q
  have cb := clm_bd hA w f
  have W8 := hA.1.2.1
  obtain ⟨L1, LH, H60, B1, B9, L3, H4, B5⟩ := hA.2.1 w w0 w1
  obtain ⟨n0, n8, n17⟩ := hM.2.1 (mot mu w f) mo0 mo1
  have lb := loK_bd hA hM w0 w1 mo0 mo1
  have hb := hiK_bd hA hM w0 w1 mo0 mo1
  generalize hwh : mot mu w f = wh at *
  have e1 : wh / 4 = f := by omega
  have e2 : wh % 4 = clm mu w f := by omega
  have hn : (nst mu wh : Int) = mu.1 13 wh - 1 := by unfold nst; omega
  have eT : ((mu.1 13 wh).toNat : Int) = mu.1 13 wh := by omega
  generalize hsl : slq mu w f (clm mu w f) key wh = sl at *
  have slb : ∀ i, 0 ≤ sl i ∧ sl i ≤ 1000 := fun i => by rw [← hsl]; exact slq_b _ _ _ _ _ _ i
  have main : ∀ (j i : Nat) (x : Int) (m : jm_M), i + j = (mu.1 13 wh).toNat → jm_aC mu m → (∀ k, 0 ≤ k → k ≤ 9 → m.1 39 k = chN sl i k) → (0 < j → x = key + 1 + abN (stf mu wh) i) → jm_V l gC (d + 6) iX10_likelyWithin 40 [(0, .ref 38), (1, jm_i w), (2, jm_i wh), (4, jm_i e), (5, jm_i x), (6, jm_i i)] [] m Q := by
    intro j
    induction j with
    | zero =>
      intro i x m hi a hc _
      have e13 : m.1 13 = mu.1 13 := a.1 13 rfl
      refine bX10_likelyWithin_40 hC ⟨⟨mo0, mo1⟩, ⟨by omega, by omega⟩, fun _ => ?_, fun r => by rw [e13] at r; omega⟩
      refine lX10_lw3 hC e9 (chN_b slb i) hc ?_ (e + 1) 0 (by omega)
      have hh := h m a
      rw [← hi, Nat.add_zero] at hh
      exact hh
    | succ j ih =>
      intro i x m hi a hc hx
      have e13 : m.1 13 = mu.1 13 := a.1 13 rfl
      have e14 : m.1 14 = mu.1 14 := a.1 14 rfl
      have hx := hx (by omega)
      have hi1 : i ≤ nst mu wh := by omega
      have ab := abN_bd (stf mu wh) (nst mu wh) (stf_bd hM mo0 mo1) i hi1
      have ir : jm_rg (i : Int) := ⟨by omega, by omega⟩
      have J : Iv m nu := hI.ext a (jm_aR.rf nu)
      refine bX10_likelyWithin_40 hC ⟨⟨mo0, mo1⟩, ir, fun r => by rw [e13] at r; omega, fun _ => sX0_slipOf hC J.1 J.2.2.2.1 J.2.2.2.2.1 w0 (by rw [a.1 6 rfl]; exact w1) mo0 mo1 ir ⟨by omega, by omega⟩ (fun m3 t3 => ?_)⟩
      have es : slp m w (wh / 4) (wh % 4) i x = sl i := by
        rw [e1, e2, slp_e a, ← hsl, hx]
        rfl
      rw [es]
      have sb := slb i
      have a3 : jm_aC mu m3 := a.tr t3.aC
      refine jm_qiI ⟨by omega, by omega⟩ (eX10_addChance hC (lX10_addChance hC (c := chN sl i) sb.1 sb.2 (chN_b slb i) (fun m7 o7 h7 => jm_qvI ?_) 9 m3 (by decide) jm_o.rf (fun k k0 k1 => ?_) (fun k k0 k1 => by omega)))
      · have a7 : jm_aC mu m7 := a3.tr (o7.aC rfl (fun _ => rfl))
        have nx : ∀ x6 : Int, (0 < j → x6 = key + 1 + abN (stf mu wh) (i + 1)) → jm_V l gC (d + 6) iX10_likelyWithin 40 [(0, .ref 38), (1, jm_i w), (2, jm_i wh), (4, jm_i e), (5, jm_i x6), (6, jm_i ((i : Int) + 1))] [] m7 Q := by
          intro x6 hx6
          rw [show ((i : Int) + 1) = ((i + 1 : Nat) : Int) by omega]
          exact ih (i + 1) x6 m7 (by omega) a7 h7 hx6
        by_cases q7 : (i : Int) ≤ 6
        · refine jm_RmrI (fun hm => sX5_stepOf hC ⟨mo0, by omega⟩ ⟨by omega, q7⟩ (jm_qiI (hm _ _) (fun x6 ex6 => nx x6 (fun j0 => ?_))))
          rw [ex6, a7.1 14 rfl, hx, ← abN_st]
          show key + 1 + abN (stf mu wh) i + stf mu wh i = _
          omega
        · exact sX5_stepOf0 hC ⟨by omega, by omega⟩ ir (by omega) (jm_qiI ⟨by decide, by decide⟩ (fun x6 ex6 => nx x6 (fun j0 => by omega)))
      · rw [t3 39 (by decide) (by decide)]
        exact hc k k0 k1
  have fill : ∀ (j k : Nat) (m : jm_M), k + j = 10 → jm_aC mu m → (∀ i, 0 ≤ i → i < (k : Int) → m.1 39 i = 0) → jm_V l gC (d + 6) iX10_likelyWithin 3 [(0, .ref 38), (1, jm_i w), (2, jm_i wh), (3, jm_i key), (4, jm_i e), (5, jm_i k)] [] m Q := by
    intro j
    induction j with
    | zero =>
      intro k m hk a hz
      refine bX10_likelyWithin_3 hC ⟨⟨by omega, by omega⟩, fun _ m2 e2 x4 e4 => ?_, fun q => by omega⟩
      refine main (mu.1 13 wh).toNat 0 x4 m2 (by omega) (by rw [e2]; exact a.wr rfl rfl) (fun i i0 i9 => ?_) (fun _ => ?_)
      · rw [e2]
        by_cases q : i = 0
        · subst q; rw [jm_wrS]; rfl
        · rw [jm_wrI q, hz i i0 (by omega)]
          exact (if_neg q).symm
      · show x4 = key + 1 + 0
        omega
    | succ j ih =>
      intro k m hk a hz
      refine bX10_likelyWithin_3 hC ⟨⟨by omega, by omega⟩, fun q => by omega, fun _ => ⟨⟨by omega, by omega⟩, fun m6 e6 => ?_⟩⟩
      rw [show ((k : Int) + 1) = ((k + 1 : Nat) : Int) by omega]
      refine ih (k + 1) m6 (by omega) (by rw [e6]; exact a.wr rfl rfl) (fun i i0 i1 => ?_)
      rw [e6]
      by_cases q : i = k
      · subst q; exact jm_wrS
      · rw [jm_wrI q]; exact hz i i0 (by omega)
  exact eX10_likelyWithin hC (fill 10 0 mu (by decide) (jm_aC.rf mu) (fun i i0 i1 => by omega))
theorem jm_l64 {a b : Int} (a0 : 0 ≤ a) (a1 : a ≤ 1000000) (b0 : 0 ≤ b) (b1 : b ≤ 1000) : Int32.toInt (Int64.toInt32 (((Int32.toInt64 (Int32.ofInt a)) * (Int32.toInt64 (Int32.ofInt b))) / (1000 : Int64))) = a * b / 1000 := by
  have p := ch_b a0 a1 b0 b1
  have ea : (Int32.ofInt a).toInt = a := jm_ti ⟨by omega, by omega⟩
  have eb : (Int32.ofInt b).toInt = b := jm_ti ⟨by omega, by omega⟩
  have e3 : ((1000 : Int64)).toInt = 1000 := by decide
  rw [Int64.toInt_toInt32, Int64.toInt_div, Int64.toInt_mul, Int32.toInt_toInt64, Int32.toInt_toInt64, ea, eb, e3]
  have m1 : (a * b).bmod (2 ^ 64) = a * b := by
    rw [Int.bmod_eq_of_le] <;> omega
  rw [m1, Int.tdiv_eq_ediv_of_nonneg p.1]
  have m2 : (a * b / 1000).bmod (2 ^ 64) = a * b / 1000 := by
    rw [Int.bmod_eq_of_le] <;> omega
  have m3 : (a * b / 1000).bmod (2 ^ 32) = a * b / 1000 := by
    rw [Int.bmod_eq_of_le] <;> omega
  rw [m2, m3]
theorem lX12_fair4 (hR : jm_HR gR) {e : Nat} (e9 : e ≤ 9) {c : Int → Int} (hc : ∀ k, 0 ≤ k → 0 ≤ c k ∧ c k ≤ 1000000) (hm : ∀ k, 0 ≤ k → k ≤ 9 → n.1 27 k = c k) (h : Q (some (jm_i (abN c (e + 1)))) n) (j : Nat) : ∀ k : Nat, k + j = e + 1 → jm_V l gR (d + 2) iX12_fair 227 [(0, .ref 0), (4, jm_i e), (6, jm_i (abN c k)), (7, jm_i k)] [] n Q := by
  induction j with
  | zero =>
    intro k hk
    have ek : k = e + 1 := by omega
    subst ek
    exact bX12_fair_227 hR ⟨⟨by omega, by omega⟩, ⟨by omega, by omega⟩, fun _ => h, fun q => by omega⟩
  | succ j ih =>
    intro k hk
    refine bX12_fair_227 hR ⟨⟨by omega, by omega⟩, ⟨by omega, by omega⟩, fun q => by omega, fun _ => ⟨⟨by omega, by omega⟩, fun x4 e4 => ?_⟩⟩
    rw [e4, hm k (by omega) (by omega), abN_st, show ((k : Int) + 1) = ((k + 1 : Nat) : Int) by omega]
    exact ih (k + 1) (by omega)
theorem lX12_fair3 (hR : jm_HR gR) {w f key e wh i s : Int} {c : Int → Int} (s0 : 0 ≤ s) (s1 : s ≤ 1000) (hc : ∀ k, 0 ≤ k → 0 ≤ c k ∧ c k ≤ 1000000) (h : ∀ m', jm_o 27 nu m' → (∀ k, 0 ≤ k → k ≤ 9 → m'.1 27 k = chS s c k) → jm_V l gR (d + 2) iX12_fair 102 [(0, .ref 0), (1, jm_i w), (2, jm_i f), (3, jm_i key), (4, jm_i e), (5, jm_i wh), (6, jm_i (i + 1))] [] m' Q) (j : Nat) : ∀ (m : jm_M), j ≤ 10 → jm_o 27 nu m → (∀ k : Int, 0 ≤ k → k < j → m.1 27 k = c k) → (∀ k : Int, (j : Int) ≤ k → k ≤ 9 → m.1 27 k = chS s c k) → jm_V l gR (d + 2) iX12_fair 147 [(0, .ref 0), (1, jm_i w), (2, jm_i f), (3, jm_i key), (4, jm_i e), (5, jm_i wh), (6, jm_i i), (7, jm_i s), (8, jm_i ((j : Int) - 1))] [] m Q := by
  induction j with
  | zero =>
    intro m j9 o lo hi
    refine bX12_fair_147 hR ⟨⟨by omega, by omega⟩, fun _ => h m o (fun k k0 k9 => hi k (by omega) k9), fun q => by omega⟩
  | succ j ih =>
    intro m j9 o lo hi
    have ej : ((j + 1 : Nat) : Int) - 1 = (j : Int) := by omega
    rw [ej]
    have e1 := lo (j : Int) (by omega) (by omega)
    have b1 := hc (j : Int) (by omega)
    have p1 := ch_b b1.1 b1.2 (s := 1000 - s) (by omega) (by omega)
    refine bX12_fair_147 hR ⟨⟨by omega, by omega⟩, fun q => by omega, fun _ => ⟨⟨by omega, by omega⟩, fun q => ⟨⟨by omega, by omega⟩, ?_⟩, fun q => ?_⟩⟩
    · have e0 := lo ((j : Int) - 1) (by omega) (by omega)
      have b0 := hc ((j : Int) - 1) (by omega)
      have p0 := ch_b b0.1 b0.2 s0 s1
      rw [e1, e0, jm_l64 b1.1 b1.2 (by omega) (by omega), jm_l64 b0.1 b0.2 s0 s1]
      refine ⟨⟨by omega, by omega⟩, fun m5 e5 => ?_⟩
      refine ih m5 (by omega) (by rw [e5]; exact o.wr) (fun k k0 k1 => ?_) (fun k k0 k9 => ?_)
      · rw [e5, jm_wrI (by omega)]
        exact lo k k0 (by omega)
      · rw [e5]
        by_cases q : k = (j : Int)
        · subst q
          rw [jm_wrS]
          unfold chS
          rw [if_neg (by omega)]
        · rw [jm_wrI q]
          exact hi k (by omega) k9
    · rw [e1, jm_l64 b1.1 b1.2 (by omega) (by omega)]
      refine ⟨⟨by omega, by omega⟩, fun m8 e8 => ?_⟩
      refine ih m8 (by omega) (by rw [e8]; exact o.wr) (fun k k0 k1 => by omega) (fun k k0 k9 => ?_)
      rw [e8]
      by_cases q2 : k = (j : Int)
      · rw [q2, jm_wrS, q]
        unfold chS
        rw [if_pos rfl]
      · rw [jm_wrI q2]
        exact hi k (by omega) k9
theorem sX12_fair (hR : jm_HR gR) (hI : Iv mu nu) {w f key : Int} (hs : sng mu w f key) {e : Nat} (e9 : e ≤ 9) (h : ∀ n, jm_aR nu n → Q (some (jm_i (abN (chN (slq mu w f (clm mu w f) key (mot mu w f)) (mu.1 13 (mot mu w f)).toNat) (e + 1)))) n) : jm_V l gR (d + 7) iX12_fair 67 [(0, .ref 0), (1, jm_i w), (2, jm_i f), (3, jm_i key), (4, jm_i e), (5, jm_i (mot mu w f)), (6, jm_i 0)] [] nu Q := by
  have hA := hI.1
  have hM := hI.2.1
  obtain ⟨q, klo, khi⟩ := hs
  obtain ⟨⟨⟨w0, w1⟩, f0, f5⟩, em, nc, ⟨mo0, mo1⟩, nz⟩ := mot_in hA q
  have cb := clm_bd hA w f
  have W8 := hA.1.2.1
  obtain ⟨n0, n8, n17⟩ := hM.2.1 (mot mu w f) mo0 mo1
  have lb := loK_bd hA hM w0 w1 mo0 mo1
  have hb := hiK_bd hA hM w0 w1 mo0 mo1
  have c6 := clm_r hA w0 w1 f0 f5
  generalize hwh : mot mu w f = wh at *
  have hn : (nst mu wh : Int) = mu.1 13 wh - 1 := by unfold nst; omega
  generalize hsl : slq mu w f (clm mu w f) key wh = sl at *
  have slb : ∀ i, 0 ≤ sl i ∧ sl i ≤ 1000 := fun i => by rw [← hsl]; exact slq_b _ _ _ _ _ _ i
  have main : ∀ (j i : Nat) (m : jm_M), i + j = (mu.1 13 wh).toNat → jm_aR nu m → (∀ k, 0 ≤ k → k ≤ 9 → m.1 27 k = chN sl i k) → jm_V l gR (d + 7) iX12_fair 102 [(0, .ref 0), (1, jm_i w), (2, jm_i f), (3, jm_i key), (4, jm_i e), (5, jm_i wh), (6, jm_i i)] [] m Q := by
    intro j
    induction j with
    | zero =>
      intro i m hi a hc
      have e17 : m.1 17 (8 * wh) = mu.1 13 wh := by rw [a.1 17 rfl]; exact n17
      refine bX12_fair_102 hR ⟨⟨by omega, by omega⟩, ⟨by omega, by omega⟩, fun _ => ?_, fun r => by omega⟩
      refine lX12_fair4 hR e9 (chN_b slb i) hc ?_ (e + 1) 0 (by omega)
      have hh := h m a
      rw [← hi, Nat.add_zero] at hh
      exact hh
    | succ j ih =>
      intro i m hi a hc
      have e17 : m.1 17 (8 * wh) = mu.1 13 wh := by rw [a.1 17 rfl]; exact n17
      have hi1 : i ≤ nst mu wh := by omega
      have ab := abN_bd (stf mu wh) (nst mu wh) (stf_bd hM mo0 mo1) i hi1
      have ir : jm_rg (i : Int) := ⟨by omega, by omega⟩
      have J : Iv mu m := hI.ext (jm_aC.rf mu) a
      refine bX12_fair_102 hR ⟨⟨by omega, by omega⟩, ir, fun r => by omega, fun _ => ⟨⟨by omega, by omega⟩, sX12_aboveOf hR J.2.1 mo0 mo1 (N := i) hi1 (jm_qiI ⟨by omega, by omega⟩ ?_)⟩⟩
      rw [a.1 6 rfl, c6, show clm mu w f + 1 - 1 = clm mu w f by omega]
      refine sX12_slipOf hR J.1 J.2.2.2.1 J.2.2.2.2.1 w0 w1 ⟨by omega, by omega⟩ ⟨by omega, by omega⟩ ir ⟨by omega, by omega⟩ (fun n8' t8 => ?_)
      have es : slp mu w f (clm mu w f) i (key + 1 + abN (stf mu wh) i) = sl i := by rw [← hsl]; rfl
      rw [es]
      have sb := slb i
      refine jm_qiI ⟨by omega, by omega⟩ (fun x12 e12 => ?_)
      rw [show x12 = ((i + 2 : Nat) : Int) - 1 by omega]
      refine lX12_fair3 hR (c := chN sl i) sb.1 sb.2 (chN_b slb i) (fun m' o' h' => ?_) (i + 2) n8' (by omega) jm_o.rf (fun k k0 k1 => ?_) (fun k k0 k9 => ?_)
      · rw [show ((i : Int) + 1) = ((i + 1 : Nat) : Int) by omega]
        exact ih (i + 1) m' (by omega) ((a.tr t8.aR).tr (o'.aR rfl (by decide))) h'
      · rw [t8 27 (by decide) (by decide)]
        exact hc k k0 (by omega)
      · rw [t8 27 (by decide) (by decide), hc k (by omega) k9, chN_0 i k (by omega)]
        unfold chS
        rw [chN_0 i k (by omega), chN_0 i (k - 1) (by omega), if_neg (by omega)]
        omega
  have fill : ∀ (j k : Nat) (m : jm_M), k + j = 10 → jm_aR nu m → (∀ i, 0 ≤ i → i < (k : Int) → m.1 27 i = if i = 0 then 1000000 else 0) → jm_V l gR (d + 7) iX12_fair 67 [(0, .ref 0), (1, jm_i w), (2, jm_i f), (3, jm_i key), (4, jm_i e), (5, jm_i wh), (6, jm_i k)] [] m Q := by
    intro j
    induction j with
    | zero =>
      intro k m hk a hz
      refine bX12_fair_67 hR ⟨⟨by omega, by omega⟩, fun _ => ?_, fun q => by omega⟩
      exact main (mu.1 13 wh).toNat 0 m (by omega) a (fun i i0 i9 => hz i i0 (by omega))
    | succ j ih =>
      intro k m hk a hz
      have nx : ∀ x : Int, x = (if (k : Int) = 0 then 1000000 else 0) → jm_V l gR (d + 7) iX12_fair 67 [(0, .ref 0), (1, jm_i w), (2, jm_i f), (3, jm_i key), (4, jm_i e), (5, jm_i wh), (6, jm_i ((k : Int) + 1))] [] (jm_wr m 27 k x) Q := by
        intro x hx
        rw [show ((k : Int) + 1) = ((k + 1 : Nat) : Int) by omega]
        refine ih (k + 1) _ (by omega) (a.wr rfl (fun q => absurd q (by decide))) (fun i i0 i1 => ?_)
        by_cases q : i = k
        · subst q; rw [jm_wrS]; exact hx
        · rw [jm_wrI q]; exact hz i i0 (by omega)
      refine bX12_fair_67 hR ⟨⟨by omega, by omega⟩, fun q => by omega, fun _ => ⟨fun q => ⟨⟨by omega, by omega⟩, fun m3 e3 => ?_⟩, fun q => ⟨⟨by omega, by omega⟩, fun m6 e6 => ?_⟩⟩⟩
      · rw [e3]; exact nx 0 (by rw [if_neg q])
      · rw [e6]; exact nx 1000000 (by rw [if_pos q])
  exact fill 10 0 nu (by decide) (jm_aR.rf nu) (fun i i0 i1 => by omega)
theorem sng_in (hI : Iv mu nu) {w f key : Int} (h : sng mu w f key) : (0 ≤ w ∧ w < mu.1 6 0) ∧ (0 ≤ f ∧ f ≤ 5) ∧ 0 ≤ key ∧ key ≤ 59 := by
  obtain ⟨q, a, b⟩ := h
  obtain ⟨⟨⟨w0, w1⟩, f0, f5⟩, em, nc, ⟨m0, m1⟩, nz⟩ := mot_in hI.1 q
  have lb := loK_bd hI.1 hI.2.1 w0 w1 m0 m1
  have hb := hiK_bd hI.1 hI.2.1 w0 w1 m0 m1
  exact ⟨⟨w0, w1⟩, ⟨f0, f5⟩, by omega, by omega⟩
theorem sX0_canSing (hC : jm_HC gC) (hI : Iv mu nu) {w f key : Int} (r3 : jm_rg key) (y : sng mu w f key → Q (some (jm_i 1)) mu) (no : ¬ sng mu w f key → Q (some (jm_i 0)) mu) : jm_R l gC (d + 6) iX0_canSing [.ref 35, jm_i w, jm_i (mot mu w f), jm_i key] mu Q := by
  have hA := hI.1
  have hM := hI.2.1
  have mb := mot_bd hA w f
  refine eX0_canSing hC ⟨⟨by omega, by omega⟩, fun q => no (fun h => h.1 q), fun q => ?_⟩
  obtain ⟨⟨⟨w0, w1⟩, f0, f5⟩, em, nc, ⟨m0, m1⟩, nz⟩ := mot_in hA q
  have lb := loK_bd hA hM w0 w1 m0 m1
  have hb := hiK_bd hA hM w0 w1 m0 m1
  exact sX0_lowestKey hC hA hM w0 w1 m0 m1 (jm_qiI ⟨by omega, by omega⟩ (sX0_highestKey hC hA hM w0 w1 m0 m1 (jm_qiI ⟨by omega, by omega⟩ ⟨r3, fun q2 => y ⟨q, q2.1, q2.2⟩, fun q2 => no (fun h => q2 h.2)⟩)))
theorem sim_fair (hC : jm_HC gC) (hR : jm_HR gR) (hI : Iv mu nu) (h1 : jm_rg v1) (h2 : jm_rg v2) (h3 : jm_rg v3) (h4 : jm_rg v4) : jm_sim l gC gR (d + 7) (d + 7) iX11_fair iX12_fair [jm_i v1, jm_i v2, jm_i v3, jm_i v4] mu nu := by
  have I0 := hI.t0
  have mb := mot_bd hI.1 v1 v2
  have w4 : (jm_wr nu 0 0 0).1 0 4 = mu.1 6 0 := I0.1.1.2.2
  have no : ¬ (sng mu v1 v2 v3 ∧ 0 ≤ v4 ∧ v4 ≤ 9) → jm_qi (fun z m => jm_R l gR (d + 7) iX12_fair [.ref 0, jm_i v1, jm_i v2, jm_i v3, jm_i v4] nu (jm_qi fun y n => y = z ∧ Iv m n)) (some (jm_i (-1))) mu := by
    intro q
    refine jm_qiI ⟨by decide, by decide⟩ (eX12_fair hR (fun m1 e1 => ?_))
    subst e1
    have fi := jm_fin (z := -1) (y := -1) (F := fun n => Iv mu n) ⟨by decide, by decide⟩ rfl I0
    refine ⟨h1, fun q1 => ⟨h2, fun q2 => ⟨h3, fun q3 => ⟨h4, fun q4 => ?_, fun _ => fi⟩, fun _ => fi⟩, fun _ => fi⟩, fun _ => fi⟩
    exact sX12_isSung hR I0.1 I0.2.1 q1.1 (by omega) q2.1 (by omega) ⟨by omega, by omega⟩ (fun s => absurd ⟨s, q4⟩ q) (fun _ => jm_qiI ⟨by decide, by decide⟩ ⟨fun r => absurd rfl r, fun _ => fi⟩)
  refine eX11_fair hC (sX0_motiveOf hC hI.1 h1 h2 (jm_qiI ⟨by omega, by omega⟩ ⟨h4, fun q4 => ?_, fun q4 => no (fun r => q4 r.2)⟩))
  refine sX0_canSing hC hI h3 (fun s => jm_qiI ⟨by decide, by decide⟩ ⟨fun _ => ?_, fun r => absurd r (by decide)⟩) (fun s => jm_qiI ⟨by decide, by decide⟩ ⟨fun r => absurd rfl r, fun _ => no (fun r => s r.1)⟩)
  obtain ⟨⟨w0, w1⟩, ⟨f0, f5⟩, k0, k59⟩ := sng_in hI s
  obtain ⟨e, rfl⟩ : ∃ e : Nat, v4 = e := ⟨v4.toNat, by omega⟩
  have cb := chsum (chN_b (slq_b mu v1 v2 (clm mu v1 v2) v3 (mot mu v1 v2)) (mu.1 13 (mot mu v1 v2)).toNat) (e + 1)
  have rA : jm_rg (abN (chN (slq mu v1 v2 (clm mu v1 v2) v3 (mot mu v1 v2)) (mu.1 13 (mot mu v1 v2)).toNat) (e + 1)) := ⟨by omega, by omega⟩
  refine sX10_likelyWithin hC hI s (by omega) (fun m a => jm_qiI rA (jm_qiI rA (eX12_fair hR (fun m1 e1 => ?_))))
  subst e1
  refine ⟨h1, fun _ => ⟨h2, fun _ => ⟨h3, fun _ => ⟨h4, fun _ => ?_, fun r => absurd q4 r⟩, fun r => absurd ⟨k0, k59⟩ r⟩, fun r => absurd ⟨f0, by omega⟩ r⟩, fun r => absurd ⟨w0, by omega⟩ r⟩
  refine sX12_isSung hR I0.1 I0.2.1 w0 w1 f0 f5 ⟨by omega, by omega⟩ (fun _ => jm_qiI ⟨by decide, by decide⟩ ⟨fun _ => ?_, fun r => absurd r (by decide)⟩) (fun r => absurd s r)
  exact sX12_motiveOf hR I0.1 I0.2.1 w0 w1 f0 f5 (jm_qiI ⟨by omega, by omega⟩ (sX12_fair hR I0 s (by omega) (fun n a' => jm_fin rA rfl (I0.ext a a'))))
end FA
