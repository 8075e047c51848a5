section WO
variable {l : Launch} {gC gR : jm_G} {d : Nat} {mu nu m n : jm_M} {v1 v2 v3 v4 v5 : Int} {Q : Option Value → jm_M → Prop}
def liM (mu : jm_M) (q : Nat) : Nat → Nat := mkB (fun w => lia mu w ((q / 4 : Nat) : Int) ((q % 4 : Nat) : Int))
theorem sX9_tellLiars (hC : jm_HC gC) (hI : Iv mu nu) (h : ∀ m, jm_aC mu m → (∀ q : Nat, q < 24 → m.1 44 q = (liM mu q (mu.1 6 0).toNat : Nat)) → (∀ q : Nat, q < 24 → m.1 45 q = 0) → Q none m) : jm_R l gC (d + 4) iX9_tellLiars [.ref 41] mu Q := by
  obtain ⟨w0, w8, -⟩ := hI.1.1
  have lp : ∀ (j k : Nat) (m : jm_M), k + j = 24 → jm_aC mu m → (∀ q : Nat, q < k → m.1 44 q = (liM mu q (mu.1 6 0).toNat : Nat)) → (∀ q : Nat, q < k → m.1 45 q = 0) → jm_V l gC (d + 4) iX9_tellLiars 2 [(0, .ref 41), (1, jm_i k)] [] m Q := by
    intro j
    induction j with
    | zero =>
      intro k m hk a h1 h2
      have e : k = 24 := by omega
      subst e
      exact bX9_tellLiars_2 hC ⟨⟨by omega, by omega⟩, fun _ => h m a h1 h2, fun r => by omega⟩
    | succ j ih =>
      intro k m hk a h1 h2
      refine bX9_tellLiars_2 hC ⟨⟨by omega, by omega⟩, fun r => by omega, fun _ => ⟨⟨by omega, by omega⟩, fun m3 e3 m5 e5 => ?_⟩⟩
      have a5 : jm_aC mu m5 := by rw [e5, e3]; exact (a.wr rfl rfl).wr rfl rfl
      have ip : ∀ (j2 i : Nat) (m : jm_M), i + j2 = (mu.1 6 0).toNat → jm_aC mu m → (∀ q : Nat, q < k → m.1 44 q = (liM mu q (mu.1 6 0).toNat : Nat)) → m.1 44 k = (liM mu k i : Nat) → (∀ q : Nat, q < k + 1 → m.1 45 q = 0) → jm_V l gC (d + 4) iX9_tellLiars 24 [(0, .ref 41), (1, jm_i k), (2, jm_i i)] [] m Q := by
        intro j2
        induction j2 with
        | zero =>
          intro i m hi a g1 g2 g3
          have e6 : m.1 6 = mu.1 6 := a.1 6 rfl
          have e : i = (mu.1 6 0).toNat := by omega
          subst e
          have nx := ih (k + 1) m (by omega) a (fun q hq => by
            by_cases c : q = k
            · subst c; exact g2
            · exact g1 q (by omega)) g3
          rw [show ((k + 1 : Nat) : Int) = (k : Int) + 1 by omega] at nx
          exact bX9_tellLiars_24 hC ⟨⟨by omega, by omega⟩, fun _ => nx, fun r => by rw [e6] at r; omega⟩
        | succ j2 ih2 =>
          intro i m hi a g1 g2 g3
          have e6 : m.1 6 = mu.1 6 := a.1 6 rfl
          have J : Iv m nu := hI.ext a (jm_aR.rf nu)
          have ec : ∀ z f, clm m z f = clm mu z f := fun z f => by unfold clm; rw [e6, a.1 10 rfl]
          have t1 : Int.tdiv (k : Int) 4 = ((k / 4 : Nat) : Int) := by rw [Int.tdiv_eq_ediv_of_nonneg (by omega)]; omega
          have t2 : Int.tmod (k : Int) 4 = ((k % 4 : Nat) : Int) := by rw [Int.tmod_eq_emod_of_nonneg (by omega)]; omega
          have cb := clm_bd hI.1 i ((k / 4 : Nat) : Int)
          refine bX9_tellLiars_24 hC ⟨⟨by omega, by omega⟩, fun r => by rw [e6] at r; omega, fun _ => ⟨⟨by omega, by omega⟩, ?_⟩⟩
          rw [t1, t2]
          refine sX8_claimOf hC J.1 ⟨by omega, by omega⟩ ⟨by omega, by omega⟩ ?_
          rw [ec]
          refine jm_qiI ⟨by omega, by omega⟩ ⟨⟨by omega, by omega⟩, fun q => ⟨⟨by omega, by omega⟩, fun m9 e9 => ?_⟩, fun q => ?_⟩
          · have el : liM mu k (i + 1) = liM mu k i ||| 2 ^ i := if_pos (decide_eq_true ⟨q.1, q.2.2⟩)
            have nx := ih2 (i + 1) m9 (by omega) (by rw [e9]; exact a.wr rfl rfl) (fun q hq => by rw [e9, jm_wrI (by omega)]; exact g1 q hq) (by rw [e9, jm_wrS, g2, el]; exact jm_orm _ (by omega)) (fun q hq => by rw [e9, jm_wrO (by decide)]; exact g3 q hq)
            rw [show ((i + 1 : Nat) : Int) = (i : Int) + 1 by omega] at nx
            exact nx
          · have el : liM mu k (i + 1) = liM mu k i := if_neg (fun t => q ⟨(of_decide_eq_true t).1, by omega, (of_decide_eq_true t).2⟩)
            have nx := ih2 (i + 1) m (by omega) a g1 (by rw [g2, el]) g3
            rw [show ((i + 1 : Nat) : Int) = (i : Int) + 1 by omega] at nx
            exact nx
      refine ip (mu.1 6 0).toNat 0 m5 (by omega) a5 (fun q hq => ?_) ?_ (fun q hq => ?_)
      · rw [e5, jm_wrI (by omega), e3, jm_wrO (by decide)]
        exact h1 q hq
      · rw [e5, jm_wrS]
        rfl
      · rw [e5, jm_wrO (by decide), e3]
        by_cases c : q = k
        · subst c
          rw [jm_wrS]
        · rw [jm_wrI (by omega)]
          exact h2 q (by omega)
  exact eX9_tellLiars hC (lp 24 0 mu (by omega) (jm_aC.rf mu) (fun q hq => by omega) (fun q hq => by omega))
theorem lX9_count (hC : jm_HC gC) (hI : Iv mu nu) {e : Int} (e0 : 0 ≤ e) (e8 : e ≤ 8) (k : Nat) : ∀ (f y : Nat) (m : jm_M) (B : Int) (Q : Option Value → jm_M → Prop), f + k = 6 → y < 4 ^ f → jm_aC mu m → (∀ q : Nat, q < 24 → m.1 44 q = (liM mu q (mu.1 6 0).toNat : Nat)) → (∀ q : Nat, q < 24 → 0 ≤ m.1 45 q ∧ m.1 45 q ≤ B) → 0 ≤ B → B + 4 ^ k ≤ 2147483647 → (∀ m', jm_aC mu m' → (∀ q : Nat, q < 24 → m'.1 44 q = (liM mu q (mu.1 6 0).toNat : Nat)) → (∀ q : Nat, 4 * f ≤ q → q < 24 → m'.1 45 q = m.1 45 q + sW (gq mu e q) k f y) → (∀ q : Nat, q < 4 * f → m'.1 45 q = m.1 45 q) → Q (some (jm_i (sW (gd mu e) k f y))) m') → jm_R l gC (d + k + 2) iX9_countWorlds [.ref 41, jm_i f, jm_i (mkB (fun w => lieN mu w y f) (mu.1 6 0).toNat : Nat), jm_i e] m Q := by
  obtain ⟨w0, w8, -⟩ := hI.1.1
  have head : ∀ (f y : Nat), pcn (mkB (fun w => lieN mu w y f) (mu.1 6 0).toNat : Nat) = lnr mu y f := fun f y => pcn_cnt _ (by omega)
  have lb : ∀ (f y : Nat), 0 ≤ lnr mu y f ∧ lnr mu y f ≤ 8 := fun f y => by
    have := cnt_b (fun w => lieN mu w y f) (mu.1 6 0).toNat
    unfold lnr
    omega
  have mb : ∀ (f y : Nat), mkB (fun w => lieN mu w y f) (mu.1 6 0).toNat < 256 := fun f y => mkB_256 _ (by omega)
  induction k with
  | zero =>
    intro f y m B Q hf hy a h4 h5 b0 hB h
    have ef : f = 6 := by omega
    subst ef
    have l1 := lb 6 y
    have l2 := mb 6 y
    refine eX9_countWorlds hC (sJ6_bitCount hC (by omega) (by omega) ?_)
    rw [head]
    refine jm_qiI ⟨by omega, by omega⟩ ⟨⟨by omega, by omega⟩, fun q => ⟨⟨by omega, by omega⟩, fun r => by omega, fun _ => ?_⟩, fun q => ?_⟩
    · have hh := h m a h4 (fun q a b => by omega) (fun q _ => rfl)
      rw [show sW (gd mu e) 0 6 y = 1 from if_pos q] at hh
      exact hh
    · have hh := h m a h4 (fun q a b => by omega) (fun q _ => rfl)
      rw [show sW (gd mu e) 0 6 y = 0 from if_neg (by omega)] at hh
      exact hh
  | succ k ih =>
    intro f y m B Q hf hy a h4 h5 b0 hB h
    have l1 := lb f y
    have l2 := mb f y
    have p4 : (4 : Int) ^ (k + 1) = 4 ^ k * 4 := Int.pow_succ 4 k
    have p0 : (0 : Int) ≤ 4 ^ k := Int.pow_nonneg (by decide)
    rw [p4] at hB
    have lp : ∀ (j v : Nat) (m' : jm_M), v + j = 4 → jm_aC mu m' → (∀ q : Nat, q < 24 → m'.1 44 q = (liM mu q (mu.1 6 0).toNat : Nat)) → (∀ q : Nat, 4 * f ≤ q → q < 24 → m'.1 45 q = m.1 45 q + sN (fun v => sW (gq mu e q) k (f + 1) (y + 4 ^ f * v)) v) → (∀ q : Nat, q < 4 * f → m'.1 45 q = m.1 45 q) → jm_V l gC (d + (k + 1) + 2) iX9_countWorlds 26 [(0, .ref 41), (1, jm_i f), (2, jm_i (mkB (fun w => lieN mu w y f) (mu.1 6 0).toNat : Nat)), (3, jm_i e), (4, jm_i (sN (fun v => sW (gd mu e) k (f + 1) (y + 4 ^ f * v)) v)), (5, jm_i ((4 * f + v : Nat) : Int))] [] m' Q := by
      intro j
      induction j with
      | zero =>
        intro v m' hv a' g4 g5 g6
        have ev : v = 4 := by omega
        subst ev
        exact bX9_countWorlds_26 hC ⟨⟨by omega, by omega⟩, ⟨by omega, by omega⟩, fun _ => h m' a' g4 g5 g6, fun r => by omega⟩
      | succ j ih2 =>
        intro v m' hv a' g4 g5 g6
        have v4 : v < 4 := by omega
        have vp : (v : Int) * 4 ^ k ≤ 3 * 4 ^ k := Int.mul_le_mul_of_nonneg_right (by omega) p0
        have vp0 : 0 ≤ (v : Int) * 4 ^ k := Int.mul_nonneg (by omega) p0
        have sb : ∀ q, 0 ≤ sN (fun v => sW (gq mu e q) k (f + 1) (y + 4 ^ f * v)) v ∧ sN (fun v => sW (gq mu e q) k (f + 1) (y + 4 ^ f * v)) v ≤ v * 4 ^ k := fun q => sN_b (fun v => sW_b (gq_b mu e q) k (f + 1) (y + 4 ^ f * v)) v
        have hb : ∀ q : Nat, q < 24 → 0 ≤ m'.1 45 q ∧ m'.1 45 q ≤ B + v * 4 ^ k := fun q hq => by
          have b1 := h5 q hq
          by_cases c : 4 * f ≤ q
          · have b2 := g5 q c hq
            have b3 := sb q
            omega
          · have b2 := g6 q (by omega)
            omega
        have em : jm_or (mkB (fun w => lieN mu w y f) (mu.1 6 0).toNat : Nat) (m'.1 44 ((4 * f + v : Nat) : Int)) = (mkB (fun w => lieN mu w (y + 4 ^ f * v) (f + 1)) (mu.1 6 0).toNat : Nat) := by
          have l3 : liM mu (4 * f + v) (mu.1 6 0).toNat < 256 := mkB_256 _ (by omega)
          rw [g4 _ (by omega), jm_orN (by omega) (by omega)]
          unfold liM
          rw [mkB_or]
          congr 1
          refine mkB_cg _ (fun w _ => ?_)
          show (lieN mu w y f || lia mu w (((4 * f + v) / 4 : Nat) : Int) (((4 * f + v) % 4 : Nat) : Int)) = (lieN mu w (y + 4 ^ f * v) f || lia mu w f (dg (y + 4 ^ f * v) f))
          rw [lieN_lo w f (Nat.le_refl f), dg_at hy, show (4 * f + v) / 4 = f by omega, show (4 * f + v) % 4 = v % 4 by omega]
        have zb := sW_b (gd_b mu e) k (f + 1) (y + 4 ^ f * v)
        have hy2 : y + 4 ^ f * v < 4 ^ (f + 1) := by
          have : 4 ^ f * v ≤ 4 ^ f * 3 := Nat.mul_le_mul_left _ (by omega)
          rw [Nat.pow_succ]
          omega
        refine bX9_countWorlds_26 hC ⟨⟨by omega, by omega⟩, ⟨by omega, by omega⟩, fun r => by omega, fun _ => ⟨⟨by omega, by omega⟩, ?_⟩⟩
        rw [em]
        have rc := ih (f + 1) (y + 4 ^ f * v) m' (B + v * 4 ^ k) (jm_qi fun z5 m4 => jm_rg ((m4.1 45 ((4 * f + v : Nat) : Int)) + z5) ∧ ∀ m9, m9 = jm_wr m4 45 ((4 * f + v : Nat) : Int) ((m4.1 45 ((4 * f + v : Nat) : Int)) + z5) → ∀ x11, x11 = (sN (fun v => sW (gd mu e) k (f + 1) (y + 4 ^ f * v)) v + z5) → jm_V l gC (d + (k + 1) + 2) iX9_countWorlds 26 [(0, .ref 41), (1, jm_i f), (2, jm_i (mkB (fun w => lieN mu w y f) (mu.1 6 0).toNat : Nat)), (3, jm_i e), (4, jm_i x11), (5, jm_i (((4 * f + v : Nat) : Int) + 1))] [] m9 Q) (by omega) hy2 a' g4 hb (by omega) (by omega) (fun m4 a4 k4 k5 k6 => ?_)
        · rw [show (((f + 1 : Nat)) : Int) = (f : Int) + 1 by omega] at rc
          exact rc.up (by omega)
        · have p1 : (4 : Int) ^ k ≤ 4096 := by
            have hk : k = 0 ∨ k = 1 ∨ k = 2 ∨ k = 3 ∨ k = 4 ∨ k = 5 := by omega
            rcases hk with c | c | c | c | c | c <;> rw [c] <;> decide
          have c1 := k6 (4 * f + v) (by omega)
          have c2 := hb (4 * f + v) (by omega)
          refine jm_qiI ⟨by omega, by omega⟩ ⟨⟨by omega, by omega⟩, fun m9 e9 x11 e11 => ?_⟩
          have nx := ih2 (v + 1) m9 (by omega) (by rw [e9]; exact a4.wr rfl rfl) (fun q hq => by rw [e9, jm_wrO (by decide)]; exact k4 q hq) (fun q q1 q2 => ?_) (fun q hq => by rw [e9, jm_wrI (by omega), k6 q (by omega)]; exact g6 q hq)
          · rw [show (((4 * f + (v + 1) : Nat)) : Int) = ((4 * f + v : Nat) : Int) + 1 by omega] at nx
            rw [e11]
            exact nx
          · show m9.1 45 q = m.1 45 q + (sN (fun v => sW (gq mu e q) k (f + 1) (y + 4 ^ f * v)) v + sW (gq mu e q) k (f + 1) (y + 4 ^ f * v))
            have g := g5 q q1 q2
            by_cases c : q < 4 * (f + 1)
            · have at4 := sQ_at (mu := mu) (e := e) (k := k) (q := q) hy v4 (by omega)
              by_cases c' : q = 4 * f + v
              · rw [if_pos c'] at at4
                rw [at4, e9]
                subst c'
                rw [jm_wrS, c1, g]
                omega
              · rw [if_neg c'] at at4
                rw [at4, e9, jm_wrI (by omega), k6 q c, g]
                omega
            · rw [e9, jm_wrI (by omega), k5 q (by omega) q2, g]
              omega
    refine eX9_countWorlds hC (sJ6_bitCount hC (by omega) (by omega) ?_)
    rw [head]
    refine jm_qiI ⟨by omega, by omega⟩ ⟨⟨by omega, by omega⟩, fun q => ⟨⟨by omega, by omega⟩, fun _ x7 e7 => ?_, fun r => by omega⟩, fun q => ?_⟩
    · have st := lp 4 0 m (by omega) a h4 (fun q _ _ => (Int.add_zero _).symm) (fun q _ => rfl)
      rw [show ((4 * f + 0 : Nat) : Int) = x7 by omega] at st
      exact st
    · have hh := h m a h4 (fun q' _ _ => by rw [sQ_cut (by omega) q, Int.add_zero]) (fun q _ => rfl)
      rw [sW_cut (by omega) q] at hh
      exact hh
/-- in how many worlds; of a fact the most with one value; what is sure, what to ask -/
def nWo (mu : jm_M) (e : Int) : Int := sW (gd mu e) 6 0 0
def tal (mu : jm_M) (e : Int) (q : Nat) : Int := sW (gq mu e q) 6 0 0
def mxN (h : Nat → Int) : Nat → Int
  | 0 => 0
  | n + 1 => max (mxN h n) (h n)
def mo (mu : jm_M) (e : Int) (f : Nat) : Int := mxN (fun v => tal mu e (4 * f + v)) 4
def asN (mu : jm_M) (e : Int) : Nat → Nat
  | 0 => 0
  | n + 1 => if mo mu e n < mo mu e (asN mu e n) then n else asN mu e n
def suB (mu : jm_M) (e : Int) (f : Nat) : Bool := decide (mo mu e f = nWo mu e)
theorem nWo_b (mu : jm_M) (e : Int) : 0 ≤ nWo mu e ∧ nWo mu e ≤ 4096 := sW_b (gd_b mu e) 6 0 0
theorem tal_b (mu : jm_M) (e : Int) (q : Nat) : 0 ≤ tal mu e q ∧ tal mu e q ≤ 4096 := sW_b (gq_b mu e q) 6 0 0
theorem mxN_b {h : Nat → Int} (hb : ∀ i, 0 ≤ h i ∧ h i ≤ 4096) : ∀ n : Nat, 0 ≤ mxN h n ∧ mxN h n ≤ 4096
  | 0 => ⟨Int.le_refl 0, show (0 : Int) ≤ 4096 by decide⟩
  | n + 1 => by
    have ih := mxN_b hb n
    have t := hb n
    show 0 ≤ max (mxN h n) (h n) ∧ max (mxN h n) (h n) ≤ 4096
    omega
theorem mo_b (mu : jm_M) (e : Int) (f : Nat) : 0 ≤ mo mu e f ∧ mo mu e f ≤ 4096 := mxN_b (fun v => tal_b mu e (4 * f + v)) 4
theorem asN_b (mu : jm_M) (e : Int) : ∀ n : Nat, asN mu e n < n ∨ asN mu e n = 0
  | 0 => Or.inr rfl
  | n + 1 => by
    have ih := asN_b mu e n
    unfold asN
    split <;> omega
theorem sX9_mostAlike (hC : jm_HC gC) {e : Int} (h5 : ∀ q : Nat, q < 24 → m.1 45 q = tal mu e q) {f : Nat} (hf : f < 6) (h : Q (some (jm_i (mo mu e f))) m) : jm_R l gC (d + 1) iX9_mostAlike [.ref 41, jm_i f] m Q := by
  have lp : ∀ (j k : Nat), k + j = 4 → jm_V l gC (d + 1) iX9_mostAlike 4 [(0, .ref 41), (1, jm_i f), (2, jm_i (mxN (fun v => tal mu e (4 * f + v)) k)), (3, jm_i k)] [] m Q := by
    intro j
    induction j with
    | zero =>
      intro k hk
      have e : k = 4 := by omega
      subst e
      exact bX9_mostAlike_4 hC ⟨⟨by omega, by omega⟩, fun _ => h, fun r => by omega⟩
    | succ j ih =>
      intro k hk
      have b := mxN_b (fun v => tal_b mu e (4 * f + v)) k
      refine bX9_mostAlike_4 hC ⟨⟨by omega, by omega⟩, fun r => by omega, fun _ => ⟨⟨by omega, by omega⟩, ⟨by omega, by omega⟩, fun x4 e4 => ?_⟩⟩
      have nx := ih (k + 1) (by omega)
      rw [show ((k + 1 : Nat) : Int) = (k : Int) + 1 by omega] at nx
      rw [show (f : Int) * 4 + k = ((4 * f + k : Nat) : Int) by omega, h5 _ (by omega)] at e4
      rw [e4]
      exact nx
  exact eX9_mostAlike hC (lp 4 0 (by omega))
theorem sX12_mostIn (hR : jm_HR gR) {e : Int} (h5 : ∀ q : Nat, q < 24 → n.1 29 q = tal mu e q) {f : Nat} (hf : f < 6) (h : Q (some (jm_i (mo mu e f))) n) : jm_R l gR (d + 2) iX12_mostIn [.ref 0, jm_i f] n Q := by
  have lp : ∀ (j k : Nat), k + j = 4 → jm_V l gR (d + 2) iX12_mostIn 4 [(0, .ref 0), (1, jm_i f), (2, jm_i (mxN (fun v => tal mu e (4 * f + v)) k)), (3, jm_i k)] [] n Q := by
    intro j
    induction j with
    | zero =>
      intro k hk
      have e : k = 4 := by omega
      subst e
      exact bX12_mostIn_4 hR ⟨⟨by omega, by omega⟩, fun _ => h, fun r => by omega⟩
    | succ j ih =>
      intro k hk
      have b := mxN_b (fun v => tal_b mu e (4 * f + v)) k
      have b2 := mxN_b (fun v => tal_b mu e (4 * f + v)) (k + 1)
      have b3 := tal_b mu e (4 * f + k)
      have nx := ih (k + 1) (by omega)
      rw [show ((k + 1 : Nat) : Int) = (k : Int) + 1 by omega] at nx
      refine bX12_mostIn_4 hR ⟨⟨by omega, by omega⟩, fun r => by omega, fun _ => ⟨⟨by omega, by omega⟩, ?_⟩⟩
      rw [show 4 * (f : Int) + k = ((4 * f + k : Nat) : Int) by omega, h5 _ (by omega)]
      exact sX12_greater hR ⟨by omega, by omega⟩ ⟨by omega, by omega⟩ (jm_qiI ⟨b2.1 |> fun _ => by unfold mxN at b2; omega, by unfold mxN at b2; omega⟩ nx)
  exact eX12_mostIn hR (lp 4 0 (by omega))
theorem sX9_sureFacts (hC : jm_HC gC) {e : Int} (h5 : ∀ q : Nat, q < 24 → m.1 45 q = tal mu e q) (h : Q (some (jm_i (mkB (suB mu e) 6 : Nat))) m) : jm_R l gC (d + 2) iX9_sureFacts [.ref 41, jm_i (nWo mu e)] m Q := by
  have nb := nWo_b mu e
  have lp : ∀ (j k : Nat), k + j = 6 → jm_V l gC (d + 2) iX9_sureFacts 4 [(0, .ref 41), (1, jm_i (nWo mu e)), (2, jm_i (mkB (suB mu e) k : Nat)), (3, jm_i k)] [] m Q := by
    intro j
    induction j with
    | zero =>
      intro k hk
      have e : k = 6 := by omega
      subst e
      exact bX9_sureFacts_4 hC ⟨⟨by omega, by omega⟩, fun _ => h, fun r => by omega⟩
    | succ j ih =>
      intro k hk
      have b := mo_b mu e k
      have nx := ih (k + 1) (by omega)
      rw [show ((k + 1 : Nat) : Int) = (k : Int) + 1 by omega] at nx
      refine bX9_sureFacts_4 hC ⟨⟨by omega, by omega⟩, fun r => by omega, fun _ => sX9_mostAlike hC h5 (by omega) (jm_qiI ⟨by omega, by omega⟩ ⟨⟨by omega, by omega⟩, fun q => ?_, fun q x7 e7 => ?_⟩)⟩
      · have es : mkB (suB mu e) (k + 1) = mkB (suB mu e) k := if_neg (fun t => q (of_decide_eq_true t))
        rw [es] at nx
        exact nx
      · have es : mkB (suB mu e) (k + 1) = mkB (suB mu e) k ||| 2 ^ k := if_pos (decide_eq_true q)
        rw [es, ← jm_orm _ (by omega), ← e7] at nx
        exact nx
  exact eX9_sureFacts hC (lp 6 0 (by omega))
theorem sX9_factToAsk (hC : jm_HC gC) {e : Int} (h5 : ∀ q : Nat, q < 24 → m.1 45 q = tal mu e q) (h : Q (some (jm_i (if nWo mu e < 2 then -1 else asN mu e 6))) m) : jm_R l gC (d + 2) iX9_factToAsk [.ref 41, jm_i (nWo mu e)] m Q := by
  have nb := nWo_b mu e
  refine eX9_factToAsk hC ⟨⟨by omega, by omega⟩, fun q => ?_, fun q => ?_⟩
  · rw [if_neg (by omega)] at h
    have lp : ∀ (j k : Nat), k + j = 6 → jm_V l gC (d + 2) iX9_factToAsk 11 [(0, .ref 41), (2, jm_i (asN mu e k : Nat)), (3, jm_i k)] [] m Q := by
      intro j
      induction j with
      | zero =>
        intro k hk
        have e : k = 6 := by omega
        subst e
        exact bX9_factToAsk_11 hC ⟨⟨by omega, by omega⟩, fun _ => h, fun r => by omega⟩
      | succ j ih =>
        intro k hk
        have b := mo_b mu e k
        have b2 := mo_b mu e (asN mu e k)
        have ab := asN_b mu e k
        have nx := ih (k + 1) (by omega)
        rw [show ((k + 1 : Nat) : Int) = (k : Int) + 1 by omega] at nx
        refine bX9_factToAsk_11 hC ⟨⟨by omega, by omega⟩, fun r => by omega, fun _ => sX9_mostAlike hC h5 (by omega) (jm_qiI ⟨by omega, by omega⟩ (sX9_mostAlike hC h5 (by omega) (jm_qiI ⟨by omega, by omega⟩ ⟨fun q => ?_, fun q => ?_⟩)))⟩
        · have es : asN mu e (k + 1) = asN mu e k := if_neg (by omega)
          rw [es] at nx
          exact nx
        · have es : asN mu e (k + 1) = k := if_pos q
          rw [es] at nx
          exact nx
    have st := lp 5 1 (by omega)
    have e1 : asN mu e 1 = 0 := if_neg (by
      show ¬ (mo mu e 0 < mo mu e 0)
      omega)
    rw [e1] at st
    exact st
  · rw [if_pos q] at h
    exact h
theorem sX12_liarsIn (hR : jm_HR gR) (hA : IA mu nu) {x : Nat} (hx : x < 4096) (h : Q (some (jm_i (lnr mu x 6))) nu) : jm_R l gR (d + 2) iX12_liarsIn [.ref 0, jm_i x] nu Q := by
  obtain ⟨w0, w8, w4⟩ := hA.1
  have lp : ∀ (j k : Nat), k + j = (mu.1 6 0).toNat → jm_V l gR (d + 2) iX12_liarsIn 4 [(0, .ref 0), (1, jm_i x), (2, jm_i (cnt (fun w => lieN mu w x 6) k)), (3, jm_i k)] [] nu Q := by
    intro j
    induction j with
    | zero =>
      intro k hk
      have e : k = (mu.1 6 0).toNat := by omega
      subst e
      exact bX12_liarsIn_4 hR ⟨⟨by omega, by omega⟩, fun _ => h, fun r => by omega⟩
    | succ j ih =>
      intro k hk
      have nx := ih (k + 1) (by omega)
      rw [show ((k + 1 : Nat) : Int) = (k : Int) + 1 by omega] at nx
      have ip : ∀ (j2 i : Nat), i + j2 = 6 → jm_V l gR (d + 2) iX12_liarsIn 18 [(0, .ref 0), (1, jm_i x), (2, jm_i (cnt (fun w => lieN mu w x 6) k)), (3, jm_i k), (4, jm_i (if lieN mu k x i = true then 1 else 0)), (5, jm_i i)] [] nu Q := by
        intro j2
        induction j2 with
        | zero =>
          intro i hi
          have e : i = 6 := by omega
          subst e
          have es : cnt (fun w => lieN mu w x 6) (k + 1) = cnt (fun w => lieN mu w x 6) k + (if lieN mu k x 6 = true then 1 else 0) := rfl
          rw [es] at nx
          refine bX12_liarsIn_18 hR ⟨⟨by omega, by omega⟩, fun _ => ⟨by split <;> exact ⟨by decide, by decide⟩, fun q => ?_, fun q x3 e3 => ?_⟩, fun r => by omega⟩
          · rw [q, Int.add_zero] at nx
            exact nx
          · have : (if lieN mu k x 6 = true then (1 : Int) else 0) = 1 := by
              split at q
              · rename_i c
                rw [if_pos c]
              · exact absurd rfl q
            rw [this, ← e3] at nx
            exact nx
        | succ j2 ih2 =>
          intro i hi
          have ny := ih2 (i + 1) (by omega)
          rw [show ((i + 1 : Nat) : Int) = (i : Int) + 1 by omega] at ny
          have el : lieN mu k x (i + 1) = (lieN mu k x i || lia mu k i (dg x i)) := rfl
          rw [el] at ny
          have cb := clm_bd hA k i
          refine bX12_liarsIn_18 hR ⟨⟨by omega, by omega⟩, fun r => by omega, fun _ => ⟨⟨by omega, by omega⟩, ?_⟩⟩
          rw [clm_r hA (by omega) (by omega) (by omega) (by omega), dg_of x hx (by omega)]
          refine ⟨⟨by omega, by omega⟩, fun q => ?_, fun q => ⟨⟨by omega, by omega⟩, fun q2 => ?_, fun q2 => ?_⟩⟩
          · rw [show lia mu k i (dg x i) = false from decide_eq_false (fun t => t.1 (by omega)), Bool.or_false] at ny
            exact ny
          · rw [show lia mu k i (dg x i) = false from decide_eq_false (fun t => t.2 (by omega)), Bool.or_false] at ny
            exact ny
          · rw [show lia mu k i (dg x i) = true from decide_eq_true ⟨by omega, by omega⟩, Bool.or_true, if_pos rfl] at ny
            exact ny
      refine bX12_liarsIn_4 hR ⟨⟨by omega, by omega⟩, fun r => by omega, fun _ => ?_⟩
      exact ip 6 0 (by omega)
  exact eX12_liarsIn hR (lp (mu.1 6 0).toNat 0 (by omega))
theorem sX12_findsWorlds (hR : jm_HR gR) (hI : Iv mu nu) {e : Int} (e0 : 0 ≤ e) (e8 : e ≤ 8) (h : ∀ n, jm_aR nu n → (∀ q : Nat, q < 24 → n.1 29 q = tal mu e q) → Q (some (jm_i (nWo mu e))) n) : jm_R l gR (d + 3) iX12_findsWorlds [.ref 0, jm_i e] nu Q := by
  have l2 : ∀ (j k : Nat) (n : jm_M), k + j = 4096 → jm_aR nu n → (∀ q : Nat, q < 24 → n.1 29 q = sN (gq mu e q) k) → jm_V l gR (d + 3) iX12_findsWorlds 25 [(0, .ref 0), (1, jm_i e), (2, jm_i (sN (gd mu e) k)), (3, jm_i k)] [] n Q := by
    intro j
    induction j with
    | zero =>
      intro k n hk a hq
      have ek : k = 4096 := by omega
      subst ek
      have e1 : ∀ p : Nat → Int, sW p 6 0 0 = sN p 4096 := fun p => by
        rw [sW_l]
        show sN (fun t => p (0 + 4 ^ 0 * t)) 4096 = sN p 4096
        exact sN_eq _ (fun t _ => by simp)
      have hh := h n a (fun q c => by rw [hq q c]; exact (e1 _).symm)
      unfold nWo at hh
      rw [e1] at hh
      exact bX12_findsWorlds_25 hR ⟨⟨by omega, by omega⟩, fun _ => hh, fun r => by omega⟩
    | succ j ih =>
      intro k n hk a hq
      have J : Iv mu n := hI.ext (jm_aC.rf mu) a
      have lb : 0 ≤ lnr mu k 6 ∧ lnr mu k 6 ≤ 8 := by
        have := cnt_b (fun w => lieN mu w k 6) (mu.1 6 0).toNat
        have := hI.1.1
        unfold lnr
        omega
      refine bX12_findsWorlds_25 hR ⟨⟨by omega, by omega⟩, fun r => by omega, fun _ => sX12_liarsIn hR J.1 (by omega) (jm_qiI ⟨by omega, by omega⟩ ⟨⟨by omega, by omega⟩, fun q x7 e7 => ?_, fun q => ?_⟩)⟩
      · have eg : gd mu e k = 1 := if_pos q
        have bq : ∀ q : Nat, 0 ≤ sN (gq mu e q) k ∧ sN (gq mu e q) k ≤ k * 1 := fun q => sN_b (gq_b mu e q) k
        have ip : ∀ (j2 i : Nat) (n : jm_M), i + j2 = 6 → jm_aR nu n → (∀ q : Nat, q < 24 → n.1 29 q = sN (gq mu e q) k + (if q / 4 < i then gq mu e q k else 0)) → jm_V l gR (d + 3) iX12_findsWorlds 51 [(0, .ref 0), (1, jm_i e), (2, jm_i x7), (3, jm_i k), (4, jm_i i)] [] n Q := by
          intro j2
          induction j2 with
          | zero =>
            intro i n hi a hq
            have nx := ih (k + 1) n (by omega) a (fun q c => by
              rw [hq q c, if_pos (by omega)]
              rfl)
            rw [show ((k + 1 : Nat) : Int) = (k : Int) + 1 by omega, show sN (gd mu e) (k + 1) = x7 by rw [e7, ← eg]; rfl] at nx
            exact bX12_findsWorlds_51 hR ⟨⟨by omega, by omega⟩, fun _ => nx, fun r => by omega⟩
          | succ j2 ih2 =>
            intro i n hi a hq
            have dl := dg_lt k i
            have eI : 4 * (i : Int) + (dg k i : Nat) = ((4 * i + dg k i : Nat) : Int) := by omega
            have q0 := hq (4 * i + dg k i) (by omega)
            rw [if_neg (by omega)] at q0
            have b0 := bq (4 * i + dg k i)
            refine bX12_findsWorlds_51 hR ⟨⟨by omega, by omega⟩, fun r => by omega, fun _ => ?_⟩
            rw [dg_of k (by omega) (by omega), eI]
            refine ⟨⟨by omega, by omega⟩, ⟨by omega, by omega⟩, fun m4 e4 => ?_⟩
            have nx := ih2 (i + 1) m4 (by omega) (by rw [e4]; exact a.wr rfl (fun r => absurd r (by decide))) (fun q c => ?_)
            · rw [show ((i + 1 : Nat) : Int) = (i : Int) + 1 by omega] at nx
              exact nx
            · rw [e4]
              by_cases z : q = 4 * i + dg k i
              · subst z
                rw [jm_wrS, q0, if_pos (by omega)]
                have : gq mu e (4 * i + dg k i) k = 1 := by
                  unfold gq
                  rw [show (4 * i + dg k i) / 4 = i by omega, show (4 * i + dg k i) % 4 = dg k i by omega, if_pos rfl, eg]
                rw [this]
                omega
              · rw [jm_wrI (by omega), hq q c]
                by_cases y : q / 4 = i
                · have : gq mu e q k = 0 := by
                    unfold gq
                    rw [y, if_neg (by omega)]
                  rw [this]
                  simp
                · by_cases y2 : q / 4 < i
                  · rw [if_pos y2, if_pos (by omega)]
                  · rw [if_neg y2, if_neg (by omega)]
        exact ip 6 0 n (by omega) a (fun q c => by rw [if_neg (by omega), Int.add_zero]; exact hq q c)
      · have eg : gd mu e k = 0 := if_neg (by omega)
        have nx := ih (k + 1) n (by omega) a (fun q c => by
          show n.1 29 q = sN (gq mu e q) k + gq mu e q k
          have : gq mu e q k = 0 := by
            unfold gq
            rw [eg]
            split <;> rfl
          rw [this, Int.add_zero]
          exact hq q c)
        rw [show ((k + 1 : Nat) : Int) = (k : Int) + 1 by omega, show sN (gd mu e) (k + 1) = sN (gd mu e) k + gd mu e k from rfl, eg, Int.add_zero] at nx
        exact nx
  have l1 : ∀ (j k : Nat) (n : jm_M), k + j = 24 → jm_aR nu n → (∀ q : Nat, q < k → n.1 29 q = 0) → jm_V l gR (d + 3) iX12_findsWorlds 4 [(0, .ref 0), (1, jm_i e), (2, jm_i 0), (3, jm_i k)] [] n Q := by
    intro j
    induction j with
    | zero =>
      intro k n hk a hq
      have ek : k = 24 := by omega
      subst ek
      refine bX12_findsWorlds_4 hR ⟨⟨by omega, by omega⟩, fun _ => ?_, fun r => by omega⟩
      exact l2 4096 0 n (by omega) a (fun q c => hq q c)
    | succ j ih =>
      intro k n hk a hq
      refine bX12_findsWorlds_4 hR ⟨⟨by omega, by omega⟩, fun r => by omega, fun _ => ⟨⟨by omega, by omega⟩, fun m3 e3 => ?_⟩⟩
      have nx := ih (k + 1) m3 (by omega) (by rw [e3]; exact a.wr rfl (fun r => absurd r (by decide))) (fun q c => by
        rw [e3]
        by_cases z : q = k
        · subst z
          rw [jm_wrS]
        · rw [jm_wrI (by omega)]
          exact hq q (by omega))
      rw [show ((k + 1 : Nat) : Int) = (k : Int) + 1 by omega] at nx
      exact nx
  exact eX12_findsWorlds hR (l1 24 0 nu (by omega) (jm_aR.rf nu) (fun q c => by omega))
def woA (mu : jm_M) (e what : Int) : Int := if what = 0 then nWo mu e else if what = 1 then (mkB (suB mu e) 6 : Nat) else if nWo mu e < 2 then -1 else asN mu e 6
theorem woA_r (mu : jm_M) (e what : Int) : jm_rg (woA mu e what) := by
  have a := nWo_b mu e
  have b : mkB (suB mu e) 6 < 256 := mkB_256 _ (by decide)
  have c := asN_b mu e 6
  unfold woA
  split
  · exact ⟨by omega, by omega⟩
  · split
    · exact ⟨by omega, by omega⟩
    · split <;> exact ⟨by omega, by omega⟩
theorem lX12_worlds (hR : jm_HR gR) {e what : Int} (r2 : jm_rg what) (w0 : ¬ what = 0) (h5 : ∀ q : Nat, q < 24 → n.1 29 q = tal mu e q) (h : Q (some (jm_i (woA mu e what))) n) (j : Nat) : ∀ k : Nat, k + j = 6 → jm_V l gR (d + 3) iX12_worlds 49 [(0, .ref 0), (2, jm_i what), (3, jm_i (nWo mu e)), (4, jm_i (mkB (suB mu e) k : Nat)), (5, jm_i (asN mu e k : Nat)), (6, jm_i k)] [] n Q := by
  have nb := nWo_b mu e
  unfold woA at h
  rw [if_neg w0] at h
  induction j with
  | zero =>
    intro k hk
    have ek : k = 6 := by omega
    subst ek
    refine bX12_worlds_49 hR ⟨⟨by omega, by omega⟩, fun _ => ⟨r2, fun q => ⟨⟨by omega, by omega⟩, fun q2 => ?_, fun q2 => ?_⟩, fun q => ?_⟩, fun r => by omega⟩
    · rw [if_neg q, if_neg (by omega)] at h
      exact h
    · rw [if_neg q, if_pos q2] at h
      exact h
    · rw [if_pos q] at h
      exact h
  | succ j ih =>
    intro k hk
    have nx := ih (k + 1) (by omega)
    rw [show ((k + 1 : Nat) : Int) = (k : Int) + 1 by omega] at nx
    have b := mo_b mu e k
    have b2 := mo_b mu e (asN mu e k)
    have ab := asN_b mu e k
    have j75 : ∀ s : Int, s = (mkB (suB mu e) (k + 1) : Nat) → jm_V l gR (d + 3) iX12_worlds 75 [(0, .ref 0), (2, jm_i what), (3, jm_i (nWo mu e)), (4, jm_i s), (5, jm_i (asN mu e k : Nat)), (6, jm_i k)] [] n Q := by
      intro s es
      subst es
      refine bX12_worlds_75 hR (sX12_mostIn hR h5 (by omega) (jm_qiI ⟨by omega, by omega⟩ (sX12_mostIn hR h5 (by omega) (jm_qiI ⟨by omega, by omega⟩ ⟨fun q => ?_, fun q => ?_⟩))))
      · have es : asN mu e (k + 1) = asN mu e k := if_neg (by omega)
        rw [es] at nx
        exact nx
      · have es : asN mu e (k + 1) = k := if_pos q
        rw [es] at nx
        exact nx
    refine bX12_worlds_49 hR ⟨⟨by omega, by omega⟩, fun r => by omega, fun _ => sX12_mostIn hR h5 (by omega) (jm_qiI ⟨by omega, by omega⟩ ⟨⟨by omega, by omega⟩, fun q => j75 _ ?_, fun q x9 e9 => j75 _ ?_⟩)⟩
    · have es : mkB (suB mu e) (k + 1) = mkB (suB mu e) k := if_neg (fun t => q (of_decide_eq_true t))
      rw [es]
    · have es : mkB (suB mu e) (k + 1) = mkB (suB mu e) k ||| 2 ^ k := if_pos (decide_eq_true q)
      rw [es, ← jm_orm _ (by omega), ← e9]
theorem sim_worlds (hC : jm_HC gC) (hR : jm_HR gR) (hI : Iv mu nu) (h1 : jm_rg v1) (h2 : jm_rg v2) : jm_sim l gC gR (d + 10) (d + 4) iX11_worlds iX12_worlds [jm_i v1, jm_i v2] mu nu := by
  have I0 := hI.t0
  have fi := jm_fin (z := -1) (y := -1) (F := fun n => Iv mu n) ⟨by decide, by decide⟩ rfl I0
  obtain ⟨w0, w8, -⟩ := hI.1.1
  refine eX11_worlds hC ⟨h1, fun q1 => ⟨h2, fun q2 => ?_, fun q2 => ?_⟩, fun q1 => ?_⟩
  · have rz := woA_r mu v1 v2
    have nb := nWo_b mu v1
    have fin : ∀ m, jm_aC mu m → jm_R l gR (d + 4) iX12_worlds [.ref 0, jm_i v1, jm_i v2] nu (jm_qi fun y n => y = woA mu v1 v2 ∧ Iv m n) := by
      intro m a
      refine eX12_worlds hR (fun n1 e1 => ?_)
      subst e1
      refine ⟨h1, fun _ => ⟨h2, fun _ => ?_, fun r => absurd q2 r⟩, fun r => absurd q1 r⟩
      refine sX12_findsWorlds hR I0 q1.1 q1.2 (fun n a2 h5 => jm_qiI ⟨by omega, by omega⟩ ⟨fun q => ?_, fun q => ?_⟩)
      · exact lX12_worlds hR h2 q h5 (jm_fin rz rfl (I0.ext a a2)) 6 0 (by omega)
      · exact jm_fin rz (by unfold woA; rw [if_pos q]) (I0.ext a a2)
    have b24 : ∀ m : jm_M, (∀ q : Nat, q < 24 → m.1 45 q = 0) → ∀ q : Nat, q < 24 → 0 ≤ m.1 45 q ∧ m.1 45 q ≤ 0 := fun m h q hq => by rw [h q hq]; exact ⟨Int.le_refl 0, Int.le_refl 0⟩
    refine eX9_worldsWith hC ((sX9_tellLiars (d := d) hC hI (fun m a h4 h5 => jm_qvI ?_)).up (by omega))
    have cw := lX9_count (l := l) (gC := gC) (d := d) hC hI q1.1 q1.2 6 0 0 m 0 (jm_qi fun z6 m5 => jm_rg v2 ∧ (¬ v2 = 0 → (¬ v2 = 1 → jm_R l gC (d + 8) iX9_factToAsk [.ref 41, jm_i z6] m5 (jm_qi fun z11 m10 => (jm_qi fun z4 m3 => (jm_qi fun z m => jm_R l gR (d + 4) iX12_worlds [.ref 0, jm_i v1, jm_i v2] nu (jm_qi fun y n => y = z ∧ Iv m n)) (some (jm_i z4)) m3) (some (jm_i z11)) m10)) ∧ (v2 = 1 → jm_R l gC (d + 8) iX9_sureFacts [.ref 41, jm_i z6] m5 (jm_qi fun z15 m14 => (jm_qi fun z4 m3 => (jm_qi fun z m => jm_R l gR (d + 4) iX12_worlds [.ref 0, jm_i v1, jm_i v2] nu (jm_qi fun y n => y = z ∧ Iv m n)) (some (jm_i z4)) m3) (some (jm_i z15)) m14))) ∧ (v2 = 0 → (jm_qi fun z4 m3 => (jm_qi fun z m => jm_R l gR (d + 4) iX12_worlds [.ref 0, jm_i v1, jm_i v2] nu (jm_qi fun y n => y = z ∧ Iv m n)) (some (jm_i z4)) m3) (some (jm_i z6)) m5)) (by omega) (by decide) a h4 (b24 m h5) (Int.le_refl 0) (by decide) (fun m' a' _ k5 _ => ?_)
    · have e : mkB (fun w => lieN mu w 0 0) (mu.1 6 0).toNat = 0 := by
        apply Nat.eq_of_testBit_eq
        intro w
        rw [mkB_eq, Nat.zero_testBit]
        show (decide (w < (mu.1 6 0).toNat) && false) = false
        rw [Bool.and_false]
      rw [e] at cw
      exact cw
    · have h5' : ∀ q : Nat, q < 24 → m'.1 45 q = tal mu v1 q := fun q c => by
        rw [k5 q (by omega) c, h5 q c, Int.zero_add]
        rfl
      have f' := fin m' a'
      unfold woA at f' rz
      refine jm_qiI ⟨nb.1 |> fun _ => by unfold nWo at nb; omega, by unfold nWo at nb; omega⟩ ⟨h2, fun z0 => ⟨fun z1 => ?_, fun z1 => ?_⟩, fun z0 => ?_⟩
      · rw [if_neg z0, if_neg z1] at f' rz
        exact (sX9_factToAsk (d := d) hC h5' (jm_qiI rz (jm_qiI rz (jm_qiI rz f')))).up (by omega)
      · rw [if_neg z0, if_pos z1] at f' rz
        exact (sX9_sureFacts (d := d) hC h5' (jm_qiI rz (jm_qiI rz (jm_qiI rz f')))).up (by omega)
      · rw [if_pos z0] at f' rz
        exact jm_qiI rz (jm_qiI rz f')
  · refine jm_qiI ⟨by decide, by decide⟩ (eX12_worlds hR (fun n1 e1 => ?_))
    subst e1
    exact ⟨h1, fun _ => ⟨h2, fun r => absurd r q2, fun _ => fi⟩, fun r => absurd q1 r⟩
  · refine jm_qiI ⟨by decide, by decide⟩ (eX12_worlds hR (fun n1 e1 => ?_))
    subst e1
    exact ⟨h1, fun r => absurd r q1, fun _ => fi⟩
end WO
