section CA
variable {l : Launch} {gC gR : jm_G} {d : Nat} {mu nu m n : jm_M} {v1 v2 v3 v4 v5 : Int} {Q : Option Value → jm_M → Prop}
theorem sX12_findsKeys0 (hR : jm_HR gR) (hA : IA mu nu) (hM : IM mu nu) (w0 : 0 ≤ v1) (w1 : v1 < mu.1 6 0) (f0 : 0 ≤ v2) (f1 : v2 ≤ 5) (hm : mot mu v1 v2 = -1) (h : ∀ m, jm_aR nu m → m.1 0 48 = 0 → Q none m) : jm_R l gR (d + 5) iX12_findsKeys [.ref 0, jm_i v1, jm_i v2] nu Q := by
  have lp : ∀ (j k : Nat) (m : jm_M), k + j = 60 → jm_aR nu m → m.1 0 48 = 0 → jm_V l gR (d + 5) iX12_findsKeys 17 [(0, .ref 0), (1, jm_i v1), (2, jm_i v2), (3, jm_i k)] [] m Q := by
    intro j
    induction j with
    | zero =>
      intro k m hk a e
      exact bX12_findsKeys_17 hR ⟨⟨by omega, by omega⟩, fun _ => h m a e, fun r => by omega⟩
    | succ j ih =>
      intro k m hk a e
      refine bX12_findsKeys_17 hR ⟨⟨by omega, by omega⟩, fun r => by omega, fun _ => ?_⟩
      refine sX12_isSung hR (hA.ext (jm_aC.rf mu) a) (hM.ext (jm_aC.rf mu) a) w0 w1 f0 f1 ⟨by omega, by omega⟩ (fun s => absurd hm s.1) (fun _ => jm_qiI ⟨by decide, by decide⟩ ⟨fun r => absurd rfl r, fun _ => ?_⟩)
      rw [show ((k : Int) + 1) = ((k + 1 : Nat) : Int) by omega]
      exact ih (k + 1) m (by omega) a e
  refine eX12_findsKeys hR (fun m1 e1 m3 e3 m5 e5 => ?_)
  subst e1
  subst e3
  subst e5
  exact lp 60 0 _ (by decide) ((((jm_aR.rf nu).wr rfl (fun _ => rfl)).wr rfl (fun _ => rfl)).wr rfl (fun _ => rfl)) (by simp [jm_wr])
/-- who can be called for a value of a fact -/
def clb (mu : jm_M) (f v : Int) (w : Nat) : Bool := decide (mot mu w f = f * 4 + v ∧ loK mu w (f * 4 + v) ≤ hiK mu w (f * 4 + v))
def mkB (c : Nat → Bool) : Nat → Nat
  | 0 => 0
  | n + 1 => if c n = true then mkB c n ||| 2 ^ n else mkB c n
theorem mkB_lt (c : Nat → Bool) : ∀ n : Nat, mkB c n < 2 ^ n
  | 0 => Nat.zero_lt_one
  | n + 1 => by
    have ih := mkB_lt c n
    have p : 2 ^ n < 2 ^ (n + 1) := Nat.pow_lt_pow_right (by decide) (by omega)
    unfold mkB
    split
    · exact Nat.or_lt_two_pow (by omega) p
    · omega
theorem mkB_tb (c : Nat → Bool) : ∀ n w : Nat, (mkB c n).testBit w = true → w < n ∧ c w = true
  | 0, w, h => by simp [mkB] at h
  | n + 1, w, h => by
    unfold mkB at h
    split at h
    · rename_i q
      rw [Nat.testBit_or, Bool.or_eq_true] at h
      rcases h with h | h
      · have := mkB_tb c n w h
        exact ⟨by omega, this.2⟩
      · rw [Nat.testBit_two_pow] at h
        have e : n = w := by simpa using h
        subst e
        exact ⟨by omega, q⟩
    · have := mkB_tb c n w h
      exact ⟨by omega, this.2⟩
theorem jm_orm (c : Nat → Bool) {n : Nat} (hn : n < 8) : jm_or (mkB c n : Int) (jm_shl 1 n) = ((mkB c n ||| 2 ^ n : Nat) : Int) := by
  have h1 := mkB_lt c n
  have h2 : 2 ^ n ≤ 2 ^ 8 := Nat.pow_le_pow_right (by decide) (by omega)
  have h3 : (2 : Nat) ^ 8 = 256 := by decide
  have hc : (((2 : Nat) ^ n : Nat) : Int) = (2 : Int) ^ n := Int.natCast_pow 2 n
  rw [jm_shlB n (by omega), ← hc]
  exact jm_orN (by omega) (by show 2 ^ n < 2147483648; omega)
theorem mkB_256 (c : Nat → Bool) {W : Nat} (h : W ≤ 8) : mkB c W < 256 := by
  have h1 := mkB_lt c W
  have h2 : 2 ^ W ≤ 2 ^ 8 := Nat.pow_le_pow_right (by decide) h
  have h3 : (2 : Nat) ^ 8 = 256 := by decide
  omega
def ofw (mu : jm_M) (f v : Int) (w : Int) : Int := if clb mu f v w.toNat = true then wgt mu w f v 0 else 0
theorem ofw_b (mu : jm_M) (f v w : Int) : 0 ≤ ofw mu f v w ∧ ofw mu f v w ≤ 99 := by
  unfold ofw
  split
  · exact wgt_b _ _ _ _ _
  · omega
theorem sX9_callable (hC : jm_HC gC) (hI : Iv mu nu) {f v : Int} (f0 : 0 ≤ f) (f5 : f ≤ 5) (v0 : 0 ≤ v) (v3 : v ≤ 3) (a0 : jm_aC mu m) (h : ∀ m', jm_aC mu m' → (∀ w, 0 ≤ w → w < mu.1 6 0 → m'.1 43 w = ofw mu f v w) → Q (some (jm_i (mkB (clb mu f v) (mu.1 6 0).toNat : Nat))) m') : jm_R l gC (d + 6) iX9_callable [.ref 41, jm_i f, jm_i v] m Q := by
  obtain ⟨w0, w8, -⟩ := hI.1.1
  have lp : ∀ (j k : Nat) (m : jm_M), k + j = (mu.1 6 0).toNat → jm_aC mu m → (∀ w, 0 ≤ w → w < (k : Int) → m.1 43 w = ofw mu f v w) → jm_V l gC (d + 6) iX9_callable 5 [(0, .ref 41), (1, jm_i f), (2, jm_i v), (3, jm_i (mkB (clb mu f v) k : Nat)), (4, jm_i k)] [] m Q := by
    intro j
    induction j with
    | zero =>
      intro k m hk a hc
      have e6 : m.1 6 = mu.1 6 := a.1 6 rfl
      have e : k = (mu.1 6 0).toNat := by omega
      refine bX9_callable_5 hC ⟨⟨by omega, by omega⟩, fun _ => ?_, fun r => by rw [e6] at r; omega⟩
      rw [e]
      exact h m a (fun w a b => hc w a (by omega))
    | succ j ih =>
      intro k m hk a hc
      have e6 : m.1 6 = mu.1 6 := a.1 6 rfl
      have e13 : m.1 13 = mu.1 13 := a.1 13 rfl
      have e14 : m.1 14 = mu.1 14 := a.1 14 rfl
      have J : Iv m nu := hI.ext a (jm_aR.rf nu)
      have em : ∀ x y, mot m x y = mot mu x y := fun x y => by
        unfold mot clm
        rw [e6, e13, a.1 10 rfl]
      have el : ∀ x y, loK m x y = loK mu x y := fun x y => by unfold loK stf nst; rw [a.1 7 rfl, e13, e14]
      have eh : ∀ x y, hiK m x y = hiK mu x y := fun x y => by unfold hiK stf nst; rw [a.1 8 rfl, e13, e14]
      have kW : (k : Int) < mu.1 6 0 := by omega
      have mb := mot_bd hI.1 k f
      refine bX9_callable_5 hC ⟨⟨by omega, by omega⟩, fun r => by rw [e6] at r; omega, fun _ => sX0_motiveOf hC J.1 ⟨by omega, by omega⟩ ⟨by omega, by omega⟩ ?_⟩
      rw [em]
      refine jm_qiI ⟨by omega, by omega⟩ ⟨⟨by omega, by omega⟩, fun m7 e7 => ⟨⟨by omega, by omega⟩, ?_⟩⟩
      have a7 : jm_aC mu m7 := by rw [e7]; exact a.wr rfl rfl
      have none : clb mu f v k = false → jm_V l gC (d + 6) iX9_callable 5 [(0, .ref 41), (1, jm_i f), (2, jm_i v), (3, jm_i (mkB (clb mu f v) k : Nat)), (4, jm_i ((k : Int) + 1))] [] m7 Q := by
        intro hz
        have nx := ih (k + 1) m7 (by omega) a7 ?_
        · have e : mkB (clb mu f v) (k + 1) = mkB (clb mu f v) k := if_neg (by rw [hz]; decide)
          rw [e, show ((k + 1 : Nat) : Int) = (k : Int) + 1 by omega] at nx
          exact nx
        · intro w a b
          rw [e7]
          by_cases q : w = k
          · subst q
            rw [jm_wrS]
            unfold ofw
            rw [if_neg (by rw [Int.toNat_natCast, hz]; decide)]
          · rw [jm_wrI q]
            exact hc w a (by omega)
      refine ⟨fun q => none (decide_eq_false (fun r => q r.1)), fun q => ?_⟩
      rw [q]
      have J7 : Iv m7 nu := hI.ext a7 (jm_aR.rf nu)
      have W7 : m7.1 6 0 = mu.1 6 0 := by rw [a7.1 6 rfl]
      refine sX0_howManyKeys hC J7.1 J7.2.1 (by omega) (by omega) (by omega) (by omega) ?_
      have el7 : loK m7 k (f * 4 + v) = loK mu k (f * 4 + v) := by unfold loK stf nst; rw [a7.1 7 rfl, a7.1 13 rfl, a7.1 14 rfl]
      have eh7 : hiK m7 k (f * 4 + v) = hiK mu k (f * 4 + v) := by unfold hiK stf nst; rw [a7.1 8 rfl, a7.1 13 rfl, a7.1 14 rfl]
      have lb := loK_bd hI.1 hI.2.1 (w := (k : Int)) (m := f * 4 + v) (by omega) kW (by omega) (by omega)
      have hb := hiK_bd hI.1 hI.2.1 (w := (k : Int)) (m := f * 4 + v) (by omega) kW (by omega) (by omega)
      rw [el7, eh7]
      refine jm_qiI ⟨by omega, by omega⟩ ⟨fun r => none (decide_eq_false (fun x => by have := x.2; omega)), fun r => ?_⟩
      have hz : clb mu f v k = true := decide_eq_true ⟨q, by omega⟩
      refine sX0_weightOf hC J7.1 J7.2.2.2.1 J7.2.2.2.2.1 (by omega) (by omega) (by omega) (by omega) ⟨by decide, by decide⟩ (fun m14 t14 => ?_)
      rw [wgt_e a7, show (f * 4 + v) / 4 = f by omega, show (f * 4 + v) % 4 = v by omega]
      have wb := wgt_b mu k f v 0
      refine jm_qiI ⟨by omega, by omega⟩ (fun m18 e18 x20 e20 => ?_)
      have nx := ih (k + 1) m18 (by omega) (by rw [e18]; exact (a7.tr t14.aC).wr rfl rfl) ?_
      · have e : mkB (clb mu f v) (k + 1) = mkB (clb mu f v) k ||| 2 ^ k := if_pos hz
        rw [e, ← jm_orm (clb mu f v) (by omega), show ((k + 1 : Nat) : Int) = (k : Int) + 1 by omega, ← e20] at nx
        exact nx
      · intro w a b
        rw [e18]
        by_cases q : w = k
        · subst q
          rw [jm_wrS]
          unfold ofw
          rw [if_pos (by rw [Int.toNat_natCast]; exact hz)]
        · rw [jm_wrI q, t14 43 (by decide) (by decide), e7, jm_wrI q]
          exact hc w a (by omega)
  exact eX9_callable hC (lp (mu.1 6 0).toNat 0 m (by omega) a0 (fun w a b => by omega))
theorem sX12_singersFor (hR : jm_HR gR) (hI : Iv mu nu) {f v : Int} (f0 : 0 ≤ f) (f5 : f ≤ 5) (v0 : 0 ≤ v) (v3 : v ≤ 3) (h : ∀ n, jm_aR nu n → Q (some (jm_i (mkB (clb mu f v) (mu.1 6 0).toNat : Nat))) n) : jm_R l gR (d + 6) iX12_singersFor [.ref 0, jm_i f, jm_i v] nu Q := by
  obtain ⟨w0, w8, w4⟩ := hI.1.1
  have lp : ∀ (j k : Nat) (n : jm_M), k + j = (mu.1 6 0).toNat → jm_aR nu n → jm_V l gR (d + 6) iX12_singersFor 5 [(0, .ref 0), (1, jm_i f), (2, jm_i v), (3, jm_i (mkB (clb mu f v) k : Nat)), (4, jm_i k)] [] n Q := by
    intro j
    induction j with
    | zero =>
      intro k n hk a
      have J : Iv mu n := hI.ext (jm_aC.rf mu) a
      have e4 := J.1.1.2.2
      have e : k = (mu.1 6 0).toNat := by omega
      refine bX12_singersFor_5 hR ⟨⟨by omega, by omega⟩, fun _ => ?_, fun r => by omega⟩
      rw [e]
      exact h n a
    | succ j ih =>
      intro k n hk a
      have J : Iv mu n := hI.ext (jm_aC.rf mu) a
      have e4 := J.1.1.2.2
      have kW : (k : Int) < mu.1 6 0 := by omega
      have nonR : ∀ n2, jm_aR nu n2 → clb mu f v k = false → jm_V l gR (d + 6) iX12_singersFor 5 [(0, .ref 0), (1, jm_i f), (2, jm_i v), (3, jm_i (mkB (clb mu f v) k : Nat)), (4, jm_i ((k : Int) + 1))] [] n2 Q := by
        intro n2 a2 hz
        have nx := ih (k + 1) n2 (by omega) a2
        have e : mkB (clb mu f v) (k + 1) = mkB (clb mu f v) k := if_neg (by rw [hz]; decide)
        rw [e, show ((k + 1 : Nat) : Int) = (k : Int) + 1 by omega] at nx
        exact nx
      have cb := clm_bd hI.1 k f
      have rest : ∀ n2, jm_aR nu n2 → (0 < n2.1 0 48 ↔ (¬ mot mu k f = -1 ∧ loK mu k (mot mu k f) ≤ hiK mu k (mot mu k f))) → jm_qv (fun m2 => (0 ≤ ((6 * (k : Int)) + f) ∧ ((6 * (k : Int)) + f) < 48) ∧ jm_rg ((m2.1 6 ((6 * (k : Int)) + f)) - 1) ∧ jm_rg v ∧ (¬ ((m2.1 6 ((6 * (k : Int)) + f)) - 1) = v → jm_V l gR (d + 6) iX12_singersFor 5 [(0, .ref 0), (1, jm_i f), (2, jm_i v), (3, jm_i (mkB (clb mu f v) k : Nat)), (4, jm_i ((k : Int) + 1))] [] m2 Q) ∧ (((m2.1 6 ((6 * (k : Int)) + f)) - 1) = v → ((m2.1 0 48) ≤ 0 → jm_V l gR (d + 6) iX12_singersFor 5 [(0, .ref 0), (1, jm_i f), (2, jm_i v), (3, jm_i (mkB (clb mu f v) k : Nat)), (4, jm_i ((k : Int) + 1))] [] m2 Q) ∧ (0 < (m2.1 0 48) → ∀ x9, x9 = (jm_or (mkB (clb mu f v) k : Nat) (jm_shl 1 k)) → jm_V l gR (d + 6) iX12_singersFor 5 [(0, .ref 0), (1, jm_i f), (2, jm_i v), (3, jm_i x9), (4, jm_i ((k : Int) + 1))] [] m2 Q))) none n2 := by
        intro n2 a2 hk
        have J2 : Iv mu n2 := hI.ext (jm_aC.rf mu) a2
        refine jm_qvI ⟨⟨by omega, by omega⟩, ?_⟩
        rw [clm_r J2.1 (by omega) kW f0 f5, show clm mu k f + 1 - 1 = clm mu k f by omega]
        have ec : ¬ mot mu k f = -1 → mot mu k f = f * 4 + clm mu k f := fun q => (mot_in hI.1 q).2.1
        refine ⟨⟨by omega, by omega⟩, ⟨by omega, by omega⟩, fun q => nonR n2 a2 (decide_eq_false (fun r => ?_)), fun q => ⟨fun q2 => nonR n2 a2 (decide_eq_false (fun r => ?_)), fun q2 x9 e9 => ?_⟩⟩
        · have := ec (by omega)
          omega
        · have nm : ¬ mot mu k f = -1 := by have := r.1; omega
          have := hk.2 ⟨nm, by rw [r.1]; exact r.2⟩
          omega
        · have hh := hk.1 q2
          have e1 := ec hh.1
          have em : mot mu k f = f * 4 + v := by omega
          have hz : clb mu f v k = true := decide_eq_true ⟨em, by rw [← em]; exact hh.2⟩
          have nx := ih (k + 1) n2 (by omega) a2
          have e : mkB (clb mu f v) (k + 1) = mkB (clb mu f v) k ||| 2 ^ k := if_pos hz
          rw [e, ← jm_orm (clb mu f v) (by omega), show ((k + 1 : Nat) : Int) = (k : Int) + 1 by omega, ← e9] at nx
          exact nx
      refine bX12_singersFor_5 hR ⟨⟨by omega, by omega⟩, fun r => by omega, fun _ => ?_⟩
      by_cases qm : mot mu k f = -1
      · exact sX12_findsKeys0 hR J.1 J.2.1 (by omega) kW f0 f5 qm (fun n2 a2 e48 => rest n2 (a.tr a2) ⟨fun r => by omega, fun r => absurd qm r.1⟩)
      · exact sX12_findsKeys hR J.1 J.2.1 (by omega) kW f0 f5 qm (fun n2 a2 e48 _ _ => rest n2 (a.tr a2) ⟨fun r => ⟨qm, by omega⟩, fun r => by have := r.2; omega⟩)
  exact eX12_singersFor hR (lp (mu.1 6 0).toNat 0 nu (by omega) (jm_aR.rf nu))
/-- what a set of callers weighs: the class's sum, the reference's sum -/
def smC (mu : jm_M) (f v s : Int) : Int → Int := fun w => bt s w.toNat * ofw mu f v w
def smR (mu : jm_M) (f v s : Int) : Int → Int := fun w => if bt s w.toNat = 1 then wgt mu w f v 0 else 0
theorem smC_b (mu : jm_M) (f v s w : Int) : 0 ≤ smC mu f v s w ∧ smC mu f v s w ≤ 99 := by
  have b := ofw_b mu f v w
  unfold smC
  rcases bt_01 s w.toNat with h | h <;> rw [h] <;> omega
theorem smR_b (mu : jm_M) (f v s w : Int) : 0 ≤ smR mu f v s w ∧ smR mu f v s w ≤ 99 := by
  unfold smR
  split
  · exact wgt_b _ _ _ _ _
  · omega
theorem s99 {f : Int → Int} (h : ∀ k, 0 ≤ f k ∧ f k ≤ 99) : ∀ n : Nat, 0 ≤ abN f n ∧ abN f n ≤ 99 * n
  | 0 => ⟨Int.le_refl 0, Int.le_refl 0⟩
  | n + 1 => by
    have ih := s99 h n
    have t := h n
    rw [← abN_st]
    omega
theorem smCR {f v : Int} {s : Nat} {W : Nat} (hs : s < 256) (W8 : W ≤ 8) (h : jm_and s (jm_xor (mkB (clb mu f v) W : Nat) (-1)) = 0) : abN (smC mu f v s) W = abN (smR mu f v s) W := by
  refine abN_eq _ _ W (fun i hi => ?_)
  show bt (s : Int) ((i : Int)).toNat * ofw mu f v i = if bt (s : Int) ((i : Int)).toNat = 1 then wgt mu i f v 0 else 0
  rw [Int.toNat_natCast]
  rcases bt_01 (s : Int) i with q | q
  · rw [q, Int.zero_mul, if_neg (by decide)]
  · rw [q, Int.one_mul, if_pos rfl]
    have tb : s.testBit i = true := by
      have := bt_tb (s := s) (w := i)
      rw [q] at this
      split at this
      · assumption
      · omega
    have := (mkB_tb (clb mu f v) W i (jm_within hs (mkB_256 _ W8) h i tb)).2
    unfold ofw
    rw [if_pos (by rw [Int.toNat_natCast]; exact this)]
theorem sX9_sumOf (hC : jm_HC gC) (hI : Iv mu nu) {f v : Int} {s : Int} (s0 : 0 ≤ s) (s1 : s < 256) (a : jm_aC mu m) (hm : ∀ w, 0 ≤ w → w < mu.1 6 0 → m.1 43 w = ofw mu f v w) (h : Q (some (jm_i (abN (smC mu f v s) (mu.1 6 0).toNat))) m) : jm_R l gC (d + 1) iX9_sumOf [.ref 41, jm_i s] m Q := by
  obtain ⟨w0, w8, -⟩ := hI.1.1
  have e6 : m.1 6 = mu.1 6 := a.1 6 rfl
  have lp : ∀ (j k : Nat), k + j = (mu.1 6 0).toNat → jm_V l gC (d + 1) iX9_sumOf 4 [(0, .ref 41), (1, jm_i s), (2, jm_i (abN (smC mu f v s) k)), (3, jm_i k)] [] m Q := by
    intro j
    induction j with
    | zero =>
      intro k hk
      have e : k = (mu.1 6 0).toNat := by omega
      refine bX9_sumOf_4 hC ⟨⟨by omega, by omega⟩, fun _ => by rw [e]; exact h, fun r => by rw [e6] at r; omega⟩
    | succ j ih =>
      intro k hk
      refine bX9_sumOf_4 hC ⟨⟨by omega, by omega⟩, fun r => by rw [e6] at r; omega, fun _ => ⟨⟨by omega, by omega⟩, fun x3 e3 => ?_⟩⟩
      rw [jm_bt s0 s1 (by omega) (by omega), hm k (by omega) (by omega)] at e3
      have nx := ih (k + 1) (by omega)
      rw [← abN_st, show ((k + 1 : Nat) : Int) = (k : Int) + 1 by omega] at nx
      rw [e3]
      exact nx
  exact eX9_sumOf hC (lp (mu.1 6 0).toNat 0 (by omega))
/-- the best set among the first n -/
def few (b : Int) : Int := if b = -1 then 9 else pcn b
def clN (mu : jm_M) (f v : Int) : Nat → Int
  | 0 => -1
  | n + 1 => if jm_and n (jm_xor (mkB (clb mu f v) (mu.1 6 0).toNat : Nat) (-1)) = 0 ∧ pcn n < few (clN mu f v n) ∧ msf mu f v ≤ abN (smC mu f v n) (mu.1 6 0).toNat then n else clN mu f v n
theorem clN_b (mu : jm_M) (f v : Int) : ∀ n : Nat, -1 ≤ clN mu f v n ∧ clN mu f v n < n ∨ clN mu f v n = -1
  | 0 => Or.inr rfl
  | n + 1 => by
    have ih := clN_b mu f v n
    unfold clN
    split
    · left; omega
    · omega
theorem lX9_fewest (hC : jm_HC gC) (hI : Iv mu nu) {f v : Int} (a : jm_aC mu m) (hm : ∀ w, 0 ≤ w → w < mu.1 6 0 → m.1 43 w = ofw mu f v w) {N : Nat} (hN : (N : Int) = 2 ^ (mu.1 6 0).toNat) (h : Q (some (jm_i (clN mu f v N))) m) (j : Nat) : ∀ k : Nat, k + j = N → jm_V l gC (d + 2) iX9_fewestCallers 29 [(0, .ref 41), (3, jm_i (msf mu f v)), (4, jm_i (mkB (clb mu f v) (mu.1 6 0).toNat : Nat)), (5, jm_i (clN mu f v k)), (6, jm_i (few (clN mu f v k))), (7, jm_i k)] [] m Q := by
  obtain ⟨w0, w8, -⟩ := hI.1.1
  have p := p256 w8
  have e6 : m.1 6 = mu.1 6 := a.1 6 rfl
  have sh : jm_shl 1 (m.1 6 0) = N := by rw [e6, jm_shl8 w0 w8, hN]
  have mb := msf_b hI f v
  induction j with
  | zero =>
    intro k hk
    have e : k = N := by omega
    subst e
    refine bX9_fewestCallers_29 hC ⟨⟨by omega, by omega⟩, fun _ => h, fun r => by omega⟩
  | succ j ih =>
    intro k hk
    have nx := ih (k + 1) (by omega)
    rw [show ((k + 1 : Nat) : Int) = (k : Int) + 1 by omega] at nx
    have pb := pcn_b k
    have fb : 0 ≤ few (clN mu f v k) ∧ few (clN mu f v k) ≤ 9 := by
      have := pcn_b (clN mu f v k)
      unfold few
      split <;> omega
    have same : ¬ (jm_and k (jm_xor (mkB (clb mu f v) (mu.1 6 0).toNat : Nat) (-1)) = 0 ∧ pcn k < few (clN mu f v k) ∧ msf mu f v ≤ abN (smC mu f v k) (mu.1 6 0).toNat) → jm_V l gC (d + 2) iX9_fewestCallers 29 [(0, .ref 41), (3, jm_i (msf mu f v)), (4, jm_i (mkB (clb mu f v) (mu.1 6 0).toNat : Nat)), (5, jm_i (clN mu f v k)), (6, jm_i (few (clN mu f v k))), (7, jm_i ((k : Int) + 1))] [] m Q := by
      intro q
      have e : clN mu f v (k + 1) = clN mu f v k := if_neg q
      rw [e] at nx
      exact nx
    have sb := s99 (smC_b mu f v k) (mu.1 6 0).toNat
    refine bX9_fewestCallers_29 hC ⟨⟨by omega, by omega⟩, fun r => by omega, fun _ => sJ6_bitCount hC (by omega) (by omega) (jm_qiI ⟨by omega, by omega⟩ ⟨fun q => same (fun r => q r.1), fun q => ⟨⟨by omega, by omega⟩, fun q2 => same (fun r => by have := r.2.1; omega), fun q2 => sX9_sumOf hC hI (by omega) (by omega) a hm (jm_qiI ⟨by omega, by omega⟩ ⟨⟨by omega, by omega⟩, fun q3 => same (fun r => by have := r.2.2; omega), fun q3 => ?_⟩)⟩⟩)⟩
    have e : clN mu f v (k + 1) = k := if_pos ⟨q, q2, q3⟩
    have e2 : few (k : Int) = pcn k := if_neg (by omega)
    rw [e, e2] at nx
    exact nx
theorem lX12_calls (hR : jm_HR gR) (hI : Iv mu nu) {f v what : Int} (f0 : 0 ≤ f) (f5 : f ≤ 5) (v0 : 0 ≤ v) (v3 : v ≤ 3) (r3 : jm_rg what) {N : Nat} (hN : (N : Int) = 2 ^ (mu.1 6 0).toNat) (h : ∀ n, jm_aR nu n → Q (some (jm_i (if clN mu f v N = -1 then -1 else if what = 1 then clN mu f v N else pcn (clN mu f v N)))) n) (j : Nat) : ∀ (k : Nat) (n : jm_M), k + j = N → jm_aR nu n → jm_V l gR (d + 9) iX12_calls 49 [(0, .ref 0), (1, jm_i f), (2, jm_i v), (3, jm_i what), (4, jm_i (mkB (clb mu f v) (mu.1 6 0).toNat : Nat)), (5, jm_i (clN mu f v k)), (6, jm_i k)] [] n Q := by
  obtain ⟨w0, w8, -⟩ := hI.1.1
  have p := p256 w8
  induction j with
  | zero =>
    intro k n hk a
    have J : Iv mu n := hI.ext (jm_aC.rf mu) a
    have sh : jm_shl 1 (n.1 0 4) = N := by rw [J.1.1.2.2, jm_shl8 w0 w8, hN]
    have e : k = N := by omega
    subst e
    have hh := h n a
    have cb := clN_b mu f v k
    have pb := pcn_b (clN mu f v k)
    refine bX12_calls_49 hR ⟨⟨by omega, by omega⟩, fun _ => ⟨⟨by omega, by omega⟩, fun q => ?_, fun q => ⟨r3, fun q2 => ?_, fun q2 => ?_⟩⟩, fun r => by omega⟩
    · rw [if_pos q] at hh
      rw [q]
      exact hh
    · rw [if_neg q, if_neg q2] at hh
      exact sX12_onesOf hR (by omega) (by omega) (jm_qiI ⟨by omega, by omega⟩ hh)
    · rw [if_neg q, if_pos q2] at hh
      exact hh
  | succ j ih =>
    intro k n hk a
    have J : Iv mu n := hI.ext (jm_aC.rf mu) a
    have sh : jm_shl 1 (n.1 0 4) = N := by rw [J.1.1.2.2, jm_shl8 w0 w8, hN]
    have cb := clN_b mu f v k
    have pk := pcn_b k
    have pb := pcn_b (clN mu f v k)
    have same : ∀ n2, jm_aR nu n2 → ¬ (jm_and k (jm_xor (mkB (clb mu f v) (mu.1 6 0).toNat : Nat) (-1)) = 0 ∧ pcn k < few (clN mu f v k) ∧ msf mu f v ≤ abN (smC mu f v k) (mu.1 6 0).toNat) → jm_V l gR (d + 9) iX12_calls 49 [(0, .ref 0), (1, jm_i f), (2, jm_i v), (3, jm_i what), (4, jm_i (mkB (clb mu f v) (mu.1 6 0).toNat : Nat)), (5, jm_i (clN mu f v k)), (6, jm_i ((k : Int) + 1))] [] n2 Q := by
      intro n2 a2 q
      have nx := ih (k + 1) n2 (by omega) a2
      have e : clN mu f v (k + 1) = clN mu f v k := if_neg q
      rw [e, show ((k + 1 : Nat) : Int) = (k : Int) + 1 by omega] at nx
      exact nx
    have inner : jm_and k (jm_xor (mkB (clb mu f v) (mu.1 6 0).toNat : Nat) (-1)) = 0 → pcn k < few (clN mu f v k) → jm_V l gR (d + 9) iX12_calls 100 [(0, .ref 0), (1, jm_i f), (2, jm_i v), (3, jm_i what), (4, jm_i (mkB (clb mu f v) (mu.1 6 0).toNat : Nat)), (5, jm_i (clN mu f v k)), (6, jm_i k), (7, jm_i 0), (8, jm_i 0)] [] n Q := by
      intro q q2
      have eCR : abN (smC mu f v k) (mu.1 6 0).toNat = abN (smR mu f v k) (mu.1 6 0).toNat := smCR (by omega) (by omega) q
      have ip : ∀ (j2 i : Nat) (n2 : jm_M), i + j2 = (mu.1 6 0).toNat → jm_aR nu n2 → jm_V l gR (d + 9) iX12_calls 100 [(0, .ref 0), (1, jm_i f), (2, jm_i v), (3, jm_i what), (4, jm_i (mkB (clb mu f v) (mu.1 6 0).toNat : Nat)), (5, jm_i (clN mu f v k)), (6, jm_i k), (7, jm_i (abN (smR mu f v k) i)), (8, jm_i i)] [] n2 Q := by
        intro j2
        induction j2 with
        | zero =>
          intro i n2 hi a2
          have J2 : Iv mu n2 := hI.ext (jm_aC.rf mu) a2
          have e4 := J2.1.1.2.2
          have e : i = (mu.1 6 0).toNat := by omega
          have sb := s99 (smR_b mu f v k) i
          refine bX12_calls_100 hR ⟨⟨by omega, by omega⟩, fun _ => ?_, fun r => by omega⟩
          rw [e] at sb ⊢
          refine sX12_isFoundWith hR J2 f0 f5 v0 v3 (by omega) (by omega) (fun n3 t3 q3 => jm_qiI ⟨by decide, by decide⟩ ⟨fun r => absurd r (by decide), fun _ => ?_⟩) (fun n3 t3 q3 => jm_qiI ⟨by decide, by decide⟩ ⟨fun _ => same n3 (a2.tr t3.aR) (fun r => q3 (by rw [← eCR]; exact r.2.2)), fun r => absurd rfl r⟩)
          have nx := ih (k + 1) n3 (by omega) (a2.tr t3.aR)
          have e2 : clN mu f v (k + 1) = k := if_pos ⟨q, q2, by rw [eCR]; exact q3⟩
          rw [e2, show ((k + 1 : Nat) : Int) = (k : Int) + 1 by omega] at nx
          exact nx
        | succ j2 ih2 =>
          intro i n2 hi a2
          have J2 : Iv mu n2 := hI.ext (jm_aC.rf mu) a2
          have e4 := J2.1.1.2.2
          have iW : (i : Int) < mu.1 6 0 := by omega
          have eb : jm_and (jm_shr k i) 1 = bt k i := by
            have := jm_bt (s := (k : Int)) (w := (i : Int)) (by omega) (by omega) (by omega) (by omega)
            rwa [Int.toNat_natCast] at this
          have es : smR mu f v k i = if bt k i = 1 then wgt mu i f v 0 else 0 := by
            show (if bt (k : Int) ((i : Int)).toNat = 1 then wgt mu i f v 0 else 0) = _
            rw [Int.toNat_natCast]
          refine bX12_calls_100 hR ⟨⟨by omega, by omega⟩, fun r => by omega, fun _ => ?_⟩
          rw [eb]
          refine ⟨fun r => ?_, fun r => ?_⟩
          · have nx := ih2 (i + 1) n2 (by omega) a2
            rw [← abN_st, es, if_neg r, Int.add_zero, show ((i + 1 : Nat) : Int) = (i : Int) + 1 by omega] at nx
            exact nx
          · have wb := wgt_b mu i f v 0
            refine sX12_weighOf hR J2.1 J2.2.2.2.1 J2.2.2.2.2.1 (by omega) iW ⟨by omega, by omega⟩ ⟨by omega, by omega⟩ ⟨by decide, by decide⟩ (fun n3 t3 => jm_qiI ⟨by omega, by omega⟩ (fun x10 e10 => ?_))
            have nx := ih2 (i + 1) n3 (by omega) (a2.tr t3.aR)
            rw [← abN_st, es, if_pos r, show ((i + 1 : Nat) : Int) = (i : Int) + 1 by omega] at nx
            rw [e10]
            exact nx
      exact ip (mu.1 6 0).toNat 0 n (by omega) a
    refine bX12_calls_49 hR ⟨⟨by omega, by omega⟩, fun r => by omega, fun _ => ⟨fun q => same n a (fun r => q r.1), fun q => ⟨⟨by omega, by omega⟩, fun q2 => inner q ?_, fun q2 => ?_⟩⟩⟩
    · unfold few
      rw [if_pos q2]
      omega
    · have ef : few (clN mu f v k) = pcn (clN mu f v k) := if_neg q2
      refine sX12_onesOf hR (by omega) (by omega) (jm_qiI ⟨by omega, by omega⟩ (sX12_onesOf hR (by omega) (by omega) (jm_qiI ⟨by omega, by omega⟩ ⟨fun r => inner q (by omega), fun r => same n a (fun x => by have := x.2.1; omega)⟩)))
theorem sim_calls (hC : jm_HC gC) (hR : jm_HR gR) (hI : Iv mu nu) (h1 : jm_rg v1) (h2 : jm_rg v2) (h3 : jm_rg v3) : jm_sim l gC gR (d + 10) (d + 9) iX11_calls iX12_calls [jm_i v1, jm_i v2, jm_i v3] mu nu := by
  have I0 := hI.t0
  have fi := jm_fin (z := -1) (y := -1) (F := fun n => Iv mu n) ⟨by decide, by decide⟩ rfl I0
  obtain ⟨w0, w8, -⟩ := hI.1.1
  have p := p256 w8
  refine eX11_calls hC ⟨h1, fun q1 => ⟨h2, fun q2 => ⟨h3, fun q3 => ?_, fun q3 => ?_⟩, fun q2 => ?_⟩, fun q1 => ?_⟩
  · obtain ⟨N, hN⟩ : ∃ N : Nat, (N : Int) = 2 ^ (mu.1 6 0).toNat := ⟨2 ^ (mu.1 6 0).toNat, Int.natCast_pow 2 _⟩
    have cb := clN_b mu v1 v2 N
    have pb := pcn_b (clN mu v1 v2 N)
    have mb := msf_b hI v1 v2
    have rz : jm_rg (if clN mu v1 v2 N = -1 then -1 else if v3 = 1 then clN mu v1 v2 N else pcn (clN mu v1 v2 N)) := by
      split
      · exact ⟨by decide, by decide⟩
      · split <;> exact ⟨by omega, by omega⟩
    have mk : mkB (clb mu v1 v2) (mu.1 6 0).toNat < 256 := mkB_256 _ (by omega)
    have fin : ∀ m, jm_aC mu m → jm_R l gR (d + 9) iX12_calls [.ref 0, jm_i v1, jm_i v2, jm_i v3] nu (jm_qi fun y n => y = (if clN mu v1 v2 N = -1 then -1 else if v3 = 1 then clN mu v1 v2 N else pcn (clN mu v1 v2 N)) ∧ Iv m n) := by
      intro m a
      refine eX12_calls hR (fun n1 e1 => ?_)
      subst e1
      refine ⟨h1, fun _ => ⟨h2, fun _ => ⟨h3, fun _ => ?_, fun r => absurd q3 r⟩, fun r => absurd q2 r⟩, fun r => by omega⟩
      refine sX12_singersFor hR I0 q1.1 q1.2 q2.1 q2.2 (fun n a' => jm_qiI ⟨by omega, by omega⟩ ?_)
      exact lX12_calls hR I0 q1.1 q1.2 q2.1 q2.2 h3 hN (fun n2 a2 => jm_fin rz rfl (I0.ext a a2)) N 0 n (by omega) a'
    refine eX9_fewestCallers hC (sX9_weighAll hC hI h1 (fun m a hm => jm_qvI (sX9_missingFor hC hI a hm q2.1 q2.2 (jm_qiI ⟨by omega, by omega⟩ (sX9_callable hC hI q1.1 q1.2 q2.1 q2.2 a (fun m' a' hm' => jm_qiI ⟨by omega, by omega⟩ ?_))))))
    refine lX9_fewest hC hI a' hm' hN (jm_qiI ⟨by omega, by omega⟩ ⟨fun r => ?_, fun r => ⟨fun r2 => ?_, fun r2 => ?_⟩⟩) N 0 (by omega)
    · have e : (if clN mu v1 v2 N = -1 then -1 else if v3 = 1 then clN mu v1 v2 N else pcn (clN mu v1 v2 N)) = clN mu v1 v2 N := by
        rw [if_pos (show v3 = 1 by omega)]
        split <;> omega
      rw [e] at rz fin
      exact jm_qiI rz (fin m' a')
    · have e : (if clN mu v1 v2 N = -1 then -1 else if v3 = 1 then clN mu v1 v2 N else pcn (clN mu v1 v2 N)) = clN mu v1 v2 N := by rw [if_pos r2, r2]
      rw [e] at rz fin
      exact jm_qiI rz (fin m' a')
    · have e : (if clN mu v1 v2 N = -1 then -1 else if v3 = 1 then clN mu v1 v2 N else pcn (clN mu v1 v2 N)) = pcn (clN mu v1 v2 N) := by rw [if_neg r2, if_neg (by omega)]
      rw [e] at rz fin
      exact sJ6_bitCount hC (by omega) (by omega) (jm_qiI rz (jm_qiI rz (fin m' a')))
  · refine jm_qiI ⟨by decide, by decide⟩ (eX12_calls hR (fun n1 e1 => ?_))
    subst e1
    exact ⟨h1, fun _ => ⟨h2, fun _ => ⟨h3, fun r => absurd r q3, fun _ => fi⟩, fun r => absurd q2 r⟩, fun r => by omega⟩
  · refine jm_qiI ⟨by decide, by decide⟩ (eX12_calls hR (fun n1 e1 => ?_))
    subst e1
    exact ⟨h1, fun _ => ⟨h2, fun r => absurd r q2, fun _ => fi⟩, fun r => by omega⟩
  · refine jm_qiI ⟨by decide, by decide⟩ (eX12_calls hR (fun n1 e1 => ?_))
    subst e1
    exact ⟨h1, fun r => by omega, fun _ => fi⟩
end CA
