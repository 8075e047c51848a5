section KY
variable {l : Launch} {gC gR : jm_G} {d : Nat} {mu nu : jm_M} {v1 v2 v3 v4 v5 : Int} {Q : Option Value → jm_M → Prop}
/-- how far the i-th note lies above the first; how far a motive rises and falls -/
def abN (f : Int → Int) : Nat → Int
  | 0 => 0
  | n + 1 => abN f n + f n
def riN (f : Int → Int) : Nat → Int
  | 0 => 0
  | n + 1 => max (riN f n) (abN f (n + 1))
def faN (f : Int → Int) : Nat → Int
  | 0 => 0
  | n + 1 => max (faN f n) (-(abN f (n + 1)))
theorem riN_le (f : Int → Int) : ∀ n i : Nat, i ≤ n → abN f i ≤ riN f n
  | 0, i, h => by
    have : i = 0 := by omega
    subst this
    exact Int.le_refl 0
  | n + 1, i, h => by
    by_cases e : i = n + 1
    · subst e
      show _ ≤ max _ _
      omega
    · have := riN_le f n i (by omega)
      show _ ≤ max _ _
      omega
theorem faN_le (f : Int → Int) : ∀ n i : Nat, i ≤ n → -(abN f i) ≤ faN f n
  | 0, i, h => by
    have : i = 0 := by omega
    subst this
    exact Int.le_refl 0
  | n + 1, i, h => by
    by_cases e : i = n + 1
    · subst e
      show _ ≤ max _ _
      omega
    · have := faN_le f n i (by omega)
      show _ ≤ max _ _
      omega
theorem riN_ex (f : Int → Int) : ∀ n : Nat, ∃ i, i ≤ n ∧ abN f i = riN f n
  | 0 => ⟨0, Nat.le_refl 0, rfl⟩
  | n + 1 => by
    obtain ⟨i, h1, h2⟩ := riN_ex f n
    by_cases e : riN f n ≤ abN f (n + 1)
    · exact ⟨n + 1, Nat.le_refl _, by show _ = max _ _; omega⟩
    · exact ⟨i, by omega, by show _ = max _ _; omega⟩
theorem faN_ex (f : Int → Int) : ∀ n : Nat, ∃ i, i ≤ n ∧ -(abN f i) = faN f n
  | 0 => ⟨0, Nat.le_refl 0, rfl⟩
  | n + 1 => by
    obtain ⟨i, h1, h2⟩ := faN_ex f n
    by_cases e : faN f n ≤ -(abN f (n + 1))
    · exact ⟨n + 1, Nat.le_refl _, by show _ = max _ _; omega⟩
    · exact ⟨i, by omega, by show _ = max _ _; omega⟩
theorem abN_bd (f : Int → Int) (N : Nat) (hf : ∀ i : Nat, i < N → -24 ≤ f i ∧ f i ≤ 24) : ∀ n : Nat, n ≤ N → -(24 * n) ≤ abN f n ∧ abN f n ≤ 24 * n
  | 0, _ => ⟨Int.le_refl 0, Int.le_refl 0⟩
  | n + 1, h => by
    have h1 := abN_bd f N hf n (by omega)
    have h2 := hf n (by omega)
    show _ ≤ abN f n + f n ∧ abN f n + f n ≤ _
    omega
theorem riN_bd (f : Int → Int) (N : Nat) (hf : ∀ i : Nat, i < N → -24 ≤ f i ∧ f i ≤ 24) : ∀ n : Nat, n ≤ N → 0 ≤ riN f n ∧ riN f n ≤ 24 * n
  | 0, _ => ⟨Int.le_refl 0, Int.le_refl 0⟩
  | n + 1, h => by
    have h1 := riN_bd f N hf n (by omega)
    have h2 := abN_bd f N hf (n + 1) h
    show _ ≤ max _ _ ∧ max _ _ ≤ _
    omega
theorem faN_bd (f : Int → Int) (N : Nat) (hf : ∀ i : Nat, i < N → -24 ≤ f i ∧ f i ≤ 24) : ∀ n : Nat, n ≤ N → 0 ≤ faN f n ∧ faN f n ≤ 24 * n
  | 0, _ => ⟨Int.le_refl 0, Int.le_refl 0⟩
  | n + 1, h => by
    have h1 := faN_bd f N hf n (by omega)
    have h2 := abN_bd f N hf (n + 1) h
    show _ ≤ max _ _ ∧ max _ _ ≤ _
    omega
def stf (mu : jm_M) (w : Int) : Int → Int := fun i => mu.1 14 (w * 7 + i)
/-- how many steps a motive has -/
def nst (mu : jm_M) (w : Int) : Nat := (mu.1 13 w - 1).toNat
theorem stf_bd (hM : IM mu nu) {w : Int} (h0 : 0 ≤ w) (h1 : w < 24) : ∀ i : Nat, i < nst mu w → -24 ≤ stf mu w i ∧ stf mu w i ≤ 24 := fun i hi => by
  have := hM.2.2 w i h0 h1 (by omega) (by unfold nst at hi; omega)
  exact ⟨this.1, this.2.1⟩
theorem nst_le (hM : IM mu nu) {w : Int} (h0 : 0 ≤ w) (h1 : w < 24) : nst mu w ≤ 7 := by
  have := hM.2.1 w h0 h1
  unfold nst
  omega
theorem lX5_rise (hC : jm_HC gC) (hM : IM mu nu) (h0 : 0 ≤ v1) (h1 : v1 < 24) (n : Nat) : ∀ k : Nat, k + n = nst mu v1 → Q (some (jm_i (riN (stf mu v1) (nst mu v1)))) mu → jm_V l gC (d + 3) iX5_rise 7 [(0, .ref 12), (1, jm_i v1), (2, jm_i (riN (stf mu v1) k)), (3, jm_i (abN (stf mu v1) k)), (4, jm_i k)] [] mu Q := by
  have bn := hM.2.1 v1 h0 h1
  have b7 := nst_le hM h0 h1
  have sb := stf_bd hM h0 h1
  induction n with
  | zero =>
    intro k hk h
    refine bX5_rise_7 hC ⟨⟨h0, h1⟩, ⟨by omega, by omega⟩, ⟨by omega, by omega⟩, fun _ => ?_, fun r => ?_⟩
    · rw [show k = nst mu v1 by omega]; exact h
    · unfold nst at hk; omega
  | succ n ih =>
    intro k hk h
    have hk2 : (k : Int) < mu.1 13 v1 - 1 := by unfold nst at hk; omega
    have q1 := abN_bd _ _ sb k (by omega)
    have q2 := riN_bd _ _ sb k (by omega)
    have q3 := abN_bd _ _ sb (k + 1) (by omega)
    refine bX5_rise_7 hC ⟨⟨h0, h1⟩, ⟨by omega, by omega⟩, ⟨by omega, by omega⟩, fun r => by omega, fun _ => ?_⟩
    refine sX5_stepOf hC ⟨h0, by omega⟩ ⟨by omega, by omega⟩ (jm_qiI ?_ ?_)
    · have := sb k (by omega)
      unfold stf at this
      exact ⟨by omega, by omega⟩
    · intro x8 e8
      have e9 : x8 = abN (stf mu v1) (k + 1) := e8
      refine ⟨⟨by omega, by omega⟩, ⟨by omega, by omega⟩, fun x11 e11 => ?_⟩
      have e12 : x11 = riN (stf mu v1) (k + 1) := by rw [e11, e9]; rfl
      rw [e12, e9]
      exact ih (k + 1) (by omega) h
theorem lX5_fall (hC : jm_HC gC) (hM : IM mu nu) (h0 : 0 ≤ v1) (h1 : v1 < 24) (n : Nat) : ∀ k : Nat, k + n = nst mu v1 → Q (some (jm_i (faN (stf mu v1) (nst mu v1)))) mu → jm_V l gC (d + 3) iX5_fall 7 [(0, .ref 12), (1, jm_i v1), (2, jm_i (faN (stf mu v1) k)), (3, jm_i (-(abN (stf mu v1) k))), (4, jm_i k)] [] mu Q := by
  have bn := hM.2.1 v1 h0 h1
  have b7 := nst_le hM h0 h1
  have sb := stf_bd hM h0 h1
  induction n with
  | zero =>
    intro k hk h
    refine bX5_fall_7 hC ⟨⟨h0, h1⟩, ⟨by omega, by omega⟩, ⟨by omega, by omega⟩, fun _ => ?_, fun r => ?_⟩
    · rw [show k = nst mu v1 by omega]; exact h
    · unfold nst at hk; omega
  | succ n ih =>
    intro k hk h
    have hk2 : (k : Int) < mu.1 13 v1 - 1 := by unfold nst at hk; omega
    have q1 := abN_bd _ _ sb k (by omega)
    have q2 := faN_bd _ _ sb k (by omega)
    have q3 := abN_bd _ _ sb (k + 1) (by omega)
    refine bX5_fall_7 hC ⟨⟨h0, h1⟩, ⟨by omega, by omega⟩, ⟨by omega, by omega⟩, fun r => by omega, fun _ => ?_⟩
    refine sX5_stepOf hC ⟨h0, by omega⟩ ⟨by omega, by omega⟩ (jm_qiI ?_ ?_)
    · have := sb k (by omega)
      unfold stf at this
      exact ⟨by omega, by omega⟩
    · intro x8 e8
      have e9 : x8 = -(abN (stf mu v1) (k + 1)) := by
        rw [e8]
        show _ = -(abN (stf mu v1) k + stf mu v1 k)
        unfold stf
        omega
      refine ⟨⟨by omega, by omega⟩, ⟨by omega, by omega⟩, fun x11 e11 => ?_⟩
      have e12 : x11 = faN (stf mu v1) (k + 1) := by rw [e11, e9]; rfl
      rw [e12, e9]
      exact ih (k + 1) (by omega) h
theorem sX5_rise (hC : jm_HC gC) (hM : IM mu nu) (h0 : 0 ≤ v1) (h1 : v1 < 24) (h : Q (some (jm_i (riN (stf mu v1) (nst mu v1)))) mu) : jm_R l gC (d + 3) iX5_rise [.ref 12, jm_i v1] mu Q := eX5_rise hC (lX5_rise hC hM h0 h1 (nst mu v1) 0 (by omega) h)
theorem sX5_fall (hC : jm_HC gC) (hM : IM mu nu) (h0 : 0 ≤ v1) (h1 : v1 < 24) (h : Q (some (jm_i (faN (stf mu v1) (nst mu v1)))) mu) : jm_R l gC (d + 3) iX5_fall [.ref 12, jm_i v1] mu Q := eX5_fall hC (lX5_fall hC hM h0 h1 (nst mu v1) 0 (by omega) h)
/-- the lowest and the highest key -/
def loK (mu : jm_M) (w m : Int) : Int := mu.1 7 w - 1 + faN (stf mu m) (nst mu m)
def hiK (mu : jm_M) (w m : Int) : Int := mu.1 8 w - 1 - riN (stf mu m) (nst mu m)
theorem loK_bd (hA : IA mu nu) (hM : IM mu nu) {w m : Int} (w0 : 0 ≤ w) (w1 : w < mu.1 6 0) (m0 : 0 ≤ m) (m1 : m < 24) : 0 ≤ loK mu w m ∧ loK mu w m ≤ 300 := by
  have a := hA.2.1 w w0 w1
  have b := faN_bd _ _ (stf_bd hM m0 m1) (nst mu m) (Nat.le_refl _)
  have c := nst_le hM m0 m1
  unfold loK
  omega
theorem hiK_bd (hA : IA mu nu) (hM : IM mu nu) {w m : Int} (w0 : 0 ≤ w) (w1 : w < mu.1 6 0) (m0 : 0 ≤ m) (m1 : m < 24) : -300 ≤ hiK mu w m ∧ hiK mu w m ≤ 59 := by
  have a := hA.2.1 w w0 w1
  have b := riN_bd _ _ (stf_bd hM m0 m1) (nst mu m) (Nat.le_refl _)
  have c := nst_le hM m0 m1
  unfold hiK
  omega
theorem sX0_lowestKey (hC : jm_HC gC) (hA : IA mu nu) (hM : IM mu nu) (w0 : 0 ≤ v1) (w1 : v1 < mu.1 6 0) (m0 : 0 ≤ v2) (m1 : v2 < 24) (h : Q (some (jm_i (loK mu v1 v2))) mu) : jm_R l gC (d + 4) iX0_lowestKey [.ref 35, jm_i v1, jm_i v2] mu Q := by
  have b := faN_bd _ _ (stf_bd hM m0 m1) (nst mu v2) (Nat.le_refl _)
  have c := nst_le hM m0 m1
  have w8 := hA.1.2.1
  exact eX0_lowestKey hC ⟨⟨w0, by omega⟩, sX5_fall hC hM m0 m1 (jm_qiI ⟨by omega, by omega⟩ h)⟩
theorem sX0_highestKey (hC : jm_HC gC) (hA : IA mu nu) (hM : IM mu nu) (w0 : 0 ≤ v1) (w1 : v1 < mu.1 6 0) (m0 : 0 ≤ v2) (m1 : v2 < 24) (h : Q (some (jm_i (hiK mu v1 v2))) mu) : jm_R l gC (d + 4) iX0_highestKey [.ref 35, jm_i v1, jm_i v2] mu Q := by
  have b := riN_bd _ _ (stf_bd hM m0 m1) (nst mu v2) (Nat.le_refl _)
  have c := nst_le hM m0 m1
  have w8 := hA.1.2.1
  exact eX0_highestKey hC ⟨⟨w0, by omega⟩, sX5_rise hC hM m0 m1 (jm_qiI ⟨by omega, by omega⟩ h)⟩
theorem sX0_howManyKeys (hC : jm_HC gC) (hA : IA mu nu) (hM : IM mu nu) (w0 : 0 ≤ v1) (w1 : v1 < mu.1 6 0) (m0 : 0 ≤ v2) (m1 : v2 < 24) (h : Q (some (jm_i (max 0 (hiK mu v1 v2 - loK mu v1 v2 + 1)))) mu) : jm_R l gC (d + 5) iX0_howManyKeys [.ref 35, jm_i v1, jm_i v2] mu Q := by
  have a := loK_bd hA hM w0 w1 m0 m1
  have b := hiK_bd hA hM w0 w1 m0 m1
  exact eX0_howManyKeys hC (sX0_highestKey hC hA hM w0 w1 m0 m1 (jm_qiI ⟨by omega, by omega⟩ (sX0_lowestKey hC hA hM w0 w1 m0 m1 (jm_qiI ⟨by omega, by omega⟩ ⟨⟨by omega, by omega⟩, h⟩))))
/-- a witness's claim of a fact, and its motive -/
def clm (mu : jm_M) (w f : Int) : Int := if (0 ≤ w ∧ w < mu.1 6 0) ∧ 0 ≤ f ∧ f ≤ 5 then mu.1 10 (w * 6 + f) else -1
def mot (mu : jm_M) (w f : Int) : Int := if clm mu w f = -1 ∨ mu.1 13 (f * 4 + clm mu w f) = 0 then -1 else f * 4 + clm mu w f
theorem clm_bd (hA : IA mu nu) (w f : Int) : -1 ≤ clm mu w f ∧ clm mu w f ≤ 3 := by
  unfold clm
  split
  · rename_i h
    have := hA.2.2.1 (w * 6 + f) (by omega) (by omega)
    omega
  · omega
theorem clm_in {w f : Int} (h : ¬ clm mu w f = -1) : (0 ≤ w ∧ w < mu.1 6 0) ∧ 0 ≤ f ∧ f ≤ 5 := by
  by_cases q : (0 ≤ w ∧ w < mu.1 6 0) ∧ 0 ≤ f ∧ f ≤ 5
  · exact q
  · unfold clm at h
    rw [if_neg q] at h
    exact absurd rfl h
theorem mot_in (hA : IA mu nu) {w f : Int} (h : ¬ mot mu w f = -1) : ((0 ≤ w ∧ w < mu.1 6 0) ∧ 0 ≤ f ∧ f ≤ 5) ∧ mot mu w f = f * 4 + clm mu w f ∧ ¬ clm mu w f = -1 ∧ (0 ≤ mot mu w f ∧ mot mu w f < 24) ∧ ¬ mu.1 13 (mot mu w f) = 0 := by
  unfold mot at h ⊢
  by_cases q : clm mu w f = -1 ∨ mu.1 13 (f * 4 + clm mu w f) = 0
  · rw [if_pos q] at h
    exact absurd rfl h
  · rw [if_neg q]
    have q1 : ¬ clm mu w f = -1 := fun r => q (Or.inl r)
    have a := clm_in q1
    have b := clm_bd hA w f
    exact ⟨a, rfl, q1, by omega, fun r => q (Or.inr r)⟩
theorem mot_bd (hA : IA mu nu) (w f : Int) : -1 ≤ mot mu w f ∧ mot mu w f < 24 := by
  by_cases q : mot mu w f = -1
  · omega
  · have := mot_in hA q
    omega
theorem sX8_claimOf (hC : jm_HC gC) (hA : IA mu nu) (r1 : jm_rg v1) (r2 : jm_rg v2) (h : Q (some (jm_i (clm mu v1 v2))) mu) : jm_R l gC (d + 3) iX8_claimOf [.ref 6, jm_i v1, jm_i v2] mu Q := by
  have w8 := hA.1.2.1
  unfold clm at h
  refine eX8_claimOf hC ⟨r1, fun q1 => ⟨r2, fun q2 => ⟨⟨by omega, by omega⟩, ?_⟩, fun q2 => ?_⟩, fun q1 => ?_⟩
  · rw [if_pos ⟨q1, q2⟩] at h; exact h
  · rw [if_neg (fun k => q2 k.2)] at h; exact h
  · rw [if_neg (fun k => q1 k.1)] at h; exact h
theorem sX0_motiveOf (hC : jm_HC gC) (hA : IA mu nu) (r1 : jm_rg v1) (r2 : jm_rg v2) (h : Q (some (jm_i (mot mu v1 v2))) mu) : jm_R l gC (d + 4) iX0_motiveOf [.ref 35, jm_i v1, jm_i v2] mu Q := by
  have b := clm_bd hA v1 v2
  refine eX0_motiveOf hC (sX8_claimOf hC hA r1 r2 (jm_qiI ⟨by omega, by omega⟩ ⟨fun q x5 e5 => ?_, fun q => ?_⟩))
  · subst e5
    have c := clm_in q
    unfold mot at h
    refine ⟨⟨by omega, by omega⟩, fun r => ?_, fun r => ?_⟩
    · rw [if_neg (fun k => k.elim q r)] at h; exact h
    · rw [if_pos (Or.inr r)] at h; exact h
  · unfold mot at h
    rw [if_pos (Or.inl q)] at h
    exact h
/-! the reference's -/
theorem lX12_aboveOf (hR : jm_HR gR) (hM : IM mu nu) (h0 : 0 ≤ v1) (h1 : v1 < 24) {N : Nat} (hN : N ≤ nst mu v1) (n : Nat) : ∀ k : Nat, k + n = N → Q (some (jm_i (abN (stf mu v1) N))) nu → jm_V l gR (d + 2) iX12_aboveOf 5 [(0, .ref 0), (1, jm_i v1), (2, jm_i N), (3, jm_i (abN (stf mu v1) k)), (4, jm_i k)] [] nu Q := by
  have b7 := nst_le hM h0 h1
  induction n with
  | zero =>
    intro k hk h
    refine bX12_aboveOf_5 hR ⟨⟨by omega, by omega⟩, ⟨by omega, by omega⟩, fun _ => ?_, fun r => by omega⟩
    rw [show k = N by omega]
    exact h
  | succ n ih =>
    intro k hk h
    refine bX12_aboveOf_5 hR ⟨⟨by omega, by omega⟩, ⟨by omega, by omega⟩, fun r => by omega, fun _ => ⟨⟨by omega, by omega⟩, fun x4 e4 => ?_⟩⟩
    have s := hM.2.2 v1 k h0 h1 (by omega) (by unfold nst at hN; omega)
    have e5 : x4 = abN (stf mu v1) (k + 1) := by rw [e4, s.2.2]; rfl
    rw [e5]
    exact ih (k + 1) (by omega) h
theorem sX12_aboveOf (hR : jm_HR gR) (hM : IM mu nu) (h0 : 0 ≤ v1) (h1 : v1 < 24) {N : Nat} (hN : N ≤ nst mu v1) (h : Q (some (jm_i (abN (stf mu v1) N))) nu) : jm_R l gR (d + 2) iX12_aboveOf [.ref 0, jm_i v1, jm_i N] nu Q := eX12_aboveOf hR (lX12_aboveOf hR hM h0 h1 hN N 0 (by omega) h)
def sgb (mu : jm_M) (m key lo hi : Int) : Prop := 0 < mu.1 13 m ∧ lo ≤ key + 1 - faN (stf mu m) (nst mu m) ∧ key + 1 + riN (stf mu m) (nst mu m) ≤ hi
theorem lX12_canSing (hR : jm_HR gR) (hM : IM mu nu) (h0 : 0 ≤ v1) (h1 : v1 < 24) (r2 : -1000 ≤ v2 ∧ v2 ≤ 1000) (r3 : jm_rg v3) (r4 : jm_rg v4) (y : sgb mu v1 v2 v3 v4 → Q (some (jm_i 1)) nu) (no : ¬ sgb mu v1 v2 v3 v4 → Q (some (jm_i 0)) nu) (n : Nat) : ∀ k : Nat, (k : Int) + n = mu.1 13 v1 → (∀ i : Nat, i < k → v3 ≤ v2 + 1 + abN (stf mu v1) i ∧ v2 + 1 + abN (stf mu v1) i ≤ v4) → jm_V l gR (d + 3) iX12_canSing 3 [(0, .ref 0), (1, jm_i v1), (2, jm_i v2), (3, jm_i v3), (4, jm_i v4), (5, jm_i k)] [] nu Q := by
  have b7 := nst_le hM h0 h1
  have bn := hM.2.1 v1 h0 h1
  have sb := stf_bd hM h0 h1
  have e17 := bn.2.2
  induction n with
  | zero =>
    intro k hk hi
    refine bX12_canSing_3 hR ⟨⟨by omega, by omega⟩, ⟨by omega, by omega⟩, ?_⟩
    rw [e17]
    refine ⟨fun _ => ⟨⟨by omega, by omega⟩, fun r => no (fun z => by have := z.1; omega), fun r => y ⟨r, ?_, ?_⟩⟩, fun r => by omega⟩
    · obtain ⟨i, i1, i2⟩ := faN_ex (stf mu v1) (nst mu v1)
      have := hi i (by unfold nst at i1; omega)
      omega
    · obtain ⟨i, i1, i2⟩ := riN_ex (stf mu v1) (nst mu v1)
      have := hi i (by unfold nst at i1; omega)
      omega
  | succ n ih =>
    intro k hk hi
    refine bX12_canSing_3 hR ⟨⟨by omega, by omega⟩, ⟨by omega, by omega⟩, ?_⟩
    rw [e17]
    have hkn : k ≤ nst mu v1 := by unfold nst; omega
    have ab := abN_bd _ _ sb k hkn
    refine ⟨fun r => by omega, fun _ => ?_⟩
    refine sX12_aboveOf hR hM h0 h1 hkn (jm_qiI ⟨by omega, by omega⟩ ⟨⟨by omega, by omega⟩, r3, r4, fun r => ?_, fun r => no (fun z => r ?_)⟩)
    · refine ih (k + 1) (by omega) (fun i hi2 => ?_)
      by_cases e : i = k
      · subst e; exact r
      · exact hi i (by omega)
    · have f1 := faN_le (stf mu v1) (nst mu v1) k hkn
      have f2 := riN_le (stf mu v1) (nst mu v1) k hkn
      obtain ⟨z1, z2, z3⟩ := z
      omega
theorem sX12_canSing (hR : jm_HR gR) (hM : IM mu nu) (h0 : 0 ≤ v1) (h1 : v1 < 24) (r2 : -1000 ≤ v2 ∧ v2 ≤ 1000) (r3 : jm_rg v3) (r4 : jm_rg v4) (y : sgb mu v1 v2 v3 v4 → Q (some (jm_i 1)) nu) (no : ¬ sgb mu v1 v2 v3 v4 → Q (some (jm_i 0)) nu) : jm_R l gR (d + 3) iX12_canSing [.ref 0, jm_i v1, jm_i v2, jm_i v3, jm_i v4] nu Q := by
  have bn := hM.2.1 v1 h0 h1
  exact eX12_canSing hR (lX12_canSing hR hM h0 h1 r2 r3 r4 y no (mu.1 13 v1).toNat 0 (by omega) (fun i hi => by omega))
theorem sX12_motiveOf (hR : jm_HR gR) (hA : IA mu nu) (hM : IM mu nu) (w0 : 0 ≤ v1) (w1 : v1 < mu.1 6 0) (f0 : 0 ≤ v2) (f1 : v2 ≤ 5) (h : Q (some (jm_i (mot mu v1 v2))) nu) : jm_R l gR (d + 2) iX12_motiveOf [.ref 0, jm_i v1, jm_i v2] nu Q := by
  have w8 := hA.1.2.1
  have c := hA.2.2.1 (6 * v1 + v2) (by omega) (by omega)
  have ec : clm mu v1 v2 = mu.1 10 (6 * v1 + v2) := by
    unfold clm
    rw [if_pos ⟨⟨w0, w1⟩, f0, f1⟩, show v1 * 6 + v2 = 6 * v1 + v2 by omega]
  have e6 : nu.1 6 (6 * v1 + v2) - 1 = clm mu v1 v2 := by rw [ec]; omega
  have cb := clm_bd hA v1 v2
  refine eX12_motiveOf hR ⟨⟨by omega, by omega⟩, ?_⟩
  rw [e6]
  unfold mot at h
  refine ⟨⟨by omega, by omega⟩, fun q => ?_, fun q => ?_⟩
  · rw [if_pos (Or.inl q)] at h; exact h
  · have b := hM.2.1 (4 * v2 + clm mu v1 v2) (by omega) (by omega)
    have e4 : v2 * 4 + clm mu v1 v2 = 4 * v2 + clm mu v1 v2 := by omega
    rw [e4] at h
    refine ⟨⟨by omega, by omega⟩, ⟨by omega, by omega⟩, ?_⟩
    rw [b.2.2]
    refine ⟨fun r => ⟨⟨by omega, by omega⟩, ?_⟩, fun r => ?_⟩
    · rw [if_neg (fun k => k.elim q r)] at h; exact h
    · rw [if_pos (Or.inr r)] at h; exact h
/-- a witness can sing a fact's motive from a key -/
def sng (mu : jm_M) (w f key : Int) : Prop := ¬ mot mu w f = -1 ∧ loK mu w (mot mu w f) ≤ key ∧ key ≤ hiK mu w (mot mu w f)
theorem sX12_isSung (hR : jm_HR gR) (hA : IA mu nu) (hM : IM mu nu) (w0 : 0 ≤ v1) (w1 : v1 < mu.1 6 0) (f0 : 0 ≤ v2) (f1 : v2 ≤ 5) (r3 : -1000 ≤ v3 ∧ v3 ≤ 1000) (y : sng mu v1 v2 v3 → Q (some (jm_i 1)) nu) (no : ¬ sng mu v1 v2 v3 → Q (some (jm_i 0)) nu) : jm_R l gR (d + 4) iX12_isSung [.ref 0, jm_i v1, jm_i v2, jm_i v3] nu Q := by
  have mb := mot_bd hA v1 v2
  have w8 := hA.1.2.1
  have a := hA.2.1 v1 w0 w1
  refine eX12_isSung hR (sX12_motiveOf hR hA hM w0 w1 f0 f1 (jm_qiI ⟨by omega, by omega⟩ ⟨fun q => no (fun z => z.1 q), fun q => ?_⟩))
  refine sX12_motiveOf hR hA hM w0 w1 f0 f1 (jm_qiI ⟨by omega, by omega⟩ ⟨⟨w0, by omega⟩, ?_⟩)
  have mi := mot_in hA q
  have bn := hM.2.1 (mot mu v1 v2) (by omega) (by omega)
  rw [a.2.2.2.2.2.1, a.2.2.2.2.2.2.1]
  refine sX12_canSing hR hM (by omega) (by omega) r3 ⟨by omega, by omega⟩ ⟨by omega, by omega⟩ (fun s => jm_qiI ⟨by decide, by decide⟩ ⟨fun r => absurd r (by decide), fun _ => y ⟨q, ?_, ?_⟩⟩) (fun s => jm_qiI ⟨by decide, by decide⟩ ⟨fun _ => no (fun z => s ⟨?_, ?_, ?_⟩), fun r => absurd rfl r⟩)
  · have := s.2.1
    unfold loK
    omega
  · have := s.2.2
    unfold hiK
    omega
  · omega
  · have := z.2.1
    unfold loK at this
    omega
  · have := z.2.2
    unfold hiK at this
    omega
/-- what findsKeys leaves, the keys below k looked through -/
def kM (L H k : Int) : Int := max 0 (min (k - 1) H - L + 1)
theorem lX12_findsKeys (hR : jm_HR gR) (hA : IA mu nu) (hM : IM mu nu) (w0 : 0 ≤ v1) (w1 : v1 < mu.1 6 0) (f0 : 0 ≤ v2) (f1 : v2 ≤ 5) (hm : ¬ mot mu v1 v2 = -1)
    (h : ∀ m, jm_aR nu m → m.1 0 48 = max 0 (hiK mu v1 (mot mu v1 v2) - loK mu v1 (mot mu v1 v2) + 1) → (¬ m.1 0 48 = 0 → m.1 0 49 = loK mu v1 (mot mu v1 v2) ∧ m.1 0 50 = hiK mu v1 (mot mu v1 v2)) → (m.1 0 48 = 0 → m.1 0 49 = -1 ∧ m.1 0 50 = -1) → Q none m) (n : Nat) : ∀ (k : Int) (m : jm_M), k + n = 60 → 0 ≤ k → jm_aR nu m → m.1 0 48 = kM (loK mu v1 (mot mu v1 v2)) (hiK mu v1 (mot mu v1 v2)) k → (¬ m.1 0 48 = 0 → m.1 0 49 = loK mu v1 (mot mu v1 v2) ∧ m.1 0 50 = min (k - 1) (hiK mu v1 (mot mu v1 v2))) → (m.1 0 48 = 0 → m.1 0 49 = -1 ∧ m.1 0 50 = -1) → jm_V l gR (d + 5) iX12_findsKeys 17 [(0, .ref 0), (1, jm_i v1), (2, jm_i v2), (3, jm_i k)] [] m Q := by
  have mi := mot_in hA hm
  have lb := loK_bd hA hM w0 w1 mi.2.2.2.1.1 mi.2.2.2.1.2
  have hb := hiK_bd hA hM w0 w1 mi.2.2.2.1.1 mi.2.2.2.1.2
  induction n with
  | zero =>
    intro k m hk k0 ha e1 e2 e3
    have k60 : k = 60 := by omega
    subst k60
    refine bX12_findsKeys_17 hR ⟨⟨by decide, by decide⟩, fun _ => h m ha ?_ (fun r => ?_) e3, fun r => absurd r (by decide)⟩
    · rw [e1]; unfold kM; omega
    · have h5 := e2 r
      rw [e1] at r
      unfold kM at r
      omega
  | succ n ih =>
    intro k m hk k0 ha e1 e2 e3
    have hA2 := hA.ext (jm_aC.rf mu) ha
    have hM2 := hM.ext (jm_aC.rf mu) ha
    refine bX12_findsKeys_17 hR ⟨⟨by omega, by omega⟩, fun r => by omega, fun _ => ?_⟩
    refine sX12_isSung hR hA2 hM2 w0 w1 f0 f1 ⟨by omega, by omega⟩ (fun s => jm_qiI ⟨by decide, by decide⟩ ⟨fun _ => ?_, fun r => absurd r (by decide)⟩) (fun s => jm_qiI ⟨by decide, by decide⟩ ⟨fun r => absurd rfl r, fun _ => ?_⟩)
    · obtain ⟨-, s1, s2⟩ := s
      have k48 : ∀ m2 : jm_M, jm_aR nu m2 → m2.1 0 48 = m.1 0 48 → m2.1 0 49 = loK mu v1 (mot mu v1 v2) → jm_V l gR (d + 5) iX12_findsKeys 48 [(0, .ref 0), (1, jm_i v1), (2, jm_i v2), (3, jm_i k)] [] m2 Q := by
        intro m2 a2 b2 c2
        refine bX12_findsKeys_48 hR ⟨⟨by omega, by omega⟩, fun m3 e4 => ?_⟩
        subst e4
        have x1 : (jm_wr m2 0 50 k).1 0 48 = m.1 0 48 := by simpa [jm_wr] using b2
        rw [x1, e1]
        unfold kM
        refine ⟨⟨by omega, by omega⟩, fun m5 e5 => ?_⟩
        subst e5
        have y1 : (jm_wr (jm_wr m2 0 50 k) 0 48 (max 0 (min (k - 1) (hiK mu v1 (mot mu v1 v2)) - loK mu v1 (mot mu v1 v2) + 1) + 1)).1 0 48 = max 0 (min (k - 1) (hiK mu v1 (mot mu v1 v2)) - loK mu v1 (mot mu v1 v2) + 1) + 1 := by simp [jm_wr]
        refine ih (k + 1) _ (by omega) (by omega) ((a2.wr rfl (fun _ => rfl)).wr rfl (fun _ => rfl)) ?_ (fun _ => ⟨?_, ?_⟩) (fun r => ?_)
        · rw [y1]; unfold kM; omega
        · simpa [jm_wr] using c2
        · simp [jm_wr]; omega
        · rw [y1] at r; omega
      refine ⟨fun r => k48 m ha rfl (e2 r).1, fun r m6 e6 => ?_⟩
      subst e6
      have kL : k = loK mu v1 (mot mu v1 v2) := by rw [e1] at r; unfold kM at r; omega
      exact k48 _ (ha.wr rfl (fun _ => rfl)) (by simp [jm_wr]) (by simpa [jm_wr] using kL)
    · have s3 : ¬ (loK mu v1 (mot mu v1 v2) ≤ k ∧ k ≤ hiK mu v1 (mot mu v1 v2)) := fun z => s ⟨hm, z⟩
      refine ih (k + 1) m (by omega) (by omega) ha ?_ (fun r => ?_) e3
      · rw [e1]; unfold kM; omega
      · have := e2 r
        rw [e1] at r
        unfold kM at r
        omega
theorem sX12_findsKeys (hR : jm_HR gR) (hA : IA mu nu) (hM : IM mu nu) (w0 : 0 ≤ v1) (w1 : v1 < mu.1 6 0) (f0 : 0 ≤ v2) (f1 : v2 ≤ 5) (hm : ¬ mot mu v1 v2 = -1)
    (h : ∀ m, jm_aR nu m → m.1 0 48 = max 0 (hiK mu v1 (mot mu v1 v2) - loK mu v1 (mot mu v1 v2) + 1) → (¬ m.1 0 48 = 0 → m.1 0 49 = loK mu v1 (mot mu v1 v2) ∧ m.1 0 50 = hiK mu v1 (mot mu v1 v2)) → (m.1 0 48 = 0 → m.1 0 49 = -1 ∧ m.1 0 50 = -1) → Q none m) : jm_R l gR (d + 5) iX12_findsKeys [.ref 0, jm_i v1, jm_i v2] nu Q := by
  have mi := mot_in hA hm
  have lb := loK_bd hA hM w0 w1 mi.2.2.2.1.1 mi.2.2.2.1.2
  refine eX12_findsKeys hR (fun m1 e1 m3 e3 m5 e5 => ?_)
  subst e1
  subst e3
  subst e5
  refine lX12_findsKeys hR hA hM w0 w1 f0 f1 hm h 60 0 _ (by decide) (by decide) ((((jm_aR.rf nu).wr rfl (fun _ => rfl)).wr rfl (fun _ => rfl)).wr rfl (fun _ => rfl)) ?_ (fun r => ?_) (fun _ => ?_)
  · simp [jm_wr, kM]; omega
  · simp [jm_wr] at r
  · simp [jm_wr]
theorem sim_keys (hC : jm_HC gC) (hR : jm_HR gR) (hI : Iv mu nu) (h1 : jm_rg v1) (h2 : jm_rg v2) (h3 : jm_rg v3) : jm_sim l gC gR (d + 6) (d + 6) iX11_keys iX12_keys [jm_i v1, jm_i v2, jm_i v3] mu nu := by
  have hA := hI.1
  have hM := hI.2.1
  have hA0 := hI.t0.1
  have hM0 := hI.t0.2.1
  have mb := mot_bd hA v1 v2
  have w8 := hA.1.2.1
  have e4 : (jm_wr nu 0 0 0).1 0 4 = mu.1 6 0 := hA0.1.2.2
  have no : (mot mu v1 v2 = -1 ∨ ¬ (0 ≤ v3 ∧ v3 ≤ 2)) → jm_qi (fun z m => jm_R l gR (d + 6) iX12_keys [.ref 0, jm_i v1, jm_i v2, jm_i v3] nu (jm_qi fun y n => y = z ∧ Iv m n)) (some (jm_i (-1))) mu := by
    intro q
    refine jm_qiI ⟨by decide, by decide⟩ (eX12_keys hR (fun m1 e1 => ?_))
    subst e1
    have fi := jm_fin (z := -1) (y := -1) (F := fun n => Iv mu n) ⟨by decide, by decide⟩ rfl hI.t0
    refine ⟨h1, fun r1 => ⟨h2, fun r2 => ⟨h3, fun r3 => ?_, fun _ => fi⟩, fun _ => fi⟩, fun _ => fi⟩
    refine sX12_motiveOf hR hA0 hM0 r1.1 (by omega) r2.1 (by omega) (jm_qiI ⟨by omega, by omega⟩ ⟨fun r => (q.elim (fun k => absurd k r) (fun k => absurd r3 k)), fun _ => fi⟩)
  refine eX11_keys hC (sX0_motiveOf hC hA h1 h2 (jm_qiI ⟨by omega, by omega⟩ ⟨fun q => no (Or.inl q), fun q => ⟨h3, fun q3 => ?_, fun q3 => no (Or.inr q3)⟩⟩))
  have mi := mot_in hA q
  obtain ⟨⟨⟨w0, w1⟩, f0, f1⟩, -, -, ⟨m0, m1⟩, -⟩ := mi
  have lb := loK_bd hA hM w0 w1 m0 m1
  have hb := hiK_bd hA hM w0 w1 m0 m1
  have yes : ∀ z : Int, jm_rg z → (v3 = 0 → z = max 0 (hiK mu v1 (mot mu v1 v2) - loK mu v1 (mot mu v1 v2) + 1)) → (v3 = 1 → z = if max 0 (hiK mu v1 (mot mu v1 v2) - loK mu v1 (mot mu v1 v2) + 1) = 0 then -1 else loK mu v1 (mot mu v1 v2)) → (v3 = 2 → z = if max 0 (hiK mu v1 (mot mu v1 v2) - loK mu v1 (mot mu v1 v2) + 1) = 0 then -1 else hiK mu v1 (mot mu v1 v2)) → jm_qi (fun z m => jm_R l gR (d + 6) iX12_keys [.ref 0, jm_i v1, jm_i v2, jm_i v3] nu (jm_qi fun y n => y = z ∧ Iv m n)) (some (jm_i z)) mu := by
    intro z hz c0 c1 c2
    refine jm_qiI hz (eX12_keys hR (fun m1 e1 => ?_))
    subst e1
    refine ⟨h1, fun r1 => ⟨h2, fun r2 => ⟨h3, fun r3 => ?_, fun r => absurd q3 r⟩, fun r => absurd (⟨f0, by omega⟩ : _ ∧ _) r⟩, fun r => absurd (⟨w0, by omega⟩ : _ ∧ _) r⟩
    refine sX12_motiveOf hR hA0 hM0 w0 w1 f0 f1 (jm_qiI ⟨by omega, by omega⟩ ⟨fun _ => ?_, fun r => absurd r q⟩)
    refine sX12_findsKeys hR hA0 hM0 w0 w1 f0 f1 q (fun m ha k1 k2 k3 => jm_qvI ⟨fun z0 => ⟨fun z1 => ?_, fun z1 => ?_⟩, fun z0 => ?_⟩)
    · refine jm_fin hz ?_ (hI.t0.ext (jm_aC.rf mu) ha)
      rw [c2 (by omega)]
      by_cases k0 : m.1 0 48 = 0
      · rw [if_pos (by omega)]; exact (k3 k0).2
      · rw [if_neg (by omega)]; exact (k2 k0).2
    · refine jm_fin hz ?_ (hI.t0.ext (jm_aC.rf mu) ha)
      rw [c1 z1]
      by_cases k0 : m.1 0 48 = 0
      · rw [if_pos (by omega)]; exact (k3 k0).1
      · rw [if_neg (by omega)]; exact (k2 k0).1
    · exact jm_fin hz (by rw [k1, c0 z0]) (hI.t0.ext (jm_aC.rf mu) ha)
  refine sX0_howManyKeys hC hA hM w0 w1 m0 m1 (jm_qiI ⟨by omega, by omega⟩ ⟨fun z0 => ⟨fun z7 => ⟨fun z1 => ?_, fun z1 => ?_⟩, fun z7 => ?_⟩, fun z0 => ?_⟩)
  · exact sX0_highestKey hC hA hM w0 w1 m0 m1 (jm_qiI ⟨by omega, by omega⟩ (yes _ ⟨by omega, by omega⟩ (fun r => absurd r z0) (fun r => absurd r z1) (fun _ => by rw [if_neg z7])))
  · exact sX0_lowestKey hC hA hM w0 w1 m0 m1 (jm_qiI ⟨by omega, by omega⟩ (yes _ ⟨by omega, by omega⟩ (fun r => absurd r z0) (fun _ => by rw [if_neg z7]) (fun r => by omega)))
  · exact yes _ ⟨by decide, by decide⟩ (fun r => absurd r z0) (fun _ => by rw [if_pos z7]) (fun _ => by rw [if_pos z7])
  · exact yes _ ⟨by omega, by omega⟩ (fun _ => rfl) (fun r => by omega) (fun r => by omega)
end KY
