section BE
variable {l : Launch} {gC gR : jm_G} {d : Nat} {mu nu m n : jm_M} {v1 v2 v3 v4 v5 : Int} {Q : Option Value → jm_M → Prop}
theorem abN_z (f : Int → Int) : ∀ (j k : Nat), (∀ i : Nat, k ≤ i → f i = 0) → abN f (k + j) = abN f k
  | 0, k, _ => rfl
  | j + 1, k, h => by
    rw [show k + (j + 1) = (k + j) + 1 by omega, ← abN_st, abN_z f j k h, h (k + j) (by omega), Int.add_zero]
/-- the bars of a motive from a key that sound with a testimony's -/
def sfq (mu : jm_M) (wh key t : Int) : Int → Int := fun i => sd mu (key + 1 + abN (stf mu wh) i.toNat) (br mu t i)
def sfN (mu : jm_M) (wh key t : Int) : Int := abN (sfq mu wh key t) (mu.1 13 wh).toNat
theorem sfN_b (hM : IM mu nu) {wh : Int} (m0 : 0 ≤ wh) (m1 : wh < 24) (key t : Int) : 0 ≤ sfN mu wh key t ∧ sfN mu wh key t ≤ 8 := by
  have b := abN_01 (sfq mu wh key t) (fun i => sd_01 _ _ _) (mu.1 13 wh).toNat
  have := hM.2.1 wh m0 m1
  unfold sfN
  omega
theorem sX10_soundingFrom (hC : jm_HC gC) (hI : Iv mu nu) {wh key t : Int} (m0 : 0 ≤ wh) (m1 : wh < 24) (k0 : 0 ≤ key + 1 - faN (stf mu wh) (nst mu wh)) (k1 : key + 1 + riN (stf mu wh) (nst mu wh) ≤ 60) (t0 : 0 ≤ t) (t1 : t < mu.1 29 4) (h : Q (some (jm_i (sfN mu wh key t))) mu) : jm_R l gC (d + 3) iX10_soundingFrom [.ref 38, jm_i wh, jm_i key, jm_i t] mu Q := by
  have hM := hI.2.1
  obtain ⟨n0, n8, n17⟩ := hM.2.1 wh m0 m1
  have lp : ∀ (j i : Nat) (x : Int), i + j = (mu.1 13 wh).toNat → (0 < j → x = key + 1 + abN (stf mu wh) i) → jm_V l gC (d + 3) iX10_soundingFrom 11 [(0, .ref 38), (1, jm_i wh), (3, jm_i t), (4, jm_i (abN (sfq mu wh key t) i)), (5, jm_i x), (6, jm_i i)] [] mu Q := by
    intro j
    induction j with
    | zero =>
      intro i x hi _
      have e : i = (mu.1 13 wh).toNat := by omega
      refine bX10_soundingFrom_11 hC ⟨⟨m0, m1⟩, ⟨by omega, by omega⟩, fun _ => ?_, fun r => by omega⟩
      rw [e]
      exact h
    | succ j ih =>
      intro i x hi hx
      have hx := hx (by omega)
      have hi1 : i ≤ nst mu wh := by unfold nst; omega
      have up := riN_le (stf mu wh) (nst mu wh) i hi1
      have dn := faN_le (stf mu wh) (nst mu wh) i hi1
      have bb := br_bd hI.2.2.2.2.1 (i := (i : Int)) t0 t1
      have s01 := sd_01 mu x (br mu t i)
      have es : sfq mu wh key t i = sd mu x (br mu t i) := by
        rw [hx]
        show sd mu (key + 1 + abN (stf mu wh) ((i : Int)).toNat) (br mu t i) = _
        rw [Int.toNat_natCast]
      have nx : ∀ x6 : Int, (0 < j → x6 = key + 1 + abN (stf mu wh) (i + 1)) → jm_V l gC (d + 3) iX10_soundingFrom 11 [(0, .ref 38), (1, jm_i wh), (3, jm_i t), (4, jm_i (abN (sfq mu wh key t) i + sd mu x (br mu t i))), (5, jm_i x6), (6, jm_i ((i : Int) + 1))] [] mu Q := by
        intro x6 hx6
        rw [show ((i : Int) + 1) = ((i + 1 : Nat) : Int) by omega, ← es, abN_st]
        exact ih (i + 1) x6 (by omega) hx6
      have st : ∀ c : Int, c = abN (sfq mu wh key t) i + sd mu x (br mu t i) → jm_V l gC (d + 3) iX10_soundingFrom 53 [(0, .ref 38), (1, jm_i wh), (3, jm_i t), (4, jm_i c), (5, jm_i x), (6, jm_i i)] [] mu Q := by
        intro c hc
        rw [hc]
        refine bX10_soundingFrom_53 hC ?_
        by_cases q7 : (i : Int) ≤ 6
        · refine jm_RmrI (fun hm => sX5_stepOf hC ⟨m0, by omega⟩ ⟨by omega, q7⟩ (jm_qiI (hm _ _) (fun x6 ex6 => nx x6 (fun j0 => ?_))))
          rw [ex6, hx, ← abN_st]
          show key + 1 + abN (stf mu wh) i + stf mu wh i = _
          omega
        · exact sX5_stepOf0 hC ⟨by omega, by omega⟩ ⟨by omega, by omega⟩ (by omega) (jm_qiI ⟨by decide, by decide⟩ (fun x6 ex6 => nx x6 (fun j0 => by omega)))
      refine bX10_soundingFrom_11 hC ⟨⟨m0, m1⟩, ⟨by omega, by omega⟩, fun r => by omega, fun _ => sX1_barOf hC hI.2.2.2.2.1 t0 t1 ⟨by omega, by omega⟩ (jm_qiI ⟨by omega, by omega⟩ (sX8_barsSound hC hI.1 ⟨by omega, by omega⟩ ⟨by omega, by omega⟩ (jm_qiI ⟨by omega, by omega⟩ ⟨fun r => st _ (by omega), fun r => st _ (by omega)⟩)))⟩
  exact eX10_soundingFrom hC (fun x1 e1 => lp (mu.1 13 wh).toNat 0 x1 (by omega) (fun _ => by show x1 = key + 1 + 0; omega))
theorem sX12_soundsWith (hR : jm_HR gR) (hI : Iv mu nu) {wh key t : Int} (m0 : 0 ≤ wh) (m1 : wh < 24) (k0 : 0 ≤ key + 1 - faN (stf mu wh) (nst mu wh)) (k1 : key + 1 + riN (stf mu wh) (nst mu wh) ≤ 60) (t0 : 0 ≤ t) (t1 : t < mu.1 29 4) (h : Q (some (jm_i (sfN mu wh key t))) nu) : jm_R l gR (d + 3) iX12_soundsWith [.ref 0, jm_i wh, jm_i key, jm_i t] nu Q := by
  have hM := hI.2.1
  have hK := hI.2.2.2.2.1
  obtain ⟨n0, n8, n17⟩ := hM.2.1 wh m0 m1
  obtain ⟨⟨a0, a1, a2⟩, ⟨a3, a4⟩, a5, a6⟩ := tsK hK t0 t1
  have cut : ∀ i : Nat, ((mu.1 32 (t * 7 + 5)) ≤ i ∨ i = (mu.1 13 wh).toNat) → i ≤ (mu.1 13 wh).toNat → abN (sfq mu wh key t) i = sfN mu wh key t := by
    intro i hi hi2
    unfold sfN
    obtain ⟨j, hj⟩ : ∃ j, (mu.1 13 wh).toNat = i + j := ⟨(mu.1 13 wh).toNat - i, by omega⟩
    rw [hj]
    rcases hi with hi | hi
    · refine (abN_z _ j i (fun i' h' => ?_)).symm
      have e : br mu t i' = 0 := if_neg (by omega)
      show sd mu _ (br mu t i') = 0
      rw [e]
      unfold sd
      rw [if_neg (by omega)]
    · rw [show j = 0 by omega]
      rfl
  have lp : ∀ (j i : Nat), i + j = (mu.1 13 wh).toNat → jm_V l gR (d + 3) iX12_soundsWith 6 [(0, .ref 0), (1, jm_i wh), (2, jm_i key), (3, jm_i t), (4, jm_i (abN (sfq mu wh key t) i)), (5, jm_i i)] [] nu Q := by
    intro j
    induction j with
    | zero =>
      intro i hi
      refine bX12_soundsWith_6 hR ⟨⟨by omega, by omega⟩, ⟨by omega, by omega⟩, fun _ => ?_, fun r => by omega⟩
      rw [cut i (Or.inr (by omega)) (by omega)]
      exact h
    | succ j ih =>
      intro i hi
      have hi1 : i ≤ nst mu wh := by unfold nst; omega
      have up := riN_le (stf mu wh) (nst mu wh) i hi1
      have dn := faN_le (stf mu wh) (nst mu wh) i hi1
      have ab := abN_bd (stf mu wh) (nst mu wh) (stf_bd hM m0 m1) i hi1
      have n7 := nst_le hM m0 m1
      refine bX12_soundsWith_6 hR ⟨⟨by omega, by omega⟩, ⟨by omega, by omega⟩, fun r => by omega, fun _ => ⟨⟨by omega, by omega⟩, fun r => ?_, fun r => ?_⟩⟩
      · rw [a4] at r
        rw [cut i (Or.inl r) (by omega)]
        exact h
      · rw [a4] at r
        refine sX12_aboveOf hR hM m0 m1 (N := i) hi1 (jm_qiI ⟨by omega, by omega⟩ ?_)
        rw [a3]
        refine ⟨⟨by omega, by omega⟩, ⟨by omega, by omega⟩, ?_⟩
        rw [br_R hK t0 t1 (by omega) r]
        have bb := br_bd hK (i := (i : Int)) t0 t1
        have s01 := sd_01 mu (key + 1 + abN (stf mu wh) i) (br mu t i)
        have es : sfq mu wh key t i = sd mu (key + 1 + abN (stf mu wh) i) (br mu t i) := by
          show sd mu (key + 1 + abN (stf mu wh) ((i : Int)).toNat) (br mu t i) = _
          rw [Int.toNat_natCast]
        have nx := ih (i + 1) (by omega)
        rw [← abN_st, es, show ((i + 1 : Nat) : Int) = (i : Int) + 1 by omega] at nx
        refine sX12_doSound hR hI.1 ⟨by omega, by omega⟩ ⟨by omega, by omega⟩ (jm_qiI ⟨by omega, by omega⟩ ⟨fun r2 => ?_, fun r2 x14 e14 => ?_⟩)
        · rw [r2, Int.add_zero] at nx
          exact nx
        · rw [show sd mu (key + 1 + abN (stf mu wh) i) (br mu t i) = 1 by omega] at nx
          rw [e14]
          exact nx
  exact eX12_soundsWith hR (lp (mu.1 13 wh).toNat 0 (by omega))
/-- the first of the greatest -/
def bkN (F : Int → Int) (lo : Int) : Nat → Int × Int
  | 0 => (-1, -1)
  | n + 1 => if (bkN F lo n).2 < F (lo + n) then (lo + n, F (lo + n)) else bkN F lo n
theorem bkN_b {F : Int → Int} {lo : Int} (hF : ∀ k, 0 ≤ F k ∧ F k ≤ 8) (l0 : 0 ≤ lo) (l3 : lo ≤ 300) : ∀ n : Nat, (-1 ≤ (bkN F lo n).1 ∧ (bkN F lo n).1 ≤ 300 + n) ∧ -1 ≤ (bkN F lo n).2 ∧ (bkN F lo n).2 ≤ 8
  | 0 => by
    show (-1 ≤ (-1 : Int) ∧ (-1 : Int) ≤ 300 + (0 : Nat)) ∧ -1 ≤ (-1 : Int) ∧ (-1 : Int) ≤ 8
    omega
  | n + 1 => by
    have ih := bkN_b hF l0 l3 n
    have t := hF (lo + n)
    unfold bkN
    split
    · show (-1 ≤ lo + (n : Int) ∧ lo + (n : Int) ≤ 300 + ((n + 1 : Nat) : Int)) ∧ -1 ≤ F (lo + n) ∧ F (lo + n) ≤ 8
      omega
    · omega
def nkeys (mu : jm_M) (w wh : Int) : Nat := (hiK mu w wh - loK mu w wh + 1).toNat
def bstK (mu : jm_M) (w wh t what : Int) : Int := if what = 0 then (bkN (fun k => sfN mu wh k t) (loK mu w wh) (nkeys mu w wh)).1 else (bkN (fun k => sfN mu wh k t) (loK mu w wh) (nkeys mu w wh)).2
theorem sX10_bestKey (hC : jm_HC gC) (hI : Iv mu nu) {w wh t : Int} (w0 : 0 ≤ w) (w1 : w < mu.1 6 0) (m0 : 0 ≤ wh) (m1 : wh < 24) (t0 : 0 ≤ t) (t1 : t < mu.1 29 4) (r4 : jm_rg v4) (h : Q (some (jm_i (bstK mu w wh t v4))) mu) : jm_R l gC (d + 5) iX10_bestKey [.ref 38, jm_i w, jm_i wh, jm_i t, jm_i v4] mu Q := by
  have hA := hI.1
  have hM := hI.2.1
  have lb := loK_bd hA hM w0 w1 m0 m1
  have hb := hiK_bd hA hM w0 w1 m0 m1
  obtain ⟨L1, LH, H60, -⟩ := hA.2.1 w w0 w1
  have sb := fun k => sfN_b hM m0 m1 k t
  have lp : ∀ (j k : Nat), k + j = nkeys mu w wh → jm_V l gC (d + 5) iX10_bestKey 28 [(0, .ref 38), (2, jm_i wh), (3, jm_i t), (4, jm_i v4), (5, jm_i (bkN (fun k => sfN mu wh k t) (loK mu w wh) k).1), (6, jm_i (bkN (fun k => sfN mu wh k t) (loK mu w wh) k).2), (7, jm_i (hiK mu w wh)), (8, jm_i (loK mu w wh + k))] [] mu Q := by
    intro j
    induction j with
    | zero =>
      intro k hk
      have e : k = nkeys mu w wh := by omega
      unfold nkeys at hk
      refine bX10_bestKey_28 hC ⟨⟨by omega, by omega⟩, ⟨by omega, by omega⟩, fun _ => ⟨r4, fun q => ?_, fun q => ?_⟩, fun r => by omega⟩
      · unfold bstK at h
        rw [if_neg q] at h
        rw [e]
        exact h
      · unfold bstK at h
        rw [if_pos q] at h
        rw [e]
        exact h
    | succ j ih =>
      intro k hk
      have nx := ih (k + 1) (by omega)
      have b := bkN_b sb lb.1 lb.2 k
      unfold nkeys at hk
      have kk : loK mu w wh + k ≤ hiK mu w wh := by omega
      have sk := sb (loK mu w wh + k)
      refine bX10_bestKey_28 hC ⟨⟨by omega, by omega⟩, ⟨by omega, by omega⟩, fun r => by omega, fun _ => ?_⟩
      refine sX10_soundingFrom hC hI m0 m1 ?_ ?_ t0 t1 (jm_qiI ⟨by omega, by omega⟩ ⟨⟨by omega, by omega⟩, fun q => ?_, fun q => ?_⟩)
      · unfold loK
        omega
      · unfold hiK at kk
        omega
      · have e : bkN (fun k => sfN mu wh k t) (loK mu w wh) (k + 1) = bkN (fun k => sfN mu wh k t) (loK mu w wh) k := if_neg (by show ¬ ((bkN (fun k => sfN mu wh k t) (loK mu w wh) k).2 < sfN mu wh (loK mu w wh + k) t); omega)
        rw [e, show ((k + 1 : Nat) : Int) = (k : Int) + 1 by omega, ← Int.add_assoc] at nx
        exact nx
      · have e : bkN (fun k => sfN mu wh k t) (loK mu w wh) (k + 1) = (loK mu w wh + k, sfN mu wh (loK mu w wh + k) t) := if_pos q
        rw [e, show ((k + 1 : Nat) : Int) = (k : Int) + 1 by omega, ← Int.add_assoc] at nx
        exact nx
  refine eX10_bestKey hC (sX0_highestKey hC hA hM w0 w1 m0 m1 (jm_qiI ⟨by omega, by omega⟩ (sX0_lowestKey hC hA hM w0 w1 m0 m1 (jm_qiI ⟨by omega, by omega⟩ ?_))))
  have := lp (nkeys mu w wh) 0 (by omega)
  rw [show loK mu w wh + ((0 : Nat) : Int) = loK mu w wh by omega] at this
  exact this
theorem sX12_greater (hR : jm_HR gR) (r1 : jm_rg v1) (r2 : jm_rg v2) (h : Q (some (jm_i (max v1 v2))) nu) : jm_R l gR (d + 1) iX12_greater [.ref 0, jm_i v1, jm_i v2] nu Q :=
  eX12_greater hR ⟨r1, r2, fun q => by rw [show max v1 v2 = v2 by omega] at h; exact h, fun q => by rw [show max v1 v2 = v1 by omega] at h; exact h⟩
theorem sX12_lesser (hR : jm_HR gR) (r1 : jm_rg v1) (r2 : jm_rg v2) (h : Q (some (jm_i (min v1 v2))) nu) : jm_R l gR (d + 1) iX12_lesser [.ref 0, jm_i v1, jm_i v2] nu Q :=
  eX12_lesser hR ⟨r1, r2, fun q => by rw [show min v1 v2 = v2 by omega] at h; exact h, fun q => by rw [show min v1 v2 = v1 by omega] at h; exact h⟩
theorem lX12_best (hR : jm_HR gR) (hI : Iv mu nu) {w f t : Int} (q : ¬ mot mu w f = -1) (t0 : 0 ≤ t) (t1 : t < mu.1 29 4) (r4 : jm_rg v4) (h : Q (some (jm_i (bstK mu w (mot mu w f) t v4))) nu) (j : Nat) : ∀ k : Nat, k + j = 60 → jm_V l gR (d + 5) iX12_best 61 [(0, .ref 0), (1, jm_i w), (2, jm_i f), (3, jm_i t), (4, jm_i v4), (5, jm_i (bkN (fun k => sfN mu (mot mu w f) k t) (loK mu w (mot mu w f)) (kM (loK mu w (mot mu w f)) (hiK mu w (mot mu w f)) k).toNat).1), (6, jm_i (bkN (fun k => sfN mu (mot mu w f) k t) (loK mu w (mot mu w f)) (kM (loK mu w (mot mu w f)) (hiK mu w (mot mu w f)) k).toNat).2), (7, jm_i k)] [] nu Q := by
  have hA := hI.1
  have hM := hI.2.1
  obtain ⟨⟨⟨w0, w1⟩, f0, f5⟩, em, nc, ⟨m0, m1⟩, nz⟩ := mot_in hA q
  obtain ⟨L1, LH, H60, -⟩ := hA.2.1 w w0 w1
  have lb := loK_bd hA hM w0 w1 m0 m1
  have hb := hiK_bd hA hM w0 w1 m0 m1
  have sb := fun k => sfN_b hM m0 m1 k t
  have sdf : ∀ k, sng mu w f k ↔ (loK mu w (mot mu w f) ≤ k ∧ k ≤ hiK mu w (mot mu w f)) := fun k => ⟨fun h => h.2, fun h => ⟨q, h⟩⟩
  have lo1 : ∀ k, loK mu w (mot mu w f) ≤ k → 0 ≤ k + 1 - faN (stf mu (mot mu w f)) (nst mu (mot mu w f)) := fun k hk => by unfold loK at hk; omega
  have hi1 : ∀ k, k ≤ hiK mu w (mot mu w f) → k + 1 + riN (stf mu (mot mu w f)) (nst mu (mot mu w f)) ≤ 60 := fun k hk => by unfold hiK at hk; omega
  have nke : nkeys mu w (mot mu w f) = (hiK mu w (mot mu w f) - loK mu w (mot mu w f) + 1).toNat := rfl
  unfold bstK at h
  rw [nke] at h
  generalize hwh : mot mu w f = wh at *
  generalize loK mu w wh = L at *
  generalize hiK mu w wh = H at *
  induction j with
  | zero =>
    intro k hk
    have e : (kM L H k).toNat = (H - L + 1).toNat := by unfold kM; omega
    rw [e]
    refine bX12_best_61 hR ⟨⟨by omega, by omega⟩, fun _ => ⟨r4, fun q => ?_, fun q => ?_⟩, fun r => by omega⟩
    · rw [if_neg q] at h
      exact h
    · rw [if_pos q] at h
      exact h
  | succ j ih =>
    intro k hk
    have nx := ih (k + 1) (by omega)
    refine bX12_best_61 hR ⟨⟨by omega, by omega⟩, fun r => by omega, fun _ => ?_⟩
    refine sX12_isSung hR hA hM w0 w1 f0 f5 ⟨by omega, by omega⟩ (fun s => jm_qiI ⟨by decide, by decide⟩ ⟨fun _ => ?_, fun r => absurd r (by decide)⟩) (fun s => jm_qiI ⟨by decide, by decide⟩ ⟨fun r => absurd rfl r, fun _ => ?_⟩)
    · have s2 := (sdf k).1 s
      have e1 : (kM L H ((k + 1 : Nat) : Int)).toNat = (kM L H k).toNat + 1 := by unfold kM; omega
      have e2 : L + ((kM L H k).toNat : Int) = k := by unfold kM; omega
      have b := bkN_b sb lb.1 lb.2 (kM L H k).toNat
      have kb : ((kM L H k).toNat : Int) ≤ 60 := by unfold kM; omega
      have sk := sb k
      rw [e1] at nx
      refine sX12_motiveOf hR hA hM w0 w1 f0 f5 (jm_qiI ⟨by omega, by omega⟩ ?_)
      rw [hwh]
      refine sX12_soundsWith hR hI m0 m1 (lo1 k s2.1) (hi1 k s2.2) t0 t1 (jm_qiI ⟨by omega, by omega⟩ ⟨⟨by omega, by omega⟩, fun r => bX12_best_111 hR (sX12_greater hR ⟨by omega, by omega⟩ ⟨by omega, by omega⟩ (jm_qiI ⟨by omega, by omega⟩ ?_)), fun r => bX12_best_111 hR (sX12_greater hR ⟨by omega, by omega⟩ ⟨by omega, by omega⟩ (jm_qiI ⟨by omega, by omega⟩ ?_))⟩)
      · have e : bkN (fun k => sfN mu wh k t) L ((kM L H k).toNat + 1) = bkN (fun k => sfN mu wh k t) L (kM L H k).toNat := if_neg (by rw [e2]; show ¬ ((bkN (fun k => sfN mu wh k t) L (kM L H k).toNat).2 < sfN mu wh k t); omega)
        rw [e, show ((k + 1 : Nat) : Int) = (k : Int) + 1 by omega] at nx
        rw [show max (bkN (fun k => sfN mu wh k t) L (kM L H k).toNat).2 (sfN mu wh k t) = (bkN (fun k => sfN mu wh k t) L (kM L H k).toNat).2 by omega]
        exact nx
      · have e : bkN (fun k => sfN mu wh k t) L ((kM L H k).toNat + 1) = ((k : Int), sfN mu wh k t) := by
          show (if (bkN (fun k => sfN mu wh k t) L (kM L H k).toNat).2 < sfN mu wh (L + ((kM L H k).toNat : Int)) t then (L + ((kM L H k).toNat : Int), sfN mu wh (L + ((kM L H k).toNat : Int)) t) else bkN (fun k => sfN mu wh k t) L (kM L H k).toNat) = _
          rw [e2, if_pos r]
        rw [e, show ((k + 1 : Nat) : Int) = (k : Int) + 1 by omega] at nx
        rw [show max (bkN (fun k => sfN mu wh k t) L (kM L H k).toNat).2 (sfN mu wh k t) = sfN mu wh k t by omega]
        exact nx
    · have s2 : ¬ (L ≤ k ∧ k ≤ H) := fun r => s ((sdf k).2 r)
      have e1 : (kM L H ((k + 1 : Nat) : Int)).toNat = (kM L H k).toNat := by unfold kM; omega
      rw [e1, show ((k + 1 : Nat) : Int) = (k : Int) + 1 by omega] at nx
      exact nx
theorem bstK_b (hI : Iv mu nu) {w wh t what : Int} (w0 : 0 ≤ w) (w1 : w < mu.1 6 0) (m0 : 0 ≤ wh) (m1 : wh < 24) : jm_rg (bstK mu w wh t what) := by
  have lb := loK_bd hI.1 hI.2.1 w0 w1 m0 m1
  have hb := hiK_bd hI.1 hI.2.1 w0 w1 m0 m1
  have b := bkN_b (fun k => sfN_b hI.2.1 m0 m1 k t) lb.1 lb.2 (nkeys mu w wh)
  have nk : (nkeys mu w wh : Int) ≤ 400 := by unfold nkeys; omega
  unfold bstK
  split <;> exact ⟨by omega, by omega⟩
theorem sim_best (hC : jm_HC gC) (hR : jm_HR gR) (hI : Iv mu nu) (h1 : jm_rg v1) (h2 : jm_rg v2) (h3 : jm_rg v3) (h4 : jm_rg v4) : jm_sim l gC gR (d + 6) (d + 5) iX11_best iX12_best [jm_i v1, jm_i v2, jm_i v3, jm_i v4] mu nu := by
  have I0 := hI.t0
  have mb := mot_bd hI.1 v1 v2
  have w4 : (jm_wr nu 0 0 0).1 0 4 = mu.1 6 0 := I0.1.1.2.2
  have t4 : (jm_wr nu 0 0 0).1 1 4 = mu.1 29 4 := I0.2.2.2.2.1.2.2.2.2.1.2.2
  have no : ¬ (¬ mot mu v1 v2 = -1 ∧ (0 ≤ v3 ∧ v3 < mu.1 29 4) ∧ 0 ≤ v4 ∧ v4 ≤ 1) → jm_qi (fun z m => jm_R l gR (d + 5) iX12_best [.ref 0, jm_i v1, jm_i v2, jm_i v3, jm_i v4] nu (jm_qi fun y n => y = z ∧ Iv m n)) (some (jm_i (-1))) mu := by
    intro q
    refine jm_qiI ⟨by decide, by decide⟩ (eX12_best hR (fun m1 e1 => ?_))
    subst e1
    have fi := jm_fin (z := -1) (y := -1) (F := fun n => Iv mu n) ⟨by decide, by decide⟩ rfl I0
    refine ⟨h1, fun q1 => ⟨h2, fun q2 => ⟨h3, fun q3 => ⟨h4, fun q4 => ?_, fun _ => fi⟩, fun _ => fi⟩, fun _ => fi⟩, fun _ => fi⟩
    exact sX12_motiveOf hR I0.1 I0.2.1 q1.1 (by omega) q2.1 (by omega) (jm_qiI ⟨by omega, by omega⟩ ⟨fun r => absurd ⟨r, by rw [← t4]; exact q3, q4⟩ q, fun _ => fi⟩)
  refine eX11_best hC (sX0_motiveOf hC hI.1 h1 h2 (jm_qiI ⟨by omega, by omega⟩ ⟨fun r => no (fun x => x.1 r), fun q => ⟨h3, fun q3 => ⟨h4, fun q4 => ?_, fun q4 => no (fun x => q4 x.2.2)⟩, fun q3 => no (fun x => q3 x.2.1)⟩⟩))
  obtain ⟨⟨⟨w0, w1⟩, f0, f5⟩, em, nc, ⟨m0, m1⟩, nz⟩ := mot_in hI.1 q
  have lb := loK_bd hI.1 hI.2.1 w0 w1 m0 m1
  have rz := bstK_b hI (t := v3) (what := v4) w0 w1 m0 m1
  refine sX10_bestKey hC hI w0 w1 m0 m1 q3.1 q3.2 h4 (jm_qiI rz (jm_qiI rz (eX12_best hR (fun n1 e1 => ?_))))
  subst e1
  refine ⟨h1, fun _ => ⟨h2, fun _ => ⟨h3, fun _ => ⟨h4, fun _ => ?_, fun r => absurd q4 r⟩, fun r => absurd (by rw [t4]; exact q3) r⟩, fun r => absurd ⟨f0, by omega⟩ r⟩, fun r => absurd ⟨w0, by omega⟩ r⟩
  refine sX12_motiveOf hR I0.1 I0.2.1 w0 w1 f0 f5 (jm_qiI ⟨by omega, by omega⟩ ⟨fun _ => ?_, fun r => absurd r q⟩)
  have := lX12_best (l := l) (d := d) (v4 := v4) (Q := jm_qi fun y n => y = bstK mu v1 (mot mu v1 v2) v3 v4 ∧ Iv mu n) hR I0 q q3.1 q3.2 h4 (jm_fin rz rfl I0) 60 0 (by decide)
  have e0 : (kM (loK mu v1 (mot mu v1 v2)) (hiK mu v1 (mot mu v1 v2)) ((0 : Nat) : Int)).toNat = 0 := by unfold kM; omega
  rw [e0] at this
  exact this
end BE
