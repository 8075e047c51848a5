section RD
variable {l : Launch} {gC gR : jm_G} {d : Nat} {mu nu m n : jm_M} {v1 v2 v3 v4 v5 : Int} {Q : Option Value → jm_M → Prop}
/-- the notes that are unlike what was heard, from a key -/
def ulq (mu : jm_M) (wh key : Int) : Int → Int := fun i => if key + 1 + abN (stf mu wh) i.toNat = mu.1 11 i then 0 else 1
theorem ulq_01 (mu : jm_M) (wh key i : Int) : ulq mu wh key i = 0 ∨ ulq mu wh key i = 1 := by unfold ulq; split <;> omega
def ulN (mu : jm_M) (wh key : Int) : Int := abN (ulq mu wh key) (mu.1 6 8).toNat
def mnN (F : Int → Int) (lo s : Int) : Nat → Int
  | 0 => s
  | n + 1 => min (mnN F lo s n) (F (lo + n))
theorem mnN_m (F : Int → Int) (lo : Int) : ∀ n : Nat, mnN F lo 10 n = min 10 (mnN F lo 99 n)
  | 0 => by show (10 : Int) = min 10 99; decide
  | n + 1 => by
    unfold mnN
    rw [mnN_m F lo n]
    omega
theorem mnN_b {F : Int → Int} {lo s : Int} (hF : ∀ k, 0 ≤ F k) (s0 : 0 ≤ s) (s9 : s ≤ 99) : ∀ n : Nat, 0 ≤ mnN F lo s n ∧ mnN F lo s n ≤ 99
  | 0 => ⟨s0, s9⟩
  | n + 1 => by
    have ih := mnN_b (lo := lo) hF s0 s9 n
    have := hF (lo + n)
    unfold mnN
    omega
theorem ulN_b (hA : IA mu nu) (wh key : Int) : 0 ≤ ulN mu wh key ∧ ulN mu wh key ≤ 12 := by
  have b := abN_01 (ulq mu wh key) (ulq_01 mu wh key) (mu.1 6 8).toNat
  have := hA.2.2.2.2.2.2.1
  unfold ulN
  omega
theorem sX10_unlikeFrom (hC : jm_HC gC) (hI : Iv mu nu) {wh key : Int} (m0 : 0 ≤ wh) (m1 : wh < 24) (hn : mu.1 13 wh = mu.1 6 8) (k0 : 0 ≤ key) (k1 : key ≤ 300) (h : Q (some (jm_i (ulN mu wh key))) mu) : jm_R l gC (d + 3) iX10_unlikeFrom [.ref 38, jm_i wh, jm_i key] mu Q := by
  have hM := hI.2.1
  obtain ⟨n0, n8, n17⟩ := hM.2.1 wh m0 m1
  have lp : ∀ (j i : Nat) (x : Int), i + j = (mu.1 6 8).toNat → (0 < j → x = key + 1 + abN (stf mu wh) i) → jm_V l gC (d + 3) iX10_unlikeFrom 10 [(0, .ref 38), (1, jm_i wh), (3, jm_i (abN (ulq mu wh key) i)), (4, jm_i x), (5, jm_i i)] [] mu Q := by
    intro j
    induction j with
    | zero =>
      intro i x hi _
      have e : i = (mu.1 6 8).toNat := by omega
      refine bX10_unlikeFrom_10 hC ⟨⟨by omega, by omega⟩, fun _ => ?_, fun r => by omega⟩
      rw [e]
      exact h
    | succ j ih =>
      intro i x hi hx
      have hx := hx (by omega)
      have hi1 : i ≤ nst mu wh := by unfold nst; omega
      have ab := abN_bd (stf mu wh) (nst mu wh) (stf_bd hM m0 m1) i hi1
      have n7 := nst_le hM m0 m1
      have es : ulq mu wh key i = if x = mu.1 11 i then 0 else 1 := by
        rw [hx]
        show (if key + 1 + abN (stf mu wh) ((i : Int)).toNat = mu.1 11 i then (0 : Int) else 1) = _
        rw [Int.toNat_natCast]
      have nx : ∀ x6 : Int, (0 < j → x6 = key + 1 + abN (stf mu wh) (i + 1)) → jm_V l gC (d + 3) iX10_unlikeFrom 10 [(0, .ref 38), (1, jm_i wh), (3, jm_i (abN (ulq mu wh key) i + ulq mu wh key i)), (4, jm_i x6), (5, jm_i ((i : Int) + 1))] [] mu Q := by
        intro x6 hx6
        rw [show ((i : Int) + 1) = ((i + 1 : Nat) : Int) by omega, abN_st]
        exact ih (i + 1) x6 (by omega) hx6
      have st : ∀ c : Int, c = abN (ulq mu wh key) i + ulq mu wh key i → jm_V l gC (d + 3) iX10_unlikeFrom 47 [(0, .ref 38), (1, jm_i wh), (3, jm_i c), (4, jm_i x), (5, jm_i i)] [] mu Q := by
        intro c hc
        rw [hc]
        refine bX10_unlikeFrom_47 hC ?_
        by_cases q7 : (i : Int) ≤ 6
        · refine jm_RmrI (fun hm => sX5_stepOf hC ⟨m0, by omega⟩ ⟨by omega, q7⟩ (jm_qiI (hm _ _) (fun x6 ex6 => nx x6 (fun j0 => ?_))))
          rw [ex6, hx, ← abN_st]
          show key + 1 + abN (stf mu wh) i + stf mu wh i = _
          omega
        · exact sX5_stepOf0 hC ⟨by omega, by omega⟩ ⟨by omega, by omega⟩ (by omega) (jm_qiI ⟨by decide, by decide⟩ (fun x6 ex6 => nx x6 (fun j0 => by omega)))
      refine bX10_unlikeFrom_10 hC ⟨⟨by omega, by omega⟩, fun r => by omega, fun _ => ⟨fun r => by omega, fun _ => ⟨⟨by omega, by omega⟩, ⟨by omega, by omega⟩, fun r => st _ ?_, fun r => st _ ?_⟩⟩⟩
      · rw [es, if_pos r, Int.add_zero]
      · rw [es, if_neg r]
  exact eX10_unlikeFrom hC (fun x1 e1 => lp (mu.1 6 8).toNat 0 x1 (by omega) (fun _ => by show x1 = key + 1 + 0; omega))
def faW (mu : jm_M) (wh : Int) : Int := faN (stf mu wh) (nst mu wh)
def riW (mu : jm_M) (wh : Int) : Int := riN (stf mu wh) (nst mu wh)
/-- the fewest unlike notes, from s on -/
def fwN (mu : jm_M) (wh s : Int) : Int := mnN (ulN mu wh) (faW mu wh) s (59 - riW mu wh - faW mu wh + 1).toNat
theorem frW (hM : IM mu nu) {wh : Int} (m0 : 0 ≤ wh) (m1 : wh < 24) : (0 ≤ faW mu wh ∧ faW mu wh ≤ 168) ∧ 0 ≤ riW mu wh ∧ riW mu wh ≤ 168 := by
  have a := faN_bd (stf mu wh) (nst mu wh) (stf_bd hM m0 m1) (nst mu wh) (Nat.le_refl _)
  have b := riN_bd (stf mu wh) (nst mu wh) (stf_bd hM m0 m1) (nst mu wh) (Nat.le_refl _)
  have n7 := nst_le hM m0 m1
  unfold faW riW
  omega
theorem sX10_fewestUnlike (hC : jm_HC gC) (hI : Iv mu nu) {wh : Int} (m0 : 0 ≤ wh) (m1 : wh < 24) (hn : mu.1 13 wh = mu.1 6 8) (h : Q (some (jm_i (fwN mu wh 10))) mu) : jm_R l gC (d + 4) iX10_fewestUnlike [.ref 38, jm_i wh] mu Q := by
  have hM := hI.2.1
  obtain ⟨⟨f0, f1⟩, r0, r1⟩ := frW hM m0 m1
  have lp : ∀ (j k : Nat), k + j = (59 - riW mu wh - faW mu wh + 1).toNat → jm_V l gC (d + 4) iX10_fewestUnlike 31 [(0, .ref 38), (1, jm_i wh), (2, jm_i (mnN (ulN mu wh) (faW mu wh) 10 k)), (3, jm_i (59 - riW mu wh)), (4, jm_i (faW mu wh + k))] [] mu Q := by
    intro j
    induction j with
    | zero =>
      intro k hk
      refine bX10_fewestUnlike_31 hC ⟨⟨by omega, by omega⟩, ⟨by omega, by omega⟩, fun _ => ?_, fun r => by omega⟩
      have e : k = (59 - riW mu wh - faW mu wh + 1).toNat := by omega
      rw [e]
      exact h
    | succ j ih =>
      intro k hk
      have b := mnN_b (lo := faW mu wh) (s := 10) (fun k => (ulN_b hI.1 wh k).1) (by decide) (by decide) k
      have ub := ulN_b hI.1 wh (faW mu wh + k)
      refine bX10_fewestUnlike_31 hC ⟨⟨by omega, by omega⟩, ⟨by omega, by omega⟩, fun r => by omega, fun _ => sX10_unlikeFrom hC hI m0 m1 hn (by omega) (by omega) (jm_qiI ⟨by omega, by omega⟩ ⟨⟨by omega, by omega⟩, fun x8 e8 => ?_⟩)⟩
      have nx := ih (k + 1) (by omega)
      rw [show ((k + 1 : Nat) : Int) = (k : Int) + 1 by omega, ← Int.add_assoc] at nx
      rw [e8]
      exact nx
  refine eX10_fewestUnlike hC (sX5_rise hC hM m0 m1 (jm_qiI (by show jm_rg (riW mu wh); exact ⟨by omega, by omega⟩) (fun x5 e5 => sX5_fall hC hM m0 m1 (jm_qiI (by show jm_rg (faW mu wh); exact ⟨by omega, by omega⟩) ?_))))
  have := lp (59 - riW mu wh - faW mu wh + 1).toNat 0 (by omega)
  rw [show faW mu wh + ((0 : Nat) : Int) = faW mu wh by omega] at this
  rw [show x5 = 59 - riW mu wh from e5]
  exact this
theorem sX12_unlikeTo (hR : jm_HR gR) (hI : Iv mu nu) {wh : Int} (m0 : 0 ≤ wh) (m1 : wh < 24) (hn : mu.1 13 wh = mu.1 6 8) (h8 : 0 < mu.1 6 8) (h : Q (some (jm_i (fwN mu wh 99))) nu) : jm_R l gR (d + 4) iX12_unlikeTo [.ref 0, jm_i wh] nu Q := by
  have hM := hI.2.1
  have hA := hI.1
  obtain ⟨⟨f0, f1⟩, r0, r1⟩ := frW hM m0 m1
  obtain ⟨n0, n8, n17⟩ := hM.2.1 wh m0 m1
  obtain ⟨a0, a12, a52⟩ := hA.2.2.2.2.2.2.1
  have sgd : ∀ k, sgb mu wh k 1 60 ↔ (faW mu wh ≤ k ∧ k ≤ 59 - riW mu wh) := fun k => by
    unfold sgb faW riW
    omega
  have lp : ∀ (j k : Nat), k + j = 60 → jm_V l gR (d + 4) iX12_unlikeTo 5 [(0, .ref 0), (1, jm_i wh), (2, jm_i (mnN (ulN mu wh) (faW mu wh) 99 (kM (faW mu wh) (59 - riW mu wh) k).toNat)), (3, jm_i k)] [] nu Q := by
    intro j
    induction j with
    | zero =>
      intro k hk
      refine bX12_unlikeTo_5 hR ⟨⟨by omega, by omega⟩, fun _ => ?_, fun r => by omega⟩
      have e : (kM (faW mu wh) (59 - riW mu wh) k).toNat = (59 - riW mu wh - faW mu wh + 1).toNat := by unfold kM; omega
      rw [e]
      exact h
    | succ j ih =>
      intro k hk
      have nx := ih (k + 1) (by omega)
      refine bX12_unlikeTo_5 hR ⟨⟨by omega, by omega⟩, fun r => by omega, fun _ => sX12_canSing hR hM m0 m1 ⟨by omega, by omega⟩ ⟨by decide, by decide⟩ ⟨by decide, by decide⟩ (fun s => jm_qiI ⟨by decide, by decide⟩ ⟨fun _ => ?_, fun r => absurd r (by decide)⟩) (fun s => jm_qiI ⟨by decide, by decide⟩ ⟨fun r => absurd rfl r, fun _ => ?_⟩)⟩
      · have s2 := (sgd k).1 s
        have e1 : (kM (faW mu wh) (59 - riW mu wh) ((k + 1 : Nat) : Int)).toNat = (kM (faW mu wh) (59 - riW mu wh) k).toNat + 1 := by unfold kM; omega
        have e2 : faW mu wh + ((kM (faW mu wh) (59 - riW mu wh) k).toNat : Int) = k := by unfold kM; omega
        have b := mnN_b (lo := faW mu wh) (s := 99) (fun k => (ulN_b hA wh k).1) (by decide) (by decide) (kM (faW mu wh) (59 - riW mu wh) k).toNat
        have ub := ulN_b hA wh k
        rw [e1] at nx
        have e3 : mnN (ulN mu wh) (faW mu wh) 99 ((kM (faW mu wh) (59 - riW mu wh) k).toNat + 1) = min (mnN (ulN mu wh) (faW mu wh) 99 (kM (faW mu wh) (59 - riW mu wh) k).toNat) (ulN mu wh k) := by
          show min _ (ulN mu wh (faW mu wh + ((kM (faW mu wh) (59 - riW mu wh) k).toNat : Int))) = _
          rw [e2]
        rw [e3, show ((k + 1 : Nat) : Int) = (k : Int) + 1 by omega] at nx
        have ip : ∀ (j2 i : Nat), i + j2 = (mu.1 6 8).toNat → jm_V l gR (d + 4) iX12_unlikeTo 32 [(0, .ref 0), (1, jm_i wh), (2, jm_i (mnN (ulN mu wh) (faW mu wh) 99 (kM (faW mu wh) (59 - riW mu wh) k).toNat)), (3, jm_i k), (4, jm_i (abN (ulq mu wh k) i)), (5, jm_i i)] [] nu Q := by
          intro j2
          induction j2 with
          | zero =>
            intro i hi
            have e : abN (ulq mu wh k) i = ulN mu wh k := by unfold ulN; rw [show i = (mu.1 6 8).toNat by omega]
            rw [e]
            exact bX12_unlikeTo_32 hR ⟨⟨by omega, by omega⟩, fun _ => sX12_lesser hR ⟨by omega, by omega⟩ ⟨by omega, by omega⟩ (jm_qiI ⟨by omega, by omega⟩ nx), fun r => by omega⟩
          | succ j2 ih2 =>
            intro i hi
            have hi1 : i ≤ nst mu wh := by unfold nst; omega
            have ab := abN_bd (stf mu wh) (nst mu wh) (stf_bd hM m0 m1) i hi1
            have n7 := nst_le hM m0 m1
            have hh := (hA.2.2.2.2.2.2.2 i (by omega) (by omega)).2.2
            have nx2 := ih2 (i + 1) (by omega)
            have es : ulq mu wh k i = if (k : Int) + 1 + abN (stf mu wh) i = mu.1 11 i then 0 else 1 := by
              show (if (k : Int) + 1 + abN (stf mu wh) ((i : Int)).toNat = mu.1 11 i then (0 : Int) else 1) = _
              rw [Int.toNat_natCast]
            rw [← abN_st, es, show ((i + 1 : Nat) : Int) = (i : Int) + 1 by omega] at nx2
            refine bX12_unlikeTo_32 hR ⟨⟨by omega, by omega⟩, fun r => by omega, fun _ => sX12_aboveOf hR hM m0 m1 (N := i) hi1 (jm_qiI ⟨by omega, by omega⟩ ⟨⟨by omega, by omega⟩, ⟨by omega, by omega⟩, fun r => ?_, fun r x12 e12 => ?_⟩)⟩
            · rw [hh] at r
              rw [if_pos r, Int.add_zero] at nx2
              exact nx2
            · rw [hh] at r
              rw [if_neg r] at nx2
              rw [e12]
              exact nx2
        exact ip (mu.1 6 8).toNat 0 (by omega)
      · have s2 : ¬ (faW mu wh ≤ k ∧ k ≤ 59 - riW mu wh) := fun r => s ((sgd k).2 r)
        have e1 : (kM (faW mu wh) (59 - riW mu wh) ((k + 1 : Nat) : Int)).toNat = (kM (faW mu wh) (59 - riW mu wh) k).toNat := by unfold kM; omega
        rw [e1, show ((k + 1 : Nat) : Int) = (k : Int) + 1 by omega] at nx
        exact nx
  have := lp 60 0 (by decide)
  have e0 : (kM (faW mu wh) (59 - riW mu wh) ((0 : Nat) : Int)).toNat = 0 := by unfold kM; omega
  rw [e0] at this
  exact eX12_unlikeTo hR this
/-- a motive that was heard, with at most e unlike notes -/
def hit (mu : jm_M) (e k : Int) : Int := if (mu.1 13 k = mu.1 6 8 ∧ 0 < mu.1 6 8) ∧ fwN mu k 99 ≤ e then 1 else 0
theorem hit_01 (mu : jm_M) (e k : Int) : hit mu e k = 0 ∨ hit mu e k = 1 := by unfold hit; split <;> omega
def fst1 (mu : jm_M) (e lo hi x : Int) : Prop := (x = -1 ∧ ∀ i, lo ≤ i → i < hi → hit mu e i = 0) ∨ ((lo ≤ x ∧ x < hi) ∧ hit mu e x = 1 ∧ ∀ i, lo ≤ i → i < x → hit mu e i = 0)
theorem fst1_u {e lo hi x y : Int} (l0 : 0 ≤ lo) (h : fst1 mu e lo hi x) (k : fst1 mu e lo hi y) : x = y := by
  rcases h with ⟨a, b⟩ | ⟨⟨a1, a2⟩, b, c⟩ <;> rcases k with ⟨a', b'⟩ | ⟨⟨a1', a2'⟩, b', c'⟩
  · omega
  · have := b y a1' a2'; omega
  · have := b' x a1 a2; omega
  · by_cases q : x < y
    · have := c' x a1 q; omega
    · by_cases q2 : y < x
      · have := c y a1' q2; omega
      · omega
theorem lX10_motivesHeard (hC : jm_HC gC) (hI : Iv mu nu) {e what : Int} (e0 : 0 ≤ e) (e9 : e ≤ 9) (w2 : 0 ≤ what ∧ what ≤ 2) (h : ∀ x, fst1 mu e 0 24 x → Q (some (jm_i (if what = 0 then abN (hit mu e) 24 else if what = 1 then x else if x = -1 then -1 else fwN mu x 99))) mu) (j : Nat) : ∀ (k : Nat) (x u : Int), k + j = 24 → fst1 mu e 0 k x → (x = -1 → u = -1) → (¬ x = -1 → u = fwN mu x 99) → jm_V l gC (d + 5) iX10_motivesHeard 11 [(0, .ref 38), (1, jm_i e), (2, jm_i what), (3, jm_i (abN (hit mu e) k)), (4, jm_i x), (5, jm_i u), (6, jm_i k)] [] mu Q := by
  induction j with
  | zero =>
    intro k x u hk hx u1 u2
    have k24 : k = 24 := by omega
    subst k24
    have hh := h x hx
    refine bX10_motivesHeard_11 hC ⟨⟨by omega, by omega⟩, fun _ => ⟨⟨by omega, by omega⟩, fun q => ⟨fun q1 => ?_, fun q1 => ?_⟩, fun q => ?_⟩, fun r => by omega⟩
    · rw [if_neg q, if_neg q1] at hh
      by_cases q2 : x = -1
      · rw [if_pos q2] at hh
        rw [u1 q2]
        exact hh
      · rw [if_neg q2] at hh
        rw [u2 q2]
        exact hh
    · rw [if_neg q, if_pos q1] at hh
      exact hh
    · rw [if_pos q] at hh
      exact hh
  | succ j ih =>
    intro k x u hk hx u1 u2
    have xb : -1 ≤ x ∧ x < 24 := by
      rcases hx with ⟨a, b⟩ | ⟨⟨a1, a2⟩, b, c⟩ <;> omega
    have last : ∀ s0 : Int, 0 ≤ s0 → s0 ≤ 99 → (s0 ≤ e ↔ hit mu e k = 1) → (s0 ≤ e → s0 = fwN mu k 99) → jm_V l gC (d + 5) iX10_motivesHeard 74 [(0, .ref 38), (1, jm_i e), (2, jm_i what), (3, jm_i (abN (hit mu e) k)), (4, jm_i x), (5, jm_i u), (6, jm_i k)] [jm_i s0] mu Q := by
      intro s0 sb0 sb9 hs hv
      have h01 := hit_01 mu e k
      have st := abN_st (hit mu e) k
      refine bX10_motivesHeard_74 hC ⟨⟨by omega, by omega⟩, ⟨by omega, by omega⟩, fun q => ?_, fun q => ⟨⟨by omega, by omega⟩, fun q2 => ?_, fun q2 => ?_⟩⟩
      · have hz : hit mu e k = 0 := by
          rcases h01 with r | r
          · exact r
          · have := hs.2 r; omega
        rw [hz, Int.add_zero] at st
        rw [st, show ((k : Int) + 1) = ((k + 1 : Nat) : Int) by omega]
        refine ih (k + 1) x u (by omega) ?_ u1 u2
        rcases hx with ⟨a, b⟩ | ⟨⟨a1, a2⟩, b, c⟩
        · refine Or.inl ⟨a, fun i i0 i1 => ?_⟩
          by_cases q3 : i = k
          · rw [q3]; exact hz
          · exact b i i0 (by omega)
        · exact Or.inr ⟨⟨a1, by omega⟩, b, c⟩
      · have hz := hs.1 q
        rw [hz] at st
        rw [st, show ((k : Int) + 1) = ((k + 1 : Nat) : Int) by omega]
        refine ih (k + 1) x u (by omega) ?_ u1 u2
        rcases hx with ⟨a, b⟩ | ⟨⟨a1, a2⟩, b, c⟩
        · exact absurd a q2
        · exact Or.inr ⟨⟨a1, by omega⟩, b, c⟩
      · have hz := hs.1 q
        rw [hz] at st
        rw [st, show ((k : Int) + 1) = ((k + 1 : Nat) : Int) by omega]
        refine ih (k + 1) (k : Int) s0 (by omega) (Or.inr ⟨⟨by omega, by omega⟩, hz, ?_⟩) (fun r => by omega) (fun _ => hv q)
        rcases hx with ⟨a, b⟩ | ⟨⟨a1, a2⟩, b, c⟩
        · exact b
        · omega
    have none : ¬ (mu.1 13 k = mu.1 6 8 ∧ 0 < mu.1 6 8) → jm_V l gC (d + 5) iX10_motivesHeard 56 [(0, .ref 38), (1, jm_i e), (2, jm_i what), (3, jm_i (abN (hit mu e) k)), (4, jm_i x), (5, jm_i u), (6, jm_i k)] [jm_i 0] mu Q := by
      intro q
      have hz : hit mu e k = 0 := if_neg (fun r => q r.1)
      exact bX10_motivesHeard_56 hC ⟨⟨by decide, by decide⟩, fun _ => last 10 (by decide) (by decide) ⟨fun r => by omega, fun r => by omega⟩ (fun r => by omega), fun r => absurd rfl r⟩
    refine bX10_motivesHeard_11 hC ⟨⟨by omega, by omega⟩, fun r => by omega, fun _ => ⟨fun q => none (fun r => by omega), fun q => ⟨⟨by omega, by omega⟩, fun q2 => none (fun r => q2 r.1), fun q2 => ?_⟩⟩⟩
    have mm := mnN_m (ulN mu k) (faW mu k) (59 - riW mu k - faW mu k + 1).toNat
    have mm : fwN mu k 10 = min 10 (fwN mu k 99) := mm
    have fb := mnN_b (F := ulN mu k) (lo := faW mu k) (s := 99) (fun i => (ulN_b hI.1 k i).1) (by decide) (by decide) (59 - riW mu k - faW mu k + 1).toNat
    have fb : 0 ≤ fwN mu k 99 ∧ fwN mu k 99 ≤ 99 := fb
    refine bX10_motivesHeard_56 hC ⟨⟨by decide, by decide⟩, fun r => absurd r (by decide), fun _ => sX10_fewestUnlike hC hI (by omega) (by omega) q2 (jm_qiI ⟨by omega, by omega⟩ (last _ (by omega) (by omega) ⟨fun r => if_pos ⟨⟨q2, q⟩, by omega⟩, fun r => ?_⟩ (fun r => by omega)))⟩
    unfold hit at r
    split at r
    · omega
    · omega
theorem lX12_read (hR : jm_HR gR) (hI : Iv mu nu) {e what : Int} (e0 : 0 ≤ e) (e9 : e ≤ 9) (w2 : 0 ≤ what ∧ what ≤ 2) (h : ∀ x, fst1 mu e 0 24 x → Q (some (jm_i (if what = 0 then abN (hit mu e) 24 else if what = 1 then x else if x = -1 then -1 else fwN mu x 99))) nu) (k : Nat) : ∀ (x : Int), k ≤ 24 → fst1 mu e k 24 x → jm_V l gR (d + 5) iX12_read 37 [(0, .ref 0), (1, jm_i e), (2, jm_i what), (3, jm_i (abN (hit mu e) 24 - abN (hit mu e) k)), (4, jm_i x), (5, jm_i ((k : Int) - 1))] [] nu Q := by
  have a52 := hI.1.2.2.2.2.2.2.1
  induction k with
  | zero =>
    intro x hk hx
    have hh := h x hx
    have xb : -1 ≤ x ∧ x < 24 := by
      rcases hx with ⟨a, b⟩ | ⟨⟨a1, a2⟩, b, c⟩ <;> omega
    refine bX12_read_37 hR ⟨⟨by omega, by omega⟩, fun _ => ⟨⟨by omega, by omega⟩, fun q => ⟨⟨by omega, by omega⟩, fun q2 => ?_, fun q2 => ⟨fun q1 => ?_, fun q1 => ?_⟩⟩, fun q => ?_⟩, fun r => by omega⟩
    · rw [if_neg q] at hh
      by_cases q1 : what = 1
      · rw [if_pos q1] at hh
        exact hh
      · rw [if_neg q1, if_pos q2] at hh
        rw [q2]
        exact hh
    · rw [if_neg q, if_neg q1, if_neg q2] at hh
      have hx1 : hit mu e x = 1 := by
        rcases hx with ⟨a, b⟩ | ⟨⟨a1, a2⟩, b, c⟩
        · exact absurd a q2
        · exact b
      have hx2 : mu.1 13 x = mu.1 6 8 ∧ 0 < mu.1 6 8 := by
        unfold hit at hx1
        split at hx1
        · rename_i r; exact r.1
        · omega
      have fb := mnN_b (F := ulN mu x) (lo := faW mu x) (s := 99) (fun i => (ulN_b hI.1 x i).1) (by decide) (by decide) (59 - riW mu x - faW mu x + 1).toNat
      have fb : 0 ≤ fwN mu x 99 ∧ fwN mu x 99 ≤ 99 := fb
      exact sX12_unlikeTo hR hI (by omega) (by omega) hx2.1 hx2.2 (jm_qiI ⟨by omega, by omega⟩ hh)
    · rw [if_neg q, if_pos q1] at hh
      exact hh
    · rw [if_pos q] at hh
      have : abN (hit mu e) 24 - abN (hit mu e) 0 = abN (hit mu e) 24 := by
        show abN (hit mu e) 24 - 0 = _
        omega
      rw [this]
      exact hh
  | succ k ih =>
    intro x hk hx
    have n17 := hI.2.1.2.1 k (by omega) (by omega)
    have ek : ((k + 1 : Nat) : Int) - 1 = (k : Int) := by omega
    rw [ek]
    have st := abN_st (hit mu e) k
    have h01 := hit_01 mu e k
    have miss : hit mu e k = 0 → jm_V l gR (d + 5) iX12_read 37 [(0, .ref 0), (1, jm_i e), (2, jm_i what), (3, jm_i (abN (hit mu e) 24 - abN (hit mu e) (k + 1))), (4, jm_i x), (5, jm_i ((k : Int) + -1))] [] nu Q := by
      intro hz
      have nx := ih x (by omega) ?_
      · rw [show (k : Int) - 1 = (k : Int) + -1 by omega, show abN (hit mu e) k = abN (hit mu e) (k + 1) by omega] at nx
        exact nx
      · rcases hx with ⟨a, b⟩ | ⟨⟨a1, a2⟩, b, c⟩
        · refine Or.inl ⟨a, fun i i0 i1 => ?_⟩
          by_cases q3 : i = k
          · rw [q3]; exact hz
          · exact b i (by omega) i1
        · refine Or.inr ⟨⟨by omega, a2⟩, b, fun i i0 i1 => ?_⟩
          by_cases q3 : i = k
          · rw [q3]; exact hz
          · exact c i (by omega) i1
    refine bX12_read_37 hR ⟨⟨by omega, by omega⟩, fun r => by omega, fun _ => ⟨⟨by omega, by omega⟩, fun q => miss ?_, fun q => ⟨⟨by omega, by omega⟩, fun q2 => miss ?_, fun q2 => ?_⟩⟩⟩
    · rw [n17.2.2] at q
      exact if_neg (fun r => by omega)
    · rw [n17.2.2, a52.2.2] at q2
      exact if_neg (fun r => q2 r.1.1)
    · rw [n17.2.2, a52.2.2] at q2
      rw [n17.2.2] at q
      have p8 : 0 < mu.1 6 8 := by omega
      have fb := mnN_b (F := ulN mu k) (lo := faW mu k) (s := 99) (fun i => (ulN_b hI.1 k i).1) (by decide) (by decide) (59 - riW mu k - faW mu k + 1).toNat
      have fb : 0 ≤ fwN mu k 99 ∧ fwN mu k 99 ≤ 99 := fb
      refine sX12_unlikeTo hR hI (by omega) (by omega) q2 p8 (jm_qiI ⟨by omega, by omega⟩ ⟨⟨by omega, by omega⟩, fun r x15 e15 => ?_, fun r => miss (if_neg (fun x => by omega))⟩)
      have hz : hit mu e k = 1 := if_pos ⟨⟨q2, p8⟩, r⟩
      have nx := ih (k : Int) (by omega) (Or.inr ⟨⟨by omega, by omega⟩, hz, fun i i0 i1 => by omega⟩)
      rw [show (k : Int) - 1 = (k : Int) + -1 by omega] at nx
      rw [show x15 = abN (hit mu e) 24 - abN (hit mu e) k by omega]
      exact nx
theorem sim_read (hC : jm_HC gC) (hR : jm_HR gR) (hI : Iv mu nu) (h1 : jm_rg v1) (h2 : jm_rg v2) : jm_sim l gC gR (d + 6) (d + 5) iX11_read iX12_read [jm_i v1, jm_i v2] mu nu := by
  have I0 := hI.t0
  have fi := jm_fin (z := -1) (y := -1) (F := fun n => Iv mu n) ⟨by decide, by decide⟩ rfl I0
  refine eX11_read hC ⟨h1, fun q1 => ⟨h2, fun q2 => ?_, fun q2 => ?_⟩, fun q1 => ?_⟩
  · refine eX10_motivesHeard hC (lX10_motivesHeard hC hI q1.1 q1.2 q2 (fun x hx => ?_) 24 0 (-1) (-1) (by decide) (Or.inl ⟨rfl, fun i i0 i1 => by omega⟩) (fun _ => rfl) (fun r => absurd rfl r))
    have hb := abN_01 (hit mu v1) (hit_01 mu v1) 24
    have xb : -1 ≤ x ∧ x < 24 := by
      rcases hx with ⟨a, b⟩ | ⟨⟨a1, a2⟩, b, c⟩ <;> omega
    have fb := mnN_b (F := ulN mu x) (lo := faW mu x) (s := 99) (fun i => (ulN_b hI.1 x i).1) (by decide) (by decide) (59 - riW mu x - faW mu x + 1).toNat
    have fb : 0 ≤ fwN mu x 99 ∧ fwN mu x 99 ≤ 99 := fb
    have rz : jm_rg (if v2 = 0 then abN (hit mu v1) 24 else if v2 = 1 then x else if x = -1 then -1 else fwN mu x 99) := by
      split
      · exact ⟨by omega, by omega⟩
      · split
        · exact ⟨by omega, by omega⟩
        · split <;> exact ⟨by omega, by omega⟩
    refine jm_qiI rz (jm_qiI rz (eX12_read hR (fun n1 e1 => ?_)))
    subst e1
    refine ⟨h1, fun _ => ⟨h2, fun _ => ?_, fun r => absurd q2 r⟩, fun r => absurd q1 r⟩
    have := lX12_read (l := l) (d := d) (what := v2) (Q := jm_qi fun y n => y = (if v2 = 0 then abN (hit mu v1) 24 else if v2 = 1 then x else if x = -1 then -1 else fwN mu x 99) ∧ Iv mu n) hR I0 q1.1 q1.2 q2 (fun y hy => by rw [fst1_u (by decide) hy hx]; exact jm_fin rz rfl I0) 24 (-1) (by decide) (Or.inl ⟨rfl, fun i i0 i1 => by omega⟩)
    rw [Int.sub_self] at this
    exact this
  · refine jm_qiI ⟨by decide, by decide⟩ (eX12_read hR (fun n1 e1 => ?_))
    subst e1
    exact ⟨h1, fun _ => ⟨h2, fun r => absurd r q2, fun _ => fi⟩, fun r => absurd q1 r⟩
  · refine jm_qiI ⟨by decide, by decide⟩ (eX12_read hR (fun n1 e1 => ?_))
    subst e1
    exact ⟨h1, fun r => absurd r q1, fun _ => fi⟩
end RD
