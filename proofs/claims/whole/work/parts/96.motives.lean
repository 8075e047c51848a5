section MO
variable {l : Launch} {gC gR : jm_G} {d : Nat} {mu nu m n m0 n0 : jm_M} {v1 v2 v3 v4 v5 v6 : Int} {Q : Option Value → jm_M → Prop} {B B' K P S : Int → Int} {N t a : Int} {k : Nat}
/-- what reading a text leaves as it was -/
def fcz (z : Int) (c : Nat) (i : Int) : Bool := !((46 ≤ c && c ≤ 62) || (c == 1 && (i == 8 || (z == 0 && (i == 2 || i == 3)))))
theorem fcz_0 (h : jm_ag (fcz 1) m n) : jm_ag (fcz 0) m n := fun c i q => h c i (by
  unfold fcz at q ⊢
  simp only [Bool.not_eq_true', Bool.or_eq_false_iff, Bool.and_eq_false_iff, decide_eq_false_iff_not, beq_eq_false_iff_ne, ne_eq] at q ⊢
  omega)
def frx (c : Nat) (i : Int) : Bool := !((c == 0 && ((14 ≤ i && i ≤ 17) || (27 ≤ i && i ≤ 28) || (30 ≤ i && i ≤ 32) || i == 38)) || c == 16 || c == 18 || c == 20 || c == 21 || (c == 17 && 192 ≤ i) || (10 ≤ c && c ≤ 13 && 32 ≤ i) || ((c == 14 || c == 15) && 800 ≤ i) || (c == 19 && 240 ≤ i))
theorem frd_x (h : jm_ag frd m n) : jm_ag frx m n := fun c i q => h c i (by
  unfold frx at q
  unfold frd
  cases e : (c == 0 && (i == 14 || i == 15 || i == 16 || i == 17))
  · rfl
  · exfalso
    simp only [Bool.and_eq_true, Bool.or_eq_true, beq_iff_eq] at e
    simp only [Bool.not_eq_true', Bool.or_eq_false_iff, Bool.and_eq_false_iff, decide_eq_false_iff_not, beq_eq_false_iff_ne] at q
    omega)
theorem PN.wr (h : PN B N P S t a n) {c : Nat} {i x : Int} (hc : c ≠ 0 ∧ c ≠ 7 ∧ c ≠ 8 ∨ c = 0 ∧ 18 ≤ i) : PN B N P S t a (jm_wr n c i x) := by
  obtain ⟨h1, h2, h3, h4⟩ := h
  have e0 : ∀ y, y ≤ 17 → (jm_wr n c i x).1 0 y = n.1 0 y := fun y hy => by
    by_cases q : c = 0
    · subst q
      rw [jm_wrI (by omega)]
    · rw [jm_wrO (fun r => q r.symm)]
  refine ⟨fun k k0 k1 => ?_, by rw [e0 13 (by decide)]; exact h2, fun k hk => ?_, ?_⟩
  · rw [jm_wrO (by omega)]
    exact h1 k k0 k1
  · rw [jm_wrO (by omega)]
    exact h3 k hk
  · unfold CURR at h4 ⊢
    rw [e0 15 (by decide), e0 14 (by decide), e0 16 (by decide), e0 17 (by decide)]
    exact h4
/-- the draft of the motives in both -/
def DM (m n : jm_M) : Prop := (∀ k, 0 ≤ k → k < 24 → 0 ≤ m.1 47 k ∧ m.1 47 k ≤ 8 ∧ n.1 17 (192 + 8 * k) = m.1 47 k) ∧ ∀ k i, 0 ≤ k → k < 24 → 0 ≤ i → i < m.1 47 k - 1 → -24 ≤ m.1 48 (k * 7 + i) ∧ m.1 48 (k * 7 + i) ≤ 24 ∧ n.1 17 (192 + (8 * k + 1 + i)) = m.1 48 (k * 7 + i)
def CS (m0 : jm_M) (B K P S : Int → Int) (t : Int) (m : jm_M) : Prop := PC B K P S t (m.1 1 8) m ∧ jm_ag (fcz 1) m0 m
def RN (D : jm_M → jm_M → Prop) (n0 : jm_M) (B : Int → Int) (N : Int) (P S : Int → Int) (t : Int) (m n : jm_M) : Prop := PN B N P S t (m.1 1 8) n ∧ jm_ag frx n0 n ∧ D m n
def EN (n0 : jm_M) (m n : jm_M) : Prop := jm_ag frx n0 n ∧ n.1 0 31 = m.1 1 2 ∧ n.1 0 32 = m.1 1 3
theorem CS.skip (h : CS m0 B K P S t m) (a1 : m.1 1 8 < t) : CS m0 B K P S t (jm_wr m 1 8 (m.1 1 8 + 1)) := by
  have s := h.1.skip a1
  have e : (jm_wr m 1 8 (m.1 1 8 + 1)).1 1 8 = m.1 1 8 + 1 := jm_wrS
  exact ⟨by rw [e]; exact s, h.2.wr rfl⟩
theorem CS.wr (h : CS m0 B K P S t m) {c : Nat} {i x : Int} (hc : 46 ≤ c ∧ c ≤ 62) : CS m0 B K P S t (jm_wr m c i x) := by
  have e : (jm_wr m c i x).1 1 8 = m.1 1 8 := jm_wrO (by omega)
  refine ⟨by rw [e]; exact h.1.wr (by omega), h.2.wr ?_⟩
  unfold fcz
  simp [hc.1, hc.2]
theorem CS.rf (h : CS m0 B K P S t m) (a f : Int) : jm_ag (fcz 0) m0 (RF P a f m) := ((fcz_0 h.2).wr rfl).wr rfl
theorem EN_rf (hn : jm_ag frx n0 n) (a f : Int) : EN n0 (RF P a f m) (RR P a f n) := by
  refine ⟨(hn.wr rfl).wr rfl, ?_, ?_⟩
  · unfold RR RF
    rw [jm_wrI (by decide), jm_wrS, jm_wrI (by decide), jm_wrS]
  · unfold RR RF
    rw [jm_wrS, jm_wrS]
theorem DM.cg (h : DM m n) {m' n' : jm_M} (e47 : m'.1 47 = m.1 47) (e48 : m'.1 48 = m.1 48) (e17 : n'.1 17 = n.1 17) : DM m' n' := by
  unfold DM at *
  rw [e47, e48, e17]
  exact h
theorem frd_17 (h : jm_ag frd n nu) : nu.1 17 = n.1 17 := h.cell (c := 17) (fun _ => rfl)
/-- the steps of a motive -/
theorem d_steps (hC : jm_HC gC) (hR : jm_HR gR) (hp : PHS 0 B N K P S t) {x : Int} (x0 : 0 ≤ x) (x1 : x < 24) (j : Nat) : ∀ (i : Nat) (m : jm_M) (Q : Option Value → jm_M → Prop), i + j = 8 → CS m0 B K P S t m → m.1 47 x = i + 1 → (∀ m' z, (z = 0 ∨ z = 1) → jm_ag (fcz z) m0 m' → (z = 1 → CS m0 B K P S t m') → m'.1 46 0 = m.1 46 0 → (∀ n, RN DM n0 B N P S t m n → ∀ Q' : Option Value → jm_M → Prop, (z = 1 → ∀ n', RN DM n0 B N P S t m' n' → Q' (some (jm_i 0)) n') → (z = 0 → ∀ n', EN n0 m' n' → Q' (some (jm_i (-1))) n') → jm_V l gR (d + 6) iX12_readMotive 104 [(0, .ref 0), (3, jm_i (192 + 8 * x))] [] n Q') → Q (some (jm_i z)) m') → jm_V l gC (d + 6) iX5_readSteps 2 [(0, .ref 46), (1, .ref 1), (2, jm_i x), (3, jm_i i)] [] m Q := by
  have tb := hp.T
  induction j with
  | zero =>
    intro i m Q hi hs e47 h
    -- i = 8 cannot be: there is no ninth step
    have h8 : i = 8 := by omega
    refine bX5_readSteps_2 hC ⟨⟨by omega, by omega⟩, fun _ => ?_, fun r => by omega⟩
    refine h m 0 (Or.inl rfl) (fcz_0 hs.2) (fun r => absurd r (by decide)) rfl (fun n hn Q' _ _ => ?_)
    have := hn.2.2.1 x x0 x1
    omega
  | succ j ih =>
    intro i m Q hi hs e47 h
    have hpc := hs.1
    obtain ⟨g2, g3, g4, g5, g7, -, g9, g10⟩ := hpc
    have kb : jm_rg (K (m.1 1 8)) := by
      by_cases q : m.1 1 8 = t
      · rw [(hp.end_ g9 g10).2 q]; exact ⟨by decide, by decide⟩
      · have := (hp.kb g9 (show m.1 1 8 < t by omega)).1
        exact ⟨by omega, by omega⟩
    -- the reference's tests at this token
    have tests : ∀ n, RN DM n0 B N P S t m n → ((n.1 0 16 = 2 ∧ n.1 0 17 = 19) ↔ K (m.1 1 8) = 301) ∧ ((n.1 0 16 = 2 ∧ n.1 0 17 = 20) ↔ K (m.1 1 8) = 302) ∧ ((n.1 0 16 = 2 ∧ n.1 0 17 = 21) ↔ K (m.1 1 8) = 303) := fun n hn => ⟨hp.eW hn.1.2.2.2 g9 g10 (w := 1) (by decide), hp.eW hn.1.2.2.2 g9 g10 (w := 2) (by decide), hp.eW hn.1.2.2.2 g9 g10 (w := 3) (by decide)⟩
    -- the reference enters readStep
    have enter : (K (m.1 1 8) = 301 ∨ K (m.1 1 8) = 302 ∨ K (m.1 1 8) = 303) → ∀ n, RN DM n0 B N P S t m n → ∀ Q' : Option Value → jm_M → Prop, jm_V l gR (d + 6) iX12_readMotive 131 [(0, .ref 0), (3, jm_i (192 + 8 * x))] [] n Q' → jm_V l gR (d + 6) iX12_readMotive 104 [(0, .ref 0), (3, jm_i (192 + 8 * x))] [] n Q' := by
      intro hk n hn Q' hv
      obtain ⟨t1, t2, t3⟩ := tests n hn
      exact bX12_readMotive_104 hR ⟨fun _ => hv, fun q1 => ⟨fun _ => hv, fun q2 => ⟨fun _ => hv, fun q3 => by
        exfalso
        rcases hk with hk | hk | hk
        · exact q1 (t1.2 hk)
        · exact q2 (t2.2 hk)
        · exact q3 (t3.2 hk)⟩⟩⟩
    have word : (K (m.1 1 8) = 301 ∨ K (m.1 1 8) = 302 ∨ K (m.1 1 8) = 303) → jm_V l gC (d + 6) iX5_readSteps 45 [(0, .ref 46), (1, .ref 1), (2, jm_i x), (3, jm_i i), (4, jm_i (K (m.1 1 8)))] [] m Q := by
      intro hk
      have at1 : m.1 1 8 < t := by
        apply Decidable.byContradiction
        intro z
        have := (hp.end_ g9 g10).2 (by omega)
        omega
      refine bX5_readSteps_45 hC ⟨⟨by omega, by omega⟩, fun q7 => ?_, fun q7 => ?_⟩
      · -- there is room for a step
        refine sX7_skip hC hs.1 tb.2 at1 (jm_qvI ⟨kb, ?_⟩)
        have hs2 := hs.skip at1
        have e8 : (jm_wr m 1 8 (m.1 1 8 + 1)).1 1 8 = m.1 1 8 + 1 := jm_wrS
        -- go on behind a step that is z2
        have step : ∀ (m2 : jm_M) (z2 : Int), CS m0 B K P S t m2 → m2.1 46 = m.1 46 → m2.1 47 = m.1 47 → m2.1 48 = m.1 48 → -24 ≤ z2 → z2 ≤ 24 → (∀ n, RN DM n0 B N P S t m n → ∀ Q' : Option Value → jm_M → Prop, (∀ n2, PN B N P S t (m2.1 1 8) n2 → jm_ag frx n0 n2 → n2.1 17 = n.1 17 → ∀ m3, m3 = jm_wr n2 17 (192 + 8 * x + (n2.1 17 (192 + 8 * x))) z2 → ∀ m7, m7 = jm_wr m3 17 (192 + 8 * x) ((m3.1 17 (192 + 8 * x)) + 1) → jm_V l gR (d + 6) iX12_readMotive 104 [(0, .ref 0), (3, jm_i (192 + 8 * x))] [] m7 Q') → jm_V l gR (d + 6) iX12_readMotive 104 [(0, .ref 0), (3, jm_i (192 + 8 * x))] [] n Q') → (0 ≤ ((x * 7) + i) ∧ ((x * 7) + i) < 168) ∧ ∀ m6, m6 = jm_wr m2 48 ((x * 7) + i) z2 → (0 ≤ x ∧ x < 24) ∧ jm_rg ((m6.1 47 x) + 1) ∧ ∀ m10, m10 = jm_wr m6 47 x ((m6.1 47 x) + 1) → jm_V l gC (d + 6) iX5_readSteps 2 [(0, .ref 46), (1, .ref 1), (2, jm_i x), (3, jm_i ((i : Int) + 1))] [] m10 Q := by
          intro m2 z2 cs2 f46 f47 f48 zl zh ref
          refine ⟨⟨by omega, by omega⟩, fun m6 e6 => ⟨⟨x0, x1⟩, ?_⟩⟩
          have g47 : m6.1 47 = m.1 47 := by rw [e6, ← f47]; funext y; rw [jm_wrO (by decide)]
          rw [g47, e47]
          refine ⟨⟨by omega, by omega⟩, fun m10 e10 => ?_⟩
          have cs10 : CS m0 B K P S t m10 := by rw [e10, e6]; exact (cs2.wr (by decide)).wr (by decide)
          have k47 : ∀ y, m10.1 47 y = if y = x then (i : Int) + 1 + 1 else m.1 47 y := fun y => by
            rw [e10]
            split
            · rename_i z; rw [z, jm_wrS]
            · rename_i z; rw [jm_wrI z, g47]
          have k48 : ∀ y, m10.1 48 y = if y = x * 7 + i then z2 else m.1 48 y := fun y => by
            rw [e10, jm_wrO (by decide), e6]
            split
            · rename_i z; rw [z, jm_wrS]
            · rename_i z; rw [jm_wrI z, f48]
          have k46 : m10.1 46 0 = m.1 46 0 := by rw [e10, jm_wrO (by decide), e6, jm_wrO (by decide), f46]
          have k8 : m10.1 1 8 = m2.1 1 8 := by rw [e10, jm_wrO (by decide), e6, jm_wrO (by decide)]
          have nx := ih (i + 1) m10 Q (by omega) cs10 (by rw [k47, if_pos rfl]; omega) (fun m' z z01 ag' cs' f' ct => h m' z z01 ag' cs' (by rw [f', k46]) (fun n hn Q' q1 q0 => ref n hn Q' (fun n2 p2 a2 s17 m3 f3 m7 f7 => ct m7 ⟨?_, ?_, ?_⟩ Q' q1 q0)))
          · rw [show ((i + 1 : Nat) : Int) = (i : Int) + 1 by omega] at nx
            exact nx
          · rw [k8, f7, f3]
            exact (p2.wr (Or.inl (by decide))).wr (Or.inl (by decide))
          · have w17 := hn.2.2.1 x x0 x1
            rw [e47] at w17
            rw [f7, f3]
            refine (a2.wr ?_).wr ?_
            · unfold frx
              simp only [s17, w17.2.2]
              have : (192 : Int) ≤ 192 + 8 * x + (i + 1) := by omega
              simp [this]
            · unfold frx
              have : (192 : Int) ≤ 192 + 8 * x := by omega
              simp [this]
          · have w17 := hn.2.2.1 x x0 x1
            rw [e47] at w17
            have r17 : ∀ y, m7.1 17 y = if y = 192 + 8 * x then (i : Int) + 1 + 1 else if y = 192 + 8 * x + (i + 1) then z2 else n.1 17 y := fun y => by
              have a1 : ∀ y, m3.1 17 y = if y = 192 + 8 * x + (i + 1) then z2 else n.1 17 y := fun y => by
                rw [f3, s17, w17.2.2]
                split
                · rename_i z; rw [z, jm_wrS]
                · rename_i z; rw [jm_wrI z, s17]
              rw [f7]
              split
              · rename_i z
                rw [z, jm_wrS, a1, if_neg (by omega), w17.2.2]
              · rename_i z
                rw [jm_wrI z, a1]
            refine ⟨fun k k0 k1 => ?_, fun k y k0 k1 y0 y1 => ?_⟩
            · rw [k47, r17]
              by_cases z : k = x
              · rw [if_pos z, if_pos (by omega)]
                omega
              · rw [if_neg z, if_neg (by omega), if_neg (by omega)]
                exact hn.2.2.1 k k0 k1
            · rw [k47] at y1
              rw [k48, r17]
              by_cases z : k = x
              · rw [if_pos z] at y1
                by_cases w : y = i
                · rw [if_pos (by omega), if_neg (by omega), if_pos (by omega)]
                  omega
                · rw [if_neg (by omega), if_neg (by omega), if_neg (by omega)]
                  exact hn.2.2.2 k y k0 k1 y0 (by rw [z, e47]; omega)
              · rw [if_neg z] at y1
                have u8 := (hn.2.2.1 k k0 k1).2.1
                rw [if_neg (by omega), if_neg (by omega), if_neg (by omega)]
                exact hn.2.2.2 k y k0 k1 y0 y1
        -- the reference's road to the end of a step
        have road : ∀ n, RN DM n0 B N P S t m n → n.1 17 (192 + 8 * x) = (i : Int) + 1 := fun n hn => by
          have := hn.2.2.1 x x0 x1
          omega
        refine ⟨fun k3 => ?_, fun k3 => ?_⟩
        · -- same
          refine bX5_readSteps_81 hC (eX5_readStep hC ⟨kb, fun r => absurd k3 r, fun _ => jm_qiI ⟨by decide, by decide⟩ ?_⟩)
          refine step (jm_wr m 1 8 (m.1 1 8 + 1)) 0 hs2 (by funext y; rw [jm_wrO (by decide)]) (by funext y; rw [jm_wrO (by decide)]) (by funext y; rw [jm_wrO (by decide)]) (by decide) (by decide) (fun n hn Q' go => enter hk n hn Q' (bX12_readMotive_131 hR ?_))
          obtain ⟨t1, t2, t3⟩ := tests n hn
          have r1 := road n hn
          refine eX12_readStep hR ⟨fun q => by have := t1.1 q; omega, fun _ => ⟨fun _ => ⟨⟨by omega, by omega⟩, fun _ => sX12_next (d := d + 1) hR hp hn.1 g9 at1 (fun n2 a2 p2 => jm_qvI ?_), fun r => by omega⟩, fun r => absurd (t3.2 k3) r⟩⟩
          have s17 := frd_17 a2
          refine bX12_readStep_50 hR ⟨⟨by decide, by decide⟩, fun _ => ⟨⟨by omega, by omega⟩, ⟨by decide, by decide⟩, fun _ => ?_, fun r => absurd rfl r⟩, fun r => absurd r (by decide)⟩
          rw [s17, r1]
          refine bX12_readStep_84 hR ⟨⟨by omega, by omega⟩, ⟨by decide, by decide⟩, fun m3 f3 => ⟨⟨by omega, by omega⟩, ?_⟩⟩
          have w3 : m3.1 17 (192 + 8 * x) = (i : Int) + 1 := by rw [f3, jm_wrI (by omega), s17]; exact r1
          refine ⟨by rw [w3]; exact ⟨by omega, by omega⟩, fun m7 f7 => jm_qiI ⟨by decide, by decide⟩ ⟨fun _ => ?_, fun r => absurd r (by decide)⟩⟩
          refine go n2 (by rw [e8]; exact p2) (hn.2.1.tr (frd_x a2)) s17 m3 ?_ m7 f7
          rw [f3, s17, r1]
          rfl
        · -- up or down
          have hk12 : K (m.1 1 8) = 301 ∨ K (m.1 1 8) = 302 := by omega
          -- the reference until its number
          have till : ∀ n, RN DM n0 B N P S t m n → ∀ Q' : Option Value → jm_M → Prop, (∀ n2, PN B N P S t (m.1 1 8 + 1) n2 → jm_ag frx n0 n2 → n2.1 17 = n.1 17 → jm_R l gR (d + 4) iX12_readNumber [.ref 0, jm_i 1, jm_i 24] n2 (jm_qi fun z14 m13 => jm_V l gR (d + 5) iX12_readStep 50 [(0, .ref 0), (1, jm_i (192 + 8 * x)), (2, jm_i (if K (m.1 1 8) = 301 then 1 else 0))] [jm_i z14] m13 (jm_qi fun z2 m1 => (¬ z2 = (-1) → jm_V l gR (d + 6) iX12_readMotive 104 [(0, .ref 0), (3, jm_i (192 + 8 * x))] [] m1 Q') ∧ (z2 = (-1) → Q' (some (jm_i (-1))) m1)))) → jm_V l gR (d + 6) iX12_readMotive 104 [(0, .ref 0), (3, jm_i (192 + 8 * x))] [] n Q' := by
            intro n hn Q' go
            refine enter hk n hn Q' (bX12_readMotive_131 hR ?_)
            obtain ⟨t1, t2, t3⟩ := tests n hn
            have r1 := road n hn
            refine eX12_readStep hR ⟨fun q => ⟨fun r => by have := t3.1 r; omega, fun _ => ⟨⟨by omega, by omega⟩, fun _ => (sX12_next (d := d + 1) hR hp hn.1 g9 at1 (fun n2 a2 p2 => jm_qvI ?_)), fun r => by omega⟩⟩, fun q => ⟨fun r => by have := t3.1 r; omega, fun _ => ⟨⟨by omega, by omega⟩, fun _ => (sX12_next (d := d + 1) hR hp hn.1 g9 at1 (fun n2 a2 p2 => jm_qvI ?_)), fun r => by omega⟩⟩⟩
            · have := go n2 p2 (hn.2.1.tr (frd_x a2)) (frd_17 a2)
              rw [if_pos (t1.1 q)] at this
              exact this
            · have := go n2 p2 (hn.2.1.tr (frd_x a2)) (frd_17 a2)
              rw [if_neg (fun z => q (t1.2 z))] at this
              exact this
          have fail : ∀ f : Int, (f = 1 ∨ f = 2) → (∀ n2, PN B N P S t (m.1 1 8 + 1) n2 → jm_ag frx n0 n2 → ∀ Q' : Option Value → jm_M → Prop, Q' (some (jm_i (-1))) (RR P (m.1 1 8 + 1) f n2) → jm_R l gR (d + 4) iX12_readNumber [.ref 0, jm_i 1, jm_i 24] n2 Q') → jm_qi (fun z8 m7 => (¬ z8 = 0 → jm_V l gC (d + 6) iX5_readSteps 81 [(0, .ref 46), (1, .ref 1), (2, jm_i x), (3, jm_i i), (4, jm_i (K (m.1 1 8)))] [] m7 Q) ∧ (z8 = 0 → Q (some (jm_i 0)) m7)) (some (jm_i 0)) (RF P (m.1 1 8 + 1) f (jm_wr m 1 8 (m.1 1 8 + 1))) := by
            intro f _ hf
            refine jm_qiI ⟨by decide, by decide⟩ ⟨fun r => absurd rfl r, fun _ => h _ 0 (Or.inl rfl) (hs2.rf _ _) (fun r => absurd r (by decide)) ?_ (fun n hn Q' q1 q0 => till n hn Q' (fun n2 p2 a2 s17 => hf n2 p2 a2 _ (jm_qiI ⟨by decide, by decide⟩ (bX12_readStep_50 hR ⟨⟨by decide, by decide⟩, fun r => absurd rfl r, fun _ => jm_qiI ⟨by decide, by decide⟩ ⟨fun r => absurd rfl r, fun _ => q0 rfl _ (EN_rf a2 _ _)⟩⟩))))⟩
            unfold RF
            rw [jm_wrO (by decide), jm_wrO (by decide), jm_wrO (by decide)]
          have hpc2 := hs2.1
          rw [e8] at hpc2
          refine (sX7_isNumber (d := d + 3) hC hp hpc2 ⟨by decide, by decide⟩ ⟨by decide, by decide⟩ (fun q at2 lo hi => jm_qiI ⟨by decide, by decide⟩ ⟨fun _ => ?_, fun r => absurd r (by decide)⟩) (fun q at2 ne => fail 2 (Or.inr rfl) (fun n2 p2 a2 Q' hq => sX12_readNumber hR hp p2 (by omega) (by omega) ⟨by decide, by decide⟩ ⟨by decide, by decide⟩ (fun _ _ lo hi => absurd ⟨lo, hi⟩ ne) (fun _ _ => hq) (fun r => absurd q r))) (fun q => fail 1 (Or.inl rfl) (fun n2 p2 a2 Q' hq => sX12_readNumber hR hp p2 (by omega) (by have := hpc2.2.2.2.2.2.2.2; omega) ⟨by decide, by decide⟩ ⟨by decide, by decide⟩ (fun r _ _ _ => absurd r q) (fun r _ => absurd r q) (fun _ => hq))))
          have at2' : (jm_wr m 1 8 (m.1 1 8 + 1)).1 1 8 < t := by rw [e8]; exact at2
          have hs3 := hs2.skip at2'
          rw [e8] at hs3
          have e83 : (jm_wr (jm_wr m 1 8 (m.1 1 8 + 1)) 1 8 (m.1 1 8 + 1 + 1)).1 1 8 = m.1 1 8 + 1 + 1 := jm_wrS
          have nb : 1 ≤ nva B P S (m.1 1 8 + 1) ∧ nva B P S (m.1 1 8 + 1) ≤ 24 := ⟨lo, hi⟩
          refine bX5_readSteps_81 hC (eX5_readStep hC ⟨kb, fun _ => sX7_num (d := d + 3) hC hp hpc2 at2 q (jm_qiI ⟨by omega, by omega⟩ (sX7_skip (d := d + 3) hC hpc2 tb.2 at2 (jm_qvI ?_))), fun r => absurd r k3⟩)
          have fin : ∀ z2 : Int, z2 = (if K (m.1 1 8) = 301 then nva B P S (m.1 1 8 + 1) else -(nva B P S (m.1 1 8 + 1))) → jm_qi (fun z2 m1 => (0 ≤ ((x * 7) + i) ∧ ((x * 7) + i) < 168) ∧ ∀ m6, m6 = jm_wr m1 48 ((x * 7) + i) z2 → (0 ≤ x ∧ x < 24) ∧ jm_rg ((m6.1 47 x) + 1) ∧ ∀ m10, m10 = jm_wr m6 47 x ((m6.1 47 x) + 1) → jm_V l gC (d + 6) iX5_readSteps 2 [(0, .ref 46), (1, .ref 1), (2, jm_i x), (3, jm_i ((i : Int) + 1))] [] m10 Q) (some (jm_i z2)) (jm_wr (jm_wr m 1 8 (m.1 1 8 + 1)) 1 8 (m.1 1 8 + 1 + 1)) := by
            intro z2 ez
            have zr : -24 ≤ z2 ∧ z2 ≤ 24 := by
              rw [ez]
              split <;> omega
            refine jm_qiI ⟨by omega, by omega⟩ (step _ z2 hs3 (by funext y; rw [jm_wrO (by decide), jm_wrO (by decide)]) (by funext y; rw [jm_wrO (by decide), jm_wrO (by decide)]) (by funext y; rw [jm_wrO (by decide), jm_wrO (by decide)]) zr.1 zr.2 (fun n hn Q' go => till n hn Q' (fun n2 p2 a2 s17 => ?_)))
            refine sX12_readNumber hR hp p2 (by omega) (by omega) ⟨by decide, by decide⟩ ⟨by decide, by decide⟩ (fun _ _ _ _ n3 a3 p3 => jm_qiI ⟨by omega, by omega⟩ ?_) (fun _ r => absurd ⟨lo, hi⟩ r) (fun r => absurd q r)
            have r1 := road n hn
            have s173 : n3.1 17 = n.1 17 := (frd_17 a3).trans s17
            have wr84 : ∀ v : Int, v = z2 → jm_V l gR (d + 5) iX12_readStep 84 [(0, .ref 0), (1, jm_i (192 + 8 * x))] [jm_i v, jm_i (192 + 8 * x + (n3.1 17 (192 + 8 * x))), .ref 17] n3 (jm_qi fun z2 m1 => (¬ z2 = (-1) → jm_V l gR (d + 6) iX12_readMotive 104 [(0, .ref 0), (3, jm_i (192 + 8 * x))] [] m1 Q') ∧ (z2 = (-1) → Q' (some (jm_i (-1))) m1)) := by
              intro v ev
              subst ev
              have r3 : n3.1 17 (192 + 8 * x) = (i : Int) + 1 := by rw [s173]; exact r1
              refine bX12_readStep_84 hR ⟨by rw [r3]; exact ⟨by omega, by omega⟩, ⟨by omega, by omega⟩, fun m3 f3 => ⟨⟨by omega, by omega⟩, ?_⟩⟩
              have w3 : m3.1 17 (192 + 8 * x) = (i : Int) + 1 := by rw [f3, r3, jm_wrI (by omega)]; exact r3
              exact ⟨by rw [w3]; exact ⟨by omega, by omega⟩, fun m7 f7 => jm_qiI ⟨by decide, by decide⟩ ⟨fun _ => go n3 (by rw [e83]; exact p3) (a2.tr (frd_x a3)) s173 m3 f3 m7 f7, fun r => absurd r (by decide)⟩⟩
            refine bX12_readStep_50 hR ⟨⟨by omega, by omega⟩, fun _ => ⟨⟨by omega, by omega⟩, by split <;> exact ⟨by decide, by decide⟩, fun z => wr84 _ ?_, fun z => wr84 _ ?_⟩, fun r => by omega⟩
            · rw [ez]
              split at z
              · omega
              · rename_i w; rw [if_neg w]
            · rw [ez]
              split at z
              · rename_i w; rw [if_pos w]
              · exact absurd rfl z
          exact ⟨fun r => fin _ (by rw [if_neg r]), fun r => fin _ (by rw [if_pos r])⟩
      · -- there is no room
        have r8 := RF_8 hs.1 3
        refine ⟨⟨by omega, by omega⟩, fun m12 e12 => ?_⟩
        rw [RF_e hs.1] at e12
        rw [e12]
        refine h _ 0 (Or.inl rfl) (hs.rf _ _) (fun r => absurd r (by decide)) ?_ (fun n hn Q' q1 q0 => enter hk n hn Q' (bX12_readMotive_131 hR ?_))
        · unfold RF
          rw [jm_wrO (by decide), jm_wrO (by decide)]
        · obtain ⟨t1, t2, t3⟩ := tests n hn
          have w17 := hn.2.2.1 x x0 x1
          have b8 : 7 < n.1 17 (192 + 8 * x) := by omega
          have fi : ∀ m6, m6 = (jm_wr (jm_wr n 0 31 3) 0 32 ((jm_wr n 0 31 3).1 0 15)) → jm_qi (fun z2 m1 => (¬ z2 = (-1) → jm_V l gR (d + 6) iX12_readMotive 104 [(0, .ref 0), (3, jm_i (192 + 8 * x))] [] m1 Q') ∧ (z2 = (-1) → Q' (some (jm_i (-1))) m1)) (some (jm_i (-1))) m6 := fun m6 e6 => by
            rw [RR_e hn.1] at e6
            rw [e6]
            exact jm_qiI ⟨by decide, by decide⟩ ⟨fun r => absurd rfl r, fun _ => q0 rfl _ (EN_rf hn.2.1 _ _)⟩
          exact eX12_readStep hR ⟨fun _ => ⟨fun _ => ⟨⟨by omega, by omega⟩, fun r => by omega, fun _ => fi⟩, fun _ => ⟨⟨by omega, by omega⟩, fun r => by omega, fun _ => fi⟩⟩, fun _ => ⟨fun _ => ⟨⟨by omega, by omega⟩, fun r => by omega, fun _ => fi⟩, fun _ => ⟨⟨by omega, by omega⟩, fun r => by omega, fun _ => fi⟩⟩⟩
    refine bX5_readSteps_2 hC ⟨⟨by omega, by omega⟩, fun r => by omega, fun _ => ⟨⟨by omega, by omega⟩, fun x3 e3 => ?_⟩⟩
    rw [g3] at e3
    rw [e3]
    refine ⟨fun q => word (Or.inl q), fun q1 => ⟨fun q => word (Or.inr (Or.inl q)), fun q2 => ⟨fun q => word (Or.inr (Or.inr q)), fun q3 => ?_⟩⟩⟩
    have last : ∀ n, RN DM n0 B N P S t m n → ∀ Q' : Option Value → jm_M → Prop, jm_R l gR (d + 5) iX12_readMark [.ref 0, jm_i 59] n (jm_qi fun z2 m1 => Q' (some (jm_i z2)) m1) → jm_V l gR (d + 6) iX12_readMotive 104 [(0, .ref 0), (3, jm_i (192 + 8 * x))] [] n Q' := by
      intro n hn Q' hv
      obtain ⟨t1, t2, t3⟩ := tests n hn
      exact bX12_readMotive_104 hR ⟨fun q => absurd (t1.1 q) q1, fun _ => ⟨fun q => absurd (t2.1 q) q2, fun _ => ⟨fun q => absurd (t3.1 q) q3, fun _ => hv⟩⟩⟩
    have im : isM 59 := Or.inl rfl
    refine (sX7_take (d := d + 3) hC hp hs.1 ⟨by decide, by decide⟩ (by decide) (fun q at1 => jm_qiI ⟨by decide, by decide⟩ ⟨Or.inr rfl, ?_⟩) (fun q => jm_qiI ⟨by decide, by decide⟩ ⟨Or.inl rfl, ?_⟩))
    · have hs2 := hs.skip at1
      have e8 : (jm_wr m 1 8 (m.1 1 8 + 1)).1 1 8 = m.1 1 8 + 1 := jm_wrS
      refine h _ 1 (Or.inr rfl) hs2.2 (fun _ => hs2) (by rw [jm_wrO (by decide)]) (fun n hn Q' h1 h0 => last n hn Q' (eX12_readMark hR ⟨⟨by decide, by decide⟩, fun _ => sX12_next (d := d + 1) hR hp hn.1 g9 at1 (fun n2 a2 p2 => jm_qvI (jm_qiI ⟨by decide, by decide⟩ (h1 rfl n2 ⟨by rw [e8]; exact p2, hn.2.1.tr (frd_x a2), hn.2.2.cg (by funext y; rw [jm_wrO (by decide)]) (by funext y; rw [jm_wrO (by decide)]) (frd_17 a2)⟩))), fun r => absurd ((hp.eS hn.1.2.2.2 g9 g10 im).2 q) r⟩))
    · refine h _ 0 (Or.inl rfl) (hs.rf _ _) (fun r => absurd r (by decide)) ?_ (fun n hn Q' h1 h0 => last n hn Q' (eX12_readMark hR ⟨⟨by decide, by decide⟩, fun r => absurd ((hp.eS hn.1.2.2.2 g9 g10 im).1 r) q, fun _ m6 e6 => ?_⟩))
      · unfold RF
        rw [jm_wrO (by decide), jm_wrO (by decide)]
      · rw [RR_e hn.1] at e6
        rw [e6]
        exact jm_qiI ⟨by decide, by decide⟩ (h0 rfl _ (EN_rf hn.2.1 _ _))
end MO
