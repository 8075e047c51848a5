section DF
variable {l : Launch} {gC gR : jm_G} {d : Nat} {mu nu m n m0 n0 : jm_M} {v1 v2 v3 v4 v5 v6 : Int} {Q : Option Value → jm_M → Prop} {B B' K P S : Int → Int} {N t a : Int} {k : Nat}
theorem d_lines (hC : jm_HC gC) (hR : jm_HR gR) (hp : PHS 0 B N K P S t) (j : Nat) : ∀ (i : Nat) (m : jm_M) (Q : Option Value → jm_M → Prop), i + j = 16 → CS m0 B K P S t m → m.1 46 0 = i → (∀ m' z, (z = 0 ∨ z = 1) → jm_ag (fcz z) m0 m' → (z = 1 → 0 ≤ m'.1 46 0 ∧ m'.1 46 0 ≤ 16) → (∀ n, RN DM n0 B N P S t m n → ∀ Q' : Option Value → jm_M → Prop, (z = 1 → ∀ n', jm_ag frx n0 n' → DM m' n' → Q' (some (jm_i (m'.1 46 0))) n') → (z = 0 → ∀ n', EN n0 m' n' → Q' (some (jm_i (-1))) n') → jm_V l gR (d + 7) iX12_readMotives 28 [(0, .ref 0), (1, jm_i i)] [] n Q') → Q (some (jm_i z)) m') → jm_V l gC (d + 8) iX5_readFrom 28 [(0, .ref 46), (1, .ref 1), (2, jm_i i)] [] m Q := by
  have tb := hp.T
  induction j with
  | zero =>
    intro i m Q hi hs eL h
    obtain ⟨g2, g3, g4, g5, g7, -, g9, g10⟩ := hs.1
    refine bX5_readFrom_28 hC ⟨⟨by omega, by omega⟩, fun r => by omega, fun _ => ⟨⟨by omega, by omega⟩, fun q => ?_, fun q => ?_⟩⟩
    · rw [g3] at q
      refine d_line (n0 := n0) hC hR hp hs eL (by omega) (by omega) q (fun m' z z01 ag' c1 ct => jm_qiI (by rcases z01 with e | e <;> rw [e] <;> exact ⟨by decide, by decide⟩) ⟨fun r => ?_, fun r => ?_⟩)
      · have := (c1 (by omega)).2.2
        omega
      · subst r
        exact h m' 0 z01 ag' (fun r => absurd r (by decide)) (fun n hn Q' h1 h0 => ct n hn Q' (fun r => absurd r (by decide)) h0)
    · rw [g3] at q
      refine h m 1 (Or.inr rfl) hs.2 (fun _ => by omega) (fun n hn Q' h1 h0 => bX12_readMotives_28 hR ⟨fun r => ?_, fun _ => ⟨fun r => absurd ((hp.eE hn.1.2.2.2 g9 g10).2 q) r, fun _ => ?_⟩⟩)
      · have := (hp.eW hn.1.2.2.2 g9 g10 (w := 0) (by decide)).1 r
        omega
      · have := h1 rfl n hn.2.1 hn.2.2
        rw [eL] at this
        exact this
  | succ j ih =>
    intro i m Q hi hs eL h
    obtain ⟨g2, g3, g4, g5, g7, -, g9, g10⟩ := hs.1
    refine bX5_readFrom_28 hC ⟨⟨by omega, by omega⟩, fun r => by omega, fun _ => ⟨⟨by omega, by omega⟩, fun q => ?_, fun q => ?_⟩⟩
    · rw [g3] at q
      refine d_line (n0 := n0) hC hR hp hs eL (by omega) (by omega) q (fun m' z z01 ag' c1 ct => jm_qiI (by rcases z01 with e | e <;> rw [e] <;> exact ⟨by decide, by decide⟩) ⟨fun r => ?_, fun r => ?_⟩)
      · have z1 : z = 1 := by omega
        obtain ⟨cs', e46, -⟩ := c1 z1
        have nx := ih (i + 1) m' Q (by omega) cs' (by rw [e46]; omega) (fun m2 z2 z201 ag2 b2 ct2 => h m2 z2 z201 ag2 b2 (fun n hn Q' h1 h0 => ct n hn Q' (fun _ n' hn' => ?_) (fun r => by omega)))
        · rw [show ((i + 1 : Nat) : Int) = (i : Int) + 1 by omega] at nx
          exact nx
        · have := ct2 n' hn' Q' h1 h0
          rw [show ((i + 1 : Nat) : Int) = (i : Int) + 1 by omega] at this
          exact this
      · subst r
        exact h m' 0 z01 ag' (fun r => absurd r (by decide)) (fun n hn Q' h1 h0 => ct n hn Q' (fun r => absurd r (by decide)) h0)
    · rw [g3] at q
      refine h m 1 (Or.inr rfl) hs.2 (fun _ => by omega) (fun n hn Q' h1 h0 => bX12_readMotives_28 hR ⟨fun r => ?_, fun _ => ⟨fun r => absurd ((hp.eE hn.1.2.2.2 g9 g10).2 q) r, fun _ => ?_⟩⟩)
      · have := (hp.eW hn.1.2.2.2 g9 g10 (w := 0) (by decide)).1 r
        omega
      · have := h1 rfl n hn.2.1 hn.2.2
        rw [eL] at this
        exact this
theorem d_motives (hC : jm_HC gC) (hR : jm_HR gR) (hp : PHS 0 B N K P S t) (hs : CS m0 B K P S t m) (h : ∀ m' z, (z = 0 ∨ z = 1) → jm_ag (fcz z) m0 m' → (z = 1 → 0 ≤ m'.1 46 0 ∧ m'.1 46 0 ≤ 16) → (∀ n, PN B N P S t (m.1 1 8) n → jm_ag frx n0 n → ∀ Q' : Option Value → jm_M → Prop, (z = 1 → ∀ n', jm_ag frx n0 n' → DM m' n' → Q' (some (jm_i (m'.1 46 0))) n') → (z = 0 → ∀ n', EN n0 m' n' → Q' (some (jm_i (-1))) n') → jm_R l gR (d + 7) iX12_readMotives [.ref 0] n Q') → Q (some (jm_i z)) m') : jm_R l gC (d + 8) iX5_readFrom [.ref 46, .ref 1] m Q := by
  have lp : ∀ (j i : Nat) (m1 : jm_M), i + j = 24 → CS m0 B K P S t m1 → m1.1 1 8 = m.1 1 8 → m1.1 46 0 = 0 → (∀ y, 0 ≤ y → y < (i : Int) → m1.1 47 y = 0) → jm_V l gC (d + 8) iX5_readFrom 7 [(0, .ref 46), (1, .ref 1), (2, jm_i i)] [] m1 Q := by
    intro j
    induction j with
    | zero =>
      intro i m1 hi hs1 e8 e46 e47
      refine bX5_readFrom_7 hC ⟨⟨by omega, by omega⟩, fun _ => ?_, fun r => by omega⟩
      refine d_lines (n0 := n0) (d := d) hC hR hp 16 0 m1 Q (by omega) hs1 e46 (fun m' z z01 ag' b1 ct => h m' z z01 ag' b1 (fun n hn an Q' h1 h0 => ?_))
      have rp : ∀ (f y : Nat) (n1 : jm_M), y + f = 192 → PN B N P S t (m.1 1 8) n1 → jm_ag frx n0 n1 → (∀ w, 0 ≤ w → w < (y : Int) → n1.1 17 (192 + w) = 0) → jm_V l gR (d + 7) iX12_readMotives 2 [(0, .ref 0), (1, jm_i y)] [] n1 Q' := by
        intro f
        induction f with
        | zero =>
          intro y n1 hy p1 a1 z1
          refine bX12_readMotives_2 hR ⟨⟨by omega, by omega⟩, fun _ => ?_, fun r => by omega⟩
          refine ct n1 ⟨by rw [e8]; exact p1, a1, fun k k0 k1 => ?_, fun k w k0 k1 w0 w1 => ?_⟩ Q' h1 h0
          · rw [e47 k k0 (by omega), z1 (8 * k) (by omega) (by omega)]
            exact ⟨Int.le_refl 0, by decide, rfl⟩
          · rw [e47 k k0 (by omega)] at w1
            omega
        | succ f ih2 =>
          intro y n1 hy p1 a1 z1
          refine bX12_readMotives_2 hR ⟨⟨by omega, by omega⟩, fun r => by omega, fun _ => ⟨⟨by omega, by omega⟩, fun m3 e3 => ?_⟩⟩
          have nx := ih2 (y + 1) m3 (by omega) (by rw [e3]; exact p1.wr (Or.inl (by decide))) (by
            rw [e3]
            refine a1.wr ?_
            unfold frx
            have : (192 : Int) ≤ 192 + y := by omega
            simp [this]) (fun w w0 w1 => by
            rw [e3]
            by_cases q : w = y
            · rw [q, jm_wrS]
            · rw [jm_wrI (by omega)]
              exact z1 w w0 (by omega))
          rw [show ((y + 1 : Nat) : Int) = (y : Int) + 1 by omega] at nx
          exact nx
      exact eX12_readMotives hR (rp 192 0 n (by omega) hn an (fun w w0 w1 => by omega))
    | succ j ih =>
      intro i m1 hi hs1 e8 e46 e47
      refine bX5_readFrom_7 hC ⟨⟨by omega, by omega⟩, fun r => by omega, fun _ => ⟨⟨by omega, by omega⟩, fun m3 e3 => ?_⟩⟩
      have nx := ih (i + 1) m3 (by omega) (by rw [e3]; exact hs1.wr (by decide)) (by rw [e3, jm_wrO (by decide)]; exact e8) (by rw [e3, jm_wrO (by decide)]; exact e46) (fun y y0 y1 => by
        rw [e3]
        by_cases q : y = i
        · rw [q, jm_wrS]
        · rw [jm_wrI q]
          exact e47 y y0 (by omega))
      rw [show ((i + 1 : Nat) : Int) = (i : Int) + 1 by omega] at nx
      exact nx
  refine eX5_readFrom hC (fun m1 e1 => ?_)
  exact lp 24 0 m1 (by omega) (by rw [e1]; exact hs.wr (by decide)) (by rw [e1, jm_wrO (by decide)]) (by rw [e1, jm_wrS]) (fun y y0 y1 => by omega)
end DF
