section CU
variable {l : Launch} {gC gR : jm_G} {d : Nat} {mu nu m n : jm_M} {v1 v2 v3 v4 v5 v6 : Int} {Q : Option Value → jm_M → Prop} {B P S P' S' : Int → Int}
/-- the sort of a byte: 1 a letter, 2 a digit, 3 blank, 4 another sign -/
def srt (b : Int) : Int := if 97 ≤ b ∧ b ≤ 122 then 1 else if 65 ≤ b ∧ b ≤ 90 then 1 else if 48 ≤ b ∧ b ≤ 57 then 2 else if b = 32 ∨ b = 10 then 3 else 4
theorem srt_b (b : Int) : 1 ≤ srt b ∧ srt b ≤ 4 := by
  unfold srt
  repeat (first | omega | split)
theorem sX7_sortOf (hC : jm_HC gC) (r : jm_rg v1) (h : Q (some (jm_i (srt v1))) m) : jm_R l gC (d + 2) iX7_sortOf [jm_i v1] m Q := by
  unfold srt at h
  refine eX7_sortOf hC ⟨r, fun a => ?_, fun a => ⟨fun b => ?_, fun b => ⟨fun c => ?_, fun c => ⟨fun e => ?_, fun e => ⟨fun f => ?_, fun f => ?_⟩⟩⟩⟩⟩
  · rw [if_pos a] at h; exact h
  · rw [if_neg a, if_pos b] at h; exact h
  · rw [if_neg a, if_neg b, if_pos c] at h; exact h
  · rw [if_neg a, if_neg b, if_neg c, if_pos (Or.inl e)] at h; exact h
  · rw [if_neg a, if_neg b, if_neg c, if_neg (by omega)] at h; exact h
  · rw [if_neg a, if_neg b, if_neg c, if_pos (Or.inr f)] at h; exact h
/-- where the token before the k-th ends -/
def eB (P S : Int → Int) (k : Int) : Int := if k = 0 then 0 else P (k - 1) + S (k - 1)
/-- the tokens of the first i bytes -/
def CUT (B P S : Int → Int) (i t : Int) : Prop := (0 ≤ t ∧ t ≤ i ∧ eB P S t ≤ i)
  ∧ (∀ k, 0 ≤ k → k < t → eB P S k ≤ P k ∧ 1 ≤ S k ∧ P k + S k ≤ i)
  ∧ (∀ k x, 0 ≤ k → k < t → eB P S k ≤ x → x < P k → srt (B x) = 3) ∧ (∀ x, eB P S t ≤ x → x < i → srt (B x) = 3)
  ∧ (∀ k x, 0 ≤ k → k < t → P k ≤ x → x < P k + S k → srt (B x) = srt (B (P k)))
  ∧ (∀ k, 0 ≤ k → k < t → ¬ srt (B (P k)) = 3 ∧ (srt (B (P k)) = 4 → S k = 1))
  ∧ ∀ k, 0 ≤ k → k + 1 < t → ¬ srt (B (P k)) = 4 → ¬ srt (B (P k + S k)) = srt (B (P k))
theorem eB_0 (P S : Int → Int) : eB P S 0 = 0 := if_pos rfl
theorem eB_s (P S : Int → Int) {k : Int} (h : 0 ≤ k) : eB P S (k + 1) = P k + S k := by
  unfold eB
  rw [if_neg (by omega), show k + 1 - 1 = k by omega]
theorem eB_c {k : Int} (hP : ∀ x, x < k → P' x = P x) (hS : ∀ x, x < k → S' x = S x) : eB P' S' k = eB P S k := by
  unfold eB
  split
  · rfl
  · rw [hP (k - 1) (by omega), hS (k - 1) (by omega)]
theorem eB_nn {i t : Int} (h : CUT B P S i t) : ∀ k : Nat, (k : Int) ≤ t → 0 ≤ eB P S k := by
  intro k
  induction k with
  | zero => intro _; exact Int.le_of_eq (eB_0 P S).symm
  | succ k ih =>
    intro hk
    have a := ih (by omega)
    have b := h.2.1 k (by omega) (by omega)
    rw [show ((k + 1 : Nat) : Int) = (k : Int) + 1 by omega, eB_s P S (by omega)]
    omega
theorem CUT.pn {i t k : Int} (h : CUT B P S i t) (k0 : 0 ≤ k) (k1 : k < t) : 0 ≤ P k := by
  have a := eB_nn h k.toNat (by omega)
  rw [show ((k.toNat : Nat) : Int) = k by omega] at a
  have b := h.2.1 k k0 k1
  omega
/-- a blank -/
theorem CUT.bl {i t : Int} (h : CUT B P S i t) (hs : srt (B i) = 3) : CUT B P S (i + 1) t := by
  obtain ⟨h0, h1, h2, h3, h4, h5, h6⟩ := h
  refine ⟨⟨h0.1, by omega, by omega⟩, fun k a b => ?_, h2, fun x a b => ?_, h4, h5, h6⟩
  · have := h1 k a b
    omega
  · by_cases q : x = i
    · rw [q]; exact hs
    · exact h3 x a (by omega)
/-- a new token -/
theorem CUT.nw {i t : Int} (h : CUT B P S i t) (i0 : 0 ≤ i) (hs : ¬ srt (B i) = 3) (hb : eB P S t = i → 0 < t → ¬ srt (B (i - 1)) = 4 → ¬ srt (B i) = srt (B (i - 1))) (eP : P' t = i) (eS : S' t = 1) (hP : ∀ x, x < t → P' x = P x) (hS : ∀ x, x < t → S' x = S x) : CUT B P' S' (i + 1) (t + 1) := by
  obtain ⟨h0, h1, h2, h3, h4, h5, h6⟩ := h
  have et : eB P' S' (t + 1) = i + 1 := by rw [eB_s P' S' h0.1, eP, eS]
  have ek : ∀ k, k ≤ t → eB P' S' k = eB P S k := fun k hk => eB_c (fun x hx => hP x (by omega)) (fun x hx => hS x (by omega))
  refine ⟨⟨by omega, by omega, by omega⟩, fun k a b => ?_, fun k x a b c e => ?_, fun x a b => by omega, fun k x a b c e => ?_, fun k a b => ?_, fun k a b c => ?_⟩
  · rw [ek k (by omega)]
    by_cases q : k = t
    · subst q
      rw [eP, eS]
      omega
    · rw [hP k (by omega), hS k (by omega)]
      have := h1 k a (by omega)
      omega
  · rw [ek k (by omega)] at c
    by_cases q : k = t
    · subst q
      rw [eP] at e
      exact h3 x c e
    · rw [hP k (by omega)] at e
      exact h2 k x a (by omega) c e
  · by_cases q : k = t
    · subst q
      rw [eP] at c e ⊢
      rw [eS] at e
      rw [show x = i by omega]
    · rw [hP k (by omega)] at c e ⊢
      rw [hS k (by omega)] at e
      exact h4 k x a (by omega) c e
  · by_cases q : k = t
    · subst q
      rw [eP, eS]
      exact ⟨hs, fun _ => rfl⟩
    · rw [hP k (by omega), hS k (by omega)]
      exact h5 k a (by omega)
  · rw [hP k (by omega)] at c ⊢
    rw [hS k (by omega)]
    by_cases q : k + 1 = t
    · have e1 : eB P S t = P k + S k := by rw [← q]; exact eB_s P S a
      have b1 := h1 k a (by omega)
      by_cases r : P k + S k = i
      · have run := h4 k (i - 1) a (by omega) (by omega) (by omega)
        rw [r, ← run]
        exact hb (by omega) (by omega) (by rw [run]; exact c)
      · rw [h3 (P k + S k) (by omega) (by omega)]
        exact fun z => (h5 k a (by omega)).1 z.symm
    · exact h6 k a (by omega) c
/-- a token that goes on -/
theorem CUT.go {i t : Int} (h : CUT B P S i t) (t0 : 0 < t) (he : eB P S t = i) (hs : srt (B i) = srt (B (i - 1))) (h12 : srt (B i) = 1 ∨ srt (B i) = 2) (eS : S' (t - 1) = S (t - 1) + 1) (hS : ∀ x, x < t - 1 → S' x = S x) : CUT B P S' (i + 1) t := by
  obtain ⟨h0, h1, h2, h3, h4, h5, h6⟩ := h
  have ek : ∀ k, k ≤ t - 1 → eB P S' k = eB P S k := fun k hk => eB_c (fun x hx => rfl) (fun x hx => hS x (by omega))
  have e0 : eB P S t = P (t - 1) + S (t - 1) := by
    have := eB_s P S (k := t - 1) (by omega)
    rwa [show t - 1 + 1 = t by omega] at this
  have e1 : eB P S' t = i + 1 := by
    have := eB_s P S' (k := t - 1) (by omega)
    rw [show t - 1 + 1 = t by omega, eS] at this
    omega
  have run := h4 (t - 1) (i - 1) (by omega) (by omega)
  have b1 := h1 (t - 1) (by omega) (by omega)
  have rn := run (by omega) (by omega)
  refine ⟨⟨h0.1, by omega, by omega⟩, fun k a b => ?_, fun k x a b c e => ?_, fun x a b => by omega, fun k x a b c e => ?_, fun k a b => ?_, fun k a b c => ?_⟩
  · rw [ek k (by omega)]
    have := h1 k a b
    by_cases q : k = t - 1
    · subst q
      rw [eS]
      omega
    · rw [hS k (by omega)]
      omega
  · rw [ek k (by omega)] at c
    exact h2 k x a b c e
  · by_cases q : k = t - 1
    · subst q
      rw [eS] at e
      by_cases r : x = i
      · rw [r, hs, rn]
      · exact h4 (t - 1) x a b c (by omega)
    · rw [hS k (by omega)] at e
      exact h4 k x a b c e
  · by_cases q : k = t - 1
    · subst q
      have := h5 (t - 1) a b
      exact ⟨this.1, fun z => by omega⟩
    · rw [hS k (by omega)]
      exact h5 k a b
  · rw [hS k (by omega)]
    exact h6 k a b c
/-- what the cutting writes -/
def fcu (c : Nat) (i : Int) : Bool := !(c == 3 || c == 4 || c == 5 || (c == 1 && (i == 7 || i == 8)))
theorem lX7_cut (hC : jm_HC gC) {c2 : Nat} {N : Nat} (hN : N ≤ 400) (e1 : mu.1 1 1 = N) (hm : jm_mr mu) (h : ∀ m t, jm_ag fcu mu m → m.1 1 7 = t → m.1 1 8 = 0 → CUT (mu.1 2) (m.1 4) (m.1 5) N t → jm_V l gC (d + 3) iX7_cutIntoTokens 118 [(0, .ref 1), (2, .ref c2), (4, jm_i 0)] [] m Q) (j : Nat) : ∀ (i : Nat) (m : jm_M) (t b : Int), i + j = N → jm_ag fcu mu m → m.1 1 7 = t → m.1 1 8 = 0 → CUT (mu.1 2) (m.1 4) (m.1 5) i t → (i = 0 → b = 3) → (0 < i → b = srt (mu.1 2 ((i : Int) - 1))) → jm_V l gC (d + 3) iX7_cutIntoTokens 37 [(0, .ref 1), (2, .ref c2), (3, jm_i b), (4, jm_i i)] [] m Q := by
  induction j with
  | zero =>
    intro i m t b hi a e7 e8 hc hb0 hb1
    have ei : i = N := by omega
    subst ei
    have e11 : m.1 1 1 = i := by rw [a 1 1 rfl, e1]
    exact bX7_cutIntoTokens_37 hC ⟨⟨by omega, by omega⟩, fun _ => h m t a e7 e8 hc, fun r => by omega⟩
  | succ j ih =>
    intro i m t b hi a e7 e8 hc hb0 hb1
    have e11 : m.1 1 1 = N := by rw [a 1 1 rfl, e1]
    have e2 : m.1 2 i = mu.1 2 i := a 2 i rfl
    have sb := srt_b (mu.1 2 i)
    have bb : 1 ≤ b ∧ b ≤ 4 := by
      by_cases q : i = 0
      · have := hb0 q; omega
      · rw [hb1 (by omega)]; exact srt_b _
    have nb0 : i + 1 = 0 → srt (mu.1 2 i) = 3 := fun r => by omega
    have nb1 : 0 < i + 1 → srt (mu.1 2 i) = srt (mu.1 2 (((i + 1 : Nat) : Int) - 1)) := fun _ => by rw [show ((i + 1 : Nat) : Int) - 1 = i by omega]
    have ci : ((i + 1 : Nat) : Int) = (i : Int) + 1 := by omega
    have t400 : t < 400 := by have := hc.1; omega
    have j94 : (srt (mu.1 2 i) = b → ¬ (b = 1 ∨ b = 2)) → jm_V l gC (d + 3) iX7_cutIntoTokens 94 [(0, .ref 1), (2, .ref c2), (4, jm_i i), (5, jm_i (srt (mu.1 2 i)))] [] m Q := by
      intro hn
      refine bX7_cutIntoTokens_94 hC ⟨⟨by omega, by omega⟩, fun q => ?_, fun q => ?_⟩
      · have nx := ih (i + 1) m t _ (by omega) a e7 e8 (by rw [ci]; exact hc.bl q) nb0 nb1
        rw [ci] at nx
        exact nx
      · have t0 := hc.1.1
        refine eX7_addToken hC ⟨fun r => by omega, fun _ => ?_⟩
        rw [e7]
        refine ⟨⟨by omega, by omega⟩, ⟨by omega, by omega⟩, fun m3 f3 => ?_⟩
        have g7 : m3.1 1 7 = t := by rw [f3, jm_wrO (by decide)]; exact e7
        rw [g7]
        refine ⟨⟨by omega, by omega⟩, fun m6 f6 => ?_⟩
        have k7 : m6.1 1 7 = t := by rw [f6, jm_wrO (by decide)]; exact g7
        rw [k7]
        refine ⟨⟨by omega, by omega⟩, fun m9 f9 => jm_qvI ?_⟩
        have n7 : m9.1 1 7 = t + 1 := by rw [f9, jm_wrS]
        have n8 : m9.1 1 8 = 0 := by rw [f9, jm_wrI (by decide), f6, jm_wrO (by decide), f3, jm_wrO (by decide)]; exact e8
        have n4 : ∀ x, m9.1 4 x = if x = t then (i : Int) else m.1 4 x := fun x => by
          rw [f9, jm_wrO (by decide), f6, jm_wrO (by decide), f3]
          split
          · rename_i z; rw [z, jm_wrS]
          · rename_i z; rw [jm_wrI z]
        have n5 : ∀ x, m9.1 5 x = if x = t then 1 else m.1 5 x := fun x => by
          rw [f9, jm_wrO (by decide), f6]
          split
          · rename_i z; rw [z, jm_wrS]
          · rename_i z; rw [jm_wrI z, f3, jm_wrO (by decide)]
        have a9 : jm_ag fcu mu m9 := by rw [f9, f6, f3]; exact ((a.wr rfl).wr rfl).wr rfl
        have nx := ih (i + 1) m9 (t + 1) (srt (mu.1 2 i)) (by omega) a9 n7 n8 (by
          rw [ci]
          refine hc.nw (by omega) q (fun he ht hz hz2 => ?_) (by rw [n4, if_pos rfl]) (by rw [n5, if_pos rfl]) (fun x hx => by rw [n4, if_neg (by omega)]) (fun x hx => by rw [n5, if_neg (by omega)])
          have i1 : 0 < i := by have := hc.1; omega
          have bw := hb1 i1
          have s2 := srt_b (mu.1 2 ((i : Int) - 1))
          have := hn (by omega)
          omega) nb0 nb1
        rw [ci] at nx
        exact nx
    have j76 : srt (mu.1 2 i) = b → (b = 1 ∨ b = 2) → jm_V l gC (d + 3) iX7_cutIntoTokens 76 [(0, .ref 1), (2, .ref c2), (4, jm_i i), (5, jm_i (srt (mu.1 2 i)))] [] m Q := by
      intro hs h12
      have i1 : 0 < i := by
        apply Decidable.byContradiction
        intro z
        have := hb0 (by omega)
        omega
      have bw := hb1 i1
      have he : eB (m.1 4) (m.1 5) t = i := by
        apply Decidable.byContradiction
        intro z
        have := hc.1
        have := hc.2.2.2.1 ((i : Int) - 1) (by omega) (by omega)
        omega
      have t0 : 0 < t := by
        apply Decidable.byContradiction
        intro z
        have := hc.1.1
        rw [show t = 0 by omega, eB_0] at he
        omega
      have lst := hc.2.1 (t - 1) (by omega) (by omega)
      have pn := hc.pn (k := t - 1) (by omega) (by omega)
      refine bX7_cutIntoTokens_76 hC ?_
      rw [e7]
      refine ⟨⟨by omega, by omega⟩, ⟨by omega, by omega⟩, fun m3 f3 => ?_⟩
      have n5 : ∀ x, m3.1 5 x = if x = t - 1 then m.1 5 (t - 1) + 1 else m.1 5 x := fun x => by
        rw [f3]
        split
        · rename_i z; rw [z, jm_wrS]
        · rename_i z; rw [jm_wrI z]
      have n4 : m3.1 4 = m.1 4 := by rw [f3]; funext x; rw [jm_wrO (by decide)]
      have nx := ih (i + 1) m3 t (srt (mu.1 2 i)) (by omega) (by rw [f3]; exact a.wr rfl) (by rw [f3, jm_wrO (by decide)]; exact e7) (by rw [f3, jm_wrO (by decide)]; exact e8) (by
        rw [ci, n4]
        exact hc.go t0 he (by omega) (by omega) (by rw [n5, if_pos rfl]) (fun x hx => by rw [n5, if_neg (by omega)])) nb0 nb1
      rw [ci] at nx
      exact nx
    refine bX7_cutIntoTokens_37 hC ⟨⟨by omega, by omega⟩, fun r => by omega, fun _ => ⟨⟨by omega, by omega⟩, ?_⟩⟩
    rw [e2]
    refine sX7_sortOf hC (hm 2 i) (jm_qiI ⟨by omega, by omega⟩ ⟨⟨by omega, by omega⟩, fun q => j94 (fun r => absurd r q), fun q => ⟨fun q1 => j76 q (by omega), fun q1 => ⟨fun q2 => j94 (fun _ => by omega), fun q2 => j76 q (by omega)⟩⟩⟩)
end CU
