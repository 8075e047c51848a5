section RE
variable {l : Launch} {gC gR : jm_G} {d : Nat} {mu nu m n : jm_M} {v1 v2 v3 v4 v5 v6 : Int} {Q : Option Value → jm_M → Prop} {B B' K P S P' S' : Int → Int}
def frd (c : Nat) (i : Int) : Bool := !(c == 0 && (i == 14 || i == 15 || i == 16 || i == 17))
def isM (c : Int) : Prop := c = 59 ∨ c = 43 ∨ c = 45 ∨ c = 42 ∨ c = 47 ∨ c = 40 ∨ c = 41 ∨ c = 60 ∨ c = 61 ∨ c = 62
/-- the reference has read the a-th token -/
def CURR (B : Int → Int) (N : Int) (P S : Int → Int) (t a : Int) (n : jm_M) : Prop := n.1 0 15 = P a ∧ ((a = t ∧ n.1 0 14 = N ∧ n.1 0 16 = 0) ∨ (a < t ∧ n.1 0 14 = P a + S a ∧ ((srt (B (P a)) = 1 ∧ ((∃ j : Nat, j < 28 ∧ mt B (P a) (S a) j ∧ n.1 0 16 = 2 ∧ n.1 0 17 = j) ∨ ((∀ j : Nat, j < 28 → ¬ mt B (P a) (S a) j) ∧ n.1 0 16 = 1))) ∨ (srt (B (P a)) = 2 ∧ ((S a ≤ 4 ∧ n.1 0 16 = 3 ∧ n.1 0 17 = nvN B (P a) (S a).toNat) ∨ (4 < S a ∧ n.1 0 16 = 1))) ∨ (srt (B (P a)) = 4 ∧ n.1 0 17 = B (P a) ∧ ((isM (B (P a)) ∧ n.1 0 16 = 4) ∨ (¬ isM (B (P a)) ∧ n.1 0 16 = 1))))))
theorem mt.cg {p s : Int} {j : Nat} (h : mt B p s j) (e : ∀ x : Nat, (x : Int) < s → B' (p + x) = B (p + x)) : mt B' p s j := ⟨h.1, fun x hx => by rw [e x hx]; exact h.2 x hx⟩
theorem srt_1 {b : Int} : srt b = 1 ↔ ((97 ≤ b ∧ b ≤ 122) ∨ ((¬ (97 ≤ b ∧ b ≤ 122)) ∧ (65 ≤ b ∧ b ≤ 90))) := by
  unfold srt
  by_cases q : 97 ≤ b ∧ b ≤ 122
  · rw [if_pos q]
    exact ⟨fun _ => Or.inl q, fun _ => rfl⟩
  · rw [if_neg q]
    by_cases q2 : 65 ≤ b ∧ b ≤ 90
    · rw [if_pos q2]
      exact ⟨fun _ => Or.inr ⟨q, q2⟩, fun _ => rfl⟩
    · rw [if_neg q2]
      constructor
      · intro h
        split at h
        · omega
        · split at h <;> omega
      · intro h
        omega
theorem srt_2i {b : Int} : srt b = 2 ↔ 48 ≤ b ∧ b ≤ 57 := by
  constructor
  · exact srt_2
  · intro h
    unfold srt
    rw [if_neg (by omega), if_neg (by omega), if_pos h]
theorem srt_3i {b : Int} : srt b = 3 ↔ b = 32 ∨ b = 10 := by
  constructor
  · intro h
    unfold srt at h
    split at h
    · omega
    · split at h
      · omega
      · split at h
        · omega
        · split at h
          · assumption
          · omega
  · intro h
    unfold srt
    rw [if_neg (by omega), if_neg (by omega), if_neg (by omega), if_pos h]
theorem CUT.cl {i t a : Int} (h : CUT B P S i t) (a0 : 0 ≤ a) (a1 : a < t) (e : P a + S a < i) (n4 : ¬ srt (B (P a)) = 4) : ¬ srt (B (P a + S a)) = srt (B (P a)) := by
  by_cases q : a + 1 < t
  · exact h.2.2.2.2.2.2 a a0 q n4
  · have et : eB P S t = P a + S a := by rw [show t = a + 1 by omega]; exact eB_s P S a0
    rw [h.2.2.2.1 (P a + S a) (by omega) e]
    exact fun z => (h.2.2.2.2.2.1 a a0 a1).1 z.symm
theorem CUT.up {i t a : Int} (h : CUT B P S i t) (Pt : P t = i) (a0 : 0 ≤ a) (a1 : a ≤ t) : eB P S a ≤ P a ∧ P a ≤ i ∧ 0 ≤ eB P S a ∧ ∀ x, eB P S a ≤ x → x < P a → srt (B x) = 3 := by
  have nn := eB_nn h a.toNat (by omega)
  rw [show ((a.toNat : Nat) : Int) = a by omega] at nn
  by_cases q : a = t
  · subst q
    rw [Pt]
    exact ⟨h.1.2.2, Int.le_refl _, nn, fun x hx hx2 => h.2.2.2.1 x hx hx2⟩
  · have b := h.2.1 a a0 (by omega)
    exact ⟨b.1, by omega, nn, fun x hx hx2 => h.2.2.1 a x a0 (by omega) hx hx2⟩
theorem sX12_raw (hR : jm_HR gR) {N : Int} (N4 : N ≤ 400) (hb : ∀ k, 0 ≤ k → k < N → n.1 7 k = B k) (hN : n.1 0 13 = N) (x0 : 0 ≤ v1) (x1 : v1 ≤ N) (h1 : v1 < N → Q (some (jm_i (B v1))) n) (h0 : v1 = N → Q (some (jm_i (-1))) n) : jm_R l gR (d + 1) iX12_raw [.ref 0, jm_i v1] n Q := by
  refine eX12_raw hR ⟨⟨by omega, by omega⟩, fun q => h0 (by omega), fun q => ⟨⟨by omega, by omega⟩, ?_⟩⟩
  rw [hb v1 x0 (by omega)]
  exact h1 (by omega)
theorem sX12_isMark (hR : jm_HR gR) (r : jm_rg v1) (h1 : isM v1 → Q (some (jm_i 1)) n) (h0 : ¬ isM v1 → Q (some (jm_i 0)) n) : jm_R l gR (d + 1) iX12_isMarkSign [.ref 0, jm_i v1] n Q := by
  unfold isM at h1 h0
  refine eX12_isMarkSign hR ⟨r, fun a => h1 (by omega), fun a => ⟨fun b => h1 (by omega), fun b => ⟨fun c => h1 (by omega), fun c => ⟨fun e => h1 (by omega), fun e => ⟨fun f => h1 (by omega), fun f => ⟨fun g => h1 (by omega), fun g => ⟨fun i => h1 (by omega), fun i => ⟨fun j => h1 (by omega), fun j => ⟨fun k => h1 (by omega), fun k => ⟨fun o => h0 (by omega), fun o => h1 (by omega)⟩⟩⟩⟩⟩⟩⟩⟩⟩⟩
theorem lX12_letters (hR : jm_HR gR) {N t a : Int} (hc : CUT B P S N t) (N4 : N ≤ 400) (b255 : ∀ x, 0 ≤ x → x < N → 0 ≤ B x ∧ B x ≤ 255) (hb : ∀ k, 0 ≤ k → k < N → n.1 7 k = B k) (hN : n.1 0 13 = N) (hW : ∀ k : Nat, k < 143 → n.1 8 k = jm_W143.getD k 0) (a0 : 0 ≤ a) (a1 : a < t) (s1 : srt (B (P a)) = 1) (h : ∀ n', jm_ag frd n n' → CURR B N P S t a n' → Q none n') (j : Nat) : ∀ (i : Nat) (n' : jm_M), (i : Int) + j = S a → jm_ag frd n n' → n'.1 0 14 = P a + i → n'.1 0 15 = P a → n'.1 0 16 = 1 → jm_V l gR (d + 3) iX12_reads 95 [(0, .ref 0)] [] n' Q := by
  have tk := hc.2.1 a a0 a1
  have pn := hc.pn a0 a1
  induction j with
  | zero =>
    intro i n' hi ag e14 e15 e16
    have hb' : ∀ k, 0 ≤ k → k < N → n'.1 7 k = B k := fun k k0 k1 => by rw [ag 7 k rfl]; exact hb k k0 k1
    have hW' : ∀ k : Nat, k < 143 → n'.1 8 k = jm_W143.getD k 0 := fun k hk => by rw [ag 8 k rfl]; exact hW k hk
    have stop : ∀ z : Int, ¬ srt z = 1 → jm_rg z → jm_qi (fun z2 m1 => (((97 ≤ z2 ∧ z2 ≤ 122)) ∨ ((¬ (97 ≤ z2 ∧ z2 ≤ 122)) ∧ (65 ≤ z2 ∧ z2 ≤ 90)) → jm_rg ((m1.1 0 14) + 1) ∧ ∀ m6, m6 = jm_wr m1 0 14 ((m1.1 0 14) + 1) → jm_V l gR (d + 3) iX12_reads 95 [(0, .ref 0)] [] m6 Q) ∧ (¬ (((97 ≤ z2 ∧ z2 ≤ 122)) ∨ ((¬ (97 ≤ z2 ∧ z2 ≤ 122)) ∧ (65 ≤ z2 ∧ z2 ≤ 90))) → jm_R l gR (d + 2) iX12_wordAt [.ref 0, jm_i (m1.1 0 15), jm_i (m1.1 0 14)] m1 (jm_qi fun z9 m8 => ∀ m12, m12 = jm_wr m8 0 17 z9 → ((m12.1 0 17) = (-1) → Q none m12) ∧ (¬ (m12.1 0 17) = (-1) → ∀ m14, m14 = jm_wr m12 0 16 2 → Q none m14)))) (some (jm_i z)) n' := by
      intro z hz rz
      refine jm_qiI rz ⟨fun q => absurd (srt_1.2 q) hz, fun _ => ?_⟩
      rw [e15, e14]
      have run : ∀ x : Nat, (x : Int) < S a → srt (B (P a + x)) = 1 := fun x hx => by rw [hc.2.2.2.2.1 a (P a + x) a0 a1 (by omega) (by omega)]; exact s1
      refine sX12_wordAt hR pn tk.2.1 (by omega) hW' (fun x hx => ?_) (by omega) (fun jj hj hm => ?_) (fun hm => ?_)
      · rw [hb' (P a + x) (by omega) (by omega)]
        exact srt_ne3 (by rw [run x hx]; decide)
      · have hm' := hm.cg (B' := B) (fun x hx => (hb' (P a + x) (by omega) (by omega)).symm)
        refine jm_qiI ⟨by omega, by omega⟩ (fun m12 e12 => ⟨fun q => ?_, fun _ m14 f14 => ?_⟩)
        · rw [e12, jm_wrS] at q
          omega
        · refine h m14 (by rw [f14, e12]; exact ag.tr (((jm_ag.rf).wr rfl).wr rfl)) ⟨by rw [f14, jm_wrI (by decide), e12, jm_wrI (by decide)]; exact e15, Or.inr ⟨a1, by rw [f14, jm_wrI (by decide), e12, jm_wrI (by decide), e14]; omega, Or.inl ⟨s1, Or.inl ⟨jj, hj, hm', by rw [f14, jm_wrS], by rw [f14, jm_wrI (by decide), e12, jm_wrS]⟩⟩⟩⟩
      · have hm' : ∀ jj : Nat, jj < 28 → ¬ mt B (P a) (S a) jj := fun jj hj z => hm jj hj (z.cg (fun x hx => hb' (P a + x) (by omega) (by omega)))
        refine jm_qiI ⟨by decide, by decide⟩ (fun m12 e12 => ⟨fun _ => ?_, fun q => ?_⟩)
        · refine h m12 (by rw [e12]; exact ag.tr ((jm_ag.rf).wr rfl)) ⟨by rw [e12, jm_wrI (by decide)]; exact e15, Or.inr ⟨a1, by rw [e12, jm_wrI (by decide), e14]; omega, Or.inl ⟨s1, Or.inr ⟨hm', by rw [e12, jm_wrI (by decide)]; exact e16⟩⟩⟩⟩
        · rw [e12, jm_wrS] at q
          exact absurd rfl q
    refine bX12_reads_95 hR ?_
    rw [e14]
    refine sX12_raw hR N4 hb' (by rw [ag 0 13 rfl]; exact hN) (by omega) (by omega) (fun q => stop _ ?_ ?_) (fun q => stop (-1) (by decide) ⟨by decide, by decide⟩)
    · have := hc.cl a0 a1 (by omega) (by rw [s1]; decide)
      rw [s1] at this
      rwa [show P a + (i : Int) = P a + S a by omega]
    · have := b255 (P a + i) (by omega) q
      exact ⟨by omega, by omega⟩
  | succ j ih =>
    intro i n' hi ag e14 e15 e16
    have hb' : ∀ k, 0 ≤ k → k < N → n'.1 7 k = B k := fun k k0 k1 => by rw [ag 7 k rfl]; exact hb k k0 k1
    refine bX12_reads_95 hR ?_
    rw [e14]
    have by1 := b255 (P a + i) (by omega) (by omega)
    refine sX12_raw hR N4 hb' (by rw [ag 0 13 rfl]; exact hN) (by omega) (by omega) (fun q => jm_qiI ⟨by omega, by omega⟩ ⟨fun _ => ⟨by rw [e14]; exact ⟨by omega, by omega⟩, fun m6 e6 => ?_⟩, fun r => absurd (srt_1.1 ?_) r⟩) (fun q => by omega)
    · rw [e14] at e6
      exact ih (i + 1) m6 (by omega) (by rw [e6]; exact ag.tr ((jm_ag.rf).wr rfl)) (by rw [e6, jm_wrS]; omega) (by rw [e6, jm_wrI (by decide)]; exact e15) (by rw [e6, jm_wrI (by decide)]; exact e16)
    · rw [hc.2.2.2.2.1 a (P a + i) a0 a1 (by omega) (by omega)]
      exact s1
theorem lX12_digits (hR : jm_HR gR) {N t a : Int} (hc : CUT B P S N t) (N4 : N ≤ 400) (b255 : ∀ x, 0 ≤ x → x < N → 0 ≤ B x ∧ B x ≤ 255) (hb : ∀ k, 0 ≤ k → k < N → n.1 7 k = B k) (hN : n.1 0 13 = N) (a0 : 0 ≤ a) (a1 : a < t) (s1 : srt (B (P a)) = 2) (h : ∀ n', jm_ag frd n n' → CURR B N P S t a n' → Q none n') (j : Nat) : ∀ (i : Nat) (n' : jm_M), (i : Int) + j = S a → 1 ≤ i → jm_ag frd n n' → n'.1 0 14 = P a + i → n'.1 0 15 = P a → n'.1 0 16 = 1 → 0 ≤ n'.1 0 17 → n'.1 0 17 ≤ 100008 → (i ≤ 4 → n'.1 0 17 = nvN B (P a) i) → jm_V l gR (d + 3) iX12_reads 171 [(0, .ref 0)] [] n' Q := by
  have tk := hc.2.1 a a0 a1
  have pn := hc.pn a0 a1
  induction j with
  | zero =>
    intro i n' hi i1 ag e14 e15 e16 v0 v1 vv
    have hb' : ∀ k, 0 ≤ k → k < N → n'.1 7 k = B k := fun k k0 k1 => by rw [ag 7 k rfl]; exact hb k k0 k1
    refine bX12_reads_171 hR ?_
    rw [e14]
    have stop : ∀ z : Int, ¬ srt z = 2 → jm_rg z → jm_qi (fun z2 m1 => ((48 ≤ z2 ∧ z2 ≤ 57) → (10000 ≤ (m1.1 0 17) → ∀ m5, m5 = jm_wr m1 0 17 (m1.1 0 17) → jm_rg ((m5.1 0 14) + 1) ∧ ∀ m8, m8 = jm_wr m5 0 14 ((m5.1 0 14) + 1) → jm_V l gR (d + 3) iX12_reads 171 [(0, .ref 0)] [] m8 Q) ∧ ((m1.1 0 17) < 10000 → jm_R l gR (d + 2) iX12_raw [.ref 0, jm_i (m1.1 0 14)] m1 (jm_qi fun z11 m10 => jm_rg (((10 * (m1.1 0 17)) + z11) - 48) ∧ ∀ m15, m15 = jm_wr m10 0 17 (((10 * (m1.1 0 17)) + z11) - 48) → jm_rg ((m15.1 0 14) + 1) ∧ ∀ m18, m18 = jm_wr m15 0 14 ((m15.1 0 14) + 1) → jm_V l gR (d + 3) iX12_reads 171 [(0, .ref 0)] [] m18 Q))) ∧ (¬ ((48 ≤ z2 ∧ z2 ≤ 57)) → jm_rg ((m1.1 0 14) - (m1.1 0 15)) ∧ (5 ≤ ((m1.1 0 14) - (m1.1 0 15)) → Q none m1) ∧ (((m1.1 0 14) - (m1.1 0 15)) < 5 → ∀ m21, m21 = jm_wr m1 0 16 3 → Q none m21))) (some (jm_i z)) n' := by
      intro z hz rz
      refine jm_qiI rz ⟨fun q => absurd (srt_2i.2 q) hz, fun _ => ?_⟩
      rw [e14, e15]
      refine ⟨⟨by omega, by omega⟩, fun q => ?_, fun q m21 e21 => ?_⟩
      · exact h n' ag ⟨e15, Or.inr ⟨a1, by rw [e14]; omega, Or.inr (Or.inl ⟨s1, Or.inr ⟨by omega, e16⟩⟩)⟩⟩
      · refine h m21 (by rw [e21]; exact ag.tr ((jm_ag.rf).wr rfl)) ⟨by rw [e21, jm_wrI (by decide)]; exact e15, Or.inr ⟨a1, by rw [e21, jm_wrI (by decide), e14]; omega, Or.inr (Or.inl ⟨s1, Or.inl ⟨by omega, by rw [e21, jm_wrS], ?_⟩⟩)⟩⟩
        rw [e21, jm_wrI (by decide), show (S a).toNat = i by omega]
        exact vv (by omega)
    refine sX12_raw hR N4 hb' (by rw [ag 0 13 rfl]; exact hN) (by omega) (by omega) (fun q => stop _ ?_ ?_) (fun q => stop (-1) (by decide) ⟨by decide, by decide⟩)
    · have := hc.cl a0 a1 (by omega) (by rw [s1]; decide)
      rw [s1] at this
      rwa [show P a + (i : Int) = P a + S a by omega]
    · have := b255 (P a + i) (by omega) q
      exact ⟨by omega, by omega⟩
  | succ j ih =>
    intro i n' hi i1 ag e14 e15 e16 v0 v1 vv
    have hb' : ∀ k, 0 ≤ k → k < N → n'.1 7 k = B k := fun k k0 k1 => by rw [ag 7 k rfl]; exact hb k k0 k1
    refine bX12_reads_171 hR ?_
    rw [e14]
    have by1 := b255 (P a + i) (by omega) (by omega)
    have run : ∀ x : Nat, (x : Int) < S a → 48 ≤ B (P a + x) ∧ B (P a + x) ≤ 57 := fun x hx => srt_2 (by rw [hc.2.2.2.2.1 a (P a + x) a0 a1 (by omega) (by omega)]; exact s1)
    have dg := run i (by omega)
    refine sX12_raw hR N4 hb' (by rw [ag 0 13 rfl]; exact hN) (by omega) (by omega) (fun q => jm_qiI ⟨by omega, by omega⟩ ⟨fun _ => ⟨fun big m5 e5 => ?_, fun small => ?_⟩, fun r => absurd dg r⟩) (fun q => by omega)
    · have f14 : m5.1 0 14 = P a + i := by rw [e5, jm_wrI (by decide)]; exact e14
      rw [f14]
      refine ⟨⟨by omega, by omega⟩, fun m8 e8 => ?_⟩
      have f17 : m8.1 0 17 = n'.1 0 17 := by rw [e8, jm_wrI (by decide), e5, jm_wrS]
      refine ih (i + 1) m8 (by omega) (by omega) (by rw [e8, e5]; exact ag.tr (((jm_ag.rf).wr rfl).wr rfl)) (by rw [e8, jm_wrS]; omega) (by rw [e8, jm_wrI (by decide), e5, jm_wrI (by decide)]; exact e15) (by rw [e8, jm_wrI (by decide), e5, jm_wrI (by decide)]; exact e16) (by omega) (by omega) (fun i4 => ?_)
      have nb := nv_b (B := B) (p := P a) i (by omega) (fun x hx => run x (by omega))
      have := vv (by omega)
      have p3 : (10 : Int) ^ i ≤ 1000 := by
        have : i = 1 ∨ i = 2 ∨ i = 3 := by omega
        rcases this with e | e | e <;> rw [e] <;> decide
      omega
    · rw [e14]
      refine sX12_raw hR N4 hb' (by rw [ag 0 13 rfl]; exact hN) (by omega) (by omega) (fun _ => jm_qiI ⟨by omega, by omega⟩ ⟨⟨by omega, by omega⟩, fun m15 e5 => ?_⟩) (fun q => by omega)
      have f14 : m15.1 0 14 = P a + i := by rw [e5, jm_wrI (by decide)]; exact e14
      rw [f14]
      refine ⟨⟨by omega, by omega⟩, fun m8 e8 => ?_⟩
      have f17 : m8.1 0 17 = 10 * n'.1 0 17 + B (P a + i) - 48 := by rw [e8, jm_wrI (by decide), e5, jm_wrS]
      refine ih (i + 1) m8 (by omega) (by omega) (by rw [e8, e5]; exact ag.tr (((jm_ag.rf).wr rfl).wr rfl)) (by rw [e8, jm_wrS]; omega) (by rw [e8, jm_wrI (by decide), e5, jm_wrI (by decide)]; exact e15) (by rw [e8, jm_wrI (by decide), e5, jm_wrI (by decide)]; exact e16) (by omega) (by omega) (fun i4 => ?_)
      rw [f17, vv (by omega)]
      show 10 * nvN B (P a) i + B (P a + i) - 48 = nvN B (P a) i * 10 + B (P a + i) - 48
      omega
theorem sX12_reads (hR : jm_HR gR) {N t a : Int} (hc : CUT B P S N t) (Pt : P t = N) (N4 : N ≤ 400) (b255 : ∀ x, 0 ≤ x → x < N → 0 ≤ B x ∧ B x ≤ 255) (hb : ∀ k, 0 ≤ k → k < N → n.1 7 k = B k) (hN : n.1 0 13 = N) (hW : ∀ k : Nat, k < 143 → n.1 8 k = jm_W143.getD k 0) (a0 : 0 ≤ a) (a1 : a ≤ t) (es : n.1 0 14 = eB P S a) (h : ∀ n', jm_ag frd n n' → CURR B N P S t a n' → Q none n') : jm_R l gR (d + 3) iX12_reads [.ref 0] n Q := by
  obtain ⟨u1, u2, u3, u4⟩ := hc.up Pt a0 a1
  have lp : ∀ (j : Nat) (x : Int) (n' : jm_M), x + j = P a → eB P S a ≤ x → jm_ag frd n n' → n'.1 0 14 = x → jm_V l gR (d + 3) iX12_reads 0 [(0, .ref 0)] [] n' Q := by
    intro j
    induction j with
    | zero =>
      intro x n' hx x0 ag e14
      have hb' : ∀ k, 0 ≤ k → k < N → n'.1 7 k = B k := fun k k0 k1 => by rw [ag 7 k rfl]; exact hb k k0 k1
      have hN' : n'.1 0 13 = N := by rw [ag 0 13 rfl]; exact hN
      have ex : x = P a := by omega
      subst ex
      refine bX12_reads_0 hR ?_
      rw [e14]
      have rest : ∀ m12, m12 = jm_wr n' 0 15 (P a) → ∀ m14, m14 = jm_wr m12 0 16 1 → jm_R l gR (d + 2) iX12_raw [.ref 0, jm_i (m14.1 0 14)] m14 (jm_qi fun z17 m16 => (¬ z17 = (-1) → jm_rg ((m16.1 0 14) + 1) ∧ ∀ m21, m21 = jm_wr m16 0 14 ((m16.1 0 14) + 1) → ∀ m23, m23 = jm_wr m21 0 17 z17 → (((97 ≤ z17 ∧ z17 ≤ 122)) ∨ ((¬ (97 ≤ z17 ∧ z17 ≤ 122)) ∧ (65 ≤ z17 ∧ z17 ≤ 90)) → jm_V l gR (d + 3) iX12_reads 95 [(0, .ref 0)] [] m23 Q) ∧ (¬ (((97 ≤ z17 ∧ z17 ≤ 122)) ∨ ((¬ (97 ≤ z17 ∧ z17 ≤ 122)) ∧ (65 ≤ z17 ∧ z17 ≤ 90))) → ((48 ≤ z17 ∧ z17 ≤ 57) → jm_rg (z17 - 48) ∧ ∀ m26, m26 = jm_wr m23 0 17 (z17 - 48) → jm_V l gR (d + 3) iX12_reads 171 [(0, .ref 0)] [] m26 Q) ∧ (¬ ((48 ≤ z17 ∧ z17 ≤ 57)) → jm_R l gR (d + 2) iX12_isMarkSign [.ref 0, jm_i z17] m23 (jm_qi fun z29 m28 => (z29 = 0 → Q none m28) ∧ (¬ z29 = 0 → ∀ m32, m32 = jm_wr m28 0 16 4 → Q none m32))))) ∧ (z17 = (-1) → ∀ m34, m34 = jm_wr m16 0 16 0 → Q none m34)) := by
        intro m12 f12 m14 f14
        have ag4 : jm_ag frd n m14 := by rw [f14, f12]; exact ag.tr (((jm_ag.rf).wr rfl).wr rfl)
        have g14 : m14.1 0 14 = P a := by rw [f14, jm_wrI (by decide), f12, jm_wrI (by decide)]; exact e14
        have g15 : m14.1 0 15 = P a := by rw [f14, jm_wrI (by decide), f12, jm_wrS]
        have g16 : m14.1 0 16 = 1 := by rw [f14, jm_wrS]
        have hb4 : ∀ k, 0 ≤ k → k < N → m14.1 7 k = B k := fun k k0 k1 => by rw [ag4 7 k rfl]; exact hb k k0 k1
        rw [g14]
        refine sX12_raw hR N4 hb4 (by rw [ag4 0 13 rfl]; exact hN) (by omega) (by omega) (fun q => ?_) (fun q => ?_)
        · have at1 : a < t := by
            apply Decidable.byContradiction
            intro z
            have : a = t := by omega
            rw [this, Pt] at q
            omega
          have by1 := b255 (P a) (by omega) q
          have tk := hc.2.1 a a0 at1
          have k5 := hc.2.2.2.2.2.1 a a0 at1
          have sb := srt_b (B (P a))
          refine jm_qiI ⟨by omega, by omega⟩ ⟨fun _ => ⟨by rw [g14]; exact ⟨by omega, by omega⟩, fun m21 f21 m23 f23 => ?_⟩, fun r => by omega⟩
          rw [g14] at f21
          have ag23 : jm_ag frd n m23 := by rw [f23, f21]; exact ag4.tr (((jm_ag.rf).wr rfl).wr rfl)
          have k14 : m23.1 0 14 = P a + 1 := by rw [f23, jm_wrI (by decide), f21, jm_wrS]
          have k15 : m23.1 0 15 = P a := by rw [f23, jm_wrI (by decide), f21, jm_wrI (by decide)]; exact g15
          have k16 : m23.1 0 16 = 1 := by rw [f23, jm_wrI (by decide), f21, jm_wrI (by decide)]; exact g16
          have k17 : m23.1 0 17 = B (P a) := by rw [f23, jm_wrS]
          refine ⟨fun z => ?_, fun z => ⟨fun z2 => ⟨⟨by omega, by omega⟩, fun m26 f26 => ?_⟩, fun z2 => ?_⟩⟩
          · exact lX12_letters hR hc N4 b255 hb hN hW a0 at1 (srt_1.2 z) h ((S a).toNat - 1) 1 m23 (by omega) ag23 (by rw [k14]; rfl) k15 k16
          · refine lX12_digits hR hc N4 b255 hb hN a0 at1 (srt_2i.2 z2) h ((S a).toNat - 1) 1 m26 (by omega) (by omega) (by rw [f26]; exact ag23.tr ((jm_ag.rf).wr rfl)) (by rw [f26, jm_wrI (by decide), k14]; rfl) (by rw [f26, jm_wrI (by decide)]; exact k15) (by rw [f26, jm_wrI (by decide)]; exact k16) (by rw [f26, jm_wrS]; omega) (by rw [f26, jm_wrS]; omega) (fun _ => ?_)
            rw [f26, jm_wrS]
            show B (P a) - 48 = 0 * 10 + B (P a + ((0 : Nat) : Int)) - 48
            rw [show P a + ((0 : Nat) : Int) = P a by omega]
            omega
          · have s4 : srt (B (P a)) = 4 := by
              have n1 : ¬ srt (B (P a)) = 1 := fun r => z (srt_1.1 r)
              have n2 : ¬ srt (B (P a)) = 2 := fun r => z2 (srt_2i.1 r)
              have n3 := k5.1
              omega
            have S1 := k5.2 s4
            refine sX12_isMark hR ⟨by omega, by omega⟩ (fun im => jm_qiI ⟨by decide, by decide⟩ ⟨fun r => absurd r (by decide), fun _ m32 f32 => ?_⟩) (fun im => jm_qiI ⟨by decide, by decide⟩ ⟨fun _ => ?_, fun r => absurd rfl r⟩)
            · exact h m32 (by rw [f32]; exact ag23.tr ((jm_ag.rf).wr rfl)) ⟨by rw [f32, jm_wrI (by decide)]; exact k15, Or.inr ⟨at1, by rw [f32, jm_wrI (by decide), k14, S1], Or.inr (Or.inr ⟨s4, by rw [f32, jm_wrI (by decide)]; exact k17, Or.inl ⟨im, by rw [f32, jm_wrS]⟩⟩)⟩⟩
            · exact h m23 ag23 ⟨k15, Or.inr ⟨at1, by rw [k14, S1], Or.inr (Or.inr ⟨s4, k17, Or.inr ⟨im, k16⟩⟩)⟩⟩
        · have at1 : a = t := by
            apply Decidable.byContradiction
            intro z
            have tk := hc.2.1 a a0 (by omega)
            omega
          refine jm_qiI ⟨by decide, by decide⟩ ⟨fun r => absurd rfl r, fun _ m34 f34 => ?_⟩
          exact h m34 (by rw [f34]; exact ag4.tr ((jm_ag.rf).wr rfl)) ⟨by rw [f34, jm_wrI (by decide)]; exact g15, Or.inl ⟨at1, by rw [f34, jm_wrI (by decide), g14]; exact q, by rw [f34, jm_wrS]⟩⟩
      have nb : P a < N → ¬ srt (B (P a)) = 3 := fun q => by
        have at1 : a < t := by
          apply Decidable.byContradiction
          intro z
          have : a = t := by omega
          rw [this, Pt] at q
          omega
        exact (hc.2.2.2.2.2.1 a a0 at1).1
      refine sX12_raw hR N4 hb' hN' (by omega) (by omega) (fun q => ?_) (fun q => ?_)
      · have by1 := b255 (P a) (by omega) q
        have n3 := nb q
        have n32 : ¬ B (P a) = 32 := fun r => n3 (srt_3i.2 (Or.inl r))
        have n10 : ¬ B (P a) = 10 := fun r => n3 (srt_3i.2 (Or.inr r))
        refine jm_qiI ⟨by omega, by omega⟩ ⟨fun r => absurd r n32, fun _ => ?_⟩
        rw [e14]
        refine sX12_raw hR N4 hb' hN' (by omega) (by omega) (fun _ => jm_qiI ⟨by omega, by omega⟩ ⟨fun _ => by rw [e14]; exact rest, fun r => absurd r n10⟩) (fun r => by omega)
      · refine jm_qiI ⟨by decide, by decide⟩ ⟨fun r => absurd r (by decide), fun _ => ?_⟩
        rw [e14]
        exact sX12_raw hR N4 hb' hN' (by omega) (by omega) (fun r => by omega) (fun _ => jm_qiI ⟨by decide, by decide⟩ ⟨fun _ => by rw [e14]; exact rest, fun r => absurd r (by decide)⟩)
    | succ j ih =>
      intro x n' hx x0 ag e14
      have hb' : ∀ k, 0 ≤ k → k < N → n'.1 7 k = B k := fun k k0 k1 => by rw [ag 7 k rfl]; exact hb k k0 k1
      have hN' : n'.1 0 13 = N := by rw [ag 0 13 rfl]; exact hN
      have bl := srt_3i.1 (u4 x x0 (by omega))
      have next : ∀ m6, m6 = jm_wr n' 0 14 (x + 1) → jm_V l gR (d + 3) iX12_reads 0 [(0, .ref 0)] [] m6 Q := fun m6 e6 => ih (x + 1) m6 (by omega) (by omega) (by rw [e6]; exact ag.tr ((jm_ag.rf).wr rfl)) (by rw [e6, jm_wrS])
      refine bX12_reads_0 hR ?_
      rw [e14]
      refine sX12_raw hR N4 hb' hN' (by omega) (by omega) (fun q => jm_qiI ⟨by omega, by omega⟩ ⟨fun _ => ⟨by rw [e14]; exact ⟨by omega, by omega⟩, fun m6 e6 => by rw [e14] at e6; exact next m6 e6⟩, fun r => ?_⟩) (fun q => by omega)
      rw [e14]
      exact sX12_raw hR N4 hb' hN' (by omega) (by omega) (fun _ => jm_qiI ⟨by omega, by omega⟩ ⟨fun r2 => by omega, fun _ => ⟨by rw [e14]; exact ⟨by omega, by omega⟩, fun m6 e6 => by rw [e14] at e6; exact next m6 e6⟩⟩) (fun q => by omega)
  exact eX12_reads hR (lp (P a - eB P S a).toNat (eB P S a) n (by omega) (Int.le_refl _) jm_ag.rf es)
end RE
