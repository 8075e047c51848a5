section RL
variable {l : Launch} {gC gR : jm_G} {d : Nat} {mu nu m n m0 n0 : jm_M} {v1 v2 v3 v4 v5 v6 : Int} {Q : Option Value → jm_M → Prop} {B B' K P S : Int → Int} {N t a : Int} {k : Nat}
/-- a text in tokens -/
def PHS (k : Nat) (B : Int → Int) (N : Int) (K P S : Int → Int) (t : Int) : Prop := TOK B N K P S t k ∧ (0 ≤ N ∧ N ≤ 400) ∧ (∀ x, 0 ≤ x → x < N → 0 ≤ B x ∧ B x ≤ 255) ∧ k < 3
def PC (B K P S : Int → Int) (t a : Int) (m : jm_M) : Prop := m.1 2 = B ∧ m.1 3 = K ∧ m.1 4 = P ∧ m.1 5 = S ∧ m.1 1 7 = t ∧ m.1 1 8 = a ∧ 0 ≤ a ∧ a ≤ t
def PN (B : Int → Int) (N : Int) (P S : Int → Int) (t a : Int) (n : jm_M) : Prop := (∀ k, 0 ≤ k → k < N → n.1 7 k = B k) ∧ n.1 0 13 = N ∧ (∀ k : Nat, k < 143 → n.1 8 k = jm_W143.getD k 0) ∧ CURR B N P S t a n
def nva (B P S : Int → Int) (a : Int) : Int := nvN B (P a) (S a).toNat
theorem PHS.T (h : PHS k B N K P S t) : 0 ≤ t ∧ t ≤ 400 := by
  have := h.1.1.1
  have := h.2.1
  omega
theorem PHS.kb (h : PHS k B N K P S t) (a0 : 0 ≤ a) (a1 : a < t) : (0 ≤ K a ∧ K a ≤ 255 ∨ K a = 256 ∨ K a = 258 ∨ 300 ≤ K a ∧ K a ≤ 317) ∧ ¬ K a = 257 := by
  have hk := h.1.2.2.2 a a0 a1
  have tk := h.1.1.2.1 a a0 a1
  have pn := h.1.1.pn a0 a1
  have b := h.2.2.1 (P a) pn (by omega)
  rcases hk with ⟨z, w⟩ | ⟨z, w⟩ | ⟨z, w⟩
  · rcases w with ⟨w, hw, -, e⟩ | ⟨-, e⟩
    · have : wc k ≤ 18 := by unfold wc; split <;> (try split) <;> omega
      omega
    · omega
  · split at w <;> omega
  · omega
theorem PHS.nv (h : PHS k B N K P S t) (a0 : 0 ≤ a) (a1 : a < t) (q : K a = 256) : 0 ≤ nva B P S a ∧ nva B P S a ≤ 9999 := by
  obtain ⟨-, s1, s4, dg⟩ := h.1.dig a0 a1 q h.2.2.1
  have := nv_b (B := B) (p := P a) (S a).toNat (by omega) (fun x hx => dg x (by omega))
  have p4 : (10 : Int) ^ (S a).toNat ≤ 10000 := by
    have : (S a).toNat = 1 ∨ (S a).toNat = 2 ∨ (S a).toNat = 3 ∨ (S a).toNat = 4 := by omega
    rcases this with e | e | e | e <;> rw [e] <;> decide
  unfold nva
  omega
theorem PHS.end_ (h : PHS k B N K P S t) (a0 : 0 ≤ a) (a1 : a ≤ t) : K a = 257 ↔ a = t := by
  constructor
  · intro q
    apply Decidable.byContradiction
    intro z
    exact (h.kb a0 (by omega)).2 q
  · intro q
    rw [q]
    exact h.1.2.2.1
theorem PHS.eE (h : PHS k B N K P S t) (c : CURR B N P S t a n) (a0 : 0 ≤ a) (a1 : a ≤ t) : n.1 0 16 = 0 ↔ K a = 257 := by
  rw [h.end_ a0 a1]
  rcases c with ⟨-, ⟨e, -, e16⟩ | ⟨e, -, c⟩⟩
  · exact ⟨fun _ => e, fun _ => e16⟩
  · rcases c with ⟨-, ⟨j, -, -, e16, -⟩ | ⟨-, e16⟩⟩ | ⟨-, ⟨-, e16, -⟩ | ⟨-, e16⟩⟩ | ⟨-, -, ⟨-, e16⟩ | ⟨-, e16⟩⟩ <;> omega
theorem PHS.eN (h : PHS k B N K P S t) (c : CURR B N P S t a n) (a0 : 0 ≤ a) (a1 : a ≤ t) : (n.1 0 16 = 3 ↔ K a = 256) ∧ (K a = 256 → n.1 0 17 = nva B P S a) := by
  rcases c with ⟨-, ⟨e, -, e16⟩ | ⟨e, -, c⟩⟩
  · have := h.1.2.2.1
    rw [e, this]
    omega
  · have hk := h.1.2.2.2 a a0 e
    have tk := h.1.1.2.1 a a0 e
    have pn := h.1.1.pn a0 e
    have b := h.2.2.1 (P a) pn (by omega)
    rcases c with ⟨s, c⟩ | ⟨s, c⟩ | ⟨s, e17, c⟩
    · have k1 : ¬ K a = 256 := by
        rcases hk with ⟨z, w⟩ | ⟨z, w⟩ | ⟨z, w⟩
        · rcases w with ⟨w, hw, -, e⟩ | ⟨-, e⟩ <;> omega
        · omega
        · omega
      have k2 : ¬ n.1 0 16 = 3 := by rcases c with ⟨j, -, -, e16, -⟩ | ⟨-, e16⟩ <;> omega
      exact ⟨⟨fun q => absurd q k2, fun q => absurd q k1⟩, fun q => absurd q k1⟩
    · rcases hk with ⟨z, w⟩ | ⟨z, w⟩ | ⟨z, w⟩
      · omega
      · rcases c with ⟨s4, e16, e17⟩ | ⟨s4, e16⟩
        · rw [if_pos s4] at w
          exact ⟨⟨fun _ => w, fun _ => e16⟩, fun _ => e17⟩
        · rw [if_neg (by omega)] at w
          omega
      · omega
    · have k1 : ¬ K a = 256 := by
        rcases hk with ⟨z, w⟩ | ⟨z, w⟩ | ⟨z, w⟩ <;> omega
      have k2 : ¬ n.1 0 16 = 3 := by rcases c with ⟨-, e16⟩ | ⟨-, e16⟩ <;> omega
      exact ⟨⟨fun q => absurd q k2, fun q => absurd q k1⟩, fun q => absurd q k1⟩
theorem PHS.eW (h : PHS k B N K P S t) (c : CURR B N P S t a n) (a0 : 0 ≤ a) (a1 : a ≤ t) {w : Nat} (hw : w < wc k) : (n.1 0 16 = 2 ∧ n.1 0 17 = ((wb k + w : Nat) : Int)) ↔ K a = ((300 + w : Nat) : Int) := by
  have tx : wb k + wc k ≤ 28 := (w_tx ⟨k, h.2.2.2⟩).1
  rcases c with ⟨-, ⟨e, -, e16⟩ | ⟨e, -, c⟩⟩
  · have := h.1.2.2.1
    rw [e, this]
    omega
  · have hk := h.1.2.2.2 a a0 e
    have tk := h.1.1.2.1 a a0 e
    have pn := h.1.1.pn a0 e
    have b := h.2.2.1 (P a) pn (by omega)
    rcases c with ⟨s, c⟩ | ⟨s, c⟩ | ⟨s, e17, c⟩
    · rcases hk with ⟨z, hk⟩ | ⟨z, hk⟩ | ⟨z, hk⟩
      · rcases c with ⟨j, hj, hm, e16, e17⟩ | ⟨hm, e16⟩
        · rcases hk with ⟨w', hw', hm', ek⟩ | ⟨hm', ek⟩
          · have u := mt_un hj (by omega) hm hm'
            omega
          · constructor
            · intro q
              exact absurd (by rw [show wb k + w = j by omega]; exact hm) (hm' w hw)
            · intro q
              omega
        · rcases hk with ⟨w', hw', hm', ek⟩ | ⟨hm', ek⟩
          · exact absurd hm' (hm _ (by omega))
          · omega
      · omega
      · omega
    · rcases hk with ⟨z, hk⟩ | ⟨z, hk⟩ | ⟨z, hk⟩
      · omega
      · have k2 : ¬ n.1 0 16 = 2 := by rcases c with ⟨-, e16, -⟩ | ⟨-, e16⟩ <;> omega
        split at hk <;> omega
      · omega
    · rcases hk with ⟨z, hk⟩ | ⟨z, hk⟩ | ⟨z, hk⟩
      · omega
      · omega
      · have k2 : ¬ n.1 0 16 = 2 := by rcases c with ⟨-, e16⟩ | ⟨-, e16⟩ <;> omega
        omega
theorem isM_s {c : Int} (h : isM c) : srt c = 4 ∧ 40 ≤ c ∧ c ≤ 62 := by
  unfold isM at h
  rcases h with h | h | h | h | h | h | h | h | h | h <;> subst h <;> decide
theorem PHS.eS (h : PHS k B N K P S t) (c : CURR B N P S t a n) (a0 : 0 ≤ a) (a1 : a ≤ t) {x : Int} (hx : isM x) : (n.1 0 16 = 4 ∧ n.1 0 17 = x) ↔ K a = x := by
  have xs := isM_s hx
  rcases c with ⟨-, ⟨e, -, e16⟩ | ⟨e, -, c⟩⟩
  · have := h.1.2.2.1
    rw [e, this]
    omega
  · have hk := h.1.2.2.2 a a0 e
    rcases c with ⟨s, c⟩ | ⟨s, c⟩ | ⟨s, e17, c⟩
    · have k2 : ¬ n.1 0 16 = 4 := by rcases c with ⟨j, -, -, e16, -⟩ | ⟨-, e16⟩ <;> omega
      rcases hk with ⟨z, w⟩ | ⟨z, w⟩ | ⟨z, w⟩
      · rcases w with ⟨w, hw, -, e⟩ | ⟨-, e⟩ <;> omega
      · omega
      · omega
    · have k2 : ¬ n.1 0 16 = 4 := by rcases c with ⟨-, e16, -⟩ | ⟨-, e16⟩ <;> omega
      rcases hk with ⟨z, w⟩ | ⟨z, w⟩ | ⟨z, w⟩
      · omega
      · split at w <;> omega
      · omega
    · rcases hk with ⟨z, w⟩ | ⟨z, w⟩ | ⟨z, w⟩
      · omega
      · omega
      · rw [w]
        rcases c with ⟨im, e16⟩ | ⟨im, e16⟩
        · omega
        · constructor
          · intro q
            omega
          · intro q
            rw [q] at im
            exact absurd hx im
/-- the class goes on to the next token -/
theorem PC.skip (h : PC B K P S t a m) (a1 : a < t) : PC B K P S t (a + 1) (jm_wr m 1 8 (a + 1)) := by
  obtain ⟨h2, h3, h4, h5, h7, h8, h9, h10⟩ := h
  refine ⟨?_, ?_, ?_, ?_, ?_, by rw [jm_wrS], by omega, by omega⟩
  · rw [← h2]; funext x; rw [jm_wrO (by decide)]
  · rw [← h3]; funext x; rw [jm_wrO (by decide)]
  · rw [← h4]; funext x; rw [jm_wrO (by decide)]
  · rw [← h5]; funext x; rw [jm_wrO (by decide)]
  · rw [jm_wrI (by decide)]; exact h7
theorem PC.wr (h : PC B K P S t a m) {c : Nat} {i x : Int} (hc : 6 ≤ c) : PC B K P S t a (jm_wr m c i x) := by
  obtain ⟨h2, h3, h4, h5, h7, h8, h9, h10⟩ := h
  refine ⟨?_, ?_, ?_, ?_, ?_, ?_, h9, h10⟩
  · rw [← h2]; funext x; rw [jm_wrO (by omega)]
  · rw [← h3]; funext x; rw [jm_wrO (by omega)]
  · rw [← h4]; funext x; rw [jm_wrO (by omega)]
  · rw [← h5]; funext x; rw [jm_wrO (by omega)]
  · rw [jm_wrO (by omega)]; exact h7
  · rw [jm_wrO (by omega)]; exact h8
theorem sX7_skip (hC : jm_HC gC) (h : PC B K P S t a m) (t4 : t ≤ 400) (a1 : a < t) (hQ : Q none (jm_wr m 1 8 (a + 1))) : jm_R l gC (d + 1) iX7_skip [.ref 1] m Q := by
  obtain ⟨h2, h3, h4, h5, h7, h8, h9, h10⟩ := h
  refine eX7_skip hC ?_
  rw [h7, h8]
  refine ⟨fun r => by omega, fun _ => ⟨⟨by omega, by omega⟩, fun m2 e2 => ?_⟩⟩
  rw [e2]
  exact hQ
/-- the class refuses -/
def RF (P : Int → Int) (a f : Int) (m : jm_M) : jm_M := jm_wr (jm_wr m 1 2 f) 1 3 (P a)
theorem RF_e (h : PC B K P S t a m) (f : Int) : jm_wr (jm_wr m 1 2 f) 1 3 ((jm_wr m 1 2 f).1 4 ((jm_wr m 1 2 f).1 1 8)) = RF P a f m := by
  obtain ⟨h2, h3, h4, h5, h7, h8, h9, h10⟩ := h
  unfold RF
  rw [jm_wrI (a := 1) (by decide : (8 : Int) ≠ 2), h8, jm_wrO (by decide), h4]
theorem RF_8 (h : PC B K P S t a m) (f : Int) : (jm_wr m 1 2 f).1 1 8 = a := by rw [jm_wrI (by decide)]; exact h.2.2.2.2.2.1
theorem sX7_take (hC : jm_HC gC) (hp : PHS k B N K P S t) (h : PC B K P S t a m) {x : Int} (rx : jm_rg x) (x7 : ¬ x = 257) (h1 : K a = x → a < t → Q (some (jm_i 1)) (jm_wr m 1 8 (a + 1))) (h0 : ¬ K a = x → Q (some (jm_i 0)) (RF P a 1 m)) : jm_R l gC (d + 2) iX7_take [.ref 1, jm_i x] m Q := by
  have tb := hp.T
  have h' := h
  obtain ⟨h2, h3, h4, h5, h7, h8, h9, h10⟩ := h'
  refine eX7_take hC ?_
  rw [h8, h3]
  have r8 := RF_8 h 1
  refine ⟨⟨by omega, by omega⟩, rx, fun q => ?_, fun q => ⟨⟨by omega, by omega⟩, fun m8 e8 => ?_⟩⟩
  · have at1 : a < t := by
      apply Decidable.byContradiction
      intro z
      have := (hp.end_ h9 h10).2 (by omega)
      omega
    exact sX7_skip hC h tb.2 at1 (jm_qvI (h1 q at1))
  · rw [RF_e h] at e8
    rw [e8]
    exact h0 q
theorem sX7_isNumber (hC : jm_HC gC) (hp : PHS k B N K P S t) (h : PC B K P S t a m) {lo hi : Int} (rl : jm_rg lo) (rh : jm_rg hi) (h1 : K a = 256 → a < t → lo ≤ nva B P S a → nva B P S a ≤ hi → Q (some (jm_i 1)) m) (h2 : K a = 256 → a < t → ¬ (lo ≤ nva B P S a ∧ nva B P S a ≤ hi) → Q (some (jm_i 0)) (RF P a 2 m)) (h0 : ¬ K a = 256 → Q (some (jm_i 0)) (RF P a 1 m)) : jm_R l gC (d + 2) iX7_isNumberWithin [.ref 1, jm_i lo, jm_i hi] m Q := by
  have tb := hp.T
  have h' := h
  obtain ⟨g2, g3, g4, g5, g7, g8, g9, g10⟩ := h'
  refine eX7_isNumberWithin hC ?_
  rw [g8, g3]
  have r81 := RF_8 h 1
  have r82 := RF_8 h 2
  refine ⟨⟨by omega, by omega⟩, fun q => ?_, fun q => ⟨⟨by omega, by omega⟩, fun m12 e12 => ?_⟩⟩
  · have at1 : a < t := by
      apply Decidable.byContradiction
      intro z
      have := (hp.end_ g9 g10).2 (by omega)
      omega
    have nb := hp.nv g9 at1 q
    refine sX7_number hC (a := a) (by rw [g3, g4, g5]; exact hp.1) hp.2.2.1 hp.2.1.2 g2 g8 g9 at1 (by rw [g3]; exact q) ?_
    rw [g4, g5]
    refine jm_qiI ⟨by unfold nva at nb; omega, by unfold nva at nb; omega⟩ ⟨rl, rh, fun z => h1 q at1 z.1 z.2, fun z => ⟨⟨by omega, by omega⟩, fun m9 e9 => ?_⟩⟩
    rw [RF_e h] at e9
    rw [e9]
    exact h2 q at1 z
  · rw [RF_e h] at e12
    rw [e12]
    exact h0 q
theorem sX7_num (hC : jm_HC gC) (hp : PHS k B N K P S t) (h : PC B K P S t a m) (a1 : a < t) (q : K a = 256) (hQ : Q (some (jm_i (nva B P S a))) m) : jm_R l gC (d + 1) iX7_number [.ref 1] m Q := by
  obtain ⟨g2, g3, g4, g5, g7, g8, g9, g10⟩ := h
  refine sX7_number hC (a := a) (by rw [g3, g4, g5]; exact hp.1) hp.2.2.1 hp.2.1.2 g2 g8 g9 a1 (by rw [g3]; exact q) ?_
  rw [g4, g5]
  exact hQ
/-- the reference goes on to the next token -/
theorem sX12_next (hR : jm_HR gR) (hp : PHS k B N K P S t) (h : PN B N P S t a n) (a0 : 0 ≤ a) (a1 : a < t) (hQ : ∀ n', jm_ag frd n n' → PN B N P S t (a + 1) n' → Q none n') : jm_R l gR (d + 3) iX12_reads [.ref 0] n Q := by
  obtain ⟨h1, h2, h3, h4⟩ := h
  refine sX12_reads hR hp.1.1 hp.1.2.1 hp.2.1.2 hp.2.2.1 h1 h2 h3 (a := a + 1) (by omega) (by omega) ?_ (fun n' ag c => hQ n' ag ⟨fun k k0 k1 => by rw [ag 7 k rfl]; exact h1 k k0 k1, by rw [ag 0 13 rfl]; exact h2, fun k hk => by rw [ag 8 k rfl]; exact h3 k hk, c⟩)
  rw [eB_s P S a0]
  rcases h4.2 with ⟨e, -⟩ | ⟨-, e, -⟩
  · omega
  · exact e
/-- the reference refuses -/
def RR (P : Int → Int) (a f : Int) (n : jm_M) : jm_M := jm_wr (jm_wr n 0 31 f) 0 32 (P a)
theorem RR_e (h : PN B N P S t a n) (f : Int) : jm_wr (jm_wr n 0 31 f) 0 32 ((jm_wr n 0 31 f).1 0 15) = RR P a f n := by
  unfold RR
  rw [jm_wrI (a := 0) (by decide : (15 : Int) ≠ 31), h.2.2.2.1]
theorem sX12_readNumber (hR : jm_HR gR) (hp : PHS k B N K P S t) (h : PN B N P S t a n) (a0 : 0 ≤ a) (a1 : a ≤ t) {lo hi : Int} (rl : jm_rg lo) (rh : jm_rg hi) (h1 : K a = 256 → a < t → lo ≤ nva B P S a → nva B P S a ≤ hi → ∀ n', jm_ag frd n n' → PN B N P S t (a + 1) n' → Q (some (jm_i (nva B P S a))) n') (h2 : K a = 256 → ¬ (lo ≤ nva B P S a ∧ nva B P S a ≤ hi) → Q (some (jm_i (-1))) (RR P a 2 n)) (h0 : ¬ K a = 256 → Q (some (jm_i (-1))) (RR P a 1 n)) : jm_R l gR (d + 4) iX12_readNumber [.ref 0, jm_i lo, jm_i hi] n Q := by
  have e := hp.eN h.2.2.2 a0 a1
  refine eX12_readNumber hR ⟨fun q => ⟨rl, rh, ?_⟩, fun q m10 e10 => ?_⟩
  · have q' := e.1.1 q
    have at1 : a < t := by
      apply Decidable.byContradiction
      intro z
      have := (hp.end_ a0 a1).2 (by omega)
      omega
    rw [e.2 q']
    refine ⟨fun z x3 e3 => ?_, fun z m8 e8 => ?_⟩
    · rw [e3]
      exact (sX12_next (d := d) hR hp h a0 at1 (fun n' ag pn => jm_qvI (h1 q' at1 z.1 z.2 n' ag pn)))
    · rw [RR_e h] at e8
      rw [e8]
      exact h2 q' z
  · rw [RR_e h] at e10
    rw [e10]
    exact h0 (fun z => q (e.1.2 z))
end RL
