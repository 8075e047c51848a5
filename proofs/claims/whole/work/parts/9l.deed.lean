section DD
variable {l : Launch} {gC gR : jm_G} {d e : Nat} {mu nu m n m0 n0 m' n' : jm_M} {v1 v2 v3 v4 v5 v6 : Int} {Q : Option Value → jm_M → Prop} {B B' K P S : Int → Int} {N t a W : Int} {st st' f g : Int → Int}
/-- the reference's part of a deed -/
def DT (l : Launch) (gR : jm_G) (d e : Nat) (n0 : jm_M) (B : Int → Int) (N : Int) (P S : Int → Int) (t W : Int) (m m' : jm_M) (z : Int) : Prop := ∀ n, RN (DP l gR e P S W) n0 B N P S t m n → ∀ Q' : Option Value → jm_M → Prop, (z = 1 → ∀ n', RN (DP l gR e P S W) n0 B N P S t m' n' → jm_V l gR (d + 8) iX12_readSteps 5 [(0, .ref 0)] [] n' Q') → (z = 0 → ∀ n', EN n0 m' n' → Q' (some (jm_i (-1))) n') → jm_V l gR (d + 8) iX12_readSteps 5 [(0, .ref 0)] [] n Q'
def DH (l : Launch) (gR : jm_G) (d e : Nat) (m0 n0 : jm_M) (B : Int → Int) (N : Int) (K P S : Int → Int) (t W : Int) (m : jm_M) (Q : Option Value → jm_M → Prop) : Prop := ∀ m' z, (z = 0 ∨ z = 1) → jm_ag (fcz z) m0 m' → (z = 1 → CS m0 B K P S t m' ∧ CPI m' ∧ m.1 1 8 < m'.1 1 8) → DT l gR d e n0 B N P S t W m m' z → Q (some (jm_i z)) m'
theorem pow9u {k : Nat} (h : k ≤ 4) : (9 : Int) ^ k ≤ 6561 := by
  have : k = 0 ∨ k = 1 ∨ k = 2 ∨ k = 3 ∨ k = 4 := by omega
  rcases this with rfl | rfl | rfl | rfl | rfl <;> decide
theorem CPI.add (h : CPI m) (c0 : m'.1 56 0 = m.1 56 0 + 1) (c7 : m'.1 56 7 = m.1 56 7) (c61 : m'.1 61 = m.1 61) (c62 : m'.1 62 = m.1 62) (c8 : m.1 1 8 < m'.1 1 8) : CPI m' := by
  obtain ⟨h1, h2, h3, h4⟩ := h
  refine ⟨by omega, ?_, ?_, by rw [c7, c62]; exact h4⟩
  · rw [c7, c61, c0]
    exact h2.mono (by omega)
  · rw [c7, c61, c0, WS_add]
    have := pow9u (k := (m.1 56 7).toNat) (by omega)
    omega
theorem CPI.open_ (h : CPI m) (o4 : m.1 56 7 < 4) {tm : Int} (t1 : 1 ≤ tm) (t9 : tm ≤ 9) (c0 : m'.1 56 0 = m.1 56 0) (c7 : m'.1 56 7 = m.1 56 7 + 1) (c61 : ∀ x, ¬ x = m.1 56 7 → m'.1 61 x = m.1 61 x) (c62 : ∀ x, ¬ x = m.1 56 7 → m'.1 62 x = m.1 62 x) (d61 : m'.1 61 (m.1 56 7) = m.1 56 0) (d62 : m'.1 62 (m.1 56 7) = tm) (c8 : m.1 1 8 < m'.1 1 8) : CPI m' := by
  obtain ⟨h1, h2, h3, h4⟩ := h
  obtain ⟨k, ek⟩ : ∃ k : Nat, m.1 56 7 = k := ⟨(m.1 56 7).toNat, by omega⟩
  rw [ek] at h1 h2 h3 h4 c7 c61 c62 d61 d62 o4
  rw [Int.toNat_natCast] at h2 h3
  have e1 : (m'.1 56 7).toNat = k + 1 := by omega
  have cg : ∀ i : Nat, i < k → m'.1 61 i = m.1 61 i := fun i hi => c61 i (by omega)
  refine ⟨by omega, ?_, ?_, fun x x0 x1 => ?_⟩
  · rw [e1, c0]
    show m'.1 61 k ≤ m.1 56 0 ∧ MN (m'.1 61) k (m'.1 61 k)
    rw [d61]
    exact ⟨Int.le_refl _, h2.cg cg⟩
  · rw [e1, c0]
    show (m.1 56 0 - m'.1 61 k) * 9 ^ (k + 1) + WS (m'.1 61) k (m'.1 61 k) ≤ _
    rw [d61, WS_cg cg, Int.sub_self, Int.zero_mul]
    omega
  · by_cases q : x = k
    · rw [q, d62]
      exact ⟨t1, t9⟩
    · rw [c62 x q]
      exact h4 x x0 (by omega)
theorem CPI.close_ (h : CPI m) (o1 : 1 ≤ m.1 56 7) {x u : Int} (ex : x = m.1 61 (m.1 56 7 - 1)) (eu : u = x + (m.1 56 0 - x) * m.1 62 (m.1 56 7 - 1)) (c0 : m'.1 56 0 = u) (c7 : m'.1 56 7 = m.1 56 7 - 1) (c61 : m'.1 61 = m.1 61) (c62 : m'.1 62 = m.1 62) (c8 : m.1 1 8 < m'.1 1 8) : CPI m' ∧ 0 ≤ x ∧ x ≤ m.1 56 0 ∧ m.1 56 0 ≤ u ∧ u ≤ 6561 * m.1 1 8 := by
  obtain ⟨h1, h2, h3, h4⟩ := h
  obtain ⟨k, ek⟩ : ∃ k : Nat, m.1 56 7 = k + 1 := ⟨(m.1 56 7).toNat - 1, by omega⟩
  rw [ek] at h1 h2 h3 h4 c7 ex eu
  have e1 : ((k : Int) + 1).toNat = k + 1 := by omega
  rw [e1] at h2 h3
  rw [show (k : Int) + 1 - 1 = k by omega] at ex eu c7
  have e2 : (m'.1 56 7).toNat = k := by omega
  have tm := h4 k (by omega) (by omega)
  obtain ⟨w1, w2, w3⟩ := WS_close h2 tm.1 tm.2
  rw [← ex, ← eu] at w1 w2 w3
  have x0 := h2.2.nn
  have w4 := WS_ge w1
  have h21 : m.1 61 k ≤ m.1 56 0 := h2.1
  refine ⟨⟨by omega, by rw [e2, c61, c0]; exact w1, by rw [e2, c61, c0]; omega, fun y y0 y1 => by rw [c62]; exact h4 y y0 (by omega)⟩, by omega, by omega, w3, by omega⟩
theorem DP.frd (h : DP l gR e P S W m n) (q : jm_ag frd n n') : DP l gR e P S W m n' := by
  obtain ⟨s, cur, h1, h2, h3, h4, h5, h6, h7, h8⟩ := h
  have e18 : n'.1 18 = n.1 18 := frd_c q (by decide)
  have e38 : n'.1 0 38 = n.1 0 38 := frd_27 q (by decide)
  have e28 : n'.1 0 28 = n.1 0 28 := frd_27 q (by decide)
  exact ⟨s, cur, by rw [e18, e38]; exact h1, h2, h3, h4, by rw [e28]; exact h5, h6, by rw [e38]; exact h7, by rw [e38]; exact h8⟩
/-- which words and signs the reference sees -/
def sees (K : Int → Int) (a : Int) (n : jm_M) : Prop := ((n.1 0 16 = 2 ∧ n.1 0 17 = 22) ↔ K a = 300) ∧ ((n.1 0 16 = 2 ∧ n.1 0 17 = 25) ↔ K a = 303) ∧ ((n.1 0 16 = 2 ∧ n.1 0 17 = 26) ↔ K a = 304) ∧ ((n.1 0 16 = 2 ∧ n.1 0 17 = 27) ↔ K a = 305) ∧ ((n.1 0 16 = 4 ∧ n.1 0 17 = 41) ↔ K a = 41) ∧ (n.1 0 16 = 0 ↔ K a = 257)
theorem sees_ (hp : PHS 2 B N K P S t) (a0 : 0 ≤ a) (a1 : a ≤ t) (h : PN B N P S t a n) : sees K a n :=
  ⟨hp.eW h.2.2.2 a0 a1 (w := 0) (by decide), hp.eW h.2.2.2 a0 a1 (w := 3) (by decide), hp.eW h.2.2.2 a0 a1 (w := 4) (by decide), hp.eW h.2.2.2 a0 a1 (w := 5) (by decide), hp.eS h.2.2.2 a0 a1 (x := 41) (by unfold isM; omega), hp.eE h.2.2.2 a0 a1⟩
theorem at57 (hR : jm_HR gR) (s : sees K a n) (hk : K a = 300 ∨ K a = 303 ∨ K a = 304 ∨ K a = 305 ∨ K a = 41 ∧ 0 < n.1 0 28) (hv : jm_V l gR (d + 8) iX12_readSteps 57 [(0, .ref 0)] [] n Q) : jm_V l gR (d + 8) iX12_readSteps 5 [(0, .ref 0)] [] n Q := by
  refine bX12_readSteps_5 hR ⟨fun _ => hv, fun q1 => ⟨fun _ => hv, fun q2 => ⟨fun _ => hv, fun q3 => ⟨fun _ => hv, fun q4 => ⟨fun r => ?_, fun _ => ⟨fun _ => hv, fun r => ?_⟩⟩⟩⟩⟩⟩
  · exfalso
    rcases hk with hk | hk | hk | hk | hk
    · exact q1 (s.1.2 hk)
    · exact q2 (s.2.1.2 hk)
    · exact q3 (s.2.2.1.2 hk)
    · exact q4 (s.2.2.2.1.2 hk)
    · omega
  · exfalso
    rcases hk with hk | hk | hk | hk | hk
    · exact q1 (s.1.2 hk)
    · exact q2 (s.2.1.2 hk)
    · exact q3 (s.2.2.1.2 hk)
    · exact q4 (s.2.2.2.1.2 hk)
    · exact r (s.2.2.2.2.1.2 hk.1)
theorem at120 (hR : jm_HR gR) (s : sees K a n) (hk : ¬ K a = 300 ∧ ¬ K a = 303 ∧ ¬ K a = 304 ∧ ¬ K a = 305 ∧ (¬ K a = 41 ∨ n.1 0 28 ≤ 0)) (hv : jm_V l gR (d + 8) iX12_readSteps 120 [(0, .ref 0)] [] n Q) : jm_V l gR (d + 8) iX12_readSteps 5 [(0, .ref 0)] [] n Q := by
  refine bX12_readSteps_5 hR ⟨fun r => absurd (s.1.1 r) hk.1, fun q1 => ⟨fun r => absurd (s.2.1.1 r) hk.2.1, fun q2 => ⟨fun r => absurd (s.2.2.1.1 r) hk.2.2.1, fun q3 => ⟨fun r => absurd (s.2.2.2.1.1 r) hk.2.2.2.1, fun q4 => ⟨fun _ => hv, fun q5 => ⟨fun r => ?_, fun _ => hv⟩⟩⟩⟩⟩⟩
  have := s.2.2.2.2.1.1 r
  omega
/-- what can't stand there -/
theorem pl_else (hR : jm_HR gR) (hp : PHS 2 B N K P S t) (hs : CS m0 B K P S t m) (o0 : 0 ≤ m.1 56 7) (hk : ¬ K (m.1 1 8) = 300 ∧ ¬ K (m.1 1 8) = 303 ∧ ¬ K (m.1 1 8) = 304 ∧ ¬ K (m.1 1 8) = 305 ∧ (¬ K (m.1 1 8) = 41 ∨ m.1 56 7 = 0)) (ne : ¬ K (m.1 1 8) = 257) (h : DH l gR d e m0 n0 B N K P S t W m Q) : Q (some (jm_i 0)) (RF P (m.1 1 8) 1 m) := by
  obtain ⟨g2, g3, g4, g5, g7, -, g9, g10⟩ := hs.1
  refine h _ 0 (Or.inl rfl) (hs.rf _ _) (fun r => absurd r (by decide)) (fun n hn Q' h1 h0 => ?_)
  have s := sees_ hp g9 g10 hn.1
  have do_ := hn.2.2.o
  refine at120 hR s ⟨hk.1, hk.2.1, hk.2.2.1, hk.2.2.2.1, by omega⟩ (bX12_readSteps_120 hR ⟨fun _ m1 e1 => ?_, fun _ => ⟨fun _ m3 e3 => ?_, fun r => absurd (s.2.2.2.2.2.1 r) ne⟩⟩)
  · rw [RR_e hn.1] at e1
    rw [e1]
    exact h0 rfl _ (EN_rf hn.2.1 _ _)
  · rw [RR_e hn.1] at e3
    rw [e3]
    exact h0 rfl _ (EN_rf hn.2.1 _ _)
theorem pl_rest (hC : jm_HC gC) (hR : jm_HR gR) (hp : PHS 2 B N K P S t) (hs : CS m0 B K P S t m) (ci : CPI m) (hk : K (m.1 1 8) = 304) (h : DH l gR d e m0 n0 B N K P S t W m Q) : jm_R l gC (d + 7) iX7_skip [.ref 1] m (jm_qv fun m17 => jm_R l gC (d + 7) iX6_addDeed [.ref 56, jm_i 3, jm_i 0, jm_i 0, jm_i 0] m17 (jm_qv fun m21 => Q (some (jm_i 1)) m21)) := by
  have tb := hp.T
  obtain ⟨g2, g3, g4, g5, g7, -, g9, g10⟩ := hs.1
  have at1 : m.1 1 8 < t := by
    apply Decidable.byContradiction
    intro z
    have := (hp.end_ g9 g10).2 (by omega)
    omega
  have hs1 := hs.skip at1
  obtain ⟨m1, em1⟩ : ∃ m1, m1 = jm_wr m 1 8 (m.1 1 8 + 1) := ⟨_, rfl⟩
  rw [← em1] at hs1
  have e81 : m1.1 1 8 = m.1 1 8 + 1 := by rw [em1, jm_wrS]
  have o1 : ∀ c, c ≠ 1 → m1.1 c = m.1 c := fun c hc => by rw [em1]; exact sk_o hc
  have cb := ci.b (by omega)
  have tk := tok_b hp g9 at1
  have tw := tok_w hp g9 at1 (w := 4) (by decide) hk
  rw [show wE (wb 2 + 4) - wS (wb 2 + 4) = 4 by decide] at tw
  refine sX7_skip (d := d + 6) hC hs.1 tb.2 at1 (jm_qvI ?_)
  rw [← em1]
  refine sX6_addDeed (d := d + 6) hC hs1 ⟨by decide, by decide⟩ ⟨by decide, by decide⟩ ⟨by decide, by decide⟩ ⟨by decide, by decide⟩ (by rw [o1 56 (by decide)]; omega) (by rw [o1 56 (by decide)]; omega) (fun m2 cs2 c0 c7 cy cx cn => jm_qvI ?_)
  rw [o1 56 (by decide)] at c0 c7 cx cn
  rw [o1 57 (by decide), o1 58 (by decide), o1 59 (by decide), o1 60 (by decide)] at cx
  have e82 : m2.1 1 8 = m.1 1 8 + 1 := by rw [cy 1 (by omega), e81]
  refine h m2 1 (Or.inr rfl) cs2.2 (fun _ => ⟨cs2, ci.add c0 c7 (by rw [cy 61 (by omega), o1 61 (by decide)]) (by rw [cy 62 (by omega), o1 62 (by decide)]) (by omega), by omega⟩) (fun n hn Q' h1 h0 => ?_)
  have s := sees_ hp g9 g10 hn.1
  have do_ := hn.2.2.o
  have eN := hp.2.1
  refine at57 hR s (Or.inr (Or.inr (Or.inl hk))) (bX12_readSteps_57 hR ⟨fun r => absurd (s.1.1 r) (by rw [hk]; decide), fun _ => ⟨fun r => absurd (s.2.1.1 r) (by rw [hk]; decide), fun _ => ⟨fun r => absurd (s.2.2.2.1.1 r) (by rw [hk]; decide), fun _ => eX12_readOther hR ⟨fun _ => ?_, fun r => absurd (s.2.2.1.2 hk) r⟩⟩⟩⟩)
  refine bX12_readOther_31 hR (sX12_emits (d := d + 5) (t := t) (N := N) (B := B) (P := P) (S := S) (n0 := n0) hR rfl do_.2.1 (by omega) ⟨by decide, by decide⟩ ⟨by decide, by decide⟩ ⟨by decide, by decide⟩ ⟨by decide, by decide⟩ (fun n1 q38 ql k0 k1 k2 k3 q28 qp qa => jm_qvI ?_))
  refine sX12_next (d := d + 3) hR hp (qp _ hn.1) g9 at1 (fun n2 a2 p2 => jm_qvI (jm_qiI ⟨by decide, by decide⟩ ⟨fun _ => ?_, fun r => absurd r (by decide)⟩))
  refine h1 rfl n2 ⟨by rw [e82]; exact p2, (qa hn.2.1).tr (frd_x a2), DP.frd (DP.add hR hn.2.2 c0 c7 (fun y hy => ?_) cx q38 q28 ql (by rw [k0]; decide) (by rw [k0]; decide) (fun r => ?_) (by rw [e82]; omega)) a2⟩
  · rw [cy y (by omega), o1 y (by omega)]
  · obtain ⟨b1, -, -, -⟩ := cn r
    exact Or.inl ⟨b1, k0⟩
theorem pl_cross (hC : jm_HC gC) (hR : jm_HR gR) (hp : PHS 2 B N K P S t) (hW : n0.1 0 4 = W) (W0 : 0 ≤ W) (W8 : W ≤ 8) (hs : CS m0 B K P S t m) (ci : CPI m) (hk : K (m.1 1 8) = 303) (h : DH l gR d e m0 n0 B N K P S t W m Q) : jm_R l gC (d + 7) iX6_readCross [.ref 56, .ref 1, jm_i W] m Q := by
  have tb := hp.T
  obtain ⟨g2, g3, g4, g5, g7, -, g9, g10⟩ := hs.1
  have at1 : m.1 1 8 < t := by
    apply Decidable.byContradiction
    intro z
    have := (hp.end_ g9 g10).2 (by omega)
    omega
  have hs1 := hs.skip at1
  obtain ⟨m1, em1⟩ : ∃ m1, m1 = jm_wr m 1 8 (m.1 1 8 + 1) := ⟨_, rfl⟩
  rw [← em1] at hs1
  have e81 : m1.1 1 8 = m.1 1 8 + 1 := by rw [em1, jm_wrS]
  have o1 : ∀ c, c ≠ 1 → m1.1 c = m.1 c := fun c hc => by rw [em1]; exact sk_o hc
  have cb := ci.b (by omega)
  have tk := tok_b hp g9 at1
  have tw := tok_w hp g9 at1 (w := 3) (by decide) hk
  rw [show wE (wb 2 + 3) - wS (wb 2 + 3) = 5 by decide] at tw
  have hp1 := hs1.1
  rw [e81] at hp1
  have ref : ∀ n, RN (DP l gR e P S W) n0 B N P S t m n → ∀ Q' : Option Value → jm_M → Prop, jm_R l gR (d + 6) iX12_readTold [.ref 0, jm_i 25, jm_i 0, jm_i (W - 1)] n (jm_qi fun z2 m1 => (¬ z2 = (-1) → jm_R l gR (d + 6) iX12_emitsStep [.ref 0, jm_i 1, jm_i z2, jm_i 0, jm_i 0] m1 (jm_qv fun m5 => jm_V l gR (d + 8) iX12_readSteps 5 [(0, .ref 0)] [] m5 Q')) ∧ (z2 = (-1) → Q' (some (jm_i (-1))) m1)) → jm_V l gR (d + 8) iX12_readSteps 5 [(0, .ref 0)] [] n Q' := by
    intro n hn Q' hv
    have s := sees_ hp g9 g10 hn.1
    have n4 : n.1 0 4 = W := by rw [hn.2.1 0 4 rfl, hW]
    refine at57 hR s (Or.inr (Or.inl hk)) (bX12_readSteps_57 hR ⟨fun r => absurd (s.1.1 r) (by rw [hk]; decide), fun _ => ⟨fun _ => eX12_readCross hR ?_, fun r => absurd (s.2.1.2 hk) r⟩⟩)
    rw [n4]
    refine jm_R.mono hv (fun r m1 q => ?_)
    obtain ⟨z, rfl, rz, q1, q2⟩ := q
    exact ⟨z, rfl, rz, fun r => jm_R.mono (q1 r) (fun r m2 q => by obtain ⟨rfl, q⟩ := q; exact ⟨rfl, jm_qiI ⟨by decide, by decide⟩ ⟨fun _ => q, fun r => absurd r (by decide)⟩⟩), fun r => jm_qiI ⟨by decide, by decide⟩ ⟨fun r => absurd rfl r, fun _ => q2 r⟩⟩
  refine eX6_readCross hC (sX7_skip (d := d + 5) hC hs.1 tb.2 at1 (jm_qvI ?_))
  rw [← em1]
  refine sX7_isNumber (d := d + 4) hC hp hp1 ⟨by decide, by decide⟩ ⟨by omega, by omega⟩ (fun q at2 lo hi => jm_qiI ⟨by decide, by decide⟩ ⟨fun _ => ?_, fun r => absurd r (by decide)⟩) (fun q at2 ng => jm_qiI ⟨by decide, by decide⟩ ⟨fun r => absurd rfl r, fun _ => ?_⟩) (fun q => jm_qiI ⟨by decide, by decide⟩ ⟨fun r => absurd rfl r, fun _ => ?_⟩)
  · have nb := hp.nv (a := m.1 1 8 + 1) (by omega) at2 q
    have tk2 := tok_b hp (a := m.1 1 8 + 1) (by omega) at2
    refine sX7_num (d := d + 5) hC hp hp1 at2 q (jm_qiI ⟨by omega, by omega⟩ ?_)
    refine sX6_addDeed (d := d + 5) hC hs1 ⟨by decide, by decide⟩ ⟨by omega, by omega⟩ ⟨by decide, by decide⟩ ⟨by decide, by decide⟩ (by rw [o1 56 (by decide)]; omega) (by rw [o1 56 (by decide)]; omega) (fun m2 cs2 c0 c7 cy cx cn => jm_qvI ?_)
    rw [o1 56 (by decide)] at c0 c7 cx cn
    rw [o1 57 (by decide), o1 58 (by decide), o1 59 (by decide), o1 60 (by decide)] at cx
    have e82 : m2.1 1 8 = m.1 1 8 + 1 := by rw [cy 1 (by omega), e81]
    have hp2 := cs2.1
    rw [e82] at hp2
    refine sX7_skip (d := d + 5) hC hp2 tb.2 at2 (jm_qvI ?_)
    have hs3 := cs2.skip (by rw [e82]; exact at2)
    rw [e82] at hs3
    obtain ⟨m3, em3⟩ : ∃ m3, m3 = jm_wr m2 1 8 (m.1 1 8 + 1 + 1) := ⟨_, rfl⟩
    rw [← em3] at hs3 ⊢
    have e83 : m3.1 1 8 = m.1 1 8 + 1 + 1 := by rw [em3, jm_wrS]
    have o3 : ∀ c, c ≠ 1 → m3.1 c = m2.1 c := fun c hc => by rw [em3]; exact sk_o hc
    rw [← o3 56 (by decide)] at c0 c7
    rw [← o3 57 (by decide), ← o3 58 (by decide), ← o3 59 (by decide), ← o3 60 (by decide)] at cx cn
    have c61 : m3.1 61 = m.1 61 := by rw [o3 61 (by decide), cy 61 (by omega), o1 61 (by decide)]
    have c62 : m3.1 62 = m.1 62 := by rw [o3 62 (by decide), cy 62 (by omega), o1 62 (by decide)]
    refine h m3 1 (Or.inr rfl) hs3.2 (fun _ => ⟨hs3, ci.add c0 c7 c61 c62 (by omega), by omega⟩) (fun n hn Q' h1 h0 => ref n hn Q' ?_)
    have do_ := hn.2.2.o
    have eN := hp.2.1
    refine sX12_told (d := d + 1) hR hp hn.1 g9 g10 (w := 3) (by decide) rfl ⟨by decide, by decide⟩ ⟨by decide, by decide⟩ ⟨by omega, by omega⟩ (fun _ _ _ _ _ n2 a2 p2 => jm_qiI ⟨by omega, by omega⟩ ⟨fun _ => ?_, fun r => by omega⟩) (fun _ _ ng => absurd ⟨lo, hi⟩ ng) (fun _ nq => absurd q nq) (fun r => absurd hk r)
    have f38 : n2.1 0 38 = n.1 0 38 := frd_27 a2 (by decide)
    have f28 : n2.1 0 28 = n.1 0 28 := frd_27 a2 (by decide)
    have f18 : n2.1 18 = n.1 18 := frd_c a2 (by decide)
    refine sX12_emits (d := d + 5) (t := t) (N := N) (B := B) (P := P) (S := S) (n0 := n0) hR f38 do_.2.1 (by omega) ⟨by decide, by decide⟩ ⟨by omega, by omega⟩ ⟨by decide, by decide⟩ ⟨by decide, by decide⟩ (fun n1 q38 ql k0 k1 k2 k3 q28 qp qa => jm_qvI ?_)
    rw [f18] at ql
    rw [f28] at q28
    refine h1 rfl n1 ⟨by rw [e83]; exact qp _ p2, qa (hn.2.1.tr (frd_x a2)), DP.add hR hn.2.2 c0 c7 (fun y hy => ?_) cx q38 q28 ql (by rw [k0]; decide) (by rw [k0]; decide) (fun r => ?_) (by rw [e83]; omega)⟩
    · rcases hy with rfl | rfl
      · exact c61
      · exact c62
    · obtain ⟨b1, b2, b3, b4⟩ := cn r
      exact Or.inr (Or.inl ⟨b1, k0, by omega, by omega, by omega⟩)
  · refine h _ 0 (Or.inl rfl) (hs1.rf _ _) (fun r => absurd r (by decide)) (fun n hn Q' h1 h0 => ref n hn Q' ?_)
    exact sX12_told (d := d + 1) hR hp hn.1 g9 g10 (w := 3) (by decide) rfl ⟨by decide, by decide⟩ ⟨by decide, by decide⟩ ⟨by omega, by omega⟩ (fun _ _ _ l1 l2 => absurd ⟨l1, l2⟩ ng) (fun _ _ _ n2 a2 => jm_qiI ⟨by decide, by decide⟩ ⟨fun r => absurd rfl r, fun _ => h0 rfl _ (EN_rf (hn.2.1.tr (frd_x a2)) _ _)⟩) (fun _ nq => absurd q nq) (fun r => absurd hk r)
  · refine h _ 0 (Or.inl rfl) (hs1.rf _ _) (fun r => absurd r (by decide)) (fun n hn Q' h1 h0 => ref n hn Q' ?_)
    exact sX12_told (d := d + 1) hR hp hn.1 g9 g10 (w := 3) (by decide) rfl ⟨by decide, by decide⟩ ⟨by decide, by decide⟩ ⟨by omega, by omega⟩ (fun _ _ k1 => absurd k1 q) (fun _ k1 => absurd k1 q) (fun _ _ n2 a2 => jm_qiI ⟨by decide, by decide⟩ ⟨fun r => absurd rfl r, fun _ => h0 rfl _ (EN_rf (hn.2.1.tr (frd_x a2)) _ _)⟩) (fun r => absurd hk r)
end DD
