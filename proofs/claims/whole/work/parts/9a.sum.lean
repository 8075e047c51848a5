section SU
variable {l : Launch} {gC gR : jm_G} {d : Nat} {mu nu m n m0 n0 : jm_M} {v1 v2 v3 v4 v5 v6 : Int} {Q : Option Value → jm_M → Prop} {B B' K P S : Int → Int} {N t a : Int} {k : Nat}
def fsm (c : Nat) (i : Int) : Bool := !((c == 0 && ((14 ≤ i && i ≤ 17) || i == 27 || i == 31 || i == 32)) || c == 14 || c == 15)
/-- what a piece of the law does to the class's draft -/
def CLR (t : Int) (m m' : jm_M) : Prop := m.1 49 1 ≤ m'.1 49 1 ∧ m'.1 49 1 + (t - m'.1 1 8) ≤ m.1 49 1 + (t - m.1 1 8) ∧ (∀ i, i < m.1 49 1 → m'.1 50 i = m.1 50 i) ∧ m'.1 49 0 = m.1 49 0 ∧ (∀ c, 51 ≤ c → c ≤ 54 → m'.1 c = m.1 c) ∧ m.1 1 8 < m'.1 1 8
theorem CLR.tr {m1 m2 m3 : jm_M} (h : CLR t m1 m2) (k : CLR t m2 m3) : CLR t m1 m3 := by
  obtain ⟨h1, h2, h3, h4, h5, h6⟩ := h
  obtain ⟨k1, k2, k3, k4, k5, k6⟩ := k
  exact ⟨by omega, by omega, fun i hi => by rw [k3 i (by omega), h3 i hi], by rw [k4, h4], fun c a b => by rw [k5 c a b, h5 c a b], by omega⟩
/-- the reference's part of a piece -/
def LCT (l : Launch) (gR : jm_G) (D : Nat) (n0 : jm_M) (B : Int → Int) (N : Int) (P S : Int → Int) (t : Int) (iR : jm_I) (m m' : jm_M) (z : Int) : Prop := ∀ b, b ≤ 400 → ∀ n, RN (DL t b) n0 B N P S t m n → ∀ Q' : Option Value → jm_M → Prop, (z = 1 → ∀ n', RN (DL t b) n0 B N P S t m' n' → jm_ag fsm n n' → Q' (some (jm_i 0)) n') → (z = 0 → ∀ n', EN n0 m' n' → Q' (some (jm_i (-1))) n') → jm_R l gR D iR [.ref 0] n Q'
theorem frd_s (h : jm_ag frd m n) : jm_ag fsm m n := fun c i q => h c i (by
  unfold fsm at q
  unfold frd
  cases e : (c == 0 && (i == 14 || i == 15 || i == 16 || i == 17))
  · rfl
  · exfalso
    simp only [Bool.and_eq_true, Bool.or_eq_true, beq_iff_eq] at e
    simp only [Bool.not_eq_true', Bool.or_eq_false_iff, Bool.and_eq_false_iff, decide_eq_false_iff_not, beq_eq_false_iff_ne] at q
    omega)
theorem EM_s {o v : Int} : jm_ag fsm n (EM n o v) := (((jm_ag.rf).wr rfl).wr rfl).wr rfl
theorem frd_c (h : jm_ag frd n nu) {c : Nat} (hc : c ≠ 0) : nu.1 c = n.1 c := h.cell (c := c) (fun i => by unfold frd; simp [hc])
theorem frd_27 (h : jm_ag frd n nu) {i : Int} (hi : 18 ≤ i) : nu.1 0 i = n.1 0 i := h 0 i (by
  unfold frd
  have a : ¬ i = 14 := by omega
  have b : ¬ i = 15 := by omega
  have c : ¬ i = 16 := by omega
  have e : ¬ i = 17 := by omega
  simp [a, b, c, e])
/-- both go on to the next token -/
theorem RN.next {b : Int} {m' : jm_M} (h : DL t b m n) (hs : m' = jm_wr m 1 8 (m.1 1 8 + 1)) {n' : jm_M} (ag : jm_ag frd n n') : DL t (b - 1) m' n' := by
  refine h.cg (fun c a1 a2 => ?_) (fun c a1 a2 => frd_c ag (by omega)) (frd_27 ag (by decide)) ?_
  · rw [hs]; funext y; rw [jm_wrO (by omega)]
  · rw [hs, jm_wrS]
    have := h.1.2.2
    omega
theorem DL.le {b b' : Int} (h : DL t b m n) (hb : b ≤ b') : DL t b' m n := ⟨⟨h.1.1, h.1.2.1, by have := h.1.2.2; omega⟩, h.2⟩
/-- both write an order that is one code -/
theorem DL.one {b : Int} {kk o v : Int} (h : DL t (b - 1) m n) (k0 : 0 ≤ kk) (v0 : 0 ≤ v) (v1 : v ≤ 9999) {w : Int} (eo : ∀ op arg : Int → Int, op (n.1 0 27) = o → arg (n.1 0 27) = w → jm_ord kk v op arg (n.1 0 27) 1) : DL t b (AO m kk v) (EM n o w) := by
  have c0 := h.1.2.1
  refine h.app k0 v0 v1 (Or.inl rfl) EM_27 (fun x hx => by rw [EM_14, if_neg (by omega)]) (fun x hx => by rw [EM_15, if_neg (by omega)]) (eo _ _ ?_ ?_) (fun c hc => ?_) ?_
  · rw [EM_14, if_pos rfl]
  · rw [EM_15, if_pos rfl]
  · funext y
    exact EM_u (by omega)
  · rw [EM_27]
    have := h.1.2.2
    omega
theorem asked (hp : PHS 1 B N K P S t) (c : CURR B N P S t a n) (a0 : 0 ≤ a) (a1 : a ≤ t) : ((n.1 0 16 = 2 ∧ 7 ≤ n.1 0 17 ∧ n.1 0 17 ≤ 17) ↔ 307 ≤ K a ∧ K a ≤ 317) ∧ (307 ≤ K a → K a ≤ 317 → n.1 0 17 = K a - 300) := by
  have f : ∀ w : Nat, 7 ≤ w → w ≤ 17 → ((n.1 0 16 = 2 ∧ n.1 0 17 = (w : Int)) ↔ K a = ((300 + w : Nat) : Int)) := fun w w7 w17 => by
    have := hp.eW c a0 a1 (w := w) (by show w < 18; omega)
    rw [show wb 1 + w = w from Nat.zero_add w] at this
    exact this
  refine ⟨⟨fun q => ?_, fun q => ?_⟩, fun q1 q2 => ?_⟩
  · have := (f (n.1 0 17).toNat (by omega) (by omega)).1 ⟨q.1, by omega⟩
    omega
  · have := (f (K a - 300).toNat (by omega) (by omega)).2 (by omega)
    omega
  · have := (f (K a - 300).toNat (by omega) (by omega)).2 (by omega)
    omega
theorem d_unit (hC : jm_HC gC) (hR : jm_HR gR) (hp : PHS 1 B N K P S t) (hs : CS m0 B K P S t m) (o0 : 0 ≤ m.1 49 1) (o1 : m.1 49 1 + (t - m.1 1 8) ≤ 400) (h : ∀ m' z, (z = 0 ∨ z = 1) → jm_ag (fcz z) m0 m' → (z = 1 → CS m0 B K P S t m' ∧ CLR t m m' ∧ ∀ s0 : List Bool, s0.length ≤ 40 → SG (m'.1 50) (m.1 49 1) (m'.1 49 1) s0 (false :: s0)) → LCT l gR (d + 4) n0 B N P S t iX12_readUnit m m' z → Q (some (jm_i z)) m') : jm_R l gC (d + 4) iX4_readUnit [.ref 63] m Q := by
  have tb := hp.T
  obtain ⟨g2, g3, g4, g5, g7, -, g9, g10⟩ := hs.1
  have unit : ∀ kk v : Int, (kk = 0 ∨ kk = 1) → 0 ≤ v → v ≤ 9999 → m.1 1 8 < t → (∀ n, PN B N P S t (m.1 1 8) n → ∀ Q' : Option Value → jm_M → Prop, jm_V l gR (d + 4) iX12_readUnit 71 [(0, .ref 0)] [jm_i v, jm_i kk, .ref 0] n Q' → jm_R l gR (d + 4) iX12_readUnit [.ref 0] n Q') → (kk = 1 → v ≤ 10) → jm_R l gC (d + 3) iX3_addOrder [.ref 49, jm_i kk, jm_i v] m (jm_qi fun z4 m3 => jm_V l gC (d + 4) iX4_readUnit 73 [(0, .ref 63)] [] m3 Q) := by
    intro kk v hk v0 v1 at1 ref v10
    refine sX3_addOrder hC (by omega) (by omega) v0 v1 o0 (by omega) (jm_qiI ⟨by decide, by decide⟩ ?_)
    have ha := AO_cs (kk := kk) (v := v) hs
    have e8 : (AO m kk v).1 1 8 = m.1 1 8 := by rw [AO_c (by decide)]
    have hap := ha.1
    rw [e8] at hap
    refine bX4_readUnit_73 hC (sX7_skip (d := d + 2) hC hap tb.2 at1 (jm_qvI ?_))
    have hsk := ha.skip (by rw [e8]; exact at1)
    rw [e8] at hsk
    have f8 : (jm_wr (AO m kk v) 1 8 (m.1 1 8 + 1)).1 1 8 = m.1 1 8 + 1 := jm_wrS
    have fo : ∀ c, c ≠ 1 → (jm_wr (AO m kk v) 1 8 (m.1 1 8 + 1)).1 c = (AO m kk v).1 c := fun c hc => by funext y; rw [jm_wrO hc]
    refine h _ 1 (Or.inr rfl) hsk.2 (fun _ => ⟨hsk, ⟨?_, ?_, ?_, ?_, ?_, ?_⟩, fun s0 hs0 => ?_⟩) (fun b hb n hn Q' h1 h0 => ref n hn.1 Q' ?_)
    · rw [fo 49 (by decide), AO_o]; omega
    · rw [fo 49 (by decide), AO_o, f8]; omega
    · intro i hi
      rw [fo 50 (by decide), AO_50, if_neg (by omega)]
    · rw [fo 49 (by decide)]; exact AO_u ⟨by decide, by decide⟩
    · intro c c1 c2
      rw [fo c (by omega)]; exact AO_c (by omega)
    · rw [f8]; omega
    · rw [fo 50 (by decide), fo 49 (by decide), AO_o]
      exact AO_sg v0 v1 (Or.inl ⟨hk, rfl⟩) hs0
    · have c0 := hn.2.2.1.2.1
      have c1 := hn.2.2.1.2.2
      refine bX12_readUnit_71 hR ⟨⟨by omega, by omega⟩, ⟨by omega, by omega⟩, by rw [w27]; exact ⟨by omega, by omega⟩, ⟨by omega, by omega⟩, by rw [w27']; exact ⟨by omega, by omega⟩, fun m6 e6 => ?_⟩
      rw [w27', w27] at e6
      have e6 : m6 = EM n kk v := e6
      rw [e6]
      refine sX12_next (d := d) hR hp (EM_pn hn.1) g9 at1 (fun n2 a2 p2 => jm_qvI (h1 rfl n2 ⟨by rw [f8]; exact p2, (EM_fr hn.2.1 c0).tr (frd_x a2), ?_⟩ (EM_s.tr (frd_s a2))))
      have dl : DL t (b + 1) (AO m kk v) (EM n kk v) := (DL.one (b := b + 1) (by rw [show b + 1 - 1 = b by omega]; exact hn.2.2) (by omega) v0 v1 (fun op arg e1 e2 => by
        rcases hk with hk | hk
        · exact Or.inl ⟨hk, rfl, by rw [e1, hk], e2, v0, v1⟩
        · exact Or.inr (Or.inl ⟨hk, rfl, by rw [e1, hk], e2, v0, v10 hk⟩)))
      have := RN.next dl (by rw [e8]) a2
      rwa [show b + 1 - 1 = b by omega] at this
  refine eX4_readUnit hC ⟨⟨by omega, by omega⟩, fun x2 e2 => ?_⟩
  rw [g3] at e2
  rw [e2]
  refine ⟨fun q => ⟨fun q2 => ?_, fun q2 => ?_⟩, fun q => ?_⟩
  · have at1 : m.1 1 8 < t := by
      apply Decidable.byContradiction
      intro z
      have := (hp.end_ g9 g10).2 (by omega)
      omega
    refine unit 1 (K (m.1 1 8) - 307) (Or.inr rfl) (by omega) (by omega) at1 (fun n hn Q' hv => ?_) (fun _ => by omega)
    have as := asked hp hn.2.2.2 g9 g10
    have r := as.1.2 q2
    have v17 := as.2 q2.1 q2.2
    refine eX12_readUnit hR ⟨fun r2 => absurd r.1 r2, fun _ => ⟨fun _ => bX12_readUnit_24 hR ⟨⟨by decide, by decide⟩, fun _ => bX12_readUnit_43 hR ⟨⟨by decide, by decide⟩, fun r2 => absurd r2 (by decide), fun _ => ⟨fun r2 => absurd r2 (by decide), fun _ => ?_⟩⟩, fun r2 => absurd r2 (by decide)⟩, fun r2 => absurd r.2 r2⟩⟩
    rw [v17, show K (m.1 1 8) - 300 - 7 = K (m.1 1 8) - 307 by omega]
    exact hv
  · have r8 := RF_8 hs.1 1
    refine ⟨⟨by omega, by omega⟩, fun m8 e8 => ?_⟩
    rw [RF_e hs.1] at e8
    rw [e8]
    refine h _ 0 (Or.inl rfl) (hs.rf _ _) (fun r => absurd r (by decide)) (fun b hb n hn Q' h1 h0 => ?_)
    have as := asked hp hn.1.2.2.2 g9 g10
    have eN := hp.eN hn.1.2.2.2 g9 g10
    have last : jm_V l gR (d + 4) iX12_readUnit 24 [(0, .ref 0)] [jm_i 0] n Q' := by
      refine bX12_readUnit_24 hR ⟨⟨by decide, by decide⟩, fun r => absurd rfl r, fun _ => ⟨fun r => absurd (eN.1.1 r) q, fun _ m2 e2 => ?_⟩⟩
      rw [RR_e hn.1] at e2
      rw [e2]
      exact h0 rfl _ (EN_rf hn.2.1 _ _)
    exact eX12_readUnit hR ⟨fun _ => last, fun r => ⟨fun r2 => absurd (as.1.1 ⟨r, r2⟩) q2, fun _ => last⟩⟩
  · have at1 : m.1 1 8 < t := by
      apply Decidable.byContradiction
      intro z
      have := (hp.end_ g9 g10).2 (by omega)
      omega
    have nb := hp.nv g9 at1 q
    refine sX7_num (d := d + 2) hC hp hs.1 at1 q (jm_qiI ⟨by omega, by omega⟩ (unit 0 (nva B P S (m.1 1 8)) (Or.inl rfl) nb.1 nb.2 at1 (fun n hn Q' hv => ?_) (fun r => absurd r (by decide))))
    have as := asked hp hn.2.2.2 g9 g10
    have eN := hp.eN hn.2.2.2 g9 g10
    have last : jm_V l gR (d + 4) iX12_readUnit 24 [(0, .ref 0)] [jm_i 0] n Q' := by
      refine bX12_readUnit_24 hR ⟨⟨by decide, by decide⟩, fun r => absurd rfl r, fun _ => ⟨fun _ => bX12_readUnit_43 hR ⟨⟨by decide, by decide⟩, fun _ => ⟨fun _ => ?_, fun r => absurd rfl r⟩, fun r => absurd rfl r⟩, fun r => absurd (eN.1.2 q) r⟩⟩
      rw [eN.2 q]
      exact hv
    have k16 : ¬ n.1 0 16 = 2 := by have := eN.1.2 q; omega
    exact eX12_readUnit hR ⟨fun _ => last, fun r => absurd r k16⟩
end SU
