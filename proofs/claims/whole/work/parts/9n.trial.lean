section PT
variable {l : Launch} {gC gR : jm_G} {d e : Nat} {mu nu m n m0 n0 m' n' : jm_M} {v1 v2 v3 v4 v5 v6 : Int} {Q : Option Value → jm_M → Prop} {B B' K P S : Int → Int} {N t a W : Int} {st st' f g : Int → Int}
theorem pl_again (hC : jm_HC gC) (hR : jm_HR gR) (hp : PHS 2 B N K P S t) (hs : CS m0 B K P S t m) (ci : CPI m) (hk : K (m.1 1 8) = 305) (h : DH l gR d e m0 n0 B N K P S t W m Q) : jm_R l gC (d + 7) iX6_readAgain [.ref 56, .ref 1] m (jm_qi fun z m => (z = 0 ∨ z = 1) ∧ Q (some (jm_i z)) m) := by
  have tb := hp.T
  obtain ⟨g2, g3, g4, g5, g7, -, g9, g10⟩ := hs.1
  have at1 : m.1 1 8 < t := by
    apply Decidable.byContradiction
    intro z
    have := (hp.end_ g9 g10).2 (by omega)
    omega
  have cb := ci.b (by omega)
  have co := ci.1
  have tk := tok_b hp g9 at1
  have tw := tok_w hp g9 at1 (w := 5) (by decide) hk
  rw [show wE (wb 2 + 5) - wS (wb 2 + 5) = 5 by decide] at tw
  have ref : ∀ n, RN (DP l gR e P S W) n0 B N P S t m n → ∀ Q' : Option Value → jm_M → Prop, jm_R l gR (d + 7) iX12_readAgain [.ref 0] n (pQQ l gR d Q') → jm_V l gR (d + 8) iX12_readSteps 5 [(0, .ref 0)] [] n Q' := by
    intro n hn Q' hv
    have s := sees_ hp g9 g10 hn.1
    exact at57 hR s (Or.inr (Or.inr (Or.inr (Or.inl hk)))) (bX12_readSteps_57 hR ⟨fun r => absurd (s.1.1 r) (by rw [hk]; decide), fun _ => ⟨fun r => absurd (s.2.1.1 r) (by rw [hk]; decide), fun _ => ⟨fun _ => hv, fun r => absurd (s.2.2.2.1.2 hk) r⟩⟩⟩)
  refine eX6_readAgain hC ⟨fun o4 => ?_, fun o4 => ⟨by rw [RF_8 hs.1 3]; exact ⟨by omega, by omega⟩, fun m32 e32 => ?_⟩⟩
  case refine_2 =>
    rw [RF_e hs.1] at e32
    rw [e32]
    refine jm_qiI ⟨by decide, by decide⟩ ⟨Or.inl rfl, h _ 0 (Or.inl rfl) (hs.rf _ _) (fun r => absurd r (by decide)) (fun n hn Q' h1 h0 => ref n hn Q' ?_)⟩
    have do_ := hn.2.2.o
    refine eX12_readAgain hR ⟨fun r => by omega, fun _ m16 e16 => ?_⟩
    rw [RR_e hn.1] at e16
    rw [e16]
    exact pQQ1 (h0 rfl _ (EN_rf hn.2.1 _ _))
  have hs1 := hs.skip at1
  obtain ⟨m1, em1⟩ : ∃ m1, m1 = jm_wr m 1 8 (m.1 1 8 + 1) := ⟨_, rfl⟩
  rw [← em1] at hs1
  have e81 : m1.1 1 8 = m.1 1 8 + 1 := by rw [em1, jm_wrS]
  have o1 : ∀ c, c ≠ 1 → m1.1 c = m.1 c := fun c hc => by rw [em1]; exact sk_o hc
  have hp1 := hs1.1
  rw [e81] at hp1
  -- the reference opens it
  have r0 : ∀ n, RN (DP l gR e P S W) n0 B N P S t m n → ∀ Q' : Option Value → jm_M → Prop, (∀ n2, n2 = jm_wr n 0 28 (n.1 0 28 + 1) → PN B N P S t (m.1 1 8) n2 → jm_ag frx n0 n2 → jm_R l gR (d + 6) iX12_readTold [.ref 0, jm_i 27, jm_i 1, jm_i 9] n2 (jm_qi fun z5 m4 => (z5 = (-1) → pQQ l gR d Q' (some (jm_i (-1))) m4) ∧ (¬ z5 = (-1) → jm_R l gR (d + 6) iX12_readMark [.ref 0, jm_i 40] m4 (jm_qi fun z9 m8 => (¬ z9 = (-1) → jm_R l gR (d + 6) iX12_emitsStep [.ref 0, jm_i 3, jm_i z5, jm_i 0, jm_i 0] m8 (jm_qv fun m12 => pQQ l gR d Q' (some (jm_i 0)) m12)) ∧ (z9 = (-1) → pQQ l gR d Q' (some (jm_i (-1))) m8))))) → jm_V l gR (d + 8) iX12_readSteps 5 [(0, .ref 0)] [] n Q' := by
    intro n hn Q' hv
    have do_ := hn.2.2.o
    refine ref n hn Q' (eX12_readAgain hR ⟨fun _ => ⟨⟨by omega, by omega⟩, fun m2 e2 => hv m2 e2 ?_ ?_⟩, fun r => by omega⟩)
    · rw [e2]
      exact hn.1.wr (Or.inr ⟨rfl, by decide⟩)
    · rw [e2]
      exact hn.2.1.wr rfl
  refine sX7_skip (d := d + 5) hC hs.1 tb.2 at1 (jm_qvI ?_)
  rw [← em1]
  refine sX7_isNumber (d := d + 4) hC hp hp1 ⟨by decide, by decide⟩ ⟨by decide, by decide⟩ (fun q1 at2 lo hi => jm_qiI ⟨by decide, by decide⟩ ⟨fun _ => ?_, fun r => absurd r (by decide)⟩) (fun q1 at2 ng => jm_qiI ⟨by decide, by decide⟩ ⟨fun r => absurd rfl r, fun _ => ?_⟩) (fun q1 => jm_qiI ⟨by decide, by decide⟩ ⟨fun r => absurd rfl r, fun _ => ?_⟩)
  · have nb := hp.nv (a := m.1 1 8 + 1) (by omega) at2 q1
    have tk2 := tok_b hp (a := m.1 1 8 + 1) (by omega) at2
    obtain ⟨v, ev⟩ : ∃ v, v = nva B P S (m.1 1 8 + 1) := ⟨_, rfl⟩
    refine sX7_num (d := d + 5) hC hp hp1 at2 q1 (jm_qiI ⟨by omega, by omega⟩ ?_)
    rw [← ev] at lo hi nb ⊢
    have p7 : m1.1 56 7 = m.1 56 7 := by rw [o1 56 (by decide)]
    have p0 : m1.1 56 0 = m.1 56 0 := by rw [o1 56 (by decide)]
    rw [p7]
    refine ⟨⟨by omega, by omega⟩, fun m14 e14 => ?_⟩
    have f14 : m14.1 56 = m1.1 56 := by rw [e14]; funext y; exact jm_wrO (by decide)
    rw [f14, p7, p0]
    refine ⟨⟨by omega, by omega⟩, fun m17 e17 => ?_⟩
    have f17 : m17.1 56 7 = m.1 56 7 := by rw [e17, jm_wrO (by decide), f14, p7]
    rw [f17]
    refine ⟨⟨by omega, by omega⟩, fun m20 e20 => ?_⟩
    have cs20 : CS m0 B K P S t m20 := by
      rw [e20, e17, e14]
      exact ((hs1.wr (by decide)).wr (by decide)).wr (by decide)
    have e820 : m20.1 1 8 = m.1 1 8 + 1 := by rw [e20, jm_wrO (by decide), e17, jm_wrO (by decide), e14, jm_wrO (by decide), e81]
    have hp20 := cs20.1
    rw [e820] at hp20
    refine sX7_skip (d := d + 5) hC hp20 tb.2 at2 (jm_qvI ?_)
    have hs2 := cs20.skip (by rw [e820]; exact at2)
    rw [e820] at hs2
    obtain ⟨m2, em2⟩ : ∃ m2, m2 = jm_wr m20 1 8 (m.1 1 8 + 1 + 1) := ⟨_, rfl⟩
    rw [← em2] at hs2 ⊢
    have e82 : m2.1 1 8 = m.1 1 8 + 1 + 1 := by rw [em2, jm_wrS]
    have o2 : ∀ c, c ≠ 1 → m2.1 c = m20.1 c := fun c hc => by rw [em2]; exact sk_o hc
    have hp2 := hs2.1
    rw [e82] at hp2
    have a2t := hp2.2.2.2.2.2.2.2
    -- the reference behind the number
    have r1 : ∀ n, RN (DP l gR e P S W) n0 B N P S t m n → ∀ Q' : Option Value → jm_M → Prop, (∀ n3, n3.1 0 28 = n.1 0 28 + 1 → n3.1 0 38 = n.1 0 38 → n3.1 18 = n.1 18 → PN B N P S t (m.1 1 8 + 1 + 1) n3 → jm_ag frx n0 n3 → jm_R l gR (d + 6) iX12_readMark [.ref 0, jm_i 40] n3 (jm_qi fun z9 m8 => (¬ z9 = (-1) → jm_R l gR (d + 6) iX12_emitsStep [.ref 0, jm_i 3, jm_i v, jm_i 0, jm_i 0] m8 (jm_qv fun m12 => pQQ l gR d Q' (some (jm_i 0)) m12)) ∧ (z9 = (-1) → pQQ l gR d Q' (some (jm_i (-1))) m8))) → jm_V l gR (d + 8) iX12_readSteps 5 [(0, .ref 0)] [] n Q' := by
      intro n hn Q' hv
      refine r0 n hn Q' (fun n2 e2 pn2 an2 => sX12_told (d := d + 1) hR hp pn2 g9 g10 (w := 5) (by decide) rfl ⟨by decide, by decide⟩ ⟨by decide, by decide⟩ ⟨by decide, by decide⟩ (fun _ _ _ _ _ n3 a3 p3 => jm_qiI ⟨by omega, by omega⟩ ⟨fun r => by omega, fun _ => ?_⟩) (fun _ _ ng => absurd ⟨by omega, by omega⟩ ng) (fun _ nq => absurd q1 nq) (fun r => absurd hk r))
      rw [← ev]
      exact hv n3 (by rw [frd_27 a3 (by decide), e2, jm_wrS]) (by rw [frd_27 a3 (by decide), e2, jm_wrI (by decide)]) (by rw [frd_c a3 (by decide), e2]; funext y; exact jm_wrO (by decide)) p3 (an2.tr (frd_x a3))
    have s40 : ∀ n, PN B N P S t (m.1 1 8 + 1 + 1) n → ((n.1 0 16 = 4 ∧ n.1 0 17 = 40) ↔ K (m.1 1 8 + 1 + 1) = 40) := fun n hn => hp.eS hn.2.2.2 (by omega) a2t (x := 40) (by unfold isM; omega)
    refine sX7_take (d := d + 4) hC hp hp2 ⟨by decide, by decide⟩ (by decide) (fun q2 at3 => jm_qiI ⟨by decide, by decide⟩ ⟨Or.inr rfl, jm_qiI ⟨by decide, by decide⟩ ⟨Or.inr rfl, ?_⟩⟩) (fun q2 => jm_qiI ⟨by decide, by decide⟩ ⟨Or.inl rfl, jm_qiI ⟨by decide, by decide⟩ ⟨Or.inl rfl, ?_⟩⟩)
    · have hs3 := hs2.skip (by rw [e82]; exact at3)
      rw [e82] at hs3
      obtain ⟨m3, em3⟩ : ∃ m3, m3 = jm_wr m2 1 8 (m.1 1 8 + 1 + 1 + 1) := ⟨_, rfl⟩
      rw [← em3] at hs3 ⊢
      have e83 : m3.1 1 8 = m.1 1 8 + 1 + 1 + 1 := by rw [em3, jm_wrS]
      have o3 : ∀ c, c ≠ 1 → m3.1 c = m20.1 c := fun c hc => by rw [em3, sk_o hc, o2 c hc]
      have tk3 := tok_b hp (a := m.1 1 8 + 1 + 1) (by omega) at3
      have c0 : m3.1 56 0 = m.1 56 0 := by rw [o3 56 (by decide), e20, jm_wrI (by decide), e17, jm_wrO (by decide), f14, p0]
      have c7 : m3.1 56 7 = m.1 56 7 + 1 := by rw [o3 56 (by decide), e20, jm_wrS]
      have c61 : ∀ x, ¬ x = m.1 56 7 → m3.1 61 x = m.1 61 x := fun x hx => by rw [o3 61 (by decide), e20, jm_wrO (by decide), e17, jm_wrI hx, e14, jm_wrO (by decide), o1 61 (by decide)]
      have c62 : ∀ x, ¬ x = m.1 56 7 → m3.1 62 x = m.1 62 x := fun x hx => by rw [o3 62 (by decide), e20, jm_wrO (by decide), e17, jm_wrO (by decide), e14, jm_wrI hx, o1 62 (by decide)]
      have d61 : m3.1 61 (m.1 56 7) = m.1 56 0 := by rw [o3 61 (by decide), e20, jm_wrO (by decide), e17, jm_wrS]
      have d62 : m3.1 62 (m.1 56 7) = v := by rw [o3 62 (by decide), e20, jm_wrO (by decide), e17, jm_wrO (by decide), e14, jm_wrS]
      have cy : ∀ y, 57 ≤ y → y ≤ 60 → m3.1 y = m.1 y := fun y y1 y2 => by
        rw [o3 y (by omega), ← o1 y (by omega), e20, e17, e14]
        funext z
        rw [jm_wrO (by omega), jm_wrO (by omega), jm_wrO (by omega)]
      refine h m3 1 (Or.inr rfl) hs3.2 (fun _ => ⟨hs3, ci.open_ o4 lo hi c0 c7 c61 c62 d61 d62 (by omega), by omega⟩) (fun n hn Q' h1 h0 => r1 n hn Q' (fun n3 f28 f38 f18 p3 an3 => ?_))
      have do_ := hn.2.2.o
      have eN := hp.2.1
      refine eX12_readMark hR ⟨⟨by decide, by decide⟩, fun _ => ?_, fun w => absurd ((s40 n3 p3).2 q2) w⟩
      refine sX12_next (d := d + 2) hR hp p3 (by omega) at3 (fun n4 a4 p4 => jm_qvI (jm_qiI ⟨by decide, by decide⟩ ⟨fun _ => ?_, fun r => absurd r (by decide)⟩))
      have g38 : n4.1 0 38 = n.1 0 38 := by rw [frd_27 a4 (by decide), f38]
      refine sX12_emits (d := d + 5) (t := t) (N := N) (B := B) (P := P) (S := S) (n0 := n0) hR g38 do_.2.1 (by omega) ⟨by decide, by decide⟩ ⟨by omega, by omega⟩ ⟨by decide, by decide⟩ ⟨by decide, by decide⟩ (fun n5 q38 ql k0 k1 k2 k3 q28 qp qa => jm_qvI (pQQ0 ?_))
      rw [frd_c a4 (by decide), f18] at ql
      rw [frd_27 a4 (by decide), f28] at q28
      exact h1 rfl n5 ⟨by rw [e83]; exact qp _ p4, qa (an3.tr (frd_x a4)), DP.open_ hn.2.2 lo hi c0 c7 c61 c62 d61 d62 cy q38 q28 ql k0 k1 (by rw [e83]; omega)⟩
    · refine h _ 0 (Or.inl rfl) (hs2.rf _ _) (fun r => absurd r (by decide)) (fun n hn Q' h1 h0 => r1 n hn Q' (fun n3 f28 f38 f18 p3 an3 => ?_))
      refine eX12_readMark hR ⟨⟨by decide, by decide⟩, fun w => absurd ((s40 n3 p3).1 w) q2, fun _ m6 e6 => jm_qiI ⟨by decide, by decide⟩ ⟨fun r => absurd rfl r, fun _ => pQQ1 ?_⟩⟩
      rw [RR_e p3] at e6
      rw [e6]
      exact h0 rfl _ (EN_rf an3 _ _)
  · refine jm_qiI ⟨by decide, by decide⟩ ⟨Or.inl rfl, h _ 0 (Or.inl rfl) (hs1.rf _ _) (fun r => absurd r (by decide)) (fun n hn Q' h1 h0 => r0 n hn Q' (fun n2 e2 pn2 an2 => ?_))⟩
    exact sX12_told (d := d + 1) hR hp pn2 g9 g10 (w := 5) (by decide) rfl ⟨by decide, by decide⟩ ⟨by decide, by decide⟩ ⟨by decide, by decide⟩ (fun _ _ _ l1 l2 => absurd ⟨l1, l2⟩ ng) (fun _ _ _ n3 a3 => jm_qiI ⟨by decide, by decide⟩ ⟨fun _ => pQQ1 (h0 rfl _ (EN_rf (an2.tr (frd_x a3)) _ _)), fun r => absurd rfl r⟩) (fun _ nq => absurd q1 nq) (fun r => absurd hk r)
  · refine jm_qiI ⟨by decide, by decide⟩ ⟨Or.inl rfl, h _ 0 (Or.inl rfl) (hs1.rf _ _) (fun r => absurd r (by decide)) (fun n hn Q' h1 h0 => r0 n hn Q' (fun n2 e2 pn2 an2 => ?_))⟩
    exact sX12_told (d := d + 1) hR hp pn2 g9 g10 (w := 5) (by decide) rfl ⟨by decide, by decide⟩ ⟨by decide, by decide⟩ ⟨by decide, by decide⟩ (fun _ _ k1 => absurd k1 q1) (fun _ k1 => absurd k1 q1) (fun _ _ n3 a3 => jm_qiI ⟨by decide, by decide⟩ ⟨fun _ => pQQ1 (h0 rfl _ (EN_rf (an2.tr (frd_x a3)) _ _)), fun r => absurd rfl r⟩) (fun r => absurd hk r)
theorem pl_close (hC : jm_HC gC) (hR : jm_HR gR) (hp : PHS 2 B N K P S t) (hs : CS m0 B K P S t m) (ci : CPI m) (hk : K (m.1 1 8) = 41) (h : DH l gR d e m0 n0 B N K P S t W m Q) : jm_R l gC (d + 7) iX6_closeAgain [.ref 56, .ref 1] m Q := by
  have tb := hp.T
  obtain ⟨g2, g3, g4, g5, g7, -, g9, g10⟩ := hs.1
  have at1 : m.1 1 8 < t := by
    apply Decidable.byContradiction
    intro z
    have := (hp.end_ g9 g10).2 (by omega)
    omega
  have cb := ci.b (by omega)
  have co := ci.1
  have tk := tok_b hp g9 at1
  refine eX6_closeAgain hC ⟨fun o0 => ?_, fun o0 => ⟨by rw [RF_8 hs.1 1]; exact ⟨by omega, by omega⟩, fun m14 e14 => ?_⟩⟩
  case refine_2 =>
    rw [RF_e hs.1] at e14
    rw [e14]
    exact pl_else hR hp hs co.1 ⟨by omega, by omega, by omega, by omega, Or.inr o0⟩ (by omega) h
  have hs1 := hs.skip at1
  obtain ⟨m1, em1⟩ : ∃ m1, m1 = jm_wr m 1 8 (m.1 1 8 + 1) := ⟨_, rfl⟩
  rw [← em1] at hs1
  have e81 : m1.1 1 8 = m.1 1 8 + 1 := by rw [em1, jm_wrS]
  have o1 : ∀ c, c ≠ 1 → m1.1 c = m.1 c := fun c hc => by rw [em1]; exact sk_o hc
  refine sX7_skip (d := d + 5) hC hs.1 tb.2 at1 (jm_qvI ?_)
  rw [← em1]
  have p7 : m1.1 56 7 = m.1 56 7 := by rw [o1 56 (by decide)]
  rw [p7]
  refine ⟨⟨by omega, by omega⟩, fun m6 e6 => ?_⟩
  have cs6 : CS m0 B K P S t m6 := by rw [e6]; exact hs1.wr (by decide)
  have q7 : m6.1 56 7 = m.1 56 7 - 1 := by rw [e6, jm_wrS]
  have q0 : m6.1 56 0 = m.1 56 0 := by rw [e6, jm_wrI (by decide), o1 56 (by decide)]
  have qo : ∀ y, y ≠ 56 → y ≠ 1 → m6.1 y = m.1 y := fun y h1 h2 => by
    rw [e6, ← o1 y h2]
    funext z
    exact jm_wrO h1
  have e86 : m6.1 1 8 = m.1 1 8 + 1 := by rw [e6, jm_wrO (by decide), e81]
  rw [q7, q0, qo 61 (by decide) (by decide), qo 62 (by decide) (by decide)]
  refine ⟨⟨by omega, by omega⟩, fun x9 e9 x10 e10 x11 e11 x12 e12 => ?_⟩
  rw [e12]
  have bb := (ci.close_ (u := x11) (m' := jm_wr (jm_wr (jm_wr m 56 0 x11) 56 7 (m.1 56 7 - 1)) 1 8 (m.1 1 8 + 1)) (by omega) e9 (by rw [e11, e10]) (by rw [jm_wrO (by decide), jm_wrI (by decide), jm_wrS]) (by rw [jm_wrO (by decide), jm_wrS]) (by funext y; rw [jm_wrO (by decide), jm_wrO (by decide), jm_wrO (by decide)]) (by funext y; rw [jm_wrO (by decide), jm_wrO (by decide), jm_wrO (by decide)]) (by rw [jm_wrS]; omega)).2
  refine sX6_close (d := d + 4) (m0 := m0) (B := B) (K := K) (P := P) (S := S) (t := t) (m := m6) hC (s := x10) (u := x11) (h0 := m.1 56 0) (by omega) (by omega) bb.2.2.1 (by omega) (fun lt => ?_) q0 (fun m' c0 c7 cy cl cr ccs => ?_) (x11 - m.1 56 0).toNat (m.1 56 0) m6 (Nat.le_refl _) (Int.le_refl _) (by omega) (Or.inr (Or.inl rfl)) rfl (fun _ _ => rfl) (fun _ _ => ⟨rfl, rfl, rfl, rfl⟩) (fun x x0 x1 => by omega) (fun c => c) (Or.inr (Or.inr rfl))
  · apply Decidable.byContradiction
    intro z
    have z0 : x10 = 0 := by omega
    rw [z0, Int.zero_mul] at e11
    omega
  · have cs' := ccs cs6
    have e8' : m'.1 1 8 = m.1 1 8 + 1 := by rw [cy 1 (by omega), e86]
    have c61 : m'.1 61 = m.1 61 := by rw [cy 61 (by omega), qo 61 (by decide) (by decide)]
    have c62 : m'.1 62 = m.1 62 := by rw [cy 62 (by omega), qo 62 (by decide) (by decide)]
    rw [q7] at c7
    rw [qo 57 (by decide) (by decide), qo 58 (by decide) (by decide), qo 59 (by decide) (by decide), qo 60 (by decide) (by decide)] at cl
    refine h m' 1 (Or.inr rfl) cs'.2 (fun _ => ⟨cs', (ci.close_ (by omega) e9 (by rw [e11, e10]) c0 c7 c61 c62 (by omega)).1, by omega⟩) (fun n hn Q' h1 h0 => ?_)
    have s := sees_ hp g9 g10 hn.1
    have do_ := hn.2.2.o
    have eN := hp.2.1
    refine at57 hR s (Or.inr (Or.inr (Or.inr (Or.inr ⟨hk, by omega⟩)))) (bX12_readSteps_57 hR ⟨fun r => absurd (s.1.1 r) (by rw [hk]; decide), fun _ => ⟨fun r => absurd (s.2.1.1 r) (by rw [hk]; decide), fun _ => ⟨fun r => absurd (s.2.2.2.1.1 r) (by rw [hk]; decide), fun _ => eX12_readOther hR ⟨fun r => absurd (s.2.2.1.1 r) (by rw [hk]; decide), fun _ => ⟨⟨by omega, by omega⟩, fun n2 e2 => ?_⟩⟩⟩⟩⟩)
    have f38 : n2.1 0 38 = n.1 0 38 := by rw [e2, jm_wrI (by decide)]
    have f18 : n2.1 18 = n.1 18 := by rw [e2]; funext y; exact jm_wrO (by decide)
    have f28 : n2.1 0 28 = n.1 0 28 - 1 := by rw [e2, jm_wrS]
    have pn2 : PN B N P S t (m.1 1 8) n2 := by rw [e2]; exact hn.1.wr (Or.inr ⟨rfl, by decide⟩)
    have an2 : jm_ag frx n0 n2 := by rw [e2]; exact hn.2.1.wr rfl
    refine bX12_readOther_31 hR (sX12_emits (d := d + 5) (t := t) (N := N) (B := B) (P := P) (S := S) (n0 := n0) hR f38 do_.2.1 (by omega) ⟨by decide, by decide⟩ ⟨by decide, by decide⟩ ⟨by decide, by decide⟩ ⟨by decide, by decide⟩ (fun n1 q38 ql k0 k1 k2 k3 q28 qp qa => jm_qvI ?_))
    rw [f18] at ql
    rw [f28] at q28
    refine sX12_next (d := d + 3) hR hp (qp _ pn2) g9 at1 (fun n3 a3 p3 => jm_qvI (jm_qiI ⟨by decide, by decide⟩ ⟨fun _ => ?_, fun r => absurd r (by decide)⟩))
    refine h1 rfl n3 ⟨by rw [e8']; exact p3, (qa an2).tr (frd_x a3), DP.frd (DP.close_ hR hn.2.2 (by omega) co.2 (s0 := x10) (u := x11) (tm := m.1 62 (m.1 56 7 - 1)) (by omega) rfl (by rw [e11]; omega) c0 c7 (fun y hy => ?_) cl cr q38 q28 ql k0 (by rw [e8']; omega)) a3⟩
    rcases hy with rfl | rfl
    · exact c61
    · exact c62
theorem pl_deed (hC : jm_HC gC) (hR : jm_HR gR) (hp : PHS 2 B N K P S t) (hW : n0.1 0 4 = W) (W0 : 0 ≤ W) (W8 : W ≤ 8) (hs : CS m0 B K P S t m) (ci : CPI m) (ne : ¬ K (m.1 1 8) = 257) (h : DH l gR d e m0 n0 B N K P S t W m Q) : jm_R l gC (d + 8) iX6_readDeed [.ref 56, .ref 1, jm_i W] m Q := by
  have tb := hp.T
  obtain ⟨g2, g3, g4, g5, g7, -, g9, g10⟩ := hs.1
  have hq : DH l gR d e m0 n0 B N K P S t W m (jm_qi fun z m => (z = 0 ∨ z = 1) ∧ Q (some (jm_i z)) m) := fun m' z z01 ag c ct => jm_qiI (by rcases z01 with e | e <;> rw [e] <;> exact ⟨by decide, by decide⟩) ⟨z01, h m' z z01 ag c ct⟩
  refine eX6_readDeed hC ⟨⟨by omega, by omega⟩, ?_⟩
  rw [g3]
  refine ⟨fun q => pl_close hC hR hp hs ci q hq, fun q => pl_call hC hR hp hW W0 W8 hs ci q hq, fun q => pl_cross hC hR hp hW W0 W8 hs ci q hq, fun q => pl_rest hC hR hp hs ci q h, fun q => pl_again hC hR hp hs ci q h, fun q => ⟨by rw [RF_8 hs.1 1]; exact ⟨by omega, by omega⟩, fun m31 e31 => ?_⟩⟩
  rw [RF_e hs.1] at e31
  rw [e31]
  exact pl_else hR hp hs ci.1.1 ⟨q.2.1, q.2.2.1, q.2.2.2.1, q.2.2.2.2, Or.inl q.1⟩ ne h
end PT
