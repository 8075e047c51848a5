section PD
variable {l : Launch} {gC gR : jm_G} {d : Nat} {mu nu m n m0 n0 : jm_M} {v1 v2 v3 v4 v5 v6 : Int} {Q : Option Value → jm_M → Prop} {B B' K P S : Int → Int} {N t a : Int} {k : Nat}
def CLE (t : Int) (m m' : jm_M) : Prop := m.1 49 1 ≤ m'.1 49 1 ∧ m'.1 49 1 + (t - m'.1 1 8) ≤ m.1 49 1 + (t - m.1 1 8) ∧ (∀ i, i < m.1 49 1 → m'.1 50 i = m.1 50 i) ∧ m'.1 49 0 = m.1 49 0 ∧ (∀ c, 51 ≤ c → c ≤ 54 → m'.1 c = m.1 c) ∧ m.1 1 8 ≤ m'.1 1 8
theorem CLR.le (h : CLR t m mu) : CLE t m mu := ⟨h.1, h.2.1, h.2.2.1, h.2.2.2.1, h.2.2.2.2.1, by have := h.2.2.2.2.2; omega⟩
theorem CLE.rf : CLE t m m := ⟨Int.le_refl _, Int.le_refl _, fun _ _ => rfl, rfl, fun _ _ _ => rfl, Int.le_refl _⟩
theorem CLE.tr {m1 m2 m3 : jm_M} (h : CLE t m1 m2) (k : CLE t m2 m3) : CLE t m1 m3 := by
  obtain ⟨h1, h2, h3, h4, h5, h6⟩ := h
  obtain ⟨k1, k2, k3, k4, k5, k6⟩ := k
  exact ⟨by omega, by omega, fun i hi => by rw [k3 i (by omega), h3 i hi], by rw [k4, h4], fun c a b => by rw [k5 c a b, h5 c a b], by omega⟩
theorem CLR.trE {m1 m2 m3 : jm_M} (h : CLR t m1 m2) (k : CLE t m2 m3) : CLR t m1 m3 := by
  have e := h.le.tr k
  exact ⟨e.1, e.2.1, e.2.2.1, e.2.2.2.1, e.2.2.2.2.1, by have := h.2.2.2.2.2; have := k.2.2.2.2.2; omega⟩
/-- the class takes a token: one may then be written -/
theorem sk_o {x : Int} {c : Nat} (hc : c ≠ 1) : (jm_wr m 1 8 x).1 c = m.1 c := by funext y; rw [jm_wrO hc]
theorem SG.cl {m1 m2 : jm_M} (k : CLE t m1 m2) {a : Int} {s0 s1 : List Bool} (h : SG (m1.1 50) a (m1.1 49 1) s0 s1) : SG (m2.1 50) a (m1.1 49 1) s0 s1 := h.cg (fun i _ i1 => k.2.2.1 i i1)
def LCV (l : Launch) (gR : jm_G) (D : Nat) (n0 : jm_M) (B : Int → Int) (N : Int) (P S : Int → Int) (t : Int) (iR : jm_I) (pc : Nat) (m m' : jm_M) (z : Int) : Prop := ∀ b, b ≤ 400 → ∀ n, RN (DL t b) n0 B N P S t m n → ∀ Q' : Option Value → jm_M → Prop, (z = 1 → ∀ n', RN (DL t b) n0 B N P S t m' n' → jm_ag fsm n n' → Q' (some (jm_i 0)) n') → (z = 0 → ∀ n', EN n0 m' n' → Q' (some (jm_i (-1))) n') → jm_V l gR D iR pc [(0, .ref 0)] [] n Q'
/-- the reference reads a number as a unit -/
theorem ref_unitN (hR : jm_HR gR) (hp : PHS 1 B N K P S t) (h : PN B N P S t a n) (a0 : 0 ≤ a) (a1 : a < t) (q : K a = 256) (c0 : 0 ≤ n.1 0 27) (c1 : n.1 0 27 < 400) (hQ : ∀ n2, jm_ag frd (EM n 0 (nva B P S a)) n2 → PN B N P S t (a + 1) n2 → Q (some (jm_i 0)) n2) : jm_R l gR (d + 4) iX12_readUnit [.ref 0] n Q := by
  have eN := hp.eN h.2.2.2 a0 (by omega)
  have nb := hp.nv a0 a1 q
  have k16 : ¬ n.1 0 16 = 2 := by have := eN.1.2 q; omega
  refine eX12_readUnit hR ⟨fun _ => bX12_readUnit_24 hR ⟨⟨by decide, by decide⟩, fun r => absurd rfl r, fun _ => ⟨fun _ => bX12_readUnit_43 hR ⟨⟨by decide, by decide⟩, fun _ => ⟨fun _ => ?_, fun r => absurd rfl r⟩, fun r => absurd rfl r⟩, fun r => absurd (eN.1.2 q) r⟩⟩, fun r => absurd r k16⟩
  rw [eN.2 q]
  refine bX12_readUnit_71 hR ⟨⟨by omega, by omega⟩, ⟨by decide, by decide⟩, by rw [w27]; exact ⟨by omega, by omega⟩, ⟨by omega, by omega⟩, by rw [w27']; exact ⟨by omega, by omega⟩, fun m6 e6 => ?_⟩
  rw [w27', w27] at e6
  have e6 : m6 = EM n 0 (nva B P S a) := e6
  rw [e6]
  exact sX12_next (d := d) hR hp (EM_pn h) a0 a1 (fun n2 a2 p2 => jm_qvI (hQ n2 a2 p2))
theorem d_prodl (hC : jm_HC gC) (hR : jm_HR gR) (hp : PHS 1 B N K P S t) (j : Nat) : ∀ (i : Nat) (m : jm_M) (Q : Option Value → jm_M → Prop), (t - m.1 1 8).toNat ≤ j → (i : Int) + (t - m.1 1 8) ≤ 399 → CS m0 B K P S t m → 0 ≤ m.1 49 1 → m.1 49 1 + (t - m.1 1 8) ≤ 400 → (∀ m' z, (z = 0 ∨ z = 1) → jm_ag (fcz z) m0 m' → (z = 1 → CS m0 B K P S t m' ∧ CLE t m m' ∧ ∀ s0 : List Bool, s0.length ≤ 38 → SG (m'.1 50) (m.1 49 1) (m'.1 49 1) (false :: s0) (false :: s0)) → LCV l gR (d + 5) n0 B N P S t iX12_readProduct 10 m m' z → Q (some (jm_i z)) m') → jm_V l gC (d + 5) iX4_readProduct 11 [(0, .ref 63), (1, jm_i i)] [] m Q := by
  have tb := hp.T
  induction j with
  | zero =>
    intro i m Q hj hi hs o0 o1 h
    obtain ⟨g2, g3, g4, g5, g7, -, g9, g10⟩ := hs.1
    have kt : K (m.1 1 8) = 257 := (hp.end_ g9 g10).2 (by omega)
    refine bX4_readProduct_11 hC ⟨⟨by omega, by omega⟩, fun r => by omega, fun _ => ⟨⟨by omega, by omega⟩, fun x3 e3 => ?_⟩⟩
    rw [g3, kt] at e3
    subst e3
    refine ⟨fun r => absurd r (by decide), fun _ => ⟨fun r => absurd r (by decide), fun _ => h m 1 (Or.inr rfl) hs.2 (fun _ => ⟨hs, CLE.rf, fun s0 _ => SG.rf _ _ _⟩) (fun b hb n hn Q' h1 h0 => ?_)⟩⟩
    have s1 := hp.eS hn.1.2.2.2 g9 g10 (x := 42) (by unfold isM; omega)
    have s2 := hp.eS hn.1.2.2.2 g9 g10 (x := 47) (by unfold isM; omega)
    rw [kt] at s1 s2
    exact bX12_readProduct_10 hR ⟨fun r => absurd (s1.1 r) (by decide), fun _ => ⟨fun r => absurd (s2.1 r) (by decide), fun _ => h1 rfl n hn jm_ag.rf⟩⟩
  | succ j ih =>
    intro i m Q hj hi hs o0 o1 h
    obtain ⟨g2, g3, g4, g5, g7, -, g9, g10⟩ := hs.1
    have kb : jm_rg (K (m.1 1 8)) := by
      by_cases q : m.1 1 8 = t
      · rw [(hp.end_ g9 g10).2 q]; exact ⟨by decide, by decide⟩
      · have := (hp.kb g9 (show m.1 1 8 < t by omega)).1
        exact ⟨by omega, by omega⟩
    have s1 : ∀ n, PN B N P S t (m.1 1 8) n → ((n.1 0 16 = 4 ∧ n.1 0 17 = 42) ↔ K (m.1 1 8) = 42) := fun n hn => hp.eS hn.2.2.2 g9 g10 (x := 42) (by unfold isM; omega)
    have s2 : ∀ n, PN B N P S t (m.1 1 8) n → ((n.1 0 16 = 4 ∧ n.1 0 17 = 47) ↔ K (m.1 1 8) = 47) := fun n hn => hp.eS hn.2.2.2 g9 g10 (x := 47) (by unfold isM; omega)
    have at40 : (K (m.1 1 8) = 42 ∨ K (m.1 1 8) = 47) → jm_V l gC (d + 5) iX4_readProduct 40 [(0, .ref 63), (1, jm_i i), (2, jm_i (K (m.1 1 8)))] [] m Q := by
      intro hk
      have at1 : m.1 1 8 < t := by
        apply Decidable.byContradiction
        intro z
        have := (hp.end_ g9 g10).2 (by omega)
        omega
      have ent : ∀ n, PN B N P S t (m.1 1 8) n → ∀ Q' : Option Value → jm_M → Prop, jm_V l gR (d + 5) iX12_readProduct 28 [(0, .ref 0)] [] n Q' → jm_V l gR (d + 5) iX12_readProduct 10 [(0, .ref 0)] [] n Q' := fun n hn Q' hv => bX12_readProduct_10 hR ⟨fun _ => hv, fun r => ⟨fun _ => hv, fun r2 => by
        rcases hk with hk | hk
        · exact absurd ((s1 n hn).2 hk) r
        · exact absurd ((s2 n hn).2 hk) r2⟩⟩
      have hs2 := hs.skip at1
      obtain ⟨m2, em2⟩ : ∃ m2, m2 = jm_wr m 1 8 (m.1 1 8 + 1) := ⟨_, rfl⟩
      rw [← em2] at hs2
      have e8 : m2.1 1 8 = m.1 1 8 + 1 := by rw [em2, jm_wrS]
      have o2 : ∀ c, c ≠ 1 → m2.1 c = m.1 c := fun c hc => by rw [em2]; exact sk_o hc
      have cle2 : CLE t m m2 := ⟨by rw [o2 49 (by decide)]; omega, by rw [o2 49 (by decide), e8]; omega, fun i _ => by rw [o2 50 (by decide)], by rw [o2 49 (by decide)], fun c c1 c2 => o2 c (by omega), by omega⟩
      refine bX4_readProduct_40 hC (sX7_skip (d := d + 3) hC hs.1 tb.2 at1 (jm_qvI ⟨kb, fun k42 => ?_, fun k42 => ?_⟩))
      · -- a part
        rw [← em2]
        have hk47 : K (m.1 1 8) = 47 := by omega
        have hpc2 := hs2.1
        rw [e8] at hpc2
        have a2t := hpc2.2.2.2.2.2.2.2
        have till : ∀ b, ∀ n, RN (DL t b) n0 B N P S t m n → ∀ Q' : Option Value → jm_M → Prop, (∀ n2, PN B N P S t (m.1 1 8 + 1) n2 → jm_ag frx n0 n2 → jm_ag frd n n2 → (((n2.1 0 16) = 3 → jm_V l gR (d + 5) iX12_readProduct 57 [(0, .ref 0), (1, jm_i 0)] [] n2 Q') ∧ (¬ (n2.1 0 16) = 3 → ∀ m9, m9 = (jm_wr (jm_wr n2 0 31 1) 0 32 ((jm_wr n2 0 31 1).1 0 15)) → Q' (some (jm_i (-1))) m9))) → jm_V l gR (d + 5) iX12_readProduct 10 [(0, .ref 0)] [] n Q' := fun b n hn Q' go => ent n hn.1 Q' (bX12_readProduct_28 hR ⟨fun r => by have := (s1 n hn.1).1 r; omega, fun _ => sX12_next (d := d + 1) hR hp hn.1 g9 at1 (fun n2 a2 p2 => jm_qvI (go n2 p2 (hn.2.1.tr (frd_x a2)) a2))⟩)
        refine sX7_isNumber (d := d + 2) hC hp hpc2 ⟨by decide, by decide⟩ ⟨by decide, by decide⟩ (fun q at2 lo hi => jm_qiI ⟨by decide, by decide⟩ ⟨fun _ => ?_, fun r => absurd r (by decide)⟩) (fun q at2 ng => jm_qiI ⟨by decide, by decide⟩ ⟨fun r => absurd rfl r, fun _ => ?_⟩) (fun q => jm_qiI ⟨by decide, by decide⟩ ⟨fun r => absurd rfl r, fun _ => ?_⟩)
        · -- a number that is not 0
          obtain ⟨v, ev⟩ : ∃ v, v = nva B P S (m.1 1 8 + 1) := ⟨_, rfl⟩
          rw [← ev] at lo hi
          refine bX4_readProduct_79 hC ⟨kb, fun _ => sX7_num (d := d + 3) hC hp hpc2 at2 q (jm_qiI (by rw [← ev]; exact ⟨by omega, by omega⟩) ?_), fun r => absurd r k42⟩
          rw [← ev]
          refine sX3_addOrder hC (by decide) (by decide) (by omega) hi (by rw [o2 49 (by decide)]; exact o0) (by rw [o2 49 (by decide)]; omega) (jm_qiI ⟨by decide, by decide⟩ ?_)
          have ha := AO_cs (kk := 2) (v := v) hs2
          have f8 : (AO m2 2 v).1 1 8 = m.1 1 8 + 1 := by rw [AO_c (by decide)]; exact e8
          have hap := ha.1
          rw [f8] at hap
          refine sX7_skip (d := d + 3) hC hap tb.2 at2 (jm_qvI ?_)
          have hsk := ha.skip (by rw [f8]; exact at2)
          rw [f8] at hsk
          obtain ⟨m4, em4⟩ : ∃ m4, m4 = jm_wr (AO m2 2 v) 1 8 (m.1 1 8 + 1 + 1) := ⟨_, rfl⟩
          rw [← em4] at hsk ⊢
          have h8 : m4.1 1 8 = m.1 1 8 + 1 + 1 := by rw [em4, jm_wrS]
          have o4 : ∀ c, c ≠ 1 → m4.1 c = (AO m2 2 v).1 c := fun c hc => by rw [em4]; exact sk_o hc
          have O4 : m4.1 49 1 = m.1 49 1 + 1 := by rw [o4 49 (by decide), AO_o, o2 49 (by decide)]
          have cle4 : CLE t m m4 := ⟨by omega, by omega, fun i hi => by rw [o4 50 (by decide), AO_50, o2 49 (by decide), if_neg (by omega), o2 50 (by decide)], by rw [o4 49 (by decide), AO_u ⟨by decide, by decide⟩, o2 49 (by decide)], fun c c1 c2 => by rw [o4 c (by omega), AO_c (by omega), o2 c (by omega)], by omega⟩
          have nx := ih (i + 1) m4 Q (by omega) (by omega) hsk (by omega) (by omega) (fun m' z z01 ag' c1 ct => h m' z z01 ag' (fun z1 => ?_) (fun b hb n hn Q' h1 h0 => till b n hn Q' (fun n2 p2 a2 r2 => ?_)))
          · rw [show ((i + 1 : Nat) : Int) = (i : Int) + 1 by omega] at nx
            exact nx
          · obtain ⟨cs', ce', sg'⟩ := c1 z1
            refine ⟨cs', cle4.tr ce', fun s0 hs0 => SG.tr (s1 := false :: s0) ?_ (by have := sg' s0 hs0; rw [O4] at this; exact this)⟩
            have one : SG (m4.1 50) (m.1 49 1) (m4.1 49 1) (false :: s0) (false :: s0) := by
              rw [o4 50 (by decide), O4]
              have := AO_sg (m := m2) (kk := 2) (v := v) (s0 := false :: s0) (s1 := false :: s0) (by omega) hi (Or.inr (Or.inl ⟨rfl, s0, rfl, rfl⟩)) (by show s0.length + 1 ≤ 40; omega)
              rw [o2 49 (by decide)] at this
              exact this
            have := SG.cl ce' one
            rw [O4] at this
            exact this
          · -- the reference
            have dl := hn.2.2
            have cb := dl.1
            have eN := hp.eN p2.2.2.2 (by omega) (by omega)
            have c27 : n2.1 0 27 = n.1 0 27 := frd_27 r2 (by decide)
            have v17 : n2.1 0 17 = v := by rw [eN.2 q, ← ev]
            refine ⟨fun _ => bX12_readProduct_57 hR ⟨⟨by decide, by decide⟩, fun r => absurd rfl r, fun _ => ⟨fun _ => ?_, fun r => by omega⟩⟩, fun r => absurd (eN.1.2 q) r⟩
            refine bX12_readProduct_74 hR (ref_unitN (d := d) hR hp p2 (by omega) at2 q (by omega) (by omega) (fun n3 a3 p3 => jm_qiI ⟨by decide, by decide⟩ ⟨fun _ => ⟨⟨by decide, by decide⟩, fun _ => ?_, fun r => absurd rfl r⟩, fun r => absurd r (by decide)⟩))
            rw [← ev] at a3
            have d27 : n3.1 0 27 = n.1 0 27 + 1 := by rw [frd_27 a3 (by decide), EM_27, c27]
            refine ⟨⟨by omega, by omega⟩, by rw [w27]; exact ⟨by omega, by omega⟩, by rw [w27']; exact ⟨by omega, by omega⟩, fun m9 e9 => ?_⟩
            rw [w27', w27] at e9
            have e9 : m9 = EM n3 5 0 := e9
            rw [e9]
            have n14 : ∀ x, (EM n3 5 0).1 14 x = if x = 800 + (n.1 0 27 + 1) then 5 else if x = 800 + n.1 0 27 then 0 else n.1 14 x := fun x => by
              rw [EM_14, d27, frd_c a3 (by decide), EM_14, c27, frd_c r2 (by decide)]
            have n15 : ∀ x, (EM n3 5 0).1 15 x = if x = 800 + (n.1 0 27 + 1) then 0 else if x = 800 + n.1 0 27 then v else n.1 15 x := fun x => by
              rw [EM_15, d27, frd_c a3 (by decide), EM_15, c27, frd_c r2 (by decide)]
            refine ct b hb (EM n3 5 0) ⟨by rw [h8]; exact EM_pn p3, EM_fr ((EM_fr a2 (by omega)).tr (frd_x a3)) (by omega), ?_⟩ Q' (fun z1 n' hn' f' => h1 z1 n' hn' (((frd_s r2).tr (EM_s.tr (frd_s a3))).tr (EM_s.tr f'))) h0
            have base : DL t b m2 n := dl.cg (fun c c1 c2 => o2 c (by omega)) (fun c _ _ => rfl) rfl (by rw [e8]; omega)
            have ap : DL t (b + 1) (AO m2 2 v) (EM n3 5 0) := base.app (q := 2) (by decide) (by omega) hi (Or.inr rfl) (by rw [EM_27, d27]; omega) (fun x hx => by rw [n14, if_neg (by omega), if_neg (by omega)]) (fun x hx => by rw [n15, if_neg (by omega), if_neg (by omega)]) (Or.inr (Or.inr (Or.inl ⟨rfl, rfl, by dsimp only; rw [n14, if_neg (by omega), if_pos rfl], by dsimp only; rw [n15, if_neg (by omega), if_pos rfl], lo, hi, by dsimp only; rw [n14, if_pos rfl]⟩))) (fun c hc => by
              funext y
              rw [EM_u (by omega), frd_c a3 (by omega), EM_u (by omega), frd_c r2 (by omega)]) (by rw [EM_27, d27, e8]; omega)
            exact ap.cg (fun c c1 c2 => o4 c (by omega)) (fun c _ _ => rfl) rfl (by rw [EM_27, d27, h8]; omega)
        · refine h _ 0 (Or.inl rfl) (hs2.rf _ _) (fun r => absurd r (by decide)) (fun b hb n hn Q' h1 h0 => till b n hn Q' (fun n2 p2 a2 r2 => ?_))
          have eN := hp.eN p2.2.2.2 (by omega) (by omega)
          have nb := hp.nv (a := m.1 1 8 + 1) (by omega) at2 q
          have v17 := eN.2 q
          refine ⟨fun _ => bX12_readProduct_57 hR ⟨⟨by decide, by decide⟩, fun r => absurd rfl r, fun _ => ⟨fun r => by omega, fun _ m2' e2 => ?_⟩⟩, fun r => absurd (eN.1.2 q) r⟩
          rw [RR_e p2] at e2
          rw [e2]
          exact h0 rfl _ (EN_rf a2 _ _)
        · refine h _ 0 (Or.inl rfl) (hs2.rf _ _) (fun r => absurd r (by decide)) (fun b hb n hn Q' h1 h0 => till b n hn Q' (fun n2 p2 a2 r2 => ?_))
          have eN := hp.eN p2.2.2.2 (by omega) (by omega)
          refine ⟨fun r => absurd (eN.1.1 r) q, fun _ m9 e9 => ?_⟩
          rw [RR_e p2] at e9
          rw [e9]
          exact h0 rfl _ (EN_rf a2 _ _)
      · -- times
        rw [← em2]
        have O2 : m2.1 49 1 = m.1 49 1 := by rw [o2 49 (by decide)]
        refine d_unit (n0 := n0) (d := d) hC hR hp hs2 (by omega) (by omega) (fun m3 z z01 ag3 c3 ct3 => jm_qiI (by rcases z01 with e | e <;> rw [e] <;> exact ⟨by decide, by decide⟩) ⟨fun r => ?_, fun r => ?_⟩)
        · have z1 : z = 1 := by omega
          obtain ⟨cs3, cl3, sg3⟩ := c3 z1
          have cle3 := cl3.le
          have l3 := cl3.2.1
          have a3 := cl3.2.2.2.2.2
          refine bX4_readProduct_79 hC ⟨kb, fun r => absurd k42 r, fun _ => sX3_addOrder hC (by decide) (by decide) (by decide) (by decide) (by have := cl3.1; omega) (by have := cs3.1.2.2.2.2.2.2.2; omega) (jm_qiI ⟨by decide, by decide⟩ ?_)⟩
          have hcs := AO_cs (kk := 4) (v := 0) cs3
          obtain ⟨m4, em4⟩ : ∃ m4, m4 = AO m3 4 0 := ⟨_, rfl⟩
          rw [← em4] at hcs ⊢
          have h8 : m4.1 1 8 = m3.1 1 8 := by rw [em4, AO_c (by decide)]
          have O4 : m4.1 49 1 = m3.1 49 1 + 1 := by rw [em4, AO_o]
          have t3 := cs3.1.2.2.2.2.2.2.2
          have cle4 : CLE t m m4 := by
            have c := cle2.tr cle3
            exact ⟨by have := c.1; omega, by omega, fun i hi => by rw [em4, AO_50, if_neg (by have := c.1; omega)]; exact c.2.2.1 i hi, by rw [em4, AO_u ⟨by decide, by decide⟩]; exact c.2.2.2.1, fun x c1 c2 => by rw [em4, AO_c (by omega)]; exact c.2.2.2.2.1 x c1 c2, by omega⟩
          have nx := ih (i + 1) m4 Q (by omega) (by omega) hcs (by have := cl3.1; omega) (by omega) (fun m' z' z01' ag' c1 ct => h m' z' z01' ag' (fun z1' => ?_) (fun b hb n hn Q' h1 h0 => ?_))
          · rw [show ((i + 1 : Nat) : Int) = (i : Int) + 1 by omega] at nx
            exact nx
          · obtain ⟨cs', ce', sg'⟩ := c1 z1'
            refine ⟨cs', cle4.tr ce', fun s0 hs0 => ?_⟩
            have u := sg3 (false :: s0) (by show s0.length + 1 ≤ 40; omega)
            rw [O2] at u
            have u4 : SG (m4.1 50) (m.1 49 1) (m3.1 49 1) (false :: s0) (false :: false :: s0) := u.cg (fun i i0 i1 => by rw [em4, AO_50, if_neg (by omega)])
            have w4 : SG (m4.1 50) (m3.1 49 1) (m4.1 49 1) (false :: false :: s0) (false :: s0) := by
              rw [O4, em4]
              exact AO_sg (by decide) (by decide) (Or.inr (Or.inr (Or.inr (Or.inl ⟨Or.inl rfl, s0, rfl, rfl⟩)))) (by show s0.length + 1 + 1 ≤ 40; omega)
            exact (SG.cl ce' (u4.tr w4)).tr (sg' s0 hs0)
          · -- the reference
            refine ent n hn.1 Q' (bX12_readProduct_28 hR ⟨fun _ => sX12_next (d := d + 1) hR hp hn.1 g9 at1 (fun n2 a2 p2 => jm_qvI ?_), fun r => absurd ((s1 n hn.1).2 k42) r⟩)
            refine bX12_readProduct_57 hR ⟨⟨by decide, by decide⟩, fun _ => ?_, fun r => absurd r (by decide)⟩
            refine bX12_readProduct_74 hR (ct3 (b - 1) (by omega) n2 ⟨by rw [e8]; exact p2, hn.2.1.tr (frd_x a2), RN.next hn.2.2 em2 a2⟩ _ (fun _ n3 hn3 f3 => jm_qiI ⟨by decide, by decide⟩ ⟨fun _ => ⟨⟨by decide, by decide⟩, fun r => absurd r (by decide), fun _ => ?_⟩, fun r => absurd r (by decide)⟩) (fun r => absurd r (by omega)))
            have cb := hn3.2.2.1
            refine ⟨⟨by omega, by omega⟩, by rw [w27]; exact ⟨by omega, by omega⟩, by rw [w27']; exact ⟨by omega, by omega⟩, fun m14 e14 => ?_⟩
            rw [w27', w27] at e14
            have e14 : m14 = EM n3 4 0 := e14
            rw [e14]
            refine ct b hb (EM n3 4 0) ⟨by rw [h8]; exact EM_pn hn3.1, EM_fr hn3.2.1 cb.2.1, ?_⟩ Q' (fun z1 n' hn' f' => h1 z1 n' hn' (((frd_s a2).tr f3).tr (EM_s.tr f'))) h0
            rw [em4]
            exact DL.one hn3.2.2 (by decide) (by decide) (by decide) (fun op arg e1 e2 => by unfold jm_ord; omega)
        · subst r
          exact h m3 0 z01 ag3 (fun r => absurd r (by decide)) (fun b hb n hn Q' h1 h0 => ent n hn.1 Q' (bX12_readProduct_28 hR ⟨fun _ => sX12_next (d := d + 1) hR hp hn.1 g9 at1 (fun n2 a2 p2 => jm_qvI (bX12_readProduct_57 hR ⟨⟨by decide, by decide⟩, fun _ => bX12_readProduct_74 hR (ct3 (b - 1) (by omega) n2 ⟨by rw [e8]; exact p2, hn.2.1.tr (frd_x a2), RN.next hn.2.2 em2 a2⟩ _ (fun r => absurd r (by decide)) (fun _ n3 en3 => jm_qiI ⟨by decide, by decide⟩ ⟨fun r => absurd rfl r, fun _ => h0 rfl n3 en3⟩)), fun r => absurd r (by decide)⟩)), fun r => absurd ((s1 n hn.1).2 k42) r⟩))
    refine bX4_readProduct_11 hC ⟨⟨by omega, by omega⟩, fun r => by omega, fun _ => ⟨⟨by omega, by omega⟩, fun x3 e3 => ?_⟩⟩
    rw [g3] at e3
    rw [e3]
    exact ⟨fun q => at40 (Or.inl q), fun q1 => ⟨fun q => at40 (Or.inr q), fun q2 => h m 1 (Or.inr rfl) hs.2 (fun _ => ⟨hs, CLE.rf, fun s0 _ => SG.rf _ _ _⟩) (fun b hb n hn Q' h1 h0 => bX12_readProduct_10 hR ⟨fun r => absurd ((s1 n hn.1).1 r) q1, fun _ => ⟨fun r => absurd ((s2 n hn.1).1 r) q2, fun _ => h1 rfl n hn jm_ag.rf⟩⟩)⟩⟩
theorem d_product (hC : jm_HC gC) (hR : jm_HR gR) (hp : PHS 1 B N K P S t) (hs : CS m0 B K P S t m) (o0 : 0 ≤ m.1 49 1) (o1 : m.1 49 1 + (t - m.1 1 8) ≤ 400) (h : ∀ m' z, (z = 0 ∨ z = 1) → jm_ag (fcz z) m0 m' → (z = 1 → CS m0 B K P S t m' ∧ CLR t m m' ∧ ∀ s0 : List Bool, s0.length ≤ 38 → SG (m'.1 50) (m.1 49 1) (m'.1 49 1) s0 (false :: s0)) → LCT l gR (d + 5) n0 B N P S t iX12_readProduct m m' z → Q (some (jm_i z)) m') : jm_R l gC (d + 5) iX4_readProduct [.ref 63] m Q := by
  have tb := hp.T
  have g9 := hs.1.2.2.2.2.2.2.1
  refine eX4_readProduct hC (d_unit (n0 := n0) (d := d) hC hR hp hs o0 o1 (fun m1 z z01 ag1 c1 ct1 => jm_qiI (by rcases z01 with e | e <;> rw [e] <;> exact ⟨by decide, by decide⟩) ⟨fun r => ?_, fun r => ?_⟩))
  · have z1 : z = 1 := by omega
    obtain ⟨cs1, cl1, sg1⟩ := c1 z1
    have l1 := cl1.2.1
    have l2 := cl1.2.2.2.2.2
    have l3 := cl1.1
    have t1 := cs1.1.2.2.2.2.2.2.2
    refine d_prodl (n0 := n0) (d := d) hC hR hp (t - m1.1 1 8).toNat 0 m1 Q (Nat.le_refl _) (by omega) cs1 (by omega) (by omega) (fun m' z' z01' ag' c' ct' => h m' z' z01' ag' (fun z1' => ?_) (fun b hb n hn Q' h1 h0 => eX12_readProduct hR (ct1 b hb n hn _ (fun _ n1 hn1 f1 => jm_qiI ⟨by decide, by decide⟩ ⟨fun _ => ct' b hb n1 hn1 Q' (fun z1 n' hn' f' => h1 z1 n' hn' (f1.tr f')) h0, fun r => absurd r (by decide)⟩) (fun r => absurd r (by omega)))))
    obtain ⟨cs', ce', sg'⟩ := c' z1'
    exact ⟨cs', cl1.trE ce', fun s0 hs0 => (SG.cl ce' (sg1 s0 (by omega))).tr (sg' s0 hs0)⟩
  · subst r
    exact h m1 0 z01 ag1 (fun r => absurd r (by decide)) (fun b hb n hn Q' h1 h0 => eX12_readProduct hR (ct1 b hb n hn _ (fun r => absurd r (by decide)) (fun _ n1 en1 => jm_qiI ⟨by decide, by decide⟩ ⟨fun r => absurd rfl r, fun _ => h0 rfl n1 en1⟩)))
end PD
