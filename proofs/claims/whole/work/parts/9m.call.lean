section PC
variable {l : Launch} {gC gR : jm_G} {d e : Nat} {mu nu m n m0 n0 m' n' : jm_M} {v1 v2 v3 v4 v5 v6 : Int} {Q : Option Value → jm_M → Prop} {B B' K P S : Int → Int} {N t a W : Int} {st st' f g : Int → Int}
def pQQ (l : Launch) (gR : jm_G) (d : Nat) (Q' : Option Value → jm_M → Prop) : Option Value → jm_M → Prop := jm_qi fun z m => (¬ z = (-1) → jm_V l gR (d + 8) iX12_readSteps 5 [(0, .ref 0)] [] m Q') ∧ (z = (-1) → Q' (some (jm_i (-1))) m)
def pC3 (l : Launch) (gR : jm_G) (d : Nat) (Q' : Option Value → jm_M → Prop) (z2 z6 : Int) (n : jm_M) : Prop := jm_R l gR (d + 6) iX12_readTold [.ref 0, jm_i 24, jm_i 0, jm_i 59] n (jm_qi fun z10 m9 => (¬ z10 = (-1) → jm_R l gR (d + 6) iX12_emitsStep [.ref 0, jm_i 0, jm_i z2, jm_i z6, jm_i z10] m9 (jm_qv fun m13 => pQQ l gR d Q' (some (jm_i 0)) m13)) ∧ (z10 = (-1) → pQQ l gR d Q' (some (jm_i (-1))) m9))
def pC2 (l : Launch) (gR : jm_G) (d : Nat) (Q' : Option Value → jm_M → Prop) (z2 : Int) (n : jm_M) : Prop := jm_R l gR (d + 6) iX12_readTold [.ref 0, jm_i 23, jm_i 0, jm_i 5] n (jm_qi fun z6 m5 => (¬ z6 = (-1) → pC3 l gR d Q' z2 z6 m5) ∧ (z6 = (-1) → pQQ l gR d Q' (some (jm_i (-1))) m5))
theorem pQQ0 {Q' : Option Value → jm_M → Prop} (h : jm_V l gR (d + 8) iX12_readSteps 5 [(0, .ref 0)] [] n Q') : pQQ l gR d Q' (some (jm_i 0)) n := jm_qiI ⟨by decide, by decide⟩ ⟨fun _ => h, fun r => absurd r (by decide)⟩
theorem pQQ1 {Q' : Option Value → jm_M → Prop} (h : Q' (some (jm_i (-1))) n) : pQQ l gR d Q' (some (jm_i (-1))) n := jm_qiI ⟨by decide, by decide⟩ ⟨fun r => absurd rfl r, fun _ => h⟩
theorem pl_call (hC : jm_HC gC) (hR : jm_HR gR) (hp : PHS 2 B N K P S t) (hW : n0.1 0 4 = W) (W0 : 0 ≤ W) (W8 : W ≤ 8) (hs : CS m0 B K P S t m) (ci : CPI m) (hk : K (m.1 1 8) = 300) (h : DH l gR d e m0 n0 B N K P S t W m Q) : jm_R l gC (d + 7) iX6_readCall [.ref 56, .ref 1, jm_i W] m Q := by
  have tb := hp.T
  obtain ⟨g2, g3, g4, g5, g7, -, g9, g10⟩ := hs.1
  have at1 : m.1 1 8 < t := by
    apply Decidable.byContradiction
    intro z
    have := (hp.end_ g9 g10).2 (by omega)
    omega
  have cb := ci.b (by omega)
  have tk := tok_b hp g9 at1
  have tw := tok_w hp g9 at1 (w := 0) (by decide) hk
  rw [show wE (wb 2 + 0) - wS (wb 2 + 0) = 4 by decide] at tw
  obtain ⟨A, eA⟩ : ∃ A, A = m.1 1 8 := ⟨_, rfl⟩
  have hpA := hs.1
  rw [← eA] at hpA g9 g10 at1 hk tk tw
  have hs1 := hs.skip (by rw [← eA]; exact at1)
  rw [← eA] at hs1
  obtain ⟨m1, em1⟩ : ∃ m1, m1 = jm_wr m 1 8 (A + 1) := ⟨_, rfl⟩
  rw [← em1] at hs1
  have e81 : m1.1 1 8 = A + 1 := by rw [em1, jm_wrS]
  have o1 : ∀ c, c ≠ 1 → m1.1 c = m.1 c := fun c hc => by rw [em1]; exact sk_o hc
  have hp1 := hs1.1
  rw [e81] at hp1
  -- the reference up to the first number
  have r0 : ∀ n, RN (DP l gR e P S W) n0 B N P S t m n → ∀ Q' : Option Value → jm_M → Prop, jm_R l gR (d + 6) iX12_readTold [.ref 0, jm_i 22, jm_i 0, jm_i (W - 1)] n (jm_qi fun z2 m1 => (¬ z2 = (-1) → pC2 l gR d Q' z2 m1) ∧ (z2 = (-1) → pQQ l gR d Q' (some (jm_i (-1))) m1)) → jm_V l gR (d + 8) iX12_readSteps 5 [(0, .ref 0)] [] n Q' := by
    intro n hn Q' hv
    have hn1 := hn.1
    rw [← eA] at hn1
    have s := sees_ hp g9 g10 hn1
    have n4 : n.1 0 4 = W := by rw [hn.2.1 0 4 rfl, hW]
    refine at57 hR s (Or.inl hk) (bX12_readSteps_57 hR ⟨fun _ => eX12_readCall hR ?_, fun r => absurd (s.1.2 hk) r⟩)
    rw [n4]
    exact hv
  refine eX6_readCall hC (sX7_skip (d := d + 5) hC hpA tb.2 at1 (jm_qvI ?_))
  rw [← em1]
  refine sX7_isNumber (d := d + 4) hC hp hp1 ⟨by decide, by decide⟩ ⟨by omega, by omega⟩ (fun q1 at2 lo1 hi1 => jm_qiI ⟨by decide, by decide⟩ ⟨fun _ => ?_, fun r => absurd r (by decide)⟩) (fun q1 at2 ng => jm_qiI ⟨by decide, by decide⟩ ⟨fun r => absurd rfl r, fun _ => ?_⟩) (fun q1 => jm_qiI ⟨by decide, by decide⟩ ⟨fun r => absurd rfl r, fun _ => ?_⟩)
  · have nb1 := hp.nv (a := A + 1) (by omega) at2 q1
    have r1 : ∀ n, RN (DP l gR e P S W) n0 B N P S t m n → ∀ Q' : Option Value → jm_M → Prop, (∀ n2, jm_ag frd n n2 → PN B N P S t (A + 1 + 1) n2 → pC2 l gR d Q' (nva B P S (A + 1)) n2) → jm_V l gR (d + 8) iX12_readSteps 5 [(0, .ref 0)] [] n Q' := by
      intro n hn Q' hv
      have hn1 := hn.1
      rw [← eA] at hn1
      exact r0 n hn Q' (sX12_told (d := d + 1) hR hp hn1 g9 g10 (w := 0) (by decide) rfl ⟨by decide, by decide⟩ ⟨by decide, by decide⟩ ⟨by omega, by omega⟩ (fun _ _ _ _ _ n2 a2 p2 => jm_qiI ⟨by omega, by omega⟩ ⟨fun _ => hv n2 a2 p2, fun r => by omega⟩) (fun _ _ ng => absurd ⟨lo1, hi1⟩ ng) (fun _ nq => absurd q1 nq) (fun r => absurd hk r))
    refine sX7_num (d := d + 5) hC hp hp1 at2 q1 (jm_qiI ⟨by omega, by omega⟩ ?_)
    refine sX7_skip (d := d + 5) hC hp1 tb.2 at2 (jm_qvI ?_)
    have hs2 := hs1.skip (by rw [e81]; exact at2)
    rw [e81] at hs2
    obtain ⟨m2, em2⟩ : ∃ m2, m2 = jm_wr m1 1 8 (A + 1 + 1) := ⟨_, rfl⟩
    rw [← em2] at hs2 ⊢
    have e82 : m2.1 1 8 = A + 1 + 1 := by rw [em2, jm_wrS]
    have o2 : ∀ c, c ≠ 1 → m2.1 c = m.1 c := fun c hc => by rw [em2, sk_o hc, o1 c hc]
    have hp2 := hs2.1
    rw [e82] at hp2
    refine sX7_take (d := d + 4) hC hp hp2 ⟨by decide, by decide⟩ (by decide) (fun q2 at3 => jm_qiI ⟨by decide, by decide⟩ ⟨fun r => absurd r (by decide), fun _ => ?_⟩) (fun q2 => jm_qiI ⟨by decide, by decide⟩ ⟨fun _ => ?_, fun r => absurd rfl r⟩)
    · have hs3 := hs2.skip (by rw [e82]; exact at3)
      rw [e82] at hs3
      obtain ⟨m3, em3⟩ : ∃ m3, m3 = jm_wr m2 1 8 (A + 1 + 1 + 1) := ⟨_, rfl⟩
      rw [← em3] at hs3 ⊢
      have e83 : m3.1 1 8 = A + 1 + 1 + 1 := by rw [em3, jm_wrS]
      have o3 : ∀ c, c ≠ 1 → m3.1 c = m.1 c := fun c hc => by rw [em3, sk_o hc, o2 c hc]
      have hp3 := hs3.1
      rw [e83] at hp3
      refine sX7_isNumber (d := d + 4) hC hp hp3 ⟨by decide, by decide⟩ ⟨by decide, by decide⟩ (fun q3 at4 lo2 hi2 => jm_qiI ⟨by decide, by decide⟩ ⟨fun _ => ?_, fun r => absurd r (by decide)⟩) (fun q3 at4 ng => jm_qiI ⟨by decide, by decide⟩ ⟨fun r => absurd rfl r, fun _ => ?_⟩) (fun q3 => jm_qiI ⟨by decide, by decide⟩ ⟨fun r => absurd rfl r, fun _ => ?_⟩)
      · have nb2 := hp.nv (a := A + 1 + 1 + 1) (by omega) at4 q3
        have r2 : ∀ n, RN (DP l gR e P S W) n0 B N P S t m n → ∀ Q' : Option Value → jm_M → Prop, (∀ n2, jm_ag frd n n2 → PN B N P S t (A + 1 + 1 + 1 + 1) n2 → pC3 l gR d Q' (nva B P S (A + 1)) (nva B P S (A + 1 + 1 + 1)) n2) → jm_V l gR (d + 8) iX12_readSteps 5 [(0, .ref 0)] [] n Q' := by
          intro n hn Q' hv
          refine r1 n hn Q' (fun n2 a2 p2 => ?_)
          exact sX12_told (d := d + 1) hR hp p2 (by omega) (by omega) (w := 1) (by decide) rfl ⟨by decide, by decide⟩ ⟨by decide, by decide⟩ ⟨by decide, by decide⟩ (fun _ _ _ _ _ n3 a3 p3 => jm_qiI ⟨by omega, by omega⟩ ⟨fun _ => hv n3 (a2.tr a3) p3, fun r => by omega⟩) (fun _ _ ng => absurd ⟨lo2, hi2⟩ ng) (fun _ nq => absurd q3 nq) (fun r => absurd q2 r)
        refine sX7_num (d := d + 5) hC hp hp3 at4 q3 (jm_qiI ⟨by omega, by omega⟩ ?_)
        refine sX7_skip (d := d + 5) hC hp3 tb.2 at4 (jm_qvI ?_)
        have hs4 := hs3.skip (by rw [e83]; exact at4)
        rw [e83] at hs4
        obtain ⟨m4, em4⟩ : ∃ m4, m4 = jm_wr m3 1 8 (A + 1 + 1 + 1 + 1) := ⟨_, rfl⟩
        rw [← em4] at hs4 ⊢
        have e84 : m4.1 1 8 = A + 1 + 1 + 1 + 1 := by rw [em4, jm_wrS]
        have o4 : ∀ c, c ≠ 1 → m4.1 c = m.1 c := fun c hc => by rw [em4, sk_o hc, o3 c hc]
        have hp4 := hs4.1
        rw [e84] at hp4
        refine sX7_take (d := d + 4) hC hp hp4 ⟨by decide, by decide⟩ (by decide) (fun q4 at5 => jm_qiI ⟨by decide, by decide⟩ ⟨fun r => absurd r (by decide), fun _ => ?_⟩) (fun q4 => jm_qiI ⟨by decide, by decide⟩ ⟨fun _ => ?_, fun r => absurd rfl r⟩)
        · have hs5 := hs4.skip (by rw [e84]; exact at5)
          rw [e84] at hs5
          obtain ⟨m5, em5⟩ : ∃ m5, m5 = jm_wr m4 1 8 (A + 1 + 1 + 1 + 1 + 1) := ⟨_, rfl⟩
          rw [← em5] at hs5 ⊢
          have e85 : m5.1 1 8 = A + 1 + 1 + 1 + 1 + 1 := by rw [em5, jm_wrS]
          have o5 : ∀ c, c ≠ 1 → m5.1 c = m.1 c := fun c hc => by rw [em5, sk_o hc, o4 c hc]
          have hp5 := hs5.1
          rw [e85] at hp5
          refine sX7_isNumber (d := d + 4) hC hp hp5 ⟨by decide, by decide⟩ ⟨by decide, by decide⟩ (fun q5 at6 lo3 hi3 => jm_qiI ⟨by decide, by decide⟩ ⟨fun _ => ?_, fun r => absurd r (by decide)⟩) (fun q5 at6 ng => jm_qiI ⟨by decide, by decide⟩ ⟨fun r => absurd rfl r, fun _ => ?_⟩) (fun q5 => jm_qiI ⟨by decide, by decide⟩ ⟨fun r => absurd rfl r, fun _ => ?_⟩)
          · have nb3 := hp.nv (a := A + 1 + 1 + 1 + 1 + 1) (by omega) at6 q5
            refine sX7_num (d := d + 5) hC hp hp5 at6 q5 (jm_qiI ⟨by omega, by omega⟩ ?_)
            refine sX6_addDeed (d := d + 5) hC hs5 ⟨by decide, by decide⟩ ⟨by omega, by omega⟩ ⟨by omega, by omega⟩ ⟨by omega, by omega⟩ (by rw [o5 56 (by decide)]; omega) (by rw [o5 56 (by decide)]; omega) (fun m6 cs6 c0 c7 cy cx cn => jm_qvI ?_)
            rw [o5 56 (by decide)] at c0 c7 cx cn
            rw [o5 57 (by decide), o5 58 (by decide), o5 59 (by decide), o5 60 (by decide)] at cx
            have e86 : m6.1 1 8 = A + 1 + 1 + 1 + 1 + 1 := by rw [cy 1 (by omega), e85]
            have hp6 := cs6.1
            rw [e86] at hp6
            refine sX7_skip (d := d + 5) hC hp6 tb.2 at6 (jm_qvI ?_)
            have hs7 := cs6.skip (by rw [e86]; exact at6)
            rw [e86] at hs7
            obtain ⟨m7, em7⟩ : ∃ m7, m7 = jm_wr m6 1 8 (A + 1 + 1 + 1 + 1 + 1 + 1) := ⟨_, rfl⟩
            rw [← em7] at hs7 ⊢
            have e87 : m7.1 1 8 = A + 1 + 1 + 1 + 1 + 1 + 1 := by rw [em7, jm_wrS]
            have o7 : ∀ c, c ≠ 1 → m7.1 c = m6.1 c := fun c hc => by rw [em7]; exact sk_o hc
            rw [← o7 56 (by decide)] at c0 c7
            rw [← o7 57 (by decide), ← o7 58 (by decide), ← o7 59 (by decide), ← o7 60 (by decide)] at cx cn
            have c61 : m7.1 61 = m.1 61 := by rw [o7 61 (by decide), cy 61 (by omega), o5 61 (by decide)]
            have c62 : m7.1 62 = m.1 62 := by rw [o7 62 (by decide), cy 62 (by omega), o5 62 (by decide)]
            have tk2 := tok_b hp (a := A + 1) (by omega) at2
            have tk3 := tok_b hp (a := A + 1 + 1) (by omega) at3
            have tk4 := tok_b hp (a := A + 1 + 1 + 1) (by omega) at4
            have tk5 := tok_b hp (a := A + 1 + 1 + 1 + 1) (by omega) at5
            have tk6 := tok_b hp (a := A + 1 + 1 + 1 + 1 + 1) (by omega) at6
            refine h m7 1 (Or.inr rfl) hs7.2 (fun _ => ⟨hs7, ci.add c0 c7 c61 c62 (by omega), by omega⟩) (fun n hn Q' h1 h0 => r2 n hn Q' (fun n2 a2 p2 => ?_))
            have do_ := hn.2.2.o
            rw [← eA] at do_
            have eN := hp.2.1
            refine sX12_told (d := d + 1) hR hp p2 (by omega) (by omega) (w := 2) (by decide) rfl ⟨by decide, by decide⟩ ⟨by decide, by decide⟩ ⟨by decide, by decide⟩ (fun _ _ _ _ _ n3 a3 p3 => jm_qiI ⟨by omega, by omega⟩ ⟨fun _ => ?_, fun r => by omega⟩) (fun _ _ ng => absurd ⟨lo3, hi3⟩ ng) (fun _ nq => absurd q5 nq) (fun r => absurd q4 r)
            have a23 := a2.tr a3
            have f38 : n3.1 0 38 = n.1 0 38 := frd_27 a23 (by decide)
            have f28 : n3.1 0 28 = n.1 0 28 := frd_27 a23 (by decide)
            have f18 : n3.1 18 = n.1 18 := frd_c a23 (by decide)
            refine sX12_emits (d := d + 5) (t := t) (N := N) (B := B) (P := P) (S := S) (n0 := n0) hR f38 do_.2.1 (by omega) ⟨by decide, by decide⟩ ⟨by omega, by omega⟩ ⟨by omega, by omega⟩ ⟨by omega, by omega⟩ (fun n4 q38 ql k0 k1 k2 k3 q28 qp qa => jm_qvI (pQQ0 ?_))
            rw [f18] at ql
            rw [f28] at q28
            refine h1 rfl n4 ⟨by rw [e87]; exact qp _ p3, qa (hn.2.1.tr (frd_x a23)), DP.add hR hn.2.2 c0 c7 (fun y hy => ?_) cx q38 q28 ql (by rw [k0]; decide) (by rw [k0]; decide) (fun r => ?_) (by rw [e87, ← eA]; omega)⟩
            · rcases hy with rfl | rfl
              · exact c61
              · exact c62
            · obtain ⟨b1, b2, b3, b4⟩ := cn r
              exact Or.inr (Or.inr ⟨b1, k0, by omega, by omega, by omega, by omega, by omega, by omega, by omega, by omega, by omega⟩)
          · refine h _ 0 (Or.inl rfl) (hs5.rf _ _) (fun r => absurd r (by decide)) (fun n hn Q' h1 h0 => r2 n hn Q' (fun n2 a2 p2 => ?_))
            exact sX12_told (d := d + 1) hR hp p2 (by omega) (by omega) (w := 2) (by decide) rfl ⟨by decide, by decide⟩ ⟨by decide, by decide⟩ ⟨by decide, by decide⟩ (fun _ _ _ l1 l2 => absurd ⟨l1, l2⟩ ng) (fun _ _ _ n3 a3 => jm_qiI ⟨by decide, by decide⟩ ⟨fun r => absurd rfl r, fun _ => pQQ1 (h0 rfl _ (EN_rf (hn.2.1.tr (frd_x (a2.tr a3))) _ _))⟩) (fun _ nq => absurd q5 nq) (fun r => absurd q4 r)
          · refine h _ 0 (Or.inl rfl) (hs5.rf _ _) (fun r => absurd r (by decide)) (fun n hn Q' h1 h0 => r2 n hn Q' (fun n2 a2 p2 => ?_))
            exact sX12_told (d := d + 1) hR hp p2 (by omega) (by omega) (w := 2) (by decide) rfl ⟨by decide, by decide⟩ ⟨by decide, by decide⟩ ⟨by decide, by decide⟩ (fun _ _ k1 => absurd k1 q5) (fun _ k1 => absurd k1 q5) (fun _ _ n3 a3 => jm_qiI ⟨by decide, by decide⟩ ⟨fun r => absurd rfl r, fun _ => pQQ1 (h0 rfl _ (EN_rf (hn.2.1.tr (frd_x (a2.tr a3))) _ _))⟩) (fun r => absurd q4 r)
        · refine h _ 0 (Or.inl rfl) (hs4.rf _ _) (fun r => absurd r (by decide)) (fun n hn Q' h1 h0 => r2 n hn Q' (fun n2 a2 p2 => ?_))
          exact sX12_told (d := d + 1) hR hp p2 (by omega) (by omega) (w := 2) (by decide) rfl ⟨by decide, by decide⟩ ⟨by decide, by decide⟩ ⟨by decide, by decide⟩ (fun k1 => absurd k1 q4) (fun k1 => absurd k1 q4) (fun k1 => absurd k1 q4) (fun _ => jm_qiI ⟨by decide, by decide⟩ ⟨fun r => absurd rfl r, fun _ => pQQ1 (h0 rfl _ (EN_rf (hn.2.1.tr (frd_x a2)) _ _))⟩)
      · refine h _ 0 (Or.inl rfl) (hs3.rf _ _) (fun r => absurd r (by decide)) (fun n hn Q' h1 h0 => r1 n hn Q' (fun n2 a2 p2 => ?_))
        exact sX12_told (d := d + 1) hR hp p2 (by omega) (by omega) (w := 1) (by decide) rfl ⟨by decide, by decide⟩ ⟨by decide, by decide⟩ ⟨by decide, by decide⟩ (fun _ _ _ l1 l2 => absurd ⟨l1, l2⟩ ng) (fun _ _ _ n3 a3 => jm_qiI ⟨by decide, by decide⟩ ⟨fun r => absurd rfl r, fun _ => pQQ1 (h0 rfl _ (EN_rf (hn.2.1.tr (frd_x (a2.tr a3))) _ _))⟩) (fun _ nq => absurd q3 nq) (fun r => absurd q2 r)
      · refine h _ 0 (Or.inl rfl) (hs3.rf _ _) (fun r => absurd r (by decide)) (fun n hn Q' h1 h0 => r1 n hn Q' (fun n2 a2 p2 => ?_))
        exact sX12_told (d := d + 1) hR hp p2 (by omega) (by omega) (w := 1) (by decide) rfl ⟨by decide, by decide⟩ ⟨by decide, by decide⟩ ⟨by decide, by decide⟩ (fun _ _ k1 => absurd k1 q3) (fun _ k1 => absurd k1 q3) (fun _ _ n3 a3 => jm_qiI ⟨by decide, by decide⟩ ⟨fun r => absurd rfl r, fun _ => pQQ1 (h0 rfl _ (EN_rf (hn.2.1.tr (frd_x (a2.tr a3))) _ _))⟩) (fun r => absurd q2 r)
    · refine h _ 0 (Or.inl rfl) (hs2.rf _ _) (fun r => absurd r (by decide)) (fun n hn Q' h1 h0 => r1 n hn Q' (fun n2 a2 p2 => ?_))
      exact sX12_told (d := d + 1) hR hp p2 (by omega) (by omega) (w := 1) (by decide) rfl ⟨by decide, by decide⟩ ⟨by decide, by decide⟩ ⟨by decide, by decide⟩ (fun k1 => absurd k1 q2) (fun k1 => absurd k1 q2) (fun k1 => absurd k1 q2) (fun _ => jm_qiI ⟨by decide, by decide⟩ ⟨fun r => absurd rfl r, fun _ => pQQ1 (h0 rfl _ (EN_rf (hn.2.1.tr (frd_x a2)) _ _))⟩)
  · refine h _ 0 (Or.inl rfl) (hs1.rf _ _) (fun r => absurd r (by decide)) (fun n hn Q' h1 h0 => r0 n hn Q' ?_)
    have hn1 := hn.1
    rw [← eA] at hn1
    exact sX12_told (d := d + 1) hR hp hn1 g9 g10 (w := 0) (by decide) rfl ⟨by decide, by decide⟩ ⟨by decide, by decide⟩ ⟨by omega, by omega⟩ (fun _ _ _ l1 l2 => absurd ⟨l1, l2⟩ ng) (fun _ _ _ n2 a2 => jm_qiI ⟨by decide, by decide⟩ ⟨fun r => absurd rfl r, fun _ => pQQ1 (h0 rfl _ (EN_rf (hn.2.1.tr (frd_x a2)) _ _))⟩) (fun _ nq => absurd q1 nq) (fun r => absurd hk r)
  · refine h _ 0 (Or.inl rfl) (hs1.rf _ _) (fun r => absurd r (by decide)) (fun n hn Q' h1 h0 => r0 n hn Q' ?_)
    have hn1 := hn.1
    rw [← eA] at hn1
    exact sX12_told (d := d + 1) hR hp hn1 g9 g10 (w := 0) (by decide) rfl ⟨by decide, by decide⟩ ⟨by decide, by decide⟩ ⟨by omega, by omega⟩ (fun _ _ k1 => absurd k1 q1) (fun _ k1 => absurd k1 q1) (fun _ _ n2 a2 => jm_qiI ⟨by decide, by decide⟩ ⟨fun r => absurd rfl r, fun _ => pQQ1 (h0 rfl _ (EN_rf (hn.2.1.tr (frd_x a2)) _ _))⟩) (fun r => absurd hk r)
end PC
