section LN
variable {l : Launch} {gC gR : jm_G} {d : Nat} {mu nu m n m0 n0 : jm_M} {v1 v2 v3 v4 v5 v6 : Int} {Q : Option Value → jm_M → Prop} {B B' K P S : Int → Int} {N t a : Int} {k : Nat}
/-- where no line begins -/
theorem d_lbase (hC : jm_HC gC) (hR : jm_HR gR) (hp : PHS 1 B N K P S t) {i : Int} (i0 : 0 ≤ i) (i1 : i ≤ 16) (hs : CS m0 B K P S t m) (e0 : m.1 49 0 = i) (o0 : 0 ≤ m.1 49 1) (o1 : m.1 49 1 + (t - m.1 1 8) ≤ 400) (ci : CI m) (h : LLH l gR d m0 n0 B N P S t i 2 [] (fun _ => True) m Q) (hk : ¬ (300 ≤ K (m.1 1 8) ∧ K (m.1 1 8) ≤ 302) ∨ i = 16) : jm_V l gC (d + 25) iX4_readLines 9 [(0, .ref 63), (1, jm_i i)] [] m Q := by
  have tb := hp.T
  obtain ⟨g2, g3, g4, g5, g7, -, g9, g10⟩ := hs.1
  have w0 : ∀ n, PN B N P S t (m.1 1 8) n → ((n.1 0 16 = 2 ∧ n.1 0 17 = 0) ↔ K (m.1 1 8) = 300) := fun n hn => hp.eW hn.2.2.2 g9 g10 (w := 0) (by decide)
  have w1 : ∀ n, PN B N P S t (m.1 1 8) n → ((n.1 0 16 = 2 ∧ n.1 0 17 = 1) ↔ K (m.1 1 8) = 301) := fun n hn => hp.eW hn.2.2.2 g9 g10 (w := 1) (by decide)
  have w2 : ∀ n, PN B N P S t (m.1 1 8) n → ((n.1 0 16 = 2 ∧ n.1 0 17 = 2) ↔ K (m.1 1 8) = 302) := fun n hn => hp.eW hn.2.2.2 g9 g10 (w := 2) (by decide)
  refine bX4_readLines_9 hC ⟨⟨by omega, by omega⟩, fun r => by omega, fun _ => ⟨⟨by omega, by omega⟩, fun x3 e3 => ?_⟩⟩
  rw [g3] at e3
  rw [e3]
  refine ⟨fun q7 => ⟨fun q => ⟨fun q16 => by omega, fun q16 => ⟨by rw [RF_8 hs.1 3]; exact ⟨by omega, by omega⟩, fun m26 e26 => ?_⟩⟩, fun q => ⟨by rw [RF_8 hs.1 1]; exact ⟨by omega, by omega⟩, fun m29 e29 => ?_⟩⟩, fun q7 => ?_⟩
  · rw [RF_e hs.1] at e26
    rw [e26]
    refine h _ 0 (Or.inl rfl) (hs.rf _ _) (fun r => absurd r (by decide)) (fun n hn e28 _ Q' h1 h0 => ?_)
    have t0 := w0 n hn.1
    have t1 := w1 n hn.1
    have t2 := w2 n hn.1
    refine bX12_readLaw_2 hR ⟨fun _ => ⟨⟨by omega, by omega⟩, fun r => by omega, fun _ m26 e26 => ?_⟩, fun r => by omega⟩
    rw [RR_e hn.1] at e26
    rw [e26]
    exact h0 rfl _ (EN_rf hn.2.1 _ _)
  · rw [RF_e hs.1] at e29
    rw [e29]
    refine h _ 0 (Or.inl rfl) (hs.rf _ _) (fun r => absurd r (by decide)) (fun n hn e28 _ Q' h1 h0 => ?_)
    have t0 := w0 n hn.1
    have t1 := w1 n hn.1
    have t2 := w2 n hn.1
    have tE := hp.eE hn.1.2.2.2 g9 g10
    refine bX12_readLaw_2 hR ⟨fun r => by omega, fun _ => ⟨fun _ m28 e28 => ?_, fun r => absurd (tE.1 r) q7⟩⟩
    rw [RR_e hn.1] at e28
    rw [e28]
    exact h0 rfl _ (EN_rf hn.2.1 _ _)
  · refine h m 1 (Or.inr rfl) hs.2 (fun _ => ⟨ci, ⟨by omega, by omega⟩, o0, by omega, g10⟩) (fun n hn e28 _ Q' h1 h0 => ?_)
    have t0 := w0 n hn.1
    have t1 := w1 n hn.1
    have t2 := w2 n hn.1
    have tE := hp.eE hn.1.2.2.2 g9 g10
    refine bX12_readLaw_2 hR ⟨fun r => by omega, fun _ => ⟨fun r => absurd (tE.2 q7) r, fun _ => ?_⟩⟩
    have := h1 rfl n hn.2.1 hn.2.2
    rw [e0] at this
    exact this
theorem frx_ln {c : Nat} {i : Int} (h1 : 10 ≤ c) (h2 : c ≤ 13) (hi : 32 ≤ i) : frx c i = false := by
  unfold frx
  simp only [Bool.not_eq_false']
  simp [h1, h2, hi]
theorem fsa_ln {c : Nat} (h1 : 10 ≤ c) (h2 : c ≤ 13) (y : Int) : fsa c y = true := by
  unfold fsa
  have q0 : ¬ c = 0 := by omega
  have q1 : ¬ c = 14 := by omega
  have q2 : ¬ c = 15 := by omega
  have q3 : ¬ c = 16 := by omega
  simp [q0, q1, q2, q3]
theorem d_lline (hC : jm_HC gC) (hR : jm_HR gR) (hp : PHS 1 B N K P S t) {i : Int} (i0 : 0 ≤ i) (i1 : i < 16) (ih : LLV l gC gR d m0 n0 B N K P S t (i + 1)) : LLV l gC gR d m0 n0 B N K P S t i := by
  intro m Q hs e0 o0 o1 ci h
  by_cases hk : 300 ≤ K (m.1 1 8) ∧ K (m.1 1 8) ≤ 302
  case neg => exact d_lbase hC hR hp i0 (by omega) hs e0 o0 o1 ci h (Or.inl hk)
  have tb := hp.T
  obtain ⟨g2, g3, g4, g5, g7, -, g9, g10⟩ := hs.1
  have at1 : m.1 1 8 < t := by
    apply Decidable.byContradiction
    intro z
    have := (hp.end_ g9 g10).2 (by omega)
    omega
  have w0 : ∀ n, PN B N P S t (m.1 1 8) n → ((n.1 0 16 = 2 ∧ n.1 0 17 = 0) ↔ K (m.1 1 8) = 300) := fun n hn => hp.eW hn.2.2.2 g9 g10 (w := 0) (by decide)
  have w1 : ∀ n, PN B N P S t (m.1 1 8) n → ((n.1 0 16 = 2 ∧ n.1 0 17 = 1) ↔ K (m.1 1 8) = 301) := fun n hn => hp.eW hn.2.2.2 g9 g10 (w := 1) (by decide)
  have w2 : ∀ n, PN B N P S t (m.1 1 8) n → ((n.1 0 16 = 2 ∧ n.1 0 17 = 2) ↔ K (m.1 1 8) = 302) := fun n hn => hp.eW hn.2.2.2 g9 g10 (w := 2) (by decide)
  refine bX4_readLines_9 hC ⟨⟨by omega, by omega⟩, fun r => by omega, fun _ => ⟨⟨by omega, by omega⟩, fun x3 e3 => ?_⟩⟩
  rw [g3] at e3
  rw [e3]
  refine ⟨fun _ => ⟨fun _ => ⟨fun _ => ?_, fun r => by omega⟩, fun r => absurd hk r⟩, fun r => by omega⟩
  have hs2 := hs.skip at1
  obtain ⟨m2, em2⟩ : ∃ m2, m2 = jm_wr m 1 8 (m.1 1 8 + 1) := ⟨_, rfl⟩
  rw [← em2] at hs2
  have e82 : m2.1 1 8 = m.1 1 8 + 1 := by rw [em2, jm_wrS]
  have o2 : ∀ c, c ≠ 1 → m2.1 c = m.1 c := fun c hc => by rw [em2]; exact sk_o hc
  refine sX7_skip (d := d + 23) hC hs.1 tb.2 at1 (jm_qvI ?_)
  rw [← em2]
  have q20 : m2.1 49 0 = i := by rw [o2 49 (by decide), e0]
  refine eX3_openLine hC ⟨fun r => by omega, fun _ => ⟨⟨by omega, by omega⟩, ⟨by omega, by omega⟩, fun m3 e3' => ?_⟩⟩
  have q30 : m3.1 49 0 = i := by rw [e3', jm_wrO (by decide), q20]
  refine ⟨⟨by omega, by omega⟩, fun m6 e6 => jm_qvI ?_⟩
  rw [q30] at e6
  rw [q20] at e3'
  have cs6 : CS m0 B K P S t m6 := by rw [e6, e3']; exact (hs2.wr (by decide)).wr (by decide)
  have d6 : ∀ c, c ≠ 51 → c ≠ 52 → m6.1 c = m2.1 c := fun c h1 h2 => by rw [e6, e3']; funext y; rw [jm_wrO h2, jm_wrO h1]
  have f8 : m6.1 1 8 = m.1 1 8 + 1 := by rw [d6 1 (by decide) (by decide), e82]
  have f49 : m6.1 49 = m.1 49 := by rw [d6 49 (by decide) (by decide), o2 49 (by decide)]
  have f50 : m6.1 50 = m.1 50 := by rw [d6 50 (by decide) (by decide), o2 50 (by decide)]
  have f51 : m6.1 51 i = K (m.1 1 8) - 300 := by rw [e6, jm_wrO (by decide), e3', jm_wrS]
  have f52 : m6.1 52 i = m.1 49 1 := by rw [e6, jm_wrS, e3', jm_wrO (by decide), o2 49 (by decide)]
  have low6 : ∀ c, 51 ≤ c → c ≤ 54 → ∀ x, x < i → m6.1 c x = m.1 c x := fun c _ _ x hx => by
    rw [e6, jm_wrI (by omega), e3', jm_wrI (by omega), o2 c (by omega)]
  have ci6 : CI m6 := ci.cg (by rw [f49]) (by rw [f49]; exact Int.le_refl _) (fun x _ => by rw [f50]) (fun c c1 c2 x hx => low6 c c1 c2 x (by omega))
  -- the reference begins the line
  have till : ∀ n, RN (DL t 400) n0 B N P S t m n → n.1 0 28 = 0 → ∀ Q' : Option Value → jm_M → Prop, (∀ n3, RN (DL t 399) n0 B N P S t m6 n3 → n3.1 0 28 = 0 → n3.1 10 (32 + i) = K (m.1 1 8) - 300 → n3.1 11 (32 + i) = cpo (m.1 50) (m.1 49 1).toNat → jm_R l gR (d + 24) iX12_readSum [.ref 0] n3 (jm_qi fun z13 m12 => (¬ z13 = (-1) → ∀ m16, m16 = jm_wr m12 12 (32 + i) (m12.1 0 27) → ((m16.1 0 16) = 2 ∧ (m16.1 0 17) = 3 → jm_R l gR (d + 24) iX12_reads [.ref 0] m16 (jm_qv fun m18 => jm_R l gR (d + 24) iX12_readAny [.ref 0] m18 (jm_qi fun z23 m22 => (¬ z23 = (-1) → jm_V l gR (d + 25) iX12_readLaw 92 [(0, .ref 0), (1, jm_i i), (2, jm_i (32 + i))] [] m22 Q') ∧ (z23 = (-1) → Q' (some (jm_i (-1))) m22)))) ∧ (¬ ((m16.1 0 16) = 2 ∧ (m16.1 0 17) = 3) → jm_V l gR (d + 25) iX12_readLaw 92 [(0, .ref 0), (1, jm_i i), (2, jm_i (32 + i))] [] m16 Q')) ∧ (z13 = (-1) → Q' (some (jm_i (-1))) m12))) → jm_V l gR (d + 25) iX12_readLaw 2 [(0, .ref 0), (1, jm_i i)] [] n Q' := by
    intro n hn e28 Q' hv
    have t0 := w0 n hn.1
    have t1 := w1 n hn.1
    have t2 := w2 n hn.1
    have v17 : n.1 0 17 = K (m.1 1 8) - 300 := by omega
    refine bX12_readLaw_2 hR ⟨fun _ => ⟨⟨by omega, by omega⟩, fun _ x2 ex2 => ?_, fun r => by omega⟩, fun r => by omega⟩
    rw [ex2]
    refine ⟨⟨by omega, by omega⟩, fun m4 e4 => ?_⟩
    have r4 : RN (DL t 400) n0 B N P S t m m4 := by
      rw [e4]
      exact ⟨hn.1.wr (Or.inl (by decide)), hn.2.1.wr (frx_ln (by decide) (by decide) (by omega)), hn.2.2.ln rfl rfl (fun _ _ _ _ _ => rfl) rfl (fun c _ _ x hx => jm_wrI (by omega)) (by funext y; exact jm_wrO (by decide)) (by funext y; exact jm_wrO (by decide)) (jm_wrO (by decide))⟩
    refine sX12_next (d := d + 21) hR hp r4.1 g9 at1 (fun n5 a5 p5 => jm_qvI (fun m10 e10 => ?_))
    have r5 : RN (DL t 399) n0 B N P S t m2 n5 := ⟨by rw [e82]; exact p5, r4.2.1.tr (frd_x a5), RN.next r4.2.2 em2 a5⟩
    have r10 : RN (DL t 399) n0 B N P S t m6 m10 := by
      rw [e10]
      refine ⟨by rw [f8, ← e82]; exact r5.1.wr (Or.inl (by decide)), r5.2.1.wr (frx_ln (by decide) (by decide) (by omega)), r5.2.2.ln (d6 49 (by decide) (by decide)) (d6 50 (by decide) (by decide)) (fun c c1 c2 x hx => by rw [low6 c c1 c2 x (by omega), o2 c (by omega)]) (by rw [f8, e82]) (fun c _ _ x hx => jm_wrI (by omega)) (by funext y; exact jm_wrO (by decide)) (by funext y; exact jm_wrO (by decide)) (jm_wrO (by decide))⟩
    refine hv m10 r10 ?_ ?_ ?_
    · rw [e10, jm_wrO (by decide), frd_27 a5 (by decide), e4, jm_wrO (by decide), e28]
    · rw [e10, jm_wrO (by decide), frd_c a5 (by decide), e4, jm_wrS, v17]
    · rw [e10, jm_wrS, r5.2.2.p.1, o2 50 (by decide), o2 49 (by decide)]
  refine d_sum (n0 := n0) (d := d + 18) hC hR hp cs6 (by rw [f49]; exact o0) (by rw [f49, f8]; omega) (fun m7 z z01 ag7 c7 ct7 => jm_qiI (by rcases z01 with e | e <;> rw [e] <;> exact ⟨by decide, by decide⟩) ⟨fun r => ?_, fun r => ?_⟩)
  · have z1 : z = 1 := by omega
    subst z1
    obtain ⟨cs7, cl7, sg7⟩ := c7 rfl
    have l1 := cl7.1
    have l2 := cl7.2.1
    have l6 := cl7.2.2.2.2.2
    rw [f49] at l1 l2
    rw [f8] at l2 l6
    obtain ⟨-, h73, -, -, -, -, g79, t7⟩ := cs7.1
    have q70 : m7.1 49 0 = i := by rw [cl7.2.2.2.1, f49, e0]
    refine eX3_openCondition hC ⟨fun r => by omega, fun _ => ⟨⟨by omega, by omega⟩, fun m8 e8 => jm_qvI ?_⟩⟩
    rw [q70] at e8
    have cs8 : CS m0 B K P S t m8 := by rw [e8]; exact cs7.wr (by decide)
    have d8 : ∀ c, c ≠ 53 → m8.1 c = m7.1 c := fun c h1 => by rw [e8]; funext y; rw [jm_wrO h1]
    have q80 : m8.1 49 0 = i := by rw [d8 49 (by decide), q70]
    have q81 : m8.1 49 1 = m7.1 49 1 := by rw [d8 49 (by decide)]
    have q88 : m8.1 1 8 = m7.1 1 8 := by rw [d8 1 (by decide)]
    have q8K : m8.1 3 = K := by rw [d8 3 (by decide), h73]
    have ci7 : CI m7 := ci6.cg cl7.2.2.2.1 cl7.1 cl7.2.2.1 (fun c c1 c2 x _ => by rw [cl7.2.2.2.2.1 c c1 c2])
    have ci8 : CI m8 := ci7.cg (by rw [d8 49 (by decide)]) (by rw [d8 49 (by decide)]; exact Int.le_refl _) (fun x _ => by rw [d8 50 (by decide)]) (fun c _ _ x hx => by
      by_cases e : c = 53
      · rw [e, e8, jm_wrI (by omega)]
      · rw [d8 c e])
    have f851 : m8.1 51 i = K (m.1 1 8) - 300 := by rw [d8 51 (by decide), cl7.2.2.2.2.1 51 (by decide) (by decide), f51]
    have f852 : m8.1 52 i = m.1 49 1 := by rw [d8 52 (by decide), cl7.2.2.2.2.1 52 (by decide) (by decide), f52]
    have f853 : m8.1 53 i = m7.1 49 1 := by rw [e8, jm_wrS]
    have sg8 : jm_seg (m8.1 50) (m.1 49 1) (m7.1 49 1) false := by
      have := (sg7 [] (by decide)).seg
      rw [f49] at this
      rw [d8 50 (by decide)]
      exact this
    have cp7 : cpo (m7.1 50) (m.1 49 1).toNat = cpo (m.1 50) (m.1 49 1).toNat := cpo_cg _ (fun x hx => by rw [cl7.2.2.1 x (by rw [f49]; omega), f50])
    -- the reference behind the sum
    have rsum : ∀ n4, RN (DL t 399) n0 B N P S t m7 n4 → n4.1 0 28 = 0 → n4.1 10 (32 + i) = K (m.1 1 8) - 300 → n4.1 11 (32 + i) = cpo (m.1 50) (m.1 49 1).toNat → ∀ m16, m16 = jm_wr n4 12 (32 + i) (n4.1 0 27) → RN (DL t 399) n0 B N P S t m8 m16 ∧ m16.1 0 28 = 0 ∧ m16.1 10 (32 + i) = m8.1 51 i ∧ m16.1 11 (32 + i) = cpo (m8.1 50) (m8.1 52 i).toNat ∧ m16.1 12 (32 + i) = cpo (m8.1 50) (m8.1 53 i).toNat := by
      intro n4 hn4 e28 e10 e11 m16 e16
      rw [e16]
      refine ⟨⟨by rw [q88]; exact hn4.1.wr (Or.inl (by decide)), hn4.2.1.wr (frx_ln (by decide) (by decide) (by omega)), hn4.2.2.ln (d8 49 (by decide)) (d8 50 (by decide)) (fun c _ _ x hx => ?_) q88 (fun c _ _ x hx => jm_wrI (by omega)) (by funext y; exact jm_wrO (by decide)) (by funext y; exact jm_wrO (by decide)) (jm_wrO (by decide))⟩, by rw [jm_wrO (by decide)]; exact e28, by rw [jm_wrO (by decide), f851]; exact e10, by rw [jm_wrO (by decide), f852, d8 50 (by decide), cp7]; exact e11, by rw [jm_wrS, f853, d8 50 (by decide)]; exact hn4.2.2.p.1⟩
      by_cases e : c = 53
      · rw [e, e8, jm_wrI (by omega)]
      · rw [d8 c e]
    have w3 : ∀ n, PN B N P S t (m8.1 1 8) n → ((n.1 0 16 = 2 ∧ n.1 0 17 = 3) ↔ K (m8.1 1 8) = 303) := fun n hn => by
      rw [q88] at hn ⊢
      exact hp.eW hn.2.2.2 g79 t7 (w := 3) (by decide)
    refine ⟨⟨by omega, by omega⟩, ?_⟩
    rw [q8K]
    refine ⟨fun qw => ?_, fun qw => ?_⟩
    · refine d_ltail hC hR hp i0 i1 ih cs8 q80 (by omega) ci8 (by omega) (by omega) (by rw [f852, f853]; exact sg8) (Or.inl (by omega)) (fun m' z z01' ag' c' ct' => h m' z z01' ag' c' (fun n hn e28 _ Q' h1 h0 => till n hn e28 Q' (fun n3 hn3 s28 s10 s11 => ?_)))
      refine ct7 399 (by decide) n3 hn3 _ (fun _ n4 hn4 f4 => jm_qiI ⟨by decide, by decide⟩ ⟨fun _ m16 e16 => ?_, fun r => absurd r (by decide)⟩) (fun r => absurd r (by decide))
      obtain ⟨r16, u28, u10, u11, u12⟩ := rsum n4 hn4 (by rw [f4 0 28 rfl]; exact s28) (by rw [f4 10 _ rfl]; exact s10) (by rw [f4 11 _ rfl]; exact s11) m16 e16
      exact ⟨fun w => absurd ((w3 m16 r16.1).1 w) qw, fun _ => ct' m16 ⟨r16.1, r16.2.1, r16.2.2.le (by decide)⟩ u28 ⟨u10, u11, u12⟩ Q' h1 h0⟩
    · have at8 : m8.1 1 8 < t := by
        rw [q88] at qw ⊢
        apply Decidable.byContradiction
        intro z
        have := (hp.end_ g79 t7).2 (by omega)
        omega
      refine d_when (n0 := n0) (d := d) hC hR hp cs8 at8 (by omega) (by omega) (fun m9 z z01' ag9 c9 ct9 => jm_qiI (by rcases z01' with e | e <;> rw [e] <;> exact ⟨by decide, by decide⟩) ⟨fun r => ?_, fun r => ?_⟩)
      · have z1 : z = 1 := by omega
        subst z1
        obtain ⟨cs9, cl9, sg9⟩ := c9 rfl
        have k1 := cl9.1
        have k2 := cl9.2.1
        have k6 := cl9.2.2.2.2.2
        have ce : ∀ c, 51 ≤ c → c ≤ 54 → m9.1 c = m8.1 c := cl9.2.2.2.2.1
        have ci9 : CI m9 := ci8.cg cl9.2.2.2.1 cl9.1 cl9.2.2.1 (fun c c1 c2 x _ => by rw [ce c c1 c2])
        refine d_ltail hC hR hp i0 i1 ih cs9 (by rw [cl9.2.2.2.1, q80]) (by omega) ci9 (by rw [ce 51 (by decide) (by decide)]; omega) (by rw [ce 52 (by decide) (by decide), ce 53 (by decide) (by decide)]; omega) (by rw [ce 52 (by decide) (by decide), ce 53 (by decide) (by decide), f852, f853]; exact sg8.cg (fun x _ x1 => cl9.2.2.1 x (by omega))) (Or.inr (by rw [ce 53 (by decide) (by decide), f853, ← q81]; exact sg9.seg)) (fun m' z z01' ag' c' ct' => h m' z z01' ag' c' (fun n hn e28 _ Q' h1 h0 => till n hn e28 Q' (fun n3 hn3 s28 s10 s11 => ?_)))
        refine ct7 399 (by decide) n3 hn3 _ (fun _ n4 hn4 f4 => jm_qiI ⟨by decide, by decide⟩ ⟨fun _ m16 e16 => ?_, fun r => absurd r (by decide)⟩) (fun r => absurd r (by decide))
        obtain ⟨r16, u28, u10, u11, u12⟩ := rsum n4 hn4 (by rw [f4 0 28 rfl]; exact s28) (by rw [f4 10 _ rfl]; exact s10) (by rw [f4 11 _ rfl]; exact s11) m16 e16
        refine ⟨fun _ => sX12_next (d := d + 21) hR hp r16.1 (by omega) at8 (fun n6 a6 p6 => jm_qvI ?_), fun w => absurd ((w3 m16 r16.1).2 qw) w⟩
        refine ct9 398 (by decide) n6 ⟨by rw [jm_wrS]; exact p6, r16.2.1.tr (frd_x a6), RN.next r16.2.2 rfl a6⟩ (by rw [frd_27 a6 (by decide)]; exact u28) _ (fun _ n7 hn7 v28 f7 => jm_qiI ⟨by decide, by decide⟩ ⟨fun _ => ?_, fun r => absurd r (by decide)⟩) (fun r => absurd r (by decide))
        have kc : ∀ c, 10 ≤ c → c ≤ 13 → n7.1 c = m16.1 c := fun c c1 c2 => by
          rw [f7.cell (c := c) (fun y => fsa_ln c1 c2 y), frd_c a6 (by omega)]
        have cpe : ∀ k : Nat, (k : Int) ≤ m8.1 49 1 → cpo (m9.1 50) k = cpo (m8.1 50) k := fun k hk => cpo_cg k (fun x hx => cl9.2.2.1 x (by omega))
        refine ct' n7 ⟨hn7.1, hn7.2.1, hn7.2.2.le (by decide)⟩ v28 ⟨?_, ?_, ?_⟩ Q' h1 h0
        · rw [kc 10 (by decide) (by decide), ce 51 (by decide) (by decide)]; exact u10
        · rw [kc 11 (by decide) (by decide), ce 52 (by decide) (by decide), cpe _ (by omega)]; exact u11
        · rw [kc 12 (by decide) (by decide), ce 53 (by decide) (by decide), cpe _ (by omega)]; exact u12
      · subst r
        refine h m9 0 z01' ag9 (fun r => absurd r (by decide)) (fun n hn e28 _ Q' h1 h0 => till n hn e28 Q' (fun n3 hn3 s28 s10 s11 => ?_))
        refine ct7 399 (by decide) n3 hn3 _ (fun _ n4 hn4 f4 => jm_qiI ⟨by decide, by decide⟩ ⟨fun _ m16 e16 => ?_, fun r => absurd r (by decide)⟩) (fun r => absurd r (by decide))
        obtain ⟨r16, u28, u10, u11, u12⟩ := rsum n4 hn4 (by rw [f4 0 28 rfl]; exact s28) (by rw [f4 10 _ rfl]; exact s10) (by rw [f4 11 _ rfl]; exact s11) m16 e16
        refine ⟨fun _ => sX12_next (d := d + 21) hR hp r16.1 (by omega) at8 (fun n6 a6 p6 => jm_qvI ?_), fun w => absurd ((w3 m16 r16.1).2 qw) w⟩
        exact ct9 398 (by decide) n6 ⟨by rw [jm_wrS]; exact p6, r16.2.1.tr (frd_x a6), RN.next r16.2.2 rfl a6⟩ (by rw [frd_27 a6 (by decide)]; exact u28) _ (fun r => absurd r (by decide)) (fun _ n7 en7 => jm_qiI ⟨by decide, by decide⟩ ⟨fun r => absurd rfl r, fun _ => h0 rfl n7 en7⟩)
  · subst r
    refine h m7 0 z01 ag7 (fun r => absurd r (by decide)) (fun n hn e28 _ Q' h1 h0 => till n hn e28 Q' (fun n3 hn3 s28 s10 s11 => ?_))
    exact ct7 399 (by decide) n3 hn3 _ (fun r => absurd r (by decide)) (fun _ n4 en4 => jm_qiI ⟨by decide, by decide⟩ ⟨fun r => absurd rfl r, fun _ => h0 rfl n4 en4⟩)
theorem d_llines (hC : jm_HC gC) (hR : jm_HR gR) (hp : PHS 1 B N K P S t) : ∀ j : Nat, j ≤ 16 → LLV l gC gR d m0 n0 B N K P S t (16 - j)
  | 0, _ => fun m Q hs e0 o0 o1 ci h => d_lbase hC hR hp (by decide) (by decide) hs e0 o0 o1 ci h (Or.inr (by decide))
  | j + 1, hj => by
    have ih := d_llines hC hR hp j (by omega)
    refine d_lline hC hR hp (by omega) (by omega) ?_
    rw [show (16 : Int) - ((j + 1 : Nat) : Int) + 1 = 16 - (j : Int) by omega]
    exact ih
theorem d_law (hC : jm_HC gC) (hR : jm_HR gR) (hp : PHS 1 B N K P S t) (hs : CS m0 B K P S t m) (h : ∀ m' z, (z = 0 ∨ z = 1) → jm_ag (fcz z) m0 m' → (z = 1 → CI m' ∧ (0 ≤ m'.1 49 0 ∧ m'.1 49 0 ≤ 16) ∧ 0 ≤ m'.1 49 1 ∧ m'.1 49 1 ≤ 400 ∧ m'.1 1 8 ≤ t) → (∀ n, PN B N P S t (m.1 1 8) n → jm_ag frx n0 n → n.1 0 27 = 0 → n.1 0 28 = 0 → ∀ Q' : Option Value → jm_M → Prop, (z = 1 → ∀ n', jm_ag frx n0 n' → DL t 400 m' n' → Q' (some (jm_i (m'.1 49 0))) n') → (z = 0 → ∀ n', EN n0 m' n' → Q' (some (jm_i (-1))) n') → jm_R l gR (d + 25) iX12_readLaw [.ref 0] n Q') → Q (some (jm_i z)) m') : jm_R l gC (d + 25) iX4_readLines [.ref 63] m Q := by
  have tb := hp.T
  refine eX4_readLines hC (fun m1 e1 => ?_)
  have cs1 : CS m0 B K P S t m1 := by rw [e1]; exact (hs.wr (by decide)).wr (by decide)
  have z0 : m1.1 49 0 = 0 := by rw [e1, jm_wrI (by decide), jm_wrS]
  have z1 : m1.1 49 1 = 0 := by rw [e1, jm_wrS]
  have z8 : m1.1 1 8 = m.1 1 8 := by rw [e1, jm_wrO (by decide), jm_wrO (by decide)]
  have g9 := hs.1.2.2.2.2.2.2.1
  refine d_llines (l := l) (d := d) (n0 := n0) hC hR hp 16 (by decide) m1 Q cs1 z0 (by omega) (by omega) (fun x x0 x1 => by omega) (fun m' z z01 ag c ct => h m' z z01 ag c (fun n pn an e27 e28 Q' h1 h0 => eX12_readLaw hR (ct n ⟨by rw [z8]; exact pn, an, ?_⟩ e28 trivial Q' h1 h0)))
  exact ⟨⟨by omega, by omega, by omega⟩, fun _ => 0, rfl, by rw [e27], fun i i0 i1 => by show (0 : Int) ≤ 0 ∧ (0 : Int) ≤ n.1 0 27; omega, fun i i0 i1 => by omega, fun x x0 x1 => by omega⟩
end LN
