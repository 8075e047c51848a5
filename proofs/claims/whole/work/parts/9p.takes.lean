section TK
variable {l : Launch} {gC gR : jm_G} {d : Nat} {mu nu m n m0 n0 m2 n2 : jm_M} {v1 v2 v3 v4 v5 v6 : Int} {Q : Option Value → jm_M → Prop}
theorem jm_ag.sub {S T : Nat → Int → Bool} (h : jm_ag S m n) (e : ∀ c i, T c i = true → S c i = true) : jm_ag T m n := fun c i q => h c i (e c i q)
theorem frx_17 {x : Int} (h : x < 192) : frx 17 x = true := by
  unfold frx
  simp [show ¬ (192 : Int) ≤ x by omega]
theorem frx_19 {x : Int} (h : x < 240) : frx 19 x = true := by
  unfold frx
  simp [show ¬ (240 : Int) ≤ x by omega]
theorem frx_10 {c : Nat} {x : Int} (c1 : 10 ≤ c) (c2 : c ≤ 13) (h : x < 32) : frx c x = true := by
  have e : c = 10 ∨ c = 11 ∨ c = 12 ∨ c = 13 := by omega
  unfold frx
  rcases e with rfl | rfl | rfl | rfl <;> simp [show ¬ (32 : Int) ≤ x by omega]
theorem frx_14 {c : Nat} {x : Int} (hc : c = 14 ∨ c = 15) (h : x < 800) : frx c x = true := by
  unfold frx
  rcases hc with rfl | rfl <;> simp [show ¬ (800 : Int) ≤ x by omega]
theorem IM.tx (h : IM m n) (a : jm_ag fCM m m2) (b17 : ∀ x, x < 192 → n2.1 17 x = n.1 17 x) (b35 : n2.1 0 35 = n.1 0 35) : IM m2 n2 := by
  have e12 := a.cell (c := 12) (fun _ => rfl)
  have e13 := a.cell (c := 13) (fun _ => rfl)
  have e14 := a.cell (c := 14) (fun _ => rfl)
  unfold IM at h ⊢
  rw [e12, e13, e14, b35]
  refine ⟨h.1, fun k k0 k1 => ?_, fun k i k0 k1 i0 i1 => ?_⟩
  · rw [b17 _ (by omega)]
    exact h.2.1 k k0 k1
  · have := h.2.1 k k0 k1
    rw [b17 _ (by omega)]
    exact h.2.2 k i k0 k1 i0 i1
theorem IP.tx (h : IP m n) (a : jm_ag fCP m m2) (b19 : ∀ x, x < 240 → n2.1 19 x = n.1 19 x) (b39 : n2.1 0 39 = n.1 0 39) : IP m2 n2 := by
  have e23 := a.cell (c := 23) (fun _ => rfl)
  have e24 := a.cell (c := 24) (fun _ => rfl)
  have e25 := a.cell (c := 25) (fun _ => rfl)
  have e26 := a.cell (c := 26) (fun _ => rfl)
  have e22 := a 22 0 rfl
  have e6 := a 6 0 rfl
  unfold IP at h ⊢
  rw [e22, e23, e24, e25, e26, e6, b39]
  refine ⟨h.1, fun k k0 k1 => ?_⟩
  have := h.1
  rw [b19 _ (by omega), b19 _ (by omega), b19 _ (by omega), b19 _ (by omega)]
  exact h.2 k k0 k1
theorem IL.tx (h : IL m n) (a : jm_ag fCL m m2) (b9 : n2.1 9 1 = n.1 9 1) (b10 : ∀ c, 10 ≤ c → c ≤ 13 → ∀ x, x < 32 → n2.1 c x = n.1 c x) (b14 : ∀ c, c = 14 ∨ c = 15 → ∀ x, x < 800 → n2.1 c x = n.1 c x) : IL m2 n2 := by
  have e15 := a.cell (c := 15) (fun _ => rfl)
  have e16 := a.cell (c := 16) (fun _ => rfl)
  have e17 := a.cell (c := 17) (fun _ => rfl)
  have e18 := a.cell (c := 18) (fun _ => rfl)
  have e19 := a.cell (c := 19) (fun _ => rfl)
  have e20 := a.cell (c := 20) (fun _ => rfl)
  unfold IL at h ⊢
  rw [e15, e16, e17, e18, e19, e20, b9]
  refine ⟨h.1, h.2.cg (by have := h.1; omega) (fun _ _ _ => rfl) (fun i i0 i1 => ⟨rfl, rfl, rfl, rfl, ?_, ?_, ?_, ?_⟩) (fun i i0 i1 => ⟨?_, ?_⟩)⟩
  · exact b10 10 (by decide) (by decide) _ (by omega)
  · exact b10 11 (by decide) (by decide) _ (by omega)
  · exact b10 12 (by decide) (by decide) _ (by omega)
  · exact b10 13 (by decide) (by decide) _ (by omega)
  · exact b14 14 (Or.inl rfl) _ (by omega)
  · exact b14 15 (Or.inr rfl) _ (by omega)
/-- the reference takes motives -/
theorem t_motives (hR : jm_HR gR) {q : Int} (q0 : 0 ≤ q) (q1 : q ≤ 16) (h : ∀ n', (∀ x, 0 ≤ x → x < 192 → n'.1 17 x = n.1 17 (192 + x)) → (∀ c, c ≠ 17 → c ≠ 0 → n'.1 c = n.1 c) → n'.1 0 35 = q → n'.1 0 3 = 0 → (∀ i, ¬ i = 35 → ¬ i = 3 → n'.1 0 i = n.1 0 i) → Q none n') : jm_R l gR (d + 1) iX12_takesOther [.ref 0, jm_i 0, jm_i q] n Q := by
  have loop : ∀ (j i : Nat) (n1 : jm_M), i + j = 192 → (∀ x : Int, 0 ≤ x → x < i → n1.1 17 x = n.1 17 (192 + x)) → (∀ x, 192 ≤ x → n1.1 17 x = n.1 17 x) → (∀ c, c ≠ 17 → n1.1 c = n.1 c) → jm_V l gR (d + 1) iX12_takesOther 6 [(0, .ref 0), (2, jm_i q), (3, jm_i i)] [] n1 Q := by
    intro j
    induction j with
    | zero =>
      intro i n1 hij e1 e2 e3
      refine bX12_takesOther_6 hR ⟨⟨by omega, by omega⟩, fun _ => ⟨⟨by omega, by omega⟩, fun m3 em m5 em5 => ?_⟩, fun r => by omega⟩
      rw [em5, em]
      refine h _ (fun x x0 x1 => ?_) (fun c c1 c2 => ?_) ?_ jm_wrS (fun y y1 y2 => ?_)
      · rw [jm_wrO (by decide), jm_wrO (by decide)]
        exact e1 x x0 (by omega)
      · rw [← e3 c c1]
        funext z
        rw [jm_wrO c2, jm_wrO c2]
      · rw [jm_wrI (by decide), jm_wrS]
      · rw [jm_wrI y2, jm_wrI y1, e3 0 (by decide)]
    | succ j ih =>
      intro i n1 hij e1 e2 e3
      refine bX12_takesOther_6 hR ⟨⟨by omega, by omega⟩, fun r => by omega, fun _ => ⟨⟨by omega, by omega⟩, ⟨by omega, by omega⟩, fun m9 em => ?_⟩⟩
      have nx := ih (i + 1) m9 (by omega) (fun x x0 x1 => ?_) (fun x x0 => ?_) (fun c hc => ?_)
      · rw [show ((i + 1 : Nat) : Int) = (i : Int) + 1 by omega] at nx
        exact nx
      · rw [em]
        by_cases e : x = i
        · rw [e, jm_wrS, e2 _ (by omega)]
        · rw [jm_wrI e]
          exact e1 x x0 (by omega)
      · rw [em, jm_wrI (by omega)]
        exact e2 x x0
      · rw [em, ← e3 c hc]
        funext z
        exact jm_wrO hc
  refine eX12_takesOther hR ⟨⟨by decide, by decide⟩, fun r => absurd rfl r, fun _ => ?_⟩
  exact loop 192 0 n rfl (fun x x0 x1 => by omega) (fun _ _ => rfl) (fun _ _ => rfl)
/-- the reference takes a plan -/
theorem t_plan (hR : jm_HR gR) {q : Int} (q0 : 0 ≤ q) (q1 : q ≤ 60) (h : ∀ n', (∀ x, 0 ≤ x → x < 4 * q → n'.1 19 x = n.1 19 (240 + x)) → (∀ c, c ≠ 19 → c ≠ 0 → n'.1 c = n.1 c) → n'.1 0 39 = q → n'.1 0 3 = 0 → (∀ i, ¬ i = 39 → ¬ i = 3 → n'.1 0 i = n.1 0 i) → Q none n') : jm_R l gR (d + 1) iX12_takesOther [.ref 0, jm_i 2, jm_i q] n Q := by
  have loop : ∀ (j i : Nat) (n1 : jm_M), (i : Int) + j = 4 * q → (∀ x : Int, 0 ≤ x → x < i → n1.1 19 x = n.1 19 (240 + x)) → (∀ x, 240 ≤ x → n1.1 19 x = n.1 19 x) → (∀ c, c ≠ 19 → n1.1 c = n.1 c) → jm_V l gR (d + 1) iX12_takesOther 45 [(0, .ref 0), (2, jm_i q), (3, jm_i i)] [] n1 Q := by
    intro j
    induction j with
    | zero =>
      intro i n1 hij e1 e2 e3
      refine bX12_takesOther_45 hR ⟨⟨by omega, by omega⟩, ⟨by omega, by omega⟩, fun _ => ⟨⟨by omega, by omega⟩, fun m3 em m5 em5 => ?_⟩, fun r => by omega⟩
      rw [em5, em]
      refine h _ (fun x x0 x1 => ?_) (fun c c1 c2 => ?_) ?_ jm_wrS (fun y y1 y2 => ?_)
      · rw [jm_wrO (by decide), jm_wrO (by decide)]
        exact e1 x x0 (by omega)
      · rw [← e3 c c1]
        funext z
        rw [jm_wrO c2, jm_wrO c2]
      · rw [jm_wrI (by decide), jm_wrS]
      · rw [jm_wrI y2, jm_wrI y1, e3 0 (by decide)]
    | succ j ih =>
      intro i n1 hij e1 e2 e3
      refine bX12_takesOther_45 hR ⟨⟨by omega, by omega⟩, ⟨by omega, by omega⟩, fun r => by omega, fun _ => ⟨⟨by omega, by omega⟩, ⟨by omega, by omega⟩, fun m9 em => ?_⟩⟩
      have nx := ih (i + 1) m9 (by omega) (fun x x0 x1 => ?_) (fun x x0 => ?_) (fun c hc => ?_)
      · rw [show ((i + 1 : Nat) : Int) = (i : Int) + 1 by omega] at nx
        exact nx
      · rw [em]
        by_cases e : x = i
        · rw [e, jm_wrS, e2 _ (by omega)]
        · rw [jm_wrI e]
          exact e1 x x0 (by omega)
      · rw [em, jm_wrI (by omega)]
        exact e2 x x0
      · rw [em, ← e3 c hc]
        funext z
        exact jm_wrO hc
  refine eX12_takesOther hR ⟨⟨by decide, by decide⟩, fun _ => ?_, fun r => absurd r (by decide)⟩
  exact loop (4 * q).toNat 0 n (by omega) (fun x x0 x1 => by omega) (fun _ _ => rfl) (fun _ _ => rfl)
/-- the reference takes a law -/
theorem t_law (hR : jm_HR gR) {q : Int} (q0 : 0 ≤ q) (q1 : q ≤ 16) (w1 : n.1 0 26 = 1) (c0 : 0 ≤ n.1 0 27) (c4 : n.1 0 27 ≤ 400) (h : ∀ n', (∀ c, 10 ≤ c → c ≤ 13 → ∀ x, 0 ≤ x → x < q → n'.1 c (16 + x) = n.1 c (32 + x)) → (∀ c, c = 14 ∨ c = 15 → ∀ x, 0 ≤ x → x < n.1 0 27 → n'.1 c (400 + x) = n.1 c (800 + x)) → n'.1 9 1 = q → (∀ c, ¬ (9 ≤ c ∧ c ≤ 15) → n'.1 c = n.1 c) → Q none n') : jm_R l gR (d + 1) iX12_takesLaw [.ref 0, jm_i q] n Q := by
  have loop2 : ∀ (j i : Nat) (n1 : jm_M), (i : Int) + j = n.1 0 27 → (∀ c, 10 ≤ c → c ≤ 13 → ∀ x, 0 ≤ x → x < q → n1.1 c (16 + x) = n.1 c (32 + x)) → (∀ c, c = 14 ∨ c = 15 → ∀ x : Int, 0 ≤ x → x < i → n1.1 c (400 + x) = n.1 c (800 + x)) → (∀ c, c = 14 ∨ c = 15 → ∀ x, 800 ≤ x → n1.1 c x = n.1 c x) → (∀ c, ¬ (9 ≤ c ∧ c ≤ 15) → n1.1 c = n.1 c) → jm_V l gR (d + 1) iX12_takesLaw 107 [(0, .ref 0), (1, jm_i q), (2, jm_i i)] [] n1 Q := by
    intro j
    induction j with
    | zero =>
      intro i n1 hij e1 e2 e3 e4
      have f27 : n1.1 0 27 = n.1 0 27 := by rw [e4 0 (by omega)]
      have f26 : n1.1 0 26 = 1 := by rw [e4 0 (by omega), w1]
      refine bX12_takesLaw_107 hR ⟨⟨by omega, by omega⟩, fun _ => ⟨⟨by omega, by omega⟩, ⟨by omega, by omega⟩, fun m4 em => ?_⟩, fun r => by omega⟩
      rw [f26] at em
      rw [em]
      refine h _ (fun c a1 a2 x x0 x1 => ?_) (fun c hc x x0 x1 => ?_) jm_wrS (fun c hc => ?_)
      · rw [jm_wrO (by omega)]
        exact e1 c a1 a2 x x0 x1
      · rw [jm_wrO (by omega)]
        exact e2 c hc x x0 (by omega)
      · rw [← e4 c hc]
        funext z
        exact jm_wrO (by omega)
    | succ j ih =>
      intro i n1 hij e1 e2 e3 e4
      have f27 : n1.1 0 27 = n.1 0 27 := by rw [e4 0 (by omega)]
      have f26 : n1.1 0 26 = 1 := by rw [e4 0 (by omega), w1]
      refine bX12_takesLaw_107 hR ⟨⟨by omega, by omega⟩, fun r => by omega, fun _ => ⟨⟨by omega, by omega⟩, ?_⟩⟩
      rw [f26]
      refine ⟨⟨by omega, by omega⟩, fun m8 e8 => ?_⟩
      have g26 : m8.1 0 26 = 1 := by rw [e8, jm_wrO (by decide), f26]
      rw [g26]
      refine ⟨⟨by omega, by omega⟩, fun m11 e11 => ?_⟩
      rw [show (400 * 1 : Int) = 400 by decide] at e8 e11
      rw [e8, jm_wrO (by decide)] at e11
      have nx := ih (i + 1) m11 (by omega) (fun c a1 a2 x x0 x1 => ?_) (fun c hc x x0 x1 => ?_) (fun c hc x x0 => ?_) (fun c hc => ?_)
      · rw [show ((i + 1 : Nat) : Int) = (i : Int) + 1 by omega] at nx
        exact nx
      · rw [e11, jm_wrO (by omega), jm_wrO (by omega)]
        exact e1 c a1 a2 x x0 x1
      · by_cases e : x = i
        · rw [e, e11]
          rcases hc with rfl | rfl
          · rw [jm_wrO (by decide), jm_wrS, e3 14 (Or.inl rfl) _ (by omega)]
          · rw [jm_wrS, e3 15 (Or.inr rfl) _ (by omega)]
        · rw [e11, jm_wrI (by omega), jm_wrI (by omega)]
          exact e2 c hc x x0 (by omega)
      · rw [e11, jm_wrI (by omega), jm_wrI (by omega)]
        exact e3 c hc x x0
      · rw [e11, ← e4 c hc]
        funext z
        rw [jm_wrO (by omega), jm_wrO (by omega)]
  have loop1 : ∀ (j i : Nat) (n1 : jm_M), (i : Int) + j = q → (∀ c, 10 ≤ c → c ≤ 13 → ∀ x : Int, 0 ≤ x → x < i → n1.1 c (16 + x) = n.1 c (32 + x)) → (∀ c, 10 ≤ c → c ≤ 13 → ∀ x, 32 ≤ x → n1.1 c x = n.1 c x) → (∀ c, ¬ (10 ≤ c ∧ c ≤ 13) → n1.1 c = n.1 c) → jm_V l gR (d + 1) iX12_takesLaw 2 [(0, .ref 0), (1, jm_i q), (2, jm_i i)] [] n1 Q := by
    intro j
    induction j with
    | zero =>
      intro i n1 hij e1 e2 e3
      refine bX12_takesLaw_2 hR ⟨⟨by omega, by omega⟩, ⟨by omega, by omega⟩, fun _ => ?_, fun r => by omega⟩
      exact loop2 (n.1 0 27).toNat 0 n1 (by omega) (fun c a1 a2 x x0 x1 => e1 c a1 a2 x x0 (by omega)) (fun c hc x x0 x1 => by omega) (fun c hc x _ => by rw [e3 c (by omega)]) (fun c hc => e3 c (by omega))
    | succ j ih =>
      intro i n1 hij e1 e2 e3
      have f26 : n1.1 0 26 = 1 := by rw [e3 0 (by omega), w1]
      refine bX12_takesLaw_2 hR ⟨⟨by omega, by omega⟩, ⟨by omega, by omega⟩, fun r => by omega, fun _ => ⟨⟨by omega, by omega⟩, ?_⟩⟩
      rw [f26]
      refine ⟨⟨by omega, by omega⟩, fun m5 e5 => ?_⟩
      have g5 : m5.1 0 26 = 1 := by rw [e5, jm_wrO (by decide), f26]
      rw [g5]
      refine ⟨⟨by omega, by omega⟩, fun m8 e8 => ?_⟩
      have g8 : m8.1 0 26 = 1 := by rw [e8, jm_wrO (by decide), g5]
      rw [g8]
      refine ⟨⟨by omega, by omega⟩, fun m11 e11 => ?_⟩
      have g11 : m11.1 0 26 = 1 := by rw [e11, jm_wrO (by decide), g8]
      rw [g11]
      refine ⟨⟨by omega, by omega⟩, fun m14 e14 => ?_⟩
      rw [show (16 * 1 : Int) = 16 by decide] at e5 e8 e11 e14
      rw [e5, jm_wrO (by decide)] at e8
      rw [e8, jm_wrO (by decide), jm_wrO (by decide)] at e11
      rw [e11, jm_wrO (by decide), jm_wrO (by decide), jm_wrO (by decide)] at e14
      have nx := ih (i + 1) m14 (by omega) (fun c a1 a2 x x0 x1 => ?_) (fun c a1 a2 x x0 => ?_) (fun c hc => ?_)
      · rw [show ((i + 1 : Nat) : Int) = (i : Int) + 1 by omega] at nx
        exact nx
      · by_cases e : x = i
        · have hc : c = 10 ∨ c = 11 ∨ c = 12 ∨ c = 13 := by omega
          rw [e, e14]
          rcases hc with rfl | rfl | rfl | rfl
          · rw [jm_wrO (by decide), jm_wrO (by decide), jm_wrO (by decide), jm_wrS, e2 10 (by decide) (by decide) _ (by omega)]
          · rw [jm_wrO (by decide), jm_wrO (by decide), jm_wrS, e2 11 (by decide) (by decide) _ (by omega)]
          · rw [jm_wrO (by decide), jm_wrS, e2 12 (by decide) (by decide) _ (by omega)]
          · rw [jm_wrS, e2 13 (by decide) (by decide) _ (by omega)]
        · rw [e14, jm_wrI (by omega), jm_wrI (by omega), jm_wrI (by omega), jm_wrI (by omega)]
          exact e1 c a1 a2 x x0 (by omega)
      · rw [e14, jm_wrI (by omega), jm_wrI (by omega), jm_wrI (by omega), jm_wrI (by omega)]
        exact e2 c a1 a2 x x0
      · rw [e14, ← e3 c hc]
        funext z
        rw [jm_wrO (by omega), jm_wrO (by omega), jm_wrO (by omega), jm_wrO (by omega)]
  exact eX12_takesLaw hR (loop1 q.toNat 0 n (by omega) (fun c a1 a2 x x0 x1 => by omega) (fun _ _ _ _ _ => rfl) (fun _ _ => rfl))
end TK
