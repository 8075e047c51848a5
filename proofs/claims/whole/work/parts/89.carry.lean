section CR
variable {l : Launch} {gC gR : jm_G} {d : Nat} {mu nu m n : jm_M} {v1 v2 v3 v4 v5 v6 : Int} {Q : Option Value → jm_M → Prop} {C C' R R' : Nat → Int → Int}
/-- what of the class's told an image holds -/
def clP (c : Nat) (i : Int) : Prop := (c = 6 ∧ (i = 0 ∨ i = 5 ∨ i = 6 ∨ i = 7 ∨ i = 8)) ∨ ((c = 7 ∨ c = 8 ∨ c = 9) ∧ 0 ≤ i ∧ i < 8) ∨ (c = 10 ∧ 0 ≤ i ∧ i < 48) ∨ (c = 11 ∧ 0 ≤ i ∧ i < 12) ∨ (c = 12 ∧ i = 0) ∨ (c = 13 ∧ 0 ≤ i ∧ i < 24) ∨ (c = 14 ∧ 0 ≤ i ∧ i < 168) ∨ (c = 15 ∧ (i = 0 ∨ i = 1)) ∨ (c = 16 ∧ 0 ≤ i ∧ i < 400) ∨ ((c = 17 ∨ c = 18 ∨ c = 19 ∨ c = 20) ∧ 0 ≤ i ∧ i < 16) ∨ (c = 22 ∧ i = 0) ∨ ((c = 23 ∨ c = 24 ∨ c = 25 ∨ c = 26) ∧ 0 ≤ i ∧ i < 60)
def gA (C R : Nat → Int → Int) : Prop := (0 ≤ C 6 0 ∧ C 6 0 ≤ 8 ∧ R 0 4 = C 6 0)
  ∧ (∀ w, 0 ≤ w → w < C 6 0 → 1 ≤ C 7 w ∧ C 7 w ≤ C 8 w ∧ C 8 w ≤ 60 ∧ 1 ≤ C 9 w ∧ C 9 w ≤ 9 ∧ R 3 w = C 7 w ∧ R 4 w = C 8 w ∧ R 5 w = C 9 w)
  ∧ (∀ k, 0 ≤ k → k < 6 * C 6 0 → -1 ≤ C 10 k ∧ C 10 k ≤ 3 ∧ R 6 k = C 10 k + 1)
  ∧ (0 ≤ C 6 5 ∧ C 6 5 ≤ 4095 ∧ R 0 9 = jm_xor (C 6 5) 953)
  ∧ (1 ≤ C 6 6 ∧ C 6 6 ≤ 999 ∧ R 0 10 = C 6 6 - 10)
  ∧ (0 ≤ C 6 7 ∧ C 6 7 ≤ 9 ∧ R 0 11 = C 6 7 - 1)
  ∧ (0 ≤ C 6 8 ∧ C 6 8 ≤ 12 ∧ R 0 52 = C 6 8)
  ∧ (∀ k, 0 ≤ k → k < C 6 8 → 1 ≤ C 11 k ∧ C 11 k ≤ 60 ∧ R 28 k = C 11 k)
theorem IA_g : IA mu nu ↔ gA mu.1 nu.1 := Iff.rfl
theorem IAi_g : IAi mu nu ↔ gA (fun c i => mu.1 (c + 58) i) (fun c i => nu.1 30 (plV c i)) := Iff.rfl
theorem gA.cg (h : gA C R) (hC : ∀ c i, clP c i → C' c i = C c i) (hR : ∀ c i, plP c i → R' c i = R c i) : gA C' R' := by
  obtain ⟨h0, h1, h2, h3, h4, h5, h6, h7⟩ := h
  have e0 := hC 6 0 (by unfold clP; omega)
  have e5 := hC 6 5 (by unfold clP; omega)
  have e6 := hC 6 6 (by unfold clP; omega)
  have e7 := hC 6 7 (by unfold clP; omega)
  have e8 := hC 6 8 (by unfold clP; omega)
  refine ⟨?_, fun w w0 w1 => ?_, fun k k0 k1 => ?_, ?_, ?_, ?_, ?_, fun k k0 k1 => ?_⟩
  · rw [e0, hR 0 4 (by unfold plP; omega)]
    exact h0
  · rw [e0] at w1
    rw [hC 7 w (by unfold clP; omega), hC 8 w (by unfold clP; omega), hC 9 w (by unfold clP; omega), hR 3 w (by unfold plP; omega), hR 4 w (by unfold plP; omega), hR 5 w (by unfold plP; omega)]
    exact h1 w w0 w1
  · rw [e0] at k1
    rw [hC 10 k (by unfold clP; omega), hR 6 k (by unfold plP; omega)]
    exact h2 k k0 k1
  · rw [e5, hR 0 9 (by unfold plP; omega)]
    exact h3
  · rw [e6, hR 0 10 (by unfold plP; omega)]
    exact h4
  · rw [e7, hR 0 11 (by unfold plP; omega)]
    exact h5
  · rw [e8, hR 0 52 (by unfold plP; omega)]
    exact h6
  · rw [e8] at k1
    rw [hC 11 k (by unfold clP; omega), hR 28 k (by unfold plP; omega)]
    exact h7 k k0 k1
def gM (C R : Nat → Int → Int) : Prop := (0 ≤ C 12 0 ∧ C 12 0 ≤ 16 ∧ R 0 35 = C 12 0)
  ∧ (∀ k, 0 ≤ k → k < 24 → 0 ≤ C 13 k ∧ C 13 k ≤ 8 ∧ R 17 (8 * k) = C 13 k)
  ∧ (∀ k i, 0 ≤ k → k < 24 → 0 ≤ i → i < C 13 k - 1 → -24 ≤ C 14 (k * 7 + i) ∧ C 14 (k * 7 + i) ≤ 24 ∧ R 17 (8 * k + 1 + i) = C 14 (k * 7 + i))
theorem IM_g : IM mu nu ↔ gM mu.1 nu.1 := Iff.rfl
theorem IMi_g : IMi mu nu ↔ gM (fun c i => mu.1 (c + 58) i) (fun c i => nu.1 30 (plV c i)) := Iff.rfl
theorem gM.cg (h : gM C R) (hC : ∀ c i, clP c i → C' c i = C c i) (hR : ∀ c i, plP c i → R' c i = R c i) : gM C' R' := by
  obtain ⟨h0, h1, h2⟩ := h
  refine ⟨?_, fun k k0 k1 => ?_, fun k i k0 k1 i0 i1 => ?_⟩
  · rw [hC 12 0 (by unfold clP; omega), hR 0 35 (by unfold plP; omega)]
    exact h0
  · rw [hC 13 k (by unfold clP; omega), hR 17 (8 * k) (by unfold plP; omega)]
    exact h1 k k0 k1
  · rw [hC 13 k (by unfold clP; omega)] at i1
    have b := h1 k k0 k1
    rw [hC 14 (k * 7 + i) (by unfold clP; omega), hR 17 (8 * k + 1 + i) (by unfold plP; omega)]
    exact h2 k i k0 k1 i0 i1
def gP (C R : Nat → Int → Int) : Prop := (0 ≤ C 22 0 ∧ C 22 0 ≤ 60 ∧ R 0 39 = C 22 0)
  ∧ (∀ k, 0 ≤ k → k < C 22 0 → jm_deed (C 23 k) (C 24 k) (C 25 k) (C 26 k) (R 19 (4 * k)) (R 19 (4 * k + 1)) (R 19 (4 * k + 2)) (R 19 (4 * k + 3)) (C 6 0))
theorem IP_g : IP mu nu ↔ gP mu.1 nu.1 := Iff.rfl
theorem IPi_g : IPi mu nu ↔ gP (fun c i => mu.1 (c + 58) i) (fun c i => nu.1 30 (plV c i)) := Iff.rfl
theorem gP.cg (h : gP C R) (hC : ∀ c i, clP c i → C' c i = C c i) (hR : ∀ c i, plP c i → R' c i = R c i) : gP C' R' := by
  obtain ⟨h0, h1⟩ := h
  have e0 := hC 22 0 (by unfold clP; omega)
  refine ⟨?_, fun k k0 k1 => ?_⟩
  · rw [e0, hR 0 39 (by unfold plP; omega)]
    exact h0
  · rw [e0] at k1
    rw [hC 23 k (by unfold clP; omega), hC 24 k (by unfold clP; omega), hC 25 k (by unfold clP; omega), hC 26 k (by unfold clP; omega), hC 6 0 (by unfold clP; omega), hR 19 (4 * k) (by unfold plP; omega), hR 19 (4 * k + 1) (by unfold plP; omega), hR 19 (4 * k + 2) (by unfold plP; omega), hR 19 (4 * k + 3) (by unfold plP; omega)]
    exact h1 k k0 k1
theorem jm_ordN {k a p n : Int} {op arg : Int → Int} (h : jm_ord k a op arg p n) : n = 1 ∨ n = 2 := by
  unfold jm_ord at h
  rcases h with h | h | h | h | h | h | h | h | h | h | h | h <;> first | exact Or.inl h.2.1 | exact Or.inr h.2.1
theorem jm_ord.cg {k a p n : Int} {op arg op' arg' : Int → Int} (h : jm_ord k a op arg p n) (ho : op' p = op p) (ho1 : n = 2 → op' (p + 1) = op (p + 1)) (ha : arg' p = arg p) : jm_ord k a op' arg' p n := by
  unfold jm_ord at h ⊢
  rw [ho, ha]
  by_cases q : n = 2
  · rw [ho1 q]
    exact h
  · rcases h with h | h | h | h
    · exact Or.inl h
    · exact Or.inr (Or.inl h)
    · exact absurd h.2.1 q
    · exact Or.inr (Or.inr (Or.inr h))
theorem jm_seg.cg {ord ord' : Int → Int} {a e : Int} {b : Bool} (h : jm_seg ord a e b) (ho : ∀ i, a ≤ i → i < e → ord' i = ord i) : jm_seg ord' a e b := by
  obtain ⟨s, s0, s1, s2⟩ := h
  exact ⟨s, s0, s1, fun i a0 a1 => by rw [ho i a0 a1]; exact s2 i a0 a1⟩
theorem jm_law.cg {ll n : Int} {ord wo st co en lw lf lwh lt op arg ord' wo' st' co' en' lw' lf' lwh' lt' op' arg' : Int → Int} (h : jm_law ll n ord wo st co en lw lf lwh lt op arg) (l16 : ll ≤ 16) (ho : ∀ i, 0 ≤ i → i < 400 → ord' i = ord i) (h1 : ∀ i, 0 ≤ i → i < 16 → wo' i = wo i ∧ st' i = st i ∧ co' i = co i ∧ en' i = en i ∧ lw' i = lw i ∧ lf' i = lf i ∧ lwh' i = lwh i ∧ lt' i = lt i) (h2 : ∀ i, 0 ≤ i → i < 400 → op' i = op i ∧ arg' i = arg i) : jm_law ll n ord' wo' st' co' en' lw' lf' lwh' lt' op' arg' := by
  obtain ⟨n4, p, p0, pn, hp, hl⟩ := h
  have up : ∀ (j : Nat), (j : Int) ≤ n → 0 ≤ p j := by
    intro j
    induction j with
    | zero => intro _; rw [show ((0 : Nat) : Int) = 0 from rfl, p0]; exact Int.le_refl 0
    | succ j ih =>
      intro hj
      have a := jm_ordN (hp j (by omega) (by omega)).2
      have b := ih (by omega)
      rw [show ((j + 1 : Nat) : Int) = (j : Int) + 1 by omega]
      omega
  have dn : ∀ (j : Nat) (i : Int), 0 ≤ i → i + j = n → p i ≤ p n := by
    intro j
    induction j with
    | zero => intro i i0 e; rw [show i = n by omega]; exact Int.le_refl _
    | succ j ih =>
      intro i i0 e
      have a := jm_ordN (hp i i0 (by omega)).2
      have b := ih (i + 1) (by omega) (by omega)
      omega
  refine ⟨n4, p, p0, pn, fun i i0 i1 => ?_, fun l l0 l1 => ?_⟩
  · rw [ho i i0 (by omega)]
    have q := hp i i0 i1
    have a := jm_ordN q.2
    have b := up i.toNat (by omega)
    rw [show ((i.toNat : Nat) : Int) = i by omega] at b
    have c := dn (n - (i + 1)).toNat (i + 1) (by omega) (by omega)
    exact ⟨q.1, q.2.cg (h2 (p i) b (by omega)).1 (fun z => (h2 (p i + 1) (by omega) (by omega)).1) (h2 (p i) b (by omega)).2⟩
  · obtain ⟨a1, a2, a3, a4, a5, a6, a7, a8, a9, a10, a11, a12⟩ := hl l l0 l1
    obtain ⟨b1, b2, b3, b4, b5, b6, b7, b8⟩ := h1 l l0 (by omega)
    rw [b1, b2, b3, b4, b5, b6, b7, b8]
    exact ⟨a1, a2, a3, a4, a5, a6, a7, a8, a9, a10, a11.cg (fun i i0 i1 => ho i (by omega) (by omega)), a12.imp id (fun z => z.cg (fun i i0 i1 => ho i (by omega) (by omega)))⟩
def gL (C R : Nat → Int → Int) : Prop := (0 ≤ C 15 0 ∧ C 15 0 ≤ 16 ∧ R 9 1 = C 15 0)
  ∧ jm_law (C 15 0) (C 15 1) (C 16) (C 17) (C 18) (C 19) (C 20) (fun i => R 10 (16 + i)) (fun i => R 11 (16 + i)) (fun i => R 12 (16 + i)) (fun i => R 13 (16 + i)) (fun i => R 14 (400 + i)) (fun i => R 15 (400 + i))
theorem IL_g : IL mu nu ↔ gL mu.1 nu.1 := Iff.rfl
theorem ILi_g : ILi mu nu ↔ gL (fun c i => mu.1 (c + 58) i) (fun c i => nu.1 30 (plV c i)) := by
  have e : ∀ a b i : Int, a + b * (16 + i - 16) = a + b * i := fun a b i => by rw [show 16 + i - 16 = i by omega]
  have e4 : ∀ a b i : Int, a + b * (400 + i - 400) = a + b * i := fun a b i => by rw [show 400 + i - 400 = i by omega]
  have f : gL (fun c i => mu.1 (c + 58) i) (fun c i => nu.1 30 (plV c i)) ↔ (0 ≤ mu.1 73 0 ∧ mu.1 73 0 ≤ 16 ∧ nu.1 30 1465 = mu.1 73 0) ∧ jm_law (mu.1 73 0) (mu.1 73 1) (mu.1 74) (mu.1 75) (mu.1 76) (mu.1 77) (mu.1 78) (fun i => nu.1 30 (1466 + 4 * (16 + i - 16))) (fun i => nu.1 30 (1467 + 4 * (16 + i - 16))) (fun i => nu.1 30 (1468 + 4 * (16 + i - 16))) (fun i => nu.1 30 (1469 + 4 * (16 + i - 16))) (fun i => nu.1 30 (1530 + 2 * (400 + i - 400))) (fun i => nu.1 30 (1531 + 2 * (400 + i - 400))) := Iff.rfl
  rw [f]
  simp only [e, e4]
  exact Iff.rfl
theorem gL.cg (h : gL C R) (hC : ∀ c i, clP c i → C' c i = C c i) (hR : ∀ c i, plP c i → R' c i = R c i) : gL C' R' := by
  obtain ⟨h0, h1⟩ := h
  have e0 := hC 15 0 (by unfold clP; omega)
  have e1 := hC 15 1 (by unfold clP; omega)
  refine ⟨?_, ?_⟩
  · rw [e0, hR 9 1 (by unfold plP; omega)]
    exact h0
  · rw [e0, e1]
    refine h1.cg h0.2.1 (fun i i0 i1 => hC 16 i (by unfold clP; omega)) (fun i i0 i1 => ⟨hC 17 i (by unfold clP; omega), hC 18 i (by unfold clP; omega), hC 19 i (by unfold clP; omega), hC 20 i (by unfold clP; omega), hR 10 (16 + i) (by unfold plP; omega), hR 11 (16 + i) (by unfold plP; omega), hR 12 (16 + i) (by unfold plP; omega), hR 13 (16 + i) (by unfold plP; omega)⟩) (fun i i0 i1 => ⟨hR 14 (400 + i) (by unfold plP; omega), hR 15 (400 + i) (by unfold plP; omega)⟩)
/-- a copy of a stretch, and what a row of copies comes to -/
def OPC (a b : Nat) (lo n : Int) (m m' : jm_M) : Prop := ∀ c i, m'.1 c i = if c = b ∧ lo ≤ i ∧ i < lo + n then m.1 a i else m.1 c i
theorem OPC.wr {m m' : jm_M} {a b : Nat} {x : Int} (e : m' = jm_wr m b x (m.1 a x)) : OPC a b x 1 m m' := by
  intro c i
  rw [e]
  split
  · rename_i h
    rw [show i = x by omega, h.1, jm_wrS]
  · rename_i h
    by_cases q : c = b
    · rw [jm_wrI (by omega)]
    · rw [jm_wrO q]
theorem OPC.cp {m m' : jm_M} {a b : Nat} {n : Int} (e : m' = jm_cp m a 0 b 0 n) : OPC a b 0 n m m' := by
  intro c i
  rw [e]
  show (if _ then _ else _) = _
  split
  · rw [show 0 + (i - 0) = i by omega]
  · rfl
def CPD (s t : Nat) (D : Nat → Int → Prop) (mu m : jm_M) : Prop := (∀ c i, D c i → 6 ≤ c ∧ c ≤ 34) ∧ (∀ c i, D c i → m.1 (c + t) i = mu.1 (c + s) i) ∧ ∀ k i, (∀ c, k = c + t → ¬ D c i) → m.1 k i = mu.1 k i
theorem CPD.st {s t : Nat} {D : Nat → Int → Prop} {mu m m' : jm_M} (h : CPD s t D mu m) (st : s + 58 = t ∨ t + 58 = s) {a x y : Nat} {lo n : Int} (a6 : 6 ≤ a ∧ a ≤ 34) (ex : x = a + s) (ey : y = a + t) (o : OPC x y lo n m m') : CPD s t (fun c i => D c i ∨ (c = a ∧ lo ≤ i ∧ i < lo + n)) mu m' := by
  subst ex ey
  obtain ⟨h0, h1, h2⟩ := h
  refine ⟨fun c i z => ?_, fun c i z => ?_, fun k i z => ?_⟩
  · rcases z with z | z
    · exact h0 c i z
    · omega
  · rw [o]
    by_cases q : c + t = a + t ∧ lo ≤ i ∧ i < lo + n
    · rw [if_pos q, show c = a by omega]
      refine h2 _ _ (fun c' e z' => ?_)
      have := h0 c' i z'
      omega
    · rw [if_neg q]
      rcases z with z | z
      · exact h1 c i z
      · exact absurd ⟨by omega, z.2⟩ q
  · rw [o]
    by_cases q : k = a + t ∧ lo ≤ i ∧ i < lo + n
    · exact absurd (Or.inr ⟨rfl, q.2⟩) (z a q.1)
    · rw [if_neg q]
      exact h2 k i (fun c e z' => z c e (Or.inl z'))
theorem CPD.rf (s t : Nat) (mu : jm_M) : CPD s t (fun _ _ => False) mu mu := ⟨fun _ _ h => h.elim, fun _ _ h => h.elim, fun _ _ _ => rfl⟩
end CR
