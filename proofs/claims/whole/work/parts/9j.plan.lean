section PL
variable {l : Launch} {gC gR : jm_G} {d : Nat} {mu nu m n m0 n0 : jm_M} {v1 v2 v3 v4 v5 v6 : Int} {Q : Option Value → jm_M → Prop} {B B' K P S : Int → Int} {N t a W : Int} {st st' f g : Int → Int}
def MN (f : Int → Int) : Nat → Int → Prop
  | 0, h => 0 ≤ h
  | k + 1, h => f k ≤ h ∧ MN f k (f k)
/-- what deeds read so far can come to at most, as agains that are open end -/
def WS (f : Int → Int) : Nat → Int → Int
  | 0, h => h
  | k + 1, h => (h - f k) * 9 ^ (k + 1) + WS f k (f k)
theorem pow9 : ∀ k : Nat, (1 : Int) ≤ 9 ^ k
  | 0 => by decide
  | k + 1 => by
    rw [Int.pow_succ]
    have := pow9 k
    omega
theorem WS_add (f : Int → Int) (k : Nat) (h x : Int) : WS f k (h + x) = WS f k h + x * 9 ^ k := by
  cases k with
  | zero =>
    show h + x = h + x * 1
    omega
  | succ k =>
    show (h + x - f k) * 9 ^ (k + 1) + WS f k (f k) = (h - f k) * 9 ^ (k + 1) + WS f k (f k) + x * 9 ^ (k + 1)
    rw [show h + x - f k = (h - f k) + x by omega, Int.add_mul]
    omega
theorem MN.nn : ∀ {k : Nat} {h : Int}, MN f k h → 0 ≤ h
  | 0, _, q => q
  | k + 1, h, q => by
    have := MN.nn q.2
    have := q.1
    omega
theorem MN.mono : ∀ {k : Nat} {h h' : Int}, MN f k h → h ≤ h' → MN f k h'
  | 0, h, h', q, e => by
    show 0 ≤ h'
    have : 0 ≤ h := q
    omega
  | k + 1, h, h', q, e => ⟨by have := q.1; omega, q.2⟩
theorem WS_ge : ∀ {k : Nat} {h : Int}, MN f k h → h ≤ WS f k h
  | 0, h, _ => Int.le_refl h
  | k + 1, h, q => by
    show h ≤ (h - f k) * 9 ^ (k + 1) + WS f k (f k)
    have i := WS_ge q.2
    have p := pow9 (k + 1)
    have e := Int.mul_le_mul_of_nonneg_left p (show 0 ≤ h - f k by have := q.1; omega)
    omega
theorem MN.cg : ∀ {k : Nat} {h : Int}, MN f k h → (∀ i : Nat, i < k → g i = f i) → MN g k h
  | 0, _, q, _ => q
  | k + 1, h, q, e => by
    show g k ≤ h ∧ MN g k (g k)
    rw [e k (by omega)]
    exact ⟨q.1, q.2.cg (fun i hi => e i (by omega))⟩
theorem WS_cg : ∀ {k : Nat} {h : Int}, (∀ i : Nat, i < k → g i = f i) → WS g k h = WS f k h
  | 0, _, _ => rfl
  | k + 1, h, e => by
    show (h - g k) * 9 ^ (k + 1) + WS g k (g k) = (h - f k) * 9 ^ (k + 1) + WS f k (f k)
    rw [e k (by omega), WS_cg (fun i hi => e i (by omega))]
theorem WS_close {k : Nat} {h tm : Int} (q : MN f (k + 1) h) (t1 : 1 ≤ tm) (t9 : tm ≤ 9) : MN f k (f k + (h - f k) * tm) ∧ WS f k (f k + (h - f k) * tm) ≤ WS f (k + 1) h ∧ h ≤ f k + (h - f k) * tm := by
  have s0 : 0 ≤ h - f k := by have := q.1; omega
  have e1 := Int.mul_le_mul_of_nonneg_left t1 s0
  have e9 := Int.mul_le_mul_of_nonneg_left t9 s0
  have p := pow9 k
  have e := Int.mul_le_mul_of_nonneg_right e9 (show (0 : Int) ≤ 9 ^ k by omega)
  refine ⟨q.2.mono (by omega), ?_, by omega⟩
  rw [WS_add]
  show WS f k (f k) + (h - f k) * tm * 9 ^ k ≤ (h - f k) * 9 ^ (k + 1) + WS f k (f k)
  rw [Int.pow_succ, show (h - f k) * (9 ^ k * 9) = (h - f k) * 9 * 9 ^ k by rw [Int.mul_comm (9 ^ k) 9, Int.mul_assoc]]
  omega
/-- the class's draft of a plan -/
def CPI (m : jm_M) : Prop := (0 ≤ m.1 56 7 ∧ m.1 56 7 ≤ 4) ∧ MN (m.1 61) (m.1 56 7).toNat (m.1 56 0) ∧ WS (m.1 61) (m.1 56 7).toNat (m.1 56 0) ≤ 6561 * m.1 1 8 ∧ ∀ k, 0 ≤ k → k < m.1 56 7 → 1 ≤ m.1 62 k ∧ m.1 62 k ≤ 9
theorem CPI.b (h : CPI m) (t4 : m.1 1 8 ≤ 400) : 0 ≤ m.1 56 0 ∧ m.1 56 0 ≤ 2624400 := by
  have := h.2.1.nn
  have := WS_ge h.2.1
  have := h.2.2.1
  omega
theorem sX6_addDeed (hC : jm_HC gC) (hs : CS m0 B K P S t m) (r1 : jm_rg v1) (r2 : jm_rg v2) (r3 : jm_rg v3) (r4 : jm_rg v4) (o0 : 0 ≤ m.1 56 0) (o1 : m.1 56 0 ≤ 2624400) (h : ∀ m', CS m0 B K P S t m' → m'.1 56 0 = m.1 56 0 + 1 → m'.1 56 7 = m.1 56 7 → (∀ y, ¬ (56 ≤ y ∧ y ≤ 60) → m'.1 y = m.1 y) → (∀ x, ¬ x = m.1 56 0 → m'.1 57 x = m.1 57 x ∧ m'.1 58 x = m.1 58 x ∧ m'.1 59 x = m.1 59 x ∧ m'.1 60 x = m.1 60 x) → (m.1 56 0 < 60 → m'.1 57 (m.1 56 0) = v1 ∧ m'.1 58 (m.1 56 0) = v2 ∧ m'.1 59 (m.1 56 0) = v3 ∧ m'.1 60 (m.1 56 0) = v4) → Q none m') : jm_R l gC (d + 1) iX6_addDeed [.ref 56, jm_i v1, jm_i v2, jm_i v3, jm_i v4] m Q := by
  refine eX6_addDeed hC ⟨fun q => ⟨⟨by omega, by omega⟩, fun m2 e2 => ?_⟩, fun q => ⟨⟨by omega, by omega⟩, r1, fun m6 e6 => ?_⟩⟩
  · rw [e2]
    refine h _ (hs.wr (by decide)) jm_wrS (jm_wrI (by decide)) (fun y hy => by funext z; exact jm_wrO (by omega)) (fun x _ => ⟨jm_wrO (by decide), jm_wrO (by decide), jm_wrO (by decide), jm_wrO (by decide)⟩) (fun r => by omega)
  · have p6 : m6.1 56 0 = m.1 56 0 := by rw [e6, jm_wrO (by decide)]
    refine ⟨⟨by omega, by omega⟩, r2, fun m10 e10 => ?_⟩
    have p10 : m10.1 56 0 = m.1 56 0 := by rw [e10, jm_wrO (by decide), p6]
    refine ⟨⟨by omega, by omega⟩, r3, fun m14 e14 => ?_⟩
    have p14 : m14.1 56 0 = m.1 56 0 := by rw [e14, jm_wrO (by decide), p10]
    refine ⟨⟨by omega, by omega⟩, r4, fun m18 e18 => ?_⟩
    have p18 : m18.1 56 0 = m.1 56 0 := by rw [e18, jm_wrO (by decide), p14]
    refine ⟨⟨by omega, by omega⟩, fun m21 e21 => ?_⟩
    rw [p18] at e21
    rw [p14] at e18
    rw [p10] at e14
    rw [p6] at e10
    have c21 : CS m0 B K P S t m21 := by
      rw [e21, e18, e14, e10, e6]
      exact ((((hs.wr (by decide)).wr (by decide)).wr (by decide)).wr (by decide)).wr (by decide)
    rw [e21, e18, e14, e10, e6] at c21 ⊢
    refine h _ c21 jm_wrS ?_ (fun y hy => ?_) (fun x hx => ⟨?_, ?_, ?_, ?_⟩) (fun _ => ⟨?_, ?_, ?_, ?_⟩)
    · rw [jm_wrI (by decide), jm_wrO (by decide), jm_wrO (by decide), jm_wrO (by decide), jm_wrO (by decide)]
    · funext z
      rw [jm_wrO (by omega), jm_wrO (by omega), jm_wrO (by omega), jm_wrO (by omega), jm_wrO (by omega)]
    · rw [jm_wrO (by decide), jm_wrI hx, jm_wrI hx, jm_wrI hx, jm_wrI hx]
    · rw [jm_wrO (by decide), jm_wrI hx, jm_wrI hx, jm_wrI hx, jm_wrI hx]
    · rw [jm_wrO (by decide), jm_wrI hx, jm_wrI hx, jm_wrI hx, jm_wrI hx]
    · rw [jm_wrO (by decide), jm_wrI hx, jm_wrI hx, jm_wrI hx, jm_wrI hx]
    · rw [jm_wrO (by decide), jm_wrO (by decide), jm_wrO (by decide), jm_wrO (by decide), jm_wrS]
    · rw [jm_wrO (by decide), jm_wrO (by decide), jm_wrO (by decide), jm_wrS]
    · rw [jm_wrO (by decide), jm_wrO (by decide), jm_wrS]
    · rw [jm_wrO (by decide), jm_wrS]
/-- the class lays a stretch again -/
theorem sX6_close (hC : jm_HC gC) {s u h0 : Int} (s0 : 0 ≤ s) (sh : s ≤ h0) (u0 : h0 ≤ u) (u1 : u ≤ 2624400) (hu : h0 < u → 0 < s) (hm : m.1 56 0 = h0) (h : ∀ m', m'.1 56 0 = u → m'.1 56 7 = m.1 56 7 → (∀ y, ¬ (56 ≤ y ∧ y ≤ 60) → m'.1 y = m.1 y) → (∀ x, x < h0 → m'.1 57 x = m.1 57 x ∧ m'.1 58 x = m.1 58 x ∧ m'.1 59 x = m.1 59 x ∧ m'.1 60 x = m.1 60 x) → (∀ x, h0 ≤ x → x < u → x < 60 → m'.1 57 x = m'.1 57 (x - s) ∧ m'.1 58 x = m'.1 58 (x - s) ∧ m'.1 59 x = m'.1 59 (x - s) ∧ m'.1 60 x = m'.1 60 (x - s)) → (CS m0 B K P S t m → CS m0 B K P S t m') → Q (some (jm_i 1)) m') (j : Nat) : ∀ (i : Int) (m1 : jm_M), (u - i).toNat ≤ j → h0 ≤ i → i ≤ 2624400 → (i < u ∨ i = h0 ∨ i = u) → m1.1 56 = m.1 56 → (∀ y, ¬ (56 ≤ y ∧ y ≤ 60) → m1.1 y = m.1 y) → (∀ x, x < h0 → m1.1 57 x = m.1 57 x ∧ m1.1 58 x = m.1 58 x ∧ m1.1 59 x = m.1 59 x ∧ m1.1 60 x = m.1 60 x) → (∀ x, h0 ≤ x → x < i → x < 60 → m1.1 57 x = m1.1 57 (x - s) ∧ m1.1 58 x = m1.1 58 (x - s) ∧ m1.1 59 x = m1.1 59 (x - s) ∧ m1.1 60 x = m1.1 60 (x - s)) → (CS m0 B K P S t m → CS m0 B K P S t m1) → (u ≤ i ∨ i ≤ 60 ∨ i = h0) → jm_V l gC (d + 3) iX6_closeAgain 65 [(0, .ref 56), (3, jm_i s), (4, jm_i u), (5, jm_i i)] [] m1 Q := by
  have fin : ∀ (i : Int) (m1 : jm_M), (u ≤ i ∨ 60 ≤ i) → m1.1 56 = m.1 56 → (∀ y, ¬ (56 ≤ y ∧ y ≤ 60) → m1.1 y = m.1 y) → (∀ x, x < h0 → m1.1 57 x = m.1 57 x ∧ m1.1 58 x = m.1 58 x ∧ m1.1 59 x = m.1 59 x ∧ m1.1 60 x = m.1 60 x) → (∀ x, h0 ≤ x → x < i → x < 60 → m1.1 57 x = m1.1 57 (x - s) ∧ m1.1 58 x = m1.1 58 (x - s) ∧ m1.1 59 x = m1.1 59 (x - s) ∧ m1.1 60 x = m1.1 60 (x - s)) → (CS m0 B K P S t m → CS m0 B K P S t m1) → Q (some (jm_i 1)) (jm_wr m1 56 0 u) := by
    intro i m1 hi e56 ey e1 e2 cs
    refine h _ jm_wrS (by rw [jm_wrI (by decide), e56]) (fun y hy => ?_) (fun x hx => ?_) (fun x x0 x1 x2 => ?_) (fun c => (cs c).wr (by decide))
    · rw [← ey y hy]
      funext z
      exact jm_wrO (by omega)
    · rw [jm_wrO (by decide), jm_wrO (by decide), jm_wrO (by decide), jm_wrO (by decide)]
      exact e1 x hx
    · rw [jm_wrO (by decide), jm_wrO (by decide), jm_wrO (by decide), jm_wrO (by decide), jm_wrO (by decide), jm_wrO (by decide), jm_wrO (by decide), jm_wrO (by decide)]
      exact e2 x x0 (by omega) x2
  induction j with
  | zero =>
    intro i m1 hj h0i i4 hi e56 ey e1 e2 cs _
    refine bX6_closeAgain_65 hC ⟨⟨by omega, by omega⟩, ⟨by omega, by omega⟩, fun q m3 e3 => ?_, fun q => by omega⟩
    rw [e3]
    exact fin i m1 (Or.inl q) e56 ey e1 e2 cs
  | succ j ih =>
    intro i m1 hj h0i i4 hi e56 ey e1 e2 cs _
    refine bX6_closeAgain_65 hC ⟨⟨by omega, by omega⟩, ⟨by omega, by omega⟩, fun q m3 e3 => ?_, fun q => ⟨fun q6 m5 e5 => ?_, fun q6 => ?_⟩⟩
    · rw [e3]
      exact fin i m1 (Or.inl q) e56 ey e1 e2 cs
    · rw [e5]
      exact fin i m1 (Or.inr q6) e56 ey e1 e2 cs
    · have sp := hu (by omega)
      refine eX6_copyDeed hC ⟨⟨by omega, by omega⟩, fun _ => ⟨⟨by omega, by omega⟩, ⟨by omega, by omega⟩, fun m4 e4 m6 e6 m8 e8 m10 e10 => jm_qvI ?_⟩, fun r => by omega⟩
      rw [e4, jm_wrO (by decide)] at e6
      rw [e6, jm_wrO (by decide), jm_wrO (by decide)] at e8
      rw [e8, jm_wrO (by decide), jm_wrO (by decide), jm_wrO (by decide)] at e10
      have ne : ∀ x, ¬ x = i → m10.1 57 x = m1.1 57 x ∧ m10.1 58 x = m1.1 58 x ∧ m10.1 59 x = m1.1 59 x ∧ m10.1 60 x = m1.1 60 x := fun x hx => by
        rw [e10, jm_wrI hx, jm_wrI hx, jm_wrI hx, jm_wrI hx, jm_wrI hx, jm_wrI hx, jm_wrI hx, jm_wrI hx, jm_wrI hx, jm_wrI hx, jm_wrI hx, jm_wrI hx, jm_wrI hx, jm_wrI hx, jm_wrI hx, jm_wrI hx]
        exact ⟨rfl, rfl, rfl, rfl⟩
      have ei : m10.1 57 i = m1.1 57 (i - s) ∧ m10.1 58 i = m1.1 58 (i - s) ∧ m10.1 59 i = m1.1 59 (i - s) ∧ m10.1 60 i = m1.1 60 (i - s) := by
        rw [e10]
        refine ⟨?_, ?_, ?_, ?_⟩
        · rw [jm_wrO (by decide), jm_wrO (by decide), jm_wrO (by decide), jm_wrS]
        · rw [jm_wrO (by decide), jm_wrO (by decide), jm_wrS]
        · rw [jm_wrO (by decide), jm_wrS]
        · rw [jm_wrS]
      refine ih (i + 1) m10 (by omega) (by omega) (by omega) (by omega) ?_ (fun y hy => ?_) (fun x hx => ?_) (fun x x0 x1 x2 => ?_) (fun c => ?_) (by omega)
      · rw [← e56, e10]
        funext z
        rw [jm_wrO (by decide), jm_wrO (by decide), jm_wrO (by decide), jm_wrO (by decide)]
      · rw [← ey y hy, e10]
        funext z
        rw [jm_wrO (by omega), jm_wrO (by omega), jm_wrO (by omega), jm_wrO (by omega)]
      · obtain ⟨a1, a2, a3, a4⟩ := ne x (by omega)
        rw [a1, a2, a3, a4]
        exact e1 x hx
      · obtain ⟨b1, b2, b3, b4⟩ := ne (x - s) (by omega)
        rw [b1, b2, b3, b4]
        by_cases e : x = i
        · rw [e]
          exact ei
        · obtain ⟨a1, a2, a3, a4⟩ := ne x e
          rw [a1, a2, a3, a4]
          exact e2 x x0 (by omega) x2
      · rw [e10]
        exact ((((cs c).wr (by decide)).wr (by decide)).wr (by decide)).wr (by decide)
end PL
