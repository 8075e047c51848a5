section ST
variable {l : Launch} {gC gR : jm_G} {d : Nat} {mu nu m n : jm_M} {v1 v2 v3 v4 v5 : Int} {Q : Option Value → jm_M → Prop}
/-- the chords one after another: how many, and the first -/
def sb (mu : jm_M) (a b : Nat) : Bool := decide (sd mu a b = 1)
def fitz (mu : jm_M) (nt x y z : Nat) : Bool := sb mu nt z && (sb mu x z && sb mu y z)
def stz (mu : jm_M) (nt D0 x y : Nat) (s : Int × Int) : Nat → Int × Int
  | 0 => s
  | k + 1 => if fitz mu nt x y (D0 + k) = true then ((stz mu nt D0 x y s k).1 + 1, if (stz mu nt D0 x y s k).1 = 0 then ((10000 * x + 100 * y + (D0 + k) : Nat) : Int) else (stz mu nt D0 x y s k).2) else stz mu nt D0 x y s k
def sty (mu : jm_M) (nt D0 DK C0 x : Nat) (s : Int × Int) : Nat → Int × Int
  | 0 => s
  | k + 1 => if (sb mu nt (C0 + k) && sb mu x (C0 + k)) = true then stz mu nt D0 x (C0 + k) (sty mu nt D0 DK C0 x s k) DK else sty mu nt D0 DK C0 x s k
def stx (mu : jm_M) (nt D0 DK C0 CK B0 : Nat) : Nat → Int × Int
  | 0 => (0, -1)
  | k + 1 => if sb mu nt (B0 + k) = true then sty mu nt D0 DK C0 (B0 + k) (stx mu nt D0 DK C0 CK B0 k) CK else stx mu nt D0 DK C0 CK B0 k
def okCh (s : Int × Int) : Prop := (s.1 = 0 ∧ s.2 = -1) ∨ (0 < s.1 ∧ ∃ x y z : Nat, (1 ≤ x ∧ x ≤ 60) ∧ (1 ≤ y ∧ y ≤ 60) ∧ (1 ≤ z ∧ z ≤ 60) ∧ s.2 = ((10000 * x + 100 * y + z : Nat) : Int))
theorem okCh_r {s : Int × Int} (h : okCh s) : 0 ≤ s.1 ∧ -1 ≤ s.2 ∧ s.2 ≤ 1000000 := by
  rcases h with ⟨a, b⟩ | ⟨a, x, y, z, hx, hy, hz, e⟩
  · omega
  · omega
theorem stz_ok {nt D0 x y : Nat} {s : Int × Int} (hs : okCh s) (x1 : 1 ≤ x ∧ x ≤ 60) (y1 : 1 ≤ y ∧ y ≤ 60) (d1 : 1 ≤ D0) : ∀ k : Nat, D0 + k ≤ 61 → okCh (stz mu nt D0 x y s k)
  | 0, _ => hs
  | k + 1, h => by
    have ih := stz_ok (nt := nt) hs x1 y1 d1 k (by omega)
    show okCh (if fitz mu nt x y (D0 + k) = true then ((stz mu nt D0 x y s k).1 + 1, if (stz mu nt D0 x y s k).1 = 0 then ((10000 * x + 100 * y + (D0 + k) : Nat) : Int) else (stz mu nt D0 x y s k).2) else stz mu nt D0 x y s k)
    split
    · rcases ih with ⟨a, b⟩ | ⟨a, x', y', z', hx, hy, hz, e⟩
      · right
        refine ⟨by show 0 < _ + 1; omega, x, y, D0 + k, x1, y1, ⟨by omega, by omega⟩, ?_⟩
        show (if _ then _ else _) = _
        rw [if_pos a]
      · right
        refine ⟨by show 0 < _ + 1; omega, x', y', z', hx, hy, hz, ?_⟩
        show (if _ then _ else _) = _
        rw [if_neg (by omega)]
        exact e
    · exact ih
theorem stz_b {nt D0 x y : Nat} {s : Int × Int} : ∀ k : Nat, s.1 ≤ (stz mu nt D0 x y s k).1 ∧ (stz mu nt D0 x y s k).1 ≤ s.1 + k
  | 0 => by
    show s.1 ≤ s.1 ∧ s.1 ≤ s.1 + ((0 : Nat) : Int)
    omega
  | k + 1 => by
    have ih := stz_b (nt := nt) (D0 := D0) (x := x) (y := y) (s := s) k
    unfold stz
    split
    · show s.1 ≤ _ + 1 ∧ _ + 1 ≤ _
      omega
    · omega
theorem sty_ok {nt D0 DK C0 x : Nat} {s : Int × Int} (hs : okCh s) (x1 : 1 ≤ x ∧ x ≤ 60) (c1 : 1 ≤ C0) (d1 : 1 ≤ D0) (d2 : D0 + DK ≤ 61) : ∀ k : Nat, C0 + k ≤ 61 → okCh (sty mu nt D0 DK C0 x s k)
  | 0, _ => hs
  | k + 1, h => by
    have ih := sty_ok (nt := nt) hs x1 c1 d1 d2 k (by omega)
    unfold sty
    split
    · exact stz_ok ih x1 ⟨by omega, by omega⟩ d1 DK d2
    · exact ih
theorem sty_b {nt D0 DK C0 x : Nat} {s : Int × Int} (d2 : DK ≤ 60) : ∀ k : Nat, s.1 ≤ (sty mu nt D0 DK C0 x s k).1 ∧ (sty mu nt D0 DK C0 x s k).1 ≤ s.1 + 60 * k
  | 0 => by
    show s.1 ≤ s.1 ∧ s.1 ≤ s.1 + 60 * ((0 : Nat) : Int)
    omega
  | k + 1 => by
    have ih := sty_b (nt := nt) (D0 := D0) (C0 := C0) (x := x) (s := s) d2 k
    have t := stz_b (mu := mu) (nt := nt) (D0 := D0) (x := x) (y := C0 + k) (s := sty mu nt D0 DK C0 x s k) DK
    unfold sty
    split <;> omega
theorem stx_ok {nt D0 DK C0 CK B0 : Nat} (b1 : 1 ≤ B0) (c1 : 1 ≤ C0) (c2 : C0 + CK ≤ 61) (d1 : 1 ≤ D0) (d2 : D0 + DK ≤ 61) : ∀ k : Nat, B0 + k ≤ 61 → okCh (stx mu nt D0 DK C0 CK B0 k)
  | 0, _ => Or.inl ⟨rfl, rfl⟩
  | k + 1, h => by
    have ih := stx_ok (nt := nt) b1 c1 c2 d1 d2 k (by omega)
    unfold stx
    split
    · exact sty_ok ih ⟨by omega, by omega⟩ c1 d1 d2 CK c2
    · exact ih
theorem stx_b {nt D0 DK C0 CK B0 : Nat} (c2 : CK ≤ 60) (d2 : DK ≤ 60) : ∀ k : Nat, 0 ≤ (stx mu nt D0 DK C0 CK B0 k).1 ∧ (stx mu nt D0 DK C0 CK B0 k).1 ≤ 3600 * k
  | 0 => by
    show (0 : Int) ≤ 0 ∧ (0 : Int) ≤ 3600 * ((0 : Nat) : Int)
    omega
  | k + 1 => by
    have ih := stx_b (nt := nt) (D0 := D0) (C0 := C0) (B0 := B0) c2 d2 k
    have t := sty_b (mu := mu) (nt := nt) (D0 := D0) (C0 := C0) (x := B0 + k) (s := stx mu nt D0 DK C0 CK B0 k) d2 CK
    unfold stx
    split <;> omega
/-- what the walk along one pair of notes comes to -/
def cz (mu : jm_M) (nt D0 x y : Nat) (k : Nat) : Int := sN (fun i => if fitz mu nt x y (D0 + i) = true then 1 else 0) k
theorem stz_1 {nt D0 x y : Nat} {s : Int × Int} : ∀ k : Nat, (stz mu nt D0 x y s k).1 = s.1 + cz mu nt D0 x y k
  | 0 => (Int.add_zero _).symm
  | k + 1 => by
    have ih := stz_1 (nt := nt) (D0 := D0) (x := x) (y := y) (s := s) k
    have e : cz mu nt D0 x y (k + 1) = cz mu nt D0 x y k + (if fitz mu nt x y (D0 + k) = true then 1 else 0) := rfl
    rw [e]
    unfold stz
    split
    · show _ + 1 = _
      omega
    · omega
theorem stz_2 {nt D0 x y : Nat} {s : Int × Int} : ∀ k : Nat, (∀ i, i < k → fitz mu nt x y (D0 + i) = false) → stz mu nt D0 x y s k = s ∧ cz mu nt D0 x y k = 0
  | 0, _ => ⟨rfl, rfl⟩
  | k + 1, h => by
    have ih := stz_2 (s := s) k (fun i hi => h i (by omega))
    have e : cz mu nt D0 x y (k + 1) = cz mu nt D0 x y k + (if fitz mu nt x y (D0 + k) = true then 1 else 0) := rfl
    have f : ¬ fitz mu nt x y (D0 + k) = true := by rw [h k (by omega)]; decide
    rw [e, if_neg f, ih.2]
    unfold stz
    rw [if_neg f]
    exact ⟨ih.1, rfl⟩
theorem cz_p {nt D0 x y k0 : Nat} (h0 : fitz mu nt x y (D0 + k0) = true) : ∀ k : Nat, 0 ≤ cz mu nt D0 x y k ∧ (k0 < k → 0 < cz mu nt D0 x y k)
  | 0 => ⟨Int.le_refl 0, fun h => by omega⟩
  | k + 1 => by
    have ih := cz_p h0 k
    have e : cz mu nt D0 x y (k + 1) = cz mu nt D0 x y k + (if fitz mu nt x y (D0 + k) = true then 1 else 0) := rfl
    rw [e]
    by_cases q : k0 = k
    · subst q
      rw [if_pos h0]
      omega
    · split <;> exact ⟨by omega, fun h => by have := ih.2 (by omega); omega⟩
theorem stz_3 {nt D0 x y k0 : Nat} {s : Int × Int} (s0 : 0 ≤ s.1) (h0 : fitz mu nt x y (D0 + k0) = true) (h1 : ∀ i, i < k0 → fitz mu nt x y (D0 + i) = false) : ∀ k : Nat, k0 < k → (stz mu nt D0 x y s k).2 = if s.1 = 0 then ((10000 * x + 100 * y + (D0 + k0) : Nat) : Int) else s.2
  | 0, h => by omega
  | k + 1, h => by
    by_cases q : k0 = k
    · subst q
      have := stz_2 (s := s) k0 h1
      unfold stz
      rw [if_pos h0, this.1]
    · have ih := stz_3 s0 h0 h1 k (by omega)
      have p := (cz_p h0 k).2 (by omega)
      have t := stz_1 (mu := mu) (nt := nt) (D0 := D0) (x := x) (y := y) (s := s) k
      unfold stz
      split
      · show (if _ then _ else _) = _
        rw [if_neg (by omega)]
        exact ih
      · exact ih
theorem fst_or (p : Nat → Bool) : ∀ k : Nat, (∀ i, i < k → p i = false) ∨ ∃ k0, k0 < k ∧ p k0 = true ∧ ∀ i, i < k0 → p i = false
  | 0 => Or.inl (fun i h => by omega)
  | k + 1 => by
    rcases fst_or p k with h | ⟨k0, a, b, c⟩
    · cases q : p k
      · left
        intro i hi
        by_cases e : i = k
        · subst e; exact q
        · exact h i (by omega)
      · right
        exact ⟨k, by omega, q, h⟩
    · right
      exact ⟨k0, by omega, b, c⟩
theorem sty_0 {nt D0 DK C0 x : Nat} {s : Int × Int} : ∀ k : Nat, (∀ i, i < k → (sb mu nt (C0 + i) && sb mu x (C0 + i)) = false) → sty mu nt D0 DK C0 x s k = s
  | 0, _ => rfl
  | k + 1, h => by
    have ih := sty_0 (nt := nt) (D0 := D0) (DK := DK) (s := s) k (fun i hi => h i (by omega))
    unfold sty
    rw [h k (by omega), if_neg (by decide)]
    exact ih
/-- the reference's three loops -/
theorem sd_sb (mu : jm_M) (a b : Nat) : sd mu a b = if sb mu a b = true then 1 else 0 := by
  unfold sb
  rcases sd_01 mu a b with h | h <;> rw [h] <;> simp
theorem lX12_cz (hR : jm_HR gR) (hA : IA mu nu) {b c w what : Int} {nt D0 DK x y : Nat} {s : Int × Int} (n1 : nt ≤ 60) (x1 : x ≤ 60) (y1 : y ≤ 60) (w0 : 0 ≤ w) (w1 : w < mu.1 6 0) (hD : mu.1 7 w = D0) (hK : mu.1 8 w + 1 = ((D0 + DK : Nat) : Int)) (s0 : 0 ≤ s.1) (s1 : s.1 ≤ 1000000) (h : jm_V l gR (d + 3) iX12_chord 98 [(0, .ref 0), (2, jm_i b), (3, jm_i c), (4, jm_i w), (5, jm_i nt), (6, jm_i what), (7, jm_i (stz mu nt D0 x y s DK).1), (8, jm_i (stz mu nt D0 x y s DK).2), (9, jm_i x), (10, jm_i ((y : Int) + 1))] [] nu Q) (j : Nat) : ∀ k : Nat, k + j = DK → jm_V l gR (d + 3) iX12_chord 143 [(0, .ref 0), (2, jm_i b), (3, jm_i c), (4, jm_i w), (5, jm_i nt), (6, jm_i what), (7, jm_i (stz mu nt D0 x y s k).1), (8, jm_i (stz mu nt D0 x y s k).2), (9, jm_i x), (10, jm_i y), (11, jm_i ((D0 + k : Nat) : Int))] [] nu Q := by
  obtain ⟨W0, w8, -⟩ := hA.1
  have hw := hA.2.1 w w0 w1
  induction j with
  | zero =>
    intro k hk
    have e : k = DK := by omega
    subst e
    exact bX12_chord_143 hR ⟨⟨by omega, by omega⟩, ⟨by omega, by omega⟩, fun _ => h, fun r => by omega⟩
  | succ j ih =>
    intro k hk
    have nx := ih (k + 1) (by omega)
    rw [show ((D0 + (k + 1) : Nat) : Int) = ((D0 + k : Nat) : Int) + 1 by omega] at nx
    have sb1 := stz_b (mu := mu) (nt := nt) (D0 := D0) (x := x) (y := y) (s := s) k
    have no : fitz mu nt x y (D0 + k) = false → jm_V l gR (d + 3) iX12_chord 143 [(0, .ref 0), (2, jm_i b), (3, jm_i c), (4, jm_i w), (5, jm_i nt), (6, jm_i what), (7, jm_i (stz mu nt D0 x y s k).1), (8, jm_i (stz mu nt D0 x y s k).2), (9, jm_i x), (10, jm_i y), (11, jm_i (((D0 + k : Nat) : Int) + 1))] [] nu Q := by
      intro q
      have e : stz mu nt D0 x y s (k + 1) = stz mu nt D0 x y s k := if_neg (by rw [q]; decide)
      rw [e] at nx
      exact nx
    refine bX12_chord_143 hR ⟨⟨by omega, by omega⟩, ⟨by omega, by omega⟩, fun r => by omega, fun _ => sX12_doSound hR hA ⟨by omega, by omega⟩ ⟨by omega, by omega⟩ ?_⟩
    rw [sd_sb]
    cases q1 : sb mu nt (D0 + k)
    · exact jm_qiI ⟨by decide, by decide⟩ ⟨fun _ => no (by unfold fitz; rw [q1]; rfl), fun r => absurd rfl r⟩
    · refine jm_qiI ⟨by decide, by decide⟩ ⟨fun r => absurd r (by decide), fun _ => sX12_doSound hR hA ⟨by omega, by omega⟩ ⟨by omega, by omega⟩ ?_⟩
      rw [sd_sb]
      cases q2 : sb mu x (D0 + k)
      · exact jm_qiI ⟨by decide, by decide⟩ ⟨fun _ => no (by unfold fitz; rw [q1, q2]; rfl), fun r => absurd rfl r⟩
      · refine jm_qiI ⟨by decide, by decide⟩ ⟨fun r => absurd r (by decide), fun _ => sX12_doSound hR hA ⟨by omega, by omega⟩ ⟨by omega, by omega⟩ ?_⟩
        rw [sd_sb]
        cases q3 : sb mu y (D0 + k)
        · exact jm_qiI ⟨by decide, by decide⟩ ⟨fun r => absurd rfl r, fun _ => no (by unfold fitz; rw [q1, q2, q3]; rfl)⟩
        · have f : fitz mu nt x y (D0 + k) = true := by unfold fitz; rw [q1, q2, q3]; rfl
          have e : stz mu nt D0 x y s (k + 1) = ((stz mu nt D0 x y s k).1 + 1, if (stz mu nt D0 x y s k).1 = 0 then ((10000 * x + 100 * y + (D0 + k) : Nat) : Int) else (stz mu nt D0 x y s k).2) := if_pos f
          rw [e] at nx
          refine jm_qiI ⟨by decide, by decide⟩ ⟨fun _ => ⟨⟨by omega, by omega⟩, fun z x16 e16 => ?_, fun z x17 e17 x18 e18 => ?_⟩, fun r => absurd r (by decide)⟩
          · rw [if_neg z] at nx
            rw [e16]
            exact nx
          · rw [if_pos z] at nx
            rw [e18, e17, show (10000 * (x : Int)) + (100 * (y : Int)) + ((D0 + k : Nat) : Int) = ((10000 * x + 100 * y + (D0 + k) : Nat) : Int) by omega]
            exact nx
theorem lX12_cy (hR : jm_HR gR) (hA : IA mu nu) {b c w what : Int} {nt C0 CK D0 DK x : Nat} {s : Int × Int} (n1 : nt ≤ 60) (x1 : x ≤ 60) (c0 : 0 ≤ c) (c1 : c < mu.1 6 0) (hC0 : mu.1 7 c = C0) (hCK : mu.1 8 c + 1 = ((C0 + CK : Nat) : Int)) (w0 : 0 ≤ w) (w1 : w < mu.1 6 0) (hD : mu.1 7 w = D0) (hK : mu.1 8 w + 1 = ((D0 + DK : Nat) : Int)) (s0 : 0 ≤ s.1) (s1 : s.1 ≤ 900000) (h : jm_V l gR (d + 3) iX12_chord 65 [(0, .ref 0), (2, jm_i b), (3, jm_i c), (4, jm_i w), (5, jm_i nt), (6, jm_i what), (7, jm_i (sty mu nt D0 DK C0 x s CK).1), (8, jm_i (sty mu nt D0 DK C0 x s CK).2), (9, jm_i ((x : Int) + 1))] [] nu Q) (j : Nat) : ∀ k : Nat, k + j = CK → jm_V l gR (d + 3) iX12_chord 98 [(0, .ref 0), (2, jm_i b), (3, jm_i c), (4, jm_i w), (5, jm_i nt), (6, jm_i what), (7, jm_i (sty mu nt D0 DK C0 x s k).1), (8, jm_i (sty mu nt D0 DK C0 x s k).2), (9, jm_i x), (10, jm_i ((C0 + k : Nat) : Int))] [] nu Q := by
  obtain ⟨W0, w8, -⟩ := hA.1
  have hc := hA.2.1 c c0 c1
  have hw := hA.2.1 w w0 w1
  induction j with
  | zero =>
    intro k hk
    have e : k = CK := by omega
    subst e
    exact bX12_chord_98 hR ⟨⟨by omega, by omega⟩, ⟨by omega, by omega⟩, fun _ => h, fun r => by omega⟩
  | succ j ih =>
    intro k hk
    have nx := ih (k + 1) (by omega)
    rw [show ((C0 + (k + 1) : Nat) : Int) = ((C0 + k : Nat) : Int) + 1 by omega] at nx
    have sb1 := sty_b (mu := mu) (nt := nt) (D0 := D0) (DK := DK) (C0 := C0) (x := x) (s := s) (by omega) k
    have no : (sb mu nt (C0 + k) && sb mu x (C0 + k)) = false → jm_V l gR (d + 3) iX12_chord 98 [(0, .ref 0), (2, jm_i b), (3, jm_i c), (4, jm_i w), (5, jm_i nt), (6, jm_i what), (7, jm_i (sty mu nt D0 DK C0 x s k).1), (8, jm_i (sty mu nt D0 DK C0 x s k).2), (9, jm_i x), (10, jm_i (((C0 + k : Nat) : Int) + 1))] [] nu Q := by
      intro q
      have e : sty mu nt D0 DK C0 x s (k + 1) = sty mu nt D0 DK C0 x s k := if_neg (by rw [q]; decide)
      rw [e] at nx
      exact nx
    refine bX12_chord_98 hR ⟨⟨by omega, by omega⟩, ⟨by omega, by omega⟩, fun r => by omega, fun _ => sX12_doSound hR hA ⟨by omega, by omega⟩ ⟨by omega, by omega⟩ ?_⟩
    rw [sd_sb]
    cases q1 : sb mu nt (C0 + k)
    · exact jm_qiI ⟨by decide, by decide⟩ ⟨fun _ => no (by rw [q1]; rfl), fun r => absurd rfl r⟩
    · refine jm_qiI ⟨by decide, by decide⟩ ⟨fun r => absurd r (by decide), fun _ => sX12_doSound hR hA ⟨by omega, by omega⟩ ⟨by omega, by omega⟩ ?_⟩
      rw [sd_sb]
      cases q2 : sb mu x (C0 + k)
      · exact jm_qiI ⟨by decide, by decide⟩ ⟨fun r => absurd rfl r, fun _ => no (by rw [q1, q2]; rfl)⟩
      · refine jm_qiI ⟨by decide, by decide⟩ ⟨fun _ => ⟨⟨by omega, by omega⟩, fun x12 e12 => ?_⟩, fun r => absurd r (by decide)⟩
        have e : sty mu nt D0 DK C0 x s (k + 1) = stz mu nt D0 x (C0 + k) (sty mu nt D0 DK C0 x s k) DK := if_pos (by rw [q1, q2]; rfl)
        rw [e] at nx
        have st := lX12_cz (d := d) hR hA (b := b) (c := c) (what := what) (y := C0 + k) (s := sty mu nt D0 DK C0 x s k) n1 x1 (by omega) w0 w1 hD hK (by omega) (by omega) nx DK 0 (by omega)
        rw [e12, hw.2.2.2.2.2.1, hD]
        exact st
theorem lX12_cx (hR : jm_HR gR) (hA : IA mu nu) {b c w what : Int} {nt B0 BK C0 CK D0 DK : Nat} (n1 : nt ≤ 60) (b0 : 0 ≤ b) (b1 : b < mu.1 6 0) (hB0 : mu.1 7 b = B0) (hBK : mu.1 8 b + 1 = ((B0 + BK : Nat) : Int)) (c0 : 0 ≤ c) (c1 : c < mu.1 6 0) (hC0 : mu.1 7 c = C0) (hCK : mu.1 8 c + 1 = ((C0 + CK : Nat) : Int)) (w0 : 0 ≤ w) (w1 : w < mu.1 6 0) (hD : mu.1 7 w = D0) (hK : mu.1 8 w + 1 = ((D0 + DK : Nat) : Int)) (rw6 : jm_rg what) (h : Q (some (jm_i (if what = 0 then (stx mu nt D0 DK C0 CK B0 BK).1 else if (stx mu nt D0 DK C0 CK B0 BK).2 = -1 then -1 else if what = 1 then (stx mu nt D0 DK C0 CK B0 BK).2 / 10000 else if what = 2 then (stx mu nt D0 DK C0 CK B0 BK).2 / 100 % 100 else (stx mu nt D0 DK C0 CK B0 BK).2 % 100))) nu) (j : Nat) : ∀ k : Nat, k + j = BK → jm_V l gR (d + 3) iX12_chord 65 [(0, .ref 0), (2, jm_i b), (3, jm_i c), (4, jm_i w), (5, jm_i nt), (6, jm_i what), (7, jm_i (stx mu nt D0 DK C0 CK B0 k).1), (8, jm_i (stx mu nt D0 DK C0 CK B0 k).2), (9, jm_i ((B0 + k : Nat) : Int))] [] nu Q := by
  obtain ⟨W0, w8, -⟩ := hA.1
  have hb := hA.2.1 b b0 b1
  have hc := hA.2.1 c c0 c1
  have hw := hA.2.1 w w0 w1
  induction j with
  | zero =>
    intro k hk
    have e : k = BK := by omega
    subst e
    have ok := okCh_r (stx_ok (mu := mu) (nt := nt) (D0 := D0) (DK := DK) (C0 := C0) (CK := CK) (B0 := B0) (by omega) (by omega) (by omega) (by omega) (by omega) k (by omega))
    refine bX12_chord_65 hR ⟨⟨by omega, by omega⟩, ⟨by omega, by omega⟩, fun _ => ⟨rw6, fun z0 => ⟨⟨by omega, by omega⟩, fun f => ⟨fun z1 => ⟨fun z2 => ?_, fun z2 => ⟨?_, ?_⟩⟩, fun z1 => ?_⟩, fun f => ?_⟩, fun z0 => ?_⟩, fun r => by omega⟩
    · rw [if_neg z0, if_neg f, if_neg z1, if_neg z2] at h
      rw [Int.tmod_eq_emod_of_nonneg (by omega)]
      exact h
    · rw [Int.tdiv_eq_ediv_of_nonneg (by omega)]
      exact ⟨by omega, by omega⟩
    · rw [if_neg z0, if_neg f, if_neg z1, if_pos z2] at h
      rw [Int.tdiv_eq_ediv_of_nonneg (by omega), Int.tmod_eq_emod_of_nonneg (by omega)]
      exact h
    · rw [if_neg z0, if_neg f, if_pos z1] at h
      rw [Int.tdiv_eq_ediv_of_nonneg (by omega)]
      exact h
    · rw [if_neg z0, if_pos f] at h
      exact h
    · rw [if_pos z0] at h
      exact h
  | succ j ih =>
    intro k hk
    have nx := ih (k + 1) (by omega)
    rw [show ((B0 + (k + 1) : Nat) : Int) = ((B0 + k : Nat) : Int) + 1 by omega] at nx
    have sb1 := stx_b (mu := mu) (nt := nt) (D0 := D0) (DK := DK) (C0 := C0) (CK := CK) (B0 := B0) (by omega) (by omega) k
    refine bX12_chord_65 hR ⟨⟨by omega, by omega⟩, ⟨by omega, by omega⟩, fun r => by omega, fun _ => sX12_doSound hR hA ⟨by omega, by omega⟩ ⟨by omega, by omega⟩ ?_⟩
    rw [sd_sb]
    cases q1 : sb mu nt (B0 + k)
    · have e : stx mu nt D0 DK C0 CK B0 (k + 1) = stx mu nt D0 DK C0 CK B0 k := if_neg (by rw [q1]; decide)
      rw [e] at nx
      exact jm_qiI ⟨by decide, by decide⟩ ⟨fun r => absurd rfl r, fun _ => nx⟩
    · refine jm_qiI ⟨by decide, by decide⟩ ⟨fun _ => ⟨⟨by omega, by omega⟩, fun x11 e11 => ?_⟩, fun r => absurd r (by decide)⟩
      have e : stx mu nt D0 DK C0 CK B0 (k + 1) = sty mu nt D0 DK C0 (B0 + k) (stx mu nt D0 DK C0 CK B0 k) CK := if_pos q1
      rw [e] at nx
      have st := lX12_cy (d := d) hR hA (b := b) (what := what) (x := B0 + k) (s := stx mu nt D0 DK C0 CK B0 k) n1 (by omega) c0 c1 hC0 hCK w0 w1 hD hK (by omega) (by omega) nx CK 0 (by omega)
      rw [e11, hc.2.2.2.2.2.1, hC0]
      exact st
end ST
