section FT
def jm_ag (S : Nat → Int → Bool) (m n : jm_M) : Prop := ∀ c i, S c i = true → n.1 c i = m.1 c i
theorem jm_ag.rf {S : Nat → Int → Bool} {m : jm_M} : jm_ag S m m := fun _ _ _ => rfl
theorem jm_ag.tr {S : Nat → Int → Bool} {a b c : jm_M} (h : jm_ag S a b) (k : jm_ag S b c) : jm_ag S a c := fun x i hx => (k x i hx).trans (h x i hx)
theorem jm_ag.cell {S : Nat → Int → Bool} {m n : jm_M} (h : jm_ag S m n) {c : Nat} (hc : ∀ i, S c i = true) : n.1 c = m.1 c := funext fun i => h c i (hc i)
theorem jm_ag.wr {S : Nat → Int → Bool} {m n : jm_M} (h : jm_ag S m n) {c : Nat} {i x : Int} (hs : S c i = false) : jm_ag S m (jm_wr n c i x) := by
  intro a j ha
  rw [← h a j ha]
  show (if a = c ∧ j = i then x else n.1 a j) = n.1 a j
  rw [if_neg]
  rintro ⟨rfl, rfl⟩
  rw [hs] at ha
  cases ha
theorem jm_ag.cp {S : Nat → Int → Bool} {m n : jm_M} (h : jm_ag S m n) {a b : Nat} {sp dp k : Int} (hs : ∀ i, S b i = false) : jm_ag S m (jm_cp n a sp b dp k) := by
  intro c j ha
  rw [← h c j ha]
  show (if c = b ∧ dp ≤ j ∧ j < dp + k then n.1 a (sp + (j - dp)) else n.1 c j) = n.1 c j
  rw [if_neg]
  rintro ⟨rfl, -⟩
  rw [hs j] at ha
  cases ha
theorem jm_aC.ag {S : Nat → Int → Bool} {m n : jm_M} (h : jm_aC m n) (hs : ∀ c i, S c i = true → jm_cC c = true ∨ jm_fC c i = true) : jm_ag S m n := fun c i hc => by
  rcases hs c i hc with k | k
  · rw [h.1 c k]
  · exact h.2 c i k
def fCA (c : Nat) (i : Int) : Bool := (6 ≤ c && c ≤ 11)
def fRA (c : Nat) (i : Int) : Bool := (3 ≤ c && c ≤ 6) || (c == 28) || (c == 0 && i == 4) || (c == 0 && i == 9) || (c == 0 && i == 10) || (c == 0 && i == 11) || (c == 0 && i == 52)
def fCM (c : Nat) (i : Int) : Bool := (12 ≤ c && c ≤ 14)
def fRM (c : Nat) (i : Int) : Bool := (c == 17) || (c == 0 && i == 35)
def fCP (c : Nat) (i : Int) : Bool := (23 ≤ c && c ≤ 26) || (c == 22 && i == 0) || (c == 6 && i == 0)
def fRP (c : Nat) (i : Int) : Bool := (c == 19) || (c == 0 && i == 39)
def fCL (c : Nat) (i : Int) : Bool := (15 ≤ c && c ≤ 20)
def fRL (c : Nat) (i : Int) : Bool := (9 ≤ c && c ≤ 15)
def fCC (c : Nat) (i : Int) : Bool := (29 ≤ c && c ≤ 34) || (c == 6 && i == 0)
def fRC (c : Nat) (i : Int) : Bool := (c == 1) || (24 ≤ c && c ≤ 26)
def fCK (c : Nat) (i : Int) : Bool := (94 ≤ c && c ≤ 129) || (c == 0 && i == 15) || (c == 0 && i == 16) || (c == 29 && i == 4) || (c == 29 && i == 6) || (c == 29 && i == 8) || (c == 6 && i == 0)
def fRK (c : Nat) (i : Int) : Bool := (c == 2) || (24 ≤ c && c ≤ 26) || (c == 0 && i == 3)
def fCI (c : Nat) (i : Int) : Bool := (64 ≤ c && c ≤ 78) || (81 ≤ c && c ≤ 84) || (87 ≤ c && c ≤ 92) || (c == 0 && i == 13) || (c == 80 && i == 0)
def fRI (c : Nat) (i : Int) : Bool := (c == 30) || (c == 0 && i == 56)
def fCT (c : Nat) (i : Int) : Bool := (c == 2) || (c == 1 && i == 1) || (c == 1 && i == 2) || (c == 1 && i == 3)
def fRT (c : Nat) (i : Int) : Bool := (7 ≤ c && c ≤ 8) || (c == 0 && i == 13) || (c == 0 && i == 33) || (c == 0 && i == 34)
theorem IA.ag {m n m2 n2 : jm_M} (h : IA m n) (a : jm_ag fCA m m2) (b : jm_ag fRA n n2) : IA m2 n2 := by
  unfold IA at h ⊢
  rw [a.cell (c := 6) (fun _ => rfl), a.cell (c := 7) (fun _ => rfl), a.cell (c := 8) (fun _ => rfl), a.cell (c := 9) (fun _ => rfl), a.cell (c := 10) (fun _ => rfl), a.cell (c := 11) (fun _ => rfl), b.cell (c := 3) (fun _ => rfl), b.cell (c := 4) (fun _ => rfl), b.cell (c := 5) (fun _ => rfl), b.cell (c := 6) (fun _ => rfl), b.cell (c := 28) (fun _ => rfl), b 0 4 rfl, b 0 9 rfl, b 0 10 rfl, b 0 11 rfl, b 0 52 rfl]
  exact h
theorem IM.ag {m n m2 n2 : jm_M} (h : IM m n) (a : jm_ag fCM m m2) (b : jm_ag fRM n n2) : IM m2 n2 := by
  unfold IM at h ⊢
  rw [a.cell (c := 12) (fun _ => rfl), a.cell (c := 13) (fun _ => rfl), a.cell (c := 14) (fun _ => rfl), b.cell (c := 17) (fun _ => rfl), b 0 35 rfl]
  exact h
theorem IP.ag {m n m2 n2 : jm_M} (h : IP m n) (a : jm_ag fCP m m2) (b : jm_ag fRP n n2) : IP m2 n2 := by
  unfold IP at h ⊢
  rw [a.cell (c := 23) (fun _ => rfl), a.cell (c := 24) (fun _ => rfl), a.cell (c := 25) (fun _ => rfl), a.cell (c := 26) (fun _ => rfl), a 22 0 rfl, a 6 0 rfl, b.cell (c := 19) (fun _ => rfl), b 0 39 rfl]
  exact h
theorem IL.ag {m n m2 n2 : jm_M} (h : IL m n) (a : jm_ag fCL m m2) (b : jm_ag fRL n n2) : IL m2 n2 := by
  unfold IL at h ⊢
  rw [a.cell (c := 15) (fun _ => rfl), a.cell (c := 16) (fun _ => rfl), a.cell (c := 17) (fun _ => rfl), a.cell (c := 18) (fun _ => rfl), a.cell (c := 19) (fun _ => rfl), a.cell (c := 20) (fun _ => rfl), b.cell (c := 9) (fun _ => rfl), b.cell (c := 10) (fun _ => rfl), b.cell (c := 11) (fun _ => rfl), b.cell (c := 12) (fun _ => rfl), b.cell (c := 13) (fun _ => rfl), b.cell (c := 14) (fun _ => rfl), b.cell (c := 15) (fun _ => rfl)]
  exact h
theorem IT.ag {m n m2 n2 : jm_M} (h : IT m n) (a : jm_ag fCT m m2) (b : jm_ag fRT n n2) : IT m2 n2 := by
  unfold IT at h ⊢
  rw [a.cell (c := 2) (fun _ => rfl), a 1 1 rfl, a 1 2 rfl, a 1 3 rfl, b.cell (c := 7) (fun _ => rfl), b.cell (c := 8) (fun _ => rfl), b 0 13 rfl, b 0 33 rfl, b 0 34 rfl]
  exact h
theorem IC.ag {m n m2 n2 : jm_M} (h : IC m n) (a : jm_ag fCC m m2) (b : jm_ag fRC n n2) : IC m2 n2 := by
  unfold IC at h ⊢
  rw [a 6 0 rfl, b.cell (c := 1) (fun _ => rfl), b.cell (c := 24) (fun _ => rfl), b.cell (c := 25) (fun _ => rfl), b.cell (c := 26) (fun _ => rfl)]
  exact h.ext (a.cell (c := 29) (fun _ => rfl)) (a.cell (c := 30) (fun _ => rfl)) (a.cell (c := 31) (fun _ => rfl)) (a.cell (c := 32) (fun _ => rfl)) (a.cell (c := 33) (fun _ => rfl)) (a.cell (c := 34) (fun _ => rfl))
theorem fCKc {c : Nat} (h : 94 ≤ c ∧ c ≤ 129) (i : Int) : fCK c i = true := by
  unfold fCK
  simp
  omega
theorem jm_le.e2 {m m' : jm_M} {x y : Nat} (h : jm_le m x y) (x4 : m'.1 x 4 = m.1 x 4) (x6 : m'.1 x 6 = m.1 x 6) (x8 : m'.1 x 8 = m.1 x 8) (y4 : m'.1 y 4 = m.1 y 4) (y6 : m'.1 y 6 = m.1 y 6) (y8 : m'.1 y 8 = m.1 y 8) : jm_le m' x y := by
  unfold jm_le at h ⊢
  rw [x4, x6, x8, y4, y6, y8]
  exact h
theorem IK.ag {m n m2 n2 : jm_M} (h : IK m n) (a : jm_ag fCK m m2) (b : jm_ag fRK n n2) : IK m2 n2 := by
  obtain ⟨h1, h2, h3, h4⟩ := h
  have cc : ∀ (j : Int) (k : Nat), k ≤ 5 → m2.1 (jm_kc m j + k) = m.1 (jm_kc m j + k) := fun j k hk => by
    have := jm_kcB m j
    exact a.cell (fCKc (by omega))
  have kk : ∀ j, jm_kc m2 j = jm_kc m j := fun j => by
    unfold jm_kc
    rw [a 0 15 rfl, a 0 16 rfl]
  have r2 : n2.1 2 = n.1 2 := b.cell (fun _ => rfl)
  have r24 : n2.1 24 = n.1 24 := b.cell (fun _ => rfl)
  have r25 : n2.1 25 = n.1 25 := b.cell (fun _ => rfl)
  have r26 : n2.1 26 = n.1 26 := b.cell (fun _ => rfl)
  refine ⟨by rw [a 0 15 rfl, b 0 3 rfl]; exact h1, by rw [a 0 16 rfl]; exact h2, fun j j0 j1 => ?_, fun i j i0 ij j1 => ?_⟩
  · rw [a 0 15 rfl] at j1
    obtain ⟨k1, k2⟩ := h3 j j0 j1
    rw [kk, a 6 0 rfl, r2, r24, r25, r26]
    have e0 : m2.1 (jm_kc m j) = m.1 (jm_kc m j) := cc j 0 (by omega)
    exact ⟨k1.ext e0 (cc j 1 (by omega)) (cc j 2 (by omega)) (cc j 3 (by omega)) (cc j 4 (by omega)) (cc j 5 (by omega)), k2.e2 (by rw [e0]) (by rw [e0]) (by rw [e0]) (a 29 4 rfl) (a 29 6 rfl) (a 29 8 rfl)⟩
  · rw [a 0 15 rfl] at j1
    rw [kk, kk]
    exact (h4 i j i0 ij j1).ext (cc i 0 (by omega)) (cc j 0 (by omega))
theorem IAi.ag {m n m2 n2 : jm_M} (h : IAi m n) (a : jm_ag fCI m m2) (b : jm_ag fRI n n2) : IAi m2 n2 := by
  unfold IAi at h ⊢
  rw [a.cell (c := 64) (fun _ => rfl), a.cell (c := 65) (fun _ => rfl), a.cell (c := 66) (fun _ => rfl), a.cell (c := 67) (fun _ => rfl), a.cell (c := 68) (fun _ => rfl), a.cell (c := 69) (fun _ => rfl), b.cell (c := 30) (fun _ => rfl)]
  exact h
theorem IMi.ag {m n m2 n2 : jm_M} (h : IMi m n) (a : jm_ag fCI m m2) (b : jm_ag fRI n n2) : IMi m2 n2 := by
  unfold IMi at h ⊢
  rw [a.cell (c := 70) (fun _ => rfl), a.cell (c := 71) (fun _ => rfl), a.cell (c := 72) (fun _ => rfl), b.cell (c := 30) (fun _ => rfl)]
  exact h
theorem IPi.ag {m n m2 n2 : jm_M} (h : IPi m n) (a : jm_ag fCI m m2) (b : jm_ag fRI n n2) : IPi m2 n2 := by
  unfold IPi at h ⊢
  rw [a.cell (c := 81) (fun _ => rfl), a.cell (c := 82) (fun _ => rfl), a.cell (c := 83) (fun _ => rfl), a.cell (c := 84) (fun _ => rfl), a.cell (c := 64) (fun _ => rfl), a 80 0 rfl, b.cell (c := 30) (fun _ => rfl)]
  exact h
theorem ILi.ag {m n m2 n2 : jm_M} (h : ILi m n) (a : jm_ag fCI m m2) (b : jm_ag fRI n n2) : ILi m2 n2 := by
  unfold ILi at h ⊢
  rw [a.cell (c := 73) (fun _ => rfl), a.cell (c := 74) (fun _ => rfl), a.cell (c := 75) (fun _ => rfl), a.cell (c := 76) (fun _ => rfl), a.cell (c := 77) (fun _ => rfl), a.cell (c := 78) (fun _ => rfl), b.cell (c := 30) (fun _ => rfl)]
  exact h
theorem II.ag {m n m2 n2 : jm_M} (h : II m n) (a : jm_ag fCI m m2) (b : jm_ag fRI n n2) : II m2 n2 := by
  obtain ⟨h1, h2, h3⟩ := h
  refine ⟨by rw [a 0 13 rfl, b 0 56 rfl]; exact h1, by rw [a 0 13 rfl]; exact h2, fun q => ?_⟩
  rw [a 0 13 rfl] at q
  obtain ⟨k1, k2, k3, k4, k5⟩ := h3 q
  refine ⟨k1.ag a b, k2.ag a b, k3.ag a b, k4.ag a b, ?_⟩
  rw [a.cell (c := 64) (fun _ => rfl), b.cell (c := 30) (fun _ => rfl)]
  exact k5.ext (a.cell (c := 87) (fun _ => rfl)) (a.cell (c := 88) (fun _ => rfl)) (a.cell (c := 89) (fun _ => rfl)) (a.cell (c := 90) (fun _ => rfl)) (a.cell (c := 91) (fun _ => rfl)) (a.cell (c := 92) (fun _ => rfl))
theorem IK.clear {m n : jm_M} (h : IK m n) : IK (jm_wr (jm_wr m 0 15 0) 0 16 0) (jm_wr n 0 3 0) := by
  have e15 : (jm_wr (jm_wr m 0 15 0) 0 16 0).1 0 15 = 0 := by simp [jm_wr]
  have e16 : (jm_wr (jm_wr m 0 15 0) 0 16 0).1 0 16 = 0 := by simp [jm_wr]
  refine ⟨⟨by omega, by omega, by rw [e15]; simp [jm_wr]⟩, ⟨by omega, by omega⟩, fun j j0 j1 => by omega, fun i j i0 ij j1 => by omega⟩
end FT
