section EX
theorem jm_RmrI {l : Launch} {g : jm_G} {d : Nat} {i : jm_I} {As : List Value} {mu : jm_M} {Q : Option Value → jm_M → Prop} (h : jm_mr mu → jm_R l g d i As mu Q) : jm_R l g d i As mu Q := by
  by_cases hm : jm_mr mu
  · exact h hm
  · exact ⟨0, Nat.zero_le _, fun _ _ _ _ _ _ _ _ _ _ _ hP _ => absurd hP.2.2.2.2.2 hm⟩
/-- the cells and fields of the class that hold from call to call -/
def jm_cC (c : Nat) : Bool := c == 2 || (6 ≤ c && c ≤ 20) || (23 ≤ c && c ≤ 26) || (29 ≤ c && c ≤ 34) || (64 ≤ c && c ≤ 78) || (81 ≤ c && c ≤ 84) || (87 ≤ c && c ≤ 129)
def jm_fC (c : Nat) (i : Int) : Bool := (c == 0 && (i == 13 || i == 15 || i == 16)) || (c == 1 && (i == 1 || i == 2 || i == 3)) || (c == 22 && i == 0) || (c == 80 && i == 0)
def jm_aC (m n : jm_M) : Prop := (∀ c, jm_cC c = true → n.1 c = m.1 c) ∧ ∀ c i, jm_fC c i = true → n.1 c i = m.1 c i
def jm_cR (c : Nat) : Bool := (1 ≤ c && c ≤ 15) || c == 17 || c == 19 || (24 ≤ c && c ≤ 26) || c == 28 || c == 30
def jm_fR (i : Int) : Bool := i == 3 || i == 4 || i == 9 || i == 10 || i == 11 || i == 13 || i == 33 || i == 34 || i == 35 || i == 39 || i == 52 || i == 56
def jm_aR (m n : jm_M) : Prop := (∀ c, jm_cR c = true → n.1 c = m.1 c) ∧ ∀ i, jm_fR i = true → n.1 0 i = m.1 0 i
theorem jm_aC.rf (m : jm_M) : jm_aC m m := ⟨fun _ _ => rfl, fun _ _ _ => rfl⟩
theorem jm_aR.rf (m : jm_M) : jm_aR m m := ⟨fun _ _ => rfl, fun _ _ => rfl⟩
theorem jm_aC.tr {a b c : jm_M} (h : jm_aC a b) (k : jm_aC b c) : jm_aC a c := ⟨fun x hx => (k.1 x hx).trans (h.1 x hx), fun x i hx => (k.2 x i hx).trans (h.2 x i hx)⟩
theorem jm_aR.tr {a b c : jm_M} (h : jm_aR a b) (k : jm_aR b c) : jm_aR a c := ⟨fun x hx => (k.1 x hx).trans (h.1 x hx), fun i hx => (k.2 i hx).trans (h.2 i hx)⟩
theorem jm_aC.wr {m n : jm_M} (h : jm_aC m n) {c : Nat} {i x : Int} (hc : jm_cC c = false) (hf : jm_fC c i = false) : jm_aC m (jm_wr n c i x) := by
  refine ⟨fun a ha => ?_, fun a j ha => ?_⟩
  · funext b
    rw [jm_wrO (fun e => by rw [e, hc] at ha; cases ha), h.1 a ha]
  · rw [← h.2 a j ha]
    show (if a = c ∧ j = i then x else n.1 a j) = n.1 a j
    rw [if_neg]
    rintro ⟨rfl, rfl⟩
    rw [hf] at ha
    cases ha
theorem jm_aR.wr {m n : jm_M} (h : jm_aR m n) {c : Nat} {i x : Int} (hc : jm_cR c = false) (hf : c = 0 → jm_fR i = false) : jm_aR m (jm_wr n c i x) := by
  refine ⟨fun a ha => ?_, fun j ha => ?_⟩
  · funext b
    rw [jm_wrO (fun e => by rw [e, hc] at ha; cases ha), h.1 a ha]
  · rw [← h.2 j ha]
    show (if 0 = c ∧ j = i then x else n.1 0 j) = n.1 0 j
    rw [if_neg]
    rintro ⟨rfl, rfl⟩
    rw [hf rfl] at ha
    cases ha
theorem jm_crt.ext {mu mu' : jm_M} {c : Nat} {row tes rec bk : Int → Int} {W : Int} (h : jm_crt mu c row tes rec bk W) (e0 : mu'.1 c = mu.1 c) (e1 : mu'.1 (c + 1) = mu.1 (c + 1)) (e2 : mu'.1 (c + 2) = mu.1 (c + 2)) (e3 : mu'.1 (c + 3) = mu.1 (c + 3)) (e4 : mu'.1 (c + 4) = mu.1 (c + 4)) (e5 : mu'.1 (c + 5) = mu.1 (c + 5)) : jm_crt mu' c row tes rec bk W := by
  unfold jm_crt at h ⊢
  rw [e0, e1, e2, e3, e4, e5]
  exact h
theorem jm_kcB (mu : jm_M) (j : Int) : 94 ≤ jm_kc mu j ∧ jm_kc mu j ≤ 124 := by
  unfold jm_kc
  have h1 := Int.emod_nonneg (mu.1 0 16 + 6 - mu.1 0 15 + j) (by decide : (6 : Int) ≠ 0)
  have h2 := Int.emod_lt_of_pos (mu.1 0 16 + 6 - mu.1 0 15 + j) (by decide : (0 : Int) < 6)
  omega
theorem jm_cK {c : Nat} (h : 94 ≤ c ∧ c ≤ 129) : jm_cC c = true := by
  unfold jm_cC
  simp
  omega
theorem IA.ext {m n m' n' : jm_M} (h : IA m n) (a : jm_aC m m') (b : jm_aR n n') : IA m' n' := by
  unfold IA at h ⊢
  rw [a.1 6 rfl, a.1 7 rfl, a.1 8 rfl, a.1 9 rfl, a.1 10 rfl, a.1 11 rfl, b.2 4 rfl, b.1 3 rfl, b.1 4 rfl, b.1 5 rfl, b.1 6 rfl, b.2 9 rfl, b.2 10 rfl, b.2 11 rfl, b.2 52 rfl, b.1 28 rfl]
  exact h
theorem IM.ext {m n m' n' : jm_M} (h : IM m n) (a : jm_aC m m') (b : jm_aR n n') : IM m' n' := by
  unfold IM at h ⊢
  rw [a.1 12 rfl, a.1 13 rfl, a.1 14 rfl, b.2 35 rfl, b.1 17 rfl]
  exact h
theorem IP.ext {m n m' n' : jm_M} (h : IP m n) (a : jm_aC m m') (b : jm_aR n n') : IP m' n' := by
  unfold IP at h ⊢
  rw [a.2 22 0 rfl, a.1 23 rfl, a.1 24 rfl, a.1 25 rfl, a.1 26 rfl, a.1 6 rfl, b.2 39 rfl, b.1 19 rfl]
  exact h
theorem IL.ext {m n m' n' : jm_M} (h : IL m n) (a : jm_aC m m') (b : jm_aR n n') : IL m' n' := by
  unfold IL at h ⊢
  rw [a.1 15 rfl, a.1 16 rfl, a.1 17 rfl, a.1 18 rfl, a.1 19 rfl, a.1 20 rfl, b.1 9 rfl, b.1 10 rfl, b.1 11 rfl, b.1 12 rfl, b.1 13 rfl, b.1 14 rfl, b.1 15 rfl]
  exact h
theorem IC.ext {m n m' n' : jm_M} (h : IC m n) (a : jm_aC m m') (b : jm_aR n n') : IC m' n' := by
  unfold IC at h ⊢
  rw [a.1 6 rfl, b.1 1 rfl, b.1 24 rfl, b.1 25 rfl, b.1 26 rfl]
  exact h.ext (a.1 29 rfl) (a.1 30 rfl) (a.1 31 rfl) (a.1 32 rfl) (a.1 33 rfl) (a.1 34 rfl)
theorem jm_kc.ext {m m' : jm_M} (a : jm_aC m m') (j : Int) : jm_kc m' j = jm_kc m j := by
  unfold jm_kc
  rw [a.2 0 15 rfl, a.2 0 16 rfl]
theorem jm_le.ext {m m' : jm_M} {x y : Nat} (h : jm_le m x y) (ex : m'.1 x = m.1 x) (ey : m'.1 y = m.1 y) : jm_le m' x y := by
  unfold jm_le at h ⊢
  rw [ex, ey]
  exact h
theorem IK.ext {m n m' n' : jm_M} (h : IK m n) (a : jm_aC m m') (b : jm_aR n n') : IK m' n' := by
  obtain ⟨h1, h2, h3, h4⟩ := h
  have cc : ∀ (j : Int) (k : Nat), k ≤ 5 → m'.1 (jm_kc m j + k) = m.1 (jm_kc m j + k) := fun j k hk => by
    have := jm_kcB m j
    exact a.1 _ (jm_cK (by omega))
  refine ⟨by rw [a.2 0 15 rfl, b.2 3 rfl]; exact h1, by rw [a.2 0 16 rfl]; exact h2, fun j j0 j1 => ?_, fun i j i0 ij j1 => ?_⟩
  · rw [a.2 0 15 rfl] at j1
    obtain ⟨k1, k2⟩ := h3 j j0 j1
    rw [jm_kc.ext a, a.1 6 rfl, b.1 2 rfl, b.1 24 rfl, b.1 25 rfl, b.1 26 rfl]
    exact ⟨k1.ext (cc j 0 (by omega)) (cc j 1 (by omega)) (cc j 2 (by omega)) (cc j 3 (by omega)) (cc j 4 (by omega)) (cc j 5 (by omega)), k2.ext (cc j 0 (by omega)) (a.1 29 rfl)⟩
  · rw [a.2 0 15 rfl] at j1
    rw [jm_kc.ext a, jm_kc.ext a]
    exact (h4 i j i0 ij j1).ext (cc i 0 (by omega)) (cc j 0 (by omega))
theorem IAi.ext {m n m' n' : jm_M} (h : IAi m n) (a : jm_aC m m') (b : jm_aR n n') : IAi m' n' := by
  unfold IAi at h ⊢
  rw [a.1 64 rfl, a.1 65 rfl, a.1 66 rfl, a.1 67 rfl, a.1 68 rfl, a.1 69 rfl, b.1 30 rfl]
  exact h
theorem IMi.ext {m n m' n' : jm_M} (h : IMi m n) (a : jm_aC m m') (b : jm_aR n n') : IMi m' n' := by
  unfold IMi at h ⊢
  rw [a.1 70 rfl, a.1 71 rfl, a.1 72 rfl, b.1 30 rfl]
  exact h
theorem IPi.ext {m n m' n' : jm_M} (h : IPi m n) (a : jm_aC m m') (b : jm_aR n n') : IPi m' n' := by
  unfold IPi at h ⊢
  rw [a.2 80 0 rfl, a.1 81 rfl, a.1 82 rfl, a.1 83 rfl, a.1 84 rfl, a.1 64 rfl, b.1 30 rfl]
  exact h
theorem ILi.ext {m n m' n' : jm_M} (h : ILi m n) (a : jm_aC m m') (b : jm_aR n n') : ILi m' n' := by
  unfold ILi at h ⊢
  rw [a.1 73 rfl, a.1 74 rfl, a.1 75 rfl, a.1 76 rfl, a.1 77 rfl, a.1 78 rfl, b.1 30 rfl]
  exact h
theorem II.ext {m n m' n' : jm_M} (h : II m n) (a : jm_aC m m') (b : jm_aR n n') : II m' n' := by
  obtain ⟨h1, h2, h3⟩ := h
  refine ⟨by rw [a.2 0 13 rfl, b.2 56 rfl]; exact h1, by rw [a.2 0 13 rfl]; exact h2, fun q => ?_⟩
  rw [a.2 0 13 rfl] at q
  obtain ⟨k1, k2, k3, k4, k5⟩ := h3 q
  refine ⟨k1.ext a b, k2.ext a b, k3.ext a b, k4.ext a b, ?_⟩
  rw [a.1 64 rfl, b.1 30 rfl]
  exact k5.ext (a.1 87 rfl) (a.1 88 rfl) (a.1 89 rfl) (a.1 90 rfl) (a.1 91 rfl) (a.1 92 rfl)
theorem IT.ext {m n m' n' : jm_M} (h : IT m n) (a : jm_aC m m') (b : jm_aR n n') : IT m' n' := by
  unfold IT at h ⊢
  rw [a.2 1 1 rfl, a.2 1 2 rfl, a.2 1 3 rfl, a.1 2 rfl, b.2 13 rfl, b.2 33 rfl, b.2 34 rfl, b.1 7 rfl, b.1 8 rfl]
  exact h
theorem Iv.ext {m n m' n' : jm_M} (h : Iv m n) (a : jm_aC m m') (b : jm_aR n n') : Iv m' n' :=
  ⟨h.1.ext a b, h.2.1.ext a b, h.2.2.1.ext a b, h.2.2.2.1.ext a b, h.2.2.2.2.1.ext a b, h.2.2.2.2.2.1.ext a b, h.2.2.2.2.2.2.1.ext a b, h.2.2.2.2.2.2.2.ext a b⟩
theorem Iv.t0 {m n : jm_M} (h : Iv m n) : Iv m (jm_wr n 0 0 0) := h.ext (jm_aC.rf m) ((jm_aR.rf n).wr rfl (fun _ => rfl))
end EX
