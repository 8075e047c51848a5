section JW7
variable {g : jc_G} {P : State → Prop}
theorem fl_at : ∀ (L : List va_W) (i : Nat) (S : va_W) (j : Nat), L[i]? = some S → j < S.length → (L.flatten)[((L.take i).map List.length).sum + j]? = S[j]?
  | [], i, S, j, h, _ => by simp at h
  | A :: L, 0, S, j, h, hj => by
    have e : A = S := Option.some.inj h
    subst e
    rw [List.flatten_cons]
    show (A ++ L.flatten)[0 + j]? = A[j]?
    rw [Nat.zero_add, List.getElem?_append_left hj]
  | A :: L, i + 1, S, j, h, hj => by
    have ih := fl_at L i S j h hj
    rw [List.flatten_cons, List.take_succ_cons, List.map_cons, List.sum_cons, List.getElem?_append_right (by omega), show A.length + ((L.take i).map List.length).sum + j - A.length = ((L.take i).map List.length).sum + j by omega]
    exact ih
theorem wX11_fl {h0 ka : Nat} {b1 b2 b3 b4 b5 b6 b7 b8 b9 b10 b11 b12 b13 c0 c1 c2 c3 c4 c5 : Nat → Nat} : wX11 g h0 b1 b2 b3 b4 b5 b6 b7 b8 b9 b10 b11 b12 b13 ka c0 c1 c2 c3 c4 c5 = ([[(h0, .inr (11, [.ref (b1 0), .ref (b2 0), .ref (b3 0), .ref (b4 0), .ref (b5 0), .ref (b6 0), .ref (b7 0), .ref (b8 0), .ref (b9 0), .ref (b10 0), .ref (b11 0), .ref (b12 0), .ref (b13 0), .int 0, .ref ka, .int 0, .int 0]))], wX7 g b1, wX8 g b2, wX1 g b3, wX0 g (b2 0) (b3 0) b4, wX2 g (b4 0) (b2 0) (b3 0) b5, wX10 g (b4 0) (b2 0) (b3 0) b6, wX9 g (b4 0) (b2 0) (b3 0) b7, wX5 g b8, wX3 g b9, wX6 g b10, wX4 g (b1 0) (b9 0) b11, wX8 g b12, wX1 g b13, [(ka, .inl (g.2.2.2, 6, .inr (.inr (.inr (.inr (va_up (va_up (va_up (va_up (va_up (va_up (fun _ => none) (0 : Int32).toNatClampNeg (some (c0 0))) (1 : Int32).toNatClampNeg (some (c1 0))) (2 : Int32).toNatClampNeg (some (c2 0))) (3 : Int32).toNatClampNeg (some (c3 0))) (4 : Int32).toNatClampNeg (some (c4 0))) (5 : Int32).toNatClampNeg (some (c5 0))))))))], wX1 g c0, wX1 g c1, wX1 g c2, wX1 g c3, wX1 g c4, wX1 g c5] : List va_W).flatten := by
  simp only [wX11, List.flatten_cons, List.flatten_nil, List.append_assoc, List.nil_append, List.cons_append, List.append_nil]
theorem wX5_cg {a b : Nat → Nat} (h : ∀ j, j < 3 → a j = b j) : wX5 g a = wX5 g b := by
  unfold wX5
  rw [h 0 (by decide), h 1 (by decide), h 2 (by decide)]
theorem wX3_cg {a b : Nat → Nat} (h : ∀ j, j < 7 → a j = b j) : wX3 g a = wX3 g b := by
  unfold wX3
  rw [h 0 (by decide), h 1 (by decide), h 2 (by decide), h 3 (by decide), h 4 (by decide), h 5 (by decide), h 6 (by decide)]
theorem wX6_cg {a b : Nat → Nat} (h : ∀ j, j < 7 → a j = b j) : wX6 g a = wX6 g b := by
  unfold wX6
  rw [h 0 (by decide), h 1 (by decide), h 2 (by decide), h 3 (by decide), h 4 (by decide), h 5 (by decide), h 6 (by decide)]
theorem wX7_cg {a b : Nat → Nat} (h : ∀ j, j < 5 → a j = b j) : wX7 g a = wX7 g b := by
  unfold wX7
  rw [h 0 (by decide), h 1 (by decide), h 2 (by decide), h 3 (by decide), h 4 (by decide)]
theorem wX1_cg {a b : Nat → Nat} (h : ∀ j, j < 6 → a j = b j) : wX1 g a = wX1 g b := by
  unfold wX1
  rw [h 0 (by decide), h 1 (by decide), h 2 (by decide), h 3 (by decide), h 4 (by decide), h 5 (by decide)]
theorem wX0_cg {T C : Nat} {a b : Nat → Nat} (h : ∀ j, j < 2 → a j = b j) : wX0 g T C a = wX0 g T C b := by
  unfold wX0
  rw [h 0 (by decide), h 1 (by decide)]
theorem wX4_cg {T L : Nat} {a b : Nat → Nat} (h : ∀ j, j < 1 → a j = b j) : wX4 g T L a = wX4 g T L b := by
  unfold wX4
  rw [h 0 (by decide)]
theorem wX2_cg {B T C : Nat} {a b : Nat → Nat} (h : ∀ j, j < 1 → a j = b j) : wX2 g B T C a = wX2 g B T C b := by
  unfold wX2
  rw [h 0 (by decide)]
theorem wX9_cg {B T C : Nat} {a b : Nat → Nat} (h : ∀ j, j < 5 → a j = b j) : wX9 g B T C a = wX9 g B T C b := by
  unfold wX9
  rw [h 0 (by decide), h 1 (by decide), h 2 (by decide), h 3 (by decide), h 4 (by decide)]
theorem wX10_cg {B T C : Nat} {a b : Nat → Nat} (h : ∀ j, j < 3 → a j = b j) : wX10 g B T C a = wX10 g B T C b := by
  unfold wX10
  rw [h 0 (by decide), h 1 (by decide), h 2 (by decide)]
theorem wX8_cg {a b : Nat → Nat} (h : ∀ j, j < 23 → a j = b j) : wX8 g a = wX8 g b := by
  unfold wX8
  rw [wX5_cg (a := fun k => a (6 + k)) (b := fun k => b (6 + k)) (fun j hj => h (6 + j) (by omega)), wX3_cg (a := fun k => a (9 + k)) (b := fun k => b (9 + k)) (fun j hj => h (9 + j) (by omega)), wX6_cg (a := fun k => a (16 + k)) (b := fun k => b (16 + k)) (fun j hj => h (16 + j) (by omega)), h 0 (by decide), h 1 (by decide), h 2 (by decide), h 3 (by decide), h 4 (by decide), h 5 (by decide), h 6 (by decide), h 9 (by decide), h 16 (by decide)]
end JW7
