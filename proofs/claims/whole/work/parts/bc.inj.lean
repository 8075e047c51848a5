section JWC
theorem jm_inj {A : Nat → Prop} {g : jm_G} {mu : jm_M} (h : va_D A (jm_w g mu)) : ∀ i j, i < g.1.length → j < g.1.length → g.2.2.1 i = g.2.2.1 j → i = j := by
  intro i j hi hj e
  refine h.1 i j (g.2.2.1 i, jm_el g mu i g.1[i]) (g.2.2.1 j, jm_el g mu j g.1[j]) ?_ ?_ e
  · unfold jm_w
    rw [List.getElem?_mapIdx, List.getElem?_eq_getElem hi]
    rfl
  · unfold jm_w
    rw [List.getElem?_mapIdx, List.getElem?_eq_getElem hj]
    rfl
end JWC
