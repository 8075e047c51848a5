section LW0
/-- behind the law's entry: warmed, and nothing that was there has changed -/
def lw_st (s0 : State) : State → Prop := fun t => s0.WarmedH t.vm ∧ s0.heap.size ≤ t.heap.size ∧ ∀ q : Nat, q < s0.heap.size → t.heap[q]? = s0.heap[q]?
theorem lw_st_rf (s0 : State) : lw_st s0 s0 := ⟨State.WarmedH.refl s0, Nat.le_refl _, fun _ _ => rfl⟩
theorem lw_ok {g : jm_G} {s0 : State} {mu : jm_M} (hP : g.2.2.2.2 = lw_st s0) (hD : va_D (fun q : Nat => s0.heap.size ≤ q) (jm_w g mu)) : jm_ok g := by
  refine ⟨jm_inj hD, fun s t hs hW hF => ?_⟩
  rw [hP] at hs ⊢
  obtain ⟨h1, h2, h3⟩ := hs
  have hA : ∀ q, jm_A g q → s0.heap.size ≤ q := by
    intro q hq
    obtain ⟨k, hk, e⟩ := hq
    have h := hD.2 k (g.2.2.1 k, jm_el g mu k g.1[k]) (jm_wa (List.getElem?_eq_getElem hk))
    rw [e]
    exact h
  refine ⟨?_, Nat.le_trans h2 hF.1, fun q hq => ?_⟩
  · exact State.WarmedH.trans h1 hW
  · rw [hF.2 q (Nat.lt_of_lt_of_le hq h2) (fun z => absurd (hA q z) (Nat.not_le.mpr hq))]
    exact h3 q hq
end LW0
