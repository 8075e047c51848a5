section LWF
variable {b : Nat} {s : State}
theorem lw_m1 {n : Nat} {w : Cond} (h : tables_1[n]? = some w) : w ∈ lw_tbl := List.mem_append_right _ (List.mem_of_getElem? h)
theorem lw_ml {ws : List Cond} (ps : List Nat) (h : ps.map (fun n => tables_1[n]?) = ws.map some) : ∀ w ∈ ws, w ∈ lw_tbl := by
  intro w hw
  have h1 : some w ∈ ws.map some := List.mem_map.mpr ⟨w, hw, rfl⟩
  rw [← h] at h1
  obtain ⟨n, -, hn⟩ := List.mem_map.mp h1
  exact lw_m1 hn
theorem lw_cls : ∀ k : Nat, k < 13 → ∃ q : vw_C, jm_cl[k]? = some q ∧ (∀ w ∈ u_ws q.1 q.2.1 q.2.2, w ∈ jm_T) ∧ Cond.instantiable q.1 q.2.2 ∈ jm_T := by
  intro k hk
  match k, hk with
  | 0, _ => exact ⟨(RX0, TX0, 3), rfl, uX0, insX0⟩
  | 1, _ => exact ⟨(RX1, TX1, 10), rfl, uX1, insX1⟩
  | 2, _ => exact ⟨(RX2, TX2, 3), rfl, uX2, insX2⟩
  | 3, _ => exact ⟨(RX3, TX3, 8), rfl, uX3, insX3⟩
  | 4, _ => exact ⟨(RX4, TX4, 2), rfl, uX4, insX4⟩
  | 5, _ => exact ⟨(RX5, TX5, 3), rfl, uX5, insX5⟩
  | 6, _ => exact ⟨(RX6, TX6, 8), rfl, uX6, insX6⟩
  | 7, _ => exact ⟨(RX7, TX7, 9), rfl, uX7, insX7⟩
  | 8, _ => exact ⟨(RX8, TX8, 13), rfl, uX8, insX8⟩
  | 9, _ => exact ⟨(RX9, TX9, 7), rfl, uX9, insX9⟩
  | 10, _ => exact ⟨(RX10, TX10, 5), rfl, uX10, insX10⟩
  | 11, _ => exact ⟨(RX11, TX11, 17), rfl, uX11, insX11⟩
  | 12, _ => exact ⟨(RX12, TX12, 59), rfl, uX12, insX12⟩
  | k + 13, h => exact absurd h (by omega)
theorem lw_D (hts : ∀ w ∈ lw_tbl, w.before #[Value.ref b] s = true) : ∃ D : va_G, ∀ (k : Nat) (q : vw_C), jm_cl[k]? = some q → u_Kn s q.1 q.2.1 q.2.2 (D.1 k) (D.2 k) := by
  have hw : ∀ w ∈ jm_T, w.before #[Value.ref b] s = true := fun w h => hts _ (List.mem_filter.mp h).1
  have hk : ∀ k : Nat, k < 13 → ∃ r : ClassId × (Nat → Nat), ∀ q : vw_C, jm_cl[k]? = some q → u_Kn s q.1 q.2.1 q.2.2 r.1 r.2 := by
    intro k hk
    obtain ⟨q, hq, hu, hi⟩ := lw_cls k hk
    obtain ⟨cC, iS, h⟩ := u_known (C := q.1) (T := q.2.1) (N := q.2.2) hw hu (hw _ hi)
    exact ⟨(cC, iS), fun q' h' => by cases hq.symm.trans h'; exact h⟩
  obtain ⟨r0, -⟩ := hk 0 (by omega)
  have h0 : ∀ k : Nat, ∃ r : ClassId × (Nat → Nat), ∀ q : vw_C, jm_cl[k]? = some q → u_Kn s q.1 q.2.1 q.2.2 r.1 r.2 := by
    intro k
    by_cases h : k < 13
    · exact hk k h
    · exact ⟨r0, fun q hq => absurd (List.getElem?_eq_some_iff.mp hq).1 (by show ¬ k < 13; exact h)⟩
  obtain ⟨D, hD⟩ := Classical.axiomOfChoice h0
  exact ⟨(fun k => (D k).1, fun k => (D k).2), fun k q hq => hD k q hq⟩
theorem lw_arr {ty : FieldType} (h : (Cond.arrayClass ty).before #[Value.ref b] s = true) : ∃ cA : ClassId, ArrOfT s cA ty ∧ s.vm.findClass ("[" ++ ty.toString) = some cA := by
  obtain ⟨cA, kA, comp, h1, h2, h3⟩ := Cond.arrayClass_spec h
  exact ⟨cA, fun n z => ⟨fun k h => (by cases h), kA, h2, comp, h3⟩, h1⟩
theorem lw_g (hts : ∀ w ∈ lw_tbl, w.before #[Value.ref b] s = true) : ∃ g : jc_G, va_K g.1 jm_cl (jc_ty g) s ∧ va_AO "SungEvidence$Court" s := by
  have hw : ∀ {w : Cond}, w ∈ jm_T → w.before #[Value.ref b] s = true := fun h => hts _ (List.mem_filter.mp h).1
  have hAO : va_AO "SungEvidence$Court" s := va_AO.of (hts (Cond.arrayOver (.object "SungEvidence$Court")) (lw_m1 (n := 395) (by decide +kernel)))
  obtain ⟨D, hD⟩ := lw_D hts
  obtain ⟨cI, i1, i2⟩ := lw_arr (hw acI)
  obtain ⟨cL, l1, l2⟩ := lw_arr (hw acL)
  obtain ⟨comp, cC, kC, h1, h2, h3, h4, h5⟩ := Cond.arrayOver_spec hAO
  refine ⟨(D, cI, cL, cC), ⟨hD, fun k q hk => ?_⟩, hAO⟩
  match k, hk with
  | 0, hk => cases hk; exact ⟨i1, i2⟩
  | 1, hk => cases hk; exact ⟨l1, l2⟩
  | 2, hk => cases hk; exact ⟨fun n z => ⟨fun k h => (by cases h), kC, h3, comp, h4⟩, kC, comp, h3, h4, h1, h5⟩
  | k + 3, hk => simp [jc_ty] at hk
theorem lw_NW (hts : ∀ w ∈ lw_tbl, w.before #[Value.ref b] s = true) : ∀ w ∈ jm_NW, va_Nw w s := by
  intro w hw
  have h := hts w (lw_ml (ws := jm_NW) [527, 654, 750, 782, 799, 811, 877, 1048] (by decide +kernel) w hw)
  have ho : ∀ w ∈ jm_NW, w.onTables = true := by decide +kernel
  exact va_Nw.of (ho w hw) h
theorem lw_NN (hts : ∀ w ∈ lw_tbl, w.before #[Value.ref b] s = true) : jc_N s := by
  intro q hq
  have h := hts (.methodLinkNest q.1 q.2.1 q.2.2.1 q.2.2.2) (lw_ml (ws := jc_NK.map fun q => .methodLinkNest q.1 q.2.1 q.2.2.1 q.2.2.2) [76, 97, 129, 32, 70, 235, 377, 379, 381] (by decide +kernel) _ (List.mem_map.mpr ⟨q, hq, rfl⟩))
  exact va_Nw.of rfl h
theorem lw_nwm : ∀ w ∈ jm_NW, ∃ (a : String) (i : Nat) (x : MethodName) (h : String), w = .methodLinkNest a i x h := by
  intro w hw
  simp only [jm_NW, List.mem_cons, List.not_mem_nil, or_false] at hw
  rcases hw with rfl | rfl | rfl | rfl | rfl | rfl | rfl | rfl <;> exact ⟨_, _, _, _, rfl⟩
/-! the Statement's words of strings and statics at the start -/
def lw_F : List Cond := flatC (Jvm.Cond.and given_1 narrow_1)
def lw_fb (i : Nat) : Nat := if i = 0 then 9 else if i = 1 then 33 else 132
def lw_tm (i : Nat) : Term := .string RX7 (if i = 0 then 55 else if i = 1 then 57 else 59)
theorem lw_fx : ∀ i : Nat, i < 3 → lw_F[lw_fb i]? = some (.exactly (lw_tm i) "java/lang/String") := by decide +kernel
theorem lw_fc : ∀ i : Nat, i < 3 → lw_F[lw_fb i + 1]? = some (.eq (.field (lw_tm i) "java/lang/String" "coder" "B") (.int 0)) := by decide +kernel
theorem lw_fa : ∀ i : Nat, i < 3 → lw_F[lw_fb i + 2]? = some (.arrayOf (.field (lw_tm i) "java/lang/String" "value" "[B") .byte) := by decide +kernel
theorem lw_fl : ∀ i : Nat, i < 3 → lw_F[lw_fb i + 3]? = some (.eq (.length (.field (lw_tm i) "java/lang/String" "value" "[B")) (.int (Int32.ofNat (wln i)))) := by decide +kernel
theorem lw_fe : ∀ i : Nat, i < 3 → ∀ j : Nat, j < wln i → lw_F[lw_fb i + 4 + j]? = some (.eq (.elem (.field (lw_tm i) "java/lang/String" "value" "[B") (.int (Int32.ofNat j))) (.int (Int32.ofInt (wGl (wof i + j))))) := by decide +kernel
theorem lw_f2 : lw_F[4]? = some (.eq (.static "java/lang/String" "COMPACT_STRINGS" "Z") (.int 1)) := by decide +kernel
theorem lw_f3 : lw_F[5]? = some (.isRef (.static "jdk/internal/util/Preconditions" "SIOOBE_FORMATTER" "Ljava/util/function/BiFunction;")) := by decide +kernel
theorem lw_fn : ∀ i : Nat, i < 3 → wln i < 2 ^ 31 := by decide +kernel
theorem lw_sz : ∀ a : Nat, a < s.heap.size → ¬ lw_A s a := fun _ h z => absurd h (Nat.not_lt.mpr z)
/-- a string constant at the start -/
def lw_S (s : State) (i a t : Nat) : Prop := va_O "java/lang/String" a (lw_A s) s s.heap ∧ va_OF "java/lang/String" "coder" "B" (.int 0) a (lw_A s) s s.heap ∧ va_OF "java/lang/String" "value" "[B" (.ref t) a (lw_A s) s s.heap ∧ va_T .byte t (wln i) (fun j => jm_i (wGl (wof i + j))) (lw_A s) s s.heap
theorem lw_str (hgv : (Jvm.Cond.and given_1 narrow_1).before #[Value.ref b] s = true) (i : Nat) (hi : i < 3) : ∃ a t : Nat, (lw_tm i).eval #[Value.ref b] s none [] s = some (.ref a) ∧ lw_S s i a t := by
  have hs : ∀ {n : Nat} {w : Cond}, lw_F[n]? = some w → w.before #[Value.ref b] s = true := fun h => flat_of_before _ hgv _ (List.mem_of_getElem? h)
  obtain ⟨a, c, cA, kA, q1, q2, q3, q4, q5, q6, -⟩ := Cond.exactly_spec (args := #[Value.ref b]) (first := s) (o := none) (s := s) (idx := []) (t := lw_tm i) (cls := "java/lang/String") (hs (lw_fx i hi))
  obtain ⟨t, ht, hT⟩ := va_Tof (N := wln i) (f := fun j => jm_i (wGl (wof i + j))) (A := lw_A s) (lw_fn i hi) (hs (lw_fa i hi)) (va_eqt (hs (lw_fl i hi))) (fun j hj => va_eqt (hs (lw_fe i hi j hj))) lw_sz
  exact ⟨a, t, q1, ⟨cA, q3, q5, by rw [q6]; exact q2, lw_sz a (Array.getElem?_eq_some_iff.mp q3).1⟩, vk_OFof q1 (va_eqt (hs (lw_fc i hi))) lw_sz, vk_OFof q1 ht lw_sz, hT⟩
theorem lw_z1 (hts : ∀ w ∈ lw_tbl, w.before #[Value.ref b] s = true) (hgv : (Jvm.Cond.and given_1 narrow_1).before #[Value.ref b] s = true) : va_Z "java/lang/String" "COMPACT_STRINGS" "Z" (.int 1) (lw_A s) s s.heap :=
  va_Zof (hts _ (lw_m1 (n := 549) (by decide +kernel))) (hts _ (lw_m1 (n := 14) (by decide +kernel))) (va_eqi (flat_of_before _ hgv _ (List.mem_of_getElem? lw_f2))) lw_sz
theorem lw_z2 (hts : ∀ w ∈ lw_tbl, w.before #[Value.ref b] s = true) (hgv : (Jvm.Cond.and given_1 narrow_1).before #[Value.ref b] s = true) : va_Zq "jdk/internal/util/Preconditions" "SIOOBE_FORMATTER" "Ljava/util/function/BiFunction;" (lw_A s) s s.heap :=
  va_Zqof (hts _ (lw_m1 (n := 565) (by decide +kernel))) (hts _ (lw_m1 (n := 16) (by decide +kernel))) (flat_of_before _ hgv _ (List.mem_of_getElem? lw_f3)) lw_sz
theorem lw_vk (hts : ∀ w ∈ lw_tbl, w.before #[Value.ref b] s = true) {k a : Nat} {q : Nat × String} (hq : jm_SW[k]? = some q) (he : (lw_tm k).eval #[Value.ref b] s none [] s = some (.ref a)) : vk_R RX7 q.1 q.2 a s := by
  match k, hq, he with
  | 0, hq, he => cases hq; exact vk_R.of (A := #[Value.ref b]) (hts _ (lw_m1 (n := 521) (by decide +kernel))) he
  | 1, hq, he => cases hq; exact vk_R.of (A := #[Value.ref b]) (hts _ (lw_m1 (n := 522) (by decide +kernel))) he
  | 2, hq, he => cases hq; exact vk_R.of (A := #[Value.ref b]) (hts _ (lw_m1 (n := 523) (by decide +kernel))) he
  | k + 3, hq, _ => simp [jm_SW] at hq
/-- the class's world at every state of the run -/
theorem lw_HC {g : jm_G} (hg : g.1 = jm_LC) (hP : g.2.2.2.2 = lw_st s) (hA : ∀ q, jm_A g q → lw_A s q) (hN : ∀ w ∈ jm_NW, va_Nw w s) (hR : ∀ (k : Nat) (q : Nat × String), jm_SW[k]? = some q → vk_R RX7 q.1 q.2 (g.2.2.1 (1000 + k)) s) (hO : ∀ k, k < 3 → va_O "java/lang/String" (g.2.2.1 (1000 + k)) (lw_A s) s s.heap) : jm_HC g := by
  refine ⟨hg, fun w hw U hU => ?_, fun k q hq U hU => ?_, fun k hk U H locs hU hS => ?_⟩
  · rw [hP] at hU
    obtain ⟨a, i, x, h, rfl⟩ := lw_nwm w hw
    exact va_Nw.warmM hU.1 (hN _ hw)
  · rw [hP] at hU
    exact vk_R.warm hU.1 (hR k q hq)
  · rw [hP] at hU
    have h1 := ((va_O.moved hU.1.alike (hO k hk)).kept (H1 := U.heap) (fun a h _ => hU.2.2 a h)).narrow hA
    obtain ⟨cell, h2, h3, h4, -⟩ := h1.kept hS.2.1
    exact ⟨cell, h2, h3, h4⟩
theorem lw_HS {g : jm_G} (hP : g.2.2.2.2 = lw_st s) (hA : ∀ q, jm_A g q → lw_A s q) (z1 : va_Z "java/lang/String" "COMPACT_STRINGS" "Z" (.int 1) (lw_A s) s s.heap) (z2 : ∃ v : Value, (v = .null ∨ v = .ref 1006) ∧ va_Z "jdk/internal/util/Preconditions" "SIOOBE_FORMATTER" "Ljava/util/function/BiFunction;" (jm_tv g v) (lw_A s) s s.heap) (hO : ∀ k, k < 3 → lw_S s k (g.2.2.1 (1000 + k)) (g.2.2.1 (1003 + k))) : jm_HS g := by
  refine ⟨fun U hU => ?_, fun U hU => ?_, fun k hk => ⟨fun U hU => ?_, fun U hU => ?_, fun U hU => ?_, fun U hU => ?_⟩⟩
  · rw [hP] at hU
    exact ((va_Z.moved hU.1.alike z1).kept (H1 := U.heap) (fun a h _ => hU.2.2 a h)).narrow hA
  · rw [hP] at hU
    obtain ⟨v, hv, z⟩ := z2
    exact ⟨v, hv, ((va_Z.moved hU.1.alike z).kept (H1 := U.heap) (fun a h _ => hU.2.2 a h)).narrow hA⟩
  · rw [hP] at hU
    exact ((va_O.moved hU.1.alike (hO k hk).1).kept (H1 := U.heap) (fun a h _ => hU.2.2 a h)).narrow hA
  · rw [hP] at hU
    exact ((va_OF.moved hU.1.alike (hO k hk).2.1).kept (H1 := U.heap) (fun a h _ => hU.2.2 a h)).narrow hA
  · rw [hP] at hU
    exact ((va_OF.moved hU.1.alike (hO k hk).2.2.1).kept (H1 := U.heap) (fun a h _ => hU.2.2 a h)).narrow hA
  · rw [hP] at hU
    exact ((va_T.moved hU.1.alike (hO k hk).2.2.2).kept (H1 := U.heap) (fun a h _ => hU.2.2 a h)).narrow hA
end LWF
