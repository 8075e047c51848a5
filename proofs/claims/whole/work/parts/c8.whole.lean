section LWT
theorem lkL_9 : Cond.methodLink R_law 9 iX11_init.1 ∈ jm_T := jm_tw (n := 24) (by decide +kernel) rfl
theorem lkL_12 : Cond.methodLink R_law 12 iX12_init.1 ∈ jm_T := jm_tw (n := 1240) (by decide +kernel) rfl
theorem lw_one {x q : Nat × va_E} {k : Nat} (h : [x][k]? = some q) : q = x := by
  match k, h with
  | 0, h => cases h; rfl
  | k + 1, h => simp at h
theorem lw_two {A : Nat → Prop} {D : va_G} {cl : List vw_C} {wc : va_W} {x : Nat × va_E} {H : Heap} (hP : va_P D cl (wc ++ [x]) H) (hD : va_D A (wc ++ [x])) : va_P D cl wc H ∧ va_P D cl [x] H ∧ va_D A wc ∧ va_D A [x] ∧ ∀ (k : Nat) (q : Nat × va_E), wc[k]? = some q → q.1 ≠ x.1 := by
  have up : ∀ (k : Nat) (q : Nat × va_E), wc[k]? = some q → (wc ++ [x])[k]? = some q := fun k q h => by rw [List.getElem?_append_left (List.getElem?_eq_some_iff.mp h).1]; exact h
  have la : (wc ++ [x])[wc.length]? = some x := by rw [List.getElem?_append_right (Nat.le_refl _), Nat.sub_self]; rfl
  refine ⟨fun k q h => hP k q (up k q h), fun k q h => ?_, ⟨fun i j p q hi hj e => hD.1 i j p q (up i p hi) (up j q hj) e, fun k q h => hD.2 k q (up k q h)⟩, ⟨fun i j p q hi hj _ => ?_, fun k q h => ?_⟩, fun k q h e => ?_⟩
  · rw [lw_one h]
    exact hP _ x la
  · have h1 : i < 1 := (List.getElem?_eq_some_iff.mp hi).1
    have h2 : j < 1 := (List.getElem?_eq_some_iff.mp hj).1
    omega
  · rw [lw_one h]
    exact hD.2 _ x la
  · have h1 := hD.1 k wc.length q x (up k q h) la e
    have h2 := (List.getElem?_eq_some_iff.mp h).1
    omega
theorem lw_in {g : jm_G} {mu : jm_M} {q : Nat} (h : jm_A g q) : ∃ (k : Nat) (el : va_E), (jm_w g mu)[k]? = some (q, el) := by
  obtain ⟨k, hk, e⟩ := h
  subst e
  exact ⟨k, _, jm_wa (List.getElem?_eq_getElem hk)⟩
set_option maxHeartbeats 4000000 in
set_option maxRecDepth 100000 in
/-- THE LAW, from its entry -/
theorem whole_start {p : Program} {e : Env} {s : State} {m : MethodId} {below : List Frame} {meth : Method} {c : Code} (l : Launch) {b L : Nat} {xs : Nat → Int32} (hL : L ≤ 3584) (C0 : lw_At p s m meth c b L xs) : W p l e room_1 s m #[Value.ref b] below meth c s.heap [] 0 0 (lw_Z below #[Value.ref b] s) (entryFrame m ([Value.ref b] : List Value).toArray 4) := by
  obtain ⟨hx, hb, hr, hml, hown, hts, hX, hbl, hlocks, hgv⟩ := id C0
  have hw : ∀ {w : Cond}, w ∈ jm_T → w.before #[Value.ref b] s = true := fun h => hts _ (List.mem_filter.mp h).1
  have hA : ∀ q : Nat, s.heap.size ≤ q → lw_A s q := fun _ h => h
  obtain ⟨g, hK, hAO⟩ := lw_g hts
  have hN : jc_N s := lw_NN hts
  have hs0 : ∀ i : Nat, ∃ q : Nat × Nat, i < 3 → (lw_tm i).eval #[Value.ref b] s none [] s = some (.ref q.1) ∧ lw_S s i q.1 q.2 := by
    intro i
    by_cases hi : i < 3
    · obtain ⟨a, t, h1, h2⟩ := lw_str hgv i hi
      exact ⟨(a, t), fun _ => ⟨h1, h2⟩⟩
    · exact ⟨(0, 0), fun h => absurd h hi⟩
  obtain ⟨sa, hsa⟩ := Classical.axiomOfChoice hs0
  obtain ⟨v0, t0, hv0, hz0⟩ : ∃ (v : Value) (t0 : Nat), (v = .null ∨ v = .ref 1006) ∧ ∀ gg : jm_G, gg.2.2.1 1006 = t0 → va_Z "jdk/internal/util/Preconditions" "SIOOBE_FORMATTER" "Ljava/util/function/BiFunction;" (jm_tv gg v) (lw_A s) s s.heap := by
    rcases lw_z2 hts hgv with h | ⟨t, h⟩
    · exact ⟨.null, 0, Or.inl rfl, fun gg _ => h⟩
    · refine ⟨.ref 1006, t, Or.inr rfl, fun gg hg => ?_⟩
      show va_Z _ _ _ (.ref (gg.2.2.1 1006)) _ _ _
      rw [hg]
      exact h
  obtain ⟨tt, ht6, htt⟩ : ∃ tt : Nat → Nat, tt 1006 = t0 ∧ ∀ k, k < 3 → tt (1000 + k) = (sa k).1 ∧ tt (1003 + k) = (sa k).2 := by
    refine ⟨fun k => if k = 1006 then t0 else if k < 1003 then (sa (k - 1000)).1 else (sa (k - 1003)).2, if_pos rfl, fun k hk => ⟨?_, ?_⟩⟩
    · show (if 1000 + k = 1006 then t0 else if 1000 + k < 1003 then (sa (1000 + k - 1000)).1 else (sa (1000 + k - 1003)).2) = (sa k).1
      rw [if_neg (by omega), if_pos (by omega), Nat.add_sub_cancel_left]
    · show (if 1003 + k = 1006 then t0 else if 1003 + k < 1003 then (sa (1003 + k - 1000)).1 else (sa (1003 + k - 1003)).2) = (sa k).2
      rw [if_neg (by omega), if_neg (by omega), Nat.add_sub_cancel_left]
  have hS0 : va_S (lw_A s) s.heap s.heap [] := va_S.rf
  have hP0 : va_P g.1 jm_cl [] s.heap := fun k q h => by simp at h
  have hD0 : va_D (lw_A s) [] := ⟨fun i j p q h => by simp at h, fun k q h => by simp at h⟩
  have hl := lv_entry ([.ref b]) (n := 4) (Nat.le_of_ble_eq_true rfl)
  rw [lg_entry_eq]
  generalize (lg_sl ([.ref b]) ++ List.replicate (4 - (lg_sl ([.ref b])).length) Slot.unset).toArray = ls at hl ⊢
  have hl : lv_has ls 4 [(0, .ref b)] := hl
  refine va_new (ci := 11) (fs := dvX11) (C := RX11) (T := TX11) (N := 17) hx hb hts (fun w hw => (List.mem_filter.mp (uX11 w hw)).1) tyX11 tyX11_ok hown (hw clL_7) (hw insX11) (hw iniX11) hK hP0 hD0 hS0 hA rfl dvX11_ok (Nat.le_of_ble_eq_true rfl) (Nat.le_of_ble_eq_true rfl) dL_law_0 (fun h0 H hP hD hS => ?_)
  have hP : va_P g.1 jm_cl [(h0, .inr (11, dvX11))] H := hP
  have hD : va_D (lw_A s) [(h0, .inr (11, dvX11))] := hD
  have hF : ∀ q, va_A [(h0, .inr (11, dvX11))] H.size q → lw_A s q := by
    intro q hq
    rcases hq with ⟨k, e, hk⟩ | hq
    · exact hD.2 k _ hk
    · exact Nat.le_trans hS.1 hq
  refine lv_dup hx hb dL_law_3 rfl ?_
  refine va_callv (lw_run (st := [.ref h0]) (d1 := 7) (mc1 := 129) (ms1 := 12663) (k := 0 + 1) (n := 0 + 17) C0 hK hAO hN lkL_9 miL_9 (Nat.le_of_ble_eq_true rfl) dL_law_4 (Nat.le_of_ble_eq_true rfl) (kX11 h0) (Nat.le_of_ble_eq_true rfl) (Nat.le_of_ble_eq_true rfl) hl.1 hP hD) hS (fun q _ h => hF q h) hF (fun w1 t H1 locs1 ht hvm hq hB hz1 hk1 hS1 => ?_)
  obtain ⟨b1, b2, b3, b4, b5, b6, b7, b8, b9, b10, b11, b12, b13, ka, c0, c1, c2, c3, c4, c5, rfl⟩ := hq
  obtain ⟨hP1, hD1⟩ := hB
  rw [ht] at hP1
  rw [wC1 (t := tt) (P := lw_st s)] at hP1 hD1
  have had0 : adC h0 b1 b2 b3 b4 b5 b6 b7 b8 b9 b10 b11 b12 b13 ka c0 c1 c2 c3 c4 c5 tt 0 = h0 := adC_h0
  have hadt : ∀ k, 130 ≤ k → adC h0 b1 b2 b3 b4 b5 b6 b7 b8 b9 b10 b11 b12 b13 ka c0 c1 c2 c3 c4 c5 tt k = tt k := fun k hk => adC_t hk
  generalize adC h0 b1 b2 b3 b4 b5 b6 b7 b8 b9 b10 b11 b12 b13 ka c0 c1 c2 c3 c4 c5 tt = ad at hP1 hD1 had0 hadt
  have hD1 : va_D (lw_A s) (jm_w (gC0 g ad (lw_st s)) mu0C) := hD1.weaken (fun _ q _ h => hF q.1 h)
  refine lv_astore_n (lv' := [(1, .ref h0), (0, .ref b)]) hx hb dL_law_7 rfl hl (by decide) rfl (fun ls hl => ?_)
  refine va_new (ci := 12) (fs := dvX12) (C := RX12) (T := TX12) (N := 59) hx hb hts (fun w hw => (List.mem_filter.mp (uX12 w hw)).1) tyX12 tyX12_ok hown (hw clL_10) (hw insX12) (hw iniX12) hK hP1 hD1 hS1 hA rfl dvX12_ok (Nat.le_of_ble_eq_true rfl) (Nat.le_of_ble_eq_true rfl) dL_law_8 (fun h1 H2 hP2 hD2 hS2 => ?_)
  obtain ⟨hPc, hPn, -, hDn, hne⟩ := lw_two hP2 hD2
  have hF2 : ∀ q, va_A [(h1, .inr (12, dvX12))] H2.size q → lw_A s q := by
    intro q hq
    rcases hq with ⟨k, e, hk⟩ | hq
    · exact hDn.2 k _ hk
    · exact Nat.le_trans hS2.1 hq
  have hout : ∀ (k : Nat) (q : Nat × va_E), (jm_w (gC0 g ad (lw_st s)) mu0C)[k]? = some q → ¬ va_A [(h1, .inr (12, dvX12))] H2.size q.1 := by
    intro k q hk z
    rcases z with ⟨k2, e2, h2⟩ | z
    · have h3 : q.1 = h1 := (Prod.mk.inj (lw_one h2)).1
      exact hne k q hk h3
    · exact absurd (hPc k q hk).lt (Nat.not_lt.mpr z)
  refine lv_dup hx hb dL_law_11 rfl ?_
  refine va_callv (lw_run (st := [.ref h1]) (d1 := 4) (mc1 := 30) (ms1 := 9172) (k := 0 + 1 + 129 + 1) (n := 0 + 17 + 12663 + 59) C0 hK hAO hN lkL_12 miL_12 (Nat.le_of_ble_eq_true rfl) dL_law_12 (Nat.le_of_ble_eq_true rfl) (kX12 h1) (Nat.le_of_ble_eq_true rfl) (Nat.le_of_ble_eq_true rfl) hl.1 hPn hDn) hS2 (fun q _ h => hF2 q h) hF2 (fun w2 t2 H3 locs3 ht2 hvm2 hq hB hz3 hk3 hS3 => ?_)
  obtain ⟨adR, f, hadR, hf, rfl⟩ := hq
  obtain ⟨hP3, hD3⟩ := hB
  rw [ht2] at hP3
  rw [← wR0 (P := lw_st s)] at hP3 hD3
  have hPC : va_P g.1 jm_cl (jm_w (gC0 g ad (lw_st s)) mu0C) H3 := va_P.kept hPc (fun k q hk => hk3 q.1 (hPc k q hk).lt (hout k q hk))
  have hap : ∀ q, jm_A (gC0 g ad (lw_st s)) q → jm_A (gR0 g adR (lw_st s)) q → False := by
    intro q q1 q2
    obtain ⟨k, el, hk⟩ := lw_in (mu := mu0C) q1
    exact hout k (q, el) hk (lw_Aof hD3 q q2)
  refine lv_astore_n (lv' := [(2, .ref h1), (1, .ref h0), (0, .ref b)]) hx hb dL_law_15 rfl hl (by decide) rfl (fun ls hl => ?_)
  refine lv_iconst (v := 0) hx hb dL_law_16 (by decide) ?_
  refine lv_istore_n (lv' := [(3, .int 0), (2, .ref h1), (1, .ref h0), (0, .ref b)]) hx hb dL_law_17 rfl hl (by decide) rfl (fun ls hl => ?_)
  have e0 : lw_l (gC0 g ad (lw_st s)) (gR0 g adR (lw_st s)) b 0 = [(3, .int 0), (2, .ref h1), (1, .ref h0), (0, .ref b)] := by
    show [(3, Value.int (Int32.ofInt ((0 : Nat) : Int))), (2, .ref (adR 0)), (1, .ref (ad 0)), (0, .ref b)] = _
    rw [hadR, had0]
    rfl
  refine W.widen (k := 600000) (n := 7302250) (Nat.le_of_ble_eq_true rfl) (Nat.le_of_ble_eq_true rfl) ?_
  refine lw_go (ad := ad) (adR := adR) (f := f) hL C0 hK hS3 hf hPC hD1 hP3 (hD3.weaken (fun _ q _ h => hF2 q.1 h)) hap (fun k hk => ?_) ⟨v0, hv0, hz0 _ ?_⟩ (by rw [e0]; exact hl)
  · rw [hadt (1000 + k) (by omega), hadt (1003 + k) (by omega), (htt k hk).1, (htt k hk).2]
    exact hsa k hk
  · show ad 1006 = t0
    rw [hadt 1006 (by omega), ht6]
end LWT
