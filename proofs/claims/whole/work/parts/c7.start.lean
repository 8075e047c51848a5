section LWS
variable {l : Launch} {b L : Nat} {xs : Nat → Int32} {s : State}
theorem clL_7 : Cond.classLink R_law 7 RX11 ∈ jm_T := jm_tw (n := 22) (by decide +kernel) rfl
theorem clL_10 : Cond.classLink R_law 10 RX12 ∈ jm_T := jm_tw (n := 1238) (by decide +kernel) rfl
theorem miL_9 : jm_mi R_law 9 iX11_init 0 := ⟨cwX11_init, Or.inl (jm_tw (n := 24) (by decide +kernel) rfl), viX11_init, rfl, rfl⟩
theorem miL_12 : jm_mi R_law 12 iX12_init 0 := ⟨cwX12_init, Or.inl (jm_tw (n := 1240) (by decide +kernel) rfl), viX12_init, rfl, rfl⟩
/-- a constructor, called by the law -/
theorem lw_run {p : Program} {e : Env} {m : MethodId} {below : List Frame} {meth : Method} {c : Code} {ls : Array Slot} {H : Heap} {locs : List Loc} {g : jc_G} {y : jm_I} {idx d1 mc1 ms1 h0 k n pc : Nat} {st : List Value} {w0 : va_W} {A : Nat → Prop} {Q1 : va_W → Prop} (C : lw_At p s m meth c b L xs) (hK : va_K g.1 jm_cl (jc_ty g) s) (hAO : va_AO "SungEvidence$Court" s) (hN : jc_N s) (hlk : Cond.methodLink R_law idx y.1 ∈ jm_T) (hL : jm_mi R_law idx y 0) (hd1 : d1 ≤ 100) (hd : decode code pc = .ok (.invokespecial idx, 3)) (hcat : (st.map fun v => v.category).sum ≤ 8) (hr : jc_R l g d1 mc1 ms1 y [.ref h0] w0 Q1) (hk : k + mc1 ≤ 600000) (hs : n + ms1 ≤ 7302250) (hl : ls.size = 4) (hP : va_P g.1 jm_cl w0 H) (hD : va_D A w0) :
    va_Run p l e room_1 s m #[Value.ref b] below meth c H locs k n mc1 ms1 (F0 m pc ls (.ref h0 :: st)) st (jc_Q g (va_A w0 H.size) Q1 (Value.ref h0 :: []).toArray) (va_A w0 H.size) := by
  have hT : ∀ w ∈ lw_tbl, w.before #[Value.ref b] s = true := C.2.2.2.2.2.1
  have hw : ∀ {w : Cond}, w ∈ jm_T → w.before #[Value.ref b] s = true := fun h => hT _ (List.mem_filter.mp h).1
  have hGI : GoodIn lw_tbl (jm_ws y) := by
    intro w hw
    have h1 : w ∈ jm_T := by
      rcases List.mem_cons.mp hw with rfl | h2
      · exact hL.1.1
      · exact h2
    exact ⟨(List.mem_filter.mp h1).1, jm_gT h1⟩
  have hR : (jc_rm d1 mc1 ms1).frames + 1 ≤ room_1.frames ∧ 8 + (y.2.2.1 + 11) + (jc_rm d1 mc1 ms1).locals ≤ room_1.locals := ⟨by show d1 + 1 ≤ 2048; omega, by have := hL.1.2.2.2; show 8 + (y.2.2.1 + 11) + 40 * d1 ≤ 84000; omega⟩
  have hpre : PreS s H (va_Pc [.ref h0] (fun U => U.heap.size = H.size ∧ va_P g.1 jm_cl w0 U.heap ∧ va_K g.1 jm_cl (jc_ty g) U ∧ va_D (fun _ => True) w0 ∧ va_AO "SungEvidence$Court" U ∧ jc_N U)) [.ref h0] := by
    refine ⟨fun a U fr mk q => ?_, fun U hU hW => ⟨rfl, by rw [hU], by rw [hU]; exact hP, va_K.moved hW.alike hK, hD.weaken (fun _ _ _ _ => trivial), hAO.moved hW.alike, hN.warm hW⟩⟩
    obtain ⟨q0, q1, qP, qK, qD, qA, qN⟩ := q
    exact ⟨q0, q1, qP, va_K.moved (u := U) (U := U.calling fr mk a) (Vm.Alike.refl U.vm) qK, qD, va_AO.moved (u := U) (U := U.calling fr mk a) (Vm.Alike.refl U.vm) qA, jc_N.warm (s := U) (U := U.calling fr mk a) (State.WarmedH.refl U) qN⟩
  exact va_runI (As := []) (rest := st) (R := room_1) (H := H) (g := F0 m pc ls (.ref h0 :: st)) ⟨C.1, C.2.1, C.2.2.2.1, C.2.2.2.2.1, hT⟩ (hr H.size) ⟨callB_of 0 hT hGI (by rw [← hL.2.2.2.2]; rfl) rfl rfl (hw hL.1.2.1) (hw hlk) hL.1.2.2.1 hR, hL.2.2.2.1, hw hL.2.2.1⟩ hpre rfl rfl hl rfl (lv_room hcat) hd ⟨hk, hs⟩
theorem lw_Aof {g : jm_G} {mu : jm_M} {A : Nat → Prop} (hD : va_D A (jm_w g mu)) : ∀ q, jm_A g q → A q := by
  intro q hq
  obtain ⟨k, hk, e⟩ := hq
  have h := hD.2 k (g.2.2.1 k, jm_el g mu k g.1[k]) (jm_wa (List.getElem?_eq_getElem hk))
  rw [e]
  exact h
/-- both worlds stand: the loop -/
theorem lw_go {p : Program} {e : Env} {m : MethodId} {below : List Frame} {meth : Method} {c : Code} {ls : Array Slot} {H : Heap} {locs : List Loc} {g : jc_G} {ad adR : Nat → Nat} {f : Nat → Int32} (hL : L ≤ 3584) (C : lw_At p s m meth c b L xs) (hK : va_K g.1 jm_cl (jc_ty g) s) (hS : va_S (lw_A s) s.heap H locs) (hf : ∀ t, t < 143 → f t = Int32.ofInt (wGl t))
    (hPC : va_P g.1 jm_cl (jm_w (gC0 g ad (lw_st s)) mu0C) H) (hDC : va_D (lw_A s) (jm_w (gC0 g ad (lw_st s)) mu0C)) (hPR : va_P g.1 jm_cl (jm_w (gR0 g adR (lw_st s)) (nu0R f)) H) (hDR : va_D (lw_A s) (jm_w (gR0 g adR (lw_st s)) (nu0R f))) (hap : ∀ q, jm_A (gC0 g ad (lw_st s)) q → jm_A (gR0 g adR (lw_st s)) q → False)
    (hE : ∀ k, k < 3 → (lw_tm k).eval #[Value.ref b] s none [] s = some (.ref (ad (1000 + k))) ∧ lw_S s k (ad (1000 + k)) (ad (1003 + k))) (hZ : ∃ v : Value, (v = .null ∨ v = .ref 1006) ∧ va_Z "jdk/internal/util/Preconditions" "SIOOBE_FORMATTER" "Ljava/util/function/BiFunction;" (jm_tv (gC0 g ad (lw_st s)) v) (lw_A s) s s.heap)
    (hl : lv_has ls 4 (lw_l (gC0 g ad (lw_st s)) (gR0 g adR (lw_st s)) b 0)) : W p l e room_1 s m #[Value.ref b] below meth c H locs 600000 7302250 (lw_Z below #[Value.ref b] s) (F0 m 18 ls []) := by
  have hT : ∀ w ∈ lw_tbl, w.before #[Value.ref b] s = true := C.2.2.2.2.2.1
  have hAC := lw_Aof hDC
  have hAR := lw_Aof hDR
  have hC : jm_HC (gC0 g ad (lw_st s)) := by
    refine lw_HC (s := s) rfl rfl hAC (lw_NW hT) (fun k q hq => ?_) (fun k hk => (hE k hk).2.1)
    have hk : k < 3 := (List.getElem?_eq_some_iff.mp hq).1
    exact lw_vk hT hq (hE k hk).1
  have hHS : jm_HS (gC0 g ad (lw_st s)) := lw_HS (s := s) rfl hAC (lw_z1 hT C.2.2.2.2.2.2.2.2.2) hZ (fun k hk => (hE k hk).2)
  have K : lw_K (gC0 g ad (lw_st s)) (gR0 g adR (lw_st s)) s := ⟨⟨lw_ok rfl hDC, rfl, hK, hAC⟩, ⟨lw_ok rfl hDR, rfl, hK, hAR⟩, hap⟩
  exact lw_loop hL hC (show jm_HR (gR0 g adR (lw_st s)) from rfl) (jm_JSof hHS) (L + 1) 0 (by omega) (by omega) mu0C (nu0R f) (Iv0 hf) p e m meth c ls H locs C K hl hPC hPR hS mu0C_mr (nu0R_mr f)
end LWS
