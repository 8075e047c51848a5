section LWM
variable {l : Launch} {gC gR : jm_G} {b L : Nat} {xs : Nat → Int32} {s : State} {below : List Frame} {i pc : Nat} {st : List Value} {mu nu : jm_M}
/-- the cells that the law makes -/
def lw_A (s : State) : Nat → Prop := fun q => s.heap.size ≤ q
def lw_G (g : jm_G) (s : State) : Prop := jm_ok g ∧ g.2.2.2.2 = lw_st s ∧ va_K g.2.1 jm_cl (jm_ty g) s ∧ ∀ q, jm_A g q → lw_A s q
def lw_K (gC gR : jm_G) (s : State) : Prop := lw_G gC s ∧ lw_G gR s ∧ ∀ q, jm_A gC q → jm_A gR q → False
def lw_l (gC gR : jm_G) (b i : Nat) : List (Nat × Value) := [(3, .int (Int32.ofInt (i : Int))), (2, .ref (gR.2.2.1 0)), (1, .ref (gC.2.2.1 0)), (0, .ref b)]
/-- from here the law comes to its end with true -/
def lw_V (l : Launch) (gC gR : jm_G) (b L : Nat) (xs : Nat → Int32) (s : State) (below : List Frame) (i pc : Nat) (st : List Value) (mu nu : jm_M) : Prop :=
  ∀ (p : Program) (e : Env) (m : MethodId) (meth : Method) (c : Code) (ls : Array Slot) (H : Heap) (locs : List Loc), lw_At p s m meth c b L xs → lw_K gC gR s → lv_has ls 4 (lw_l gC gR b i) → va_P gC.2.1 jm_cl (jm_w gC mu) H → va_P gR.2.1 jm_cl (jm_w gR nu) H → va_S (lw_A s) s.heap H locs → jm_mr mu → jm_mr nu → W p l e room_1 s m #[Value.ref b] below meth c H locs 600000 7302250 (lw_Z below #[Value.ref b] s) (F0 m pc ls st)
theorem lw_rg (x : Int32) : jm_rg x.toInt := jm_rgT x
theorem lw_aldC (hd : decode code pc = .ok (.aload_n 1, 1)) (kk : lw_V l gC gR b L xs s below i (pc + 1) (.ref (gC.2.2.1 0) :: st) mu nu) : lw_V l gC gR b L xs s below i pc st mu nu := by
  intro p e m meth c ls H locs C K hl hP hPR hS hm hn
  exact lv_aload_n C.1 C.2.1 hd rfl (lv_at hl 2 rfl) (kk p e m meth c ls H locs C K hl hP hPR hS hm hn)
theorem lw_aldR (hd : decode code pc = .ok (.aload_n 2, 1)) (kk : lw_V l gC gR b L xs s below i (pc + 1) (.ref (gR.2.2.1 0) :: st) mu nu) : lw_V l gC gR b L xs s below i pc st mu nu := by
  intro p e m meth c ls H locs C K hl hP hPR hS hm hn
  exact lv_aload_n C.1 C.2.1 hd rfl (lv_at hl 1 rfl) (kk p e m meth c ls H locs C K hl hP hPR hS hm hn)
/-- script[i + k], its place on the stack -/
theorem lw_el {k : Nat} (hi : i + k < L) (hL : L ≤ 3584) (h4 : decode code pc = .ok (.iaload, 1)) (kk : lw_V l gC gR b L xs s below i (pc + 1) (jm_i (xs (i + k)).toInt :: st) mu nu) : lw_V l gC gR b L xs s below i pc (.int (Int32.ofInt ((i + k : Nat) : Int)) :: .ref b :: st) mu nu := by
  intro p e m meth c ls H locs C K hl hP hPR hS hm hn
  have e2 : (Int32.ofInt ((i + k : Nat) : Int)).toNatClampNeg = i + k := by
    have h := jm_tn (z := ((i + k : Nat) : Int)) (by omega) (by omega)
    omega
  refine va_sld C.1 C.2.1 C.2.2.2.2.2.2.1 C.2.2.2.2.2.2.2.1 (fun z => absurd C.2.2.2.2.2.2.2.1 (Nat.not_lt.mpr z)) hS (jm_in (by omega) (by omega) (by omega)) h4 ?_
  rw [e2]
  have h := kk p e m meth c ls H locs C K hl hP hPR hS hm hn
  rw [jm_iT] at h
  exact h
theorem lw_arg {k : Nat} (hi : i + 7 ≤ L) (hL : L ≤ 3584) (hk : k ≤ 6) (h0 : decode code pc = .ok (.aload_n 0, 1)) (h1 : decode code (pc + 1) = .ok (.iload_n 3, 1)) (h2 : decode code (pc + 2) = .ok (.iconst (k : Int), 1)) (h3 : decode code (pc + 3) = .ok (.iadd, 1)) (h4 : decode code (pc + 4) = .ok (.iaload, 1)) (kk : lw_V l gC gR b L xs s below i (pc + 5) (jm_i (xs (i + k)).toInt :: st) mu nu) : lw_V l gC gR b L xs s below i pc st mu nu := by
  intro p e m meth c ls H locs C K hl hP hPR hS hm hn
  refine lv_aload_n C.1 C.2.1 h0 rfl (lv_at hl 3 rfl) ?_
  refine lv_iload_n C.1 C.2.1 h1 rfl (lv_at hl 0 rfl) ?_
  refine lv_iconst (v := Int32.ofInt (k : Int)) C.1 C.2.1 h2 rfl ?_
  refine lv_iadd C.1 C.2.1 h3 ?_
  have e1 : Int32.ofInt (i : Int) + Int32.ofInt (k : Int) = Int32.ofInt ((i + k : Nat) : Int) := by
    rw [show ((i + k : Nat) : Int) = (i : Int) + (k : Int) by omega, Int32.ofInt_add]
  rw [e1]
  exact lw_el (by omega) hL h4 kk p e m meth c ls H locs C K hl hP hPR hS hm hn
theorem lw_arg6 (hi : i + 7 ≤ L) (hL : L ≤ 3584) (h0 : decode code pc = .ok (.aload_n 0, 1)) (h1 : decode code (pc + 1) = .ok (.iload_n 3, 1)) (h2 : decode code (pc + 2) = .ok (.bipush 6, 2)) (h3 : decode code (pc + 4) = .ok (.iadd, 1)) (h4 : decode code (pc + 5) = .ok (.iaload, 1)) (kk : lw_V l gC gR b L xs s below i (pc + 6) (jm_i (xs (i + 6)).toInt :: st) mu nu) : lw_V l gC gR b L xs s below i pc st mu nu := by
  intro p e m meth c ls H locs C K hl hP hPR hS hm hn
  refine lv_aload_n C.1 C.2.1 h0 rfl (lv_at hl 3 rfl) ?_
  refine lv_iload_n C.1 C.2.1 h1 rfl (lv_at hl 0 rfl) ?_
  refine lv_bipush (v := Int32.ofInt 6) C.1 C.2.1 h2 (by decide) ?_
  refine lv_iadd C.1 C.2.1 h3 ?_
  have e1 : Int32.ofInt (i : Int) + Int32.ofInt 6 = Int32.ofInt ((i + 6 : Nat) : Int) := by
    rw [show ((i + 6 : Nat) : Int) = (i : Int) + 6 by omega, Int32.ofInt_add]
  rw [e1]
  exact lw_el (by omega) hL h4 kk p e m meth c ls H locs C K hl hP hPR hS hm hn
/-- script[i + 1] != 0 -/
def lw_01 (x : Int32) : Int := if x = 0 then 0 else 1
theorem lw_01c (x : Int32) : lw_01 x = 0 ∨ lw_01 x = 1 := by
  by_cases h : x = 0
  · exact Or.inl (if_pos h)
  · exact Or.inr (if_neg h)
theorem lw_ne0 {x : Int32} (h0 : decode code pc = .ok (.ifCond .eq 7, 3)) (h1 : decode code (pc + 3) = .ok (.iconst 1, 1)) (h2 : decode code (pc + 4) = .ok (.goto 4, 3)) (h3 : decode code (pc + 7) = .ok (.iconst 0, 1)) (kk : lw_V l gC gR b L xs s below i (pc + 8) (jm_i (lw_01 x) :: st) mu nu) : lw_V l gC gR b L xs s below i pc (jm_i x.toInt :: st) mu nu := by
  intro p e m meth c ls H locs C K hl hP hPR hS hm hn
  have k1 := kk p e m meth c ls H locs C K hl hP hPR hS hm hn
  rw [jm_iT]
  refine lv_if_eq (tgt := pc + 7) C.1 C.2.1 h0 (by omega) (fun hz => ?_) (fun hz => ?_)
  · rw [show lw_01 x = 0 from if_pos hz] at k1
    exact lv_iconst (v := Int32.ofInt 0) C.1 C.2.1 h3 rfl k1
  · rw [show lw_01 x = 1 from if_neg hz] at k1
    refine lv_iconst (v := Int32.ofInt 1) C.1 C.2.1 h1 rfl ?_
    exact lv_goto (tgt := pc + 8) C.1 C.2.1 h2 (by omega) k1
theorem lw_eq {z : Int} {off : Int} (hd : decode code pc = .ok (.if_icmp .eq off, 3)) (ht : (pc : Int) + off = ((1324 : Nat) : Int)) (kk : lw_V l gC gR b L xs s below i 1324 [] mu nu) : lw_V l gC gR b L xs s below i pc [jm_i z, jm_i z] mu nu := by
  intro p e m meth c ls H locs C K hl hP hPR hS hm hn
  exact lv_icmp_eq (x := Int32.ofInt z) (y := Int32.ofInt z) (tgt := 1324) C.1 C.2.1 hd ht (fun _ => kk p e m meth c ls H locs C K hl hP hPR hS hm hn) (fun q => absurd rfl q)
/-- a call of the law's: the world called moves, the other stays -/
theorem lw_call {p : Program} {e : Env} {m : MethodId} {meth : Method} {c : Code} {ls : Array Slot} {H : Heap} {locs : List Loc} {g h : jm_G} {ci n idx d : Nat} {fs : List (Option Nat)} {As stk : List Value} {Q1 : Option Value → jm_M → Prop} (y : jm_I)
    (C : lw_At p s m meth c b L xs) (G : lw_G g s) (Gh : lw_G h s) (hx : ∀ q, jm_A g q → jm_A h q → False) (hl : ls.size = 4) (hP : va_P g.2.1 jm_cl (jm_w g mu) H) (hPh : va_P h.2.1 jm_cl (jm_w h nu) H) (hS : va_S (lw_A s) s.heap H locs) (hm : jm_mr mu)
    (hd : decode code pc = .ok (.invokevirtual idx, 3)) (hL : jm_mv R_law idx y n) (hy : g.1[0]? = some (.inr (.inr (.inr (ci, fs))))) (hc : ∃ q : vw_C, jm_cl[ci]? = some q ∧ q.1 = y.1.cls) (hst : stk = (As.map (jm_tv g)).reverse ++ .ref (g.2.2.1 0) :: st) (hn : As.length = n) (hcat : (st.map fun v => v.category).sum ≤ 8) (hd1 : d ≤ 100)
    (hr : jm_R l g d y (.ref 0 :: As) mu Q1)
    (k : ∀ (r : Option Value) (mu1 : jm_M) (H1 : Heap) (locs1 : List Loc), Q1 r mu1 → jm_mr mu1 → va_P g.2.1 jm_cl (jm_w g mu1) H1 → va_P h.2.1 jm_cl (jm_w h nu) H1 → va_S (lw_A s) s.heap H1 locs1 → W p l e room_1 s m #[Value.ref b] below meth c H1 locs1 600000 7302250 (lw_Z below #[Value.ref b] s) (F0 m (pc + 3) ls ((r.map (jm_tv g)).toList ++ st))) :
    W p l e room_1 s m #[Value.ref b] below meth c H locs 600000 7302250 (lw_Z below #[Value.ref b] s) (F0 m pc ls stk) := by
  obtain ⟨d0, hd0, hM⟩ := hr
  obtain ⟨q, hq1, hq2⟩ := hc
  obtain ⟨hok, hst0, hK, hA⟩ := G
  have hT : ∀ w ∈ lw_tbl, w.before #[Value.ref b] s = true := C.2.2.2.2.2.1
  have hw : ∀ {w : Cond}, w ∈ jm_T → w.before #[Value.ref b] s = true := fun h => hT _ (List.mem_filter.mp h).1
  have hrecv := va_recv hK hP hq1 (jm_wa (mu := mu) hy)
  have hGI : GoodIn lw_tbl (jm_ws y) := by
    intro w hw
    have h1 : w ∈ jm_T := by
      rcases List.mem_cons.mp hw with rfl | h2
      · exact hL.1.1
      · exact h2
    exact ⟨(List.mem_filter.mp h1).1, jm_gT h1⟩
  have hCB : CallB room_1 s #[Value.ref b] R_law idx y.1 y.2.1 y.2.2.1 y.2.2.2 (jm_ws y) (jm_rm d0) 0 0 n := callB_of n hT hGI rfl rfl rfl (hw hL.1.2.1) (hw hL.2.1) hL.1.2.2.1 ⟨by show d0 + 1 ≤ 2048; omega, by have := hL.1.2.2.2; show 8 + (y.2.2.1 + 11) + 40 * d0 ≤ 84000; omega⟩
  have hpre : ∀ U : State, U.heap = H → s.WarmedH U.vm → va_Pc ((.ref 0 :: As).map (jm_tv g)) (jm_B g mu) (Value.ref (g.2.2.1 0) :: As.map (jm_tv g)).toArray U := by
    intro U hU hW
    refine ⟨rfl, va_K.moved hW.alike hK, by rw [hU]; exact hP, hok, ?_, hm⟩
    rw [hst0]
    exact ⟨hW, by rw [hU]; exact hS.1, fun q hq => by rw [hU]; exact hS.2.1 q hq (Nat.not_le.mpr hq)⟩
  have hrun := va_runV (e := e) (below := below) (meth := meth) (g := F0 m pc ls stk) (rest := st) (locs := locs) (cells := 600000) (slots := 7302250) (As := As.map (jm_tv g)) (b := g.2.2.1 0) (C := y.1.cls) (R := room_1) (H := H) ⟨C.1, C.2.1, C.2.2.2.1, C.2.2.2.2.1, hT⟩ hM ⟨hCB, hw hL.2.2.1, hw hL.2.2.2⟩ ⟨jm_blind, by rw [← hq2]; exact hrecv, hpre⟩ rfl (by rw [List.length_map]; exact hn) hl hst (lv_room hcat) hd ⟨Nat.le_refl _, Nat.le_refl _⟩
  intro T hT' X
  obtain ⟨v, st₀, t, T', L', h0, X', hL', e1, e2, ⟨⟨r, mu1, hv, hq, hP1, hm1⟩, hz, hk⟩, stp⟩ := hrun T hT' X
  cases hv
  rw [h0] at hz hk
  have hPh1 : va_P h.2.1 jm_cl (jm_w h nu) T'.heap := by
    refine va_P.kept hPh (fun k2 q2 hk2 => ?_)
    rw [e1]
    exact hk q2.1 (hPh k2 q2 hk2).lt (fun z => hx _ z ((jm_wd Gh.1).2 k2 q2 hk2))
  have hS1 : va_S (lw_A s) s.heap T'.heap (locs ++ L') := by
    refine ⟨Nat.le_trans hS.1 (by rw [e1]; exact hz), fun q h1 h2 => ?_, fun q hq => ?_⟩
    · rw [e1, hk q (Nat.lt_of_lt_of_le h1 hS.1) (fun z => h2 (hA q z))]
      exact hS.2.1 q h1 h2
    · rcases List.mem_append.mp hq with h | h
      · exact hS.2.2 q h
      · exact hA _ (hL' q h)
  obtain ⟨t2, a1, b1⟩ := k r mu1 T'.heap (locs ++ L') hq hm1 (by rw [e1]; exact hP1) hPh1 hS1 T' rfl X'
  exact ⟨t2, stp t2 a1, b1⟩
theorem lw_cC {n idx d : Nat} {As stk : List Value} {Q1 : Option Value → jm_M → Prop} (y : jm_I) (hd : decode code pc = .ok (.invokevirtual idx, 3)) (hL : jm_mv R_law idx y n) (hc : ∃ q : vw_C, jm_cl[11]? = some q ∧ q.1 = y.1.cls) (hst : stk = (As.map (jm_tv gC)).reverse ++ .ref (gC.2.2.1 0) :: st) (hn : As.length = n) (hcat : (st.map fun v => v.category).sum ≤ 8) (hd1 : d ≤ 100) (hC : jm_HC gC)
    (hr : jm_R l gC d y (.ref 0 :: As) mu Q1) (k : ∀ r m, Q1 r m → lw_V l gC gR b L xs s below i (pc + 3) ((r.map (jm_tv gC)).toList ++ st) m nu) : lw_V l gC gR b L xs s below i pc stk mu nu := by
  intro p e m meth c ls H locs C K hl hP hPR hS hm hnu
  obtain ⟨fs, hy⟩ : ∃ fs, gC.1[0]? = some (.inr (.inr (.inr (11, fs)))) := ⟨_, by rw [hC.1]; rfl⟩
  exact lw_call (g := gC) (h := gR) y C K.1 K.2.1 K.2.2 hl.1 hP hPR hS hm hd hL hy hc hst hn hcat hd1 hr (fun r m1 H1 locs1 hq hm1 hP1 hP2 hS1 => k r m1 hq p e m meth c ls H1 locs1 C K hl hP1 hP2 hS1 hm1 hnu)
theorem lw_cR {n idx d : Nat} {As stk : List Value} {Q1 : Option Value → jm_M → Prop} (y : jm_I) (hd : decode code pc = .ok (.invokevirtual idx, 3)) (hL : jm_mv R_law idx y n) (hc : ∃ q : vw_C, jm_cl[12]? = some q ∧ q.1 = y.1.cls) (hst : stk = (As.map (jm_tv gR)).reverse ++ .ref (gR.2.2.1 0) :: st) (hn : As.length = n) (hcat : (st.map fun v => v.category).sum ≤ 8) (hd1 : d ≤ 100) (hR : jm_HR gR)
    (hr : jm_R l gR d y (.ref 0 :: As) nu Q1) (k : ∀ r m, Q1 r m → lw_V l gC gR b L xs s below i (pc + 3) ((r.map (jm_tv gR)).toList ++ st) mu m) : lw_V l gC gR b L xs s below i pc stk mu nu := by
  intro p e m meth c ls H locs C K hl hP hPR hS hm hnu
  obtain ⟨fs, hy⟩ : ∃ fs, gR.1[0]? = some (.inr (.inr (.inr (12, fs)))) := ⟨_, by rw [hR]; rfl⟩
  exact lw_call (g := gR) (h := gC) y C K.2.1 K.1 (fun q h1 h2 => K.2.2 q h2 h1) hl.1 hPR hP hS hnu hd hL hy hc hst hn hcat hd1 hr (fun r m1 H1 locs1 hq hm1 hP1 hP2 hS1 => k r m1 hq p e m meth c ls H1 locs1 C K hl hP2 hP1 hS1 hm hm1)
end LWM
