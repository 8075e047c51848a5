section JF
variable {l : Launch} {g : jm_G} {d : Nat} {i : jm_I} {pc : Nat} {lv lv' : List (Nat × Value)} {st : List Value} {mu : jm_M} {Q : Option Value → jm_M → Prop}
/-- the field j of class ci, under the link idx of class own -/
def jm_fl (own : String) (idx ci j : Nat) : Prop := ∃ q : vw_C, jm_cl[ci]? = some q ∧ j < q.2.2 ∧ (∀ w ∈ u_ws q.1 q.2.1 q.2.2, w ∈ jm_T) ∧ Cond.fieldLink own idx (q.2.1 j).1 (q.2.1 j).2.1 (q.2.1 j).2.2.1 ∈ jm_T
theorem jm_fvat {fs : List (Option Nat)} {k j : Nat} {f : Option Nat} (hf : fs[j]? = some f) : (fs.mapIdx (jm_fv g mu k))[j]? = some (jm_fv g mu k j f) := by
  rw [List.getElem?_mapIdx, hf]
  rfl
theorem jm_geti {idx k ci : Nat} {fs : List (Option Nat)} (j : Nat) (hd : decode i.2.1 pc = .ok (.getfield idx, 3)) (hL : jm_fl i.1.cls idx ci j) (hy : g.1[k]? = some (.inr (.inr (.inr (ci, fs))))) (hf : fs[j]? = some none) (kk : jm_V l g d i (pc + 3) lv (jm_i (mu.1 k j) :: st) mu Q) : jm_V l g d i pc lv (.ref k :: st) mu Q := by
  intro p e s m args below meth c ls H locs C hl hP hS hm
  obtain ⟨q, h1, h2, h3, h4⟩ := hL
  exact va_get (v := jm_i (mu.1 k j)) C.1.1 C.1.2.1 C.1.2.2.2.2 (fun w hw => List.mem_cons_of_mem _ (h3 w hw)) C.1.2.2.2.1 C.2.2.2.1 hP k (jm_wa hy) h1 j h2 (C.1.2.2.2.2 _ (List.mem_cons_of_mem _ h4)) (fun _ h => h) (jm_fvat hf) hd (kk p e s m args below meth c ls H locs C hl hP hS hm)
theorem jm_getr {idx k ci r : Nat} {fs : List (Option Nat)} (j : Nat) (hd : decode i.2.1 pc = .ok (.getfield idx, 3)) (hL : jm_fl i.1.cls idx ci j) (hy : g.1[k]? = some (.inr (.inr (.inr (ci, fs))))) (hf : fs[j]? = some (some r)) (kk : jm_V l g d i (pc + 3) lv (.ref r :: st) mu Q) : jm_V l g d i pc lv (.ref k :: st) mu Q := by
  intro p e s m args below meth c ls H locs C hl hP hS hm
  obtain ⟨q, h1, h2, h3, h4⟩ := hL
  exact va_get (v := .ref (g.2.2.1 r)) C.1.1 C.1.2.1 C.1.2.2.2.2 (fun w hw => List.mem_cons_of_mem _ (h3 w hw)) C.1.2.2.2.1 C.2.2.2.1 hP k (jm_wa hy) h1 j h2 (C.1.2.2.2.2 _ (List.mem_cons_of_mem _ h4)) (fun _ h => h) (jm_fvat hf) hd (kk p e s m args below meth c ls H locs C hl hP hS hm)
/-- a class's field types, and names that are apart -/
def jm_ft (ci : Nat) (ty : Nat → FieldType) : Prop := ∀ q : vw_C, jm_cl[ci]? = some q → (∀ k, k < q.2.2 → parseFieldDescriptor (q.2.1 k).2.2.1 = some (ty k)) ∧ ∀ a, a < q.2.2 → ∀ b, b < q.2.2 → a ≠ b → (q.2.1 a).2.1 ≠ (q.2.1 b).2.1
theorem jm_put {x : Int} {idx k ci : Nat} {fs : List (Option Nat)} {ty : Nat → FieldType} (j : Nat) (hd : decode i.2.1 pc = .ok (.putfield idx, 3)) (hL : jm_fl i.1.cls idx ci j) (hT : jm_ft ci ty) (hfin : ∀ q : vw_C, jm_cl[ci]? = some q → (q.2.1 j).2.2.2 = false) (hn : narrow (ty j) (jm_i x) = jm_i x) (hfit : fits (ty j) (jm_i x) = true) (hy : g.1[k]? = some (.inr (.inr (.inr (ci, fs))))) (hf : fs[j]? = some none) (hx : jm_rg x) (kk : jm_V l g d i (pc + 3) lv st (jm_wr mu k j x) Q) : jm_V l g d i pc lv (jm_i x :: .ref k :: st) mu Q := by
  intro p e s m args below meth c ls H locs C hl hP hS hm
  obtain ⟨q, h1, h2, h3, h4⟩ := hL
  obtain ⟨t1, t2⟩ := hT q h1
  have hlt : j < fs.length := (List.getElem?_eq_some_iff.mp hf).1
  refine va_put (v := jm_i x) C.1.1 C.1.2.1 C.1.2.2.2.2 (fun w hw => List.mem_cons_of_mem _ (h3 w hw)) ty t1 t2 C.1.2.2.2.1 C.2.2.2.1 hP (jm_wd C.2.2.2.2.1) hS k (jm_wa hy) h1 j h2 (C.1.2.2.2.2 _ (List.mem_cons_of_mem _ h4)) (fun _ h => h) (hfin q h1) (t1 j h2) hn hfit (by rw [List.length_mapIdx]; exact hlt) hd (fun H1 locs1 hP1 hD1 hS1 => ?_)
  rw [jm_ws1 (mu' := jm_wr mu k j x) hy ?_ (fun a s ha _ => jm_oth a s ha)] at hP1
  · exact kk p e s m args below meth c ls H1 locs1 C hl hP1 hS1 (jm_mrw hm hx)
  · show Sum.inr (ci, fs.mapIdx (jm_fv g (jm_wr mu k j x) k)) = Sum.inr (ci, (fs.mapIdx (jm_fv g mu k)).set j (jm_i x))
    congr 2
    apply List.ext_getElem?
    intro a
    by_cases ha : a = j
    · subst ha
      rw [List.getElem?_set_self (by rw [List.length_mapIdx]; exact hlt), List.getElem?_mapIdx, hf]
      show some (jm_i (if k = k ∧ (a : Int) = a then x else mu.1 k a)) = _
      rw [if_pos ⟨rfl, rfl⟩]
    · rw [List.getElem?_set_ne (fun z => ha z.symm), List.getElem?_mapIdx, List.getElem?_mapIdx]
      cases hfa : fs[a]? with
      | none => rfl
      | some f =>
        cases f with
        | none =>
          show some (jm_i (if k = k ∧ (a : Int) = j then x else mu.1 k a)) = some (jm_i (mu.1 k a))
          rw [if_neg (fun z => ha (by have := z.2; omega))]
        | some r => rfl
theorem jm_nI (x : Int) : narrow .int (jm_i x) = jm_i x := rfl
theorem jm_fI (x : Int) : fits .int (jm_i x) = true := rfl
theorem jm_b01 {x : Int} (h : x = 0 ∨ x = 1) : narrow .boolean (jm_i x) = jm_i x ∧ fits .boolean (jm_i x) = true := by
  rcases h with rfl | rfl <;> exact ⟨by decide, by decide⟩
/-! returns -/
theorem jm_iret {z : Int} (hd : decode i.2.1 pc = .ok (.ireturn, 1)) (hr : i.2.2.2 = some .int) (hq : Q (some (jm_i z)) mu) : jm_V l g d i pc lv [jm_i z] mu Q := by
  intro p e s m args below meth c ls H locs C hl hP hS hm
  exact W.iret (v := Int32.ofInt z) C.1.1 C.1.2.1 (C.2.1.trans hr) (fun t ht hW => ⟨⟨some (jm_i z), mu, rfl, hq, by rw [ht]; exact hP, hm⟩, hS.F ht⟩) hS.2.2 hd C.2.2.1
theorem jm_zret {z : Int} (hd : decode i.2.1 pc = .ok (.ireturn, 1)) (hr : i.2.2.2 = some .boolean) (hz : z = 0 ∨ z = 1) (hq : Q (some (jm_i z)) mu) : jm_V l g d i pc lv [jm_i z] mu Q := by
  intro p e s m args below meth c ls H locs C hl hP hS hm
  exact W.zret (v := Int32.ofInt z) C.1.1 C.1.2.1 (C.2.1.trans hr) (jm_b01 hz).1 (fun t ht hW => ⟨⟨some (jm_i z), mu, rfl, hq, by rw [ht]; exact hP, hm⟩, hS.F ht⟩) hS.2.2 hd C.2.2.1
theorem jm_lret {z : Int64} (hd : decode i.2.1 pc = .ok (.lreturn, 1)) (hr : i.2.2.2 = some .long) (hq : Q (some (.long z)) mu) : jm_V l g d i pc lv [.long z] mu Q := by
  intro p e s m args below meth c ls H locs C hl hP hS hm
  exact W.lret (v := z) C.1.1 C.1.2.1 (C.2.1.trans hr) (fun t ht hW => ⟨⟨some (.long z), mu, rfl, hq, by rw [ht]; exact hP, hm⟩, hS.F ht⟩) hS.2.2 hd C.2.2.1
theorem jm_vret (hd : decode i.2.1 pc = .ok (.return_, 1)) (hr : i.2.2.2 = none) (hq : Q none mu) : jm_V l g d i pc lv [] mu Q := by
  intro p e s m args below meth c ls H locs C hl hP hS hm
  exact W.vret C.1.1 C.1.2.1 (C.2.1.trans hr) (fun t ht hW => ⟨⟨none, mu, rfl, hq, by rw [ht]; exact hP, hm⟩, hS.F ht⟩) hS.2.2 hd C.2.2.1
/-- a method's contract out of its walk -/
theorem jm_enter {As : List Value} (lv : List (Nat × Value)) (hy : plainName i.1.cls = true) (hn : (lg_sl (As.map (jm_tv g))).length ≤ i.2.2.1) (he : lv_args 0 (As.map (jm_tv g)) = lv.map (jm_lq g)) (h : jm_V l g d i 0 lv [] mu Q) : jm_R l g d i As mu Q := by
  refine ⟨d, Nat.le_refl d, ?_⟩
  refine Met.ofW (cc := i.2.1) (maxL := i.2.2.1) (ret := i.2.2.2) hy rfl ?_
  intro p e s m args below meth c s₁ B hml hv
  obtain ⟨rfl, hK, hP, hok, hZ, hm⟩ := hv
  have hts := atoms_spec (ws := jm_ws i) B.pre
  have hown : s.vm.findClass i.1.cls = some m.cls := findClass_of_methodNamed B.named
  have hl := lv_entry (As.map (jm_tv g)) (n := i.2.2.1) hn
  rw [lg_entry_eq]
  rw [he] at hl
  exact h p e s m _ below meth c _ s.heap [] ⟨⟨B.exec, B.bytes, hml, hown, hts⟩, B.returns, B.notSynchronized, hK, hok, hZ⟩ hl hP va_S.rf hm
theorem jm_R.mono {As : List Value} {Q1 Q2 : Option Value → jm_M → Prop} (h : jm_R l g d i As mu Q1) (hq : ∀ r mu1, Q1 r mu1 → Q2 r mu1) : jm_R l g d i As mu Q2 := by
  obtain ⟨d0, h0, h1⟩ := h
  refine ⟨d0, h0, MetFree.mono h1 (fun _ _ h => h) (fun _ _ _ _ _ _ => trivial) (fun a s o s' _ hh => ?_)⟩
  obtain ⟨⟨⟨r, mu1, e1, e2, e3⟩, e4⟩, e5⟩ := hh
  exact ⟨⟨⟨r, mu1, e1, hq r mu1 e2, e3⟩, e4⟩, e5⟩
/-- what the tables say of a call -/
def jm_cw (y : jm_I) (n : Nat) : Prop := Cond.code y.1 y.2.1 y.2.2.1 y.2.2.2 ∈ jm_T ∧ Cond.initialized y.1.cls ∈ jm_T ∧ (y.1.cls ≠ "java/lang/invoke/MethodHandle" ∧ y.1.cls ≠ "java/lang/invoke/VarHandle" ∧ (parseMethodDescriptor y.1.desc).map (fun d => d.parameters.length) = some n) ∧ y.2.2.1 ≤ 21
def jm_mv (own : String) (idx : Nat) (y : jm_I) (n : Nat) : Prop := jm_cw y n ∧ Cond.methodLink own idx y.1 ∈ jm_T ∧ Cond.instanceMethod y.1 ∈ jm_T ∧ Cond.selects y.1.cls y.1 y.1 ∈ jm_T
def jm_ms (own : String) (idx : Nat) (y : jm_I) (n : Nat) : Prop := jm_cw y n ∧ Cond.methodLink own idx y.1 ∈ jm_T ∧ Cond.static y.1 ∈ jm_T
def jm_mn (g : jm_G) (own : String) (idx : Nat) (y : jm_I) (host : String) (n : Nat) : Prop := jm_cw y n ∧ Cond.static y.1 ∈ jm_T ∧ ∀ s : State, g.2.2.2.2 s → va_Nw (.methodLinkNest own idx y.1 host) s
theorem jm_gT {w : Cond} (h : w ∈ jm_T) : (w.onTables && w.keeps) = true ∨ ∃ ty, w = .arrayClass ty := good_of_word (List.mem_filter.mp h).2
theorem jm_gW {y : jm_I} {n : Nat} (h : jm_cw y n) : GoodIn (jm_ws i) (jm_ws y) := by
  intro w hw
  have h1 : w ∈ jm_T := by
    rcases List.mem_cons.mp hw with rfl | h2
    · exact h.1
    · exact h2
  exact ⟨List.mem_cons_of_mem _ h1, jm_gT h1⟩
theorem jm_blind {As : List Value} : FrameBlind (va_Pc As (jm_B g mu)) := by
  intro a U fr mk q
  obtain ⟨q0, qK, qP, qok, qZ, qm⟩ := q
  refine ⟨q0, va_K.moved (u := U) (U := U.calling fr mk a) (Vm.Alike.refl U.vm) qK, qP, qok, ?_, qm⟩
  exact qok.2 U _ qZ (State.WarmedH.refl U) ⟨Nat.le_refl _, fun _ _ _ => rfl⟩
theorem jm_preS {p : Program} {m : MethodId} {c : Code} {s : State} {args : Array Value} {meth : Method} {H : Heap} {locs : List Loc} {As : List Value} (C : jm_C p m c i s args meth g) (hP : va_P g.2.1 jm_cl (jm_w g mu) H) (hS : va_S (jm_A g) s.heap H locs) (hm : jm_mr mu) : PreS s H (va_Pc As (jm_B g mu)) As := by
  refine ⟨jm_blind, fun U hU hW => ⟨rfl, va_K.moved hW.alike C.2.2.2.1, by rw [hU]; exact hP, C.2.2.2.2.1, ?_, hm⟩⟩
  exact C.2.2.2.2.1.2 s U C.2.2.2.2.2 hW (hS.F hU)
theorem jm_back {As : List Value} {y : jm_I} {d0 : Nat} {p : Program} {e : Env} {m : MethodId} {c : Code} {s : State} {args : Array Value} {below : List Frame} {meth : Method} {H : Heap} {locs : List Loc} {ls : Array Slot} {stk st : List Value} {a : Array Value} {Q1 : Option Value → jm_M → Prop} {q : State → Prop}
    (hr : va_Run p l e (jm_rm d) s m args below meth c H locs 0 0 0 0 (F0 m pc ls stk) (st.map (jm_tv g)) (jm_Q g Q1 a) (jm_A g)) (hS : va_S (jm_A g) s.heap H locs)
    (k : ∀ (r : Option Value) (mu1 : jm_M) (H1 : Heap) (locs1 : List Loc), Q1 r mu1 → jm_mr mu1 → va_P g.2.1 jm_cl (jm_w g mu1) H1 → va_S (jm_A g) s.heap H1 locs1 → W p l e (jm_rm d) s m args below meth c H1 locs1 0 0 q (F0 m (pc + 3) ls ((r.toList ++ st).map (jm_tv g)))) : W p l e (jm_rm d) s m args below meth c H locs 0 0 q (F0 m pc ls stk) := by
  intro T hT X
  obtain ⟨v, st₀, t, T', L, h0, X', hL, e1, e2, ⟨⟨r, mu1, hv, hq, hP1, hm1⟩, hz, hk⟩, stp⟩ := hr T hT X
  cases hv
  rw [h0] at hz hk
  obtain ⟨t2, a1, b1⟩ := k r mu1 T'.heap (locs ++ L) hq hm1 (by rw [e1]; exact hP1) ⟨Nat.le_trans hS.1 (by rw [e1]; exact hz), fun q h1 h2 => by rw [e1, hk q (Nat.lt_of_lt_of_le h1 hS.1) h2]; exact hS.2.1 q h1 h2, fun q hq => by
      rcases List.mem_append.mp hq with h | h
      · exact hS.2.2 q h
      · exact hL q h⟩ T' rfl X'
  refine ⟨t2, stp t2 ?_, b1⟩
  have e3 : (r.map (jm_tv g)).toList ++ st.map (jm_tv g) = (r.toList ++ st).map (jm_tv g) := by cases r <;> rfl
  rw [e3]
  exact a1
theorem jm_sum {st : List Value} (h : (st.map fun v => v.category).sum ≤ 8) : ((st.map (jm_tv g)).map fun v => v.category).sum ≤ 8 := by
  have e : ((st.map (jm_tv g)).map fun v => v.category) = st.map fun v => v.category := by
    rw [List.map_map]
    apply List.map_congr_left
    intro v _
    exact jm_cat g v
  rw [e]
  exact h
theorem jm_callv {stk As : List Value} {b ci n idx : Nat} {fs : List (Option Nat)} {Q1 : Option Value → jm_M → Prop} (y : jm_I) (hd : decode i.2.1 pc = .ok (.invokevirtual idx, 3)) (hL : jm_mv i.1.cls idx y n) (hy : g.1[b]? = some (.inr (.inr (.inr (ci, fs))))) (hc : ∃ q : vw_C, jm_cl[ci]? = some q ∧ q.1 = y.1.cls) (hst : stk = As.reverse ++ .ref b :: st) (hn : As.length = n) (hcat : (st.map fun v => v.category).sum ≤ 8)
    (hr : jm_R l g d y (.ref b :: As) mu Q1) (k : ∀ r mu1, Q1 r mu1 → jm_V l g (d + 1) i (pc + 3) lv (r.toList ++ st) mu1 Q) : jm_V l g (d + 1) i pc lv stk mu Q := by
  intro p e s m args below meth c ls H locs C hl hP hS hm
  obtain ⟨d0, hd0, hM⟩ := hr
  obtain ⟨q, hq1, hq2⟩ := hc
  have hT := C.1.2.2.2.2
  have hw : ∀ {w : Cond}, w ∈ jm_T → w.before args s = true := fun h => hT _ (List.mem_cons_of_mem _ h)
  have hrecv := va_recv C.2.2.2.1 hP hq1 (jm_wa (mu := mu) hy)
  have hCB : CallB (jm_rm (d + 1)) s args i.1.cls idx y.1 y.2.1 y.2.2.1 y.2.2.2 (jm_ws y) (jm_rm d0) 0 0 n := callB_of n hT (jm_gW hL.1) rfl rfl rfl (hw hL.1.2.1) (hw hL.2.1) hL.1.2.2.1 ⟨by show d0 + 1 ≤ d + 1; omega, by have := hL.1.2.2.2; show 8 + (y.2.2.1 + 11) + 40 * d0 ≤ 40 * (d + 1); omega⟩
  have hpre := jm_preS (As := (.ref b :: As).map (jm_tv g)) C hP hS hm
  have hrun := va_runV (e := e) (below := below) (meth := meth) (g := F0 m pc ls (stk.map (jm_tv g))) (rest := st.map (jm_tv g)) (locs := locs) (cells := 0) (slots := 0) (As := As.map (jm_tv g)) (b := g.2.2.1 b) (C := y.1.cls) C.1 hM ⟨hCB, hw hL.2.2.1, hw hL.2.2.2⟩ ⟨hpre.1, by rw [← hq2]; exact hrecv, hpre.2⟩ rfl (by rw [List.length_map]; exact hn) hl.1 (by show stk.map (jm_tv g) = _; rw [hst, List.map_append, List.map_reverse]; rfl) (lv_room (jm_sum hcat)) hd ⟨Nat.zero_le _, Nat.zero_le _⟩
  exact jm_back (As := As) (y := y) (d0 := d0) hrun hS (fun r mu1 H1 locs1 hq hm1 hP1 hS1 => k r mu1 hq p e s m args below meth c ls H1 locs1 C hl hP1 hS1 hm1)
theorem jm_calls {stk As : List Value} {n idx : Nat} {Q1 : Option Value → jm_M → Prop} (y : jm_I) (hd : decode i.2.1 pc = .ok (.invokestatic idx, 3)) (hL : jm_ms i.1.cls idx y n) (hst : stk = As.reverse ++ st) (hn : As.length = n) (hcat : (st.map fun v => v.category).sum ≤ 8)
    (hr : jm_R l g d y As mu Q1) (k : ∀ r mu1, Q1 r mu1 → jm_V l g (d + 1) i (pc + 3) lv (r.toList ++ st) mu1 Q) : jm_V l g (d + 1) i pc lv stk mu Q := by
  intro p e s m args below meth c ls H locs C hl hP hS hm
  obtain ⟨d0, hd0, hM⟩ := hr
  have hT := C.1.2.2.2.2
  have hw : ∀ {w : Cond}, w ∈ jm_T → w.before args s = true := fun h => hT _ (List.mem_cons_of_mem _ h)
  have hCB : CallB (jm_rm (d + 1)) s args i.1.cls idx y.1 y.2.1 y.2.2.1 y.2.2.2 (jm_ws y) (jm_rm d0) 0 0 n := callB_of n hT (jm_gW hL.1) rfl rfl rfl (hw hL.1.2.1) (hw hL.2.1) hL.1.2.2.1 ⟨by show d0 + 1 ≤ d + 1; omega, by have := hL.1.2.2.2; show 8 + (y.2.2.1 + 11) + 40 * d0 ≤ 40 * (d + 1); omega⟩
  have hpre := jm_preS (As := As.map (jm_tv g)) C hP hS hm
  have hrun := va_runS (e := e) (below := below) (meth := meth) (g := F0 m pc ls (stk.map (jm_tv g))) (rest := st.map (jm_tv g)) (locs := locs) (cells := 0) (slots := 0) (As := As.map (jm_tv g)) C.1 hM ⟨hCB, hw hL.2.2⟩ hpre rfl (by rw [List.length_map]; exact hn) hl.1 (by show stk.map (jm_tv g) = _; rw [hst, List.map_append, List.map_reverse]) (lv_room (jm_sum hcat)) hd ⟨Nat.zero_le _, Nat.zero_le _⟩
  exact jm_back (As := As) (y := y) (d0 := d0) hrun hS (fun r mu1 H1 locs1 hq hm1 hP1 hS1 => k r mu1 hq p e s m args below meth c ls H1 locs1 C hl hP1 hS1 hm1)
theorem jm_calln {stk As : List Value} {n idx : Nat} {host : String} {Q1 : Option Value → jm_M → Prop} (y : jm_I) (hd : decode i.2.1 pc = .ok (.invokestatic idx, 3)) (hL : jm_mn g i.1.cls idx y host n) (hst : stk = As.reverse ++ st) (hn : As.length = n) (hcat : (st.map fun v => v.category).sum ≤ 8)
    (hr : jm_R l g d y As mu Q1) (k : ∀ r mu1, Q1 r mu1 → jm_V l g (d + 1) i (pc + 3) lv (r.toList ++ st) mu1 Q) : jm_V l g (d + 1) i pc lv stk mu Q := by
  intro p e s m args below meth c ls H locs C hl hP hS hm
  obtain ⟨d0, hd0, hM⟩ := hr
  have hT := C.1.2.2.2.2
  have hw : ∀ {w : Cond}, w ∈ jm_T → w.before args s = true := fun h => hT _ (List.mem_cons_of_mem _ h)
  have hCN : va_CN (jm_rm (d + 1)) s args i.1.cls idx y.1 host y.2.1 y.2.2.1 y.2.2.2 (jm_ws y) (jm_rm d0) 0 0 n := va_cnB n hT (jm_gW hL.1) rfl rfl rfl (hL.2.2 s C.2.2.2.2.2) (hw hL.1.2.1) hL.1.2.2.1 ⟨by show d0 + 1 ≤ d + 1; omega, by have := hL.1.2.2.2; show 8 + (y.2.2.1 + 11) + 40 * d0 ≤ 40 * (d + 1); omega⟩
  have hpre := jm_preS (As := As.map (jm_tv g)) C hP hS hm
  have hrun := va_runSN (e := e) (below := below) (meth := meth) (g := F0 m pc ls (stk.map (jm_tv g))) (rest := st.map (jm_tv g)) (locs := locs) (cells := 0) (slots := 0) (As := As.map (jm_tv g)) C.1 hM ⟨hCN, hw hL.2.1, trivial⟩ hpre rfl (by rw [List.length_map]; exact hn) hl.1 (by show stk.map (jm_tv g) = _; rw [hst, List.map_append, List.map_reverse]) (lv_room (jm_sum hcat)) hd ⟨Nat.zero_le _, Nat.zero_le _⟩
  exact jm_back (As := As) (y := y) (d0 := d0) hrun hS (fun r mu1 H1 locs1 hq hm1 hP1 hS1 => k r mu1 hq p e s m args below meth c ls H1 locs1 C hl hP1 hS1 hm1)
/-! Math and arraycopy -/
def jm_mth (own : String) (idx : Nat) (nm : MethodName) (bc : ByteArray) (n : Nat) : Prop := Cond.methodLink own idx nm ∈ jm_T ∧ Cond.static nm ∈ jm_T ∧ Cond.initialized "java/lang/Math" ∈ jm_T ∧ Cond.code nm bc n (some .int) ∈ jm_T
theorem jm_mmax {a b : Int} {idx : Nat} (hd : decode i.2.1 pc = .ok (.invokestatic idx, 3)) (hL : jm_mth i.1.cls idx Lib.Math.max.name Lib.Math.max.code 2) (ha : jm_rg a) (hb : jm_rg b) (hcat : (st.map fun v => v.category).sum ≤ 8) (k : jm_V l g (d + 1) i (pc + 3) lv (jm_i (max a b) :: st) mu Q) : jm_V l g (d + 1) i pc lv (jm_i b :: jm_i a :: st) mu Q := by
  intro p e s m args below meth c ls H locs C hl hP hS hm
  have hw : ∀ {w : Cond}, w ∈ jm_T → w.before args s = true := fun h => C.1.2.2.2.2 _ (List.mem_cons_of_mem _ h)
  refine va_mmax (x := Int32.ofInt a) (y := Int32.ofInt b) C.1.1 C.1.2.1 (C.1.2.2.1.trans hl.1.symm) C.1.2.2.2.1 (hw hL.1) (hw hL.2.1) (hw hL.2.2.1) (hw hL.2.2.2) (by show 1 ≤ d + 1; omega) (by have := jm_sum (g := g) hcat; show _ + 13 ≤ 40 * (d + 1); omega) (Nat.zero_le _) (Nat.zero_le _) hd ?_
  have e1 : (if Int32.ofInt a < Int32.ofInt b then Int32.ofInt b else Int32.ofInt a) = Int32.ofInt (max a b) := by
    by_cases h : a < b
    · rw [if_pos ((jm_cl1 ha hb).mpr h), Int.max_eq_right (by omega)]
    · rw [if_neg (fun q => h ((jm_cl1 ha hb).mp q)), Int.max_eq_left (by omega)]
  rw [e1]
  exact k p e s m args below meth c ls H locs C hl hP hS hm
theorem jm_mmin {a b : Int} {idx : Nat} (hd : decode i.2.1 pc = .ok (.invokestatic idx, 3)) (hL : jm_mth i.1.cls idx Lib.Math.min.name Lib.Math.min.code 2) (ha : jm_rg a) (hb : jm_rg b) (hcat : (st.map fun v => v.category).sum ≤ 8) (k : jm_V l g (d + 1) i (pc + 3) lv (jm_i (min a b) :: st) mu Q) : jm_V l g (d + 1) i pc lv (jm_i b :: jm_i a :: st) mu Q := by
  intro p e s m args below meth c ls H locs C hl hP hS hm
  have hw : ∀ {w : Cond}, w ∈ jm_T → w.before args s = true := fun h => C.1.2.2.2.2 _ (List.mem_cons_of_mem _ h)
  refine va_mmin (x := Int32.ofInt a) (y := Int32.ofInt b) C.1.1 C.1.2.1 (C.1.2.2.1.trans hl.1.symm) C.1.2.2.2.1 (hw hL.1) (hw hL.2.1) (hw hL.2.2.1) (hw hL.2.2.2) (by show 1 ≤ d + 1; omega) (by have := jm_sum (g := g) hcat; show _ + 13 ≤ 40 * (d + 1); omega) (Nat.zero_le _) (Nat.zero_le _) hd ?_
  have e1 : (if Int32.ofInt b < Int32.ofInt a then Int32.ofInt b else Int32.ofInt a) = Int32.ofInt (min a b) := by
    by_cases h : b < a
    · rw [if_pos ((jm_cl1 hb ha).mpr h), Int.min_eq_right (by omega)]
    · rw [if_neg (fun q => h ((jm_cl1 hb ha).mp q)), Int.min_eq_left (by omega)]
  rw [e1]
  exact k p e s m args below meth c ls H locs C hl hP hS hm
theorem jm_mabs {a : Int} {idx : Nat} (hd : decode i.2.1 pc = .ok (.invokestatic idx, 3)) (hL : jm_mth i.1.cls idx Lib.Math.abs.name Lib.Math.abs.code 1) (ha : jm_rg a) (hcat : (st.map fun v => v.category).sum ≤ 8) (k : jm_V l g (d + 1) i (pc + 3) lv (jm_i (if 0 ≤ a then a else -a) :: st) mu Q) : jm_V l g (d + 1) i pc lv (jm_i a :: st) mu Q := by
  intro p e s m args below meth c ls H locs C hl hP hS hm
  have hw : ∀ {w : Cond}, w ∈ jm_T → w.before args s = true := fun h => C.1.2.2.2.2 _ (List.mem_cons_of_mem _ h)
  refine va_mabs (x := Int32.ofInt a) C.1.1 C.1.2.1 (C.1.2.2.1.trans hl.1.symm) C.1.2.2.2.1 (hw hL.1) (hw hL.2.1) (hw hL.2.2.1) (hw hL.2.2.2) (by show 1 ≤ d + 1; omega) (by have := jm_sum (g := g) hcat; show _ + 13 ≤ 40 * (d + 1); omega) (Nat.zero_le _) (Nat.zero_le _) hd ?_
  have e1 : (if 0 ≤ Int32.ofInt a then Int32.ofInt a else 0 - Int32.ofInt a) = Int32.ofInt (if 0 ≤ a then a else -a) := by
    show (if Int32.ofInt 0 ≤ Int32.ofInt a then Int32.ofInt a else 0 - Int32.ofInt a) = Int32.ofInt (if 0 ≤ a then a else -a)
    by_cases h : 0 ≤ a
    · rw [if_pos ((jm_cl2 jm_rg0 ha).mpr h), if_pos h]
    · rw [if_neg (fun q => h ((jm_cl2 jm_rg0 ha).mp q)), if_neg h, Int32.ofInt_neg, Int32.zero_sub]
  rw [e1]
  exact k p e s m args below meth c ls H locs C hl hP hS hm
def jm_acp (own : String) (idx : Nat) : Prop := Cond.methodLink own idx arraycopyName ∈ jm_T ∧ Cond.native arraycopyName ∈ jm_T ∧ Cond.static arraycopyName ∈ jm_T ∧ Cond.initialized "java/lang/System" ∈ jm_T
theorem jm_othc {a b : Nat} {sp dp n : Int} (j : Nat) (s : jm_S) (hj : j ≠ b) : jm_el g (jm_cp mu a sp b dp n) j s = jm_el g mu j s := by
  have h : ∀ x : Int, (jm_cp mu a sp b dp n).1 j x = mu.1 j x := fun x => by simp [jm_cp, hj]
  rcases s with n | n | rs | o
  · simp only [jm_el, h]
  · rfl
  · rfl
  · have h2 : jm_fv g (jm_cp mu a sp b dp n) j = jm_fv g mu j := by
      funext q f
      cases f with
      | none => simp only [jm_fv, h]
      | some r => rfl
    simp only [jm_el, h2]
theorem jm_copy {a b na nb idx : Nat} {sp dp n : Int} (hd : decode i.2.1 pc = .ok (.invokestatic idx, 3)) (hL : jm_acp i.1.cls idx) (ha : g.1[a]? = some (.inl na)) (hb : g.1[b]? = some (.inl nb)) (hna : na ≤ 2147483647) (hnb : nb ≤ 2147483647) (h1 : 0 ≤ sp) (h2 : 0 ≤ dp) (h3 : 0 ≤ n) (h4 : sp + n ≤ na) (h5 : dp + n ≤ nb) (hcat : (st.map fun v => v.category).sum ≤ 8)
    (k : jm_V l g (d + 1) i (pc + 3) lv st (jm_cp mu a sp b dp n) Q) : jm_V l g (d + 1) i pc lv (jm_i n :: jm_i dp :: .ref b :: jm_i sp :: .ref a :: st) mu Q := by
  intro p e s m args below meth c ls H locs C hl hP hS hm
  have hw : ∀ {w : Cond}, w ∈ jm_T → w.before args s = true := fun h => C.1.2.2.2.2 _ (List.mem_cons_of_mem _ h)
  have nl : ∀ {z : Int}, 0 ≤ z → z ≤ 2147483647 → ¬ Int32.ofInt z < 0 := fun hz hz2 q => by
    have := (jm_cl1 (b := 0) ⟨by omega, by omega⟩ jm_rg0).mp q
    omega
  have t1 := jm_tn h1 (by omega)
  have t2 := jm_tn h2 (by omega)
  have t3 := jm_tn h3 (by omega)
  refine va_copyi (sp := Int32.ofInt sp) (dp := Int32.ofInt dp) (n := Int32.ofInt n) C.1.1 C.1.2.1 (C.1.2.2.1.trans hl.1.symm) C.1.2.2.2.1 (hw hL.1) (hw hL.2.1) (hw hL.2.2.1) (hw hL.2.2.2) C.2.2.2.1 hP (jm_wd C.2.2.2.2.1) hS a b 0 0 (jm_wa ha) (jm_wa hb) rfl rfl rfl (nl h1 (by omega)) (nl h2 (by omega)) (nl h3 (by omega)) (by omega) (by omega) (fun _ _ => rfl) (by show 1 ≤ d + 1; omega) (by have := jm_sum (g := g) hcat; show _ + (nativeFrameWords "java/lang/System" "arraycopy" 5 + 11) ≤ 40 * (d + 1); have e9 : nativeFrameWords "java/lang/System" "arraycopy" 5 ≤ 20 := (by decide +kernel); omega) hd (fun H1 locs1 hP1 hD1 hS1 => ?_)
  rw [jm_ws1 (mu' := jm_cp mu a sp b dp n) hb ?_ (fun j s hj _ => jm_othc j s hj)] at hP1
  · refine k p e s m args below meth c ls H1 locs1 C hl hP1 hS1 (fun c9 i9 => ?_)
    show jm_rg (if c9 = b ∧ dp ≤ i9 ∧ i9 < dp + n then mu.1 a (sp + (i9 - dp)) else mu.1 c9 i9)
    split
    · exact hm _ _
    · exact hm _ _
  · show Sum.inl _ = Sum.inl _
    congr 4
    funext j
    show Int32.ofInt (if b = b ∧ dp ≤ (j : Int) ∧ (j : Int) < dp + n then mu.1 a (sp + (j - dp)) else mu.1 b j) = va_cpy (fun j : Nat => Int32.ofInt (mu.1 a j)) (fun j : Nat => Int32.ofInt (mu.1 b j)) (Int32.ofInt sp).toNatClampNeg (Int32.ofInt dp).toNatClampNeg (Int32.ofInt n).toNatClampNeg j
    unfold va_cpy
    by_cases hj : dp ≤ (j : Int) ∧ (j : Int) < dp + n
    · rw [if_pos ⟨rfl, hj⟩, if_pos ⟨by omega, by omega⟩]
      have e8 : (sp + ((j : Int) - dp)) = (((Int32.ofInt sp).toNatClampNeg + (j - (Int32.ofInt dp).toNatClampNeg) : Nat) : Int) := by omega
      rw [e8]
    · rw [if_neg (fun q => hj q.2), if_neg (fun q => hj ⟨by omega, by omega⟩)]
end JF
