/-! ===== the machine of constructors: values are addresses, the world is a list that grows ===== -/
def jc_N (s : State) : Prop := ∀ q ∈ jc_NK, va_Nw (.methodLinkNest q.1 q.2.1 q.2.2.1 q.2.2.2) s
theorem jc_N.warm {s U : State} (hW : s.WarmedH U.vm) (h : jc_N s) : jc_N U := fun q hq => va_Nw.warmM hW (h q hq)
abbrev jc_G : Type := va_G × ClassId × ClassId × ClassId
def jc_ty (g : jc_G) : List (ClassId × FieldType) := [(g.2.1, .int), (g.2.2.1, .long), (g.2.2.2, .object "SungEvidence$Court")]
def jc_rm (d mc ms : Nat) : Room := { frames := d, cells := mc, slots := ms, locals := 40 * d }
def jc_Q (g : jc_G) (A : Nat → Prop) (Q : va_W → Prop) : Array Value → State → Outcome → State → Prop := va_Qv Q (fun ws t => va_P g.1 jm_cl ws t.heap ∧ va_D A ws) A
def jc_C (p : Program) (m : MethodId) (c : Code) (i : jm_I) (s : State) (args : Array Value) (meth : Method) (g : jc_G) : Prop := CallFix p m c i.2.1 i.2.2.1 s args (jm_ws i) i.1.cls ∧ meth.sig.returnType = none ∧ meth.locks = false ∧ va_K g.1 jm_cl (jc_ty g) s ∧ meth.name = "<init>" ∧ va_AO "SungEvidence$Court" s ∧ jc_N s
def jc_V (l : Launch) (g : jc_G) (d mc ms : Nat) (i : jm_I) (pc : Nat) (lv : List (Nat × Value)) (st : List Value) (ws : va_W) (k n : Nat) (Q : va_W → Prop) : Prop :=
  ∀ (A : Nat → Prop) (p : Program) (e : Env) (s : State) (m : MethodId) (args : Array Value) (below : List Frame) (meth : Method) (c : Code) (ls : Array Slot) (H : Heap) (locs : List Loc),
    jc_C p m c i s args meth g → (∀ q : Nat, s.heap.size ≤ q → A q) → lv_has ls i.2.2.1 lv → va_P g.1 jm_cl ws H → va_D A ws → va_S A s.heap H locs →
    W p l e (jc_rm d mc ms) s m args below meth c H locs k n (MQ below (jc_Q g A Q) args s mc ms A) (F0 m pc ls st)
def jc_R (l : Launch) (g : jc_G) (d mc ms : Nat) (y : jm_I) (As : List Value) (pre : va_W) (Q : va_W → Prop) : Prop :=
  ∀ sz : Nat, Met l y.1 (jm_ws y) (jc_rm d mc ms) (va_Pc As (fun U => U.heap.size = sz ∧ va_P g.1 jm_cl pre U.heap ∧ va_K g.1 jm_cl (jc_ty g) U ∧ va_D (fun _ => True) pre ∧ va_AO "SungEvidence$Court" U ∧ jc_N U)) (jc_Q g (va_A pre sz) Q) mc ms (va_A pre sz)
def jm_mi (own : String) (idx : Nat) (y : jm_I) (n : Nat) : Prop := jm_cw y n ∧ (Cond.methodLink own idx y.1 ∈ jm_T ∨ ∃ host, (own, idx, y.1, host) ∈ jc_NK) ∧ Cond.instanceMethod y.1 ∈ jm_T ∧ y.1.name = "<init>" ∧ y.2.2.2 = none
section JCR
variable {l : Launch} {g : jc_G} {d mc ms : Nat} {i : jm_I} {pc k n : Nat} {lv lv' : List (Nat × Value)} {st : List Value} {ws ws' : va_W} {Q : va_W → Prop}
theorem jc_to (h : ws = ws') (kk : jc_V l g d mc ms i pc lv st ws' k n Q) : jc_V l g d mc ms i pc lv st ws k n Q := h ▸ kk
theorem jc_enter {As : List Value} {pre : va_W} (lv : List (Nat × Value)) (hy : plainName i.1.cls = true) (hr : i.2.2.2 = none) (hn : (lg_sl As).length ≤ i.2.2.1) (hnm : i.1.name = "<init>") (he : lv_args 0 As = lv) (h : jc_V l g d mc ms i 0 lv [] pre 0 0 Q) : jc_R l g d mc ms i As pre Q := by
  intro sz
  refine Met.ofW (cc := i.2.1) (maxL := i.2.2.1) (ret := i.2.2.2) hy rfl ?_
  intro p e s m args below meth c s₁ B hml hv
  obtain ⟨rfl, hsz, hP, hK, hD0, hAO, hNK⟩ := hv
  have hts := atoms_spec (ws := jm_ws i) B.pre
  have hown : s.vm.findClass i.1.cls = some m.cls := findClass_of_methodNamed B.named
  have hin : meth.name = "<init>" := (name_of_methodNamed B.named B.method).1.trans hnm
  subst hsz
  have hl := lv_entry As (n := i.2.2.1) hn
  rw [lg_entry_eq]
  rw [he] at hl
  exact h (va_A pre s.heap.size) p e s m _ below meth c _ s.heap [] ⟨⟨B.exec, B.bytes, hml, hown, hts⟩, B.returns.trans hr, B.notSynchronized, hK, hin, hAO, hNK⟩ (fun q hq => Or.inr hq) hl hP hD0.self va_S.rf
theorem jc_dup {v : Value} (hd : decode i.2.1 pc = .ok (.dup, 1)) (hv : v.category = 1) (kk : jc_V l g d mc ms i (pc + 1) lv (v :: v :: st) ws k n Q) : jc_V l g d mc ms i pc lv (v :: st) ws k n Q :=
  fun A p e s m args below meth c ls H locs C hA hl hP hD hS => lv_dup C.1.1 C.1.2.1 hd hv (kk A p e s m args below meth c ls H locs C hA hl hP hD hS)
theorem jc_aload_n {f : Fin 4} {x : Nat} (q : Nat) (hd : decode i.2.1 pc = .ok (.aload_n f, 1)) (hk : lv[q]? = some (f.val, .ref x)) (kk : jc_V l g d mc ms i (pc + 1) lv (.ref x :: st) ws k n Q) : jc_V l g d mc ms i pc lv st ws k n Q :=
  fun A p e s m args below meth c ls H locs C hA hl hP hD hS => lv_aload_n C.1.1 C.1.2.1 hd rfl (lv_at hl q hk) (kk A p e s m args below meth c ls H locs C hA hl hP hD hS)
theorem jc_iload_n {f : Fin 4} {x : Int32} (q : Nat) (hd : decode i.2.1 pc = .ok (.iload_n f, 1)) (hk : lv[q]? = some (f.val, .int x)) (kk : jc_V l g d mc ms i (pc + 1) lv (.int x :: st) ws k n Q) : jc_V l g d mc ms i pc lv st ws k n Q :=
  fun A p e s m args below meth c ls H locs C hA hl hP hD hS => lv_iload_n C.1.1 C.1.2.1 hd rfl (lv_at hl q hk) (kk A p e s m args below meth c ls H locs C hA hl hP hD hS)
theorem jc_iconst {z : Int} (v : Int32) (hd : decode i.2.1 pc = .ok (.iconst z, 1)) (hv : Int32.ofInt z = v) (kk : jc_V l g d mc ms i (pc + 1) lv (.int v :: st) ws k n Q) : jc_V l g d mc ms i pc lv st ws k n Q :=
  fun A p e s m args below meth c ls H locs C hA hl hP hD hS => lv_iconst C.1.1 C.1.2.1 hd hv (kk A p e s m args below meth c ls H locs C hA hl hP hD hS)
theorem jc_bipush {z : Int} (v : Int32) (hd : decode i.2.1 pc = .ok (.bipush z, 2)) (hv : (Int8.ofInt z).toInt32 = v) (kk : jc_V l g d mc ms i (pc + 2) lv (.int v :: st) ws k n Q) : jc_V l g d mc ms i pc lv st ws k n Q :=
  fun A p e s m args below meth c ls H locs C hA hl hP hD hS => lv_bipush C.1.1 C.1.2.1 hd hv (kk A p e s m args below meth c ls H locs C hA hl hP hD hS)
theorem jc_sipush {z : Int} (v : Int32) (hd : decode i.2.1 pc = .ok (.sipush z, 3)) (hv : (Int16.ofInt z).toInt32 = v) (kk : jc_V l g d mc ms i (pc + 3) lv (.int v :: st) ws k n Q) : jc_V l g d mc ms i pc lv st ws k n Q :=
  fun A p e s m args below meth c ls H locs C hA hl hP hD hS => lv_sipush C.1.1 C.1.2.1 hd hv (kk A p e s m args below meth c ls H locs C hA hl hP hD hS)
theorem jc_istore_n {f : Fin 4} {x : Int32} (hd : decode i.2.1 pc = .ok (.istore_n f, 1)) (hn : f.val < i.2.2.1) (hl' : (f.val, Value.int x) :: lv.filter (fun q => !(q.1 == f.val) && !(q.1 + 1 == f.val && q.2.category == 2)) = lv') (kk : jc_V l g d mc ms i (pc + 1) lv' st ws k n Q) : jc_V l g d mc ms i pc lv (.int x :: st) ws k n Q :=
  fun A p e s m args below meth c ls H locs C hA hl hP hD hS => lv_istore_n C.1.1 C.1.2.1 hd rfl hl hn hl' (fun ls' hl2 => kk A p e s m args below meth c ls' H locs C hA hl2 hP hD hS)
theorem jc_iinc {j q : Nat} {z : Int} {x : Int32} (v : Int32) (hd : decode i.2.1 pc = .ok (.iinc j z, 3)) (hk : lv[q]? = some (j, .int x)) (hv : x + Int32.ofInt z = v) (hn : j < i.2.2.1) (hl' : (j, Value.int v) :: lv.filter (fun q => !(q.1 == j) && !(q.1 + 1 == j && q.2.category == 2)) = lv') (kk : jc_V l g d mc ms i (pc + 3) lv' st ws k n Q) : jc_V l g d mc ms i pc lv st ws k n Q :=
  fun A p e s m args below meth c ls H locs C hA hl hP hD hS => lv_iinc C.1.1 C.1.2.1 hd hl hk hv hn hl' (fun ls' hl2 => kk A p e s m args below meth c ls' H locs C hA hl2 hP hD hS)
theorem jc_icmp_ge {x y : Int32} {off : Int} (tgt : Nat) (hd : decode i.2.1 pc = .ok (.if_icmp .ge off, 3)) (ht : (pc : Int) + off = (tgt : Int)) (kt : y ≤ x → jc_V l g d mc ms i tgt lv st ws k n Q) (kf : ¬ y ≤ x → jc_V l g d mc ms i (pc + 3) lv st ws k n Q) : jc_V l g d mc ms i pc lv (.int y :: .int x :: st) ws k n Q :=
  fun A p e s m args below meth c ls H locs C hA hl hP hD hS => lv_icmp_ge C.1.1 C.1.2.1 hd ht (fun q => kt q A p e s m args below meth c ls H locs C hA hl hP hD hS) (fun q => kf q A p e s m args below meth c ls H locs C hA hl hP hD hS)
theorem jc_goto {off : Int} (tgt : Nat) (hd : decode i.2.1 pc = .ok (.goto off, 3)) (ht : (pc : Int) + off = (tgt : Int)) (kk : jc_V l g d mc ms i tgt lv st ws k n Q) : jc_V l g d mc ms i pc lv st ws k n Q :=
  fun A p e s m args below meth c ls H locs C hA hl hP hD hS => lv_goto C.1.1 C.1.2.1 hd ht (kk A p e s m args below meth c ls H locs C hA hl hP hD hS)
theorem jc_obj {idx a : Nat} (hd : decode i.2.1 pc = .ok (.invokespecial idx, 3)) (h1 : Cond.methodLink i.1.cls idx Lib.objectInit ∈ jm_T) (h2 : Cond.instanceMethod Lib.objectInit ∈ jm_T) (h3 : Cond.code Lib.objectInit ⟨#[0xb1]⟩ 1 none ∈ jm_T) (hd1 : 1 ≤ d) (kk : jc_V l g d mc ms i (pc + 3) lv [] ws k n Q) : jc_V l g d mc ms i pc lv [.ref a] ws k n Q := by
  intro A p e s m args below meth c ls H locs C hA hl hP hD hS
  have hw : ∀ {w : Cond}, w ∈ jm_T → w.before args s = true := fun h => C.1.2.2.2.2 _ (List.mem_cons_of_mem _ h)
  refine W.objInit C.1.1 C.1.2.1 C.1.2.2.2.1 (hw h1) (hw h2) (hw h3) rfl (by rw [C.1.2.2.1]; exact hl.1) rfl hd hd1 (by show 2 * 0 + 0 + 12 ≤ 40 * d; omega) ?_
  exact W.eq (g2 := F0 m (pc + 3) ls []) rfl (kk A p e s m args below meth c ls H locs C hA hl hP hD hS)
theorem jc_new {idx ci : Nat} {q : vw_C} (ty : Nat → FieldType) (fs : List Value) (hd : decode i.2.1 pc = .ok (.new idx, 3)) (hc : jm_cl[ci]? = some q) (hu : ∀ w ∈ u_ws q.1 q.2.1 q.2.2, w ∈ jm_T) (hty : ∀ j, j < q.2.2 → parseFieldDescriptor (q.2.1 j).2.2.1 = some (ty j)) (h1 : Cond.classLink i.1.cls idx q.1 ∈ jm_T) (h2 : Cond.instantiable q.1 q.2.2 ∈ jm_T) (h3 : Cond.initialized q.1 ∈ jm_T) (hfs : ∀ j, j < q.2.2 → defaultValue (ty j) = vp_V fs j) (hk : k + 1 ≤ mc) (hn : n + q.2.2 ≤ ms) (kk : ∀ a : Nat, jc_V l g d mc ms i (pc + 3) lv (.ref a :: st) (ws ++ [(a, .inr (ci, fs))]) (k + 1) (n + q.2.2) Q) : jc_V l g d mc ms i pc lv st ws k n Q := by
  intro A p e s m args below meth c ls H locs C hA hl hP hD hS
  have hw : ∀ {w : Cond}, w ∈ jm_T → w.before args s = true := fun h => C.1.2.2.2.2 _ (List.mem_cons_of_mem _ h)
  exact va_new (C := q.1) (T := q.2.1) (N := q.2.2) C.1.1 C.1.2.1 C.1.2.2.2.2 (fun w hw => List.mem_cons_of_mem _ (hu w hw)) ty hty C.1.2.2.2.1 (hw h1) (hw h2) (hw h3) C.2.2.2.1 hP hD hS hA hc hfs hk hn hd (fun a H1 hP1 hD1 hS1 => kk a A p e s m args below meth c ls H1 locs C hA hl hP1 hD1 hS1)
theorem jc_newi {z : Int32} (N : Nat) (hd : decode i.2.1 pc = .ok (.newarray .int, 2)) (h1 : Cond.arrayClass .int ∈ jm_T) (hz : ¬ z < 0) (hN : z.toNatClampNeg = N) (hb : N * 4 ≤ 536870912) (hk : k + 1 ≤ mc) (hn : n + N ≤ ms) (kk : ∀ a : Nat, jc_V l g d mc ms i (pc + 2) lv (.ref a :: st) (ws ++ [(a, .inl (g.2.1, N, .inl (fun _ => 0)))]) (k + 1) (n + N) Q) : jc_V l g d mc ms i pc lv (.int z :: st) ws k n Q := by
  intro A p e s m args below meth c ls H locs C hA hl hP hD hS
  have hw : ∀ {w : Cond}, w ∈ jm_T → w.before args s = true := fun h => C.1.2.2.2.2 _ (List.mem_cons_of_mem _ h)
  refine va_newa (atype := .int) (ty := .int) (a0 := (N, .inl (fun _ => 0))) C.1.1 C.1.2.1 (hw h1) rfl C.2.2.2.1 hP hD hS hA (fun cA => rfl) hz hN hb hk hn hd (fun a cA H1 hK1 hP1 hD1 hS1 => ?_)
  have e1 : s.vm.findClass ("[" ++ FieldType.int.toString) = some cA := (hK1.2 3 (cA, .int) rfl).2
  have e2 : s.vm.findClass ("[" ++ FieldType.int.toString) = some g.2.1 := (C.2.2.2.1.2 0 (g.2.1, .int) rfl).2
  have e3 : cA = g.2.1 := Option.some.inj (e1.symm.trans e2)
  subst e3
  exact kk a A p e s m args below meth c ls H1 locs C hA hl hP1 hD1 hS1
theorem jc_newl {z : Int32} (N : Nat) (hd : decode i.2.1 pc = .ok (.newarray .long, 2)) (h1 : Cond.arrayClass .long ∈ jm_T) (hz : ¬ z < 0) (hN : z.toNatClampNeg = N) (hb : N * 8 ≤ 536870912) (hk : k + 1 ≤ mc) (hn : n + N ≤ ms) (kk : ∀ a : Nat, jc_V l g d mc ms i (pc + 2) lv (.ref a :: st) (ws ++ [(a, .inl (g.2.2.1, N, .inr (.inl (fun _ => 0))))]) (k + 1) (n + N) Q) : jc_V l g d mc ms i pc lv (.int z :: st) ws k n Q := by
  intro A p e s m args below meth c ls H locs C hA hl hP hD hS
  have hw : ∀ {w : Cond}, w ∈ jm_T → w.before args s = true := fun h => C.1.2.2.2.2 _ (List.mem_cons_of_mem _ h)
  refine va_newa (atype := .long) (ty := .long) (a0 := (N, .inr (.inl (fun _ => 0)))) C.1.1 C.1.2.1 (hw h1) rfl C.2.2.2.1 hP hD hS hA (fun cA => rfl) hz hN hb hk hn hd (fun a cA H1 hK1 hP1 hD1 hS1 => ?_)
  have e1 : s.vm.findClass ("[" ++ FieldType.long.toString) = some cA := (hK1.2 3 (cA, .long) rfl).2
  have e2 : s.vm.findClass ("[" ++ FieldType.long.toString) = some g.2.2.1 := (C.2.2.2.1.2 1 (g.2.2.1, .long) rfl).2
  have e3 : cA = g.2.2.1 := Option.some.inj (e1.symm.trans e2)
  subst e3
  exact kk a A p e s m args below meth c ls H1 locs C hA hl hP1 hD1 hS1
theorem jc_newc {z : Int32} {idx : Nat} (N : Nat) (hd : decode i.2.1 pc = .ok (.anewarray idx, 3)) (h1 : Cond.classLink i.1.cls idx "SungEvidence$Court" ∈ jm_T) (hz : ¬ z < 0) (hN : z.toNatClampNeg = N) (hb : N * 4 ≤ 536870912) (hk : k + 1 ≤ mc) (hn : n + N ≤ ms) (kk : ∀ a : Nat, jc_V l g d mc ms i (pc + 3) lv (.ref a :: st) (ws ++ [(a, .inl (g.2.2.2, N, .inr (.inr (.inr (.inr (fun _ => none))))))]) (k + 1) (n + N) Q) : jc_V l g d mc ms i pc lv (.int z :: st) ws k n Q := by
  intro A p e s m args below meth c ls H locs C hA hl hP hD hS
  have hw : ∀ {w : Cond}, w ∈ jm_T → w.before args s = true := fun h => C.1.2.2.2.2 _ (List.mem_cons_of_mem _ h)
  refine va_newq C.1.1 C.1.2.1 C.1.2.2.2.1 (hw h1) C.2.2.2.2.2.1 C.2.2.2.1 hP hD hS hA hz hN hb hk hn hd (fun a cA H1 hK1 hP1 hD1 hS1 => ?_)
  obtain ⟨-, -, -, -, -, e1⟩ := (hK1.2 3 (cA, .object "SungEvidence$Court") rfl).2
  obtain ⟨-, -, -, -, -, e2⟩ := (C.2.2.2.1.2 2 (g.2.2.2, .object "SungEvidence$Court") rfl).2
  have e3 : cA = g.2.2.2 := Option.some.inj (e1.symm.trans e2)
  subst e3
  exact kk a A p e s m args below meth c ls H1 locs C hA hl hP1 hD1 hS1
theorem jc_put {idx ci a : Nat} {v : Value} {fs : List Value} {ty : Nat → FieldType} (x j : Nat) (hd : decode i.2.1 pc = .ok (.putfield idx, 3)) (hL : jm_fl i.1.cls idx ci j) (hT : jm_ft ci ty) (hfin : ∀ q : vw_C, jm_cl[ci]? = some q → (q.2.1 j).2.2.2 = false ∨ (q.2.1 j).2.2.2 = true ∧ (q.2.1 j).1 = i.1.cls) (hn : narrow (ty j) v = v) (hfit : fits (ty j) v = true) (hx : ws[x]? = some (a, .inr (ci, fs))) (hl : j < fs.length) (hw : ws.set x (a, .inr (ci, fs.set j v)) = ws') (kk : jc_V l g d mc ms i (pc + 3) lv st ws' k n Q) : jc_V l g d mc ms i pc lv (v :: .ref a :: st) ws k n Q := by
  intro A p e s m args below meth c ls H locs C hA hlv hP hD hS
  obtain ⟨q, h1, h2, h3, h4⟩ := hL
  obtain ⟨t1, t2⟩ := hT q h1
  subst hw
  rcases hfin q h1 with hf | ⟨hf, hdc⟩
  · exact va_put C.1.1 C.1.2.1 C.1.2.2.2.2 (fun w hw => List.mem_cons_of_mem _ (h3 w hw)) ty t1 t2 C.1.2.2.2.1 C.2.2.2.1 hP hD hS x hx h1 j h2 (C.1.2.2.2.2 _ (List.mem_cons_of_mem _ h4)) (fun _ h => h) hf (t1 j h2) hn hfit hl hd (fun H1 locs1 hP1 hD1 hS1 => kk A p e s m args below meth c ls H1 locs1 C hA hlv hP1 hD1 hS1)
  · exact va_putF C.1.1 C.1.2.1 C.1.2.2.2.2 (fun w hw => List.mem_cons_of_mem _ (h3 w hw)) ty t1 t2 C.1.2.2.2.1 C.2.2.2.1 hP hD hS x hx h1 j h2 (C.1.2.2.2.2 _ (List.mem_cons_of_mem _ h4)) (fun _ h => h) hf C.2.2.2.2.1 hdc (t1 j h2) hn hfit hl hd (fun H1 locs1 hP1 hD1 hS1 => kk A p e s m args below meth c ls H1 locs1 C hA hlv hP1 hD1 hS1)
theorem jc_get {idx ci a : Nat} {fs : List Value} (v : Value) (x j : Nat) (hd : decode i.2.1 pc = .ok (.getfield idx, 3)) (hL : jm_fl i.1.cls idx ci j) (hx : ws[x]? = some (a, .inr (ci, fs))) (hf : fs[j]? = some v) (kk : jc_V l g d mc ms i (pc + 3) lv (v :: st) ws k n Q) : jc_V l g d mc ms i pc lv (.ref a :: st) ws k n Q := by
  intro A p e s m args below meth c ls H locs C hA hlv hP hD hS
  obtain ⟨q, h1, h2, h3, h4⟩ := hL
  exact va_get C.1.1 C.1.2.1 C.1.2.2.2.2 (fun w hw => List.mem_cons_of_mem _ (h3 w hw)) C.1.2.2.2.1 C.2.2.2.1 hP x hx h1 j h2 (C.1.2.2.2.2 _ (List.mem_cons_of_mem _ h4)) (fun _ h => h) hf hd (kk A p e s m args below meth c ls H locs C hA hlv hP hD hS)
theorem jc_iast {a N : Nat} {f : Nat → Int32} {z w : Int32} (x : Nat) (hd : decode i.2.1 pc = .ok (.iastore, 1)) (hx : ws[x]? = some (a, .inl (g.2.1, N, .inl f))) (hin : vp_in z N) (hw : ws.set x (a, .inl (g.2.1, N, .inl (upd f z.toNatClampNeg w))) = ws') (kk : jc_V l g d mc ms i (pc + 1) lv st ws' k n Q) : jc_V l g d mc ms i pc lv (.int w :: .int z :: .ref a :: st) ws k n Q := by
  intro A p e s m args below meth c ls H locs C hA hlv hP hD hS
  subst hw
  exact va_iast C.1.1 C.1.2.1 C.2.2.2.1 hP hD hS x 0 hx rfl hin hd (fun H1 locs1 hP1 hD1 hS1 => kk A p e s m args below meth c ls H1 locs1 C hA hlv hP1 hD1 hS1)
theorem jc_aast {a b N : Nat} {f : Nat → Option Nat} {z : Int32} {vs : List Value} (x y : Nat) (hd : decode i.2.1 pc = .ok (.aastore, 1)) (hx : ws[x]? = some (a, .inl (g.2.2.2, N, .inr (.inr (.inr (.inr f)))))) (hy : ws[y]? = some (b, .inr (1, vs))) (hin : vp_in z N) (hw : ws.set x (a, .inl (g.2.2.2, N, .inr (.inr (.inr (.inr (va_up f z.toNatClampNeg (some b))))))) = ws') (kk : jc_V l g d mc ms i (pc + 1) lv st ws' k n Q) : jc_V l g d mc ms i pc lv (.ref b :: .int z :: .ref a :: st) ws k n Q := by
  intro A p e s m args below meth c ls H locs C hA hlv hP hD hS
  subst hw
  exact va_astq (r := (RX1, TX1, 10)) C.1.1 C.1.2.1 C.2.2.2.1 hP hD hS x 2 y 1 hx rfl hy rfl hin hd (fun H1 locs1 hP1 hD1 hS1 => kk A p e s m args below meth c ls H1 locs1 C hA hlv hP1 hD1 hS1)
theorem jc_ret (hd : decode i.2.1 pc = .ok (.return_, 1)) (hk : k ≤ mc) (hn : n ≤ ms) (hq : Q ws) : jc_V l g d mc ms i pc lv [] ws k n Q := by
  intro A p e s m args below meth c ls H locs C hA hlv hP hD hS
  refine W.widen (k := mc) (n := ms) hk hn ?_
  exact W.vret C.1.1 C.1.2.1 C.2.1 (fun t ht hW => ⟨⟨ws, rfl, hq, by rw [ht]; exact hP, hD⟩, hS.F ht⟩) hS.2.2 hd C.2.2.1
/-- the start of a callee, seen from its caller -/
theorem jc_pre {p : Program} {m : MethodId} {c : Code} {s : State} {args : Array Value} {meth : Method} {H : Heap} {As : List Value} {w0 : va_W} {A : Nat → Prop} (C : jc_C p m c i s args meth g) (hP : va_P g.1 jm_cl w0 H) (hD : va_D A w0) : PreS s H (va_Pc As (fun U => U.heap.size = H.size ∧ va_P g.1 jm_cl w0 U.heap ∧ va_K g.1 jm_cl (jc_ty g) U ∧ va_D (fun _ => True) w0 ∧ va_AO "SungEvidence$Court" U ∧ jc_N U)) As := by
  refine ⟨fun a U fr mk q => ?_, fun U hU hW => ⟨rfl, by rw [hU], by rw [hU]; exact hP, va_K.moved hW.alike C.2.2.2.1, hD.weaken (fun _ _ _ _ => trivial), C.2.2.2.2.2.1.moved hW.alike, C.2.2.2.2.2.2.warm hW⟩⟩
  obtain ⟨q0, q1, qP, qK, qD, qA, qN⟩ := q
  exact ⟨q0, q1, qP, va_K.moved (u := U) (U := U.calling fr mk a) (Vm.Alike.refl U.vm) qK, qD, va_AO.moved (u := U) (U := U.calling fr mk a) (Vm.Alike.refl U.vm) qA, jc_N.warm (s := U) (U := U.calling fr mk a) (State.WarmedH.refl U) qN⟩
theorem jc_run {p : Program} {e : Env} {m : MethodId} {c : Code} {s : State} {args : Array Value} {below : List Frame} {meth : Method} {ls : Array Slot} {H : Heap} {locs : List Loc} {y : jm_I} {idx na d1 mc1 ms1 b : Nat} {As stk : List Value} {w0 : va_W} {A : Nat → Prop} {Q1 : va_W → Prop} (C : jc_C p m c i s args meth g) (hL : jm_mi i.1.cls idx y na) (hd1 : d1 + 1 ≤ d) (hd : decode i.2.1 pc = .ok (.invokespecial idx, 3)) (hst : stk = As.reverse ++ .ref b :: st) (hn : As.length = na) (hcat : (st.map fun v => v.category).sum ≤ 8) (hr : jc_R l g d1 mc1 ms1 y (.ref b :: As) w0 Q1) (hk : k + mc1 ≤ mc) (hs : n + ms1 ≤ ms) (hlv : lv_has ls i.2.2.1 lv) (hP : va_P g.1 jm_cl w0 H) (hD : va_D A w0) : va_Run p l e (jc_rm d mc ms) s m args below meth c H locs k n mc1 ms1 (F0 m pc ls stk) st (jc_Q g (va_A w0 H.size) Q1 (Value.ref b :: As).toArray) (va_A w0 H.size) := by
  have hw : ∀ {w : Cond}, w ∈ jm_T → w.before args s = true := fun h => C.1.2.2.2.2 _ (List.mem_cons_of_mem _ h)
  have hR : (jc_rm d1 mc1 ms1).frames + 1 ≤ (jc_rm d mc ms).frames ∧ 8 + (y.2.2.1 + 11) + (jc_rm d1 mc1 ms1).locals ≤ (jc_rm d mc ms).locals := ⟨hd1, by have := hL.1.2.2.2; show 8 + (y.2.2.1 + 11) + 40 * d1 ≤ 40 * d; omega⟩
  rcases hL.2.1 with hl | ⟨host, hl⟩
  · exact va_runI (As := As) (rest := st) C.1 (hr H.size) ⟨callB_of na C.1.2.2.2.2 (jm_gW hL.1) (by rw [← hL.2.2.2.2]; rfl) rfl rfl (hw hL.1.2.1) (hw hl) hL.1.2.2.1 hR, hL.2.2.2.1, hw hL.2.2.1⟩ (jc_pre C hP hD) rfl hn hlv.1 hst (lv_room hcat) hd ⟨hk, hs⟩
  · exact va_runIN (As := As) (rest := st) C.1 (hr H.size) ⟨va_cnB na C.1.2.2.2.2 (jm_gW hL.1) (by rw [← hL.2.2.2.2]; rfl) rfl rfl (C.2.2.2.2.2.2 _ hl) (hw hL.1.2.1) hL.1.2.2.1 hR, hL.2.2.2.1, hw hL.2.2.1⟩ (jc_pre C hP hD) rfl hn hlv.1 hst (lv_room hcat) hd ⟨hk, hs⟩
theorem jc_call {X w0 : va_W} {stk As : List Value} {b idx na d1 mc1 ms1 : Nat} {Q1 : va_W → Prop} (y : jm_I) (hd : decode i.2.1 pc = .ok (.invokespecial idx, 3)) (hL : jm_mi i.1.cls idx y na) (hst : stk = As.reverse ++ .ref b :: st) (hn : As.length = na) (hcat : (st.map fun v => v.category).sum ≤ 8) (hr : jc_R l g d1 mc1 ms1 y (.ref b :: As) w0 Q1) (hd1 : d1 + 1 ≤ d) (hk : k + mc1 ≤ mc) (hs : n + ms1 ≤ ms) (kk : ∀ w1, Q1 w1 → jc_V l g d mc ms i (pc + 3) lv st (X ++ w1) (k + mc1) (n + ms1) Q) : jc_V l g d mc ms i pc lv stk (X ++ w0) k n Q := by
  intro A p e s m args below meth c ls H locs C hA hlv hP hD hS
  have pX : va_P g.1 jm_cl X H := fun j q hj => hP j q (by rw [List.getElem?_append_left (List.getElem?_eq_some_iff.mp hj).1]; exact hj)
  have pw : va_P g.1 jm_cl w0 H := fun j q hj => hP (X.length + j) q (by rw [List.getElem?_append_right (by omega), Nat.add_sub_cancel_left]; exact hj)
  have dX : va_D A X := ⟨fun a b x y ha hb hxy => hD.1 a b x y (by rw [List.getElem?_append_left (List.getElem?_eq_some_iff.mp ha).1]; exact ha) (by rw [List.getElem?_append_left (List.getElem?_eq_some_iff.mp hb).1]; exact hb) hxy, fun j q hj => hD.2 j q (by rw [List.getElem?_append_left (List.getElem?_eq_some_iff.mp hj).1]; exact hj)⟩
  have dw : va_D A w0 := ⟨fun a b x y ha hb hxy => by
    have := hD.1 (X.length + a) (X.length + b) x y (by rw [List.getElem?_append_right (by omega), Nat.add_sub_cancel_left]; exact ha) (by rw [List.getElem?_append_right (by omega), Nat.add_sub_cancel_left]; exact hb) hxy
    omega, fun j q hj => hD.2 (X.length + j) q (by rw [List.getElem?_append_right (by omega), Nat.add_sub_cancel_left]; exact hj)⟩
  have hF : ∀ q, va_A w0 H.size q → A q := fun q hq => by
    rcases hq with ⟨j, e, hj⟩ | hq
    · exact dw.2 j _ hj
    · exact hA q (Nat.le_trans hS.1 hq)
  refine va_callv (jc_run C hL hd1 hd hst hn hcat hr hk hs hlv pw dw) hS (fun q _ h => hF q h) hF (fun w1 t H1 locs1 ht hvm hq hB hz hk1 hS1 => ?_)
  obtain ⟨hP1, hD1⟩ := hB
  rw [ht] at hP1
  have apart : ∀ (j : Nat) (q : Nat × va_E), X[j]? = some q → ¬ va_A w0 H.size q.1 := fun j q hj hq => by
    rcases hq with ⟨u, e, hu⟩ | hq
    · have := hD.1 j (X.length + u) q (q.1, e) (by rw [List.getElem?_append_left (List.getElem?_eq_some_iff.mp hj).1]; exact hj) (by rw [List.getElem?_append_right (by omega), Nat.add_sub_cancel_left]; exact hu) rfl
      have := (List.getElem?_eq_some_iff.mp hj).1
      omega
    · have := (pX j q hj).lt
      omega
  refine kk w1 hq A p e s m args below meth c ls H1 locs1 C hA hlv (va_P.app (fun j q hj => (pX j q hj).kept (hk1 q.1 (pX j q hj).lt (apart j q hj))) hP1) (va_D.app dX (hD1.weaken (fun _ q _ h => hF q.1 h)) (fun a b x y hx hy hxy => apart a x hx (by rw [hxy]; exact hD1.2 b y hy))) hS1
/-- a callee that reads a cell of its caller -/
theorem jc_call2 {X : va_W} {stk As : List Value} {b qb u idx na d1 mc1 ms1 : Nat} {e0 eb : va_E} {Q1 : va_W → Prop} (y : jm_I) (hd : decode i.2.1 pc = .ok (.invokespecial idx, 3)) (hL : jm_mi i.1.cls idx y na) (hst : stk = As.reverse ++ .ref b :: st) (hn : As.length = na) (hcat : (st.map fun v => v.category).sum ≤ 8) (hu : X[u]? = some (qb, eb)) (hr : jc_R l g d1 mc1 ms1 y (.ref b :: As) [(b, e0), (qb, eb)] Q1) (hd1 : d1 + 1 ≤ d) (hk : k + mc1 ≤ mc) (hs : n + ms1 ≤ ms) (kk : ∀ w1, Q1 w1 → ∃ (o : va_E) (r : va_W), w1 = (b, o) :: (qb, eb) :: r ∧ jc_V l g d mc ms i (pc + 3) lv st (X ++ (b, o) :: r) (k + mc1) (n + ms1) Q) : jc_V l g d mc ms i pc lv stk (X ++ [(b, e0)]) k n Q := by
  intro A p e s m args below meth c ls H locs C hA hlv hP hD hS
  have ul : u < X.length := (List.getElem?_eq_some_iff.mp hu).1
  have up : ∀ (j : Nat) (q : Nat × va_E), X[j]? = some q → (X ++ [(b, e0)])[j]? = some q := fun j q hj => by rw [List.getElem?_append_left (List.getElem?_eq_some_iff.mp hj).1]; exact hj
  have lastE : (X ++ [(b, e0)])[X.length]? = some (b, e0) := by rw [List.getElem?_append_right (Nat.le_refl _), Nat.sub_self]; rfl
  have pX : va_P g.1 jm_cl X H := fun j q hj => hP j q (up j q hj)
  have pb := hP X.length _ lastE
  have pu := pX u _ hu
  have ne : b ≠ qb := fun z => by
    have := hD.1 X.length u _ _ lastE (up u _ hu) z
    omega
  have pw : va_P g.1 jm_cl [(b, e0), (qb, eb)] H := fun j q hj => by
    match j, hj with
    | 0, hj => cases hj; exact pb
    | 1, hj => cases hj; exact pu
    | j + 2, hj => simp at hj
  have dw : va_D A [(b, e0), (qb, eb)] := by
    refine ⟨fun a1 b1 x y ha hb hxy => ?_, fun j q hj => ?_⟩
    · match a1, b1, ha, hb with
      | 0, 0, _, _ => rfl
      | 1, 1, _, _ => rfl
      | 0, 1, ha, hb => cases ha; cases hb; exact absurd hxy ne
      | 1, 0, ha, hb => cases ha; cases hb; exact absurd hxy.symm ne
      | a1 + 2, _, ha, _ => simp at ha
      | _, b1 + 2, _, hb => simp at hb
    · match j, hj with
      | 0, hj => cases hj; exact hD.2 X.length _ lastE
      | 1, hj => cases hj; exact hD.2 u _ (up u _ hu)
      | j + 2, hj => simp at hj
  have hF : ∀ q, va_A [(b, e0), (qb, eb)] H.size q → A q := fun q hq => by
    rcases hq with ⟨j, e, hj⟩ | hq
    · exact dw.2 j _ hj
    · exact hA q (Nat.le_trans hS.1 hq)
  refine va_callv (jc_run C hL hd1 hd hst hn hcat hr hk hs hlv pw dw) hS (fun q _ h => hF q h) hF (fun w1 t H1 locs1 ht hvm hq hB hz hk1 hS1 => ?_)
  obtain ⟨hP1, hD1⟩ := hB
  rw [ht] at hP1
  obtain ⟨o, r, rfl, kk⟩ := kk w1 hq
  have dX : va_D A X := ⟨fun a b x y ha hb hxy => hD.1 a b x y (up a x ha) (up b y hb) hxy, fun j q hj => hD.2 j q (up j q hj)⟩
  have apart : ∀ (j : Nat) (q : Nat × va_E), X[j]? = some q → j ≠ u → ¬ va_A [(b, e0), (qb, eb)] H.size q.1 := fun j q hj ju hq => by
    rcases hq with ⟨v, e, hv⟩ | hq
    · match v, hv with
      | 0, hv =>
        cases hv
        have := hD.1 j X.length q _ (up j q hj) lastE rfl
        have := (List.getElem?_eq_some_iff.mp hj).1
        omega
      | 1, hv =>
        have e1 : qb = q.1 := congrArg Prod.fst (Option.some.inj hv)
        exact ju (dX.1 j u q _ hj hu e1.symm)
      | v + 2, hv => simp at hv
    · have := (pX j q hj).lt
      omega
  have q1 : ∀ (j : Nat) (x : Nat × va_E), ((b, o) :: r)[j]? = some x → ∃ v, v ≠ 1 ∧ ((b, o) :: (qb, eb) :: r)[v]? = some x := fun j x hx => by
    match j, hx with
    | 0, hx => exact ⟨0, by decide, hx⟩
    | j + 1, hx => exact ⟨j + 2, by omega, hx⟩
  refine kk A p e s m args below meth c ls H1 locs1 C hA hlv (va_P.app (fun j q hj => ?_) (fun j q hj => ?_)) (va_D.app dX ⟨fun a1 b1 x y ha hb hxy => ?_, fun j q hj => ?_⟩ (fun a1 b1 x y hx hy hxy => ?_)) hS1
  · by_cases ju : j = u
    · rw [ju, hu] at hj
      cases hj
      exact hP1 1 _ rfl
    · exact (pX j q hj).kept (hk1 q.1 (pX j q hj).lt (apart j q hj ju))
  · obtain ⟨v, -, hv⟩ := q1 j q hj
    exact hP1 v q hv
  · match a1, b1, ha, hb with
    | 0, 0, _, _ => rfl
    | 0, b1 + 1, ha, hb => exact absurd (hD1.1 0 (b1 + 2) x y ha hb hxy) (by omega)
    | a1 + 1, 0, ha, hb => exact absurd (hD1.1 (a1 + 2) 0 x y ha hb hxy) (by omega)
    | a1 + 1, b1 + 1, ha, hb =>
      have := hD1.1 (a1 + 2) (b1 + 2) x y ha hb hxy
      omega
  · obtain ⟨v, -, hv⟩ := q1 j q hj
    exact hF q.1 (hD1.2 v q hv)
  · obtain ⟨v, v1, hv⟩ := q1 b1 y hy
    by_cases ju : a1 = u
    · rw [ju, hu] at hx
      cases hx
      exact v1 (hD1.1 v 1 y (qb, eb) hv rfl hxy.symm)
    · exact apart a1 x hx ju (by rw [hxy]; exact hD1.2 v y hv)
end JCR
