section JR
variable {l : Launch} {g : jm_G} {d : Nat} {i : jm_I} {pc : Nat} {lv lv' : List (Nat × Value)} {st : List Value} {mu : jm_M} {Q : Option Value → jm_M → Prop}
theorem jm_mrI (k : jm_mr mu → jm_V l g d i pc lv st mu Q) : jm_V l g d i pc lv st mu Q :=
  fun p e s m args below meth c ls H locs C hl hP hS hm => k hm p e s m args below meth c ls H locs C hl hP hS hm
theorem jm_sub (ks : List Nat) (hk : lv_pick lv ks = lv') (k : jm_V l g d i pc lv' st mu Q) : jm_V l g d i pc lv st mu Q :=
  fun p e s m args below meth c ls H locs C hl hP hS hm => k p e s m args below meth c ls H locs C (lv_sub hl ks (by rw [jm_pick, hk])) hP hS hm
theorem jm_pop (v : Value) (hd : decode i.2.1 pc = .ok (.pop, 1)) (hv : v.category = 1) (k : jm_V l g d i (pc + 1) lv st mu Q) : jm_V l g d i pc lv (v :: st) mu Q :=
  fun p e s m args below meth c ls H locs C hl hP hS hm => lv_pop C.1.1 C.1.2.1 hd (by rw [jm_cat]; exact hv) (k p e s m args below meth c ls H locs C hl hP hS hm)
theorem jm_dup (v : Value) (hd : decode i.2.1 pc = .ok (.dup, 1)) (hv : v.category = 1) (k : jm_V l g d i (pc + 1) lv (v :: v :: st) mu Q) : jm_V l g d i pc lv (v :: st) mu Q :=
  fun p e s m args below meth c ls H locs C hl hP hS hm => lv_dup C.1.1 C.1.2.1 hd (by rw [jm_cat]; exact hv) (k p e s m args below meth c ls H locs C hl hP hS hm)
theorem jm_dup2 (v u : Value) (hd : decode i.2.1 pc = .ok (.dup2, 1)) (hv : v.category = 1) (hu : u.category = 1) (k : jm_V l g d i (pc + 1) lv (v :: u :: v :: u :: st) mu Q) : jm_V l g d i pc lv (v :: u :: st) mu Q :=
  fun p e s m args below meth c ls H locs C hl hP hS hm => lv_dup2_11 C.1.1 C.1.2.1 hd (by rw [jm_cat]; exact hv) (by rw [jm_cat]; exact hu) (k p e s m args below meth c ls H locs C hl hP hS hm)
theorem jm_iconst {n : Int} (hd : decode i.2.1 pc = .ok (.iconst n, 1)) (k : jm_V l g d i (pc + 1) lv (jm_i n :: st) mu Q) : jm_V l g d i pc lv st mu Q :=
  fun p e s m args below meth c ls H locs C hl hP hS hm => lv_iconst C.1.1 C.1.2.1 hd rfl (k p e s m args below meth c ls H locs C hl hP hS hm)
theorem jm_bipush {n : Int} (hd : decode i.2.1 pc = .ok (.bipush n, 2)) (hn : (Int8.ofInt n).toInt32 = Int32.ofInt n) (k : jm_V l g d i (pc + 2) lv (jm_i n :: st) mu Q) : jm_V l g d i pc lv st mu Q :=
  fun p e s m args below meth c ls H locs C hl hP hS hm => lv_bipush C.1.1 C.1.2.1 hd hn (k p e s m args below meth c ls H locs C hl hP hS hm)
theorem jm_sipush {n : Int} (hd : decode i.2.1 pc = .ok (.sipush n, 3)) (hn : (Int16.ofInt n).toInt32 = Int32.ofInt n) (k : jm_V l g d i (pc + 3) lv (jm_i n :: st) mu Q) : jm_V l g d i pc lv st mu Q :=
  fun p e s m args below meth c ls H locs C hl hP hS hm => lv_sipush C.1.1 C.1.2.1 hd hn (k p e s m args below meth c ls H locs C hl hP hS hm)
theorem jm_lconst {n : Fin 2} {v : Int64} (hd : decode i.2.1 pc = .ok (.lconst n, 1)) (hv : Int64.ofNat (n : Nat) = v) (k : jm_V l g d i (pc + 1) lv (.long v :: st) mu Q) : jm_V l g d i pc lv st mu Q :=
  fun p e s m args below meth c ls H locs C hl hP hS hm => lv_lconst C.1.1 C.1.2.1 hd hv (k p e s m args below meth c ls H locs C hl hP hS hm)
theorem jm_ldc {idx : Nat} {v : Int32} (z : Int) (hd : decode i.2.1 pc = .ok (.ldc idx, 2)) (hw : Cond.constant i.1.cls idx v ∈ jm_T) (hz : v = Int32.ofInt z) (k : jm_V l g d i (pc + 2) lv (jm_i z :: st) mu Q) : jm_V l g d i pc lv st mu Q :=
  fun p e s m args below meth c ls H locs C hl hP hS hm => lv_ldc C.1.1 C.1.2.1 C.1.2.2.2.1 (C.1.2.2.2.2 _ (List.mem_cons_of_mem _ hw)) hd (hz ▸ k p e s m args below meth c ls H locs C hl hP hS hm)
theorem jm_ldcw {idx : Nat} {v : Int32} (z : Int) (hd : decode i.2.1 pc = .ok (.ldc_w idx, 3)) (hw : Cond.constant i.1.cls idx v ∈ jm_T) (hz : v = Int32.ofInt z) (k : jm_V l g d i (pc + 3) lv (jm_i z :: st) mu Q) : jm_V l g d i pc lv st mu Q :=
  fun p e s m args below meth c ls H locs C hl hP hS hm => lv_ldcw C.1.1 C.1.2.1 C.1.2.2.2.1 (C.1.2.2.2.2 _ (List.mem_cons_of_mem _ hw)) hd (hz ▸ k p e s m args below meth c ls H locs C hl hP hS hm)
theorem jm_ldc2 {idx : Nat} {v : Int64} (hd : decode i.2.1 pc = .ok (.ldc2_w idx, 3)) (hw : Cond.constantLong i.1.cls idx v ∈ jm_T) (k : jm_V l g d i (pc + 3) lv (.long v :: st) mu Q) : jm_V l g d i pc lv st mu Q :=
  fun p e s m args below meth c ls H locs C hl hP hS hm => lv_ldc2 C.1.1 C.1.2.1 C.1.2.2.2.1 (C.1.2.2.2.2 _ (List.mem_cons_of_mem _ hw)) hd (k p e s m args below meth c ls H locs C hl hP hS hm)
theorem jm_at {g : jm_G} {ls : Array Slot} {nL : Nat} {lv : List (Nat × Value)} (hl : lv_has ls nL (lv.map (jm_lq g))) (k : Nat) {j : Nat} {v : Value} (hk : lv[k]? = some (j, v)) : ls[j]? = some (.val (jm_tv g v)) :=
  lv_at hl k (by rw [List.getElem?_map, hk]; rfl)
theorem jm_iload_n {k : Fin 4} {x : Int} (q : Nat) (hd : decode i.2.1 pc = .ok (.iload_n k, 1)) (hk : lv[q]? = some (k.val, jm_i x)) (kk : jm_V l g d i (pc + 1) lv (jm_i x :: st) mu Q) : jm_V l g d i pc lv st mu Q :=
  fun p e s m args below meth c ls H locs C hl hP hS hm => lv_iload_n C.1.1 C.1.2.1 hd rfl (jm_at hl q hk) (kk p e s m args below meth c ls H locs C hl hP hS hm)
theorem jm_iload {j : Nat} {x : Int} (q : Nat) (hd : decode i.2.1 pc = .ok (.iload j, 2)) (hk : lv[q]? = some (j, jm_i x)) (kk : jm_V l g d i (pc + 2) lv (jm_i x :: st) mu Q) : jm_V l g d i pc lv st mu Q :=
  fun p e s m args below meth c ls H locs C hl hP hS hm => lv_iload C.1.1 C.1.2.1 hd (jm_at hl q hk) (kk p e s m args below meth c ls H locs C hl hP hS hm)
theorem jm_lload_n {k : Fin 4} {x : Int64} (q : Nat) (hd : decode i.2.1 pc = .ok (.lload_n k, 1)) (hk : lv[q]? = some (k.val, .long x)) (kk : jm_V l g d i (pc + 1) lv (.long x :: st) mu Q) : jm_V l g d i pc lv st mu Q :=
  fun p e s m args below meth c ls H locs C hl hP hS hm => lv_lload_n C.1.1 C.1.2.1 hd rfl (jm_at hl q hk) (kk p e s m args below meth c ls H locs C hl hP hS hm)
theorem jm_lload {j : Nat} {x : Int64} (q : Nat) (hd : decode i.2.1 pc = .ok (.lload j, 2)) (hk : lv[q]? = some (j, .long x)) (kk : jm_V l g d i (pc + 2) lv (.long x :: st) mu Q) : jm_V l g d i pc lv st mu Q :=
  fun p e s m args below meth c ls H locs C hl hP hS hm => lv_lload C.1.1 C.1.2.1 hd (jm_at hl q hk) (kk p e s m args below meth c ls H locs C hl hP hS hm)
theorem jm_aload_n {k : Fin 4} {x : Nat} (q : Nat) (hd : decode i.2.1 pc = .ok (.aload_n k, 1)) (hk : lv[q]? = some (k.val, .ref x)) (kk : jm_V l g d i (pc + 1) lv (.ref x :: st) mu Q) : jm_V l g d i pc lv st mu Q :=
  fun p e s m args below meth c ls H locs C hl hP hS hm => lv_aload_n C.1.1 C.1.2.1 hd rfl (jm_at hl q hk) (kk p e s m args below meth c ls H locs C hl hP hS hm)
theorem jm_aload {j : Nat} {x : Nat} (q : Nat) (hd : decode i.2.1 pc = .ok (.aload j, 2)) (hk : lv[q]? = some (j, .ref x)) (kk : jm_V l g d i (pc + 2) lv (.ref x :: st) mu Q) : jm_V l g d i pc lv st mu Q :=
  fun p e s m args below meth c ls H locs C hl hP hS hm => lv_aload C.1.1 C.1.2.1 hd (jm_at hl q hk) (kk p e s m args below meth c ls H locs C hl hP hS hm)
theorem jm_istore_n {k : Fin 4} {x : Int} (hd : decode i.2.1 pc = .ok (.istore_n k, 1)) (hn : k.val < i.2.2.1) (hl' : (k.val, jm_i x) :: lv.filter (fun q => !(q.1 == k.val) && !(q.1 + 1 == k.val && q.2.category == 2)) = lv') (kk : jm_V l g d i (pc + 1) lv' st mu Q) : jm_V l g d i pc lv (jm_i x :: st) mu Q := by
  intro p e s m args below meth c ls H locs C hl hP hS hm
  refine lv_istore_n C.1.1 C.1.2.1 hd rfl hl hn (lv' := lv'.map (jm_lq g)) ?_ (fun ls' hl2 => kk p e s m args below meth c ls' H locs C hl2 hP hS hm)
  rw [← hl', jm_filt1]
  rfl
theorem jm_istore {j : Nat} {x : Int} (hd : decode i.2.1 pc = .ok (.istore j, 2)) (hn : j < i.2.2.1) (hl' : (j, jm_i x) :: lv.filter (fun q => !(q.1 == j) && !(q.1 + 1 == j && q.2.category == 2)) = lv') (kk : jm_V l g d i (pc + 2) lv' st mu Q) : jm_V l g d i pc lv (jm_i x :: st) mu Q := by
  intro p e s m args below meth c ls H locs C hl hP hS hm
  refine lv_istore C.1.1 C.1.2.1 hd hl hn (lv' := lv'.map (jm_lq g)) ?_ (fun ls' hl2 => kk p e s m args below meth c ls' H locs C hl2 hP hS hm)
  rw [← hl', jm_filt1]
  rfl
theorem jm_astore_n {k : Fin 4} {x : Nat} (hd : decode i.2.1 pc = .ok (.astore_n k, 1)) (hn : k.val < i.2.2.1) (hl' : (k.val, .ref x) :: lv.filter (fun q => !(q.1 == k.val) && !(q.1 + 1 == k.val && q.2.category == 2)) = lv') (kk : jm_V l g d i (pc + 1) lv' st mu Q) : jm_V l g d i pc lv (.ref x :: st) mu Q := by
  intro p e s m args below meth c ls H locs C hl hP hS hm
  refine lv_astore_n C.1.1 C.1.2.1 hd rfl hl hn (lv' := lv'.map (jm_lq g)) ?_ (fun ls' hl2 => kk p e s m args below meth c ls' H locs C hl2 hP hS hm)
  rw [← hl', jm_filt1]
  rfl
theorem jm_astore {j : Nat} {x : Nat} (hd : decode i.2.1 pc = .ok (.astore j, 2)) (hn : j < i.2.2.1) (hl' : (j, .ref x) :: lv.filter (fun q => !(q.1 == j) && !(q.1 + 1 == j && q.2.category == 2)) = lv') (kk : jm_V l g d i (pc + 2) lv' st mu Q) : jm_V l g d i pc lv (.ref x :: st) mu Q := by
  intro p e s m args below meth c ls H locs C hl hP hS hm
  refine lv_astore C.1.1 C.1.2.1 hd hl hn (lv' := lv'.map (jm_lq g)) ?_ (fun ls' hl2 => kk p e s m args below meth c ls' H locs C hl2 hP hS hm)
  rw [← hl', jm_filt1]
  rfl
theorem jm_lstore_n {k : Fin 4} {x : Int64} (hd : decode i.2.1 pc = .ok (.lstore_n k, 1)) (hn : k.val + 1 < i.2.2.1) (hl' : (k.val, .long x) :: lv.filter (fun q => !(q.1 == k.val) && (!(q.1 == k.val + 1) && !(q.1 + 1 == k.val && q.2.category == 2))) = lv') (kk : jm_V l g d i (pc + 1) lv' st mu Q) : jm_V l g d i pc lv (.long x :: st) mu Q := by
  intro p e s m args below meth c ls H locs C hl hP hS hm
  refine lv_lstore_n C.1.1 C.1.2.1 hd rfl hl hn (lv' := lv'.map (jm_lq g)) ?_ (fun ls' hl2 => kk p e s m args below meth c ls' H locs C hl2 hP hS hm)
  rw [← hl', jm_filt2]
  rfl
theorem jm_lstore {j : Nat} {x : Int64} (hd : decode i.2.1 pc = .ok (.lstore j, 2)) (hn : j + 1 < i.2.2.1) (hl' : (j, .long x) :: lv.filter (fun q => !(q.1 == j) && (!(q.1 == j + 1) && !(q.1 + 1 == j && q.2.category == 2))) = lv') (kk : jm_V l g d i (pc + 2) lv' st mu Q) : jm_V l g d i pc lv (.long x :: st) mu Q := by
  intro p e s m args below meth c ls H locs C hl hP hS hm
  refine lv_lstore C.1.1 C.1.2.1 hd hl hn (lv' := lv'.map (jm_lq g)) ?_ (fun ls' hl2 => kk p e s m args below meth c ls' H locs C hl2 hP hS hm)
  rw [← hl', jm_filt2]
  rfl
theorem jm_iinc {j : Nat} {n x : Int} (q : Nat) (hd : decode i.2.1 pc = .ok (.iinc j n, 3)) (hk : lv[q]? = some (j, jm_i x)) (hn : j < i.2.2.1) (hl' : (j, jm_i (x + n)) :: lv.filter (fun q => !(q.1 == j) && !(q.1 + 1 == j && q.2.category == 2)) = lv') (kk : jm_V l g d i (pc + 3) lv' st mu Q) : jm_V l g d i pc lv st mu Q := by
  intro p e s m args below meth c ls H locs C hl hP hS hm
  refine lv_iinc (k := q) (x := Int32.ofInt x) (v := Int32.ofInt (x + n)) C.1.1 C.1.2.1 hd hl ?_ ?_ hn (lv' := lv'.map (jm_lq g)) ?_ (fun ls' hl2 => kk p e s m args below meth c ls' H locs C hl2 hP hS hm)
  · rw [List.getElem?_map, hk]
    rfl
  · rw [Int32.ofInt_add]
  · rw [← hl', jm_filt1]
    rfl
theorem jm_iadd {a b : Int} (hd : decode i.2.1 pc = .ok (.iadd, 1)) (k : jm_V l g d i (pc + 1) lv (jm_i (a + b) :: st) mu Q) : jm_V l g d i pc lv (jm_i b :: jm_i a :: st) mu Q := by
  intro p e s m args below meth c ls H locs C hl hP hS hm
  refine lv_iadd (x := Int32.ofInt a) (y := Int32.ofInt b) C.1.1 C.1.2.1 hd ?_
  rw [← Int32.ofInt_add]
  exact k p e s m args below meth c ls H locs C hl hP hS hm
theorem jm_isub {a b : Int} (hd : decode i.2.1 pc = .ok (.isub, 1)) (k : jm_V l g d i (pc + 1) lv (jm_i (a - b) :: st) mu Q) : jm_V l g d i pc lv (jm_i b :: jm_i a :: st) mu Q := by
  intro p e s m args below meth c ls H locs C hl hP hS hm
  refine lv_isub (x := Int32.ofInt a) (y := Int32.ofInt b) C.1.1 C.1.2.1 hd ?_
  rw [← Int32.ofInt_sub]
  exact k p e s m args below meth c ls H locs C hl hP hS hm
theorem jm_imul {a b : Int} (hd : decode i.2.1 pc = .ok (.imul, 1)) (k : jm_V l g d i (pc + 1) lv (jm_i (a * b) :: st) mu Q) : jm_V l g d i pc lv (jm_i b :: jm_i a :: st) mu Q := by
  intro p e s m args below meth c ls H locs C hl hP hS hm
  refine lv_imul (x := Int32.ofInt a) (y := Int32.ofInt b) C.1.1 C.1.2.1 hd ?_
  rw [← Int32.ofInt_mul]
  exact k p e s m args below meth c ls H locs C hl hP hS hm
theorem jm_ineg {a : Int} (hd : decode i.2.1 pc = .ok (.ineg, 1)) (k : jm_V l g d i (pc + 1) lv (jm_i (-a) :: st) mu Q) : jm_V l g d i pc lv (jm_i a :: st) mu Q := by
  intro p e s m args below meth c ls H locs C hl hP hS hm
  refine lv_ineg (x := Int32.ofInt a) C.1.1 C.1.2.1 hd ?_
  rw [← Int32.ofInt_neg]
  exact k p e s m args below meth c ls H locs C hl hP hS hm
theorem jm_z0 {b : Int} (hb : jm_rg b) (h : ¬ b = 0) : ¬ Int32.ofInt b = 0 := by
  intro q
  have h2 := congrArg Int32.toInt q
  rw [jm_ti hb] at h2
  exact h (by simpa using h2)
theorem jm_dv {a b : Int} (ha : jm_rg a) (hb : jm_rg b) : Int32.ofInt (a.tdiv b) = Int32.ofInt a / Int32.ofInt b :=
  Int32.ofInt_tdiv (by have := ha.1; show (-2147483648 : Int) ≤ a; omega) (by have := ha.2; show a ≤ (2147483647 : Int); omega) (by have := hb.1; show (-2147483648 : Int) ≤ b; omega) (by have := hb.2; show b ≤ (2147483647 : Int); omega)
theorem jm_idiv {a b : Int} (ha : jm_rg a) (hb : jm_rg b) (h0 : ¬ b = 0) (hd : decode i.2.1 pc = .ok (.idiv, 1)) (k : jm_V l g d i (pc + 1) lv (jm_i (a.tdiv b) :: st) mu Q) : jm_V l g d i pc lv (jm_i b :: jm_i a :: st) mu Q := by
  intro p e s m args below meth c ls H locs C hl hP hS hm
  refine lv_idiv (x := Int32.ofInt a) (y := Int32.ofInt b) C.1.1 C.1.2.1 hd (jm_z0 hb h0) ?_
  rw [← jm_dv ha hb]
  exact k p e s m args below meth c ls H locs C hl hP hS hm
theorem jm_irem {a b : Int} (ha : jm_rg a) (hb : jm_rg b) (h0 : ¬ b = 0) (hd : decode i.2.1 pc = .ok (.irem, 1)) (k : jm_V l g d i (pc + 1) lv (jm_i (a.tmod b) :: st) mu Q) : jm_V l g d i pc lv (jm_i b :: jm_i a :: st) mu Q := by
  intro p e s m args below meth c ls H locs C hl hP hS hm
  refine lv_irem (x := Int32.ofInt a) (y := Int32.ofInt b) C.1.1 C.1.2.1 hd (jm_z0 hb h0) ?_
  have e1 : a.tmod b = a - a.tdiv b * b := by
    have h3 := Int.tmod_add_tdiv_mul a b
    omega
  have e2 : Int32.ofInt a - Int32.ofInt a / Int32.ofInt b * Int32.ofInt b = Int32.ofInt (a.tmod b) := by
    rw [← jm_dv ha hb, ← Int32.ofInt_mul, ← Int32.ofInt_sub, e1]
  rw [e2]
  exact k p e s m args below meth c ls H locs C hl hP hS hm
def jm_and (a b : Int) : Int := (Int32.ofInt a &&& Int32.ofInt b).toInt
theorem jm_iand {a b : Int} (hd : decode i.2.1 pc = .ok (.iand, 1)) (k : jm_V l g d i (pc + 1) lv (jm_i (jm_and a b) :: st) mu Q) : jm_V l g d i pc lv (jm_i b :: jm_i a :: st) mu Q := by
  intro p e s m args below meth c ls H locs C hl hP hS hm
  refine lv_iand (x := Int32.ofInt a) (y := Int32.ofInt b) C.1.1 C.1.2.1 hd ?_
  have h := k p e s m args below meth c ls H locs C hl hP hS hm
  unfold jm_and at h
  rw [jm_iT] at h
  exact h
def jm_or (a b : Int) : Int := (Int32.ofInt a ||| Int32.ofInt b).toInt
theorem jm_ior {a b : Int} (hd : decode i.2.1 pc = .ok (.ior, 1)) (k : jm_V l g d i (pc + 1) lv (jm_i (jm_or a b) :: st) mu Q) : jm_V l g d i pc lv (jm_i b :: jm_i a :: st) mu Q := by
  intro p e s m args below meth c ls H locs C hl hP hS hm
  refine lv_ior (x := Int32.ofInt a) (y := Int32.ofInt b) C.1.1 C.1.2.1 hd ?_
  have h := k p e s m args below meth c ls H locs C hl hP hS hm
  unfold jm_or at h
  rw [jm_iT] at h
  exact h
def jm_xor (a b : Int) : Int := (Int32.ofInt a ^^^ Int32.ofInt b).toInt
theorem jm_ixor {a b : Int} (hd : decode i.2.1 pc = .ok (.ixor, 1)) (k : jm_V l g d i (pc + 1) lv (jm_i (jm_xor a b) :: st) mu Q) : jm_V l g d i pc lv (jm_i b :: jm_i a :: st) mu Q := by
  intro p e s m args below meth c ls H locs C hl hP hS hm
  refine lv_ixor (x := Int32.ofInt a) (y := Int32.ofInt b) C.1.1 C.1.2.1 hd ?_
  have h := k p e s m args below meth c ls H locs C hl hP hS hm
  unfold jm_xor at h
  rw [jm_iT] at h
  exact h
def jm_shl (a b : Int) : Int := (Int32.ofInt a <<< (Int32.ofInt b &&& 31)).toInt
theorem jm_ishl {a b : Int} (hd : decode i.2.1 pc = .ok (.ishl, 1)) (k : jm_V l g d i (pc + 1) lv (jm_i (jm_shl a b) :: st) mu Q) : jm_V l g d i pc lv (jm_i b :: jm_i a :: st) mu Q := by
  intro p e s m args below meth c ls H locs C hl hP hS hm
  refine lv_ishl (x := Int32.ofInt a) (y := Int32.ofInt b) C.1.1 C.1.2.1 hd ?_
  have h := k p e s m args below meth c ls H locs C hl hP hS hm
  unfold jm_shl at h
  rw [jm_iT] at h
  exact h
def jm_shr (a b : Int) : Int := (Int32.ofInt a >>> (Int32.ofInt b &&& 31)).toInt
theorem jm_ishr {a b : Int} (hd : decode i.2.1 pc = .ok (.ishr, 1)) (k : jm_V l g d i (pc + 1) lv (jm_i (jm_shr a b) :: st) mu Q) : jm_V l g d i pc lv (jm_i b :: jm_i a :: st) mu Q := by
  intro p e s m args below meth c ls H locs C hl hP hS hm
  refine lv_ishr (x := Int32.ofInt a) (y := Int32.ofInt b) C.1.1 C.1.2.1 hd ?_
  have h := k p e s m args below meth c ls H locs C hl hP hS hm
  unfold jm_shr at h
  rw [jm_iT] at h
  exact h
def jm_ushr (a b : Int) : Int := (((Int32.ofInt a).toUInt32 >>> ((Int32.ofInt b).toUInt32 &&& Int32.toUInt32 31)).toInt32).toInt
theorem jm_iushr {a b : Int} (hd : decode i.2.1 pc = .ok (.iushr, 1)) (k : jm_V l g d i (pc + 1) lv (jm_i (jm_ushr a b) :: st) mu Q) : jm_V l g d i pc lv (jm_i b :: jm_i a :: st) mu Q := by
  intro p e s m args below meth c ls H locs C hl hP hS hm
  refine lv_iushr (x := Int32.ofInt a) (y := Int32.ofInt b) C.1.1 C.1.2.1 hd rfl ?_
  have h := k p e s m args below meth c ls H locs C hl hP hS hm
  unfold jm_ushr at h
  rw [jm_iT] at h
  exact h
theorem jm_ladd {a b : Int64} (hd : decode i.2.1 pc = .ok (.ladd, 1)) (k : jm_V l g d i (pc + 1) lv (.long (a + b) :: st) mu Q) : jm_V l g d i pc lv (.long b :: .long a :: st) mu Q :=
  fun p e s m args below meth c ls H locs C hl hP hS hm => lv_ladd C.1.1 C.1.2.1 hd (k p e s m args below meth c ls H locs C hl hP hS hm)
theorem jm_lsub {a b : Int64} (hd : decode i.2.1 pc = .ok (.lsub, 1)) (k : jm_V l g d i (pc + 1) lv (.long (a - b) :: st) mu Q) : jm_V l g d i pc lv (.long b :: .long a :: st) mu Q :=
  fun p e s m args below meth c ls H locs C hl hP hS hm => lv_lsub C.1.1 C.1.2.1 hd (k p e s m args below meth c ls H locs C hl hP hS hm)
theorem jm_lmul {a b : Int64} (hd : decode i.2.1 pc = .ok (.lmul, 1)) (k : jm_V l g d i (pc + 1) lv (.long (a * b) :: st) mu Q) : jm_V l g d i pc lv (.long b :: .long a :: st) mu Q :=
  fun p e s m args below meth c ls H locs C hl hP hS hm => lv_lmul C.1.1 C.1.2.1 hd (k p e s m args below meth c ls H locs C hl hP hS hm)
theorem jm_land {a b : Int64} (hd : decode i.2.1 pc = .ok (.land, 1)) (k : jm_V l g d i (pc + 1) lv (.long (a &&& b) :: st) mu Q) : jm_V l g d i pc lv (.long b :: .long a :: st) mu Q :=
  fun p e s m args below meth c ls H locs C hl hP hS hm => lv_land C.1.1 C.1.2.1 hd (k p e s m args below meth c ls H locs C hl hP hS hm)
theorem jm_lor {a b : Int64} (hd : decode i.2.1 pc = .ok (.lor, 1)) (k : jm_V l g d i (pc + 1) lv (.long (a ||| b) :: st) mu Q) : jm_V l g d i pc lv (.long b :: .long a :: st) mu Q :=
  fun p e s m args below meth c ls H locs C hl hP hS hm => lv_lor C.1.1 C.1.2.1 hd (k p e s m args below meth c ls H locs C hl hP hS hm)
theorem jm_ldiv {a b : Int64} (h0 : ¬ b = 0) (hd : decode i.2.1 pc = .ok (.ldiv, 1)) (k : jm_V l g d i (pc + 1) lv (.long (a / b) :: st) mu Q) : jm_V l g d i pc lv (.long b :: .long a :: st) mu Q :=
  fun p e s m args below meth c ls H locs C hl hP hS hm => lv_ldiv C.1.1 C.1.2.1 hd h0 (k p e s m args below meth c ls H locs C hl hP hS hm)
theorem jm_lshl {a : Int64} {b : Int} (hd : decode i.2.1 pc = .ok (.lshl, 1)) (k : jm_V l g d i (pc + 1) lv (.long (a <<< ((Int32.ofInt b).toInt64 &&& 63)) :: st) mu Q) : jm_V l g d i pc lv (jm_i b :: .long a :: st) mu Q :=
  fun p e s m args below meth c ls H locs C hl hP hS hm => lv_lshl (y := Int32.ofInt b) C.1.1 C.1.2.1 hd rfl (k p e s m args below meth c ls H locs C hl hP hS hm)
theorem jm_lshr {a : Int64} {b : Int} (hd : decode i.2.1 pc = .ok (.lshr, 1)) (k : jm_V l g d i (pc + 1) lv (.long (a >>> ((Int32.ofInt b).toInt64 &&& 63)) :: st) mu Q) : jm_V l g d i pc lv (jm_i b :: .long a :: st) mu Q :=
  fun p e s m args below meth c ls H locs C hl hP hS hm => lv_lshr (y := Int32.ofInt b) C.1.1 C.1.2.1 hd rfl (k p e s m args below meth c ls H locs C hl hP hS hm)
theorem jm_lushr {a : Int64} {b : Int} (hd : decode i.2.1 pc = .ok (.lushr, 1)) (k : jm_V l g d i (pc + 1) lv (.long ((a.toUInt64 >>> ((Int32.ofInt b).toInt64.toUInt64 &&& Int64.toUInt64 63)).toInt64) :: st) mu Q) : jm_V l g d i pc lv (jm_i b :: .long a :: st) mu Q :=
  fun p e s m args below meth c ls H locs C hl hP hS hm => lv_lushr (y := Int32.ofInt b) C.1.1 C.1.2.1 hd rfl (k p e s m args below meth c ls H locs C hl hP hS hm)
theorem jm_i2l {a : Int} (hd : decode i.2.1 pc = .ok (.i2l, 1)) (k : jm_V l g d i (pc + 1) lv (.long ((Int32.ofInt a).toInt64) :: st) mu Q) : jm_V l g d i pc lv (jm_i a :: st) mu Q :=
  fun p e s m args below meth c ls H locs C hl hP hS hm => lv_i2l (x := Int32.ofInt a) C.1.1 C.1.2.1 hd rfl (k p e s m args below meth c ls H locs C hl hP hS hm)
theorem jm_l2i {a : Int64} (hd : decode i.2.1 pc = .ok (.l2i, 1)) (k : jm_V l g d i (pc + 1) lv (jm_i a.toInt32.toInt :: st) mu Q) : jm_V l g d i pc lv (.long a :: st) mu Q := by
  intro p e s m args below meth c ls H locs C hl hP hS hm
  refine lv_l2i C.1.1 C.1.2.1 hd rfl ?_
  have h := k p e s m args below meth c ls H locs C hl hP hS hm
  rw [jm_iT] at h
  exact h
theorem jm_lcmp {a b : Int64} (hd : decode i.2.1 pc = .ok (.lcmp, 1)) (k : jm_V l g d i (pc + 1) lv (jm_i (lg_cmp a b).toInt :: st) mu Q) : jm_V l g d i pc lv (.long b :: .long a :: st) mu Q := by
  intro p e s m args below meth c ls H locs C hl hP hS hm
  refine W.lcmp C.1.1 C.1.2.1 hd ?_
  have h := k p e s m args below meth c ls H locs C hl hP hS hm
  rw [jm_iT] at h
  exact h
theorem jm_goto {off : Int} (tgt : Nat) (hd : decode i.2.1 pc = .ok (.goto off, 3)) (ht : (pc : Int) + off = (tgt : Int)) (k : jm_V l g d i tgt lv st mu Q) : jm_V l g d i pc lv st mu Q :=
  fun p e s m args below meth c ls H locs C hl hP hS hm => lv_goto C.1.1 C.1.2.1 hd ht (k p e s m args below meth c ls H locs C hl hP hS hm)
theorem jm_cl1 {a b : Int} (ha : jm_rg a) (hb : jm_rg b) : Int32.ofInt a < Int32.ofInt b ↔ a < b := by rw [Int32.lt_iff_toInt_lt, jm_ti ha, jm_ti hb]
theorem jm_cl2 {a b : Int} (ha : jm_rg a) (hb : jm_rg b) : Int32.ofInt a ≤ Int32.ofInt b ↔ a ≤ b := by rw [Int32.le_iff_toInt_le, jm_ti ha, jm_ti hb]
theorem jm_cl3 {a b : Int} (ha : jm_rg a) (hb : jm_rg b) : Int32.ofInt a = Int32.ofInt b ↔ a = b := by rw [← Int32.toInt_inj, jm_ti ha, jm_ti hb]
theorem jm_rg0 : jm_rg 0 := ⟨by decide, by decide⟩
theorem jm_icmp_eq {a b off : Int} (tgt : Nat) (hd : decode i.2.1 pc = .ok (.if_icmp .eq off, 3)) (ht : (pc : Int) + off = (tgt : Int)) (ha : jm_rg a) (hb : jm_rg b) (kt : a = b → jm_V l g d i tgt lv st mu Q) (kf : ¬ a = b → jm_V l g d i (pc + 3) lv st mu Q) : jm_V l g d i pc lv (jm_i b :: jm_i a :: st) mu Q :=
  fun p e s m args below meth c ls H locs C hl hP hS hm => lv_icmp_eq C.1.1 C.1.2.1 hd ht (fun q => kt ((jm_cl3 ha hb).mp q) p e s m args below meth c ls H locs C hl hP hS hm) (fun q => kf (fun r => q ((jm_cl3 ha hb).mpr r)) p e s m args below meth c ls H locs C hl hP hS hm)
theorem jm_if_eq {a off : Int} (tgt : Nat) (hd : decode i.2.1 pc = .ok (.ifCond .eq off, 3)) (ht : (pc : Int) + off = (tgt : Int)) (ha : jm_rg a) (kt : a = 0 → jm_V l g d i tgt lv st mu Q) (kf : ¬ a = 0 → jm_V l g d i (pc + 3) lv st mu Q) : jm_V l g d i pc lv (jm_i a :: st) mu Q :=
  fun p e s m args below meth c ls H locs C hl hP hS hm => lv_if_eq C.1.1 C.1.2.1 hd ht (fun q => kt ((jm_cl3 ha jm_rg0).mp q) p e s m args below meth c ls H locs C hl hP hS hm) (fun q => kf (fun r => q ((jm_cl3 ha jm_rg0).mpr r)) p e s m args below meth c ls H locs C hl hP hS hm)
theorem jm_icmp_ne {a b off : Int} (tgt : Nat) (hd : decode i.2.1 pc = .ok (.if_icmp .ne off, 3)) (ht : (pc : Int) + off = (tgt : Int)) (ha : jm_rg a) (hb : jm_rg b) (kt : ¬ a = b → jm_V l g d i tgt lv st mu Q) (kf : a = b → jm_V l g d i (pc + 3) lv st mu Q) : jm_V l g d i pc lv (jm_i b :: jm_i a :: st) mu Q :=
  fun p e s m args below meth c ls H locs C hl hP hS hm => lv_icmp_ne C.1.1 C.1.2.1 hd ht (fun q => kt (fun r => q ((jm_cl3 ha hb).mpr r)) p e s m args below meth c ls H locs C hl hP hS hm) (fun q => kf ((jm_cl3 ha hb).mp q) p e s m args below meth c ls H locs C hl hP hS hm)
theorem jm_if_ne {a off : Int} (tgt : Nat) (hd : decode i.2.1 pc = .ok (.ifCond .ne off, 3)) (ht : (pc : Int) + off = (tgt : Int)) (ha : jm_rg a) (kt : ¬ a = 0 → jm_V l g d i tgt lv st mu Q) (kf : a = 0 → jm_V l g d i (pc + 3) lv st mu Q) : jm_V l g d i pc lv (jm_i a :: st) mu Q :=
  fun p e s m args below meth c ls H locs C hl hP hS hm => lv_if_ne C.1.1 C.1.2.1 hd ht (fun q => kt (fun r => q ((jm_cl3 ha jm_rg0).mpr r)) p e s m args below meth c ls H locs C hl hP hS hm) (fun q => kf ((jm_cl3 ha jm_rg0).mp q) p e s m args below meth c ls H locs C hl hP hS hm)
theorem jm_icmp_lt {a b off : Int} (tgt : Nat) (hd : decode i.2.1 pc = .ok (.if_icmp .lt off, 3)) (ht : (pc : Int) + off = (tgt : Int)) (ha : jm_rg a) (hb : jm_rg b) (kt : a < b → jm_V l g d i tgt lv st mu Q) (kf : b ≤ a → jm_V l g d i (pc + 3) lv st mu Q) : jm_V l g d i pc lv (jm_i b :: jm_i a :: st) mu Q :=
  fun p e s m args below meth c ls H locs C hl hP hS hm => lv_icmp_lt C.1.1 C.1.2.1 hd ht (fun q => kt ((jm_cl1 ha hb).mp q) p e s m args below meth c ls H locs C hl hP hS hm) (fun q => kf (Int.not_lt.mp (fun r => q ((jm_cl1 ha hb).mpr r))) p e s m args below meth c ls H locs C hl hP hS hm)
theorem jm_if_lt {a off : Int} (tgt : Nat) (hd : decode i.2.1 pc = .ok (.ifCond .lt off, 3)) (ht : (pc : Int) + off = (tgt : Int)) (ha : jm_rg a) (kt : a < 0 → jm_V l g d i tgt lv st mu Q) (kf : 0 ≤ a → jm_V l g d i (pc + 3) lv st mu Q) : jm_V l g d i pc lv (jm_i a :: st) mu Q :=
  fun p e s m args below meth c ls H locs C hl hP hS hm => lv_if_lt C.1.1 C.1.2.1 hd ht (fun q => kt ((jm_cl1 ha jm_rg0).mp q) p e s m args below meth c ls H locs C hl hP hS hm) (fun q => kf (Int.not_lt.mp (fun r => q ((jm_cl1 ha jm_rg0).mpr r))) p e s m args below meth c ls H locs C hl hP hS hm)
theorem jm_icmp_ge {a b off : Int} (tgt : Nat) (hd : decode i.2.1 pc = .ok (.if_icmp .ge off, 3)) (ht : (pc : Int) + off = (tgt : Int)) (ha : jm_rg a) (hb : jm_rg b) (kt : b ≤ a → jm_V l g d i tgt lv st mu Q) (kf : a < b → jm_V l g d i (pc + 3) lv st mu Q) : jm_V l g d i pc lv (jm_i b :: jm_i a :: st) mu Q :=
  fun p e s m args below meth c ls H locs C hl hP hS hm => lv_icmp_ge C.1.1 C.1.2.1 hd ht (fun q => kt ((jm_cl2 hb ha).mp q) p e s m args below meth c ls H locs C hl hP hS hm) (fun q => kf (Int.not_le.mp (fun r => q ((jm_cl2 hb ha).mpr r))) p e s m args below meth c ls H locs C hl hP hS hm)
theorem jm_if_ge {a off : Int} (tgt : Nat) (hd : decode i.2.1 pc = .ok (.ifCond .ge off, 3)) (ht : (pc : Int) + off = (tgt : Int)) (ha : jm_rg a) (kt : 0 ≤ a → jm_V l g d i tgt lv st mu Q) (kf : a < 0 → jm_V l g d i (pc + 3) lv st mu Q) : jm_V l g d i pc lv (jm_i a :: st) mu Q :=
  fun p e s m args below meth c ls H locs C hl hP hS hm => lv_if_ge C.1.1 C.1.2.1 hd ht (fun q => kt ((jm_cl2 jm_rg0 ha).mp q) p e s m args below meth c ls H locs C hl hP hS hm) (fun q => kf (Int.not_le.mp (fun r => q ((jm_cl2 jm_rg0 ha).mpr r))) p e s m args below meth c ls H locs C hl hP hS hm)
theorem jm_icmp_gt {a b off : Int} (tgt : Nat) (hd : decode i.2.1 pc = .ok (.if_icmp .gt off, 3)) (ht : (pc : Int) + off = (tgt : Int)) (ha : jm_rg a) (hb : jm_rg b) (kt : b < a → jm_V l g d i tgt lv st mu Q) (kf : a ≤ b → jm_V l g d i (pc + 3) lv st mu Q) : jm_V l g d i pc lv (jm_i b :: jm_i a :: st) mu Q :=
  fun p e s m args below meth c ls H locs C hl hP hS hm => lv_icmp_gt C.1.1 C.1.2.1 hd ht (fun q => kt ((jm_cl1 hb ha).mp q) p e s m args below meth c ls H locs C hl hP hS hm) (fun q => kf (Int.not_lt.mp (fun r => q ((jm_cl1 hb ha).mpr r))) p e s m args below meth c ls H locs C hl hP hS hm)
theorem jm_if_gt {a off : Int} (tgt : Nat) (hd : decode i.2.1 pc = .ok (.ifCond .gt off, 3)) (ht : (pc : Int) + off = (tgt : Int)) (ha : jm_rg a) (kt : 0 < a → jm_V l g d i tgt lv st mu Q) (kf : a ≤ 0 → jm_V l g d i (pc + 3) lv st mu Q) : jm_V l g d i pc lv (jm_i a :: st) mu Q :=
  fun p e s m args below meth c ls H locs C hl hP hS hm => lv_if_gt C.1.1 C.1.2.1 hd ht (fun q => kt ((jm_cl1 jm_rg0 ha).mp q) p e s m args below meth c ls H locs C hl hP hS hm) (fun q => kf (Int.not_lt.mp (fun r => q ((jm_cl1 jm_rg0 ha).mpr r))) p e s m args below meth c ls H locs C hl hP hS hm)
theorem jm_icmp_le {a b off : Int} (tgt : Nat) (hd : decode i.2.1 pc = .ok (.if_icmp .le off, 3)) (ht : (pc : Int) + off = (tgt : Int)) (ha : jm_rg a) (hb : jm_rg b) (kt : a ≤ b → jm_V l g d i tgt lv st mu Q) (kf : b < a → jm_V l g d i (pc + 3) lv st mu Q) : jm_V l g d i pc lv (jm_i b :: jm_i a :: st) mu Q :=
  fun p e s m args below meth c ls H locs C hl hP hS hm => lv_icmp_le C.1.1 C.1.2.1 hd ht (fun q => kt ((jm_cl2 ha hb).mp q) p e s m args below meth c ls H locs C hl hP hS hm) (fun q => kf (Int.not_le.mp (fun r => q ((jm_cl2 ha hb).mpr r))) p e s m args below meth c ls H locs C hl hP hS hm)
theorem jm_if_le {a off : Int} (tgt : Nat) (hd : decode i.2.1 pc = .ok (.ifCond .le off, 3)) (ht : (pc : Int) + off = (tgt : Int)) (ha : jm_rg a) (kt : a ≤ 0 → jm_V l g d i tgt lv st mu Q) (kf : 0 < a → jm_V l g d i (pc + 3) lv st mu Q) : jm_V l g d i pc lv (jm_i a :: st) mu Q :=
  fun p e s m args below meth c ls H locs C hl hP hS hm => lv_if_le C.1.1 C.1.2.1 hd ht (fun q => kt ((jm_cl2 ha jm_rg0).mp q) p e s m args below meth c ls H locs C hl hP hS hm) (fun q => kf (Int.not_le.mp (fun r => q ((jm_cl2 ha jm_rg0).mpr r))) p e s m args below meth c ls H locs C hl hP hS hm)
theorem jm_tin {a dflt lo hi off : Int} {offs : Array Int} {len : Nat} (tgt : Nat) (hd : decode i.2.1 pc = .ok (.tableswitch dflt lo hi offs, len)) (ha : jm_rg a) (h1 : lo ≤ a) (h2 : a ≤ hi) (ho : offs[(a - lo).toNat]? = some off) (ht : (pc : Int) + off = (tgt : Int)) (k : jm_V l g d i tgt lv st mu Q) : jm_V l g d i pc lv (jm_i a :: st) mu Q := by
  intro p e s m args below meth c ls H locs C hl hP hS hm
  exact lv_tableIn (x := Int32.ofInt a) C.1.1 C.1.2.1 hd (by rw [jm_ti ha]; omega) (by rw [jm_ti ha]; omega) (by rw [jm_ti ha]; exact ho) ht (k p e s m args below meth c ls H locs C hl hP hS hm)
theorem jm_tout {a dflt lo hi : Int} {offs : Array Int} {len : Nat} (tgt : Nat) (hd : decode i.2.1 pc = .ok (.tableswitch dflt lo hi offs, len)) (ha : jm_rg a) (h : a < lo ∨ hi < a) (ht : (pc : Int) + dflt = (tgt : Int)) (k : jm_V l g d i tgt lv st mu Q) : jm_V l g d i pc lv (jm_i a :: st) mu Q := by
  intro p e s m args below meth c ls H locs C hl hP hS hm
  exact lv_tableOut (x := Int32.ofInt a) C.1.1 C.1.2.1 hd (by rw [jm_ti ha]; exact h) ht (k p e s m args below meth c ls H locs C hl hP hS hm)
theorem jm_lsw {a dflt off : Int} {ps : Array (Int × Int)} {len : Nat} (tgt : Nat) (hd : decode i.2.1 pc = .ok (.lookupswitch dflt ps, len)) (ha : jm_rg a) (hp : (ps.toList.zip (ps.toList.drop 1)).all (fun (a, next) => a.1 < next.1) = true) (ho : Op.lookupswitch.offset ps.toList dflt a = off) (ht : (pc : Int) + off = (tgt : Int)) (k : jm_V l g d i tgt lv st mu Q) : jm_V l g d i pc lv (jm_i a :: st) mu Q := by
  intro p e s m args below meth c ls H locs C hl hP hS hm
  exact lv_lookup (x := Int32.ofInt a) C.1.1 C.1.2.1 hd hp (by rw [jm_ti ha]; exact ho) ht (k p e s m args below meth c ls H locs C hl hP hS hm)
/-! arrays -/
theorem jm_iald {z : Int} {k n : Nat} (hd : decode i.2.1 pc = .ok (.iaload, 1)) (hy : g.1[k]? = some (.inl n)) (hn : n ≤ 2147483648) (h0 : 0 ≤ z) (h1 : z < n) (kk : jm_V l g d i (pc + 1) lv (jm_i (mu.1 k z) :: st) mu Q) : jm_V l g d i pc lv (jm_i z :: .ref k :: st) mu Q := by
  intro p e s m args below meth c ls H locs C hl hP hS hm
  refine va_iald (i := Int32.ofInt z) C.1.1 C.1.2.1 C.2.2.2.1 hP k 0 (jm_wa hy) rfl (jm_in h0 h1 hn) hd ?_
  have h := kk p e s m args below meth c ls H locs C hl hP hS hm
  show W _ _ _ _ _ _ _ _ _ _ _ _ _ _ _ (F0 _ _ _ (.int (Int32.ofInt (mu.1 k ((Int32.ofInt z).toNatClampNeg : Int))) :: _))
  rw [jm_tn h0 (by omega)]
  exact h
theorem jm_lald {z : Int} {k n : Nat} (hd : decode i.2.1 pc = .ok (.laload, 1)) (hy : g.1[k]? = some (.inr (.inl n))) (hn : n ≤ 2147483648) (h0 : 0 ≤ z) (h1 : z < n) (kk : jm_V l g d i (pc + 1) lv (.long (mu.2 k z) :: st) mu Q) : jm_V l g d i pc lv (jm_i z :: .ref k :: st) mu Q := by
  intro p e s m args below meth c ls H locs C hl hP hS hm
  refine va_lald (i := Int32.ofInt z) C.1.1 C.1.2.1 C.2.2.2.1 hP k 1 (jm_wa hy) rfl (jm_in h0 h1 hn) hd ?_
  have h := kk p e s m args below meth c ls H locs C hl hP hS hm
  show W _ _ _ _ _ _ _ _ _ _ _ _ _ _ _ (F0 _ _ _ (.long (mu.2 k ((Int32.ofInt z).toNatClampNeg : Int)) :: _))
  rw [jm_tn h0 (by omega)]
  exact h
theorem jm_aald {z : Int} {k r : Nat} {rs : List Nat} (hd : decode i.2.1 pc = .ok (.aaload, 1)) (hy : g.1[k]? = some (.inr (.inr (.inl rs)))) (hn : rs.length ≤ 2147483648) (h0 : 0 ≤ z) (h1 : z < rs.length) (hr : rs[z.toNat]? = some r) (kk : jm_V l g d i (pc + 1) lv (.ref r :: st) mu Q) : jm_V l g d i pc lv (jm_i z :: .ref k :: st) mu Q := by
  intro p e s m args below meth c ls H locs C hl hP hS hm
  refine va_aldq (i := Int32.ofInt z) C.1.1 C.1.2.1 C.2.2.2.1 hP k 2 (jm_wa hy) rfl (jm_in h0 h1 hn) hd ?_
  have h := kk p e s m args below meth c ls H locs C hl hP hS hm
  have e1 : (Int32.ofInt z).toNatClampNeg = z.toNat := by have := jm_tn h0 (by omega); omega
  have e2 : va_rf ((rs[(Int32.ofInt z).toNatClampNeg]?).map g.2.2.1) = .ref (g.2.2.1 r) := by rw [e1, hr]; rfl
  show W _ _ _ _ _ _ _ _ _ _ _ _ _ _ _ (F0 _ _ _ (va_rf ((rs[(Int32.ofInt z).toNatClampNeg]?).map g.2.2.1) :: _))
  rw [e2]
  exact h
theorem jm_alen {k n : Nat} (hd : decode i.2.1 pc = .ok (.arraylength, 1)) (hy : g.1[k]? = some (.inl n)) (kk : jm_V l g d i (pc + 1) lv (jm_i n :: st) mu Q) : jm_V l g d i pc lv (.ref k :: st) mu Q := by
  intro p e s m args below meth c ls H locs C hl hP hS hm
  refine va_alen (ty := .int) C.1.1 C.1.2.1 C.2.2.2.1 hP k 0 (jm_wa hy) rfl (v := Int32.ofInt n) ?_ hd (kk p e s m args below meth c ls H locs C hl hP hS hm)
  exact (Int32.ofInt_eq_ofNat).symm
theorem jm_mrw {mu : jm_M} {k : Nat} {z x : Int} (hm : jm_mr mu) (hx : jm_rg x) : jm_mr (jm_wr mu k z x) := by
  intro c i
  show jm_rg (if c = k ∧ i = z then x else mu.1 c i)
  split
  · exact hx
  · exact hm c i
theorem jm_iast {z x : Int} {k n : Nat} (hd : decode i.2.1 pc = .ok (.iastore, 1)) (hy : g.1[k]? = some (.inl n)) (hn : n ≤ 2147483648) (h0 : 0 ≤ z) (h1 : z < n) (hx : jm_rg x) (kk : jm_V l g d i (pc + 1) lv st (jm_wr mu k z x) Q) : jm_V l g d i pc lv (jm_i x :: jm_i z :: .ref k :: st) mu Q := by
  intro p e s m args below meth c ls H locs C hl hP hS hm
  refine va_iast (i := Int32.ofInt z) (x := Int32.ofInt x) C.1.1 C.1.2.1 C.2.2.2.1 hP (jm_wd C.2.2.2.2.1) hS k 0 (jm_wa hy) rfl (jm_in h0 h1 hn) hd (fun H1 locs1 hP1 hD1 hS1 => ?_)
  have e1 : (Int32.ofInt z).toNatClampNeg = z.toNat := by have := jm_tn h0 (by omega); omega
  rw [jm_ws1 (mu' := jm_wr mu k z x) hy ?_ (fun j s hj _ => jm_oth j s hj)] at hP1
  · exact kk p e s m args below meth c ls H1 locs1 C hl hP1 hS1 (jm_mrw hm hx)
  · show Sum.inl _ = Sum.inl _
    congr 4
    funext j
    show Int32.ofInt (if k = k ∧ (j : Int) = z then x else mu.1 k j) = if j = (Int32.ofInt z).toNatClampNeg then Int32.ofInt x else Int32.ofInt (mu.1 k j)
    rw [e1]
    by_cases hj : j = z.toNat
    · rw [if_pos hj, if_pos ⟨rfl, by omega⟩]
    · rw [if_neg hj, if_neg (fun q => hj (by have := q.2; omega))]
theorem jm_othl {k : Nat} {z : Int} {x : Int64} (j : Nat) (s : jm_S) (hj : j ≠ k) : jm_el g (jm_wl mu k z x) j s = jm_el g mu j s := by
  have h : ∀ b : Int, (jm_wl mu k z x).2 j b = mu.2 j b := fun b => by simp [jm_wl, hj]
  rcases s with n | n | rs | o
  · rfl
  · simp only [jm_el, h]
  · rfl
  · rfl
theorem jm_last {z : Int} {x : Int64} {k n : Nat} (hd : decode i.2.1 pc = .ok (.lastore, 1)) (hy : g.1[k]? = some (.inr (.inl n))) (hn : n ≤ 2147483648) (h0 : 0 ≤ z) (h1 : z < n) (kk : jm_V l g d i (pc + 1) lv st (jm_wl mu k z x) Q) : jm_V l g d i pc lv (.long x :: jm_i z :: .ref k :: st) mu Q := by
  intro p e s m args below meth c ls H locs C hl hP hS hm
  refine va_last (i := Int32.ofInt z) (x := x) C.1.1 C.1.2.1 C.2.2.2.1 hP (jm_wd C.2.2.2.2.1) hS k 1 (jm_wa hy) rfl (jm_in h0 h1 hn) hd (fun H1 locs1 hP1 hD1 hS1 => ?_)
  have e1 : (Int32.ofInt z).toNatClampNeg = z.toNat := by have := jm_tn h0 (by omega); omega
  rw [jm_ws1 (mu' := jm_wl mu k z x) hy ?_ (fun j s hj _ => jm_othl j s hj)] at hP1
  · exact kk p e s m args below meth c ls H1 locs1 C hl hP1 hS1 hm
  · show Sum.inl _ = Sum.inl _
    congr 5
    funext j
    show (if k = k ∧ (j : Int) = z then x else mu.2 k j) = if j = (Int32.ofInt z).toNatClampNeg then x else mu.2 k j
    rw [e1]
    by_cases hj : j = z.toNat
    · rw [if_pos hj, if_pos ⟨rfl, by omega⟩]
    · rw [if_neg hj, if_neg (fun q => hj (by have := q.2; omega))]
end JR
