/-! ===== the machine of fixed cells: behind the constructors no cell is made and no reference changes; ints as Int, memory by cell and place ===== -/
abbrev jm_S : Type := Nat ⊕ Nat ⊕ List Nat ⊕ (Nat × List (Option Nat))
abbrev jm_M : Type := (Nat → Int → Int) × (Nat → Int → Int64)
abbrev jm_I : Type := MethodName × ByteArray × Nat × Option FieldType
abbrev jm_G : Type := List jm_S × va_G × (Nat → Nat) × (ClassId × ClassId × ClassId) × (State → Prop)
def jm_i (z : Int) : Value := .int (Int32.ofInt z)
def jm_rg (z : Int) : Prop := -2147483648 ≤ z ∧ z < 2147483648
def jm_tv (g : jm_G) : Value → Value
  | .ref k => .ref (g.2.2.1 k)
  | v => v
def jm_lq (g : jm_G) (q : Nat × Value) : Nat × Value := (q.1, jm_tv g q.2)
def jm_fv (g : jm_G) (mu : jm_M) (k : Nat) (j : Nat) (f : Option Nat) : Value := match f with
  | none => jm_i (mu.1 k j)
  | some r => .ref (g.2.2.1 r)
def jm_el (g : jm_G) (mu : jm_M) (k : Nat) (sh : jm_S) : va_E := match sh with
  | .inl n => .inl (g.2.2.2.1.1, n, .inl (fun j => Int32.ofInt (mu.1 k j)))
  | .inr (.inl n) => .inl (g.2.2.2.1.2.1, n, .inr (.inl (fun j => mu.2 k j)))
  | .inr (.inr (.inl rs)) => .inl (g.2.2.2.1.2.2, rs.length, .inr (.inr (.inr (.inr (fun j => (rs[j]?).map g.2.2.1)))))
  | .inr (.inr (.inr o)) => .inr (o.1, o.2.mapIdx (jm_fv g mu k))
def jm_w (g : jm_G) (mu : jm_M) : va_W := g.1.mapIdx (fun k sh => (g.2.2.1 k, jm_el g mu k sh))
def jm_A (g : jm_G) : Nat → Prop := fun q => ∃ k, k < g.1.length ∧ q = g.2.2.1 k
def jm_ty (g : jm_G) : List (ClassId × FieldType) := [(g.2.2.2.1.1, .int), (g.2.2.2.1.2.1, .long), (g.2.2.2.1.2.2, .object "SungEvidence$Court")]
def jm_ok (g : jm_G) : Prop := (∀ i j, i < g.1.length → j < g.1.length → g.2.2.1 i = g.2.2.1 j → i = j) ∧ ∀ s t : State, g.2.2.2.2 s → s.WarmedH t.vm → va_F (jm_A g) s t → g.2.2.2.2 t
def jm_T : List Cond := lw_tbl.filter goodWord
def jm_ws (i : jm_I) : List Cond := .code i.1 i.2.1 i.2.2.1 i.2.2.2 :: jm_T
def jm_cl : List vw_C := [(RX0, TX0, 3), (RX1, TX1, 10), (RX2, TX2, 3), (RX3, TX3, 8), (RX4, TX4, 2), (RX5, TX5, 3), (RX6, TX6, 8), (RX7, TX7, 9), (RX8, TX8, 13), (RX9, TX9, 7), (RX10, TX10, 5), (RX11, TX11, 17), (RX12, TX12, 59)]
def jm_rm (d : Nat) : Room := { frames := d, cells := 0, slots := 0, locals := 40 * d }
def jm_mr (mu : jm_M) : Prop := ∀ (c : Nat) (i : Int), jm_rg (mu.1 c i)
def jm_B (g : jm_G) (mu : jm_M) (U : State) : Prop := va_K g.2.1 jm_cl (jm_ty g) U ∧ va_P g.2.1 jm_cl (jm_w g mu) U.heap ∧ jm_ok g ∧ g.2.2.2.2 U ∧ jm_mr mu
def jm_Q (g : jm_G) (Q : Option Value → jm_M → Prop) : Array Value → State → Outcome → State → Prop := fun _ st oc t => (∃ (r : Option Value) (mu : jm_M), oc = .returned (r.map (jm_tv g)) ∧ Q r mu ∧ va_P g.2.1 jm_cl (jm_w g mu) t.heap ∧ jm_mr mu) ∧ va_F (jm_A g) st t
def jm_C (p : Program) (m : MethodId) (c : Code) (i : jm_I) (s : State) (args : Array Value) (meth : Method) (g : jm_G) : Prop := CallFix p m c i.2.1 i.2.2.1 s args (jm_ws i) i.1.cls ∧ meth.sig.returnType = i.2.2.2 ∧ meth.locks = false ∧ va_K g.2.1 jm_cl (jm_ty g) s ∧ jm_ok g ∧ g.2.2.2.2 s
/-- from here, at depth d, in method i, the machine comes to the method's end with Q -/
def jm_V (l : Launch) (g : jm_G) (d : Nat) (i : jm_I) (pc : Nat) (lv : List (Nat × Value)) (st : List Value) (mu : jm_M) (Q : Option Value → jm_M → Prop) : Prop :=
  ∀ (p : Program) (e : Env) (s : State) (m : MethodId) (args : Array Value) (below : List Frame) (meth : Method) (c : Code) (ls : Array Slot) (H : Heap) (locs : List Loc),
    jm_C p m c i s args meth g → lv_has ls i.2.2.1 (lv.map (jm_lq g)) → va_P g.2.1 jm_cl (jm_w g mu) H → va_S (jm_A g) s.heap H locs → jm_mr mu →
    W p l e (jm_rm d) s m args below meth c H locs 0 0 (MQ below (jm_Q g Q) args s 0 0 (jm_A g)) (F0 m pc ls (st.map (jm_tv g)))
/-- calling method i with these arguments ends with Q, in d frames -/
def jm_R (l : Launch) (g : jm_G) (d : Nat) (i : jm_I) (As : List Value) (mu : jm_M) (Q : Option Value → jm_M → Prop) : Prop :=
  ∃ d0, d0 ≤ d ∧ Met l i.1 (jm_ws i) (jm_rm d0) (va_Pc (As.map (jm_tv g)) (jm_B g mu)) (jm_Q g Q) 0 0 (jm_A g)
def jm_qi (Q : Int → jm_M → Prop) : Option Value → jm_M → Prop := fun r mu => ∃ z, r = some (jm_i z) ∧ jm_rg z ∧ Q z mu
def jm_ql (Q : Int64 → jm_M → Prop) : Option Value → jm_M → Prop := fun r mu => ∃ z, r = some (.long z) ∧ Q z mu
def jm_qv (Q : jm_M → Prop) : Option Value → jm_M → Prop := fun r mu => r = none ∧ Q mu
def jm_wr (mu : jm_M) (c : Nat) (i : Int) (x : Int) : jm_M := (fun a b => if a = c ∧ b = i then x else mu.1 a b, mu.2)
def jm_wl (mu : jm_M) (c : Nat) (i : Int) (x : Int64) : jm_M := (mu.1, fun a b => if a = c ∧ b = i then x else mu.2 a b)
def jm_cp (mu : jm_M) (a : Nat) (sp : Int) (b : Nat) (dp n : Int) : jm_M := (fun c i => if c = b ∧ dp ≤ i ∧ i < dp + n then mu.1 a (sp + (i - dp)) else mu.1 c i, mu.2)
theorem jm_ti {z : Int} (h : jm_rg z) : (Int32.ofInt z).toInt = z := by
  obtain ⟨h1, h2⟩ := h
  exact Int32.toInt_ofInt_of_le (by omega) (by omega)
theorem jm_rgT (x : Int32) : jm_rg x.toInt := by
  have h1 := x.le_toInt
  have h2 := x.toInt_lt
  exact ⟨by omega, by omega⟩
theorem jm_iT (x : Int32) : jm_i x.toInt = .int x := by
  unfold jm_i
  rw [Int32.ofInt_toInt]
theorem jm_tn {z : Int} (h0 : 0 ≤ z) (h1 : z < 2147483648) : ((Int32.ofInt z).toNatClampNeg : Int) = z := by
  show (((Int32.ofInt z).toInt.toNat : Nat) : Int) = z
  rw [jm_ti ⟨by omega, h1⟩]
  omega
theorem jm_in {z : Int} {n : Nat} (h0 : 0 ≤ z) (h1 : z < n) (hn : n ≤ 2147483648) : vp_in (Int32.ofInt z) n := by
  intro h
  have h2 := jm_tn h0 (by omega)
  rcases h with h | h
  · have h3 := Int32.lt_iff_toInt_lt.mp h
    rw [jm_ti ⟨by omega, by omega⟩] at h3
    simp at h3
    omega
  · omega
theorem jm_wa {g : jm_G} {mu : jm_M} {k : Nat} {sh : jm_S} (h : g.1[k]? = some sh) : (jm_w g mu)[k]? = some (g.2.2.1 k, jm_el g mu k sh) := by
  unfold jm_w
  rw [List.getElem?_mapIdx, h]
  rfl
theorem jm_wd {g : jm_G} {mu : jm_M} (h : jm_ok g) : va_D (jm_A g) (jm_w g mu) := by
  have key : ∀ (k : Nat) (q : Nat × va_E), (jm_w g mu)[k]? = some q → k < g.1.length ∧ q.1 = g.2.2.1 k := by
    intro k q hk
    unfold jm_w at hk
    rw [List.getElem?_mapIdx] at hk
    cases hs : g.1[k]? with
    | none => rw [hs] at hk; cases hk
    | some sh =>
      rw [hs] at hk
      cases hk
      exact ⟨(List.getElem?_eq_some_iff.mp hs).1, rfl⟩
  refine ⟨fun i j x y hi hj hxy => ?_, fun k q hk => ?_⟩
  · obtain ⟨h1, h2⟩ := key i x hi
    obtain ⟨h3, h4⟩ := key j y hj
    exact h.1 i j h1 h3 (by rw [← h2, ← h4]; exact hxy)
  · obtain ⟨h1, h2⟩ := key k q hk
    exact ⟨k, h1, h2⟩
/-- a world with one cell changed -/
theorem jm_ws1 {g : jm_G} {mu mu' : jm_M} {k : Nat} {sh : jm_S} {e : va_E} (h : g.1[k]? = some sh) (he : jm_el g mu' k sh = e) (ho : ∀ (j : Nat) (s : jm_S), j ≠ k → g.1[j]? = some s → jm_el g mu' j s = jm_el g mu j s) : (jm_w g mu).set k (g.2.2.1 k, e) = jm_w g mu' := by
  apply List.ext_getElem?
  intro j
  have hl : k < (jm_w g mu).length := by
    unfold jm_w
    rw [List.length_mapIdx]
    exact (List.getElem?_eq_some_iff.mp h).1
  by_cases hj : j = k
  · subst hj
    rw [List.getElem?_set_self hl, jm_wa h, he]
  · rw [List.getElem?_set_ne (fun q => hj q.symm)]
    unfold jm_w
    rw [List.getElem?_mapIdx, List.getElem?_mapIdx]
    cases hs : g.1[j]? with
    | none => rfl
    | some s =>
      show some (g.2.2.1 j, jm_el g mu j s) = some (g.2.2.1 j, jm_el g mu' j s)
      rw [ho j s hj hs]
theorem jm_oth {g : jm_G} {mu : jm_M} {k : Nat} {i : Int} {x : Int} (j : Nat) (s : jm_S) (hj : j ≠ k) : jm_el g (jm_wr mu k i x) j s = jm_el g mu j s := by
  have h : ∀ b : Int, (jm_wr mu k i x).1 j b = mu.1 j b := fun b => by simp [jm_wr, hj]
  rcases s with n | n | rs | o
  · simp only [jm_el, h]
  · rfl
  · rfl
  · have h2 : jm_fv g (jm_wr mu k i x) j = jm_fv g mu j := by
      funext q f
      cases f with
      | none => simp only [jm_fv, h]
      | some r => rfl
    simp only [jm_el, h2]
theorem jm_pick {g : jm_G} {lv : List (Nat × Value)} (ks : List Nat) : lv_pick (lv.map (jm_lq g)) ks = (lv_pick lv ks).map (jm_lq g) := by
  induction ks with
  | nil => rfl
  | cons a t ih =>
    simp only [lv_pick, List.filterMap_cons, List.getElem?_map] at ih ⊢
    cases lv[a]? <;> simp [ih]
theorem jm_cat (g : jm_G) (v : Value) : (jm_tv g v).category = v.category := by cases v <;> rfl
theorem jm_filt1 {g : jm_G} {lv : List (Nat × Value)} (i : Nat) : (lv.map (jm_lq g)).filter (fun q => !(q.1 == i) && !(q.1 + 1 == i && q.2.category == 2)) = (lv.filter (fun q => !(q.1 == i) && !(q.1 + 1 == i && q.2.category == 2))).map (jm_lq g) := by
  rw [List.filter_map]
  congr 1
  apply List.filter_congr
  intro q _
  simp [jm_lq, jm_cat]
theorem jm_filt2 {g : jm_G} {lv : List (Nat × Value)} (i : Nat) : (lv.map (jm_lq g)).filter (fun q => !(q.1 == i) && (!(q.1 == i + 1) && !(q.1 + 1 == i && q.2.category == 2))) = (lv.filter (fun q => !(q.1 == i) && (!(q.1 == i + 1) && !(q.1 + 1 == i && q.2.category == 2)))).map (jm_lq g) := by
  rw [List.filter_map]
  congr 1
  apply List.filter_congr
  intro q _
  simp [jm_lq, jm_cat]
theorem jm_R.up {l : Launch} {g : jm_G} {d d' : Nat} {i : jm_I} {As : List Value} {mu : jm_M} {Q : Option Value → jm_M → Prop} (h : jm_R l g d i As mu Q) (hd : d ≤ d') : jm_R l g d' i As mu Q := by
  obtain ⟨d0, h1, h2⟩ := h
  exact ⟨d0, by omega, h2⟩
