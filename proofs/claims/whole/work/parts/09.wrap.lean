section JX
variable {l : Launch} {g : jm_G} {d : Nat} {i : jm_I} {pc : Nat} {lv lv' : List (Nat × Value)} {st : List Value} {mu : jm_M} {Q : Option Value → jm_M → Prop}
theorem jm_callvi {stk As : List Value} {b ci n idx : Nat} {fs : List (Option Nat)} {Q1 : Int → jm_M → Prop} (y : jm_I) (hd : decode i.2.1 pc = .ok (.invokevirtual idx, 3)) (hL : jm_mv i.1.cls idx y n) (hy : g.1[b]? = some (.inr (.inr (.inr (ci, fs))))) (hc : ∃ q : vw_C, jm_cl[ci]? = some q ∧ q.1 = y.1.cls) (hst : stk = As.reverse ++ .ref b :: st) (hn : As.length = n) (hcat : (st.map fun v => v.category).sum ≤ 8) (hr : jm_R l g d y (.ref b :: As) mu (jm_qi Q1)) (k : ∀ (z : Int) (mu1 : jm_M), jm_rg z → Q1 z mu1 → jm_mr mu1 → jm_V l g (d + 1) i (pc + 3) lv (jm_i z :: st) mu1 Q) : jm_V l g (d + 1) i pc lv stk mu Q := by
  refine jm_callv y hd hL hy hc hst hn hcat hr (fun r mu1 hq => ?_)
  obtain ⟨z, rfl, hz, hq⟩ := hq
  exact jm_mrI (fun hm => k z mu1 hz hq hm)
theorem jm_callvl {stk As : List Value} {b ci n idx : Nat} {fs : List (Option Nat)} {Q1 : Int64 → jm_M → Prop} (y : jm_I) (hd : decode i.2.1 pc = .ok (.invokevirtual idx, 3)) (hL : jm_mv i.1.cls idx y n) (hy : g.1[b]? = some (.inr (.inr (.inr (ci, fs))))) (hc : ∃ q : vw_C, jm_cl[ci]? = some q ∧ q.1 = y.1.cls) (hst : stk = As.reverse ++ .ref b :: st) (hn : As.length = n) (hcat : (st.map fun v => v.category).sum ≤ 8) (hr : jm_R l g d y (.ref b :: As) mu (jm_ql Q1)) (k : ∀ (z : Int64) (mu1 : jm_M), Q1 z mu1 → jm_mr mu1 → jm_V l g (d + 1) i (pc + 3) lv (.long z :: st) mu1 Q) : jm_V l g (d + 1) i pc lv stk mu Q := by
  refine jm_callv y hd hL hy hc hst hn hcat hr (fun r mu1 hq => ?_)
  obtain ⟨z, rfl, hq⟩ := hq
  exact jm_mrI (fun hm => k z mu1 hq hm)
theorem jm_callvv {stk As : List Value} {b ci n idx : Nat} {fs : List (Option Nat)} {Q1 : jm_M → Prop} (y : jm_I) (hd : decode i.2.1 pc = .ok (.invokevirtual idx, 3)) (hL : jm_mv i.1.cls idx y n) (hy : g.1[b]? = some (.inr (.inr (.inr (ci, fs))))) (hc : ∃ q : vw_C, jm_cl[ci]? = some q ∧ q.1 = y.1.cls) (hst : stk = As.reverse ++ .ref b :: st) (hn : As.length = n) (hcat : (st.map fun v => v.category).sum ≤ 8) (hr : jm_R l g d y (.ref b :: As) mu (jm_qv Q1)) (k : ∀ (mu1 : jm_M), Q1 mu1 → jm_mr mu1 → jm_V l g (d + 1) i (pc + 3) lv st mu1 Q) : jm_V l g (d + 1) i pc lv stk mu Q := by
  refine jm_callv y hd hL hy hc hst hn hcat hr (fun r mu1 hq => ?_)
  obtain ⟨rfl, hq⟩ := hq
  exact jm_mrI (fun hm => k mu1 hq hm)
theorem jm_callzi {stk As : List Value} {b n idx : Nat} {Q1 : Int → jm_M → Prop} (y : jm_I) (hd : decode i.2.1 pc = .ok (.invokevirtual idx, 3)) (hL : jm_mv i.1.cls idx y n) (hz : ∀ (s : State) (H : Heap) (locs : List Loc), g.2.2.2.2 s → va_S (jm_A g) s.heap H locs → ∃ cell : Cell, H[g.2.2.1 b]? = some cell ∧ cell.vm.isStatics = false ∧ s.vm.findClass y.1.cls = some cell.cls) (hst : stk = As.reverse ++ .ref b :: st) (hn : As.length = n) (hcat : (st.map fun v => v.category).sum ≤ 8) (hr : jm_R l g d y (.ref b :: As) mu (jm_qi Q1)) (k : ∀ (z : Int) (mu1 : jm_M), jm_rg z → Q1 z mu1 → jm_mr mu1 → jm_V l g (d + 1) i (pc + 3) lv (jm_i z :: st) mu1 Q) : jm_V l g (d + 1) i pc lv stk mu Q := by
  refine jm_callz y hd hL hz hst hn hcat hr (fun r mu1 hq => ?_)
  obtain ⟨z, rfl, hz, hq⟩ := hq
  exact jm_mrI (fun hm => k z mu1 hz hq hm)
theorem jm_callzl {stk As : List Value} {b n idx : Nat} {Q1 : Int64 → jm_M → Prop} (y : jm_I) (hd : decode i.2.1 pc = .ok (.invokevirtual idx, 3)) (hL : jm_mv i.1.cls idx y n) (hz : ∀ (s : State) (H : Heap) (locs : List Loc), g.2.2.2.2 s → va_S (jm_A g) s.heap H locs → ∃ cell : Cell, H[g.2.2.1 b]? = some cell ∧ cell.vm.isStatics = false ∧ s.vm.findClass y.1.cls = some cell.cls) (hst : stk = As.reverse ++ .ref b :: st) (hn : As.length = n) (hcat : (st.map fun v => v.category).sum ≤ 8) (hr : jm_R l g d y (.ref b :: As) mu (jm_ql Q1)) (k : ∀ (z : Int64) (mu1 : jm_M), Q1 z mu1 → jm_mr mu1 → jm_V l g (d + 1) i (pc + 3) lv (.long z :: st) mu1 Q) : jm_V l g (d + 1) i pc lv stk mu Q := by
  refine jm_callz y hd hL hz hst hn hcat hr (fun r mu1 hq => ?_)
  obtain ⟨z, rfl, hq⟩ := hq
  exact jm_mrI (fun hm => k z mu1 hq hm)
theorem jm_callzv {stk As : List Value} {b n idx : Nat} {Q1 : jm_M → Prop} (y : jm_I) (hd : decode i.2.1 pc = .ok (.invokevirtual idx, 3)) (hL : jm_mv i.1.cls idx y n) (hz : ∀ (s : State) (H : Heap) (locs : List Loc), g.2.2.2.2 s → va_S (jm_A g) s.heap H locs → ∃ cell : Cell, H[g.2.2.1 b]? = some cell ∧ cell.vm.isStatics = false ∧ s.vm.findClass y.1.cls = some cell.cls) (hst : stk = As.reverse ++ .ref b :: st) (hn : As.length = n) (hcat : (st.map fun v => v.category).sum ≤ 8) (hr : jm_R l g d y (.ref b :: As) mu (jm_qv Q1)) (k : ∀ (mu1 : jm_M), Q1 mu1 → jm_mr mu1 → jm_V l g (d + 1) i (pc + 3) lv st mu1 Q) : jm_V l g (d + 1) i pc lv stk mu Q := by
  refine jm_callz y hd hL hz hst hn hcat hr (fun r mu1 hq => ?_)
  obtain ⟨rfl, hq⟩ := hq
  exact jm_mrI (fun hm => k mu1 hq hm)
theorem jm_callsi {stk As : List Value} {n idx : Nat} {Q1 : Int → jm_M → Prop} (y : jm_I) (hd : decode i.2.1 pc = .ok (.invokestatic idx, 3)) (hL : jm_ms i.1.cls idx y n) (hst : stk = As.reverse ++ st) (hn : As.length = n) (hcat : (st.map fun v => v.category).sum ≤ 8) (hr : jm_R l g d y (As) mu (jm_qi Q1)) (k : ∀ (z : Int) (mu1 : jm_M), jm_rg z → Q1 z mu1 → jm_mr mu1 → jm_V l g (d + 1) i (pc + 3) lv (jm_i z :: st) mu1 Q) : jm_V l g (d + 1) i pc lv stk mu Q := by
  refine jm_calls y hd hL hst hn hcat hr (fun r mu1 hq => ?_)
  obtain ⟨z, rfl, hz, hq⟩ := hq
  exact jm_mrI (fun hm => k z mu1 hz hq hm)
theorem jm_callsl {stk As : List Value} {n idx : Nat} {Q1 : Int64 → jm_M → Prop} (y : jm_I) (hd : decode i.2.1 pc = .ok (.invokestatic idx, 3)) (hL : jm_ms i.1.cls idx y n) (hst : stk = As.reverse ++ st) (hn : As.length = n) (hcat : (st.map fun v => v.category).sum ≤ 8) (hr : jm_R l g d y (As) mu (jm_ql Q1)) (k : ∀ (z : Int64) (mu1 : jm_M), Q1 z mu1 → jm_mr mu1 → jm_V l g (d + 1) i (pc + 3) lv (.long z :: st) mu1 Q) : jm_V l g (d + 1) i pc lv stk mu Q := by
  refine jm_calls y hd hL hst hn hcat hr (fun r mu1 hq => ?_)
  obtain ⟨z, rfl, hq⟩ := hq
  exact jm_mrI (fun hm => k z mu1 hq hm)
theorem jm_callsv {stk As : List Value} {n idx : Nat} {Q1 : jm_M → Prop} (y : jm_I) (hd : decode i.2.1 pc = .ok (.invokestatic idx, 3)) (hL : jm_ms i.1.cls idx y n) (hst : stk = As.reverse ++ st) (hn : As.length = n) (hcat : (st.map fun v => v.category).sum ≤ 8) (hr : jm_R l g d y (As) mu (jm_qv Q1)) (k : ∀ (mu1 : jm_M), Q1 mu1 → jm_mr mu1 → jm_V l g (d + 1) i (pc + 3) lv st mu1 Q) : jm_V l g (d + 1) i pc lv stk mu Q := by
  refine jm_calls y hd hL hst hn hcat hr (fun r mu1 hq => ?_)
  obtain ⟨rfl, hq⟩ := hq
  exact jm_mrI (fun hm => k mu1 hq hm)
theorem jm_callni {stk As : List Value} {n idx : Nat} {host : String} {Q1 : Int → jm_M → Prop} (y : jm_I) (hd : decode i.2.1 pc = .ok (.invokestatic idx, 3)) (hL : jm_mn g i.1.cls idx y host n) (hst : stk = As.reverse ++ st) (hn : As.length = n) (hcat : (st.map fun v => v.category).sum ≤ 8) (hr : jm_R l g d y (As) mu (jm_qi Q1)) (k : ∀ (z : Int) (mu1 : jm_M), jm_rg z → Q1 z mu1 → jm_mr mu1 → jm_V l g (d + 1) i (pc + 3) lv (jm_i z :: st) mu1 Q) : jm_V l g (d + 1) i pc lv stk mu Q := by
  refine jm_calln y hd hL hst hn hcat hr (fun r mu1 hq => ?_)
  obtain ⟨z, rfl, hz, hq⟩ := hq
  exact jm_mrI (fun hm => k z mu1 hz hq hm)
theorem jm_callnl {stk As : List Value} {n idx : Nat} {host : String} {Q1 : Int64 → jm_M → Prop} (y : jm_I) (hd : decode i.2.1 pc = .ok (.invokestatic idx, 3)) (hL : jm_mn g i.1.cls idx y host n) (hst : stk = As.reverse ++ st) (hn : As.length = n) (hcat : (st.map fun v => v.category).sum ≤ 8) (hr : jm_R l g d y (As) mu (jm_ql Q1)) (k : ∀ (z : Int64) (mu1 : jm_M), Q1 z mu1 → jm_mr mu1 → jm_V l g (d + 1) i (pc + 3) lv (.long z :: st) mu1 Q) : jm_V l g (d + 1) i pc lv stk mu Q := by
  refine jm_calln y hd hL hst hn hcat hr (fun r mu1 hq => ?_)
  obtain ⟨z, rfl, hq⟩ := hq
  exact jm_mrI (fun hm => k z mu1 hq hm)
theorem jm_callnv {stk As : List Value} {n idx : Nat} {host : String} {Q1 : jm_M → Prop} (y : jm_I) (hd : decode i.2.1 pc = .ok (.invokestatic idx, 3)) (hL : jm_mn g i.1.cls idx y host n) (hst : stk = As.reverse ++ st) (hn : As.length = n) (hcat : (st.map fun v => v.category).sum ≤ 8) (hr : jm_R l g d y (As) mu (jm_qv Q1)) (k : ∀ (mu1 : jm_M), Q1 mu1 → jm_mr mu1 → jm_V l g (d + 1) i (pc + 3) lv st mu1 Q) : jm_V l g (d + 1) i pc lv stk mu Q := by
  refine jm_calln y hd hL hst hn hcat hr (fun r mu1 hq => ?_)
  obtain ⟨rfl, hq⟩ := hq
  exact jm_mrI (fun hm => k mu1 hq hm)
def jm_nm (a : Int) : Int := (Int32.ofInt a).toInt
theorem jm_iN (a : Int) : jm_i (jm_nm a) = jm_i a := jm_iT _
theorem jm_nmE {a : Int} (h : jm_rg a) : jm_nm a = a := jm_ti h
theorem jm_n0 {a : Int} (k : jm_V l g d i pc lv (jm_i (jm_nm a) :: st) mu Q) : jm_V l g d i pc lv (jm_i a :: st) mu Q := by
  rw [jm_iN] at k
  exact k
def jm_kI (F : Value → jm_M → Prop) : Option Value → jm_M → Prop := fun r m => ∃ v, r = some v ∧ F v m
def jm_kV (F : jm_M → Prop) : Option Value → jm_M → Prop := fun r m => r = none ∧ F m
theorem jm_kIi {F : Value → jm_M → Prop} {v : Value} {m : jm_M} (h : F v m) : jm_kI F (some v) m := ⟨v, rfl, h⟩
theorem jm_kVi {F : jm_M → Prop} {m : jm_M} (h : F m) : jm_kV F none m := ⟨rfl, h⟩
theorem jm_inlvi {stk As : List Value} {b ci n idx : Nat} {fs : List (Option Nat)} (y : jm_I) (hd : decode i.2.1 pc = .ok (.invokevirtual idx, 3)) (hL : jm_mv i.1.cls idx y n) (hy : g.1[b]? = some (.inr (.inr (.inr (ci, fs))))) (hc : ∃ q : vw_C, jm_cl[ci]? = some q ∧ q.1 = y.1.cls) (hst : stk = As.reverse ++ .ref b :: st) (hn : As.length = n) (hcat : (st.map fun v => v.category).sum ≤ 8) (hr : jm_R l g d y (.ref b :: As) mu (jm_kI fun v m => jm_V l g (d + 1) i (pc + 3) lv (v :: st) m Q)) : jm_V l g (d + 1) i pc lv stk mu Q := by
  refine jm_callv y hd hL hy hc hst hn hcat hr (fun r mu1 hq => ?_)
  obtain ⟨v, rfl, hq⟩ := hq
  exact hq
theorem jm_inlvl {stk As : List Value} {b ci n idx : Nat} {fs : List (Option Nat)} (y : jm_I) (hd : decode i.2.1 pc = .ok (.invokevirtual idx, 3)) (hL : jm_mv i.1.cls idx y n) (hy : g.1[b]? = some (.inr (.inr (.inr (ci, fs))))) (hc : ∃ q : vw_C, jm_cl[ci]? = some q ∧ q.1 = y.1.cls) (hst : stk = As.reverse ++ .ref b :: st) (hn : As.length = n) (hcat : (st.map fun v => v.category).sum ≤ 8) (hr : jm_R l g d y (.ref b :: As) mu (jm_kI fun v m => jm_V l g (d + 1) i (pc + 3) lv (v :: st) m Q)) : jm_V l g (d + 1) i pc lv stk mu Q := by
  refine jm_callv y hd hL hy hc hst hn hcat hr (fun r mu1 hq => ?_)
  obtain ⟨v, rfl, hq⟩ := hq
  exact hq
theorem jm_inlvv {stk As : List Value} {b ci n idx : Nat} {fs : List (Option Nat)} (y : jm_I) (hd : decode i.2.1 pc = .ok (.invokevirtual idx, 3)) (hL : jm_mv i.1.cls idx y n) (hy : g.1[b]? = some (.inr (.inr (.inr (ci, fs))))) (hc : ∃ q : vw_C, jm_cl[ci]? = some q ∧ q.1 = y.1.cls) (hst : stk = As.reverse ++ .ref b :: st) (hn : As.length = n) (hcat : (st.map fun v => v.category).sum ≤ 8) (hr : jm_R l g d y (.ref b :: As) mu (jm_kV fun m => jm_V l g (d + 1) i (pc + 3) lv st m Q)) : jm_V l g (d + 1) i pc lv stk mu Q := by
  refine jm_callv y hd hL hy hc hst hn hcat hr (fun r mu1 hq => ?_)
  obtain ⟨rfl, hq⟩ := hq
  exact hq
theorem jm_inlsi {stk As : List Value} {n idx : Nat} (y : jm_I) (hd : decode i.2.1 pc = .ok (.invokestatic idx, 3)) (hL : jm_ms i.1.cls idx y n) (hst : stk = As.reverse ++ st) (hn : As.length = n) (hcat : (st.map fun v => v.category).sum ≤ 8) (hr : jm_R l g d y (As) mu (jm_kI fun v m => jm_V l g (d + 1) i (pc + 3) lv (v :: st) m Q)) : jm_V l g (d + 1) i pc lv stk mu Q := by
  refine jm_calls y hd hL hst hn hcat hr (fun r mu1 hq => ?_)
  obtain ⟨v, rfl, hq⟩ := hq
  exact hq
theorem jm_inlsl {stk As : List Value} {n idx : Nat} (y : jm_I) (hd : decode i.2.1 pc = .ok (.invokestatic idx, 3)) (hL : jm_ms i.1.cls idx y n) (hst : stk = As.reverse ++ st) (hn : As.length = n) (hcat : (st.map fun v => v.category).sum ≤ 8) (hr : jm_R l g d y (As) mu (jm_kI fun v m => jm_V l g (d + 1) i (pc + 3) lv (v :: st) m Q)) : jm_V l g (d + 1) i pc lv stk mu Q := by
  refine jm_calls y hd hL hst hn hcat hr (fun r mu1 hq => ?_)
  obtain ⟨v, rfl, hq⟩ := hq
  exact hq
theorem jm_inlsv {stk As : List Value} {n idx : Nat} (y : jm_I) (hd : decode i.2.1 pc = .ok (.invokestatic idx, 3)) (hL : jm_ms i.1.cls idx y n) (hst : stk = As.reverse ++ st) (hn : As.length = n) (hcat : (st.map fun v => v.category).sum ≤ 8) (hr : jm_R l g d y (As) mu (jm_kV fun m => jm_V l g (d + 1) i (pc + 3) lv st m Q)) : jm_V l g (d + 1) i pc lv stk mu Q := by
  refine jm_calls y hd hL hst hn hcat hr (fun r mu1 hq => ?_)
  obtain ⟨rfl, hq⟩ := hq
  exact hq
theorem jm_inlni {stk As : List Value} {n idx : Nat} {host : String} (y : jm_I) (hd : decode i.2.1 pc = .ok (.invokestatic idx, 3)) (hL : jm_mn g i.1.cls idx y host n) (hst : stk = As.reverse ++ st) (hn : As.length = n) (hcat : (st.map fun v => v.category).sum ≤ 8) (hr : jm_R l g d y (As) mu (jm_kI fun v m => jm_V l g (d + 1) i (pc + 3) lv (v :: st) m Q)) : jm_V l g (d + 1) i pc lv stk mu Q := by
  refine jm_calln y hd hL hst hn hcat hr (fun r mu1 hq => ?_)
  obtain ⟨v, rfl, hq⟩ := hq
  exact hq
theorem jm_inlnl {stk As : List Value} {n idx : Nat} {host : String} (y : jm_I) (hd : decode i.2.1 pc = .ok (.invokestatic idx, 3)) (hL : jm_mn g i.1.cls idx y host n) (hst : stk = As.reverse ++ st) (hn : As.length = n) (hcat : (st.map fun v => v.category).sum ≤ 8) (hr : jm_R l g d y (As) mu (jm_kI fun v m => jm_V l g (d + 1) i (pc + 3) lv (v :: st) m Q)) : jm_V l g (d + 1) i pc lv stk mu Q := by
  refine jm_calln y hd hL hst hn hcat hr (fun r mu1 hq => ?_)
  obtain ⟨v, rfl, hq⟩ := hq
  exact hq
theorem jm_inlnv {stk As : List Value} {n idx : Nat} {host : String} (y : jm_I) (hd : decode i.2.1 pc = .ok (.invokestatic idx, 3)) (hL : jm_mn g i.1.cls idx y host n) (hst : stk = As.reverse ++ st) (hn : As.length = n) (hcat : (st.map fun v => v.category).sum ≤ 8) (hr : jm_R l g d y (As) mu (jm_kV fun m => jm_V l g (d + 1) i (pc + 3) lv st m Q)) : jm_V l g (d + 1) i pc lv stk mu Q := by
  refine jm_calln y hd hL hst hn hcat hr (fun r mu1 hq => ?_)
  obtain ⟨rfl, hq⟩ := hq
  exact hq
/-- a court at cell k -/
def jm_ct (g : jm_G) (k : Nat) : Prop := g.1[k]? = some (.inr (.inr (.inr (1, [none, none, some (k + 1), some (k + 2), none, some (k + 3), none, some (k + 4), none, some (k + 5)])))) ∧ g.1[k + 1]? = some (.inl 8) ∧ g.1[k + 2]? = some (.inl 8) ∧ g.1[k + 3]? = some (.inl 140) ∧ g.1[k + 4]? = some (.inl 200) ∧ g.1[k + 5]? = some (.inl 600)
theorem jm_ct29 (hg : jm_HC g) : jm_ct g 29 := ⟨cC29 hg, cC30 hg, cC31 hg, cC32 hg, cC33 hg, cC34 hg⟩
theorem jm_ct87 (hg : jm_HC g) : jm_ct g 87 := ⟨cC87 hg, cC88 hg, cC89 hg, cC90 hg, cC91 hg, cC92 hg⟩
theorem jm_six {z : Int} (h0 : 0 ≤ z) (h1 : z < 6) : z = 0 ∨ z = 1 ∨ z = 2 ∨ z = 3 ∨ z = 4 ∨ z = 5 := by omega
theorem jm_ctK (hg : jm_HC g) {z : Int} (h0 : 0 ≤ z) (h1 : z < 6) : jm_ct g (94 + 6 * z.toNat) := by
  rcases jm_six h0 h1 with rfl | rfl | rfl | rfl | rfl | rfl
  · exact ⟨cC94 hg, cC95 hg, cC96 hg, cC97 hg, cC98 hg, cC99 hg⟩
  · exact ⟨cC100 hg, cC101 hg, cC102 hg, cC103 hg, cC104 hg, cC105 hg⟩
  · exact ⟨cC106 hg, cC107 hg, cC108 hg, cC109 hg, cC110 hg, cC111 hg⟩
  · exact ⟨cC112 hg, cC113 hg, cC114 hg, cC115 hg, cC116 hg, cC117 hg⟩
  · exact ⟨cC118 hg, cC119 hg, cC120 hg, cC121 hg, cC122 hg, cC123 hg⟩
  · exact ⟨cC124 hg, cC125 hg, cC126 hg, cC127 hg, cC128 hg, cC129 hg⟩
theorem jm_kp {z : Int} (h0 : 0 ≤ z) (h1 : z < 6) : ([94, 100, 106, 112, 118, 124] : List Nat)[z.toNat]? = some (94 + 6 * z.toNat) := by
  rcases jm_six h0 h1 with rfl | rfl | rfl | rfl | rfl | rfl <;> rfl
end JX
