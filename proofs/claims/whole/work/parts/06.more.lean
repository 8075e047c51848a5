section JZ
variable {l : Launch} {g : jm_G} {d : Nat} {i : jm_I} {pc : Nat} {lv lv' : List (Nat × Value)} {st : List Value} {mu : jm_M} {Q : Option Value → jm_M → Prop}
theorem jm_ifnull {k : Nat} {off : Int} (hd : decode i.2.1 pc = .ok (.ifnull off, 3)) (kk : jm_V l g d i (pc + 3) lv st mu Q) : jm_V l g d i pc lv (.ref k :: st) mu Q :=
  fun p e s m args below meth c ls H locs C hl hP hS hm => lv_ifnull C.1.1 C.1.2.1 hd (kk p e s m args below meth c ls H locs C hl hP hS hm)
theorem jm_ifnonnull {k : Nat} {off : Int} (tgt : Nat) (hd : decode i.2.1 pc = .ok (.ifnonnull off, 3)) (ht : (pc : Int) + off = (tgt : Int)) (kk : jm_V l g d i tgt lv st mu Q) : jm_V l g d i pc lv (.ref k :: st) mu Q :=
  fun p e s m args below meth c ls H locs C hl hP hS hm => lv_ifnonnull C.1.1 C.1.2.1 hd ht (kk p e s m args below meth c ls H locs C hl hP hS hm)
theorem jm_ldcS {idx b : Nat} {tx : String} (hd : decode i.2.1 pc = .ok (.ldc idx, 2)) (hz : ∀ s : State, g.2.2.2.2 s → vk_R i.1.cls idx tx (g.2.2.1 b) s) (kk : jm_V l g d i (pc + 2) lv (.ref b :: st) mu Q) : jm_V l g d i pc lv st mu Q :=
  fun p e s m args below meth c ls H locs C hl hP hS hm => va_ldcS C.1.1 C.1.2.1 C.1.2.2.2.1 (hz s C.2.2.2.2.2) hd (kk p e s m args below meth c ls H locs C hl hP hS hm)
theorem jm_callz {stk As : List Value} {b n idx : Nat} {Q1 : Option Value → jm_M → Prop} (y : jm_I) (hd : decode i.2.1 pc = .ok (.invokevirtual idx, 3)) (hL : jm_mv i.1.cls idx y n) (hz : ∀ (s : State) (H : Heap) (locs : List Loc), g.2.2.2.2 s → va_S (jm_A g) s.heap H locs → ∃ cell : Cell, H[g.2.2.1 b]? = some cell ∧ cell.vm.isStatics = false ∧ s.vm.findClass y.1.cls = some cell.cls) (hst : stk = As.reverse ++ .ref b :: st) (hn : As.length = n) (hcat : (st.map fun v => v.category).sum ≤ 8)
    (hr : jm_R l g d y (.ref b :: As) mu Q1) (k : ∀ r mu1, Q1 r mu1 → jm_V l g (d + 1) i (pc + 3) lv (r.toList ++ st) mu1 Q) : jm_V l g (d + 1) i pc lv stk mu Q := by
  intro p e s m args below meth c ls H locs C hl hP hS hm
  obtain ⟨d0, hd0, hM⟩ := hr
  have hT := C.1.2.2.2.2
  have hw : ∀ {w : Cond}, w ∈ jm_T → w.before args s = true := fun h => hT _ (List.mem_cons_of_mem _ h)
  have hrecv := hz s H locs C.2.2.2.2.2 hS
  have hCB : CallB (jm_rm (d + 1)) s args i.1.cls idx y.1 y.2.1 y.2.2.1 y.2.2.2 (jm_ws y) (jm_rm d0) 0 0 n := callB_of n hT (jm_gW hL.1) rfl rfl rfl (hw hL.1.2.1) (hw hL.2.1) hL.1.2.2.1 ⟨by show d0 + 1 ≤ d + 1; omega, by have := hL.1.2.2.2; show 8 + (y.2.2.1 + 11) + 40 * d0 ≤ 40 * (d + 1); omega⟩
  have hpre := jm_preS (As := (.ref b :: As).map (jm_tv g)) C hP hS hm
  have hrun := va_runV (e := e) (below := below) (meth := meth) (g := F0 m pc ls (stk.map (jm_tv g))) (rest := st.map (jm_tv g)) (locs := locs) (cells := 0) (slots := 0) (As := As.map (jm_tv g)) (b := g.2.2.1 b) (C := y.1.cls) C.1 hM ⟨hCB, hw hL.2.2.1, hw hL.2.2.2⟩ ⟨hpre.1, hrecv, hpre.2⟩ rfl (by rw [List.length_map]; exact hn) hl.1 (by show stk.map (jm_tv g) = _; rw [hst, List.map_append, List.map_reverse]; rfl) (lv_room (jm_sum hcat)) hd ⟨Nat.zero_le _, Nat.zero_le _⟩
  exact jm_back (As := As) (y := y) (d0 := d0) hrun hS (fun r mu1 H1 locs1 hq hm1 hP1 hS1 => k r mu1 hq p e s m args below meth c ls H1 locs1 C hl hP1 hS1 hm1)
theorem jm_rgM {a b : Int} (ha : jm_rg a) (hb : jm_rg b) : jm_rg (max a b) := by
  obtain ⟨a1, a2⟩ := ha
  obtain ⟨b1, b2⟩ := hb
  exact ⟨by omega, by omega⟩
theorem jm_rgm {a b : Int} (ha : jm_rg a) (hb : jm_rg b) : jm_rg (min a b) := by
  obtain ⟨a1, a2⟩ := ha
  obtain ⟨b1, b2⟩ := hb
  exact ⟨by omega, by omega⟩
theorem jm_tw {n : Nat} {w : Cond} (h : tables_1[n]? = some w) (hg : goodWord w = true) : w ∈ jm_T := List.mem_filter.mpr ⟨List.mem_append_right _ (List.mem_of_getElem? h), hg⟩
theorem jm_tp {n : Nat} {q : MethodName × Nat} (h : lw_privs[n]? = some q) : Cond.selects q.1.cls q.1 q.1 ∈ jm_T := List.mem_filter.mpr ⟨List.mem_append_left _ (List.mem_map.mpr ⟨q, List.mem_of_getElem? h, rfl⟩), rfl⟩
theorem jm_up {C : String} {T : u_T} {N : Nat} (ps : List Nat) (h : ps.map (fun n => tables_1[n]?) = (u_ws C T N).map some) (hg : (u_ws C T N).all goodWord = true) : ∀ w ∈ u_ws C T N, w ∈ jm_T := by
  intro w hw
  have h1 : some w ∈ (u_ws C T N).map some := List.mem_map.mpr ⟨w, hw, rfl⟩
  rw [← h] at h1
  obtain ⟨n, -, hn⟩ := List.mem_map.mp h1
  exact jm_tw hn (List.all_eq_true.mp hg w hw)
end JZ
