section SR
variable {l : Launch} {g : jm_G} {d : Nat} {i : jm_I} {pc : Nat} {lv lv' : List (Nat × Value)} {st : List Value} {mu : jm_M} {Q : Option Value → jm_M → Prop}
theorem jm_gets {idx : Nat} {C n ty : String} (v : Value) (hd : decode i.2.1 pc = .ok (.getstatic idx, 3)) (hw : Cond.fieldLink i.1.cls idx C n ty ∈ jm_T) (hz : ∀ s : State, g.2.2.2.2 s → va_Z C n ty (jm_tv g v) (jm_A g) s s.heap) (kk : jm_V l g d i (pc + 3) lv (v :: st) mu Q) : jm_V l g d i pc lv st mu Q :=
  fun p e s m args below meth c ls H locs C hl hP hS hm => va_gets C.1.1 C.1.2.1 (hz s C.2.2.2.2.2) hS C.1.2.2.2.1 (C.1.2.2.2.2 _ (List.mem_cons_of_mem _ hw)) (fun _ h => h) hd (kk p e s m args below meth c ls H locs C hl hP hS hm)
theorem jm_gets2 {idx b : Nat} {C n ty : String} (hd : decode i.2.1 pc = .ok (.getstatic idx, 3)) (hw : Cond.fieldLink i.1.cls idx C n ty ∈ jm_T) (hz : ∀ s : State, g.2.2.2.2 s → ∃ v : Value, (v = .null ∨ v = .ref b) ∧ va_Z C n ty (jm_tv g v) (jm_A g) s s.heap) (kk : ∀ v : Value, v = .null ∨ v = .ref b → jm_V l g d i (pc + 3) lv (v :: st) mu Q) : jm_V l g d i pc lv st mu Q := by
  intro p e s m args below meth c ls H locs C hl hP hS hm
  obtain ⟨v, hv, hz⟩ := hz s C.2.2.2.2.2
  exact va_gets C.1.1 C.1.2.1 hz hS C.1.2.2.2.1 (C.1.2.2.2.2 _ (List.mem_cons_of_mem _ hw)) (fun _ h => h) hd (kk v hv p e s m args below meth c ls H locs C hl hP hS hm)
theorem jm_getS {idx k : Nat} {C n ty : String} (v : Value) (hd : decode i.2.1 pc = .ok (.getfield idx, 3)) (hw : Cond.fieldLink i.1.cls idx C n ty ∈ jm_T) (hz : ∀ s : State, g.2.2.2.2 s → va_OF C n ty (jm_tv g v) (g.2.2.1 k) (jm_A g) s s.heap) (kk : jm_V l g d i (pc + 3) lv (v :: st) mu Q) : jm_V l g d i pc lv (.ref k :: st) mu Q :=
  fun p e s m args below meth c ls H locs C hl hP hS hm => vk_getf C.1.1 C.1.2.1 (hz s C.2.2.2.2.2) hS C.1.2.2.2.1 (C.1.2.2.2.2 _ (List.mem_cons_of_mem _ hw)) (fun _ h => h) hd (kk p e s m args below meth c ls H locs C hl hP hS hm)
theorem jm_slen {k N : Nat} {f : Nat → Value} (z : Int) (hd : decode i.2.1 pc = .ok (.arraylength, 1)) (hz : ∀ s : State, g.2.2.2.2 s → va_T .byte (g.2.2.1 k) N f (jm_A g) s s.heap) (hv : Int32.ofNat N = Int32.ofInt z) (kk : jm_V l g d i (pc + 1) lv (jm_i z :: st) mu Q) : jm_V l g d i pc lv (.ref k :: st) mu Q :=
  fun p e s m args below meth c ls H locs C hl hP hS hm => va_tlen C.1.1 C.1.2.1 (hz s C.2.2.2.2.2) hS hv hd (kk p e s m args below meth c ls H locs C hl hP hS hm)
theorem jm_sbal {k N : Nat} {f : Nat → Value} {x : Nat} (z : Int) (hd : decode i.2.1 pc = .ok (.baload, 1)) (hz : ∀ s : State, g.2.2.2.2 s → va_T .byte (g.2.2.1 k) N f (jm_A g) s s.heap) (h1 : x < N) (h2 : N ≤ 2147483648) (hv : f x = jm_i z) (kk : jm_V l g d i (pc + 1) lv (jm_i z :: st) mu Q) : jm_V l g d i pc lv (jm_i x :: .ref k :: st) mu Q :=
  fun p e s m args below meth c ls H locs C hl hP hS hm => va_tb C.1.1 C.1.2.1 (hz s C.2.2.2.2.2) hS (jm_in (by omega) (by omega) h2) (v := jm_i z) (by have := jm_tn (z := (x : Int)) (by omega) (by omega); rw [show (Int32.ofInt (x : Int)).toNatClampNeg = x by omega]; exact hv) hd (kk p e s m args below meth c ls H locs C hl hP hS hm)
theorem jm_i2c {x z : Int} (hd : decode i.2.1 pc = .ok (.i2c, 1)) (hv : ((Int32.ofInt x).toUInt32 % 65536).toInt32 = Int32.ofInt z) (kk : jm_V l g d i (pc + 1) lv (jm_i z :: st) mu Q) : jm_V l g d i pc lv (jm_i x :: st) mu Q :=
  fun p e s m args below meth c ls H locs C hl hP hS hm => lv_i2c C.1.1 C.1.2.1 hd hv (kk p e s m args below meth c ls H locs C hl hP hS hm)
theorem jm_tret {z : Int} {ty : FieldType} (hd : decode i.2.1 pc = .ok (.ireturn, 1)) (hr : i.2.2.2 = some ty) (hn : narrow ty (jm_i z) = jm_i z) (hq : Q (some (jm_i z)) mu) : jm_V l g d i pc lv [jm_i z] mu Q := by
  intro p e s m args below meth c ls H locs C hl hP hS hm
  exact W.zret (v := Int32.ofInt z) C.1.1 C.1.2.1 (C.2.1.trans hr) hn (fun t ht hW => ⟨⟨some (jm_i z), mu, rfl, hq, by rw [ht]; exact hP, hm⟩, hS.F ht⟩) hS.2.2 hd C.2.2.1
/-- the strings of the class: three constants, in Latin letters -/
def jm_HS (g : jm_G) : Prop := (∀ s : State, g.2.2.2.2 s → va_Z "java/lang/String" "COMPACT_STRINGS" "Z" (.int 1) (jm_A g) s s.heap) ∧ (∀ s : State, g.2.2.2.2 s → ∃ v : Value, (v = .null ∨ v = .ref 1006) ∧ va_Z "jdk/internal/util/Preconditions" "SIOOBE_FORMATTER" "Ljava/util/function/BiFunction;" (jm_tv g v) (jm_A g) s s.heap) ∧ ∀ k, k < 3 → (∀ s : State, g.2.2.2.2 s → va_O "java/lang/String" (g.2.2.1 (1000 + k)) (jm_A g) s s.heap) ∧ (∀ s : State, g.2.2.2.2 s → va_OF "java/lang/String" "coder" "B" (.int 0) (g.2.2.1 (1000 + k)) (jm_A g) s s.heap) ∧ (∀ s : State, g.2.2.2.2 s → va_OF "java/lang/String" "value" "[B" (.ref (g.2.2.1 (1003 + k))) (g.2.2.1 (1000 + k)) (jm_A g) s s.heap) ∧ ∀ s : State, g.2.2.2.2 s → va_T .byte (g.2.2.1 (1003 + k)) (wln k) (fun j => jm_i (wGl (wof k + j))) (jm_A g) s s.heap
theorem wln_b (k : Nat) : wln k ≤ 94 := by
  unfold wln
  split
  · decide
  · split <;> decide
theorem w_ch : ∀ x : Fin 143, jm_and (wGl x.val) 255 = wGl x.val ∧ ((Int32.ofInt (wGl x.val)).toUInt32 % 65536).toInt32 = Int32.ofInt (wGl x.val) := by decide +kernel
theorem sJ3_check {a n : Int} {b : Nat} {v : Value} (hv : v = .null ∨ v = .ref b) (a0 : 0 ≤ a) (an : a < n) (rn : jm_rg n) (h : Q (some (jm_i a)) mu) : jm_R l g d iJ3_checkIndex_8e157 [jm_i a, jm_i n, v] mu Q := by
  have ra : jm_rg a := ⟨by omega, by have := rn.2; omega⟩
  have body : jm_V l g d iJ3_checkIndex_8e157 0 [(0, jm_i a), (1, jm_i n)] [] mu Q := by
    refine jm_iload_n (pc := 0) 0 dJ3_checkIndex_8e157_0 rfl ?_
    refine jm_if_lt (pc := 1) 9 dJ3_checkIndex_8e157_1 rfl ra (fun q => by omega) (fun _ => ?_)
    refine jm_iload_n (pc := 4) 0 dJ3_checkIndex_8e157_4 rfl ?_
    refine jm_iload_n (pc := 5) 1 dJ3_checkIndex_8e157_5 rfl ?_
    refine jm_icmp_lt (pc := 6) 16 dJ3_checkIndex_8e157_6 rfl ra rn (fun _ => ?_) (fun q => by omega)
    refine jm_iload_n (pc := 16) 0 dJ3_checkIndex_8e157_16 rfl ?_
    exact jm_iret (pc := 17) dJ3_checkIndex_8e157_17 rfl h
  rcases hv with rfl | rfl
  · exact jm_enter [(0, jm_i a), (1, jm_i n), (2, .null)] (by decide) (Nat.le_of_ble_eq_true rfl) rfl (jm_sub [0, 1] rfl body)
  · exact jm_enter [(0, jm_i a), (1, jm_i n), (2, .ref b)] (by decide) (Nat.le_of_ble_eq_true rfl) rfl (jm_sub [0, 1] rfl body)
theorem sJ0_check (hS : jm_HS g) {a n : Int} (a0 : 0 ≤ a) (an : a < n) (rn : jm_rg n) (h : Q none mu) : jm_R l g (d + 1) iJ0_checkIndex_df160 [jm_i a, jm_i n] mu Q := by
  refine jm_enter [(0, jm_i a), (1, jm_i n)] (by decide) (Nat.le_of_ble_eq_true rfl) rfl ?_
  refine jm_iload_n (pc := 0) 0 dJ0_checkIndex_df160_0 rfl ?_
  refine jm_iload_n (pc := 1) 1 dJ0_checkIndex_df160_1 rfl ?_
  refine jm_gets2 (pc := 2) dJ0_checkIndex_df160_2 fJ0_1053 hS.2.1 (fun v hv => ?_)
  refine jm_calls (pc := 5) (As := [jm_i a, jm_i n, v]) (st := []) iJ3_checkIndex_8e157 dJ0_checkIndex_df160_5 mJ0_1059 rfl rfl (by decide) (sJ3_check (Q := fun r m => r = some (jm_i a) ∧ m = mu) hv a0 an rn ⟨rfl, rfl⟩) (fun r m q => ?_)
  obtain ⟨rfl, qm⟩ := q
  rw [qm]
  refine jm_pop (pc := 8) (jm_i a) dJ0_checkIndex_df160_8 rfl ?_
  exact jm_vret (pc := 9) dJ0_checkIndex_df160_9 rfl h
theorem sJ1_charAt (hS : jm_HS g) {k x : Nat} (hk : k < 3) (hx : x < wln k) (h : Q (some (jm_i (wGl (wof k + x)))) mu) : jm_R l g (d + 2) iJ1_charAt_3b067 [.ref (1003 + k), jm_i x] mu Q := by
  have w9 := wln_b k
  have sum : wof k + wln k = wS (wb k + wc k) := (w_tx ⟨k, hk⟩).2.2.1
  have se : wS (wb k + wc k) ≤ 143 := by
    have a : wb k + wc k ≤ 28 := (w_tx ⟨k, hk⟩).1
    have b := w_mono (28 - (wb k + wc k)) (wb k + wc k) (by omega)
    rw [show wb k + wc k + (28 - (wb k + wc k)) = 28 by omega] at b
    exact Nat.le_trans b (by decide)
  have ch := w_ch ⟨wof k + x, by show wof k + x < 143; omega⟩
  have hT := (hS.2.2 k hk).2.2.2
  refine jm_enter [(0, .ref (1003 + k)), (1, jm_i x)] (by decide) (Nat.le_of_ble_eq_true rfl) rfl ?_
  refine jm_iload_n (pc := 0) 1 dJ1_charAt_3b067_0 rfl ?_
  refine jm_aload_n (pc := 1) 0 dJ1_charAt_3b067_1 rfl ?_
  refine jm_slen (pc := 2) (wln k : Int) dJ1_charAt_3b067_2 hT rfl ?_
  refine jm_calls (pc := 3) (As := [jm_i x, jm_i (wln k)]) (st := []) iJ0_checkIndex_df160 dJ1_charAt_3b067_3 mJ1_9 rfl rfl (by decide) (sJ0_check (Q := fun r m => r = none ∧ m = mu) hS (by omega) (by omega) ⟨by omega, by omega⟩ ⟨rfl, rfl⟩) (fun r m q => ?_)
  obtain ⟨rfl, qm⟩ := q
  rw [qm]
  refine jm_aload_n (pc := 6) 0 dJ1_charAt_3b067_6 rfl ?_
  refine jm_iload_n (pc := 7) 1 dJ1_charAt_3b067_7 rfl ?_
  refine jm_sbal (pc := 8) (wGl (wof k + x)) dJ1_charAt_3b067_8 hT hx (by omega) rfl ?_
  refine jm_sipush (pc := 9) dJ1_charAt_3b067_9 (by decide) ?_
  refine jm_iand (pc := 12) dJ1_charAt_3b067_12 ?_
  rw [show jm_and (wGl (wof k + x)) 255 = wGl (wof k + x) from ch.1]
  refine jm_i2c (pc := 13) dJ1_charAt_3b067_13 ch.2 ?_
  refine jm_tret (pc := 14) dJ1_charAt_3b067_14 rfl ?_ h
  show Value.int ((Int32.ofInt (wGl (wof k + x))).toUInt32 % 65536).toInt32 = _
  rw [ch.2]
  rfl
theorem sJ0_coder (hS : jm_HS g) {k : Nat} (hk : k < 3) (h : Q (some (jm_i 0)) mu) : jm_R l g d iJ0_coder_7d493 [.ref (1000 + k)] mu Q := by
  refine jm_enter [(0, .ref (1000 + k))] (by decide) (Nat.le_of_ble_eq_true rfl) rfl ?_
  refine jm_gets (pc := 0) (jm_i 1) dJ0_coder_7d493_0 fJ0_38 hS.1 ?_
  refine jm_if_eq (pc := 3) 13 dJ0_coder_7d493_3 rfl ⟨by decide, by decide⟩ (fun q => absurd q (by decide)) (fun _ => ?_)
  refine jm_aload_n (pc := 6) 0 dJ0_coder_7d493_6 rfl ?_
  refine jm_getS (pc := 7) (jm_i 0) dJ0_coder_7d493_7 fJ0_15 (hS.2.2 k hk).2.1 ?_
  refine jm_goto (pc := 10) 14 dJ0_coder_7d493_10 rfl ?_
  exact jm_tret (pc := 14) dJ0_coder_7d493_14 rfl (by decide) h
theorem sJ0_isLatin1 (hS : jm_HS g) {k : Nat} (hk : k < 3) (h : Q (some (jm_i 1)) mu) : jm_R l g d iJ0_isLatin1_aae02 [.ref (1000 + k)] mu Q := by
  refine jm_enter [(0, .ref (1000 + k))] (by decide) (Nat.le_of_ble_eq_true rfl) rfl ?_
  refine jm_gets (pc := 0) (jm_i 1) dJ0_isLatin1_aae02_0 fJ0_38 hS.1 ?_
  refine jm_if_eq (pc := 3) 17 dJ0_isLatin1_aae02_3 rfl ⟨by decide, by decide⟩ (fun q => absurd q (by decide)) (fun _ => ?_)
  refine jm_aload_n (pc := 6) 0 dJ0_isLatin1_aae02_6 rfl ?_
  refine jm_getS (pc := 7) (jm_i 0) dJ0_isLatin1_aae02_7 fJ0_15 (hS.2.2 k hk).2.1 ?_
  refine jm_if_ne (pc := 10) 17 dJ0_isLatin1_aae02_10 rfl ⟨by decide, by decide⟩ (fun q => absurd rfl q) (fun _ => ?_)
  refine jm_iconst (pc := 13) dJ0_isLatin1_aae02_13 ?_
  refine jm_goto (pc := 14) 18 dJ0_isLatin1_aae02_14 rfl ?_
  exact jm_zret (pc := 18) dJ0_isLatin1_aae02_18 rfl (Or.inr rfl) h
theorem jm_recvS (hS : jm_HS g) {k : Nat} (hk : k < 3) (s : State) (H : Heap) (locs : List Loc) (hs : g.2.2.2.2 s) (hF : va_S (jm_A g) s.heap H locs) : ∃ cell : Cell, H[g.2.2.1 (1000 + k)]? = some cell ∧ cell.vm.isStatics = false ∧ s.vm.findClass "java/lang/String" = some cell.cls := by
  obtain ⟨cell, h1, h2, h3, -⟩ := ((hS.2.2 k hk).1 s hs).kept hF.2.1
  exact ⟨cell, h1, h2, h3⟩
theorem sJ0_length (hS : jm_HS g) {k : Nat} (hk : k < 3) (h : Q (some (jm_i (wln k))) mu) : jm_R l g (d + 1) iJ0_length_8abf5 [.ref (1000 + k)] mu Q := by
  have w9 := wln_b k
  refine jm_enter [(0, .ref (1000 + k))] (by decide) (Nat.le_of_ble_eq_true rfl) rfl ?_
  refine jm_aload_n (pc := 0) 0 dJ0_length_8abf5_0 rfl ?_
  refine jm_getS (pc := 1) (.ref (1003 + k)) dJ0_length_8abf5_1 fJ0_9 (hS.2.2 k hk).2.2.1 ?_
  refine jm_slen (pc := 4) (wln k : Int) dJ0_length_8abf5_4 (hS.2.2 k hk).2.2.2 rfl ?_
  refine jm_aload_n (pc := 5) 0 dJ0_length_8abf5_5 rfl ?_
  refine jm_callz (pc := 6) (As := []) (st := [jm_i (wln k)]) iJ0_coder_7d493 dJ0_length_8abf5_6 mJ0_335 (fun s H locs hs hF => jm_recvS hS hk s H locs hs hF) rfl rfl (by show (1 : Nat) ≤ 8; decide) (sJ0_coder (Q := fun r m => r = some (jm_i 0) ∧ m = mu) hS hk ⟨rfl, rfl⟩) (fun r m q => ?_)
  obtain ⟨rfl, qm⟩ := q
  rw [qm]
  refine jm_ishr (pc := 9) dJ0_length_8abf5_9 ?_
  have e : ∀ x : Fin 95, jm_shr (x.val : Int) 0 = x.val := by decide +kernel
  rw [show jm_shr (wln k : Int) 0 = (wln k : Int) from e ⟨wln k, by omega⟩]
  exact jm_iret (pc := 10) dJ0_length_8abf5_10 rfl h
theorem sJ0_charAt (hS : jm_HS g) {k x : Nat} (hk : k < 3) (hx : x < wln k) (h : Q (some (jm_i (wGl (wof k + x)))) mu) : jm_R l g (d + 3) iJ0_charAt_5068e [.ref (1000 + k), jm_i x] mu Q := by
  have w9 := wln_b k
  have sum : wof k + wln k = wS (wb k + wc k) := (w_tx ⟨k, hk⟩).2.2.1
  have se : wS (wb k + wc k) ≤ 143 := by
    have a : wb k + wc k ≤ 28 := (w_tx ⟨k, hk⟩).1
    have b := w_mono (28 - (wb k + wc k)) (wb k + wc k) (by omega)
    rw [show wb k + wc k + (28 - (wb k + wc k)) = 28 by omega] at b
    exact Nat.le_trans b (by decide)
  have ch := w_ch ⟨wof k + x, by show wof k + x < 143; omega⟩
  refine jm_enter [(0, .ref (1000 + k)), (1, jm_i x)] (by decide) (Nat.le_of_ble_eq_true rfl) rfl ?_
  refine jm_aload_n (pc := 0) 0 dJ0_charAt_5068e_0 rfl ?_
  refine jm_callz (pc := 1) (As := []) (st := []) iJ0_isLatin1_aae02 dJ0_charAt_5068e_1 mJ0_492 (fun s H locs hs hF => jm_recvS hS hk s H locs hs hF) rfl rfl (by decide) (sJ0_isLatin1 (Q := fun r m => r = some (jm_i 1) ∧ m = mu) hS hk ⟨rfl, rfl⟩) (fun r m q => ?_)
  obtain ⟨rfl, qm⟩ := q
  rw [qm]
  refine jm_if_eq (pc := 4) 16 dJ0_charAt_5068e_4 rfl ⟨by decide, by decide⟩ (fun q => absurd q (by decide)) (fun _ => ?_)
  refine jm_aload_n (pc := 7) 0 dJ0_charAt_5068e_7 rfl ?_
  refine jm_getS (pc := 8) (.ref (1003 + k)) dJ0_charAt_5068e_8 fJ0_9 (hS.2.2 k hk).2.2.1 ?_
  refine jm_iload_n (pc := 11) 1 dJ0_charAt_5068e_11 rfl ?_
  refine jm_calls (pc := 12) (As := [.ref (1003 + k), jm_i x]) (st := []) iJ1_charAt_3b067 dJ0_charAt_5068e_12 mJ0_495 rfl rfl (by decide) (sJ1_charAt (Q := fun r m => r = some (jm_i (wGl (wof k + x))) ∧ m = mu) hS hk hx ⟨rfl, rfl⟩) (fun r m q => ?_)
  obtain ⟨rfl, qm⟩ := q
  rw [qm]
  refine jm_tret (pc := 15) dJ0_charAt_5068e_15 rfl ?_ h
  show Value.int ((Int32.ofInt (wGl (wof k + x))).toUInt32 % 65536).toInt32 = _
  rw [ch.2]
  rfl
theorem jm_JSof (hS : jm_HS g) : jm_JS l g := fun k hk => ⟨fun d mu Q h => jm_R.up (sJ0_length (d := d) hS hk h) (by omega), fun d mu Q x hx h => jm_R.up (sJ0_charAt (d := d) hS hk hx h) (by omega)⟩
end SR
