theorem dX12_flatsNow_0 : decode cX12_flatsNow 0 = .ok (.aload_n 0, 1) := by decide +kernel
theorem dX12_flatsNow_1 : decode cX12_flatsNow 1 = .ok (.getfield 118, 3) := by decide +kernel
theorem dX12_flatsNow_4 : decode cX12_flatsNow 4 = .ok (.iconst 1, 1) := by decide +kernel
theorem dX12_flatsNow_5 : decode cX12_flatsNow 5 = .ok (.iadd, 1) := by decide +kernel
theorem dX12_flatsNow_6 : decode cX12_flatsNow 6 = .ok (.ireturn, 1) := by decide +kernel
theorem eX12_flatsNow {l : Launch} {g : jm_G} {d : Nat} (hg : jm_HR g) {mu : jm_M} {Q : Option Value → jm_M → Prop} (h : Q (some (jm_i ((mu.1 0 11) + 1))) mu) : jm_R l g (d + 1) iX12_flatsNow [.ref 0] mu Q := by
  refine jm_enter [(0, .ref 0)] (by decide) (Nat.le_of_ble_eq_true rfl) rfl ?_
  refine jm_mrI (fun hm0 => ?_)
  refine jm_aload_n (pc := 0) 0 dX12_flatsNow_0 rfl ?_
  refine jm_geti (pc := 1) 11 dX12_flatsNow_1 fX12_118 (cR0 hg) rfl ?_
  refine jm_iconst (pc := 4) dX12_flatsNow_4 ?_
  refine jm_iadd (pc := 5) dX12_flatsNow_5 ?_
  exact jm_iret (pc := 6) dX12_flatsNow_6 rfl h
theorem pX12_flatsNow {l : Launch} {g : jm_G} {d : Nat} (hg : jm_HR g) {mu : jm_M} {Q : Option Value → jm_M → Prop} (h : Q (some (jm_i ((mu.1 0 11) + 1))) mu) : jm_R l g (d + 1) iX12_flatsNow [.ref 0] mu Q := by
  refine eX12_flatsNow hg ?_
  exact h
theorem dX12_isWitness_0 : decode cX12_isWitness 0 = .ok (.iload_n 1, 1) := by decide +kernel
theorem dX12_isWitness_1 : decode cX12_isWitness 1 = .ok (.ifCond .lt 15, 3) := by decide +kernel
theorem dX12_isWitness_4 : decode cX12_isWitness 4 = .ok (.iload_n 1, 1) := by decide +kernel
theorem dX12_isWitness_5 : decode cX12_isWitness 5 = .ok (.aload_n 0, 1) := by decide +kernel
theorem dX12_isWitness_6 : decode cX12_isWitness 6 = .ok (.getfield 121, 3) := by decide +kernel
theorem dX12_isWitness_9 : decode cX12_isWitness 9 = .ok (.if_icmp .ge 7, 3) := by decide +kernel
theorem dX12_isWitness_12 : decode cX12_isWitness 12 = .ok (.iconst 1, 1) := by decide +kernel
theorem dX12_isWitness_13 : decode cX12_isWitness 13 = .ok (.goto 4, 3) := by decide +kernel
theorem dX12_isWitness_16 : decode cX12_isWitness 16 = .ok (.iconst 0, 1) := by decide +kernel
theorem dX12_isWitness_17 : decode cX12_isWitness 17 = .ok (.ireturn, 1) := by decide +kernel
theorem eX12_isWitness {l : Launch} {g : jm_G} {d : Nat} {v1 : Int} (hg : jm_HR g) {mu : jm_M} {Q : Option Value → jm_M → Prop} (h : jm_rg v1 ∧ (v1 < 0 → Q (some (jm_i 0)) mu) ∧ (0 ≤ v1 → ((mu.1 0 4) ≤ v1 → Q (some (jm_i 0)) mu) ∧ (v1 < (mu.1 0 4) → Q (some (jm_i 1)) mu))) : jm_R l g (d + 1) iX12_isWitness [.ref 0, jm_i v1] mu Q := by
  refine jm_enter [(0, .ref 0), (1, jm_i v1)] (by decide) (Nat.le_of_ble_eq_true rfl) rfl ?_
  refine jm_mrI (fun hm0 => ?_)
  refine jm_iload_n (pc := 0) 1 dX12_isWitness_0 rfl ?_
  have hg1 := h.1
  have h := h.2
  refine jm_if_lt (pc := 1) 16 dX12_isWitness_1 rfl hg1 (fun q => ?_) (fun q => ?_)
  · have h := h.1 q
    refine jm_iconst (pc := 16) dX12_isWitness_16 ?_
    exact jm_zret (pc := 17) dX12_isWitness_17 rfl (Or.inl rfl) h
  · have h := h.2 q
    refine jm_iload_n (pc := 4) 1 dX12_isWitness_4 rfl ?_
    refine jm_aload_n (pc := 5) 0 dX12_isWitness_5 rfl ?_
    refine jm_geti (pc := 6) 4 dX12_isWitness_6 fX12_121 (cR0 hg) rfl ?_
    refine jm_icmp_ge (pc := 9) 16 dX12_isWitness_9 rfl hg1 (hm0 _ _) (fun q => ?_) (fun q => ?_)
    · have h := h.1 q
      refine jm_iconst (pc := 16) dX12_isWitness_16 ?_
      exact jm_zret (pc := 17) dX12_isWitness_17 rfl (Or.inl rfl) h
    · have h := h.2 q
      refine jm_iconst (pc := 12) dX12_isWitness_12 ?_
      refine jm_goto (pc := 13) 17 dX12_isWitness_13 rfl ?_
      exact jm_zret (pc := 17) dX12_isWitness_17 rfl (Or.inr rfl) h
theorem pX12_isWitness {l : Launch} {g : jm_G} {d : Nat} {v1 : Int} (hg : jm_HR g) {mu : jm_M} {Q : Option Value → jm_M → Prop} (o0 : jm_rg v1) (h1 : 0 ≤ v1 ∧ v1 < (mu.1 0 4) → Q (some (jm_i 1)) mu) (h0 : ¬ (0 ≤ v1 ∧ v1 < (mu.1 0 4)) → Q (some (jm_i 0)) mu) : jm_R l g (d + 1) iX12_isWitness [.ref 0, jm_i v1] mu Q := by
  refine eX12_isWitness hg ?_
  refine ⟨o0, ?_⟩
  refine ⟨fun q0 => ?_, fun q0 => ?_⟩
  · exact h0 (by omega)
  · refine ⟨fun q1 => ?_, fun q1 => ?_⟩
    · exact h0 (by omega)
    · exact h1 (⟨q0, q1⟩)
theorem dX12_isFact_0 : decode cX12_isFact 0 = .ok (.iload_n 1, 1) := by decide +kernel
theorem dX12_isFact_1 : decode cX12_isFact 1 = .ok (.ifCond .lt 13, 3) := by decide +kernel
theorem dX12_isFact_4 : decode cX12_isFact 4 = .ok (.iload_n 1, 1) := by decide +kernel
theorem dX12_isFact_5 : decode cX12_isFact 5 = .ok (.bipush 6, 2) := by decide +kernel
theorem dX12_isFact_7 : decode cX12_isFact 7 = .ok (.if_icmp .ge 7, 3) := by decide +kernel
theorem dX12_isFact_10 : decode cX12_isFact 10 = .ok (.iconst 1, 1) := by decide +kernel
theorem dX12_isFact_11 : decode cX12_isFact 11 = .ok (.goto 4, 3) := by decide +kernel
theorem dX12_isFact_14 : decode cX12_isFact 14 = .ok (.iconst 0, 1) := by decide +kernel
theorem dX12_isFact_15 : decode cX12_isFact 15 = .ok (.ireturn, 1) := by decide +kernel
theorem eX12_isFact {l : Launch} {g : jm_G} {d : Nat} {v1 : Int} (hg : jm_HR g) {mu : jm_M} {Q : Option Value → jm_M → Prop} (h : jm_rg v1 ∧ (v1 < 0 → Q (some (jm_i 0)) mu) ∧ (0 ≤ v1 → (6 ≤ v1 → Q (some (jm_i 0)) mu) ∧ (v1 < 6 → Q (some (jm_i 1)) mu))) : jm_R l g (d + 1) iX12_isFact [.ref 0, jm_i v1] mu Q := by
  refine jm_enter [(0, .ref 0), (1, jm_i v1)] (by decide) (Nat.le_of_ble_eq_true rfl) rfl ?_
  refine jm_mrI (fun hm0 => ?_)
  refine jm_iload_n (pc := 0) 1 dX12_isFact_0 rfl ?_
  have hg1 := h.1
  have h := h.2
  refine jm_if_lt (pc := 1) 14 dX12_isFact_1 rfl hg1 (fun q => ?_) (fun q => ?_)
  · have h := h.1 q
    refine jm_iconst (pc := 14) dX12_isFact_14 ?_
    exact jm_zret (pc := 15) dX12_isFact_15 rfl (Or.inl rfl) h
  · have h := h.2 q
    refine jm_iload_n (pc := 4) 1 dX12_isFact_4 rfl ?_
    refine jm_bipush (pc := 5) dX12_isFact_5 (by decide) ?_
    refine jm_icmp_ge (pc := 7) 14 dX12_isFact_7 rfl hg1 ⟨by decide, by decide⟩ (fun q => ?_) (fun q => ?_)
    · have h := h.1 q
      refine jm_iconst (pc := 14) dX12_isFact_14 ?_
      exact jm_zret (pc := 15) dX12_isFact_15 rfl (Or.inl rfl) h
    · have h := h.2 q
      refine jm_iconst (pc := 10) dX12_isFact_10 ?_
      refine jm_goto (pc := 11) 15 dX12_isFact_11 rfl ?_
      exact jm_zret (pc := 15) dX12_isFact_15 rfl (Or.inr rfl) h
theorem pX12_isFact {l : Launch} {g : jm_G} {d : Nat} {v1 : Int} (hg : jm_HR g) {mu : jm_M} {Q : Option Value → jm_M → Prop} (o0 : jm_rg v1) (h1 : 0 ≤ v1 ∧ v1 < 6 → Q (some (jm_i 1)) mu) (h0 : ¬ (0 ≤ v1 ∧ v1 < 6) → Q (some (jm_i 0)) mu) : jm_R l g (d + 1) iX12_isFact [.ref 0, jm_i v1] mu Q := by
  refine eX12_isFact hg ?_
  refine ⟨o0, ?_⟩
  refine ⟨fun q0 => ?_, fun q0 => ?_⟩
  · exact h0 (by omega)
  · refine ⟨fun q1 => ?_, fun q1 => ?_⟩
    · exact h0 (by omega)
    · exact h1 (⟨q0, q1⟩)
theorem dX12_nerveOf_0 : decode cX12_nerveOf 0 = .ok (.aload_n 0, 1) := by decide +kernel
theorem dX12_nerveOf_1 : decode cX12_nerveOf 1 = .ok (.getfield 7, 3) := by decide +kernel
theorem dX12_nerveOf_4 : decode cX12_nerveOf 4 = .ok (.bipush 6, 2) := by decide +kernel
theorem dX12_nerveOf_6 : decode cX12_nerveOf 6 = .ok (.iload_n 1, 1) := by decide +kernel
theorem dX12_nerveOf_7 : decode cX12_nerveOf 7 = .ok (.iadd, 1) := by decide +kernel
theorem dX12_nerveOf_8 : decode cX12_nerveOf 8 = .ok (.iaload, 1) := by decide +kernel
theorem dX12_nerveOf_9 : decode cX12_nerveOf 9 = .ok (.bipush 50, 2) := by decide +kernel
theorem dX12_nerveOf_11 : decode cX12_nerveOf 11 = .ok (.iadd, 1) := by decide +kernel
theorem dX12_nerveOf_12 : decode cX12_nerveOf 12 = .ok (.ireturn, 1) := by decide +kernel
theorem eX12_nerveOf {l : Launch} {g : jm_G} {d : Nat} {v1 : Int} (hg : jm_HR g) {mu : jm_M} {Q : Option Value → jm_M → Prop} (h : (0 ≤ (6 + v1) ∧ (6 + v1) < 22) ∧ Q (some (jm_i ((mu.1 1 (6 + v1)) + 50))) mu) : jm_R l g (d + 1) iX12_nerveOf [.ref 0, jm_i v1] mu Q := by
  refine jm_enter [(0, .ref 0), (1, jm_i v1)] (by decide) (Nat.le_of_ble_eq_true rfl) rfl ?_
  refine jm_mrI (fun hm0 => ?_)
  refine jm_aload_n (pc := 0) 0 dX12_nerveOf_0 rfl ?_
  refine jm_getr (pc := 1) 1 dX12_nerveOf_1 fX12_7 (cR0 hg) rfl ?_
  refine jm_bipush (pc := 4) dX12_nerveOf_4 (by decide) ?_
  refine jm_iload_n (pc := 6) 1 dX12_nerveOf_6 rfl ?_
  refine jm_iadd (pc := 7) dX12_nerveOf_7 ?_
  have hg1 := h.1
  have h := h.2
  refine jm_iald (pc := 8) dX12_nerveOf_8 (cR1 hg) (by decide) hg1.1 hg1.2 ?_
  refine jm_bipush (pc := 9) dX12_nerveOf_9 (by decide) ?_
  refine jm_iadd (pc := 11) dX12_nerveOf_11 ?_
  exact jm_iret (pc := 12) dX12_nerveOf_12 rfl h
theorem pX12_nerveOf {l : Launch} {g : jm_G} {d : Nat} {v1 : Int} (hg : jm_HR g) {mu : jm_M} {Q : Option Value → jm_M → Prop} (o0 : 0 ≤ (6 + v1) ∧ (6 + v1) < 22) (h : Q (some (jm_i ((mu.1 1 (6 + v1)) + 50))) mu) : jm_R l g (d + 1) iX12_nerveOf [.ref 0, jm_i v1] mu Q := by
  refine eX12_nerveOf hg ?_
  refine ⟨o0, ?_⟩
  exact h
theorem dX12_nerveBe_0 : decode cX12_nerveBe 0 = .ok (.aload_n 0, 1) := by decide +kernel
theorem dX12_nerveBe_1 : decode cX12_nerveBe 1 = .ok (.getfield 7, 3) := by decide +kernel
theorem dX12_nerveBe_4 : decode cX12_nerveBe 4 = .ok (.bipush 6, 2) := by decide +kernel
theorem dX12_nerveBe_6 : decode cX12_nerveBe 6 = .ok (.iload_n 1, 1) := by decide +kernel
theorem dX12_nerveBe_7 : decode cX12_nerveBe 7 = .ok (.iadd, 1) := by decide +kernel
theorem dX12_nerveBe_8 : decode cX12_nerveBe 8 = .ok (.aload_n 0, 1) := by decide +kernel
theorem dX12_nerveBe_9 : decode cX12_nerveBe 9 = .ok (.iload_n 2, 1) := by decide +kernel
theorem dX12_nerveBe_10 : decode cX12_nerveBe 10 = .ok (.iconst 0, 1) := by decide +kernel
theorem dX12_nerveBe_11 : decode cX12_nerveBe 11 = .ok (.bipush 99, 2) := by decide +kernel
theorem dX12_nerveBe_13 : decode cX12_nerveBe 13 = .ok (.invokevirtual 124, 3) := by decide +kernel
theorem dX12_nerveBe_16 : decode cX12_nerveBe 16 = .ok (.bipush 50, 2) := by decide +kernel
theorem dX12_nerveBe_18 : decode cX12_nerveBe 18 = .ok (.isub, 1) := by decide +kernel
theorem dX12_nerveBe_19 : decode cX12_nerveBe 19 = .ok (.iastore, 1) := by decide +kernel
theorem dX12_nerveBe_20 : decode cX12_nerveBe 20 = .ok (.return_, 1) := by decide +kernel
theorem eX12_nerveBe {l : Launch} {g : jm_G} {d : Nat} {v1 v2 : Int} (hg : jm_HR g) {mu : jm_M} {Q : Option Value → jm_M → Prop} (h : jm_R l g d iX12_held [.ref 0, jm_i v2, jm_i 0, jm_i 99] mu (jm_qi fun z2 m1 => (0 ≤ (6 + v1) ∧ (6 + v1) < 22) ∧ jm_rg (z2 - 50) ∧ ∀ m7, m7 = jm_wr m1 1 (6 + v1) (z2 - 50) → Q none m7)) : jm_R l g (d + 1) iX12_nerveBe [.ref 0, jm_i v1, jm_i v2] mu Q := by
  refine jm_enter [(0, .ref 0), (1, jm_i v1), (2, jm_i v2)] (by decide) (Nat.le_of_ble_eq_true rfl) rfl ?_
  refine jm_mrI (fun hm0 => ?_)
  refine jm_aload_n (pc := 0) 0 dX12_nerveBe_0 rfl ?_
  refine jm_getr (pc := 1) 1 dX12_nerveBe_1 fX12_7 (cR0 hg) rfl ?_
  refine jm_bipush (pc := 4) dX12_nerveBe_4 (by decide) ?_
  refine jm_iload_n (pc := 6) 1 dX12_nerveBe_6 rfl ?_
  refine jm_iadd (pc := 7) dX12_nerveBe_7 ?_
  refine jm_aload_n (pc := 8) 0 dX12_nerveBe_8 rfl ?_
  refine jm_iload_n (pc := 9) 2 dX12_nerveBe_9 rfl ?_
  refine jm_iconst (pc := 10) dX12_nerveBe_10 ?_
  refine jm_bipush (pc := 11) dX12_nerveBe_11 (by decide) ?_
  refine jm_callvi (pc := 13) (As := [_, _, _]) (st := [_, _]) iX12_held dX12_nerveBe_13 mX12_124 (cR0 hg) ⟨_, rfl, rfl⟩ rfl rfl (Nat.le_of_ble_eq_true rfl) h (fun z2 m1 hz3 h hm4 => ?_)
  refine jm_bipush (pc := 16) dX12_nerveBe_16 (by decide) ?_
  refine jm_isub (pc := 18) dX12_nerveBe_18 ?_
  have hg5 := h.1
  have h := h.2
  have hg6 := h.1
  have h := h.2
  refine jm_iast (pc := 19) dX12_nerveBe_19 (cR1 hg) (by decide) hg5.1 hg5.2 hg6 ?_
  have h := h _ rfl
  refine jm_mrI (fun hm8 => ?_)
  exact jm_vret (pc := 20) dX12_nerveBe_20 rfl h
theorem dX12_claimOf_0 : decode cX12_claimOf 0 = .ok (.aload_n 0, 1) := by decide +kernel
theorem dX12_claimOf_1 : decode cX12_claimOf 1 = .ok (.getfield 25, 3) := by decide +kernel
theorem dX12_claimOf_4 : decode cX12_claimOf 4 = .ok (.bipush 6, 2) := by decide +kernel
theorem dX12_claimOf_6 : decode cX12_claimOf 6 = .ok (.iload_n 1, 1) := by decide +kernel
theorem dX12_claimOf_7 : decode cX12_claimOf 7 = .ok (.imul, 1) := by decide +kernel
theorem dX12_claimOf_8 : decode cX12_claimOf 8 = .ok (.iload_n 2, 1) := by decide +kernel
theorem dX12_claimOf_9 : decode cX12_claimOf 9 = .ok (.iadd, 1) := by decide +kernel
theorem dX12_claimOf_10 : decode cX12_claimOf 10 = .ok (.iaload, 1) := by decide +kernel
theorem dX12_claimOf_11 : decode cX12_claimOf 11 = .ok (.iconst 1, 1) := by decide +kernel
theorem dX12_claimOf_12 : decode cX12_claimOf 12 = .ok (.isub, 1) := by decide +kernel
theorem dX12_claimOf_13 : decode cX12_claimOf 13 = .ok (.ireturn, 1) := by decide +kernel
theorem eX12_claimOf {l : Launch} {g : jm_G} {d : Nat} {v1 v2 : Int} (hg : jm_HR g) {mu : jm_M} {Q : Option Value → jm_M → Prop} (h : (0 ≤ ((6 * v1) + v2) ∧ ((6 * v1) + v2) < 48) ∧ Q (some (jm_i ((mu.1 6 ((6 * v1) + v2)) - 1))) mu) : jm_R l g (d + 1) iX12_claimOf [.ref 0, jm_i v1, jm_i v2] mu Q := by
  refine jm_enter [(0, .ref 0), (1, jm_i v1), (2, jm_i v2)] (by decide) (Nat.le_of_ble_eq_true rfl) rfl ?_
  refine jm_mrI (fun hm0 => ?_)
  refine jm_aload_n (pc := 0) 0 dX12_claimOf_0 rfl ?_
  refine jm_getr (pc := 1) 8 dX12_claimOf_1 fX12_25 (cR0 hg) rfl ?_
  refine jm_bipush (pc := 4) dX12_claimOf_4 (by decide) ?_
  refine jm_iload_n (pc := 6) 1 dX12_claimOf_6 rfl ?_
  refine jm_imul (pc := 7) dX12_claimOf_7 ?_
  refine jm_iload_n (pc := 8) 2 dX12_claimOf_8 rfl ?_
  refine jm_iadd (pc := 9) dX12_claimOf_9 ?_
  have hg1 := h.1
  have h := h.2
  refine jm_iald (pc := 10) dX12_claimOf_10 (cR6 hg) (by decide) hg1.1 hg1.2 ?_
  refine jm_iconst (pc := 11) dX12_claimOf_11 ?_
  refine jm_isub (pc := 12) dX12_claimOf_12 ?_
  exact jm_iret (pc := 13) dX12_claimOf_13 rfl h
theorem pX12_claimOf {l : Launch} {g : jm_G} {d : Nat} {v1 v2 : Int} (hg : jm_HR g) {mu : jm_M} {Q : Option Value → jm_M → Prop} (o0 : 0 ≤ ((6 * v1) + v2) ∧ ((6 * v1) + v2) < 48) (h : Q (some (jm_i ((mu.1 6 ((6 * v1) + v2)) - 1))) mu) : jm_R l g (d + 1) iX12_claimOf [.ref 0, jm_i v1, jm_i v2] mu Q := by
  refine eX12_claimOf hg ?_
  refine ⟨o0, ?_⟩
  exact h
theorem dX12_witness_0 : decode cX12_witness 0 = .ok (.aload_n 0, 1) := by decide +kernel
theorem dX12_witness_1 : decode cX12_witness 1 = .ok (.iconst 0, 1) := by decide +kernel
theorem dX12_witness_2 : decode cX12_witness 2 = .ok (.putfield 104, 3) := by decide +kernel
theorem dX12_witness_5 : decode cX12_witness 5 = .ok (.aload_n 0, 1) := by decide +kernel
theorem dX12_witness_6 : decode cX12_witness 6 = .ok (.iload_n 1, 1) := by decide +kernel
theorem dX12_witness_7 : decode cX12_witness 7 = .ok (.iconst 1, 1) := by decide +kernel
theorem dX12_witness_8 : decode cX12_witness 8 = .ok (.bipush 60, 2) := by decide +kernel
theorem dX12_witness_10 : decode cX12_witness 10 = .ok (.invokevirtual 128, 3) := by decide +kernel
theorem dX12_witness_13 : decode cX12_witness 13 = .ok (.ifCond .eq 34, 3) := by decide +kernel
theorem dX12_witness_16 : decode cX12_witness 16 = .ok (.aload_n 0, 1) := by decide +kernel
theorem dX12_witness_17 : decode cX12_witness 17 = .ok (.iload_n 2, 1) := by decide +kernel
theorem dX12_witness_18 : decode cX12_witness 18 = .ok (.iload_n 1, 1) := by decide +kernel
theorem dX12_witness_19 : decode cX12_witness 19 = .ok (.bipush 60, 2) := by decide +kernel
theorem dX12_witness_21 : decode cX12_witness 21 = .ok (.invokevirtual 128, 3) := by decide +kernel
theorem dX12_witness_24 : decode cX12_witness 24 = .ok (.ifCond .eq 23, 3) := by decide +kernel
theorem dX12_witness_27 : decode cX12_witness 27 = .ok (.aload_n 0, 1) := by decide +kernel
theorem dX12_witness_28 : decode cX12_witness 28 = .ok (.iload_n 3, 1) := by decide +kernel
theorem dX12_witness_29 : decode cX12_witness 29 = .ok (.iconst 1, 1) := by decide +kernel
theorem dX12_witness_30 : decode cX12_witness 30 = .ok (.bipush 9, 2) := by decide +kernel
theorem dX12_witness_32 : decode cX12_witness 32 = .ok (.invokevirtual 128, 3) := by decide +kernel
theorem dX12_witness_35 : decode cX12_witness 35 = .ok (.ifCond .eq 12, 3) := by decide +kernel
theorem dX12_witness_38 : decode cX12_witness 38 = .ok (.aload_n 0, 1) := by decide +kernel
theorem dX12_witness_39 : decode cX12_witness 39 = .ok (.getfield 121, 3) := by decide +kernel
theorem dX12_witness_42 : decode cX12_witness 42 = .ok (.bipush 8, 2) := by decide +kernel
theorem dX12_witness_44 : decode cX12_witness 44 = .ok (.if_icmp .ne 5, 3) := by decide +kernel
theorem dX12_witness_47 : decode cX12_witness 47 = .ok (.iconst (-1), 1) := by decide +kernel
theorem dX12_witness_48 : decode cX12_witness 48 = .ok (.ireturn, 1) := by decide +kernel
theorem dX12_witness_49 : decode cX12_witness 49 = .ok (.aload_n 0, 1) := by decide +kernel
theorem dX12_witness_50 : decode cX12_witness 50 = .ok (.getfield 121, 3) := by decide +kernel
theorem dX12_witness_53 : decode cX12_witness 53 = .ok (.istore 4, 2) := by decide +kernel
theorem dX12_witness_55 : decode cX12_witness 55 = .ok (.aload_n 0, 1) := by decide +kernel
theorem dX12_witness_56 : decode cX12_witness 56 = .ok (.getfield 16, 3) := by decide +kernel
theorem dX12_witness_59 : decode cX12_witness 59 = .ok (.iload 4, 2) := by decide +kernel
theorem dX12_witness_61 : decode cX12_witness 61 = .ok (.iload_n 1, 1) := by decide +kernel
theorem dX12_witness_62 : decode cX12_witness 62 = .ok (.iastore, 1) := by decide +kernel
theorem dX12_witness_63 : decode cX12_witness 63 = .ok (.aload_n 0, 1) := by decide +kernel
theorem dX12_witness_64 : decode cX12_witness 64 = .ok (.getfield 19, 3) := by decide +kernel
theorem dX12_witness_67 : decode cX12_witness 67 = .ok (.iload 4, 2) := by decide +kernel
theorem dX12_witness_69 : decode cX12_witness 69 = .ok (.iload_n 2, 1) := by decide +kernel
theorem dX12_witness_70 : decode cX12_witness 70 = .ok (.iastore, 1) := by decide +kernel
theorem dX12_witness_71 : decode cX12_witness 71 = .ok (.aload_n 0, 1) := by decide +kernel
theorem dX12_witness_72 : decode cX12_witness 72 = .ok (.getfield 22, 3) := by decide +kernel
theorem dX12_witness_75 : decode cX12_witness 75 = .ok (.iload 4, 2) := by decide +kernel
theorem dX12_witness_77 : decode cX12_witness 77 = .ok (.iload_n 3, 1) := by decide +kernel
theorem dX12_witness_78 : decode cX12_witness 78 = .ok (.iastore, 1) := by decide +kernel
theorem dX12_witness_79 : decode cX12_witness 79 = .ok (.aload_n 0, 1) := by decide +kernel
theorem dX12_witness_80 : decode cX12_witness 80 = .ok (.getfield 7, 3) := by decide +kernel
theorem dX12_witness_83 : decode cX12_witness 83 = .ok (.bipush 6, 2) := by decide +kernel
theorem dX12_witness_85 : decode cX12_witness 85 = .ok (.iload 4, 2) := by decide +kernel
theorem dX12_witness_87 : decode cX12_witness 87 = .ok (.iadd, 1) := by decide +kernel
theorem dX12_witness_88 : decode cX12_witness 88 = .ok (.iconst 0, 1) := by decide +kernel
theorem dX12_witness_89 : decode cX12_witness 89 = .ok (.iastore, 1) := by decide +kernel
theorem dX12_witness_90 : decode cX12_witness 90 = .ok (.aload_n 0, 1) := by decide +kernel
theorem dX12_witness_91 : decode cX12_witness 91 = .ok (.getfield 7, 3) := by decide +kernel
theorem dX12_witness_94 : decode cX12_witness 94 = .ok (.bipush 14, 2) := by decide +kernel
theorem dX12_witness_96 : decode cX12_witness 96 = .ok (.iload 4, 2) := by decide +kernel
theorem dX12_witness_98 : decode cX12_witness 98 = .ok (.iadd, 1) := by decide +kernel
theorem dX12_witness_99 : decode cX12_witness 99 = .ok (.iconst 0, 1) := by decide +kernel
theorem dX12_witness_100 : decode cX12_witness 100 = .ok (.iastore, 1) := by decide +kernel
theorem dX12_witness_101 : decode cX12_witness 101 = .ok (.iconst 0, 1) := by decide +kernel
theorem dX12_witness_102 : decode cX12_witness 102 = .ok (.istore 5, 2) := by decide +kernel
theorem dX12_witness_104 : decode cX12_witness 104 = .ok (.iload 5, 2) := by decide +kernel
theorem dX12_witness_106 : decode cX12_witness 106 = .ok (.bipush 6, 2) := by decide +kernel
theorem dX12_witness_108 : decode cX12_witness 108 = .ok (.if_icmp .ge 23, 3) := by decide +kernel
theorem dX12_witness_111 : decode cX12_witness 111 = .ok (.aload_n 0, 1) := by decide +kernel
theorem dX12_witness_112 : decode cX12_witness 112 = .ok (.getfield 25, 3) := by decide +kernel
theorem dX12_witness_115 : decode cX12_witness 115 = .ok (.bipush 6, 2) := by decide +kernel
theorem dX12_witness_117 : decode cX12_witness 117 = .ok (.iload 4, 2) := by decide +kernel
theorem dX12_witness_119 : decode cX12_witness 119 = .ok (.imul, 1) := by decide +kernel
theorem dX12_witness_120 : decode cX12_witness 120 = .ok (.iload 5, 2) := by decide +kernel
theorem dX12_witness_122 : decode cX12_witness 122 = .ok (.iadd, 1) := by decide +kernel
theorem dX12_witness_123 : decode cX12_witness 123 = .ok (.iconst 0, 1) := by decide +kernel
theorem dX12_witness_124 : decode cX12_witness 124 = .ok (.iastore, 1) := by decide +kernel
theorem dX12_witness_125 : decode cX12_witness 125 = .ok (.iinc 5 1, 3) := by decide +kernel
theorem dX12_witness_128 : decode cX12_witness 128 = .ok (.goto (-24), 3) := by decide +kernel
theorem dX12_witness_131 : decode cX12_witness 131 = .ok (.aload_n 0, 1) := by decide +kernel
theorem dX12_witness_132 : decode cX12_witness 132 = .ok (.aload_n 0, 1) := by decide +kernel
theorem dX12_witness_133 : decode cX12_witness 133 = .ok (.getfield 121, 3) := by decide +kernel
theorem dX12_witness_136 : decode cX12_witness 136 = .ok (.iconst 1, 1) := by decide +kernel
theorem dX12_witness_137 : decode cX12_witness 137 = .ok (.iadd, 1) := by decide +kernel
theorem dX12_witness_138 : decode cX12_witness 138 = .ok (.putfield 121, 3) := by decide +kernel
theorem dX12_witness_141 : decode cX12_witness 141 = .ok (.aload_n 0, 1) := by decide +kernel
theorem dX12_witness_142 : decode cX12_witness 142 = .ok (.iconst 0, 1) := by decide +kernel
theorem dX12_witness_143 : decode cX12_witness 143 = .ok (.putfield 107, 3) := by decide +kernel
theorem dX12_witness_146 : decode cX12_witness 146 = .ok (.iload 4, 2) := by decide +kernel
theorem dX12_witness_148 : decode cX12_witness 148 = .ok (.ireturn, 1) := by decide +kernel
theorem bX12_witness_104 {l : Launch} {g : jm_G} {d : Nat} {v4 v5 : Int} (hg : jm_HR g) {mu : jm_M} {Q : Option Value → jm_M → Prop} (h : jm_rg v5 ∧ (6 ≤ v5 → jm_rg ((mu.1 0 4) + 1) ∧ ∀ m3, m3 = jm_wr mu 0 4 ((mu.1 0 4) + 1) → ∀ m5, m5 = jm_wr m3 0 3 0 → Q (some (jm_i v4)) m5) ∧ (v5 < 6 → (0 ≤ ((6 * v4) + v5) ∧ ((6 * v4) + v5) < 48) ∧ ∀ m8, m8 = jm_wr mu 6 ((6 * v4) + v5) 0 → jm_V l g (d + 2) iX12_witness 104 [(0, .ref 0), (4, jm_i v4), (5, jm_i (v5 + 1))] [] m8 Q)) : jm_V l g (d + 2) iX12_witness 104 [(0, .ref 0), (4, jm_i v4), (5, jm_i v5)] [] mu Q := by
  refine jm_mrI (fun hm0 => ?_)
  refine jm_iload (pc := 104) 2 dX12_witness_104 rfl ?_
  refine jm_bipush (pc := 106) dX12_witness_106 (by decide) ?_
  have hg1 := h.1
  have h := h.2
  refine jm_icmp_ge (pc := 108) 131 dX12_witness_108 rfl hg1 ⟨by decide, by decide⟩ (fun q => ?_) (fun q => ?_)
  · have h := h.1 q
    refine jm_aload_n (pc := 131) 0 dX12_witness_131 rfl ?_
    refine jm_aload_n (pc := 132) 0 dX12_witness_132 rfl ?_
    refine jm_geti (pc := 133) 4 dX12_witness_133 fX12_121 (cR0 hg) rfl ?_
    refine jm_iconst (pc := 136) dX12_witness_136 ?_
    refine jm_iadd (pc := 137) dX12_witness_137 ?_
    have hg2 := h.1
    have h := h.2
    refine jm_put (pc := 138) 4 dX12_witness_138 fX12_121 ftX12 (fun q h => by cases h; rfl) (jm_nI _) (jm_fI _) (cR0 hg) rfl hg2 ?_
    have h := h _ rfl
    refine jm_mrI (fun hm4 => ?_)
    refine jm_aload_n (pc := 141) 0 dX12_witness_141 rfl ?_
    refine jm_iconst (pc := 142) dX12_witness_142 ?_
    refine jm_put (pc := 143) 3 dX12_witness_143 fX12_107 ftX12 (fun q h => by cases h; rfl) (jm_nI _) (jm_fI _) (cR0 hg) rfl ⟨by decide, by decide⟩ ?_
    have h := h _ rfl
    refine jm_mrI (fun hm6 => ?_)
    refine jm_iload (pc := 146) 1 dX12_witness_146 rfl ?_
    exact jm_iret (pc := 148) dX12_witness_148 rfl h
  · have h := h.2 q
    refine jm_aload_n (pc := 111) 0 dX12_witness_111 rfl ?_
    refine jm_getr (pc := 112) 8 dX12_witness_112 fX12_25 (cR0 hg) rfl ?_
    refine jm_bipush (pc := 115) dX12_witness_115 (by decide) ?_
    refine jm_iload (pc := 117) 1 dX12_witness_117 rfl ?_
    refine jm_imul (pc := 119) dX12_witness_119 ?_
    refine jm_iload (pc := 120) 2 dX12_witness_120 rfl ?_
    refine jm_iadd (pc := 122) dX12_witness_122 ?_
    refine jm_iconst (pc := 123) dX12_witness_123 ?_
    have hg7 := h.1
    have h := h.2
    refine jm_iast (pc := 124) dX12_witness_124 (cR6 hg) (by decide) hg7.1 hg7.2 ⟨by decide, by decide⟩ ?_
    have h := h _ rfl
    refine jm_mrI (fun hm9 => ?_)
    refine jm_iinc (pc := 125) (lv' := [(5, _), (0, _), (4, _)]) 2 dX12_witness_125 rfl (by decide) rfl ?_
    refine jm_goto (pc := 128) 104 dX12_witness_128 rfl ?_
    exact jm_sub [1, 2, 0] rfl h
theorem eX12_witness {l : Launch} {g : jm_G} {d : Nat} {v1 v2 v3 : Int} (hg : jm_HR g) {mu : jm_M} {Q : Option Value → jm_M → Prop} (h : ∀ m1, m1 = jm_wr mu 0 0 0 → jm_rg v1 ∧ (1 ≤ v1 ∧ v1 ≤ 60 → jm_rg v2 ∧ (v1 ≤ v2 ∧ v2 ≤ 60 → jm_rg v3 ∧ (1 ≤ v3 ∧ v3 ≤ 9 → (¬ (m1.1 0 4) = 8 → ∀ x6, x6 = (m1.1 0 4) → (0 ≤ x6 ∧ x6 < 8) ∧ ∀ m8, m8 = jm_wr m1 3 x6 v1 → ∀ m10, m10 = jm_wr m8 4 x6 v2 → ∀ m12, m12 = jm_wr m10 5 x6 v3 → (0 ≤ (6 + x6) ∧ (6 + x6) < 22) ∧ ∀ m15, m15 = jm_wr m12 1 (6 + x6) 0 → (0 ≤ (14 + x6) ∧ (14 + x6) < 22) ∧ ∀ m18, m18 = jm_wr m15 1 (14 + x6) 0 → jm_V l g (d + 2) iX12_witness 104 [(0, .ref 0), (4, jm_i x6), (5, jm_i 0)] [] m18 Q) ∧ ((m1.1 0 4) = 8 → Q (some (jm_i (-1))) m1)) ∧ (¬ (1 ≤ v3 ∧ v3 ≤ 9) → Q (some (jm_i (-1))) m1)) ∧ (¬ (v1 ≤ v2 ∧ v2 ≤ 60) → Q (some (jm_i (-1))) m1)) ∧ (¬ (1 ≤ v1 ∧ v1 ≤ 60) → Q (some (jm_i (-1))) m1)) : jm_R l g (d + 2) iX12_witness [.ref 0, jm_i v1, jm_i v2, jm_i v3] mu Q := by
  refine jm_enter [(0, .ref 0), (1, jm_i v1), (2, jm_i v2), (3, jm_i v3)] (by decide) (Nat.le_of_ble_eq_true rfl) rfl ?_
  refine jm_mrI (fun hm0 => ?_)
  refine jm_aload_n (pc := 0) 0 dX12_witness_0 rfl ?_
  refine jm_iconst (pc := 1) dX12_witness_1 ?_
  refine jm_put (pc := 2) 0 dX12_witness_2 fX12_104 ftX12 (fun q h => by cases h; rfl) (jm_nI _) (jm_fI _) (cR0 hg) rfl ⟨by decide, by decide⟩ ?_
  have h := h _ rfl
  refine jm_mrI (fun hm2 => ?_)
  refine jm_aload_n (pc := 5) 0 dX12_witness_5 rfl ?_
  refine jm_iload_n (pc := 6) 1 dX12_witness_6 rfl ?_
  refine jm_iconst (pc := 7) dX12_witness_7 ?_
  refine jm_bipush (pc := 8) dX12_witness_8 (by decide) ?_
  have hg3 := h.1
  have h := h.2
  refine jm_inlvi (pc := 10) (As := [_, _, _]) (st := []) iX12_isIn dX12_witness_10 mX12_128 (cR0 hg) ⟨_, rfl, rfl⟩ rfl rfl (Nat.le_of_ble_eq_true rfl) (pX12_isIn hg hg3 ⟨by decide, by decide⟩ ⟨by decide, by decide⟩ (fun q => jm_kIi ?_) (fun q => jm_kIi ?_))
  · have h := h.1 q
    refine jm_if_eq (pc := 13) 47 dX12_witness_13 rfl ⟨by decide, by decide⟩ (fun q => absurd q (by decide)) (fun q => ?_)
    refine jm_aload_n (pc := 16) 0 dX12_witness_16 rfl ?_
    refine jm_iload_n (pc := 17) 2 dX12_witness_17 rfl ?_
    refine jm_iload_n (pc := 18) 1 dX12_witness_18 rfl ?_
    refine jm_bipush (pc := 19) dX12_witness_19 (by decide) ?_
    have hg4 := h.1
    have h := h.2
    refine jm_inlvi (pc := 21) (As := [_, _, _]) (st := []) iX12_isIn dX12_witness_21 mX12_128 (cR0 hg) ⟨_, rfl, rfl⟩ rfl rfl (Nat.le_of_ble_eq_true rfl) (pX12_isIn hg hg4 hg3 ⟨by decide, by decide⟩ (fun q => jm_kIi ?_) (fun q => jm_kIi ?_))
    · have h := h.1 q
      refine jm_if_eq (pc := 24) 47 dX12_witness_24 rfl ⟨by decide, by decide⟩ (fun q => absurd q (by decide)) (fun q => ?_)
      refine jm_aload_n (pc := 27) 0 dX12_witness_27 rfl ?_
      refine jm_iload_n (pc := 28) 3 dX12_witness_28 rfl ?_
      refine jm_iconst (pc := 29) dX12_witness_29 ?_
      refine jm_bipush (pc := 30) dX12_witness_30 (by decide) ?_
      have hg5 := h.1
      have h := h.2
      refine jm_inlvi (pc := 32) (As := [_, _, _]) (st := []) iX12_isIn dX12_witness_32 mX12_128 (cR0 hg) ⟨_, rfl, rfl⟩ rfl rfl (Nat.le_of_ble_eq_true rfl) (pX12_isIn hg hg5 ⟨by decide, by decide⟩ ⟨by decide, by decide⟩ (fun q => jm_kIi ?_) (fun q => jm_kIi ?_))
      · have h := h.1 q
        refine jm_if_eq (pc := 35) 47 dX12_witness_35 rfl ⟨by decide, by decide⟩ (fun q => absurd q (by decide)) (fun q => ?_)
        refine jm_aload_n (pc := 38) 0 dX12_witness_38 rfl ?_
        refine jm_geti (pc := 39) 4 dX12_witness_39 fX12_121 (cR0 hg) rfl ?_
        refine jm_bipush (pc := 42) dX12_witness_42 (by decide) ?_
        refine jm_icmp_ne (pc := 44) 49 dX12_witness_44 rfl (hm2 _ _) ⟨by decide, by decide⟩ (fun q => ?_) (fun q => ?_)
        · have h := h.1 q
          refine jm_aload_n (pc := 49) 0 dX12_witness_49 rfl ?_
          refine jm_geti (pc := 50) 4 dX12_witness_50 fX12_121 (cR0 hg) rfl ?_
          have h := h _ rfl
          refine jm_istore (pc := 53) (lv' := [(4, _), (0, _), (1, _), (2, _), (3, _)]) dX12_witness_53 (by decide) rfl ?_
          refine jm_aload_n (pc := 55) 1 dX12_witness_55 rfl ?_
          refine jm_getr (pc := 56) 5 dX12_witness_56 fX12_16 (cR0 hg) rfl ?_
          refine jm_iload (pc := 59) 0 dX12_witness_59 rfl ?_
          refine jm_iload_n (pc := 61) 2 dX12_witness_61 rfl ?_
          have hg7 := h.1
          have h := h.2
          refine jm_iast (pc := 62) dX12_witness_62 (cR3 hg) (by decide) hg7.1 hg7.2 hg3 ?_
          have h := h _ rfl
          refine jm_mrI (fun hm9 => ?_)
          refine jm_aload_n (pc := 63) 1 dX12_witness_63 rfl ?_
          refine jm_getr (pc := 64) 6 dX12_witness_64 fX12_19 (cR0 hg) rfl ?_
          refine jm_iload (pc := 67) 0 dX12_witness_67 rfl ?_
          refine jm_iload_n (pc := 69) 3 dX12_witness_69 rfl ?_
          refine jm_iast (pc := 70) dX12_witness_70 (cR4 hg) (by decide) hg7.1 hg7.2 hg4 ?_
          have h := h _ rfl
          refine jm_mrI (fun hm11 => ?_)
          refine jm_aload_n (pc := 71) 1 dX12_witness_71 rfl ?_
          refine jm_getr (pc := 72) 7 dX12_witness_72 fX12_22 (cR0 hg) rfl ?_
          refine jm_iload (pc := 75) 0 dX12_witness_75 rfl ?_
          refine jm_iload_n (pc := 77) 4 dX12_witness_77 rfl ?_
          refine jm_iast (pc := 78) dX12_witness_78 (cR5 hg) (by decide) hg7.1 hg7.2 hg5 ?_
          have h := h _ rfl
          refine jm_mrI (fun hm13 => ?_)
          refine jm_aload_n (pc := 79) 1 dX12_witness_79 rfl ?_
          refine jm_getr (pc := 80) 1 dX12_witness_80 fX12_7 (cR0 hg) rfl ?_
          refine jm_bipush (pc := 83) dX12_witness_83 (by decide) ?_
          refine jm_iload (pc := 85) 0 dX12_witness_85 rfl ?_
          refine jm_iadd (pc := 87) dX12_witness_87 ?_
          refine jm_iconst (pc := 88) dX12_witness_88 ?_
          have hg14 := h.1
          have h := h.2
          refine jm_iast (pc := 89) dX12_witness_89 (cR1 hg) (by decide) hg14.1 hg14.2 ⟨by decide, by decide⟩ ?_
          have h := h _ rfl
          refine jm_mrI (fun hm16 => ?_)
          refine jm_aload_n (pc := 90) 1 dX12_witness_90 rfl ?_
          refine jm_getr (pc := 91) 1 dX12_witness_91 fX12_7 (cR0 hg) rfl ?_
          refine jm_bipush (pc := 94) dX12_witness_94 (by decide) ?_
          refine jm_iload (pc := 96) 0 dX12_witness_96 rfl ?_
          refine jm_iadd (pc := 98) dX12_witness_98 ?_
          refine jm_iconst (pc := 99) dX12_witness_99 ?_
          have hg17 := h.1
          have h := h.2
          refine jm_iast (pc := 100) dX12_witness_100 (cR1 hg) (by decide) hg17.1 hg17.2 ⟨by decide, by decide⟩ ?_
          have h := h _ rfl
          refine jm_mrI (fun hm19 => ?_)
          refine jm_iconst (pc := 101) dX12_witness_101 ?_
          refine jm_istore (pc := 102) (lv' := [(5, _), (4, _), (0, _), (1, _), (2, _), (3, _)]) dX12_witness_102 (by decide) rfl ?_
          exact jm_sub [2, 1, 0] rfl h
        · have h := h.2 q
          refine jm_iconst (pc := 47) dX12_witness_47 ?_
          exact jm_iret (pc := 48) dX12_witness_48 rfl h
      · have h := h.2 q
        refine jm_if_eq (pc := 35) 47 dX12_witness_35 rfl ⟨by decide, by decide⟩ (fun q => ?_) (fun q => absurd q (by decide))
        refine jm_iconst (pc := 47) dX12_witness_47 ?_
        exact jm_iret (pc := 48) dX12_witness_48 rfl h
    · have h := h.2 q
      refine jm_if_eq (pc := 24) 47 dX12_witness_24 rfl ⟨by decide, by decide⟩ (fun q => ?_) (fun q => absurd q (by decide))
      refine jm_iconst (pc := 47) dX12_witness_47 ?_
      exact jm_iret (pc := 48) dX12_witness_48 rfl h
  · have h := h.2 q
    refine jm_if_eq (pc := 13) 47 dX12_witness_13 rfl ⟨by decide, by decide⟩ (fun q => ?_) (fun q => absurd q (by decide))
    refine jm_iconst (pc := 47) dX12_witness_47 ?_
    exact jm_iret (pc := 48) dX12_witness_48 rfl h
theorem dX12_claim_0 : decode cX12_claim 0 = .ok (.aload_n 0, 1) := by decide +kernel
theorem dX12_claim_1 : decode cX12_claim 1 = .ok (.iconst 0, 1) := by decide +kernel
theorem dX12_claim_2 : decode cX12_claim 2 = .ok (.putfield 104, 3) := by decide +kernel
theorem dX12_claim_5 : decode cX12_claim 5 = .ok (.aload_n 0, 1) := by decide +kernel
theorem dX12_claim_6 : decode cX12_claim 6 = .ok (.iload_n 1, 1) := by decide +kernel
theorem dX12_claim_7 : decode cX12_claim 7 = .ok (.invokevirtual 132, 3) := by decide +kernel
theorem dX12_claim_10 : decode cX12_claim 10 = .ok (.ifCond .eq 21, 3) := by decide +kernel
theorem dX12_claim_13 : decode cX12_claim 13 = .ok (.aload_n 0, 1) := by decide +kernel
theorem dX12_claim_14 : decode cX12_claim 14 = .ok (.iload_n 2, 1) := by decide +kernel
theorem dX12_claim_15 : decode cX12_claim 15 = .ok (.invokevirtual 136, 3) := by decide +kernel
theorem dX12_claim_18 : decode cX12_claim 18 = .ok (.ifCond .eq 13, 3) := by decide +kernel
theorem dX12_claim_21 : decode cX12_claim 21 = .ok (.aload_n 0, 1) := by decide +kernel
theorem dX12_claim_22 : decode cX12_claim 22 = .ok (.iload_n 3, 1) := by decide +kernel
theorem dX12_claim_23 : decode cX12_claim 23 = .ok (.iconst (-1), 1) := by decide +kernel
theorem dX12_claim_24 : decode cX12_claim 24 = .ok (.iconst 3, 1) := by decide +kernel
theorem dX12_claim_25 : decode cX12_claim 25 = .ok (.invokevirtual 128, 3) := by decide +kernel
theorem dX12_claim_28 : decode cX12_claim 28 = .ok (.ifCond .ne 5, 3) := by decide +kernel
theorem dX12_claim_31 : decode cX12_claim 31 = .ok (.iconst 0, 1) := by decide +kernel
theorem dX12_claim_32 : decode cX12_claim 32 = .ok (.ireturn, 1) := by decide +kernel
theorem dX12_claim_33 : decode cX12_claim 33 = .ok (.aload_n 0, 1) := by decide +kernel
theorem dX12_claim_34 : decode cX12_claim 34 = .ok (.getfield 25, 3) := by decide +kernel
theorem dX12_claim_37 : decode cX12_claim 37 = .ok (.bipush 6, 2) := by decide +kernel
theorem dX12_claim_39 : decode cX12_claim 39 = .ok (.iload_n 1, 1) := by decide +kernel
theorem dX12_claim_40 : decode cX12_claim 40 = .ok (.imul, 1) := by decide +kernel
theorem dX12_claim_41 : decode cX12_claim 41 = .ok (.iload_n 2, 1) := by decide +kernel
theorem dX12_claim_42 : decode cX12_claim 42 = .ok (.iadd, 1) := by decide +kernel
theorem dX12_claim_43 : decode cX12_claim 43 = .ok (.iload_n 3, 1) := by decide +kernel
theorem dX12_claim_44 : decode cX12_claim 44 = .ok (.iconst 1, 1) := by decide +kernel
theorem dX12_claim_45 : decode cX12_claim 45 = .ok (.iadd, 1) := by decide +kernel
theorem dX12_claim_46 : decode cX12_claim 46 = .ok (.iastore, 1) := by decide +kernel
theorem dX12_claim_47 : decode cX12_claim 47 = .ok (.aload_n 0, 1) := by decide +kernel
theorem dX12_claim_48 : decode cX12_claim 48 = .ok (.iconst 0, 1) := by decide +kernel
theorem dX12_claim_49 : decode cX12_claim 49 = .ok (.putfield 107, 3) := by decide +kernel
theorem dX12_claim_52 : decode cX12_claim 52 = .ok (.iconst 1, 1) := by decide +kernel
theorem dX12_claim_53 : decode cX12_claim 53 = .ok (.ireturn, 1) := by decide +kernel
theorem eX12_claim {l : Launch} {g : jm_G} {d : Nat} {v1 v2 v3 : Int} (hg : jm_HR g) {mu : jm_M} {Q : Option Value → jm_M → Prop} (h : ∀ m1, m1 = jm_wr mu 0 0 0 → jm_rg v1 ∧ (0 ≤ v1 ∧ v1 < (m1.1 0 4) → jm_rg v2 ∧ (0 ≤ v2 ∧ v2 < 6 → jm_rg v3 ∧ ((-1) ≤ v3 ∧ v3 ≤ 3 → (0 ≤ ((6 * v1) + v2) ∧ ((6 * v1) + v2) < 48) ∧ jm_rg (v3 + 1) ∧ ∀ m8, m8 = jm_wr m1 6 ((6 * v1) + v2) (v3 + 1) → ∀ m10, m10 = jm_wr m8 0 3 0 → Q (some (jm_i 1)) m10) ∧ (¬ ((-1) ≤ v3 ∧ v3 ≤ 3) → Q (some (jm_i 0)) m1)) ∧ (¬ (0 ≤ v2 ∧ v2 < 6) → Q (some (jm_i 0)) m1)) ∧ (¬ (0 ≤ v1 ∧ v1 < (m1.1 0 4)) → Q (some (jm_i 0)) m1)) : jm_R l g (d + 2) iX12_claim [.ref 0, jm_i v1, jm_i v2, jm_i v3] mu Q := by
  refine jm_enter [(0, .ref 0), (1, jm_i v1), (2, jm_i v2), (3, jm_i v3)] (by decide) (Nat.le_of_ble_eq_true rfl) rfl ?_
  refine jm_mrI (fun hm0 => ?_)
  refine jm_aload_n (pc := 0) 0 dX12_claim_0 rfl ?_
  refine jm_iconst (pc := 1) dX12_claim_1 ?_
  refine jm_put (pc := 2) 0 dX12_claim_2 fX12_104 ftX12 (fun q h => by cases h; rfl) (jm_nI _) (jm_fI _) (cR0 hg) rfl ⟨by decide, by decide⟩ ?_
  have h := h _ rfl
  refine jm_mrI (fun hm2 => ?_)
  refine jm_aload_n (pc := 5) 0 dX12_claim_5 rfl ?_
  refine jm_iload_n (pc := 6) 1 dX12_claim_6 rfl ?_
  have hg3 := h.1
  have h := h.2
  refine jm_inlvi (pc := 7) (As := [_]) (st := []) iX12_isWitness dX12_claim_7 mX12_132 (cR0 hg) ⟨_, rfl, rfl⟩ rfl rfl (Nat.le_of_ble_eq_true rfl) (pX12_isWitness hg hg3 (fun q => jm_kIi ?_) (fun q => jm_kIi ?_))
  · have h := h.1 q
    refine jm_if_eq (pc := 10) 31 dX12_claim_10 rfl ⟨by decide, by decide⟩ (fun q => absurd q (by decide)) (fun q => ?_)
    refine jm_aload_n (pc := 13) 0 dX12_claim_13 rfl ?_
    refine jm_iload_n (pc := 14) 2 dX12_claim_14 rfl ?_
    have hg4 := h.1
    have h := h.2
    refine jm_inlvi (pc := 15) (As := [_]) (st := []) iX12_isFact dX12_claim_15 mX12_136 (cR0 hg) ⟨_, rfl, rfl⟩ rfl rfl (Nat.le_of_ble_eq_true rfl) (pX12_isFact hg hg4 (fun q => jm_kIi ?_) (fun q => jm_kIi ?_))
    · have h := h.1 q
      refine jm_if_eq (pc := 18) 31 dX12_claim_18 rfl ⟨by decide, by decide⟩ (fun q => absurd q (by decide)) (fun q => ?_)
      refine jm_aload_n (pc := 21) 0 dX12_claim_21 rfl ?_
      refine jm_iload_n (pc := 22) 3 dX12_claim_22 rfl ?_
      refine jm_iconst (pc := 23) dX12_claim_23 ?_
      refine jm_iconst (pc := 24) dX12_claim_24 ?_
      have hg5 := h.1
      have h := h.2
      refine jm_inlvi (pc := 25) (As := [_, _, _]) (st := []) iX12_isIn dX12_claim_25 mX12_128 (cR0 hg) ⟨_, rfl, rfl⟩ rfl rfl (Nat.le_of_ble_eq_true rfl) (pX12_isIn hg hg5 ⟨by decide, by decide⟩ ⟨by decide, by decide⟩ (fun q => jm_kIi ?_) (fun q => jm_kIi ?_))
      · have h := h.1 q
        refine jm_if_ne (pc := 28) 33 dX12_claim_28 rfl ⟨by decide, by decide⟩ (fun q => ?_) (fun q => absurd q (by decide))
        refine jm_aload_n (pc := 33) 0 dX12_claim_33 rfl ?_
        refine jm_getr (pc := 34) 8 dX12_claim_34 fX12_25 (cR0 hg) rfl ?_
        refine jm_bipush (pc := 37) dX12_claim_37 (by decide) ?_
        refine jm_iload_n (pc := 39) 1 dX12_claim_39 rfl ?_
        refine jm_imul (pc := 40) dX12_claim_40 ?_
        refine jm_iload_n (pc := 41) 2 dX12_claim_41 rfl ?_
        refine jm_iadd (pc := 42) dX12_claim_42 ?_
        refine jm_iload_n (pc := 43) 3 dX12_claim_43 rfl ?_
        refine jm_iconst (pc := 44) dX12_claim_44 ?_
        refine jm_iadd (pc := 45) dX12_claim_45 ?_
        have hg6 := h.1
        have h := h.2
        have hg7 := h.1
        have h := h.2
        refine jm_iast (pc := 46) dX12_claim_46 (cR6 hg) (by decide) hg6.1 hg6.2 hg7 ?_
        have h := h _ rfl
        refine jm_mrI (fun hm9 => ?_)
        refine jm_aload_n (pc := 47) 0 dX12_claim_47 rfl ?_
        refine jm_iconst (pc := 48) dX12_claim_48 ?_
        refine jm_put (pc := 49) 3 dX12_claim_49 fX12_107 ftX12 (fun q h => by cases h; rfl) (jm_nI _) (jm_fI _) (cR0 hg) rfl ⟨by decide, by decide⟩ ?_
        have h := h _ rfl
        refine jm_mrI (fun hm11 => ?_)
        refine jm_iconst (pc := 52) dX12_claim_52 ?_
        exact jm_zret (pc := 53) dX12_claim_53 rfl (Or.inr rfl) h
      · have h := h.2 q
        refine jm_if_ne (pc := 28) 33 dX12_claim_28 rfl ⟨by decide, by decide⟩ (fun q => absurd q (by decide)) (fun q => ?_)
        refine jm_iconst (pc := 31) dX12_claim_31 ?_
        exact jm_zret (pc := 32) dX12_claim_32 rfl (Or.inl rfl) h
    · have h := h.2 q
      refine jm_if_eq (pc := 18) 31 dX12_claim_18 rfl ⟨by decide, by decide⟩ (fun q => ?_) (fun q => absurd q (by decide))
      refine jm_iconst (pc := 31) dX12_claim_31 ?_
      exact jm_zret (pc := 32) dX12_claim_32 rfl (Or.inl rfl) h
  · have h := h.2 q
    refine jm_if_eq (pc := 10) 31 dX12_claim_10 rfl ⟨by decide, by decide⟩ (fun q => ?_) (fun q => absurd q (by decide))
    refine jm_iconst (pc := 31) dX12_claim_31 ?_
    exact jm_zret (pc := 32) dX12_claim_32 rfl (Or.inl rfl) h
theorem dX12_canSet_0 : decode cX12_canSet 0 = .ok (.iload_n 1, 1) := by decide +kernel
theorem dX12_canSet_1 : decode cX12_canSet 1 = .ok (.ifCond .ne 13, 3) := by decide +kernel
theorem dX12_canSet_4 : decode cX12_canSet 4 = .ok (.aload_n 0, 1) := by decide +kernel
theorem dX12_canSet_5 : decode cX12_canSet 5 = .ok (.iload_n 3, 1) := by decide +kernel
theorem dX12_canSet_6 : decode cX12_canSet 6 = .ok (.iconst 0, 1) := by decide +kernel
theorem dX12_canSet_7 : decode cX12_canSet 7 = .ok (.sipush 4095, 3) := by decide +kernel
theorem dX12_canSet_10 : decode cX12_canSet 10 = .ok (.invokevirtual 128, 3) := by decide +kernel
theorem dX12_canSet_13 : decode cX12_canSet 13 = .ok (.ireturn, 1) := by decide +kernel
theorem dX12_canSet_14 : decode cX12_canSet 14 = .ok (.iload_n 1, 1) := by decide +kernel
theorem dX12_canSet_15 : decode cX12_canSet 15 = .ok (.iconst 1, 1) := by decide +kernel
theorem dX12_canSet_16 : decode cX12_canSet 16 = .ok (.if_icmp .ne 13, 3) := by decide +kernel
theorem dX12_canSet_19 : decode cX12_canSet 19 = .ok (.aload_n 0, 1) := by decide +kernel
theorem dX12_canSet_20 : decode cX12_canSet 20 = .ok (.iload_n 3, 1) := by decide +kernel
theorem dX12_canSet_21 : decode cX12_canSet 21 = .ok (.iconst 1, 1) := by decide +kernel
theorem dX12_canSet_22 : decode cX12_canSet 22 = .ok (.sipush 999, 3) := by decide +kernel
theorem dX12_canSet_25 : decode cX12_canSet 25 = .ok (.invokevirtual 128, 3) := by decide +kernel
theorem dX12_canSet_28 : decode cX12_canSet 28 = .ok (.ireturn, 1) := by decide +kernel
theorem dX12_canSet_29 : decode cX12_canSet 29 = .ok (.iload_n 1, 1) := by decide +kernel
theorem dX12_canSet_30 : decode cX12_canSet 30 = .ok (.iconst 2, 1) := by decide +kernel
theorem dX12_canSet_31 : decode cX12_canSet 31 = .ok (.if_icmp .ne 12, 3) := by decide +kernel
theorem dX12_canSet_34 : decode cX12_canSet 34 = .ok (.aload_n 0, 1) := by decide +kernel
theorem dX12_canSet_35 : decode cX12_canSet 35 = .ok (.iload_n 3, 1) := by decide +kernel
theorem dX12_canSet_36 : decode cX12_canSet 36 = .ok (.iconst 0, 1) := by decide +kernel
theorem dX12_canSet_37 : decode cX12_canSet 37 = .ok (.bipush 9, 2) := by decide +kernel
theorem dX12_canSet_39 : decode cX12_canSet 39 = .ok (.invokevirtual 128, 3) := by decide +kernel
theorem dX12_canSet_42 : decode cX12_canSet 42 = .ok (.ireturn, 1) := by decide +kernel
theorem dX12_canSet_43 : decode cX12_canSet 43 = .ok (.aload_n 0, 1) := by decide +kernel
theorem dX12_canSet_44 : decode cX12_canSet 44 = .ok (.iload_n 1, 1) := by decide +kernel
theorem dX12_canSet_45 : decode cX12_canSet 45 = .ok (.iconst 3, 1) := by decide +kernel
theorem dX12_canSet_46 : decode cX12_canSet 46 = .ok (.iconst 4, 1) := by decide +kernel
theorem dX12_canSet_47 : decode cX12_canSet 47 = .ok (.invokevirtual 128, 3) := by decide +kernel
theorem dX12_canSet_50 : decode cX12_canSet 50 = .ok (.ifCond .eq 35, 3) := by decide +kernel
theorem dX12_canSet_53 : decode cX12_canSet 53 = .ok (.aload_n 0, 1) := by decide +kernel
theorem dX12_canSet_54 : decode cX12_canSet 54 = .ok (.iload_n 2, 1) := by decide +kernel
theorem dX12_canSet_55 : decode cX12_canSet 55 = .ok (.invokevirtual 132, 3) := by decide +kernel
theorem dX12_canSet_58 : decode cX12_canSet 58 = .ok (.ifCond .eq 27, 3) := by decide +kernel
theorem dX12_canSet_61 : decode cX12_canSet 61 = .ok (.aload_n 0, 1) := by decide +kernel
theorem dX12_canSet_62 : decode cX12_canSet 62 = .ok (.iload_n 3, 1) := by decide +kernel
theorem dX12_canSet_63 : decode cX12_canSet 63 = .ok (.iconst 0, 1) := by decide +kernel
theorem dX12_canSet_64 : decode cX12_canSet 64 = .ok (.iload_n 1, 1) := by decide +kernel
theorem dX12_canSet_65 : decode cX12_canSet 65 = .ok (.iconst 3, 1) := by decide +kernel
theorem dX12_canSet_66 : decode cX12_canSet 66 = .ok (.if_icmp .ne 8, 3) := by decide +kernel
theorem dX12_canSet_69 : decode cX12_canSet 69 = .ok (.bipush 99, 2) := by decide +kernel
theorem dX12_canSet_71 : decode cX12_canSet 71 = .ok (.goto 4, 3) := by decide +kernel
theorem dX12_canSet_74 : decode cX12_canSet 74 = .ok (.iconst 1, 1) := by decide +kernel
theorem dX12_canSet_75 : decode cX12_canSet 75 = .ok (.invokevirtual 128, 3) := by decide +kernel
theorem dX12_canSet_78 : decode cX12_canSet 78 = .ok (.ifCond .eq 7, 3) := by decide +kernel
theorem dX12_canSet_81 : decode cX12_canSet 81 = .ok (.iconst 1, 1) := by decide +kernel
theorem dX12_canSet_82 : decode cX12_canSet 82 = .ok (.goto 4, 3) := by decide +kernel
theorem dX12_canSet_85 : decode cX12_canSet 85 = .ok (.iconst 0, 1) := by decide +kernel
theorem dX12_canSet_86 : decode cX12_canSet 86 = .ok (.ireturn, 1) := by decide +kernel
theorem bX12_canSet_75 {l : Launch} {g : jm_G} {d : Nat} {s0 s1 s2 : Int} (hg : jm_HR g) {mu : jm_M} {Q : Option Value → jm_M → Prop} (h : jm_rg s2 ∧ jm_rg s1 ∧ jm_rg s0 ∧ (s1 ≤ s2 ∧ s2 ≤ s0 → Q (some (jm_i 1)) mu) ∧ (¬ (s1 ≤ s2 ∧ s2 ≤ s0) → Q (some (jm_i 0)) mu)) : jm_V l g (d + 2) iX12_canSet 75 [] [jm_i s0, jm_i s1, jm_i s2, .ref 0] mu Q := by
  refine jm_mrI (fun hm0 => ?_)
  have hg1 := h.1
  have h := h.2
  have hg2 := h.1
  have h := h.2
  have hg3 := h.1
  have h := h.2
  refine jm_inlvi (pc := 75) (As := [_, _, _]) (st := []) iX12_isIn dX12_canSet_75 mX12_128 (cR0 hg) ⟨_, rfl, rfl⟩ rfl rfl (Nat.le_of_ble_eq_true rfl) (pX12_isIn hg hg1 hg2 hg3 (fun q => jm_kIi ?_) (fun q => jm_kIi ?_))
  · have h := h.1 q
    refine jm_if_eq (pc := 78) 85 dX12_canSet_78 rfl ⟨by decide, by decide⟩ (fun q => absurd q (by decide)) (fun q => ?_)
    refine jm_iconst (pc := 81) dX12_canSet_81 ?_
    refine jm_goto (pc := 82) 86 dX12_canSet_82 rfl ?_
    exact jm_zret (pc := 86) dX12_canSet_86 rfl (Or.inr rfl) h
  · have h := h.2 q
    refine jm_if_eq (pc := 78) 85 dX12_canSet_78 rfl ⟨by decide, by decide⟩ (fun q => ?_) (fun q => absurd q (by decide))
    refine jm_iconst (pc := 85) dX12_canSet_85 ?_
    exact jm_zret (pc := 86) dX12_canSet_86 rfl (Or.inl rfl) h
theorem eX12_canSet {l : Launch} {g : jm_G} {d : Nat} {v1 v2 v3 : Int} (hg : jm_HR g) {mu : jm_M} {Q : Option Value → jm_M → Prop} (h : jm_rg v1 ∧ (¬ v1 = 0 → (¬ v1 = 1 → (¬ v1 = 2 → (3 ≤ v1 ∧ v1 ≤ 4 → jm_rg v2 ∧ (0 ≤ v2 ∧ v2 < (mu.1 0 4) → (¬ v1 = 3 → jm_V l g (d + 2) iX12_canSet 75 [] [jm_i 1, jm_i 0, jm_i v3, .ref 0] mu Q) ∧ (v1 = 3 → jm_V l g (d + 2) iX12_canSet 75 [] [jm_i 99, jm_i 0, jm_i v3, .ref 0] mu Q)) ∧ (¬ (0 ≤ v2 ∧ v2 < (mu.1 0 4)) → Q (some (jm_i 0)) mu)) ∧ (¬ (3 ≤ v1 ∧ v1 ≤ 4) → Q (some (jm_i 0)) mu)) ∧ (v1 = 2 → jm_rg v3 ∧ (0 ≤ v3 ∧ v3 ≤ 9 → Q (some (jm_i 1)) mu) ∧ (¬ (0 ≤ v3 ∧ v3 ≤ 9) → Q (some (jm_i 0)) mu))) ∧ (v1 = 1 → jm_rg v3 ∧ (1 ≤ v3 ∧ v3 ≤ 999 → Q (some (jm_i 1)) mu) ∧ (¬ (1 ≤ v3 ∧ v3 ≤ 999) → Q (some (jm_i 0)) mu))) ∧ (v1 = 0 → jm_rg v3 ∧ (0 ≤ v3 ∧ v3 ≤ 4095 → Q (some (jm_i 1)) mu) ∧ (¬ (0 ≤ v3 ∧ v3 ≤ 4095) → Q (some (jm_i 0)) mu))) : jm_R l g (d + 2) iX12_canSet [.ref 0, jm_i v1, jm_i v2, jm_i v3] mu Q := by
  refine jm_enter [(0, .ref 0), (1, jm_i v1), (2, jm_i v2), (3, jm_i v3)] (by decide) (Nat.le_of_ble_eq_true rfl) rfl ?_
  refine jm_mrI (fun hm0 => ?_)
  refine jm_iload_n (pc := 0) 1 dX12_canSet_0 rfl ?_
  have hg1 := h.1
  have h := h.2
  refine jm_if_ne (pc := 1) 14 dX12_canSet_1 rfl hg1 (fun q => ?_) (fun q => ?_)
  · have h := h.1 q
    refine jm_iload_n (pc := 14) 1 dX12_canSet_14 rfl ?_
    refine jm_iconst (pc := 15) dX12_canSet_15 ?_
    refine jm_icmp_ne (pc := 16) 29 dX12_canSet_16 rfl hg1 ⟨by decide, by decide⟩ (fun q => ?_) (fun q => ?_)
    · have h := h.1 q
      refine jm_iload_n (pc := 29) 1 dX12_canSet_29 rfl ?_
      refine jm_iconst (pc := 30) dX12_canSet_30 ?_
      refine jm_icmp_ne (pc := 31) 43 dX12_canSet_31 rfl hg1 ⟨by decide, by decide⟩ (fun q => ?_) (fun q => ?_)
      · have h := h.1 q
        refine jm_aload_n (pc := 43) 0 dX12_canSet_43 rfl ?_
        refine jm_iload_n (pc := 44) 1 dX12_canSet_44 rfl ?_
        refine jm_iconst (pc := 45) dX12_canSet_45 ?_
        refine jm_iconst (pc := 46) dX12_canSet_46 ?_
        refine jm_inlvi (pc := 47) (As := [_, _, _]) (st := []) iX12_isIn dX12_canSet_47 mX12_128 (cR0 hg) ⟨_, rfl, rfl⟩ rfl rfl (Nat.le_of_ble_eq_true rfl) (pX12_isIn hg hg1 ⟨by decide, by decide⟩ ⟨by decide, by decide⟩ (fun q => jm_kIi ?_) (fun q => jm_kIi ?_))
        · have h := h.1 q
          refine jm_if_eq (pc := 50) 85 dX12_canSet_50 rfl ⟨by decide, by decide⟩ (fun q => absurd q (by decide)) (fun q => ?_)
          refine jm_aload_n (pc := 53) 0 dX12_canSet_53 rfl ?_
          refine jm_iload_n (pc := 54) 2 dX12_canSet_54 rfl ?_
          have hg2 := h.1
          have h := h.2
          refine jm_inlvi (pc := 55) (As := [_]) (st := []) iX12_isWitness dX12_canSet_55 mX12_132 (cR0 hg) ⟨_, rfl, rfl⟩ rfl rfl (Nat.le_of_ble_eq_true rfl) (pX12_isWitness hg hg2 (fun q => jm_kIi ?_) (fun q => jm_kIi ?_))
          · have h := h.1 q
            refine jm_if_eq (pc := 58) 85 dX12_canSet_58 rfl ⟨by decide, by decide⟩ (fun q => absurd q (by decide)) (fun q => ?_)
            refine jm_aload_n (pc := 61) 0 dX12_canSet_61 rfl ?_
            refine jm_iload_n (pc := 62) 3 dX12_canSet_62 rfl ?_
            refine jm_iconst (pc := 63) dX12_canSet_63 ?_
            refine jm_iload_n (pc := 64) 1 dX12_canSet_64 rfl ?_
            refine jm_iconst (pc := 65) dX12_canSet_65 ?_
            refine jm_icmp_ne (pc := 66) 74 dX12_canSet_66 rfl hg1 ⟨by decide, by decide⟩ (fun q => ?_) (fun q => ?_)
            · have h := h.1 q
              refine jm_iconst (pc := 74) dX12_canSet_74 ?_
              exact jm_sub [] rfl h
            · have h := h.2 q
              refine jm_bipush (pc := 69) dX12_canSet_69 (by decide) ?_
              refine jm_goto (pc := 71) 75 dX12_canSet_71 rfl ?_
              exact jm_sub [] rfl h
          · have h := h.2 q
            refine jm_if_eq (pc := 58) 85 dX12_canSet_58 rfl ⟨by decide, by decide⟩ (fun q => ?_) (fun q => absurd q (by decide))
            refine jm_iconst (pc := 85) dX12_canSet_85 ?_
            exact jm_zret (pc := 86) dX12_canSet_86 rfl (Or.inl rfl) h
        · have h := h.2 q
          refine jm_if_eq (pc := 50) 85 dX12_canSet_50 rfl ⟨by decide, by decide⟩ (fun q => ?_) (fun q => absurd q (by decide))
          refine jm_iconst (pc := 85) dX12_canSet_85 ?_
          exact jm_zret (pc := 86) dX12_canSet_86 rfl (Or.inl rfl) h
      · have h := h.2 q
        refine jm_aload_n (pc := 34) 0 dX12_canSet_34 rfl ?_
        refine jm_iload_n (pc := 35) 3 dX12_canSet_35 rfl ?_
        refine jm_iconst (pc := 36) dX12_canSet_36 ?_
        refine jm_bipush (pc := 37) dX12_canSet_37 (by decide) ?_
        have hg3 := h.1
        have h := h.2
        refine jm_inlvi (pc := 39) (As := [_, _, _]) (st := []) iX12_isIn dX12_canSet_39 mX12_128 (cR0 hg) ⟨_, rfl, rfl⟩ rfl rfl (Nat.le_of_ble_eq_true rfl) (pX12_isIn hg hg3 ⟨by decide, by decide⟩ ⟨by decide, by decide⟩ (fun q => jm_kIi ?_) (fun q => jm_kIi ?_))
        · have h := h.1 q
          exact jm_zret (pc := 42) dX12_canSet_42 rfl (Or.inr rfl) h
        · have h := h.2 q
          exact jm_zret (pc := 42) dX12_canSet_42 rfl (Or.inl rfl) h
    · have h := h.2 q
      refine jm_aload_n (pc := 19) 0 dX12_canSet_19 rfl ?_
      refine jm_iload_n (pc := 20) 3 dX12_canSet_20 rfl ?_
      refine jm_iconst (pc := 21) dX12_canSet_21 ?_
      refine jm_sipush (pc := 22) dX12_canSet_22 (by decide) ?_
      have hg4 := h.1
      have h := h.2
      refine jm_inlvi (pc := 25) (As := [_, _, _]) (st := []) iX12_isIn dX12_canSet_25 mX12_128 (cR0 hg) ⟨_, rfl, rfl⟩ rfl rfl (Nat.le_of_ble_eq_true rfl) (pX12_isIn hg hg4 ⟨by decide, by decide⟩ ⟨by decide, by decide⟩ (fun q => jm_kIi ?_) (fun q => jm_kIi ?_))
      · have h := h.1 q
        exact jm_zret (pc := 28) dX12_canSet_28 rfl (Or.inr rfl) h
      · have h := h.2 q
        exact jm_zret (pc := 28) dX12_canSet_28 rfl (Or.inl rfl) h
  · have h := h.2 q
    refine jm_aload_n (pc := 4) 0 dX12_canSet_4 rfl ?_
    refine jm_iload_n (pc := 5) 3 dX12_canSet_5 rfl ?_
    refine jm_iconst (pc := 6) dX12_canSet_6 ?_
    refine jm_sipush (pc := 7) dX12_canSet_7 (by decide) ?_
    have hg5 := h.1
    have h := h.2
    refine jm_inlvi (pc := 10) (As := [_, _, _]) (st := []) iX12_isIn dX12_canSet_10 mX12_128 (cR0 hg) ⟨_, rfl, rfl⟩ rfl rfl (Nat.le_of_ble_eq_true rfl) (pX12_isIn hg hg5 ⟨by decide, by decide⟩ ⟨by decide, by decide⟩ (fun q => jm_kIi ?_) (fun q => jm_kIi ?_))
    · have h := h.1 q
      exact jm_zret (pc := 13) dX12_canSet_13 rfl (Or.inr rfl) h
    · have h := h.2 q
      exact jm_zret (pc := 13) dX12_canSet_13 rfl (Or.inl rfl) h
theorem dX12_set_0 : decode cX12_set 0 = .ok (.aload_n 0, 1) := by decide +kernel
theorem dX12_set_1 : decode cX12_set 1 = .ok (.iconst 0, 1) := by decide +kernel
theorem dX12_set_2 : decode cX12_set 2 = .ok (.putfield 104, 3) := by decide +kernel
theorem dX12_set_5 : decode cX12_set 5 = .ok (.aload_n 0, 1) := by decide +kernel
theorem dX12_set_6 : decode cX12_set 6 = .ok (.iload_n 1, 1) := by decide +kernel
theorem dX12_set_7 : decode cX12_set 7 = .ok (.iload_n 2, 1) := by decide +kernel
theorem dX12_set_8 : decode cX12_set 8 = .ok (.iload_n 3, 1) := by decide +kernel
theorem dX12_set_9 : decode cX12_set 9 = .ok (.invokevirtual 139, 3) := by decide +kernel
theorem dX12_set_12 : decode cX12_set 12 = .ok (.ifCond .ne 5, 3) := by decide +kernel
theorem dX12_set_15 : decode cX12_set 15 = .ok (.iconst 0, 1) := by decide +kernel
theorem dX12_set_16 : decode cX12_set 16 = .ok (.ireturn, 1) := by decide +kernel
theorem dX12_set_17 : decode cX12_set 17 = .ok (.iload_n 1, 1) := by decide +kernel
theorem dX12_set_18 : decode cX12_set 18 = .ok (.ifCond .ne 12, 3) := by decide +kernel
theorem dX12_set_21 : decode cX12_set 21 = .ok (.aload_n 0, 1) := by decide +kernel
theorem dX12_set_22 : decode cX12_set 22 = .ok (.iload_n 3, 1) := by decide +kernel
theorem dX12_set_23 : decode cX12_set 23 = .ok (.sipush 953, 3) := by decide +kernel
theorem dX12_set_26 : decode cX12_set 26 = .ok (.ixor, 1) := by decide +kernel
theorem dX12_set_27 : decode cX12_set 27 = .ok (.putfield 112, 3) := by decide +kernel
theorem dX12_set_30 : decode cX12_set 30 = .ok (.iload_n 1, 1) := by decide +kernel
theorem dX12_set_31 : decode cX12_set 31 = .ok (.iconst 1, 1) := by decide +kernel
theorem dX12_set_32 : decode cX12_set 32 = .ok (.if_icmp .ne 11, 3) := by decide +kernel
theorem dX12_set_35 : decode cX12_set 35 = .ok (.aload_n 0, 1) := by decide +kernel
theorem dX12_set_36 : decode cX12_set 36 = .ok (.iload_n 3, 1) := by decide +kernel
theorem dX12_set_37 : decode cX12_set 37 = .ok (.bipush 10, 2) := by decide +kernel
theorem dX12_set_39 : decode cX12_set 39 = .ok (.isub, 1) := by decide +kernel
theorem dX12_set_40 : decode cX12_set 40 = .ok (.putfield 115, 3) := by decide +kernel
theorem dX12_set_43 : decode cX12_set 43 = .ok (.iload_n 1, 1) := by decide +kernel
theorem dX12_set_44 : decode cX12_set 44 = .ok (.iconst 2, 1) := by decide +kernel
theorem dX12_set_45 : decode cX12_set 45 = .ok (.if_icmp .ne 10, 3) := by decide +kernel
theorem dX12_set_48 : decode cX12_set 48 = .ok (.aload_n 0, 1) := by decide +kernel
theorem dX12_set_49 : decode cX12_set 49 = .ok (.iload_n 3, 1) := by decide +kernel
theorem dX12_set_50 : decode cX12_set 50 = .ok (.iconst 1, 1) := by decide +kernel
theorem dX12_set_51 : decode cX12_set 51 = .ok (.isub, 1) := by decide +kernel
theorem dX12_set_52 : decode cX12_set 52 = .ok (.putfield 118, 3) := by decide +kernel
theorem dX12_set_55 : decode cX12_set 55 = .ok (.iload_n 1, 1) := by decide +kernel
theorem dX12_set_56 : decode cX12_set 56 = .ok (.iconst 3, 1) := by decide +kernel
theorem dX12_set_57 : decode cX12_set 57 = .ok (.if_icmp .ne 9, 3) := by decide +kernel
theorem dX12_set_60 : decode cX12_set 60 = .ok (.aload_n 0, 1) := by decide +kernel
theorem dX12_set_61 : decode cX12_set 61 = .ok (.iload_n 2, 1) := by decide +kernel
theorem dX12_set_62 : decode cX12_set 62 = .ok (.iload_n 3, 1) := by decide +kernel
theorem dX12_set_63 : decode cX12_set 63 = .ok (.invokevirtual 142, 3) := by decide +kernel
theorem dX12_set_66 : decode cX12_set 66 = .ok (.iload_n 1, 1) := by decide +kernel
theorem dX12_set_67 : decode cX12_set 67 = .ok (.iconst 4, 1) := by decide +kernel
theorem dX12_set_68 : decode cX12_set 68 = .ok (.if_icmp .ne 13, 3) := by decide +kernel
theorem dX12_set_71 : decode cX12_set 71 = .ok (.aload_n 0, 1) := by decide +kernel
theorem dX12_set_72 : decode cX12_set 72 = .ok (.getfield 7, 3) := by decide +kernel
theorem dX12_set_75 : decode cX12_set 75 = .ok (.bipush 14, 2) := by decide +kernel
theorem dX12_set_77 : decode cX12_set 77 = .ok (.iload_n 2, 1) := by decide +kernel
theorem dX12_set_78 : decode cX12_set 78 = .ok (.iadd, 1) := by decide +kernel
theorem dX12_set_79 : decode cX12_set 79 = .ok (.iload_n 3, 1) := by decide +kernel
theorem dX12_set_80 : decode cX12_set 80 = .ok (.iastore, 1) := by decide +kernel
theorem dX12_set_81 : decode cX12_set 81 = .ok (.aload_n 0, 1) := by decide +kernel
theorem dX12_set_82 : decode cX12_set 82 = .ok (.iconst 0, 1) := by decide +kernel
theorem dX12_set_83 : decode cX12_set 83 = .ok (.putfield 107, 3) := by decide +kernel
theorem dX12_set_86 : decode cX12_set 86 = .ok (.iconst 1, 1) := by decide +kernel
theorem dX12_set_87 : decode cX12_set 87 = .ok (.ireturn, 1) := by decide +kernel
theorem bX12_set_66 {l : Launch} {g : jm_G} {d : Nat} {v1 v2 v3 : Int} (hg : jm_HR g) {mu : jm_M} {Q : Option Value → jm_M → Prop} (h : jm_rg v1 ∧ (¬ v1 = 4 → ∀ m2, m2 = jm_wr mu 0 3 0 → Q (some (jm_i 1)) m2) ∧ (v1 = 4 → (0 ≤ (14 + v2) ∧ (14 + v2) < 22) ∧ jm_rg v3 ∧ ∀ m6, m6 = jm_wr mu 1 (14 + v2) v3 → ∀ m8, m8 = jm_wr m6 0 3 0 → Q (some (jm_i 1)) m8)) : jm_V l g (d + 1) iX12_set 66 [(0, .ref 0), (1, jm_i v1), (2, jm_i v2), (3, jm_i v3)] [] mu Q := by
  refine jm_mrI (fun hm0 => ?_)
  refine jm_iload_n (pc := 66) 1 dX12_set_66 rfl ?_
  refine jm_iconst (pc := 67) dX12_set_67 ?_
  have hg1 := h.1
  have h := h.2
  refine jm_icmp_ne (pc := 68) 81 dX12_set_68 rfl hg1 ⟨by decide, by decide⟩ (fun q => ?_) (fun q => ?_)
  · have h := h.1 q
    refine jm_aload_n (pc := 81) 0 dX12_set_81 rfl ?_
    refine jm_iconst (pc := 82) dX12_set_82 ?_
    refine jm_put (pc := 83) 3 dX12_set_83 fX12_107 ftX12 (fun q h => by cases h; rfl) (jm_nI _) (jm_fI _) (cR0 hg) rfl ⟨by decide, by decide⟩ ?_
    have h := h _ rfl
    refine jm_mrI (fun hm3 => ?_)
    refine jm_iconst (pc := 86) dX12_set_86 ?_
    exact jm_zret (pc := 87) dX12_set_87 rfl (Or.inr rfl) h
  · have h := h.2 q
    refine jm_aload_n (pc := 71) 0 dX12_set_71 rfl ?_
    refine jm_getr (pc := 72) 1 dX12_set_72 fX12_7 (cR0 hg) rfl ?_
    refine jm_bipush (pc := 75) dX12_set_75 (by decide) ?_
    refine jm_iload_n (pc := 77) 2 dX12_set_77 rfl ?_
    refine jm_iadd (pc := 78) dX12_set_78 ?_
    refine jm_iload_n (pc := 79) 3 dX12_set_79 rfl ?_
    have hg4 := h.1
    have h := h.2
    have hg5 := h.1
    have h := h.2
    refine jm_iast (pc := 80) dX12_set_80 (cR1 hg) (by decide) hg4.1 hg4.2 hg5 ?_
    have h := h _ rfl
    refine jm_mrI (fun hm7 => ?_)
    refine jm_aload_n (pc := 81) 0 dX12_set_81 rfl ?_
    refine jm_iconst (pc := 82) dX12_set_82 ?_
    refine jm_put (pc := 83) 3 dX12_set_83 fX12_107 ftX12 (fun q h => by cases h; rfl) (jm_nI _) (jm_fI _) (cR0 hg) rfl ⟨by decide, by decide⟩ ?_
    have h := h _ rfl
    refine jm_mrI (fun hm9 => ?_)
    refine jm_iconst (pc := 86) dX12_set_86 ?_
    exact jm_zret (pc := 87) dX12_set_87 rfl (Or.inr rfl) h
theorem bX12_set_55 {l : Launch} {g : jm_G} {d : Nat} {v1 v2 v3 : Int} (hg : jm_HR g) {mu : jm_M} {Q : Option Value → jm_M → Prop} (h : jm_rg v1 ∧ (¬ v1 = 3 → jm_V l g (d + 1) iX12_set 66 [(0, .ref 0), (1, jm_i v1), (2, jm_i v2), (3, jm_i v3)] [] mu Q) ∧ (v1 = 3 → jm_R l g d iX12_nerveBe [.ref 0, jm_i v2, jm_i v3] mu (jm_qv fun m2 => jm_V l g (d + 1) iX12_set 66 [(0, .ref 0), (1, jm_i v1), (2, jm_i v2), (3, jm_i v3)] [] m2 Q))) : jm_V l g (d + 1) iX12_set 55 [(0, .ref 0), (1, jm_i v1), (2, jm_i v2), (3, jm_i v3)] [] mu Q := by
  refine jm_mrI (fun hm0 => ?_)
  refine jm_iload_n (pc := 55) 1 dX12_set_55 rfl ?_
  refine jm_iconst (pc := 56) dX12_set_56 ?_
  have hg1 := h.1
  have h := h.2
  refine jm_icmp_ne (pc := 57) 66 dX12_set_57 rfl hg1 ⟨by decide, by decide⟩ (fun q => ?_) (fun q => ?_)
  · have h := h.1 q
    exact jm_sub [0, 1, 2, 3] rfl h
  · have h := h.2 q
    refine jm_aload_n (pc := 60) 0 dX12_set_60 rfl ?_
    refine jm_iload_n (pc := 61) 2 dX12_set_61 rfl ?_
    refine jm_iload_n (pc := 62) 3 dX12_set_62 rfl ?_
    refine jm_callvv (pc := 63) (As := [_, _]) (st := []) iX12_nerveBe dX12_set_63 mX12_142 (cR0 hg) ⟨_, rfl, rfl⟩ rfl rfl (Nat.le_of_ble_eq_true rfl) h (fun m2 h hm5 => ?_)
    exact jm_sub [0, 1, 2, 3] rfl h
theorem bX12_set_30 {l : Launch} {g : jm_G} {d : Nat} {v1 v2 v3 : Int} (hg : jm_HR g) {mu : jm_M} {Q : Option Value → jm_M → Prop} (h : jm_rg v1 ∧ (¬ v1 = 1 → (¬ v1 = 2 → jm_V l g (d + 1) iX12_set 55 [(0, .ref 0), (1, jm_i v1), (2, jm_i v2), (3, jm_i v3)] [] mu Q) ∧ (v1 = 2 → jm_rg (v3 - 1) ∧ ∀ m3, m3 = jm_wr mu 0 11 (v3 - 1) → jm_V l g (d + 1) iX12_set 55 [(0, .ref 0), (1, jm_i v1), (2, jm_i v2), (3, jm_i v3)] [] m3 Q)) ∧ (v1 = 1 → jm_rg (v3 - 10) ∧ ∀ m6, m6 = jm_wr mu 0 10 (v3 - 10) → (¬ v1 = 2 → jm_V l g (d + 1) iX12_set 55 [(0, .ref 0), (1, jm_i v1), (2, jm_i v2), (3, jm_i v3)] [] m6 Q) ∧ (v1 = 2 → jm_rg (v3 - 1) ∧ ∀ m9, m9 = jm_wr m6 0 11 (v3 - 1) → jm_V l g (d + 1) iX12_set 55 [(0, .ref 0), (1, jm_i v1), (2, jm_i v2), (3, jm_i v3)] [] m9 Q))) : jm_V l g (d + 1) iX12_set 30 [(0, .ref 0), (1, jm_i v1), (2, jm_i v2), (3, jm_i v3)] [] mu Q := by
  refine jm_mrI (fun hm0 => ?_)
  refine jm_iload_n (pc := 30) 1 dX12_set_30 rfl ?_
  refine jm_iconst (pc := 31) dX12_set_31 ?_
  have hg1 := h.1
  have h := h.2
  refine jm_icmp_ne (pc := 32) 43 dX12_set_32 rfl hg1 ⟨by decide, by decide⟩ (fun q => ?_) (fun q => ?_)
  · have h := h.1 q
    refine jm_iload_n (pc := 43) 1 dX12_set_43 rfl ?_
    refine jm_iconst (pc := 44) dX12_set_44 ?_
    refine jm_icmp_ne (pc := 45) 55 dX12_set_45 rfl hg1 ⟨by decide, by decide⟩ (fun q => ?_) (fun q => ?_)
    · have h := h.1 q
      exact jm_sub [0, 1, 2, 3] rfl h
    · have h := h.2 q
      refine jm_aload_n (pc := 48) 0 dX12_set_48 rfl ?_
      refine jm_iload_n (pc := 49) 3 dX12_set_49 rfl ?_
      refine jm_iconst (pc := 50) dX12_set_50 ?_
      refine jm_isub (pc := 51) dX12_set_51 ?_
      have hg2 := h.1
      have h := h.2
      refine jm_put (pc := 52) 11 dX12_set_52 fX12_118 ftX12 (fun q h => by cases h; rfl) (jm_nI _) (jm_fI _) (cR0 hg) rfl hg2 ?_
      have h := h _ rfl
      refine jm_mrI (fun hm4 => ?_)
      exact jm_sub [0, 1, 2, 3] rfl h
  · have h := h.2 q
    refine jm_aload_n (pc := 35) 0 dX12_set_35 rfl ?_
    refine jm_iload_n (pc := 36) 3 dX12_set_36 rfl ?_
    refine jm_bipush (pc := 37) dX12_set_37 (by decide) ?_
    refine jm_isub (pc := 39) dX12_set_39 ?_
    have hg5 := h.1
    have h := h.2
    refine jm_put (pc := 40) 10 dX12_set_40 fX12_115 ftX12 (fun q h => by cases h; rfl) (jm_nI _) (jm_fI _) (cR0 hg) rfl hg5 ?_
    have h := h _ rfl
    refine jm_mrI (fun hm7 => ?_)
    refine jm_iload_n (pc := 43) 1 dX12_set_43 rfl ?_
    refine jm_iconst (pc := 44) dX12_set_44 ?_
    refine jm_icmp_ne (pc := 45) 55 dX12_set_45 rfl hg1 ⟨by decide, by decide⟩ (fun q => ?_) (fun q => ?_)
    · have h := h.1 q
      exact jm_sub [0, 1, 2, 3] rfl h
    · have h := h.2 q
      refine jm_aload_n (pc := 48) 0 dX12_set_48 rfl ?_
      refine jm_iload_n (pc := 49) 3 dX12_set_49 rfl ?_
      refine jm_iconst (pc := 50) dX12_set_50 ?_
      refine jm_isub (pc := 51) dX12_set_51 ?_
      have hg8 := h.1
      have h := h.2
      refine jm_put (pc := 52) 11 dX12_set_52 fX12_118 ftX12 (fun q h => by cases h; rfl) (jm_nI _) (jm_fI _) (cR0 hg) rfl hg8 ?_
      have h := h _ rfl
      refine jm_mrI (fun hm10 => ?_)
      exact jm_sub [0, 1, 2, 3] rfl h
theorem eX12_set {l : Launch} {g : jm_G} {d : Nat} {v1 v2 v3 : Int} (hg : jm_HR g) {mu : jm_M} {Q : Option Value → jm_M → Prop} (h : ∀ m1, m1 = jm_wr mu 0 0 0 → jm_R l g d iX12_canSet [.ref 0, jm_i v1, jm_i v2, jm_i v3] m1 (jm_qi fun z4 m3 => (¬ z4 = 0 → jm_rg v1 ∧ (¬ v1 = 0 → jm_V l g (d + 1) iX12_set 30 [(0, .ref 0), (1, jm_i v1), (2, jm_i v2), (3, jm_i v3)] [] m3 Q) ∧ (v1 = 0 → ∀ m8, m8 = jm_wr m3 0 9 (jm_xor v3 953) → jm_V l g (d + 1) iX12_set 30 [(0, .ref 0), (1, jm_i v1), (2, jm_i v2), (3, jm_i v3)] [] m8 Q)) ∧ (z4 = 0 → Q (some (jm_i 0)) m3))) : jm_R l g (d + 1) iX12_set [.ref 0, jm_i v1, jm_i v2, jm_i v3] mu Q := by
  refine jm_enter [(0, .ref 0), (1, jm_i v1), (2, jm_i v2), (3, jm_i v3)] (by decide) (Nat.le_of_ble_eq_true rfl) rfl ?_
  refine jm_mrI (fun hm0 => ?_)
  refine jm_aload_n (pc := 0) 0 dX12_set_0 rfl ?_
  refine jm_iconst (pc := 1) dX12_set_1 ?_
  refine jm_put (pc := 2) 0 dX12_set_2 fX12_104 ftX12 (fun q h => by cases h; rfl) (jm_nI _) (jm_fI _) (cR0 hg) rfl ⟨by decide, by decide⟩ ?_
  have h := h _ rfl
  refine jm_mrI (fun hm2 => ?_)
  refine jm_aload_n (pc := 5) 0 dX12_set_5 rfl ?_
  refine jm_iload_n (pc := 6) 1 dX12_set_6 rfl ?_
  refine jm_iload_n (pc := 7) 2 dX12_set_7 rfl ?_
  refine jm_iload_n (pc := 8) 3 dX12_set_8 rfl ?_
  refine jm_callvi (pc := 9) (As := [_, _, _]) (st := []) iX12_canSet dX12_set_9 mX12_139 (cR0 hg) ⟨_, rfl, rfl⟩ rfl rfl (Nat.le_of_ble_eq_true rfl) h (fun z4 m3 hz5 h hm6 => ?_)
  refine jm_if_ne (pc := 12) 17 dX12_set_12 rfl hz5 (fun q => ?_) (fun q => ?_)
  · have h := h.1 q
    refine jm_iload_n (pc := 17) 1 dX12_set_17 rfl ?_
    have hg7 := h.1
    have h := h.2
    refine jm_if_ne (pc := 18) 30 dX12_set_18 rfl hg7 (fun q => ?_) (fun q => ?_)
    · have h := h.1 q
      exact jm_sub [0, 1, 2, 3] rfl h
    · have h := h.2 q
      refine jm_aload_n (pc := 21) 0 dX12_set_21 rfl ?_
      refine jm_iload_n (pc := 22) 3 dX12_set_22 rfl ?_
      refine jm_sipush (pc := 23) dX12_set_23 (by decide) ?_
      refine jm_ixor (pc := 26) dX12_set_26 ?_
      refine jm_put (pc := 27) 9 dX12_set_27 fX12_112 ftX12 (fun q h => by cases h; rfl) (jm_nI _) (jm_fI _) (cR0 hg) rfl (jm_rgT _) ?_
      have h := h _ rfl
      refine jm_mrI (fun hm9 => ?_)
      exact jm_sub [0, 1, 2, 3] rfl h
  · have h := h.2 q
    refine jm_iconst (pc := 15) dX12_set_15 ?_
    exact jm_zret (pc := 16) dX12_set_16 rfl (Or.inl rfl) h
theorem dX12_types_0 : decode cX12_types 0 = .ok (.bipush 24, 2) := by decide +kernel
theorem dX12_types_2 : decode cX12_types 2 = .ok (.istore_n 2, 1) := by decide +kernel
theorem dX12_types_3 : decode cX12_types 3 = .ok (.iload_n 2, 1) := by decide +kernel
theorem dX12_types_4 : decode cX12_types 4 = .ok (.ifCond .lt 35, 3) := by decide +kernel
theorem dX12_types_7 : decode cX12_types 7 = .ok (.aload_n 0, 1) := by decide +kernel
theorem dX12_types_8 : decode cX12_types 8 = .ok (.getfield 28, 3) := by decide +kernel
theorem dX12_types_11 : decode cX12_types 11 = .ok (.aload_n 0, 1) := by decide +kernel
theorem dX12_types_12 : decode cX12_types 12 = .ok (.getfield 146, 3) := by decide +kernel
theorem dX12_types_15 : decode cX12_types 15 = .ok (.iload_n 1, 1) := by decide +kernel
theorem dX12_types_16 : decode cX12_types 16 = .ok (.iload_n 2, 1) := by decide +kernel
theorem dX12_types_17 : decode cX12_types 17 = .ok (.ishr, 1) := by decide +kernel
theorem dX12_types_18 : decode cX12_types 18 = .ok (.sipush 255, 3) := by decide +kernel
theorem dX12_types_21 : decode cX12_types 21 = .ok (.iand, 1) := by decide +kernel
theorem dX12_types_22 : decode cX12_types 22 = .ok (.iastore, 1) := by decide +kernel
theorem dX12_types_23 : decode cX12_types 23 = .ok (.aload_n 0, 1) := by decide +kernel
theorem dX12_types_24 : decode cX12_types 24 = .ok (.aload_n 0, 1) := by decide +kernel
theorem dX12_types_25 : decode cX12_types 25 = .ok (.getfield 146, 3) := by decide +kernel
theorem dX12_types_28 : decode cX12_types 28 = .ok (.iconst 1, 1) := by decide +kernel
theorem dX12_types_29 : decode cX12_types 29 = .ok (.iadd, 1) := by decide +kernel
theorem dX12_types_30 : decode cX12_types 30 = .ok (.putfield 146, 3) := by decide +kernel
theorem dX12_types_33 : decode cX12_types 33 = .ok (.iinc 2 (-8), 3) := by decide +kernel
theorem dX12_types_36 : decode cX12_types 36 = .ok (.goto (-33), 3) := by decide +kernel
theorem dX12_types_39 : decode cX12_types 39 = .ok (.return_, 1) := by decide +kernel
theorem bX12_types_3 {l : Launch} {g : jm_G} {d : Nat} {v1 v2 : Int} (hg : jm_HR g) {mu : jm_M} {Q : Option Value → jm_M → Prop} (h : jm_rg v2 ∧ (v2 < 0 → Q none mu) ∧ (0 ≤ v2 → (0 ≤ (mu.1 0 13) ∧ (mu.1 0 13) < 400) ∧ ∀ m3, m3 = jm_wr mu 7 (mu.1 0 13) (jm_and (jm_shr v1 v2) 255) → jm_rg ((m3.1 0 13) + 1) ∧ ∀ m6, m6 = jm_wr m3 0 13 ((m3.1 0 13) + 1) → jm_V l g (d + 1) iX12_types 3 [(0, .ref 0), (1, jm_i v1), (2, jm_i (v2 + (-8)))] [] m6 Q)) : jm_V l g (d + 1) iX12_types 3 [(0, .ref 0), (1, jm_i v1), (2, jm_i v2)] [] mu Q := by
  refine jm_mrI (fun hm0 => ?_)
  refine jm_iload_n (pc := 3) 2 dX12_types_3 rfl ?_
  have hg1 := h.1
  have h := h.2
  refine jm_if_lt (pc := 4) 39 dX12_types_4 rfl hg1 (fun q => ?_) (fun q => ?_)
  · have h := h.1 q
    exact jm_vret (pc := 39) dX12_types_39 rfl h
  · have h := h.2 q
    refine jm_aload_n (pc := 7) 0 dX12_types_7 rfl ?_
    refine jm_getr (pc := 8) 12 dX12_types_8 fX12_28 (cR0 hg) rfl ?_
    refine jm_aload_n (pc := 11) 0 dX12_types_11 rfl ?_
    refine jm_geti (pc := 12) 13 dX12_types_12 fX12_146 (cR0 hg) rfl ?_
    refine jm_iload_n (pc := 15) 1 dX12_types_15 rfl ?_
    refine jm_iload_n (pc := 16) 2 dX12_types_16 rfl ?_
    refine jm_ishr (pc := 17) dX12_types_17 ?_
    refine jm_sipush (pc := 18) dX12_types_18 (by decide) ?_
    refine jm_iand (pc := 21) dX12_types_21 ?_
    have hg2 := h.1
    have h := h.2
    refine jm_iast (pc := 22) dX12_types_22 (cR7 hg) (by decide) hg2.1 hg2.2 (jm_rgT _) ?_
    have h := h _ rfl
    refine jm_mrI (fun hm4 => ?_)
    refine jm_aload_n (pc := 23) 0 dX12_types_23 rfl ?_
    refine jm_aload_n (pc := 24) 0 dX12_types_24 rfl ?_
    refine jm_geti (pc := 25) 13 dX12_types_25 fX12_146 (cR0 hg) rfl ?_
    refine jm_iconst (pc := 28) dX12_types_28 ?_
    refine jm_iadd (pc := 29) dX12_types_29 ?_
    have hg5 := h.1
    have h := h.2
    refine jm_put (pc := 30) 13 dX12_types_30 fX12_146 ftX12 (fun q h => by cases h; rfl) (jm_nI _) (jm_fI _) (cR0 hg) rfl hg5 ?_
    have h := h _ rfl
    refine jm_mrI (fun hm7 => ?_)
    refine jm_iinc (pc := 33) (lv' := [(2, _), (0, _), (1, _)]) 2 dX12_types_33 rfl (by decide) rfl ?_
    refine jm_goto (pc := 36) 3 dX12_types_36 rfl ?_
    exact jm_sub [1, 2, 0] rfl h
theorem eX12_types {l : Launch} {g : jm_G} {d : Nat} {v1 : Int} (hg : jm_HR g) {mu : jm_M} {Q : Option Value → jm_M → Prop} (h : jm_V l g (d + 1) iX12_types 3 [(0, .ref 0), (1, jm_i v1), (2, jm_i 24)] [] mu Q) : jm_R l g (d + 1) iX12_types [.ref 0, jm_i v1] mu Q := by
  refine jm_enter [(0, .ref 0), (1, jm_i v1)] (by decide) (Nat.le_of_ble_eq_true rfl) rfl ?_
  refine jm_mrI (fun hm0 => ?_)
  refine jm_bipush (pc := 0) dX12_types_0 (by decide) ?_
  refine jm_istore_n (pc := 2) (lv' := [(2, _), (0, _), (1, _)]) dX12_types_2 (by decide) rfl ?_
  exact jm_sub [1, 2, 0] rfl h
theorem dX12_feed_0 : decode cX12_feed 0 = .ok (.aload_n 0, 1) := by decide +kernel
theorem dX12_feed_1 : decode cX12_feed 1 = .ok (.iconst 0, 1) := by decide +kernel
theorem dX12_feed_2 : decode cX12_feed 2 = .ok (.putfield 104, 3) := by decide +kernel
theorem dX12_feed_5 : decode cX12_feed 5 = .ok (.aload_n 0, 1) := by decide +kernel
theorem dX12_feed_6 : decode cX12_feed 6 = .ok (.getfield 146, 3) := by decide +kernel
theorem dX12_feed_9 : decode cX12_feed 9 = .ok (.sipush 380, 3) := by decide +kernel
theorem dX12_feed_12 : decode cX12_feed 12 = .ok (.if_icmp .le 5, 3) := by decide +kernel
theorem dX12_feed_15 : decode cX12_feed 15 = .ok (.iconst (-1), 1) := by decide +kernel
theorem dX12_feed_16 : decode cX12_feed 16 = .ok (.ireturn, 1) := by decide +kernel
theorem dX12_feed_17 : decode cX12_feed 17 = .ok (.aload_n 0, 1) := by decide +kernel
theorem dX12_feed_18 : decode cX12_feed 18 = .ok (.iload_n 1, 1) := by decide +kernel
theorem dX12_feed_19 : decode cX12_feed 19 = .ok (.invokevirtual 149, 3) := by decide +kernel
theorem dX12_feed_22 : decode cX12_feed 22 = .ok (.aload_n 0, 1) := by decide +kernel
theorem dX12_feed_23 : decode cX12_feed 23 = .ok (.iload_n 2, 1) := by decide +kernel
theorem dX12_feed_24 : decode cX12_feed 24 = .ok (.invokevirtual 149, 3) := by decide +kernel
theorem dX12_feed_27 : decode cX12_feed 27 = .ok (.aload_n 0, 1) := by decide +kernel
theorem dX12_feed_28 : decode cX12_feed 28 = .ok (.iload_n 3, 1) := by decide +kernel
theorem dX12_feed_29 : decode cX12_feed 29 = .ok (.invokevirtual 149, 3) := by decide +kernel
theorem dX12_feed_32 : decode cX12_feed 32 = .ok (.aload_n 0, 1) := by decide +kernel
theorem dX12_feed_33 : decode cX12_feed 33 = .ok (.iload 4, 2) := by decide +kernel
theorem dX12_feed_35 : decode cX12_feed 35 = .ok (.invokevirtual 149, 3) := by decide +kernel
theorem dX12_feed_38 : decode cX12_feed 38 = .ok (.aload_n 0, 1) := by decide +kernel
theorem dX12_feed_39 : decode cX12_feed 39 = .ok (.iload 5, 2) := by decide +kernel
theorem dX12_feed_41 : decode cX12_feed 41 = .ok (.invokevirtual 149, 3) := by decide +kernel
theorem dX12_feed_44 : decode cX12_feed 44 = .ok (.aload_n 0, 1) := by decide +kernel
theorem dX12_feed_45 : decode cX12_feed 45 = .ok (.getfield 146, 3) := by decide +kernel
theorem dX12_feed_48 : decode cX12_feed 48 = .ok (.ireturn, 1) := by decide +kernel
theorem eX12_feed {l : Launch} {g : jm_G} {d : Nat} {v1 v2 v3 v4 v5 : Int} (hg : jm_HR g) {mu : jm_M} {Q : Option Value → jm_M → Prop} (h : ∀ m1, m1 = jm_wr mu 0 0 0 → ((m1.1 0 13) ≤ 380 → jm_R l g d iX12_types [.ref 0, jm_i v1] m1 (jm_qv fun m3 => jm_R l g d iX12_types [.ref 0, jm_i v2] m3 (jm_qv fun m7 => jm_R l g d iX12_types [.ref 0, jm_i v3] m7 (jm_qv fun m11 => jm_R l g d iX12_types [.ref 0, jm_i v4] m11 (jm_qv fun m15 => jm_R l g d iX12_types [.ref 0, jm_i v5] m15 (jm_qv fun m19 => Q (some (jm_i (m19.1 0 13))) m19)))))) ∧ (380 < (m1.1 0 13) → Q (some (jm_i (-1))) m1)) : jm_R l g (d + 1) iX12_feed [.ref 0, jm_i v1, jm_i v2, jm_i v3, jm_i v4, jm_i v5] mu Q := by
  refine jm_enter [(0, .ref 0), (1, jm_i v1), (2, jm_i v2), (3, jm_i v3), (4, jm_i v4), (5, jm_i v5)] (by decide) (Nat.le_of_ble_eq_true rfl) rfl ?_
  refine jm_mrI (fun hm0 => ?_)
  refine jm_aload_n (pc := 0) 0 dX12_feed_0 rfl ?_
  refine jm_iconst (pc := 1) dX12_feed_1 ?_
  refine jm_put (pc := 2) 0 dX12_feed_2 fX12_104 ftX12 (fun q h => by cases h; rfl) (jm_nI _) (jm_fI _) (cR0 hg) rfl ⟨by decide, by decide⟩ ?_
  have h := h _ rfl
  refine jm_mrI (fun hm2 => ?_)
  refine jm_aload_n (pc := 5) 0 dX12_feed_5 rfl ?_
  refine jm_geti (pc := 6) 13 dX12_feed_6 fX12_146 (cR0 hg) rfl ?_
  refine jm_sipush (pc := 9) dX12_feed_9 (by decide) ?_
  refine jm_icmp_le (pc := 12) 17 dX12_feed_12 rfl (hm2 _ _) ⟨by decide, by decide⟩ (fun q => ?_) (fun q => ?_)
  · have h := h.1 q
    refine jm_aload_n (pc := 17) 0 dX12_feed_17 rfl ?_
    refine jm_iload_n (pc := 18) 1 dX12_feed_18 rfl ?_
    refine jm_callvv (pc := 19) (As := [_]) (st := []) iX12_types dX12_feed_19 mX12_149 (cR0 hg) ⟨_, rfl, rfl⟩ rfl rfl (Nat.le_of_ble_eq_true rfl) h (fun m3 h hm6 => ?_)
    refine jm_aload_n (pc := 22) 0 dX12_feed_22 rfl ?_
    refine jm_iload_n (pc := 23) 2 dX12_feed_23 rfl ?_
    refine jm_callvv (pc := 24) (As := [_]) (st := []) iX12_types dX12_feed_24 mX12_149 (cR0 hg) ⟨_, rfl, rfl⟩ rfl rfl (Nat.le_of_ble_eq_true rfl) h (fun m7 h hm10 => ?_)
    refine jm_aload_n (pc := 27) 0 dX12_feed_27 rfl ?_
    refine jm_iload_n (pc := 28) 3 dX12_feed_28 rfl ?_
    refine jm_callvv (pc := 29) (As := [_]) (st := []) iX12_types dX12_feed_29 mX12_149 (cR0 hg) ⟨_, rfl, rfl⟩ rfl rfl (Nat.le_of_ble_eq_true rfl) h (fun m11 h hm14 => ?_)
    refine jm_aload_n (pc := 32) 0 dX12_feed_32 rfl ?_
    refine jm_iload (pc := 33) 4 dX12_feed_33 rfl ?_
    refine jm_callvv (pc := 35) (As := [_]) (st := []) iX12_types dX12_feed_35 mX12_149 (cR0 hg) ⟨_, rfl, rfl⟩ rfl rfl (Nat.le_of_ble_eq_true rfl) h (fun m15 h hm18 => ?_)
    refine jm_aload_n (pc := 38) 0 dX12_feed_38 rfl ?_
    refine jm_iload (pc := 39) 5 dX12_feed_39 rfl ?_
    refine jm_callvv (pc := 41) (As := [_]) (st := []) iX12_types dX12_feed_41 mX12_149 (cR0 hg) ⟨_, rfl, rfl⟩ rfl rfl (Nat.le_of_ble_eq_true rfl) h (fun m19 h hm22 => ?_)
    refine jm_aload_n (pc := 44) 0 dX12_feed_44 rfl ?_
    refine jm_geti (pc := 45) 13 dX12_feed_45 fX12_146 (cR0 hg) rfl ?_
    exact jm_iret (pc := 48) dX12_feed_48 rfl h
  · have h := h.2 q
    refine jm_iconst (pc := 15) dX12_feed_15 ?_
    exact jm_iret (pc := 16) dX12_feed_16 rfl h
theorem dX12_end_0 : decode cX12_end 0 = .ok (.aload_n 0, 1) := by decide +kernel
theorem dX12_end_1 : decode cX12_end 1 = .ok (.iconst 0, 1) := by decide +kernel
theorem dX12_end_2 : decode cX12_end 2 = .ok (.putfield 104, 3) := by decide +kernel
theorem dX12_end_5 : decode cX12_end 5 = .ok (.aload_n 0, 1) := by decide +kernel
theorem dX12_end_6 : decode cX12_end 6 = .ok (.iload_n 1, 1) := by decide +kernel
theorem dX12_end_7 : decode cX12_end 7 = .ok (.iconst 0, 1) := by decide +kernel
theorem dX12_end_8 : decode cX12_end 8 = .ok (.aload_n 0, 1) := by decide +kernel
theorem dX12_end_9 : decode cX12_end 9 = .ok (.getfield 146, 3) := by decide +kernel
theorem dX12_end_12 : decode cX12_end 12 = .ok (.invokevirtual 128, 3) := by decide +kernel
theorem dX12_end_15 : decode cX12_end 15 = .ok (.ifCond .ne 5, 3) := by decide +kernel
theorem dX12_end_18 : decode cX12_end 18 = .ok (.iconst 0, 1) := by decide +kernel
theorem dX12_end_19 : decode cX12_end 19 = .ok (.ireturn, 1) := by decide +kernel
theorem dX12_end_20 : decode cX12_end 20 = .ok (.aload_n 0, 1) := by decide +kernel
theorem dX12_end_21 : decode cX12_end 21 = .ok (.iload_n 1, 1) := by decide +kernel
theorem dX12_end_22 : decode cX12_end 22 = .ok (.putfield 146, 3) := by decide +kernel
theorem dX12_end_25 : decode cX12_end 25 = .ok (.iconst 1, 1) := by decide +kernel
theorem dX12_end_26 : decode cX12_end 26 = .ok (.ireturn, 1) := by decide +kernel
theorem eX12_end {l : Launch} {g : jm_G} {d : Nat} {v1 : Int} (hg : jm_HR g) {mu : jm_M} {Q : Option Value → jm_M → Prop} (h : ∀ m1, m1 = jm_wr mu 0 0 0 → jm_rg v1 ∧ (0 ≤ v1 ∧ v1 ≤ (m1.1 0 13) → ∀ m4, m4 = jm_wr m1 0 13 v1 → Q (some (jm_i 1)) m4) ∧ (¬ (0 ≤ v1 ∧ v1 ≤ (m1.1 0 13)) → Q (some (jm_i 0)) m1)) : jm_R l g (d + 2) iX12_end [.ref 0, jm_i v1] mu Q := by
  refine jm_enter [(0, .ref 0), (1, jm_i v1)] (by decide) (Nat.le_of_ble_eq_true rfl) rfl ?_
  refine jm_mrI (fun hm0 => ?_)
  refine jm_aload_n (pc := 0) 0 dX12_end_0 rfl ?_
  refine jm_iconst (pc := 1) dX12_end_1 ?_
  refine jm_put (pc := 2) 0 dX12_end_2 fX12_104 ftX12 (fun q h => by cases h; rfl) (jm_nI _) (jm_fI _) (cR0 hg) rfl ⟨by decide, by decide⟩ ?_
  have h := h _ rfl
  refine jm_mrI (fun hm2 => ?_)
  refine jm_aload_n (pc := 5) 0 dX12_end_5 rfl ?_
  refine jm_iload_n (pc := 6) 1 dX12_end_6 rfl ?_
  refine jm_iconst (pc := 7) dX12_end_7 ?_
  refine jm_aload_n (pc := 8) 0 dX12_end_8 rfl ?_
  refine jm_geti (pc := 9) 13 dX12_end_9 fX12_146 (cR0 hg) rfl ?_
  have hg3 := h.1
  have h := h.2
  refine jm_inlvi (pc := 12) (As := [_, _, _]) (st := []) iX12_isIn dX12_end_12 mX12_128 (cR0 hg) ⟨_, rfl, rfl⟩ rfl rfl (Nat.le_of_ble_eq_true rfl) (pX12_isIn hg hg3 ⟨by decide, by decide⟩ (hm2 _ _) (fun q => jm_kIi ?_) (fun q => jm_kIi ?_))
  · have h := h.1 q
    refine jm_if_ne (pc := 15) 20 dX12_end_15 rfl ⟨by decide, by decide⟩ (fun q => ?_) (fun q => absurd q (by decide))
    refine jm_aload_n (pc := 20) 0 dX12_end_20 rfl ?_
    refine jm_iload_n (pc := 21) 1 dX12_end_21 rfl ?_
    refine jm_put (pc := 22) 13 dX12_end_22 fX12_146 ftX12 (fun q h => by cases h; rfl) (jm_nI _) (jm_fI _) (cR0 hg) rfl hg3 ?_
    have h := h _ rfl
    refine jm_mrI (fun hm5 => ?_)
    refine jm_iconst (pc := 25) dX12_end_25 ?_
    exact jm_zret (pc := 26) dX12_end_26 rfl (Or.inr rfl) h
  · have h := h.2 q
    refine jm_if_ne (pc := 15) 20 dX12_end_15 rfl ⟨by decide, by decide⟩ (fun q => absurd q (by decide)) (fun q => ?_)
    refine jm_iconst (pc := 18) dX12_end_18 ?_
    exact jm_zret (pc := 19) dX12_end_19 rfl (Or.inl rfl) h
theorem dX12_raw_0 : decode cX12_raw 0 = .ok (.iload_n 1, 1) := by decide +kernel
theorem dX12_raw_1 : decode cX12_raw 1 = .ok (.aload_n 0, 1) := by decide +kernel
theorem dX12_raw_2 : decode cX12_raw 2 = .ok (.getfield 146, 3) := by decide +kernel
theorem dX12_raw_5 : decode cX12_raw 5 = .ok (.if_icmp .ge 12, 3) := by decide +kernel
theorem dX12_raw_8 : decode cX12_raw 8 = .ok (.aload_n 0, 1) := by decide +kernel
theorem dX12_raw_9 : decode cX12_raw 9 = .ok (.getfield 28, 3) := by decide +kernel
theorem dX12_raw_12 : decode cX12_raw 12 = .ok (.iload_n 1, 1) := by decide +kernel
theorem dX12_raw_13 : decode cX12_raw 13 = .ok (.iaload, 1) := by decide +kernel
theorem dX12_raw_14 : decode cX12_raw 14 = .ok (.goto 4, 3) := by decide +kernel
theorem dX12_raw_17 : decode cX12_raw 17 = .ok (.iconst (-1), 1) := by decide +kernel
theorem dX12_raw_18 : decode cX12_raw 18 = .ok (.ireturn, 1) := by decide +kernel
theorem eX12_raw {l : Launch} {g : jm_G} {d : Nat} {v1 : Int} (hg : jm_HR g) {mu : jm_M} {Q : Option Value → jm_M → Prop} (h : jm_rg v1 ∧ ((mu.1 0 13) ≤ v1 → Q (some (jm_i (-1))) mu) ∧ (v1 < (mu.1 0 13) → (0 ≤ v1 ∧ v1 < 400) ∧ Q (some (jm_i (mu.1 7 v1))) mu)) : jm_R l g (d + 1) iX12_raw [.ref 0, jm_i v1] mu Q := by
  refine jm_enter [(0, .ref 0), (1, jm_i v1)] (by decide) (Nat.le_of_ble_eq_true rfl) rfl ?_
  refine jm_mrI (fun hm0 => ?_)
  refine jm_iload_n (pc := 0) 1 dX12_raw_0 rfl ?_
  refine jm_aload_n (pc := 1) 0 dX12_raw_1 rfl ?_
  refine jm_geti (pc := 2) 13 dX12_raw_2 fX12_146 (cR0 hg) rfl ?_
  have hg1 := h.1
  have h := h.2
  refine jm_icmp_ge (pc := 5) 17 dX12_raw_5 rfl hg1 (hm0 _ _) (fun q => ?_) (fun q => ?_)
  · have h := h.1 q
    refine jm_iconst (pc := 17) dX12_raw_17 ?_
    exact jm_iret (pc := 18) dX12_raw_18 rfl h
  · have h := h.2 q
    refine jm_aload_n (pc := 8) 0 dX12_raw_8 rfl ?_
    refine jm_getr (pc := 9) 12 dX12_raw_9 fX12_28 (cR0 hg) rfl ?_
    refine jm_iload_n (pc := 12) 1 dX12_raw_12 rfl ?_
    have hg2 := h.1
    have h := h.2
    refine jm_iald (pc := 13) dX12_raw_13 (cR7 hg) (by decide) hg2.1 hg2.2 ?_
    refine jm_goto (pc := 14) 18 dX12_raw_14 rfl ?_
    exact jm_iret (pc := 18) dX12_raw_18 rfl h
theorem dX12_isLetter_0 : decode cX12_isLetter 0 = .ok (.aload_n 0, 1) := by decide +kernel
theorem dX12_isLetter_1 : decode cX12_isLetter 1 = .ok (.iload_n 1, 1) := by decide +kernel
theorem dX12_isLetter_2 : decode cX12_isLetter 2 = .ok (.bipush 97, 2) := by decide +kernel
theorem dX12_isLetter_4 : decode cX12_isLetter 4 = .ok (.bipush 122, 2) := by decide +kernel
theorem dX12_isLetter_6 : decode cX12_isLetter 6 = .ok (.invokevirtual 128, 3) := by decide +kernel
theorem dX12_isLetter_9 : decode cX12_isLetter 9 = .ok (.ifCond .ne 15, 3) := by decide +kernel
theorem dX12_isLetter_12 : decode cX12_isLetter 12 = .ok (.aload_n 0, 1) := by decide +kernel
theorem dX12_isLetter_13 : decode cX12_isLetter 13 = .ok (.iload_n 1, 1) := by decide +kernel
theorem dX12_isLetter_14 : decode cX12_isLetter 14 = .ok (.bipush 65, 2) := by decide +kernel
theorem dX12_isLetter_16 : decode cX12_isLetter 16 = .ok (.bipush 90, 2) := by decide +kernel
theorem dX12_isLetter_18 : decode cX12_isLetter 18 = .ok (.invokevirtual 128, 3) := by decide +kernel
theorem dX12_isLetter_21 : decode cX12_isLetter 21 = .ok (.ifCond .eq 7, 3) := by decide +kernel
theorem dX12_isLetter_24 : decode cX12_isLetter 24 = .ok (.iconst 1, 1) := by decide +kernel
theorem dX12_isLetter_25 : decode cX12_isLetter 25 = .ok (.goto 4, 3) := by decide +kernel
theorem dX12_isLetter_28 : decode cX12_isLetter 28 = .ok (.iconst 0, 1) := by decide +kernel
theorem dX12_isLetter_29 : decode cX12_isLetter 29 = .ok (.ireturn, 1) := by decide +kernel
theorem eX12_isLetter {l : Launch} {g : jm_G} {d : Nat} {v1 : Int} (hg : jm_HR g) {mu : jm_M} {Q : Option Value → jm_M → Prop} (h : jm_rg v1 ∧ (97 ≤ v1 ∧ v1 ≤ 122 → Q (some (jm_i 1)) mu) ∧ (¬ (97 ≤ v1 ∧ v1 ≤ 122) → (65 ≤ v1 ∧ v1 ≤ 90 → Q (some (jm_i 1)) mu) ∧ (¬ (65 ≤ v1 ∧ v1 ≤ 90) → Q (some (jm_i 0)) mu))) : jm_R l g (d + 2) iX12_isLetter [.ref 0, jm_i v1] mu Q := by
  refine jm_enter [(0, .ref 0), (1, jm_i v1)] (by decide) (Nat.le_of_ble_eq_true rfl) rfl ?_
  refine jm_mrI (fun hm0 => ?_)
  refine jm_aload_n (pc := 0) 0 dX12_isLetter_0 rfl ?_
  refine jm_iload_n (pc := 1) 1 dX12_isLetter_1 rfl ?_
  refine jm_bipush (pc := 2) dX12_isLetter_2 (by decide) ?_
  refine jm_bipush (pc := 4) dX12_isLetter_4 (by decide) ?_
  have hg1 := h.1
  have h := h.2
  refine jm_inlvi (pc := 6) (As := [_, _, _]) (st := []) iX12_isIn dX12_isLetter_6 mX12_128 (cR0 hg) ⟨_, rfl, rfl⟩ rfl rfl (Nat.le_of_ble_eq_true rfl) (pX12_isIn hg hg1 ⟨by decide, by decide⟩ ⟨by decide, by decide⟩ (fun q => jm_kIi ?_) (fun q => jm_kIi ?_))
  · have h := h.1 q
    refine jm_if_ne (pc := 9) 24 dX12_isLetter_9 rfl ⟨by decide, by decide⟩ (fun q => ?_) (fun q => absurd q (by decide))
    refine jm_iconst (pc := 24) dX12_isLetter_24 ?_
    refine jm_goto (pc := 25) 29 dX12_isLetter_25 rfl ?_
    exact jm_zret (pc := 29) dX12_isLetter_29 rfl (Or.inr rfl) h
  · have h := h.2 q
    refine jm_if_ne (pc := 9) 24 dX12_isLetter_9 rfl ⟨by decide, by decide⟩ (fun q => absurd q (by decide)) (fun q => ?_)
    refine jm_aload_n (pc := 12) 0 dX12_isLetter_12 rfl ?_
    refine jm_iload_n (pc := 13) 1 dX12_isLetter_13 rfl ?_
    refine jm_bipush (pc := 14) dX12_isLetter_14 (by decide) ?_
    refine jm_bipush (pc := 16) dX12_isLetter_16 (by decide) ?_
    refine jm_inlvi (pc := 18) (As := [_, _, _]) (st := []) iX12_isIn dX12_isLetter_18 mX12_128 (cR0 hg) ⟨_, rfl, rfl⟩ rfl rfl (Nat.le_of_ble_eq_true rfl) (pX12_isIn hg hg1 ⟨by decide, by decide⟩ ⟨by decide, by decide⟩ (fun q => jm_kIi ?_) (fun q => jm_kIi ?_))
    · have h := h.1 q
      refine jm_if_eq (pc := 21) 28 dX12_isLetter_21 rfl ⟨by decide, by decide⟩ (fun q => absurd q (by decide)) (fun q => ?_)
      refine jm_iconst (pc := 24) dX12_isLetter_24 ?_
      refine jm_goto (pc := 25) 29 dX12_isLetter_25 rfl ?_
      exact jm_zret (pc := 29) dX12_isLetter_29 rfl (Or.inr rfl) h
    · have h := h.2 q
      refine jm_if_eq (pc := 21) 28 dX12_isLetter_21 rfl ⟨by decide, by decide⟩ (fun q => ?_) (fun q => absurd q (by decide))
      refine jm_iconst (pc := 28) dX12_isLetter_28 ?_
      exact jm_zret (pc := 29) dX12_isLetter_29 rfl (Or.inl rfl) h
theorem pX12_isLetter {l : Launch} {g : jm_G} {d : Nat} {v1 : Int} (hg : jm_HR g) {mu : jm_M} {Q : Option Value → jm_M → Prop} (o0 : jm_rg v1) (h1 : (((97 ≤ v1 ∧ v1 ≤ 122)) ∨ ((¬ (97 ≤ v1 ∧ v1 ≤ 122)) ∧ (65 ≤ v1 ∧ v1 ≤ 90))) → Q (some (jm_i 1)) mu) (h0 : ¬ (((97 ≤ v1 ∧ v1 ≤ 122)) ∨ ((¬ (97 ≤ v1 ∧ v1 ≤ 122)) ∧ (65 ≤ v1 ∧ v1 ≤ 90))) → Q (some (jm_i 0)) mu) : jm_R l g (d + 2) iX12_isLetter [.ref 0, jm_i v1] mu Q := by
  refine eX12_isLetter hg ?_
  refine ⟨o0, ?_⟩
  refine ⟨fun q0 => ?_, fun q0 => ?_⟩
  · exact h1 (Or.inl (q0))
  · refine ⟨fun q1 => ?_, fun q1 => ?_⟩
    · exact h1 (Or.inr (⟨q0, q1⟩))
    · exact h0 (by omega)
theorem dX12_isDigit_0 : decode cX12_isDigit 0 = .ok (.aload_n 0, 1) := by decide +kernel
theorem dX12_isDigit_1 : decode cX12_isDigit 1 = .ok (.iload_n 1, 1) := by decide +kernel
theorem dX12_isDigit_2 : decode cX12_isDigit 2 = .ok (.bipush 48, 2) := by decide +kernel
theorem dX12_isDigit_4 : decode cX12_isDigit 4 = .ok (.bipush 57, 2) := by decide +kernel
theorem dX12_isDigit_6 : decode cX12_isDigit 6 = .ok (.invokevirtual 128, 3) := by decide +kernel
theorem dX12_isDigit_9 : decode cX12_isDigit 9 = .ok (.ireturn, 1) := by decide +kernel
theorem eX12_isDigit {l : Launch} {g : jm_G} {d : Nat} {v1 : Int} (hg : jm_HR g) {mu : jm_M} {Q : Option Value → jm_M → Prop} (h : jm_rg v1 ∧ (48 ≤ v1 ∧ v1 ≤ 57 → Q (some (jm_i 1)) mu) ∧ (¬ (48 ≤ v1 ∧ v1 ≤ 57) → Q (some (jm_i 0)) mu)) : jm_R l g (d + 2) iX12_isDigit [.ref 0, jm_i v1] mu Q := by
  refine jm_enter [(0, .ref 0), (1, jm_i v1)] (by decide) (Nat.le_of_ble_eq_true rfl) rfl ?_
  refine jm_mrI (fun hm0 => ?_)
  refine jm_aload_n (pc := 0) 0 dX12_isDigit_0 rfl ?_
  refine jm_iload_n (pc := 1) 1 dX12_isDigit_1 rfl ?_
  refine jm_bipush (pc := 2) dX12_isDigit_2 (by decide) ?_
  refine jm_bipush (pc := 4) dX12_isDigit_4 (by decide) ?_
  have hg1 := h.1
  have h := h.2
  refine jm_inlvi (pc := 6) (As := [_, _, _]) (st := []) iX12_isIn dX12_isDigit_6 mX12_128 (cR0 hg) ⟨_, rfl, rfl⟩ rfl rfl (Nat.le_of_ble_eq_true rfl) (pX12_isIn hg hg1 ⟨by decide, by decide⟩ ⟨by decide, by decide⟩ (fun q => jm_kIi ?_) (fun q => jm_kIi ?_))
  · have h := h.1 q
    exact jm_zret (pc := 9) dX12_isDigit_9 rfl (Or.inr rfl) h
  · have h := h.2 q
    exact jm_zret (pc := 9) dX12_isDigit_9 rfl (Or.inl rfl) h
theorem pX12_isDigit {l : Launch} {g : jm_G} {d : Nat} {v1 : Int} (hg : jm_HR g) {mu : jm_M} {Q : Option Value → jm_M → Prop} (o0 : jm_rg v1) (h1 : (48 ≤ v1 ∧ v1 ≤ 57) → Q (some (jm_i 1)) mu) (h0 : ¬ ((48 ≤ v1 ∧ v1 ≤ 57)) → Q (some (jm_i 0)) mu) : jm_R l g (d + 2) iX12_isDigit [.ref 0, jm_i v1] mu Q := by
  refine eX12_isDigit hg ?_
  refine ⟨o0, ?_⟩
  refine ⟨fun q0 => ?_, fun q0 => ?_⟩
  · exact h1 (q0)
  · exact h0 (by omega)
theorem dX12_isMarkSign_0 : decode cX12_isMarkSign 0 = .ok (.iload_n 1, 1) := by decide +kernel
theorem dX12_isMarkSign_1 : decode cX12_isMarkSign 1 = .ok (.bipush 59, 2) := by decide +kernel
theorem dX12_isMarkSign_3 : decode cX12_isMarkSign 3 = .ok (.if_icmp .eq 57, 3) := by decide +kernel
theorem dX12_isMarkSign_6 : decode cX12_isMarkSign 6 = .ok (.iload_n 1, 1) := by decide +kernel
theorem dX12_isMarkSign_7 : decode cX12_isMarkSign 7 = .ok (.bipush 43, 2) := by decide +kernel
theorem dX12_isMarkSign_9 : decode cX12_isMarkSign 9 = .ok (.if_icmp .eq 51, 3) := by decide +kernel
theorem dX12_isMarkSign_12 : decode cX12_isMarkSign 12 = .ok (.iload_n 1, 1) := by decide +kernel
theorem dX12_isMarkSign_13 : decode cX12_isMarkSign 13 = .ok (.bipush 45, 2) := by decide +kernel
theorem dX12_isMarkSign_15 : decode cX12_isMarkSign 15 = .ok (.if_icmp .eq 45, 3) := by decide +kernel
theorem dX12_isMarkSign_18 : decode cX12_isMarkSign 18 = .ok (.iload_n 1, 1) := by decide +kernel
theorem dX12_isMarkSign_19 : decode cX12_isMarkSign 19 = .ok (.bipush 42, 2) := by decide +kernel
theorem dX12_isMarkSign_21 : decode cX12_isMarkSign 21 = .ok (.if_icmp .eq 39, 3) := by decide +kernel
theorem dX12_isMarkSign_24 : decode cX12_isMarkSign 24 = .ok (.iload_n 1, 1) := by decide +kernel
theorem dX12_isMarkSign_25 : decode cX12_isMarkSign 25 = .ok (.bipush 47, 2) := by decide +kernel
theorem dX12_isMarkSign_27 : decode cX12_isMarkSign 27 = .ok (.if_icmp .eq 33, 3) := by decide +kernel
theorem dX12_isMarkSign_30 : decode cX12_isMarkSign 30 = .ok (.iload_n 1, 1) := by decide +kernel
theorem dX12_isMarkSign_31 : decode cX12_isMarkSign 31 = .ok (.bipush 40, 2) := by decide +kernel
theorem dX12_isMarkSign_33 : decode cX12_isMarkSign 33 = .ok (.if_icmp .eq 27, 3) := by decide +kernel
theorem dX12_isMarkSign_36 : decode cX12_isMarkSign 36 = .ok (.iload_n 1, 1) := by decide +kernel
theorem dX12_isMarkSign_37 : decode cX12_isMarkSign 37 = .ok (.bipush 41, 2) := by decide +kernel
theorem dX12_isMarkSign_39 : decode cX12_isMarkSign 39 = .ok (.if_icmp .eq 21, 3) := by decide +kernel
theorem dX12_isMarkSign_42 : decode cX12_isMarkSign 42 = .ok (.iload_n 1, 1) := by decide +kernel
theorem dX12_isMarkSign_43 : decode cX12_isMarkSign 43 = .ok (.bipush 60, 2) := by decide +kernel
theorem dX12_isMarkSign_45 : decode cX12_isMarkSign 45 = .ok (.if_icmp .eq 15, 3) := by decide +kernel
theorem dX12_isMarkSign_48 : decode cX12_isMarkSign 48 = .ok (.iload_n 1, 1) := by decide +kernel
theorem dX12_isMarkSign_49 : decode cX12_isMarkSign 49 = .ok (.bipush 61, 2) := by decide +kernel
theorem dX12_isMarkSign_51 : decode cX12_isMarkSign 51 = .ok (.if_icmp .eq 9, 3) := by decide +kernel
theorem dX12_isMarkSign_54 : decode cX12_isMarkSign 54 = .ok (.iload_n 1, 1) := by decide +kernel
theorem dX12_isMarkSign_55 : decode cX12_isMarkSign 55 = .ok (.bipush 62, 2) := by decide +kernel
theorem dX12_isMarkSign_57 : decode cX12_isMarkSign 57 = .ok (.if_icmp .ne 7, 3) := by decide +kernel
theorem dX12_isMarkSign_60 : decode cX12_isMarkSign 60 = .ok (.iconst 1, 1) := by decide +kernel
theorem dX12_isMarkSign_61 : decode cX12_isMarkSign 61 = .ok (.goto 4, 3) := by decide +kernel
theorem dX12_isMarkSign_64 : decode cX12_isMarkSign 64 = .ok (.iconst 0, 1) := by decide +kernel
theorem dX12_isMarkSign_65 : decode cX12_isMarkSign 65 = .ok (.ireturn, 1) := by decide +kernel
theorem eX12_isMarkSign {l : Launch} {g : jm_G} {d : Nat} {v1 : Int} (hg : jm_HR g) {mu : jm_M} {Q : Option Value → jm_M → Prop} (h : jm_rg v1 ∧ (v1 = 59 → Q (some (jm_i 1)) mu) ∧ (¬ v1 = 59 → (v1 = 43 → Q (some (jm_i 1)) mu) ∧ (¬ v1 = 43 → (v1 = 45 → Q (some (jm_i 1)) mu) ∧ (¬ v1 = 45 → (v1 = 42 → Q (some (jm_i 1)) mu) ∧ (¬ v1 = 42 → (v1 = 47 → Q (some (jm_i 1)) mu) ∧ (¬ v1 = 47 → (v1 = 40 → Q (some (jm_i 1)) mu) ∧ (¬ v1 = 40 → (v1 = 41 → Q (some (jm_i 1)) mu) ∧ (¬ v1 = 41 → (v1 = 60 → Q (some (jm_i 1)) mu) ∧ (¬ v1 = 60 → (v1 = 61 → Q (some (jm_i 1)) mu) ∧ (¬ v1 = 61 → (¬ v1 = 62 → Q (some (jm_i 0)) mu) ∧ (v1 = 62 → Q (some (jm_i 1)) mu))))))))))) : jm_R l g (d + 1) iX12_isMarkSign [.ref 0, jm_i v1] mu Q := by
  refine jm_enter [(0, .ref 0), (1, jm_i v1)] (by decide) (Nat.le_of_ble_eq_true rfl) rfl ?_
  refine jm_mrI (fun hm0 => ?_)
  refine jm_iload_n (pc := 0) 1 dX12_isMarkSign_0 rfl ?_
  refine jm_bipush (pc := 1) dX12_isMarkSign_1 (by decide) ?_
  have hg1 := h.1
  have h := h.2
  refine jm_icmp_eq (pc := 3) 60 dX12_isMarkSign_3 rfl hg1 ⟨by decide, by decide⟩ (fun q => ?_) (fun q => ?_)
  · have h := h.1 q
    refine jm_iconst (pc := 60) dX12_isMarkSign_60 ?_
    refine jm_goto (pc := 61) 65 dX12_isMarkSign_61 rfl ?_
    exact jm_zret (pc := 65) dX12_isMarkSign_65 rfl (Or.inr rfl) h
  · have h := h.2 q
    refine jm_iload_n (pc := 6) 1 dX12_isMarkSign_6 rfl ?_
    refine jm_bipush (pc := 7) dX12_isMarkSign_7 (by decide) ?_
    refine jm_icmp_eq (pc := 9) 60 dX12_isMarkSign_9 rfl hg1 ⟨by decide, by decide⟩ (fun q => ?_) (fun q => ?_)
    · have h := h.1 q
      refine jm_iconst (pc := 60) dX12_isMarkSign_60 ?_
      refine jm_goto (pc := 61) 65 dX12_isMarkSign_61 rfl ?_
      exact jm_zret (pc := 65) dX12_isMarkSign_65 rfl (Or.inr rfl) h
    · have h := h.2 q
      refine jm_iload_n (pc := 12) 1 dX12_isMarkSign_12 rfl ?_
      refine jm_bipush (pc := 13) dX12_isMarkSign_13 (by decide) ?_
      refine jm_icmp_eq (pc := 15) 60 dX12_isMarkSign_15 rfl hg1 ⟨by decide, by decide⟩ (fun q => ?_) (fun q => ?_)
      · have h := h.1 q
        refine jm_iconst (pc := 60) dX12_isMarkSign_60 ?_
        refine jm_goto (pc := 61) 65 dX12_isMarkSign_61 rfl ?_
        exact jm_zret (pc := 65) dX12_isMarkSign_65 rfl (Or.inr rfl) h
      · have h := h.2 q
        refine jm_iload_n (pc := 18) 1 dX12_isMarkSign_18 rfl ?_
        refine jm_bipush (pc := 19) dX12_isMarkSign_19 (by decide) ?_
        refine jm_icmp_eq (pc := 21) 60 dX12_isMarkSign_21 rfl hg1 ⟨by decide, by decide⟩ (fun q => ?_) (fun q => ?_)
        · have h := h.1 q
          refine jm_iconst (pc := 60) dX12_isMarkSign_60 ?_
          refine jm_goto (pc := 61) 65 dX12_isMarkSign_61 rfl ?_
          exact jm_zret (pc := 65) dX12_isMarkSign_65 rfl (Or.inr rfl) h
        · have h := h.2 q
          refine jm_iload_n (pc := 24) 1 dX12_isMarkSign_24 rfl ?_
          refine jm_bipush (pc := 25) dX12_isMarkSign_25 (by decide) ?_
          refine jm_icmp_eq (pc := 27) 60 dX12_isMarkSign_27 rfl hg1 ⟨by decide, by decide⟩ (fun q => ?_) (fun q => ?_)
          · have h := h.1 q
            refine jm_iconst (pc := 60) dX12_isMarkSign_60 ?_
            refine jm_goto (pc := 61) 65 dX12_isMarkSign_61 rfl ?_
            exact jm_zret (pc := 65) dX12_isMarkSign_65 rfl (Or.inr rfl) h
          · have h := h.2 q
            refine jm_iload_n (pc := 30) 1 dX12_isMarkSign_30 rfl ?_
            refine jm_bipush (pc := 31) dX12_isMarkSign_31 (by decide) ?_
            refine jm_icmp_eq (pc := 33) 60 dX12_isMarkSign_33 rfl hg1 ⟨by decide, by decide⟩ (fun q => ?_) (fun q => ?_)
            · have h := h.1 q
              refine jm_iconst (pc := 60) dX12_isMarkSign_60 ?_
              refine jm_goto (pc := 61) 65 dX12_isMarkSign_61 rfl ?_
              exact jm_zret (pc := 65) dX12_isMarkSign_65 rfl (Or.inr rfl) h
            · have h := h.2 q
              refine jm_iload_n (pc := 36) 1 dX12_isMarkSign_36 rfl ?_
              refine jm_bipush (pc := 37) dX12_isMarkSign_37 (by decide) ?_
              refine jm_icmp_eq (pc := 39) 60 dX12_isMarkSign_39 rfl hg1 ⟨by decide, by decide⟩ (fun q => ?_) (fun q => ?_)
              · have h := h.1 q
                refine jm_iconst (pc := 60) dX12_isMarkSign_60 ?_
                refine jm_goto (pc := 61) 65 dX12_isMarkSign_61 rfl ?_
                exact jm_zret (pc := 65) dX12_isMarkSign_65 rfl (Or.inr rfl) h
              · have h := h.2 q
                refine jm_iload_n (pc := 42) 1 dX12_isMarkSign_42 rfl ?_
                refine jm_bipush (pc := 43) dX12_isMarkSign_43 (by decide) ?_
                refine jm_icmp_eq (pc := 45) 60 dX12_isMarkSign_45 rfl hg1 ⟨by decide, by decide⟩ (fun q => ?_) (fun q => ?_)
                · have h := h.1 q
                  refine jm_iconst (pc := 60) dX12_isMarkSign_60 ?_
                  refine jm_goto (pc := 61) 65 dX12_isMarkSign_61 rfl ?_
                  exact jm_zret (pc := 65) dX12_isMarkSign_65 rfl (Or.inr rfl) h
                · have h := h.2 q
                  refine jm_iload_n (pc := 48) 1 dX12_isMarkSign_48 rfl ?_
                  refine jm_bipush (pc := 49) dX12_isMarkSign_49 (by decide) ?_
                  refine jm_icmp_eq (pc := 51) 60 dX12_isMarkSign_51 rfl hg1 ⟨by decide, by decide⟩ (fun q => ?_) (fun q => ?_)
                  · have h := h.1 q
                    refine jm_iconst (pc := 60) dX12_isMarkSign_60 ?_
                    refine jm_goto (pc := 61) 65 dX12_isMarkSign_61 rfl ?_
                    exact jm_zret (pc := 65) dX12_isMarkSign_65 rfl (Or.inr rfl) h
                  · have h := h.2 q
                    refine jm_iload_n (pc := 54) 1 dX12_isMarkSign_54 rfl ?_
                    refine jm_bipush (pc := 55) dX12_isMarkSign_55 (by decide) ?_
                    refine jm_icmp_ne (pc := 57) 64 dX12_isMarkSign_57 rfl hg1 ⟨by decide, by decide⟩ (fun q => ?_) (fun q => ?_)
                    · have h := h.1 q
                      refine jm_iconst (pc := 64) dX12_isMarkSign_64 ?_
                      exact jm_zret (pc := 65) dX12_isMarkSign_65 rfl (Or.inl rfl) h
                    · have h := h.2 q
                      refine jm_iconst (pc := 60) dX12_isMarkSign_60 ?_
                      refine jm_goto (pc := 61) 65 dX12_isMarkSign_61 rfl ?_
                      exact jm_zret (pc := 65) dX12_isMarkSign_65 rfl (Or.inr rfl) h
theorem dX12_wordAt_0 : decode cX12_wordAt 0 = .ok (.iconst (-1), 1) := by decide +kernel
theorem dX12_wordAt_1 : decode cX12_wordAt 1 = .ok (.istore_n 3, 1) := by decide +kernel
theorem dX12_wordAt_2 : decode cX12_wordAt 2 = .ok (.iconst 0, 1) := by decide +kernel
theorem dX12_wordAt_3 : decode cX12_wordAt 3 = .ok (.istore 4, 2) := by decide +kernel
theorem dX12_wordAt_5 : decode cX12_wordAt 5 = .ok (.iload 4, 2) := by decide +kernel
theorem dX12_wordAt_7 : decode cX12_wordAt 7 = .ok (.sipush 142, 3) := by decide +kernel
theorem dX12_wordAt_10 : decode cX12_wordAt 10 = .ok (.if_icmp .ge 108, 3) := by decide +kernel
theorem dX12_wordAt_13 : decode cX12_wordAt 13 = .ok (.iconst 0, 1) := by decide +kernel
theorem dX12_wordAt_14 : decode cX12_wordAt 14 = .ok (.istore 5, 2) := by decide +kernel
theorem dX12_wordAt_16 : decode cX12_wordAt 16 = .ok (.iload_n 3, 1) := by decide +kernel
theorem dX12_wordAt_17 : decode cX12_wordAt 17 = .ok (.iconst 1, 1) := by decide +kernel
theorem dX12_wordAt_18 : decode cX12_wordAt 18 = .ok (.iadd, 1) := by decide +kernel
theorem dX12_wordAt_19 : decode cX12_wordAt 19 = .ok (.istore_n 3, 1) := by decide +kernel
theorem dX12_wordAt_20 : decode cX12_wordAt 20 = .ok (.iload_n 1, 1) := by decide +kernel
theorem dX12_wordAt_21 : decode cX12_wordAt 21 = .ok (.iload 5, 2) := by decide +kernel
theorem dX12_wordAt_23 : decode cX12_wordAt 23 = .ok (.iadd, 1) := by decide +kernel
theorem dX12_wordAt_24 : decode cX12_wordAt 24 = .ok (.iload_n 2, 1) := by decide +kernel
theorem dX12_wordAt_25 : decode cX12_wordAt 25 = .ok (.if_icmp .ge 36, 3) := by decide +kernel
theorem dX12_wordAt_28 : decode cX12_wordAt 28 = .ok (.aload_n 0, 1) := by decide +kernel
theorem dX12_wordAt_29 : decode cX12_wordAt 29 = .ok (.getfield 31, 3) := by decide +kernel
theorem dX12_wordAt_32 : decode cX12_wordAt 32 = .ok (.iload 4, 2) := by decide +kernel
theorem dX12_wordAt_34 : decode cX12_wordAt 34 = .ok (.iconst 1, 1) := by decide +kernel
theorem dX12_wordAt_35 : decode cX12_wordAt 35 = .ok (.iadd, 1) := by decide +kernel
theorem dX12_wordAt_36 : decode cX12_wordAt 36 = .ok (.iload 5, 2) := by decide +kernel
theorem dX12_wordAt_38 : decode cX12_wordAt 38 = .ok (.iadd, 1) := by decide +kernel
theorem dX12_wordAt_39 : decode cX12_wordAt 39 = .ok (.iaload, 1) := by decide +kernel
theorem dX12_wordAt_40 : decode cX12_wordAt 40 = .ok (.aload_n 0, 1) := by decide +kernel
theorem dX12_wordAt_41 : decode cX12_wordAt 41 = .ok (.getfield 28, 3) := by decide +kernel
theorem dX12_wordAt_44 : decode cX12_wordAt 44 = .ok (.iload_n 1, 1) := by decide +kernel
theorem dX12_wordAt_45 : decode cX12_wordAt 45 = .ok (.iload 5, 2) := by decide +kernel
theorem dX12_wordAt_47 : decode cX12_wordAt 47 = .ok (.iadd, 1) := by decide +kernel
theorem dX12_wordAt_48 : decode cX12_wordAt 48 = .ok (.iaload, 1) := by decide +kernel
theorem dX12_wordAt_49 : decode cX12_wordAt 49 = .ok (.if_icmp .ne 12, 3) := by decide +kernel
theorem dX12_wordAt_52 : decode cX12_wordAt 52 = .ok (.iload 5, 2) := by decide +kernel
theorem dX12_wordAt_54 : decode cX12_wordAt 54 = .ok (.iconst 1, 1) := by decide +kernel
theorem dX12_wordAt_55 : decode cX12_wordAt 55 = .ok (.iadd, 1) := by decide +kernel
theorem dX12_wordAt_56 : decode cX12_wordAt 56 = .ok (.istore 5, 2) := by decide +kernel
theorem dX12_wordAt_58 : decode cX12_wordAt 58 = .ok (.goto (-38), 3) := by decide +kernel
theorem dX12_wordAt_61 : decode cX12_wordAt 61 = .ok (.iload_n 1, 1) := by decide +kernel
theorem dX12_wordAt_62 : decode cX12_wordAt 62 = .ok (.iload 5, 2) := by decide +kernel
theorem dX12_wordAt_64 : decode cX12_wordAt 64 = .ok (.iadd, 1) := by decide +kernel
theorem dX12_wordAt_65 : decode cX12_wordAt 65 = .ok (.iload_n 2, 1) := by decide +kernel
theorem dX12_wordAt_66 : decode cX12_wordAt 66 = .ok (.if_icmp .ne 22, 3) := by decide +kernel
theorem dX12_wordAt_69 : decode cX12_wordAt 69 = .ok (.aload_n 0, 1) := by decide +kernel
theorem dX12_wordAt_70 : decode cX12_wordAt 70 = .ok (.getfield 31, 3) := by decide +kernel
theorem dX12_wordAt_73 : decode cX12_wordAt 73 = .ok (.iload 4, 2) := by decide +kernel
theorem dX12_wordAt_75 : decode cX12_wordAt 75 = .ok (.iconst 1, 1) := by decide +kernel
theorem dX12_wordAt_76 : decode cX12_wordAt 76 = .ok (.iadd, 1) := by decide +kernel
theorem dX12_wordAt_77 : decode cX12_wordAt 77 = .ok (.iload 5, 2) := by decide +kernel
theorem dX12_wordAt_79 : decode cX12_wordAt 79 = .ok (.iadd, 1) := by decide +kernel
theorem dX12_wordAt_80 : decode cX12_wordAt 80 = .ok (.iaload, 1) := by decide +kernel
theorem dX12_wordAt_81 : decode cX12_wordAt 81 = .ok (.bipush 32, 2) := by decide +kernel
theorem dX12_wordAt_83 : decode cX12_wordAt 83 = .ok (.if_icmp .ne 5, 3) := by decide +kernel
theorem dX12_wordAt_86 : decode cX12_wordAt 86 = .ok (.iload_n 3, 1) := by decide +kernel
theorem dX12_wordAt_87 : decode cX12_wordAt 87 = .ok (.ireturn, 1) := by decide +kernel
theorem dX12_wordAt_88 : decode cX12_wordAt 88 = .ok (.iload 4, 2) := by decide +kernel
theorem dX12_wordAt_90 : decode cX12_wordAt 90 = .ok (.iconst 1, 1) := by decide +kernel
theorem dX12_wordAt_91 : decode cX12_wordAt 91 = .ok (.iadd, 1) := by decide +kernel
theorem dX12_wordAt_92 : decode cX12_wordAt 92 = .ok (.istore 4, 2) := by decide +kernel
theorem dX12_wordAt_94 : decode cX12_wordAt 94 = .ok (.aload_n 0, 1) := by decide +kernel
theorem dX12_wordAt_95 : decode cX12_wordAt 95 = .ok (.getfield 31, 3) := by decide +kernel
theorem dX12_wordAt_98 : decode cX12_wordAt 98 = .ok (.iload 4, 2) := by decide +kernel
theorem dX12_wordAt_100 : decode cX12_wordAt 100 = .ok (.iaload, 1) := by decide +kernel
theorem dX12_wordAt_101 : decode cX12_wordAt 101 = .ok (.bipush 32, 2) := by decide +kernel
theorem dX12_wordAt_103 : decode cX12_wordAt 103 = .ok (.if_icmp .eq 12, 3) := by decide +kernel
theorem dX12_wordAt_106 : decode cX12_wordAt 106 = .ok (.iload 4, 2) := by decide +kernel
theorem dX12_wordAt_108 : decode cX12_wordAt 108 = .ok (.iconst 1, 1) := by decide +kernel
theorem dX12_wordAt_109 : decode cX12_wordAt 109 = .ok (.iadd, 1) := by decide +kernel
theorem dX12_wordAt_110 : decode cX12_wordAt 110 = .ok (.istore 4, 2) := by decide +kernel
theorem dX12_wordAt_112 : decode cX12_wordAt 112 = .ok (.goto (-18), 3) := by decide +kernel
theorem dX12_wordAt_115 : decode cX12_wordAt 115 = .ok (.goto (-110), 3) := by decide +kernel
theorem dX12_wordAt_118 : decode cX12_wordAt 118 = .ok (.iconst (-1), 1) := by decide +kernel
theorem dX12_wordAt_119 : decode cX12_wordAt 119 = .ok (.ireturn, 1) := by decide +kernel
theorem bX12_wordAt_94 {l : Launch} {g : jm_G} {d : Nat} {v1 v2 v3 v4 : Int} (hg : jm_HR g) {mu : jm_M} {Q : Option Value → jm_M → Prop} (h : (0 ≤ v4 ∧ v4 < 143) ∧ ((mu.1 8 v4) = 32 → jm_V l g (d + 1) iX12_wordAt 5 [(0, .ref 0), (1, jm_i v1), (2, jm_i v2), (3, jm_i v3), (4, jm_i v4)] [] mu Q) ∧ (¬ (mu.1 8 v4) = 32 → ∀ x2, x2 = (v4 + 1) → jm_V l g (d + 1) iX12_wordAt 94 [(0, .ref 0), (1, jm_i v1), (2, jm_i v2), (3, jm_i v3), (4, jm_i x2)] [] mu Q)) : jm_V l g (d + 1) iX12_wordAt 94 [(0, .ref 0), (1, jm_i v1), (2, jm_i v2), (3, jm_i v3), (4, jm_i v4)] [] mu Q := by
  refine jm_mrI (fun hm0 => ?_)
  refine jm_aload_n (pc := 94) 0 dX12_wordAt_94 rfl ?_
  refine jm_getr (pc := 95) 18 dX12_wordAt_95 fX12_31 (cR0 hg) rfl ?_
  refine jm_iload (pc := 98) 4 dX12_wordAt_98 rfl ?_
  have hg1 := h.1
  have h := h.2
  refine jm_iald (pc := 100) dX12_wordAt_100 (cR8 hg) (by decide) hg1.1 hg1.2 ?_
  refine jm_bipush (pc := 101) dX12_wordAt_101 (by decide) ?_
  refine jm_icmp_eq (pc := 103) 115 dX12_wordAt_103 rfl (hm0 _ _) ⟨by decide, by decide⟩ (fun q => ?_) (fun q => ?_)
  · have h := h.1 q
    refine jm_goto (pc := 115) 5 dX12_wordAt_115 rfl ?_
    exact jm_sub [0, 1, 2, 3, 4] rfl h
  · have h := h.2 q
    refine jm_iload (pc := 106) 4 dX12_wordAt_106 rfl ?_
    refine jm_iconst (pc := 108) dX12_wordAt_108 ?_
    refine jm_iadd (pc := 109) dX12_wordAt_109 ?_
    have h := h _ rfl
    refine jm_istore (pc := 110) (lv' := [(4, _), (0, _), (1, _), (2, _), (3, _)]) dX12_wordAt_110 (by decide) rfl ?_
    refine jm_goto (pc := 112) 94 dX12_wordAt_112 rfl ?_
    exact jm_sub [1, 2, 3, 4, 0] rfl h
theorem bX12_wordAt_61 {l : Launch} {g : jm_G} {d : Nat} {v1 v2 v3 v4 v5 : Int} (hg : jm_HR g) {mu : jm_M} {Q : Option Value → jm_M → Prop} (h : jm_rg (v1 + v5) ∧ jm_rg v2 ∧ (¬ (v1 + v5) = v2 → ∀ x3, x3 = (v4 + 1) → jm_V l g (d + 1) iX12_wordAt 94 [(0, .ref 0), (1, jm_i v1), (2, jm_i v2), (3, jm_i v3), (4, jm_i x3)] [] mu Q) ∧ ((v1 + v5) = v2 → (0 ≤ ((v4 + 1) + v5) ∧ ((v4 + 1) + v5) < 143) ∧ (¬ (mu.1 8 ((v4 + 1) + v5)) = 32 → ∀ x5, x5 = (v4 + 1) → jm_V l g (d + 1) iX12_wordAt 94 [(0, .ref 0), (1, jm_i v1), (2, jm_i v2), (3, jm_i v3), (4, jm_i x5)] [] mu Q) ∧ ((mu.1 8 ((v4 + 1) + v5)) = 32 → Q (some (jm_i v3)) mu))) : jm_V l g (d + 1) iX12_wordAt 61 [(0, .ref 0), (1, jm_i v1), (2, jm_i v2), (3, jm_i v3), (4, jm_i v4), (5, jm_i v5)] [] mu Q := by
  refine jm_mrI (fun hm0 => ?_)
  refine jm_iload_n (pc := 61) 1 dX12_wordAt_61 rfl ?_
  refine jm_iload (pc := 62) 5 dX12_wordAt_62 rfl ?_
  refine jm_iadd (pc := 64) dX12_wordAt_64 ?_
  refine jm_iload_n (pc := 65) 2 dX12_wordAt_65 rfl ?_
  have hg1 := h.1
  have h := h.2
  have hg2 := h.1
  have h := h.2
  refine jm_icmp_ne (pc := 66) 88 dX12_wordAt_66 rfl hg1 hg2 (fun q => ?_) (fun q => ?_)
  · have h := h.1 q
    refine jm_iload (pc := 88) 4 dX12_wordAt_88 rfl ?_
    refine jm_iconst (pc := 90) dX12_wordAt_90 ?_
    refine jm_iadd (pc := 91) dX12_wordAt_91 ?_
    have h := h _ rfl
    refine jm_istore (pc := 92) (lv' := [(4, _), (0, _), (1, _), (2, _), (3, _), (5, _)]) dX12_wordAt_92 (by decide) rfl ?_
    exact jm_sub [1, 2, 3, 4, 0] rfl h
  · have h := h.2 q
    refine jm_aload_n (pc := 69) 0 dX12_wordAt_69 rfl ?_
    refine jm_getr (pc := 70) 18 dX12_wordAt_70 fX12_31 (cR0 hg) rfl ?_
    refine jm_iload (pc := 73) 4 dX12_wordAt_73 rfl ?_
    refine jm_iconst (pc := 75) dX12_wordAt_75 ?_
    refine jm_iadd (pc := 76) dX12_wordAt_76 ?_
    refine jm_iload (pc := 77) 5 dX12_wordAt_77 rfl ?_
    refine jm_iadd (pc := 79) dX12_wordAt_79 ?_
    have hg4 := h.1
    have h := h.2
    refine jm_iald (pc := 80) dX12_wordAt_80 (cR8 hg) (by decide) hg4.1 hg4.2 ?_
    refine jm_bipush (pc := 81) dX12_wordAt_81 (by decide) ?_
    refine jm_icmp_ne (pc := 83) 88 dX12_wordAt_83 rfl (hm0 _ _) ⟨by decide, by decide⟩ (fun q => ?_) (fun q => ?_)
    · have h := h.1 q
      refine jm_iload (pc := 88) 4 dX12_wordAt_88 rfl ?_
      refine jm_iconst (pc := 90) dX12_wordAt_90 ?_
      refine jm_iadd (pc := 91) dX12_wordAt_91 ?_
      have h := h _ rfl
      refine jm_istore (pc := 92) (lv' := [(4, _), (0, _), (1, _), (2, _), (3, _), (5, _)]) dX12_wordAt_92 (by decide) rfl ?_
      exact jm_sub [1, 2, 3, 4, 0] rfl h
    · have h := h.2 q
      refine jm_iload_n (pc := 86) 3 dX12_wordAt_86 rfl ?_
      exact jm_iret (pc := 87) dX12_wordAt_87 rfl h
theorem bX12_wordAt_20 {l : Launch} {g : jm_G} {d : Nat} {v1 v2 v3 v4 v5 : Int} (hg : jm_HR g) {mu : jm_M} {Q : Option Value → jm_M → Prop} (h : jm_rg (v1 + v5) ∧ jm_rg v2 ∧ (v2 ≤ (v1 + v5) → jm_V l g (d + 1) iX12_wordAt 61 [(0, .ref 0), (1, jm_i v1), (2, jm_i v2), (3, jm_i v3), (4, jm_i v4), (5, jm_i v5)] [] mu Q) ∧ ((v1 + v5) < v2 → (0 ≤ ((v4 + 1) + v5) ∧ ((v4 + 1) + v5) < 143) ∧ (0 ≤ (v1 + v5) ∧ (v1 + v5) < 400) ∧ (¬ (mu.1 8 ((v4 + 1) + v5)) = (mu.1 7 (v1 + v5)) → jm_V l g (d + 1) iX12_wordAt 61 [(0, .ref 0), (1, jm_i v1), (2, jm_i v2), (3, jm_i v3), (4, jm_i v4), (5, jm_i v5)] [] mu Q) ∧ ((mu.1 8 ((v4 + 1) + v5)) = (mu.1 7 (v1 + v5)) → ∀ x5, x5 = (v5 + 1) → jm_V l g (d + 1) iX12_wordAt 20 [(0, .ref 0), (1, jm_i v1), (2, jm_i v2), (3, jm_i v3), (4, jm_i v4), (5, jm_i x5)] [] mu Q))) : jm_V l g (d + 1) iX12_wordAt 20 [(0, .ref 0), (1, jm_i v1), (2, jm_i v2), (3, jm_i v3), (4, jm_i v4), (5, jm_i v5)] [] mu Q := by
  refine jm_mrI (fun hm0 => ?_)
  refine jm_iload_n (pc := 20) 1 dX12_wordAt_20 rfl ?_
  refine jm_iload (pc := 21) 5 dX12_wordAt_21 rfl ?_
  refine jm_iadd (pc := 23) dX12_wordAt_23 ?_
  refine jm_iload_n (pc := 24) 2 dX12_wordAt_24 rfl ?_
  have hg1 := h.1
  have h := h.2
  have hg2 := h.1
  have h := h.2
  refine jm_icmp_ge (pc := 25) 61 dX12_wordAt_25 rfl hg1 hg2 (fun q => ?_) (fun q => ?_)
  · have h := h.1 q
    exact jm_sub [0, 1, 2, 3, 4, 5] rfl h
  · have h := h.2 q
    refine jm_aload_n (pc := 28) 0 dX12_wordAt_28 rfl ?_
    refine jm_getr (pc := 29) 18 dX12_wordAt_29 fX12_31 (cR0 hg) rfl ?_
    refine jm_iload (pc := 32) 4 dX12_wordAt_32 rfl ?_
    refine jm_iconst (pc := 34) dX12_wordAt_34 ?_
    refine jm_iadd (pc := 35) dX12_wordAt_35 ?_
    refine jm_iload (pc := 36) 5 dX12_wordAt_36 rfl ?_
    refine jm_iadd (pc := 38) dX12_wordAt_38 ?_
    have hg3 := h.1
    have h := h.2
    refine jm_iald (pc := 39) dX12_wordAt_39 (cR8 hg) (by decide) hg3.1 hg3.2 ?_
    refine jm_aload_n (pc := 40) 0 dX12_wordAt_40 rfl ?_
    refine jm_getr (pc := 41) 12 dX12_wordAt_41 fX12_28 (cR0 hg) rfl ?_
    refine jm_iload_n (pc := 44) 1 dX12_wordAt_44 rfl ?_
    refine jm_iload (pc := 45) 5 dX12_wordAt_45 rfl ?_
    refine jm_iadd (pc := 47) dX12_wordAt_47 ?_
    have hg4 := h.1
    have h := h.2
    refine jm_iald (pc := 48) dX12_wordAt_48 (cR7 hg) (by decide) hg4.1 hg4.2 ?_
    refine jm_icmp_ne (pc := 49) 61 dX12_wordAt_49 rfl (hm0 _ _) (hm0 _ _) (fun q => ?_) (fun q => ?_)
    · have h := h.1 q
      exact jm_sub [0, 1, 2, 3, 4, 5] rfl h
    · have h := h.2 q
      refine jm_iload (pc := 52) 5 dX12_wordAt_52 rfl ?_
      refine jm_iconst (pc := 54) dX12_wordAt_54 ?_
      refine jm_iadd (pc := 55) dX12_wordAt_55 ?_
      have h := h _ rfl
      refine jm_istore (pc := 56) (lv' := [(5, _), (0, _), (1, _), (2, _), (3, _), (4, _)]) dX12_wordAt_56 (by decide) rfl ?_
      refine jm_goto (pc := 58) 20 dX12_wordAt_58 rfl ?_
      exact jm_sub [1, 2, 3, 4, 5, 0] rfl h
theorem bX12_wordAt_5 {l : Launch} {g : jm_G} {d : Nat} {v1 v2 v3 v4 : Int} (hg : jm_HR g) {mu : jm_M} {Q : Option Value → jm_M → Prop} (h : jm_rg v4 ∧ (142 ≤ v4 → Q (some (jm_i (-1))) mu) ∧ (v4 < 142 → ∀ x2, x2 = (v3 + 1) → jm_V l g (d + 1) iX12_wordAt 20 [(0, .ref 0), (1, jm_i v1), (2, jm_i v2), (3, jm_i x2), (4, jm_i v4), (5, jm_i 0)] [] mu Q)) : jm_V l g (d + 1) iX12_wordAt 5 [(0, .ref 0), (1, jm_i v1), (2, jm_i v2), (3, jm_i v3), (4, jm_i v4)] [] mu Q := by
  refine jm_mrI (fun hm0 => ?_)
  refine jm_iload (pc := 5) 4 dX12_wordAt_5 rfl ?_
  refine jm_sipush (pc := 7) dX12_wordAt_7 (by decide) ?_
  have hg1 := h.1
  have h := h.2
  refine jm_icmp_ge (pc := 10) 118 dX12_wordAt_10 rfl hg1 ⟨by decide, by decide⟩ (fun q => ?_) (fun q => ?_)
  · have h := h.1 q
    refine jm_iconst (pc := 118) dX12_wordAt_118 ?_
    exact jm_iret (pc := 119) dX12_wordAt_119 rfl h
  · have h := h.2 q
    refine jm_iconst (pc := 13) dX12_wordAt_13 ?_
    refine jm_istore (pc := 14) (lv' := [(5, _), (0, _), (1, _), (2, _), (3, _), (4, _)]) dX12_wordAt_14 (by decide) rfl ?_
    refine jm_iload_n (pc := 16) 4 dX12_wordAt_16 rfl ?_
    refine jm_iconst (pc := 17) dX12_wordAt_17 ?_
    refine jm_iadd (pc := 18) dX12_wordAt_18 ?_
    have h := h _ rfl
    refine jm_istore_n (pc := 19) (lv' := [(3, _), (5, _), (0, _), (1, _), (2, _), (4, _)]) dX12_wordAt_19 (by decide) rfl ?_
    exact jm_sub [2, 3, 4, 0, 5, 1] rfl h
theorem eX12_wordAt {l : Launch} {g : jm_G} {d : Nat} {v1 v2 : Int} (hg : jm_HR g) {mu : jm_M} {Q : Option Value → jm_M → Prop} (h : jm_V l g (d + 1) iX12_wordAt 5 [(0, .ref 0), (1, jm_i v1), (2, jm_i v2), (3, jm_i (-1)), (4, jm_i 0)] [] mu Q) : jm_R l g (d + 1) iX12_wordAt [.ref 0, jm_i v1, jm_i v2] mu Q := by
  refine jm_enter [(0, .ref 0), (1, jm_i v1), (2, jm_i v2)] (by decide) (Nat.le_of_ble_eq_true rfl) rfl ?_
  refine jm_mrI (fun hm0 => ?_)
  refine jm_iconst (pc := 0) dX12_wordAt_0 ?_
  refine jm_istore_n (pc := 1) (lv' := [(3, _), (0, _), (1, _), (2, _)]) dX12_wordAt_1 (by decide) rfl ?_
  refine jm_iconst (pc := 2) dX12_wordAt_2 ?_
  refine jm_istore (pc := 3) (lv' := [(4, _), (3, _), (0, _), (1, _), (2, _)]) dX12_wordAt_3 (by decide) rfl ?_
  exact jm_sub [2, 3, 4, 1, 0] rfl h
theorem dX12_reads_0 : decode cX12_reads 0 = .ok (.aload_n 0, 1) := by decide +kernel
theorem dX12_reads_1 : decode cX12_reads 1 = .ok (.aload_n 0, 1) := by decide +kernel
theorem dX12_reads_2 : decode cX12_reads 2 = .ok (.getfield 153, 3) := by decide +kernel
theorem dX12_reads_5 : decode cX12_reads 5 = .ok (.invokevirtual 156, 3) := by decide +kernel
theorem dX12_reads_8 : decode cX12_reads 8 = .ok (.bipush 32, 2) := by decide +kernel
theorem dX12_reads_10 : decode cX12_reads 10 = .ok (.if_icmp .eq 16, 3) := by decide +kernel
theorem dX12_reads_13 : decode cX12_reads 13 = .ok (.aload_n 0, 1) := by decide +kernel
theorem dX12_reads_14 : decode cX12_reads 14 = .ok (.aload_n 0, 1) := by decide +kernel
theorem dX12_reads_15 : decode cX12_reads 15 = .ok (.getfield 153, 3) := by decide +kernel
theorem dX12_reads_18 : decode cX12_reads 18 = .ok (.invokevirtual 156, 3) := by decide +kernel
theorem dX12_reads_21 : decode cX12_reads 21 = .ok (.bipush 10, 2) := by decide +kernel
theorem dX12_reads_23 : decode cX12_reads 23 = .ok (.if_icmp .ne 16, 3) := by decide +kernel
theorem dX12_reads_26 : decode cX12_reads 26 = .ok (.aload_n 0, 1) := by decide +kernel
theorem dX12_reads_27 : decode cX12_reads 27 = .ok (.aload_n 0, 1) := by decide +kernel
theorem dX12_reads_28 : decode cX12_reads 28 = .ok (.getfield 153, 3) := by decide +kernel
theorem dX12_reads_31 : decode cX12_reads 31 = .ok (.iconst 1, 1) := by decide +kernel
theorem dX12_reads_32 : decode cX12_reads 32 = .ok (.iadd, 1) := by decide +kernel
theorem dX12_reads_33 : decode cX12_reads 33 = .ok (.putfield 153, 3) := by decide +kernel
theorem dX12_reads_36 : decode cX12_reads 36 = .ok (.goto (-36), 3) := by decide +kernel
theorem dX12_reads_39 : decode cX12_reads 39 = .ok (.aload_n 0, 1) := by decide +kernel
theorem dX12_reads_40 : decode cX12_reads 40 = .ok (.aload_n 0, 1) := by decide +kernel
theorem dX12_reads_41 : decode cX12_reads 41 = .ok (.getfield 153, 3) := by decide +kernel
theorem dX12_reads_44 : decode cX12_reads 44 = .ok (.putfield 160, 3) := by decide +kernel
theorem dX12_reads_47 : decode cX12_reads 47 = .ok (.aload_n 0, 1) := by decide +kernel
theorem dX12_reads_48 : decode cX12_reads 48 = .ok (.iconst 1, 1) := by decide +kernel
theorem dX12_reads_49 : decode cX12_reads 49 = .ok (.putfield 163, 3) := by decide +kernel
theorem dX12_reads_52 : decode cX12_reads 52 = .ok (.aload_n 0, 1) := by decide +kernel
theorem dX12_reads_53 : decode cX12_reads 53 = .ok (.aload_n 0, 1) := by decide +kernel
theorem dX12_reads_54 : decode cX12_reads 54 = .ok (.getfield 153, 3) := by decide +kernel
theorem dX12_reads_57 : decode cX12_reads 57 = .ok (.invokevirtual 156, 3) := by decide +kernel
theorem dX12_reads_60 : decode cX12_reads 60 = .ok (.istore_n 1, 1) := by decide +kernel
theorem dX12_reads_61 : decode cX12_reads 61 = .ok (.iload_n 1, 1) := by decide +kernel
theorem dX12_reads_62 : decode cX12_reads 62 = .ok (.iconst (-1), 1) := by decide +kernel
theorem dX12_reads_63 : decode cX12_reads 63 = .ok (.if_icmp .ne 9, 3) := by decide +kernel
theorem dX12_reads_66 : decode cX12_reads 66 = .ok (.aload_n 0, 1) := by decide +kernel
theorem dX12_reads_67 : decode cX12_reads 67 = .ok (.iconst 0, 1) := by decide +kernel
theorem dX12_reads_68 : decode cX12_reads 68 = .ok (.putfield 163, 3) := by decide +kernel
theorem dX12_reads_71 : decode cX12_reads 71 = .ok (.return_, 1) := by decide +kernel
theorem dX12_reads_72 : decode cX12_reads 72 = .ok (.aload_n 0, 1) := by decide +kernel
theorem dX12_reads_73 : decode cX12_reads 73 = .ok (.aload_n 0, 1) := by decide +kernel
theorem dX12_reads_74 : decode cX12_reads 74 = .ok (.getfield 153, 3) := by decide +kernel
theorem dX12_reads_77 : decode cX12_reads 77 = .ok (.iconst 1, 1) := by decide +kernel
theorem dX12_reads_78 : decode cX12_reads 78 = .ok (.iadd, 1) := by decide +kernel
theorem dX12_reads_79 : decode cX12_reads 79 = .ok (.putfield 153, 3) := by decide +kernel
theorem dX12_reads_82 : decode cX12_reads 82 = .ok (.aload_n 0, 1) := by decide +kernel
theorem dX12_reads_83 : decode cX12_reads 83 = .ok (.iload_n 1, 1) := by decide +kernel
theorem dX12_reads_84 : decode cX12_reads 84 = .ok (.putfield 166, 3) := by decide +kernel
theorem dX12_reads_87 : decode cX12_reads 87 = .ok (.aload_n 0, 1) := by decide +kernel
theorem dX12_reads_88 : decode cX12_reads 88 = .ok (.iload_n 1, 1) := by decide +kernel
theorem dX12_reads_89 : decode cX12_reads 89 = .ok (.invokevirtual 169, 3) := by decide +kernel
theorem dX12_reads_92 : decode cX12_reads 92 = .ok (.ifCond .eq 63, 3) := by decide +kernel
theorem dX12_reads_95 : decode cX12_reads 95 = .ok (.aload_n 0, 1) := by decide +kernel
theorem dX12_reads_96 : decode cX12_reads 96 = .ok (.aload_n 0, 1) := by decide +kernel
theorem dX12_reads_97 : decode cX12_reads 97 = .ok (.aload_n 0, 1) := by decide +kernel
theorem dX12_reads_98 : decode cX12_reads 98 = .ok (.getfield 153, 3) := by decide +kernel
theorem dX12_reads_101 : decode cX12_reads 101 = .ok (.invokevirtual 156, 3) := by decide +kernel
theorem dX12_reads_104 : decode cX12_reads 104 = .ok (.invokevirtual 169, 3) := by decide +kernel
theorem dX12_reads_107 : decode cX12_reads 107 = .ok (.ifCond .eq 16, 3) := by decide +kernel
theorem dX12_reads_110 : decode cX12_reads 110 = .ok (.aload_n 0, 1) := by decide +kernel
theorem dX12_reads_111 : decode cX12_reads 111 = .ok (.aload_n 0, 1) := by decide +kernel
theorem dX12_reads_112 : decode cX12_reads 112 = .ok (.getfield 153, 3) := by decide +kernel
theorem dX12_reads_115 : decode cX12_reads 115 = .ok (.iconst 1, 1) := by decide +kernel
theorem dX12_reads_116 : decode cX12_reads 116 = .ok (.iadd, 1) := by decide +kernel
theorem dX12_reads_117 : decode cX12_reads 117 = .ok (.putfield 153, 3) := by decide +kernel
theorem dX12_reads_120 : decode cX12_reads 120 = .ok (.goto (-25), 3) := by decide +kernel
theorem dX12_reads_123 : decode cX12_reads 123 = .ok (.aload_n 0, 1) := by decide +kernel
theorem dX12_reads_124 : decode cX12_reads 124 = .ok (.aload_n 0, 1) := by decide +kernel
theorem dX12_reads_125 : decode cX12_reads 125 = .ok (.aload_n 0, 1) := by decide +kernel
theorem dX12_reads_126 : decode cX12_reads 126 = .ok (.getfield 160, 3) := by decide +kernel
theorem dX12_reads_129 : decode cX12_reads 129 = .ok (.aload_n 0, 1) := by decide +kernel
theorem dX12_reads_130 : decode cX12_reads 130 = .ok (.getfield 153, 3) := by decide +kernel
theorem dX12_reads_133 : decode cX12_reads 133 = .ok (.invokevirtual 172, 3) := by decide +kernel
theorem dX12_reads_136 : decode cX12_reads 136 = .ok (.putfield 166, 3) := by decide +kernel
theorem dX12_reads_139 : decode cX12_reads 139 = .ok (.aload_n 0, 1) := by decide +kernel
theorem dX12_reads_140 : decode cX12_reads 140 = .ok (.getfield 166, 3) := by decide +kernel
theorem dX12_reads_143 : decode cX12_reads 143 = .ok (.iconst (-1), 1) := by decide +kernel
theorem dX12_reads_144 : decode cX12_reads 144 = .ok (.if_icmp .eq 129, 3) := by decide +kernel
theorem dX12_reads_147 : decode cX12_reads 147 = .ok (.aload_n 0, 1) := by decide +kernel
theorem dX12_reads_148 : decode cX12_reads 148 = .ok (.iconst 2, 1) := by decide +kernel
theorem dX12_reads_149 : decode cX12_reads 149 = .ok (.putfield 163, 3) := by decide +kernel
theorem dX12_reads_152 : decode cX12_reads 152 = .ok (.goto 121, 3) := by decide +kernel
theorem dX12_reads_155 : decode cX12_reads 155 = .ok (.aload_n 0, 1) := by decide +kernel
theorem dX12_reads_156 : decode cX12_reads 156 = .ok (.iload_n 1, 1) := by decide +kernel
theorem dX12_reads_157 : decode cX12_reads 157 = .ok (.invokevirtual 176, 3) := by decide +kernel
theorem dX12_reads_160 : decode cX12_reads 160 = .ok (.ifCond .eq 100, 3) := by decide +kernel
theorem dX12_reads_163 : decode cX12_reads 163 = .ok (.aload_n 0, 1) := by decide +kernel
theorem dX12_reads_164 : decode cX12_reads 164 = .ok (.iload_n 1, 1) := by decide +kernel
theorem dX12_reads_165 : decode cX12_reads 165 = .ok (.bipush 48, 2) := by decide +kernel
theorem dX12_reads_167 : decode cX12_reads 167 = .ok (.isub, 1) := by decide +kernel
theorem dX12_reads_168 : decode cX12_reads 168 = .ok (.putfield 166, 3) := by decide +kernel
theorem dX12_reads_171 : decode cX12_reads 171 = .ok (.aload_n 0, 1) := by decide +kernel
theorem dX12_reads_172 : decode cX12_reads 172 = .ok (.aload_n 0, 1) := by decide +kernel
theorem dX12_reads_173 : decode cX12_reads 173 = .ok (.aload_n 0, 1) := by decide +kernel
theorem dX12_reads_174 : decode cX12_reads 174 = .ok (.getfield 153, 3) := by decide +kernel
theorem dX12_reads_177 : decode cX12_reads 177 = .ok (.invokevirtual 156, 3) := by decide +kernel
theorem dX12_reads_180 : decode cX12_reads 180 = .ok (.invokevirtual 176, 3) := by decide +kernel
theorem dX12_reads_183 : decode cX12_reads 183 = .ok (.ifCond .eq 56, 3) := by decide +kernel
theorem dX12_reads_186 : decode cX12_reads 186 = .ok (.aload_n 0, 1) := by decide +kernel
theorem dX12_reads_187 : decode cX12_reads 187 = .ok (.aload_n 0, 1) := by decide +kernel
theorem dX12_reads_188 : decode cX12_reads 188 = .ok (.getfield 166, 3) := by decide +kernel
theorem dX12_reads_191 : decode cX12_reads 191 = .ok (.sipush 10000, 3) := by decide +kernel
theorem dX12_reads_194 : decode cX12_reads 194 = .ok (.if_icmp .ge 25, 3) := by decide +kernel
theorem dX12_reads_197 : decode cX12_reads 197 = .ok (.bipush 10, 2) := by decide +kernel
theorem dX12_reads_199 : decode cX12_reads 199 = .ok (.aload_n 0, 1) := by decide +kernel
theorem dX12_reads_200 : decode cX12_reads 200 = .ok (.getfield 166, 3) := by decide +kernel
theorem dX12_reads_203 : decode cX12_reads 203 = .ok (.imul, 1) := by decide +kernel
theorem dX12_reads_204 : decode cX12_reads 204 = .ok (.aload_n 0, 1) := by decide +kernel
theorem dX12_reads_205 : decode cX12_reads 205 = .ok (.aload_n 0, 1) := by decide +kernel
theorem dX12_reads_206 : decode cX12_reads 206 = .ok (.getfield 153, 3) := by decide +kernel
theorem dX12_reads_209 : decode cX12_reads 209 = .ok (.invokevirtual 156, 3) := by decide +kernel
theorem dX12_reads_212 : decode cX12_reads 212 = .ok (.iadd, 1) := by decide +kernel
theorem dX12_reads_213 : decode cX12_reads 213 = .ok (.bipush 48, 2) := by decide +kernel
theorem dX12_reads_215 : decode cX12_reads 215 = .ok (.isub, 1) := by decide +kernel
theorem dX12_reads_216 : decode cX12_reads 216 = .ok (.goto 7, 3) := by decide +kernel
theorem dX12_reads_219 : decode cX12_reads 219 = .ok (.aload_n 0, 1) := by decide +kernel
theorem dX12_reads_220 : decode cX12_reads 220 = .ok (.getfield 166, 3) := by decide +kernel
theorem dX12_reads_223 : decode cX12_reads 223 = .ok (.putfield 166, 3) := by decide +kernel
theorem dX12_reads_226 : decode cX12_reads 226 = .ok (.aload_n 0, 1) := by decide +kernel
theorem dX12_reads_227 : decode cX12_reads 227 = .ok (.aload_n 0, 1) := by decide +kernel
theorem dX12_reads_228 : decode cX12_reads 228 = .ok (.getfield 153, 3) := by decide +kernel
theorem dX12_reads_231 : decode cX12_reads 231 = .ok (.iconst 1, 1) := by decide +kernel
theorem dX12_reads_232 : decode cX12_reads 232 = .ok (.iadd, 1) := by decide +kernel
theorem dX12_reads_233 : decode cX12_reads 233 = .ok (.putfield 153, 3) := by decide +kernel
theorem dX12_reads_236 : decode cX12_reads 236 = .ok (.goto (-65), 3) := by decide +kernel
theorem dX12_reads_239 : decode cX12_reads 239 = .ok (.aload_n 0, 1) := by decide +kernel
theorem dX12_reads_240 : decode cX12_reads 240 = .ok (.getfield 153, 3) := by decide +kernel
theorem dX12_reads_243 : decode cX12_reads 243 = .ok (.aload_n 0, 1) := by decide +kernel
theorem dX12_reads_244 : decode cX12_reads 244 = .ok (.getfield 160, 3) := by decide +kernel
theorem dX12_reads_247 : decode cX12_reads 247 = .ok (.isub, 1) := by decide +kernel
theorem dX12_reads_248 : decode cX12_reads 248 = .ok (.iconst 5, 1) := by decide +kernel
theorem dX12_reads_249 : decode cX12_reads 249 = .ok (.if_icmp .ge 24, 3) := by decide +kernel
theorem dX12_reads_252 : decode cX12_reads 252 = .ok (.aload_n 0, 1) := by decide +kernel
theorem dX12_reads_253 : decode cX12_reads 253 = .ok (.iconst 3, 1) := by decide +kernel
theorem dX12_reads_254 : decode cX12_reads 254 = .ok (.putfield 163, 3) := by decide +kernel
theorem dX12_reads_257 : decode cX12_reads 257 = .ok (.goto 16, 3) := by decide +kernel
theorem dX12_reads_260 : decode cX12_reads 260 = .ok (.aload_n 0, 1) := by decide +kernel
theorem dX12_reads_261 : decode cX12_reads 261 = .ok (.iload_n 1, 1) := by decide +kernel
theorem dX12_reads_262 : decode cX12_reads 262 = .ok (.invokevirtual 179, 3) := by decide +kernel
theorem dX12_reads_265 : decode cX12_reads 265 = .ok (.ifCond .eq 8, 3) := by decide +kernel
theorem dX12_reads_268 : decode cX12_reads 268 = .ok (.aload_n 0, 1) := by decide +kernel
theorem dX12_reads_269 : decode cX12_reads 269 = .ok (.iconst 4, 1) := by decide +kernel
theorem dX12_reads_270 : decode cX12_reads 270 = .ok (.putfield 163, 3) := by decide +kernel
theorem dX12_reads_273 : decode cX12_reads 273 = .ok (.return_, 1) := by decide +kernel
theorem bX12_reads_171 {l : Launch} {g : jm_G} {d : Nat} (hg : jm_HR g) {mu : jm_M} {Q : Option Value → jm_M → Prop} (h : jm_R l g (d + 2) iX12_raw [.ref 0, jm_i (mu.1 0 14)] mu (jm_qi fun z2 m1 => ((48 ≤ z2 ∧ z2 ≤ 57) → (10000 ≤ (m1.1 0 17) → ∀ m5, m5 = jm_wr m1 0 17 (m1.1 0 17) → jm_rg ((m5.1 0 14) + 1) ∧ ∀ m8, m8 = jm_wr m5 0 14 ((m5.1 0 14) + 1) → jm_V l g (d + 3) iX12_reads 171 [(0, .ref 0)] [] m8 Q) ∧ ((m1.1 0 17) < 10000 → jm_R l g (d + 2) iX12_raw [.ref 0, jm_i (m1.1 0 14)] m1 (jm_qi fun z11 m10 => jm_rg (((10 * (m1.1 0 17)) + z11) - 48) ∧ ∀ m15, m15 = jm_wr m10 0 17 (((10 * (m1.1 0 17)) + z11) - 48) → jm_rg ((m15.1 0 14) + 1) ∧ ∀ m18, m18 = jm_wr m15 0 14 ((m15.1 0 14) + 1) → jm_V l g (d + 3) iX12_reads 171 [(0, .ref 0)] [] m18 Q))) ∧ (¬ ((48 ≤ z2 ∧ z2 ≤ 57)) → jm_rg ((m1.1 0 14) - (m1.1 0 15)) ∧ (5 ≤ ((m1.1 0 14) - (m1.1 0 15)) → Q none m1) ∧ (((m1.1 0 14) - (m1.1 0 15)) < 5 → ∀ m21, m21 = jm_wr m1 0 16 3 → Q none m21)))) : jm_V l g (d + 3) iX12_reads 171 [(0, .ref 0)] [] mu Q := by
  refine jm_mrI (fun hm0 => ?_)
  refine jm_aload_n (pc := 171) 0 dX12_reads_171 rfl ?_
  refine jm_aload_n (pc := 172) 0 dX12_reads_172 rfl ?_
  refine jm_aload_n (pc := 173) 0 dX12_reads_173 rfl ?_
  refine jm_geti (pc := 174) 14 dX12_reads_174 fX12_153 (cR0 hg) rfl ?_
  refine jm_callvi (pc := 177) (As := [_]) (st := [_]) iX12_raw dX12_reads_177 mX12_156 (cR0 hg) ⟨_, rfl, rfl⟩ rfl rfl (Nat.le_of_ble_eq_true rfl) h (fun z2 m1 hz3 h hm4 => ?_)
  refine jm_inlvi (pc := 180) (As := [_]) (st := []) iX12_isDigit dX12_reads_180 mX12_176 (cR0 hg) ⟨_, rfl, rfl⟩ rfl rfl (Nat.le_of_ble_eq_true rfl) (pX12_isDigit hg hz3 (fun q => jm_kIi ?_) (fun q => jm_kIi ?_))
  · have h := h.1 q
    refine jm_if_eq (pc := 183) 239 dX12_reads_183 rfl ⟨by decide, by decide⟩ (fun q => absurd q (by decide)) (fun q => ?_)
    refine jm_aload_n (pc := 186) 0 dX12_reads_186 rfl ?_
    refine jm_aload_n (pc := 187) 0 dX12_reads_187 rfl ?_
    refine jm_geti (pc := 188) 17 dX12_reads_188 fX12_166 (cR0 hg) rfl ?_
    refine jm_sipush (pc := 191) dX12_reads_191 (by decide) ?_
    refine jm_icmp_ge (pc := 194) 219 dX12_reads_194 rfl (hm4 _ _) ⟨by decide, by decide⟩ (fun q => ?_) (fun q => ?_)
    · have h := h.1 q
      refine jm_aload_n (pc := 219) 0 dX12_reads_219 rfl ?_
      refine jm_geti (pc := 220) 17 dX12_reads_220 fX12_166 (cR0 hg) rfl ?_
      refine jm_put (pc := 223) 17 dX12_reads_223 fX12_166 ftX12 (fun q h => by cases h; rfl) (jm_nI _) (jm_fI _) (cR0 hg) rfl (hm4 _ _) ?_
      have h := h _ rfl
      refine jm_mrI (fun hm6 => ?_)
      refine jm_aload_n (pc := 226) 0 dX12_reads_226 rfl ?_
      refine jm_aload_n (pc := 227) 0 dX12_reads_227 rfl ?_
      refine jm_geti (pc := 228) 14 dX12_reads_228 fX12_153 (cR0 hg) rfl ?_
      refine jm_iconst (pc := 231) dX12_reads_231 ?_
      refine jm_iadd (pc := 232) dX12_reads_232 ?_
      have hg7 := h.1
      have h := h.2
      refine jm_put (pc := 233) 14 dX12_reads_233 fX12_153 ftX12 (fun q h => by cases h; rfl) (jm_nI _) (jm_fI _) (cR0 hg) rfl hg7 ?_
      have h := h _ rfl
      refine jm_mrI (fun hm9 => ?_)
      refine jm_goto (pc := 236) 171 dX12_reads_236 rfl ?_
      exact jm_sub [0] rfl h
    · have h := h.2 q
      refine jm_bipush (pc := 197) dX12_reads_197 (by decide) ?_
      refine jm_aload_n (pc := 199) 0 dX12_reads_199 rfl ?_
      refine jm_geti (pc := 200) 17 dX12_reads_200 fX12_166 (cR0 hg) rfl ?_
      refine jm_imul (pc := 203) dX12_reads_203 ?_
      refine jm_aload_n (pc := 204) 0 dX12_reads_204 rfl ?_
      refine jm_aload_n (pc := 205) 0 dX12_reads_205 rfl ?_
      refine jm_geti (pc := 206) 14 dX12_reads_206 fX12_153 (cR0 hg) rfl ?_
      refine jm_callvi (pc := 209) (As := [_]) (st := [_, _]) iX12_raw dX12_reads_209 mX12_156 (cR0 hg) ⟨_, rfl, rfl⟩ rfl rfl (Nat.le_of_ble_eq_true rfl) h (fun z11 m10 hz12 h hm13 => ?_)
      refine jm_iadd (pc := 212) dX12_reads_212 ?_
      refine jm_bipush (pc := 213) dX12_reads_213 (by decide) ?_
      refine jm_isub (pc := 215) dX12_reads_215 ?_
      refine jm_goto (pc := 216) 223 dX12_reads_216 rfl ?_
      have hg14 := h.1
      have h := h.2
      refine jm_put (pc := 223) 17 dX12_reads_223 fX12_166 ftX12 (fun q h => by cases h; rfl) (jm_nI _) (jm_fI _) (cR0 hg) rfl hg14 ?_
      have h := h _ rfl
      refine jm_mrI (fun hm16 => ?_)
      refine jm_aload_n (pc := 226) 0 dX12_reads_226 rfl ?_
      refine jm_aload_n (pc := 227) 0 dX12_reads_227 rfl ?_
      refine jm_geti (pc := 228) 14 dX12_reads_228 fX12_153 (cR0 hg) rfl ?_
      refine jm_iconst (pc := 231) dX12_reads_231 ?_
      refine jm_iadd (pc := 232) dX12_reads_232 ?_
      have hg17 := h.1
      have h := h.2
      refine jm_put (pc := 233) 14 dX12_reads_233 fX12_153 ftX12 (fun q h => by cases h; rfl) (jm_nI _) (jm_fI _) (cR0 hg) rfl hg17 ?_
      have h := h _ rfl
      refine jm_mrI (fun hm19 => ?_)
      refine jm_goto (pc := 236) 171 dX12_reads_236 rfl ?_
      exact jm_sub [0] rfl h
  · have h := h.2 q
    refine jm_if_eq (pc := 183) 239 dX12_reads_183 rfl ⟨by decide, by decide⟩ (fun q => ?_) (fun q => absurd q (by decide))
    refine jm_aload_n (pc := 239) 0 dX12_reads_239 rfl ?_
    refine jm_geti (pc := 240) 14 dX12_reads_240 fX12_153 (cR0 hg) rfl ?_
    refine jm_aload_n (pc := 243) 0 dX12_reads_243 rfl ?_
    refine jm_geti (pc := 244) 15 dX12_reads_244 fX12_160 (cR0 hg) rfl ?_
    refine jm_isub (pc := 247) dX12_reads_247 ?_
    refine jm_iconst (pc := 248) dX12_reads_248 ?_
    have hg20 := h.1
    have h := h.2
    refine jm_icmp_ge (pc := 249) 273 dX12_reads_249 rfl hg20 ⟨by decide, by decide⟩ (fun q => ?_) (fun q => ?_)
    · have h := h.1 q
      exact jm_vret (pc := 273) dX12_reads_273 rfl h
    · have h := h.2 q
      refine jm_aload_n (pc := 252) 0 dX12_reads_252 rfl ?_
      refine jm_iconst (pc := 253) dX12_reads_253 ?_
      refine jm_put (pc := 254) 16 dX12_reads_254 fX12_163 ftX12 (fun q h => by cases h; rfl) (jm_nI _) (jm_fI _) (cR0 hg) rfl ⟨by decide, by decide⟩ ?_
      have h := h _ rfl
      refine jm_mrI (fun hm22 => ?_)
      refine jm_goto (pc := 257) 273 dX12_reads_257 rfl ?_
      exact jm_vret (pc := 273) dX12_reads_273 rfl h
theorem bX12_reads_95 {l : Launch} {g : jm_G} {d : Nat} (hg : jm_HR g) {mu : jm_M} {Q : Option Value → jm_M → Prop} (h : jm_R l g (d + 2) iX12_raw [.ref 0, jm_i (mu.1 0 14)] mu (jm_qi fun z2 m1 => (((97 ≤ z2 ∧ z2 ≤ 122)) ∨ ((¬ (97 ≤ z2 ∧ z2 ≤ 122)) ∧ (65 ≤ z2 ∧ z2 ≤ 90)) → jm_rg ((m1.1 0 14) + 1) ∧ ∀ m6, m6 = jm_wr m1 0 14 ((m1.1 0 14) + 1) → jm_V l g (d + 3) iX12_reads 95 [(0, .ref 0)] [] m6 Q) ∧ (¬ (((97 ≤ z2 ∧ z2 ≤ 122)) ∨ ((¬ (97 ≤ z2 ∧ z2 ≤ 122)) ∧ (65 ≤ z2 ∧ z2 ≤ 90))) → jm_R l g (d + 2) iX12_wordAt [.ref 0, jm_i (m1.1 0 15), jm_i (m1.1 0 14)] m1 (jm_qi fun z9 m8 => ∀ m12, m12 = jm_wr m8 0 17 z9 → ((m12.1 0 17) = (-1) → Q none m12) ∧ (¬ (m12.1 0 17) = (-1) → ∀ m14, m14 = jm_wr m12 0 16 2 → Q none m14))))) : jm_V l g (d + 3) iX12_reads 95 [(0, .ref 0)] [] mu Q := by
  refine jm_mrI (fun hm0 => ?_)
  refine jm_aload_n (pc := 95) 0 dX12_reads_95 rfl ?_
  refine jm_aload_n (pc := 96) 0 dX12_reads_96 rfl ?_
  refine jm_aload_n (pc := 97) 0 dX12_reads_97 rfl ?_
  refine jm_geti (pc := 98) 14 dX12_reads_98 fX12_153 (cR0 hg) rfl ?_
  refine jm_callvi (pc := 101) (As := [_]) (st := [_]) iX12_raw dX12_reads_101 mX12_156 (cR0 hg) ⟨_, rfl, rfl⟩ rfl rfl (Nat.le_of_ble_eq_true rfl) h (fun z2 m1 hz3 h hm4 => ?_)
  refine jm_inlvi (pc := 104) (As := [_]) (st := []) iX12_isLetter dX12_reads_104 mX12_169 (cR0 hg) ⟨_, rfl, rfl⟩ rfl rfl (Nat.le_of_ble_eq_true rfl) (pX12_isLetter hg hz3 (fun q => jm_kIi ?_) (fun q => jm_kIi ?_))
  · have h := h.1 q
    refine jm_if_eq (pc := 107) 123 dX12_reads_107 rfl ⟨by decide, by decide⟩ (fun q => absurd q (by decide)) (fun q => ?_)
    refine jm_aload_n (pc := 110) 0 dX12_reads_110 rfl ?_
    refine jm_aload_n (pc := 111) 0 dX12_reads_111 rfl ?_
    refine jm_geti (pc := 112) 14 dX12_reads_112 fX12_153 (cR0 hg) rfl ?_
    refine jm_iconst (pc := 115) dX12_reads_115 ?_
    refine jm_iadd (pc := 116) dX12_reads_116 ?_
    have hg5 := h.1
    have h := h.2
    refine jm_put (pc := 117) 14 dX12_reads_117 fX12_153 ftX12 (fun q h => by cases h; rfl) (jm_nI _) (jm_fI _) (cR0 hg) rfl hg5 ?_
    have h := h _ rfl
    refine jm_mrI (fun hm7 => ?_)
    refine jm_goto (pc := 120) 95 dX12_reads_120 rfl ?_
    exact jm_sub [0] rfl h
  · have h := h.2 q
    refine jm_if_eq (pc := 107) 123 dX12_reads_107 rfl ⟨by decide, by decide⟩ (fun q => ?_) (fun q => absurd q (by decide))
    refine jm_aload_n (pc := 123) 0 dX12_reads_123 rfl ?_
    refine jm_aload_n (pc := 124) 0 dX12_reads_124 rfl ?_
    refine jm_aload_n (pc := 125) 0 dX12_reads_125 rfl ?_
    refine jm_geti (pc := 126) 15 dX12_reads_126 fX12_160 (cR0 hg) rfl ?_
    refine jm_aload_n (pc := 129) 0 dX12_reads_129 rfl ?_
    refine jm_geti (pc := 130) 14 dX12_reads_130 fX12_153 (cR0 hg) rfl ?_
    refine jm_callvi (pc := 133) (As := [_, _]) (st := [_]) iX12_wordAt dX12_reads_133 mX12_172 (cR0 hg) ⟨_, rfl, rfl⟩ rfl rfl (Nat.le_of_ble_eq_true rfl) h (fun z9 m8 hz10 h hm11 => ?_)
    refine jm_put (pc := 136) 17 dX12_reads_136 fX12_166 ftX12 (fun q h => by cases h; rfl) (jm_nI _) (jm_fI _) (cR0 hg) rfl hz10 ?_
    have h := h _ rfl
    refine jm_mrI (fun hm13 => ?_)
    refine jm_aload_n (pc := 139) 0 dX12_reads_139 rfl ?_
    refine jm_geti (pc := 140) 17 dX12_reads_140 fX12_166 (cR0 hg) rfl ?_
    refine jm_iconst (pc := 143) dX12_reads_143 ?_
    refine jm_icmp_eq (pc := 144) 273 dX12_reads_144 rfl (hm13 _ _) ⟨by decide, by decide⟩ (fun q => ?_) (fun q => ?_)
    · have h := h.1 q
      exact jm_vret (pc := 273) dX12_reads_273 rfl h
    · have h := h.2 q
      refine jm_aload_n (pc := 147) 0 dX12_reads_147 rfl ?_
      refine jm_iconst (pc := 148) dX12_reads_148 ?_
      refine jm_put (pc := 149) 16 dX12_reads_149 fX12_163 ftX12 (fun q h => by cases h; rfl) (jm_nI _) (jm_fI _) (cR0 hg) rfl ⟨by decide, by decide⟩ ?_
      have h := h _ rfl
      refine jm_mrI (fun hm15 => ?_)
      refine jm_goto (pc := 152) 273 dX12_reads_152 rfl ?_
      exact jm_vret (pc := 273) dX12_reads_273 rfl h
theorem bX12_reads_0 {l : Launch} {g : jm_G} {d : Nat} (hg : jm_HR g) {mu : jm_M} {Q : Option Value → jm_M → Prop} (h : jm_R l g (d + 2) iX12_raw [.ref 0, jm_i (mu.1 0 14)] mu (jm_qi fun z2 m1 => (z2 = 32 → jm_rg ((m1.1 0 14) + 1) ∧ ∀ m6, m6 = jm_wr m1 0 14 ((m1.1 0 14) + 1) → jm_V l g (d + 3) iX12_reads 0 [(0, .ref 0)] [] m6 Q) ∧ (¬ z2 = 32 → jm_R l g (d + 2) iX12_raw [.ref 0, jm_i (m1.1 0 14)] m1 (jm_qi fun z9 m8 => (¬ z9 = 10 → ∀ m12, m12 = jm_wr m8 0 15 (m8.1 0 14) → ∀ m14, m14 = jm_wr m12 0 16 1 → jm_R l g (d + 2) iX12_raw [.ref 0, jm_i (m14.1 0 14)] m14 (jm_qi fun z17 m16 => (¬ z17 = (-1) → jm_rg ((m16.1 0 14) + 1) ∧ ∀ m21, m21 = jm_wr m16 0 14 ((m16.1 0 14) + 1) → ∀ m23, m23 = jm_wr m21 0 17 z17 → (((97 ≤ z17 ∧ z17 ≤ 122)) ∨ ((¬ (97 ≤ z17 ∧ z17 ≤ 122)) ∧ (65 ≤ z17 ∧ z17 ≤ 90)) → jm_V l g (d + 3) iX12_reads 95 [(0, .ref 0)] [] m23 Q) ∧ (¬ (((97 ≤ z17 ∧ z17 ≤ 122)) ∨ ((¬ (97 ≤ z17 ∧ z17 ≤ 122)) ∧ (65 ≤ z17 ∧ z17 ≤ 90))) → ((48 ≤ z17 ∧ z17 ≤ 57) → jm_rg (z17 - 48) ∧ ∀ m26, m26 = jm_wr m23 0 17 (z17 - 48) → jm_V l g (d + 3) iX12_reads 171 [(0, .ref 0)] [] m26 Q) ∧ (¬ ((48 ≤ z17 ∧ z17 ≤ 57)) → jm_R l g (d + 2) iX12_isMarkSign [.ref 0, jm_i z17] m23 (jm_qi fun z29 m28 => (z29 = 0 → Q none m28) ∧ (¬ z29 = 0 → ∀ m32, m32 = jm_wr m28 0 16 4 → Q none m32))))) ∧ (z17 = (-1) → ∀ m34, m34 = jm_wr m16 0 16 0 → Q none m34))) ∧ (z9 = 10 → jm_rg ((m8.1 0 14) + 1) ∧ ∀ m37, m37 = jm_wr m8 0 14 ((m8.1 0 14) + 1) → jm_V l g (d + 3) iX12_reads 0 [(0, .ref 0)] [] m37 Q))))) : jm_V l g (d + 3) iX12_reads 0 [(0, .ref 0)] [] mu Q := by
  refine jm_mrI (fun hm0 => ?_)
  refine jm_aload_n (pc := 0) 0 dX12_reads_0 rfl ?_
  refine jm_aload_n (pc := 1) 0 dX12_reads_1 rfl ?_
  refine jm_geti (pc := 2) 14 dX12_reads_2 fX12_153 (cR0 hg) rfl ?_
  refine jm_callvi (pc := 5) (As := [_]) (st := []) iX12_raw dX12_reads_5 mX12_156 (cR0 hg) ⟨_, rfl, rfl⟩ rfl rfl (Nat.le_of_ble_eq_true rfl) h (fun z2 m1 hz3 h hm4 => ?_)
  refine jm_bipush (pc := 8) dX12_reads_8 (by decide) ?_
  refine jm_icmp_eq (pc := 10) 26 dX12_reads_10 rfl hz3 ⟨by decide, by decide⟩ (fun q => ?_) (fun q => ?_)
  · have h := h.1 q
    refine jm_aload_n (pc := 26) 0 dX12_reads_26 rfl ?_
    refine jm_aload_n (pc := 27) 0 dX12_reads_27 rfl ?_
    refine jm_geti (pc := 28) 14 dX12_reads_28 fX12_153 (cR0 hg) rfl ?_
    refine jm_iconst (pc := 31) dX12_reads_31 ?_
    refine jm_iadd (pc := 32) dX12_reads_32 ?_
    have hg5 := h.1
    have h := h.2
    refine jm_put (pc := 33) 14 dX12_reads_33 fX12_153 ftX12 (fun q h => by cases h; rfl) (jm_nI _) (jm_fI _) (cR0 hg) rfl hg5 ?_
    have h := h _ rfl
    refine jm_mrI (fun hm7 => ?_)
    refine jm_goto (pc := 36) 0 dX12_reads_36 rfl ?_
    exact jm_sub [0] rfl h
  · have h := h.2 q
    refine jm_aload_n (pc := 13) 0 dX12_reads_13 rfl ?_
    refine jm_aload_n (pc := 14) 0 dX12_reads_14 rfl ?_
    refine jm_geti (pc := 15) 14 dX12_reads_15 fX12_153 (cR0 hg) rfl ?_
    refine jm_callvi (pc := 18) (As := [_]) (st := []) iX12_raw dX12_reads_18 mX12_156 (cR0 hg) ⟨_, rfl, rfl⟩ rfl rfl (Nat.le_of_ble_eq_true rfl) h (fun z9 m8 hz10 h hm11 => ?_)
    refine jm_bipush (pc := 21) dX12_reads_21 (by decide) ?_
    refine jm_icmp_ne (pc := 23) 39 dX12_reads_23 rfl hz10 ⟨by decide, by decide⟩ (fun q => ?_) (fun q => ?_)
    · have h := h.1 q
      refine jm_aload_n (pc := 39) 0 dX12_reads_39 rfl ?_
      refine jm_aload_n (pc := 40) 0 dX12_reads_40 rfl ?_
      refine jm_geti (pc := 41) 14 dX12_reads_41 fX12_153 (cR0 hg) rfl ?_
      refine jm_put (pc := 44) 15 dX12_reads_44 fX12_160 ftX12 (fun q h => by cases h; rfl) (jm_nI _) (jm_fI _) (cR0 hg) rfl (hm11 _ _) ?_
      have h := h _ rfl
      refine jm_mrI (fun hm13 => ?_)
      refine jm_aload_n (pc := 47) 0 dX12_reads_47 rfl ?_
      refine jm_iconst (pc := 48) dX12_reads_48 ?_
      refine jm_put (pc := 49) 16 dX12_reads_49 fX12_163 ftX12 (fun q h => by cases h; rfl) (jm_nI _) (jm_fI _) (cR0 hg) rfl ⟨by decide, by decide⟩ ?_
      have h := h _ rfl
      refine jm_mrI (fun hm15 => ?_)
      refine jm_aload_n (pc := 52) 0 dX12_reads_52 rfl ?_
      refine jm_aload_n (pc := 53) 0 dX12_reads_53 rfl ?_
      refine jm_geti (pc := 54) 14 dX12_reads_54 fX12_153 (cR0 hg) rfl ?_
      refine jm_callvi (pc := 57) (As := [_]) (st := []) iX12_raw dX12_reads_57 mX12_156 (cR0 hg) ⟨_, rfl, rfl⟩ rfl rfl (Nat.le_of_ble_eq_true rfl) h (fun z17 m16 hz18 h hm19 => ?_)
      refine jm_istore_n (pc := 60) (lv' := [(1, _), (0, _)]) dX12_reads_60 (by decide) rfl ?_
      refine jm_iload_n (pc := 61) 0 dX12_reads_61 rfl ?_
      refine jm_iconst (pc := 62) dX12_reads_62 ?_
      refine jm_icmp_ne (pc := 63) 72 dX12_reads_63 rfl hz18 ⟨by decide, by decide⟩ (fun q => ?_) (fun q => ?_)
      · have h := h.1 q
        refine jm_aload_n (pc := 72) 1 dX12_reads_72 rfl ?_
        refine jm_aload_n (pc := 73) 1 dX12_reads_73 rfl ?_
        refine jm_geti (pc := 74) 14 dX12_reads_74 fX12_153 (cR0 hg) rfl ?_
        refine jm_iconst (pc := 77) dX12_reads_77 ?_
        refine jm_iadd (pc := 78) dX12_reads_78 ?_
        have hg20 := h.1
        have h := h.2
        refine jm_put (pc := 79) 14 dX12_reads_79 fX12_153 ftX12 (fun q h => by cases h; rfl) (jm_nI _) (jm_fI _) (cR0 hg) rfl hg20 ?_
        have h := h _ rfl
        refine jm_mrI (fun hm22 => ?_)
        refine jm_aload_n (pc := 82) 1 dX12_reads_82 rfl ?_
        refine jm_iload_n (pc := 83) 0 dX12_reads_83 rfl ?_
        refine jm_put (pc := 84) 17 dX12_reads_84 fX12_166 ftX12 (fun q h => by cases h; rfl) (jm_nI _) (jm_fI _) (cR0 hg) rfl hz18 ?_
        have h := h _ rfl
        refine jm_mrI (fun hm24 => ?_)
        refine jm_aload_n (pc := 87) 1 dX12_reads_87 rfl ?_
        refine jm_iload_n (pc := 88) 0 dX12_reads_88 rfl ?_
        refine jm_inlvi (pc := 89) (As := [_]) (st := []) iX12_isLetter dX12_reads_89 mX12_169 (cR0 hg) ⟨_, rfl, rfl⟩ rfl rfl (Nat.le_of_ble_eq_true rfl) (pX12_isLetter hg hz18 (fun q => jm_kIi ?_) (fun q => jm_kIi ?_))
        · have h := h.1 q
          refine jm_if_eq (pc := 92) 155 dX12_reads_92 rfl ⟨by decide, by decide⟩ (fun q => absurd q (by decide)) (fun q => ?_)
          exact jm_sub [1] rfl h
        · have h := h.2 q
          refine jm_if_eq (pc := 92) 155 dX12_reads_92 rfl ⟨by decide, by decide⟩ (fun q => ?_) (fun q => absurd q (by decide))
          refine jm_aload_n (pc := 155) 1 dX12_reads_155 rfl ?_
          refine jm_iload_n (pc := 156) 0 dX12_reads_156 rfl ?_
          refine jm_inlvi (pc := 157) (As := [_]) (st := []) iX12_isDigit dX12_reads_157 mX12_176 (cR0 hg) ⟨_, rfl, rfl⟩ rfl rfl (Nat.le_of_ble_eq_true rfl) (pX12_isDigit hg hz18 (fun q => jm_kIi ?_) (fun q => jm_kIi ?_))
          · have h := h.1 q
            refine jm_if_eq (pc := 160) 260 dX12_reads_160 rfl ⟨by decide, by decide⟩ (fun q => absurd q (by decide)) (fun q => ?_)
            refine jm_aload_n (pc := 163) 1 dX12_reads_163 rfl ?_
            refine jm_iload_n (pc := 164) 0 dX12_reads_164 rfl ?_
            refine jm_bipush (pc := 165) dX12_reads_165 (by decide) ?_
            refine jm_isub (pc := 167) dX12_reads_167 ?_
            have hg25 := h.1
            have h := h.2
            refine jm_put (pc := 168) 17 dX12_reads_168 fX12_166 ftX12 (fun q h => by cases h; rfl) (jm_nI _) (jm_fI _) (cR0 hg) rfl hg25 ?_
            have h := h _ rfl
            refine jm_mrI (fun hm27 => ?_)
            exact jm_sub [1] rfl h
          · have h := h.2 q
            refine jm_if_eq (pc := 160) 260 dX12_reads_160 rfl ⟨by decide, by decide⟩ (fun q => ?_) (fun q => absurd q (by decide))
            refine jm_aload_n (pc := 260) 1 dX12_reads_260 rfl ?_
            refine jm_iload_n (pc := 261) 0 dX12_reads_261 rfl ?_
            refine jm_callvi (pc := 262) (As := [_]) (st := []) iX12_isMarkSign dX12_reads_262 mX12_179 (cR0 hg) ⟨_, rfl, rfl⟩ rfl rfl (Nat.le_of_ble_eq_true rfl) h (fun z29 m28 hz30 h hm31 => ?_)
            refine jm_if_eq (pc := 265) 273 dX12_reads_265 rfl hz30 (fun q => ?_) (fun q => ?_)
            · have h := h.1 q
              exact jm_vret (pc := 273) dX12_reads_273 rfl h
            · have h := h.2 q
              refine jm_aload_n (pc := 268) 1 dX12_reads_268 rfl ?_
              refine jm_iconst (pc := 269) dX12_reads_269 ?_
              refine jm_put (pc := 270) 16 dX12_reads_270 fX12_163 ftX12 (fun q h => by cases h; rfl) (jm_nI _) (jm_fI _) (cR0 hg) rfl ⟨by decide, by decide⟩ ?_
              have h := h _ rfl
              refine jm_mrI (fun hm33 => ?_)
              exact jm_vret (pc := 273) dX12_reads_273 rfl h
      · have h := h.2 q
        refine jm_aload_n (pc := 66) 1 dX12_reads_66 rfl ?_
        refine jm_iconst (pc := 67) dX12_reads_67 ?_
        refine jm_put (pc := 68) 16 dX12_reads_68 fX12_163 ftX12 (fun q h => by cases h; rfl) (jm_nI _) (jm_fI _) (cR0 hg) rfl ⟨by decide, by decide⟩ ?_
        have h := h _ rfl
        refine jm_mrI (fun hm35 => ?_)
        exact jm_vret (pc := 71) dX12_reads_71 rfl h
    · have h := h.2 q
      refine jm_aload_n (pc := 26) 0 dX12_reads_26 rfl ?_
      refine jm_aload_n (pc := 27) 0 dX12_reads_27 rfl ?_
      refine jm_geti (pc := 28) 14 dX12_reads_28 fX12_153 (cR0 hg) rfl ?_
      refine jm_iconst (pc := 31) dX12_reads_31 ?_
      refine jm_iadd (pc := 32) dX12_reads_32 ?_
      have hg36 := h.1
      have h := h.2
      refine jm_put (pc := 33) 14 dX12_reads_33 fX12_153 ftX12 (fun q h => by cases h; rfl) (jm_nI _) (jm_fI _) (cR0 hg) rfl hg36 ?_
      have h := h _ rfl
      refine jm_mrI (fun hm38 => ?_)
      refine jm_goto (pc := 36) 0 dX12_reads_36 rfl ?_
      exact jm_sub [0] rfl h
theorem eX12_reads {l : Launch} {g : jm_G} {d : Nat} (hg : jm_HR g) {mu : jm_M} {Q : Option Value → jm_M → Prop} (h : jm_V l g (d + 3) iX12_reads 0 [(0, .ref 0)] [] mu Q) : jm_R l g (d + 3) iX12_reads [.ref 0] mu Q := by
  refine jm_enter [(0, .ref 0)] (by decide) (Nat.le_of_ble_eq_true rfl) rfl ?_
  exact jm_sub [0] rfl h
theorem dX12_errs_0 : decode cX12_errs 0 = .ok (.aload_n 0, 1) := by decide +kernel
theorem dX12_errs_1 : decode cX12_errs 1 = .ok (.iload_n 1, 1) := by decide +kernel
theorem dX12_errs_2 : decode cX12_errs 2 = .ok (.putfield 182, 3) := by decide +kernel
theorem dX12_errs_5 : decode cX12_errs 5 = .ok (.aload_n 0, 1) := by decide +kernel
theorem dX12_errs_6 : decode cX12_errs 6 = .ok (.aload_n 0, 1) := by decide +kernel
theorem dX12_errs_7 : decode cX12_errs 7 = .ok (.getfield 160, 3) := by decide +kernel
theorem dX12_errs_10 : decode cX12_errs 10 = .ok (.putfield 185, 3) := by decide +kernel
theorem dX12_errs_13 : decode cX12_errs 13 = .ok (.iconst (-1), 1) := by decide +kernel
theorem dX12_errs_14 : decode cX12_errs 14 = .ok (.ireturn, 1) := by decide +kernel
theorem eX12_errs {l : Launch} {g : jm_G} {d : Nat} {v1 : Int} (hg : jm_HR g) {mu : jm_M} {Q : Option Value → jm_M → Prop} (h : jm_rg v1 ∧ ∀ m2, m2 = jm_wr mu 0 31 v1 → ∀ m4, m4 = jm_wr m2 0 32 (m2.1 0 15) → Q (some (jm_i (-1))) m4) : jm_R l g (d + 1) iX12_errs [.ref 0, jm_i v1] mu Q := by
  refine jm_enter [(0, .ref 0), (1, jm_i v1)] (by decide) (Nat.le_of_ble_eq_true rfl) rfl ?_
  refine jm_mrI (fun hm0 => ?_)
  refine jm_aload_n (pc := 0) 0 dX12_errs_0 rfl ?_
  refine jm_iload_n (pc := 1) 1 dX12_errs_1 rfl ?_
  have hg1 := h.1
  have h := h.2
  refine jm_put (pc := 2) 31 dX12_errs_2 fX12_182 ftX12 (fun q h => by cases h; rfl) (jm_nI _) (jm_fI _) (cR0 hg) rfl hg1 ?_
  have h := h _ rfl
  refine jm_mrI (fun hm3 => ?_)
  refine jm_aload_n (pc := 5) 0 dX12_errs_5 rfl ?_
  refine jm_aload_n (pc := 6) 0 dX12_errs_6 rfl ?_
  refine jm_geti (pc := 7) 15 dX12_errs_7 fX12_160 (cR0 hg) rfl ?_
  refine jm_put (pc := 10) 32 dX12_errs_10 fX12_185 ftX12 (fun q h => by cases h; rfl) (jm_nI _) (jm_fI _) (cR0 hg) rfl (hm3 _ _) ?_
  have h := h _ rfl
  refine jm_mrI (fun hm5 => ?_)
  refine jm_iconst (pc := 13) dX12_errs_13 ?_
  exact jm_iret (pc := 14) dX12_errs_14 rfl h
theorem pX12_errs {l : Launch} {g : jm_G} {d : Nat} {v1 : Int} (hg : jm_HR g) {mu : jm_M} {Q : Option Value → jm_M → Prop} (o0 : jm_rg v1) (h : Q (some (jm_i (-1))) (jm_wr (jm_wr mu 0 31 v1) 0 32 ((jm_wr mu 0 31 v1).1 0 15))) : jm_R l g (d + 1) iX12_errs [.ref 0, jm_i v1] mu Q := by
  refine eX12_errs hg ?_
  refine ⟨o0, ?_⟩
  intro x hx
  subst hx
  intro x hx
  subst hx
  exact h
theorem dX12_isWord_0 : decode cX12_isWord 0 = .ok (.aload_n 0, 1) := by decide +kernel
theorem dX12_isWord_1 : decode cX12_isWord 1 = .ok (.getfield 163, 3) := by decide +kernel
theorem dX12_isWord_4 : decode cX12_isWord 4 = .ok (.iconst 2, 1) := by decide +kernel
theorem dX12_isWord_5 : decode cX12_isWord 5 = .ok (.if_icmp .ne 15, 3) := by decide +kernel
theorem dX12_isWord_8 : decode cX12_isWord 8 = .ok (.aload_n 0, 1) := by decide +kernel
theorem dX12_isWord_9 : decode cX12_isWord 9 = .ok (.getfield 166, 3) := by decide +kernel
theorem dX12_isWord_12 : decode cX12_isWord 12 = .ok (.iload_n 1, 1) := by decide +kernel
theorem dX12_isWord_13 : decode cX12_isWord 13 = .ok (.if_icmp .ne 7, 3) := by decide +kernel
theorem dX12_isWord_16 : decode cX12_isWord 16 = .ok (.iconst 1, 1) := by decide +kernel
theorem dX12_isWord_17 : decode cX12_isWord 17 = .ok (.goto 4, 3) := by decide +kernel
theorem dX12_isWord_20 : decode cX12_isWord 20 = .ok (.iconst 0, 1) := by decide +kernel
theorem dX12_isWord_21 : decode cX12_isWord 21 = .ok (.ireturn, 1) := by decide +kernel
theorem eX12_isWord {l : Launch} {g : jm_G} {d : Nat} {v1 : Int} (hg : jm_HR g) {mu : jm_M} {Q : Option Value → jm_M → Prop} (h : (¬ (mu.1 0 16) = 2 → Q (some (jm_i 0)) mu) ∧ ((mu.1 0 16) = 2 → jm_rg v1 ∧ (¬ (mu.1 0 17) = v1 → Q (some (jm_i 0)) mu) ∧ ((mu.1 0 17) = v1 → Q (some (jm_i 1)) mu))) : jm_R l g (d + 1) iX12_isWord [.ref 0, jm_i v1] mu Q := by
  refine jm_enter [(0, .ref 0), (1, jm_i v1)] (by decide) (Nat.le_of_ble_eq_true rfl) rfl ?_
  refine jm_mrI (fun hm0 => ?_)
  refine jm_aload_n (pc := 0) 0 dX12_isWord_0 rfl ?_
  refine jm_geti (pc := 1) 16 dX12_isWord_1 fX12_163 (cR0 hg) rfl ?_
  refine jm_iconst (pc := 4) dX12_isWord_4 ?_
  refine jm_icmp_ne (pc := 5) 20 dX12_isWord_5 rfl (hm0 _ _) ⟨by decide, by decide⟩ (fun q => ?_) (fun q => ?_)
  · have h := h.1 q
    refine jm_iconst (pc := 20) dX12_isWord_20 ?_
    exact jm_zret (pc := 21) dX12_isWord_21 rfl (Or.inl rfl) h
  · have h := h.2 q
    refine jm_aload_n (pc := 8) 0 dX12_isWord_8 rfl ?_
    refine jm_geti (pc := 9) 17 dX12_isWord_9 fX12_166 (cR0 hg) rfl ?_
    refine jm_iload_n (pc := 12) 1 dX12_isWord_12 rfl ?_
    have hg1 := h.1
    have h := h.2
    refine jm_icmp_ne (pc := 13) 20 dX12_isWord_13 rfl (hm0 _ _) hg1 (fun q => ?_) (fun q => ?_)
    · have h := h.1 q
      refine jm_iconst (pc := 20) dX12_isWord_20 ?_
      exact jm_zret (pc := 21) dX12_isWord_21 rfl (Or.inl rfl) h
    · have h := h.2 q
      refine jm_iconst (pc := 16) dX12_isWord_16 ?_
      refine jm_goto (pc := 17) 21 dX12_isWord_17 rfl ?_
      exact jm_zret (pc := 21) dX12_isWord_21 rfl (Or.inr rfl) h
theorem pX12_isWord {l : Launch} {g : jm_G} {d : Nat} {v1 : Int} (hg : jm_HR g) {mu : jm_M} {Q : Option Value → jm_M → Prop} (o0 : jm_rg v1) (h1 : (mu.1 0 16) = 2 ∧ (mu.1 0 17) = v1 → Q (some (jm_i 1)) mu) (h0 : ¬ ((mu.1 0 16) = 2 ∧ (mu.1 0 17) = v1) → Q (some (jm_i 0)) mu) : jm_R l g (d + 1) iX12_isWord [.ref 0, jm_i v1] mu Q := by
  refine eX12_isWord hg ?_
  refine ⟨fun q0 => ?_, fun q0 => ?_⟩
  · exact h0 (by omega)
  · refine ⟨o0, ?_⟩
    refine ⟨fun q1 => ?_, fun q1 => ?_⟩
    · exact h0 (by omega)
    · exact h1 (⟨q0, q1⟩)
theorem dX12_isSign_0 : decode cX12_isSign 0 = .ok (.aload_n 0, 1) := by decide +kernel
theorem dX12_isSign_1 : decode cX12_isSign 1 = .ok (.getfield 163, 3) := by decide +kernel
theorem dX12_isSign_4 : decode cX12_isSign 4 = .ok (.iconst 4, 1) := by decide +kernel
theorem dX12_isSign_5 : decode cX12_isSign 5 = .ok (.if_icmp .ne 15, 3) := by decide +kernel
theorem dX12_isSign_8 : decode cX12_isSign 8 = .ok (.aload_n 0, 1) := by decide +kernel
theorem dX12_isSign_9 : decode cX12_isSign 9 = .ok (.getfield 166, 3) := by decide +kernel
theorem dX12_isSign_12 : decode cX12_isSign 12 = .ok (.iload_n 1, 1) := by decide +kernel
theorem dX12_isSign_13 : decode cX12_isSign 13 = .ok (.if_icmp .ne 7, 3) := by decide +kernel
theorem dX12_isSign_16 : decode cX12_isSign 16 = .ok (.iconst 1, 1) := by decide +kernel
theorem dX12_isSign_17 : decode cX12_isSign 17 = .ok (.goto 4, 3) := by decide +kernel
theorem dX12_isSign_20 : decode cX12_isSign 20 = .ok (.iconst 0, 1) := by decide +kernel
theorem dX12_isSign_21 : decode cX12_isSign 21 = .ok (.ireturn, 1) := by decide +kernel
theorem eX12_isSign {l : Launch} {g : jm_G} {d : Nat} {v1 : Int} (hg : jm_HR g) {mu : jm_M} {Q : Option Value → jm_M → Prop} (h : (¬ (mu.1 0 16) = 4 → Q (some (jm_i 0)) mu) ∧ ((mu.1 0 16) = 4 → jm_rg v1 ∧ (¬ (mu.1 0 17) = v1 → Q (some (jm_i 0)) mu) ∧ ((mu.1 0 17) = v1 → Q (some (jm_i 1)) mu))) : jm_R l g (d + 1) iX12_isSign [.ref 0, jm_i v1] mu Q := by
  refine jm_enter [(0, .ref 0), (1, jm_i v1)] (by decide) (Nat.le_of_ble_eq_true rfl) rfl ?_
  refine jm_mrI (fun hm0 => ?_)
  refine jm_aload_n (pc := 0) 0 dX12_isSign_0 rfl ?_
  refine jm_geti (pc := 1) 16 dX12_isSign_1 fX12_163 (cR0 hg) rfl ?_
  refine jm_iconst (pc := 4) dX12_isSign_4 ?_
  refine jm_icmp_ne (pc := 5) 20 dX12_isSign_5 rfl (hm0 _ _) ⟨by decide, by decide⟩ (fun q => ?_) (fun q => ?_)
  · have h := h.1 q
    refine jm_iconst (pc := 20) dX12_isSign_20 ?_
    exact jm_zret (pc := 21) dX12_isSign_21 rfl (Or.inl rfl) h
  · have h := h.2 q
    refine jm_aload_n (pc := 8) 0 dX12_isSign_8 rfl ?_
    refine jm_geti (pc := 9) 17 dX12_isSign_9 fX12_166 (cR0 hg) rfl ?_
    refine jm_iload_n (pc := 12) 1 dX12_isSign_12 rfl ?_
    have hg1 := h.1
    have h := h.2
    refine jm_icmp_ne (pc := 13) 20 dX12_isSign_13 rfl (hm0 _ _) hg1 (fun q => ?_) (fun q => ?_)
    · have h := h.1 q
      refine jm_iconst (pc := 20) dX12_isSign_20 ?_
      exact jm_zret (pc := 21) dX12_isSign_21 rfl (Or.inl rfl) h
    · have h := h.2 q
      refine jm_iconst (pc := 16) dX12_isSign_16 ?_
      refine jm_goto (pc := 17) 21 dX12_isSign_17 rfl ?_
      exact jm_zret (pc := 21) dX12_isSign_21 rfl (Or.inr rfl) h
theorem pX12_isSign {l : Launch} {g : jm_G} {d : Nat} {v1 : Int} (hg : jm_HR g) {mu : jm_M} {Q : Option Value → jm_M → Prop} (o0 : jm_rg v1) (h1 : (mu.1 0 16) = 4 ∧ (mu.1 0 17) = v1 → Q (some (jm_i 1)) mu) (h0 : ¬ ((mu.1 0 16) = 4 ∧ (mu.1 0 17) = v1) → Q (some (jm_i 0)) mu) : jm_R l g (d + 1) iX12_isSign [.ref 0, jm_i v1] mu Q := by
  refine eX12_isSign hg ?_
  refine ⟨fun q0 => ?_, fun q0 => ?_⟩
  · exact h0 (by omega)
  · refine ⟨o0, ?_⟩
    refine ⟨fun q1 => ?_, fun q1 => ?_⟩
    · exact h0 (by omega)
    · exact h1 (⟨q0, q1⟩)
theorem dX12_emits_0 : decode cX12_emits 0 = .ok (.aload_n 0, 1) := by decide +kernel
theorem dX12_emits_1 : decode cX12_emits 1 = .ok (.getfield 49, 3) := by decide +kernel
theorem dX12_emits_4 : decode cX12_emits 4 = .ok (.sipush 800, 3) := by decide +kernel
theorem dX12_emits_7 : decode cX12_emits 7 = .ok (.aload_n 0, 1) := by decide +kernel
theorem dX12_emits_8 : decode cX12_emits 8 = .ok (.getfield 188, 3) := by decide +kernel
theorem dX12_emits_11 : decode cX12_emits 11 = .ok (.iadd, 1) := by decide +kernel
theorem dX12_emits_12 : decode cX12_emits 12 = .ok (.iload_n 1, 1) := by decide +kernel
theorem dX12_emits_13 : decode cX12_emits 13 = .ok (.iastore, 1) := by decide +kernel
theorem dX12_emits_14 : decode cX12_emits 14 = .ok (.aload_n 0, 1) := by decide +kernel
theorem dX12_emits_15 : decode cX12_emits 15 = .ok (.getfield 52, 3) := by decide +kernel
theorem dX12_emits_18 : decode cX12_emits 18 = .ok (.sipush 800, 3) := by decide +kernel
theorem dX12_emits_21 : decode cX12_emits 21 = .ok (.aload_n 0, 1) := by decide +kernel
theorem dX12_emits_22 : decode cX12_emits 22 = .ok (.getfield 188, 3) := by decide +kernel
theorem dX12_emits_25 : decode cX12_emits 25 = .ok (.iadd, 1) := by decide +kernel
theorem dX12_emits_26 : decode cX12_emits 26 = .ok (.iload_n 2, 1) := by decide +kernel
theorem dX12_emits_27 : decode cX12_emits 27 = .ok (.iastore, 1) := by decide +kernel
theorem dX12_emits_28 : decode cX12_emits 28 = .ok (.aload_n 0, 1) := by decide +kernel
theorem dX12_emits_29 : decode cX12_emits 29 = .ok (.aload_n 0, 1) := by decide +kernel
theorem dX12_emits_30 : decode cX12_emits 30 = .ok (.getfield 188, 3) := by decide +kernel
theorem dX12_emits_33 : decode cX12_emits 33 = .ok (.iconst 1, 1) := by decide +kernel
theorem dX12_emits_34 : decode cX12_emits 34 = .ok (.iadd, 1) := by decide +kernel
theorem dX12_emits_35 : decode cX12_emits 35 = .ok (.putfield 188, 3) := by decide +kernel
theorem dX12_emits_38 : decode cX12_emits 38 = .ok (.return_, 1) := by decide +kernel
theorem eX12_emits {l : Launch} {g : jm_G} {d : Nat} {v1 v2 : Int} (hg : jm_HR g) {mu : jm_M} {Q : Option Value → jm_M → Prop} (h : (0 ≤ (800 + (mu.1 0 27)) ∧ (800 + (mu.1 0 27)) < 1200) ∧ jm_rg v1 ∧ ∀ m3, m3 = jm_wr mu 14 (800 + (mu.1 0 27)) v1 → (0 ≤ (800 + (m3.1 0 27)) ∧ (800 + (m3.1 0 27)) < 1200) ∧ jm_rg v2 ∧ ∀ m7, m7 = jm_wr m3 15 (800 + (m3.1 0 27)) v2 → jm_rg ((m7.1 0 27) + 1) ∧ ∀ m10, m10 = jm_wr m7 0 27 ((m7.1 0 27) + 1) → Q none m10) : jm_R l g (d + 1) iX12_emits [.ref 0, jm_i v1, jm_i v2] mu Q := by
  refine jm_enter [(0, .ref 0), (1, jm_i v1), (2, jm_i v2)] (by decide) (Nat.le_of_ble_eq_true rfl) rfl ?_
  refine jm_mrI (fun hm0 => ?_)
  refine jm_aload_n (pc := 0) 0 dX12_emits_0 rfl ?_
  refine jm_getr (pc := 1) 24 dX12_emits_1 fX12_49 (cR0 hg) rfl ?_
  refine jm_sipush (pc := 4) dX12_emits_4 (by decide) ?_
  refine jm_aload_n (pc := 7) 0 dX12_emits_7 rfl ?_
  refine jm_geti (pc := 8) 27 dX12_emits_8 fX12_188 (cR0 hg) rfl ?_
  refine jm_iadd (pc := 11) dX12_emits_11 ?_
  refine jm_iload_n (pc := 12) 1 dX12_emits_12 rfl ?_
  have hg1 := h.1
  have h := h.2
  have hg2 := h.1
  have h := h.2
  refine jm_iast (pc := 13) dX12_emits_13 (cR14 hg) (by decide) hg1.1 hg1.2 hg2 ?_
  have h := h _ rfl
  refine jm_mrI (fun hm4 => ?_)
  refine jm_aload_n (pc := 14) 0 dX12_emits_14 rfl ?_
  refine jm_getr (pc := 15) 25 dX12_emits_15 fX12_52 (cR0 hg) rfl ?_
  refine jm_sipush (pc := 18) dX12_emits_18 (by decide) ?_
  refine jm_aload_n (pc := 21) 0 dX12_emits_21 rfl ?_
  refine jm_geti (pc := 22) 27 dX12_emits_22 fX12_188 (cR0 hg) rfl ?_
  refine jm_iadd (pc := 25) dX12_emits_25 ?_
  refine jm_iload_n (pc := 26) 2 dX12_emits_26 rfl ?_
  have hg5 := h.1
  have h := h.2
  have hg6 := h.1
  have h := h.2
  refine jm_iast (pc := 27) dX12_emits_27 (cR15 hg) (by decide) hg5.1 hg5.2 hg6 ?_
  have h := h _ rfl
  refine jm_mrI (fun hm8 => ?_)
  refine jm_aload_n (pc := 28) 0 dX12_emits_28 rfl ?_
  refine jm_aload_n (pc := 29) 0 dX12_emits_29 rfl ?_
  refine jm_geti (pc := 30) 27 dX12_emits_30 fX12_188 (cR0 hg) rfl ?_
  refine jm_iconst (pc := 33) dX12_emits_33 ?_
  refine jm_iadd (pc := 34) dX12_emits_34 ?_
  have hg9 := h.1
  have h := h.2
  refine jm_put (pc := 35) 27 dX12_emits_35 fX12_188 ftX12 (fun q h => by cases h; rfl) (jm_nI _) (jm_fI _) (cR0 hg) rfl hg9 ?_
  have h := h _ rfl
  refine jm_mrI (fun hm11 => ?_)
  exact jm_vret (pc := 38) dX12_emits_38 rfl h
theorem pX12_emits {l : Launch} {g : jm_G} {d : Nat} {v1 v2 : Int} (hg : jm_HR g) {mu : jm_M} {Q : Option Value → jm_M → Prop} (o0 : 0 ≤ (800 + (mu.1 0 27)) ∧ (800 + (mu.1 0 27)) < 1200) (o1 : jm_rg v1) (o2 : 0 ≤ (800 + ((jm_wr mu 14 (800 + (mu.1 0 27)) v1).1 0 27)) ∧ (800 + ((jm_wr mu 14 (800 + (mu.1 0 27)) v1).1 0 27)) < 1200) (o3 : jm_rg v2) (o4 : jm_rg (((jm_wr (jm_wr mu 14 (800 + (mu.1 0 27)) v1) 15 (800 + ((jm_wr mu 14 (800 + (mu.1 0 27)) v1).1 0 27)) v2).1 0 27) + 1)) (h : Q none (jm_wr (jm_wr (jm_wr mu 14 (800 + (mu.1 0 27)) v1) 15 (800 + ((jm_wr mu 14 (800 + (mu.1 0 27)) v1).1 0 27)) v2) 0 27 (((jm_wr (jm_wr mu 14 (800 + (mu.1 0 27)) v1) 15 (800 + ((jm_wr mu 14 (800 + (mu.1 0 27)) v1).1 0 27)) v2).1 0 27) + 1))) : jm_R l g (d + 1) iX12_emits [.ref 0, jm_i v1, jm_i v2] mu Q := by
  refine eX12_emits hg ?_
  refine ⟨o0, ?_⟩
  refine ⟨o1, ?_⟩
  intro x hx
  subst hx
  refine ⟨o2, ?_⟩
  refine ⟨o3, ?_⟩
  intro x hx
  subst hx
  refine ⟨o4, ?_⟩
  intro x hx
  subst hx
  exact h
theorem dX12_canAsk_0 : decode cX12_canAsk 0 = .ok (.aload_n 0, 1) := by decide +kernel
theorem dX12_canAsk_1 : decode cX12_canAsk 1 = .ok (.iload_n 1, 1) := by decide +kernel
theorem dX12_canAsk_2 : decode cX12_canAsk 2 = .ok (.bipush 7, 2) := by decide +kernel
theorem dX12_canAsk_4 : decode cX12_canAsk 4 = .ok (.bipush 17, 2) := by decide +kernel
theorem dX12_canAsk_6 : decode cX12_canAsk 6 = .ok (.invokevirtual 128, 3) := by decide +kernel
theorem dX12_canAsk_9 : decode cX12_canAsk 9 = .ok (.ireturn, 1) := by decide +kernel
theorem eX12_canAsk {l : Launch} {g : jm_G} {d : Nat} {v1 : Int} (hg : jm_HR g) {mu : jm_M} {Q : Option Value → jm_M → Prop} (h : jm_rg v1 ∧ (7 ≤ v1 ∧ v1 ≤ 17 → Q (some (jm_i 1)) mu) ∧ (¬ (7 ≤ v1 ∧ v1 ≤ 17) → Q (some (jm_i 0)) mu)) : jm_R l g (d + 2) iX12_canAsk [.ref 0, jm_i v1] mu Q := by
  refine jm_enter [(0, .ref 0), (1, jm_i v1)] (by decide) (Nat.le_of_ble_eq_true rfl) rfl ?_
  refine jm_mrI (fun hm0 => ?_)
  refine jm_aload_n (pc := 0) 0 dX12_canAsk_0 rfl ?_
  refine jm_iload_n (pc := 1) 1 dX12_canAsk_1 rfl ?_
  refine jm_bipush (pc := 2) dX12_canAsk_2 (by decide) ?_
  refine jm_bipush (pc := 4) dX12_canAsk_4 (by decide) ?_
  have hg1 := h.1
  have h := h.2
  refine jm_inlvi (pc := 6) (As := [_, _, _]) (st := []) iX12_isIn dX12_canAsk_6 mX12_128 (cR0 hg) ⟨_, rfl, rfl⟩ rfl rfl (Nat.le_of_ble_eq_true rfl) (pX12_isIn hg hg1 ⟨by decide, by decide⟩ ⟨by decide, by decide⟩ (fun q => jm_kIi ?_) (fun q => jm_kIi ?_))
  · have h := h.1 q
    exact jm_zret (pc := 9) dX12_canAsk_9 rfl (Or.inr rfl) h
  · have h := h.2 q
    exact jm_zret (pc := 9) dX12_canAsk_9 rfl (Or.inl rfl) h
theorem pX12_canAsk {l : Launch} {g : jm_G} {d : Nat} {v1 : Int} (hg : jm_HR g) {mu : jm_M} {Q : Option Value → jm_M → Prop} (o0 : jm_rg v1) (h1 : (7 ≤ v1 ∧ v1 ≤ 17) → Q (some (jm_i 1)) mu) (h0 : ¬ ((7 ≤ v1 ∧ v1 ≤ 17)) → Q (some (jm_i 0)) mu) : jm_R l g (d + 2) iX12_canAsk [.ref 0, jm_i v1] mu Q := by
  refine eX12_canAsk hg ?_
  refine ⟨o0, ?_⟩
  refine ⟨fun q0 => ?_, fun q0 => ?_⟩
  · exact h1 (q0)
  · exact h0 (by omega)
theorem dX12_readUnit_0 : decode cX12_readUnit 0 = .ok (.aload_n 0, 1) := by decide +kernel
theorem dX12_readUnit_1 : decode cX12_readUnit 1 = .ok (.getfield 163, 3) := by decide +kernel
theorem dX12_readUnit_4 : decode cX12_readUnit 4 = .ok (.iconst 2, 1) := by decide +kernel
theorem dX12_readUnit_5 : decode cX12_readUnit 5 = .ok (.if_icmp .ne 18, 3) := by decide +kernel
theorem dX12_readUnit_8 : decode cX12_readUnit 8 = .ok (.aload_n 0, 1) := by decide +kernel
theorem dX12_readUnit_9 : decode cX12_readUnit 9 = .ok (.aload_n 0, 1) := by decide +kernel
theorem dX12_readUnit_10 : decode cX12_readUnit 10 = .ok (.getfield 166, 3) := by decide +kernel
theorem dX12_readUnit_13 : decode cX12_readUnit 13 = .ok (.invokevirtual 191, 3) := by decide +kernel
theorem dX12_readUnit_16 : decode cX12_readUnit 16 = .ok (.ifCond .eq 7, 3) := by decide +kernel
theorem dX12_readUnit_19 : decode cX12_readUnit 19 = .ok (.iconst 1, 1) := by decide +kernel
theorem dX12_readUnit_20 : decode cX12_readUnit 20 = .ok (.goto 4, 3) := by decide +kernel
theorem dX12_readUnit_23 : decode cX12_readUnit 23 = .ok (.iconst 0, 1) := by decide +kernel
theorem dX12_readUnit_24 : decode cX12_readUnit 24 = .ok (.istore_n 1, 1) := by decide +kernel
theorem dX12_readUnit_25 : decode cX12_readUnit 25 = .ok (.iload_n 1, 1) := by decide +kernel
theorem dX12_readUnit_26 : decode cX12_readUnit 26 = .ok (.ifCond .ne 17, 3) := by decide +kernel
theorem dX12_readUnit_29 : decode cX12_readUnit 29 = .ok (.aload_n 0, 1) := by decide +kernel
theorem dX12_readUnit_30 : decode cX12_readUnit 30 = .ok (.getfield 163, 3) := by decide +kernel
theorem dX12_readUnit_33 : decode cX12_readUnit 33 = .ok (.iconst 3, 1) := by decide +kernel
theorem dX12_readUnit_34 : decode cX12_readUnit 34 = .ok (.if_icmp .eq 9, 3) := by decide +kernel
theorem dX12_readUnit_37 : decode cX12_readUnit 37 = .ok (.aload_n 0, 1) := by decide +kernel
theorem dX12_readUnit_38 : decode cX12_readUnit 38 = .ok (.iconst 1, 1) := by decide +kernel
theorem dX12_readUnit_39 : decode cX12_readUnit 39 = .ok (.invokevirtual 194, 3) := by decide +kernel
theorem dX12_readUnit_42 : decode cX12_readUnit 42 = .ok (.ireturn, 1) := by decide +kernel
theorem dX12_readUnit_43 : decode cX12_readUnit 43 = .ok (.aload_n 0, 1) := by decide +kernel
theorem dX12_readUnit_44 : decode cX12_readUnit 44 = .ok (.iload_n 1, 1) := by decide +kernel
theorem dX12_readUnit_45 : decode cX12_readUnit 45 = .ok (.ifCond .eq 7, 3) := by decide +kernel
theorem dX12_readUnit_48 : decode cX12_readUnit 48 = .ok (.iconst 1, 1) := by decide +kernel
theorem dX12_readUnit_49 : decode cX12_readUnit 49 = .ok (.goto 4, 3) := by decide +kernel
theorem dX12_readUnit_52 : decode cX12_readUnit 52 = .ok (.iconst 0, 1) := by decide +kernel
theorem dX12_readUnit_53 : decode cX12_readUnit 53 = .ok (.iload_n 1, 1) := by decide +kernel
theorem dX12_readUnit_54 : decode cX12_readUnit 54 = .ok (.ifCond .eq 13, 3) := by decide +kernel
theorem dX12_readUnit_57 : decode cX12_readUnit 57 = .ok (.aload_n 0, 1) := by decide +kernel
theorem dX12_readUnit_58 : decode cX12_readUnit 58 = .ok (.getfield 166, 3) := by decide +kernel
theorem dX12_readUnit_61 : decode cX12_readUnit 61 = .ok (.bipush 7, 2) := by decide +kernel
theorem dX12_readUnit_63 : decode cX12_readUnit 63 = .ok (.isub, 1) := by decide +kernel
theorem dX12_readUnit_64 : decode cX12_readUnit 64 = .ok (.goto 7, 3) := by decide +kernel
theorem dX12_readUnit_67 : decode cX12_readUnit 67 = .ok (.aload_n 0, 1) := by decide +kernel
theorem dX12_readUnit_68 : decode cX12_readUnit 68 = .ok (.getfield 166, 3) := by decide +kernel
theorem dX12_readUnit_71 : decode cX12_readUnit 71 = .ok (.invokevirtual 197, 3) := by decide +kernel
theorem dX12_readUnit_74 : decode cX12_readUnit 74 = .ok (.aload_n 0, 1) := by decide +kernel
theorem dX12_readUnit_75 : decode cX12_readUnit 75 = .ok (.invokevirtual 200, 3) := by decide +kernel
theorem dX12_readUnit_78 : decode cX12_readUnit 78 = .ok (.iconst 0, 1) := by decide +kernel
theorem dX12_readUnit_79 : decode cX12_readUnit 79 = .ok (.ireturn, 1) := by decide +kernel
theorem bX12_readUnit_71 {l : Launch} {g : jm_G} {d : Nat} {s0 s1 : Int} (hg : jm_HR g) {mu : jm_M} {Q : Option Value → jm_M → Prop} (h : (0 ≤ (800 + (mu.1 0 27)) ∧ (800 + (mu.1 0 27)) < 1200) ∧ jm_rg s1 ∧ (0 ≤ (800 + ((jm_wr mu 14 (800 + (mu.1 0 27)) s1).1 0 27)) ∧ (800 + ((jm_wr mu 14 (800 + (mu.1 0 27)) s1).1 0 27)) < 1200) ∧ jm_rg s0 ∧ (jm_rg (((jm_wr (jm_wr mu 14 (800 + (mu.1 0 27)) s1) 15 (800 + ((jm_wr mu 14 (800 + (mu.1 0 27)) s1).1 0 27)) s0).1 0 27) + 1)) ∧ ∀ m6, m6 = (jm_wr (jm_wr (jm_wr mu 14 (800 + (mu.1 0 27)) s1) 15 (800 + ((jm_wr mu 14 (800 + (mu.1 0 27)) s1).1 0 27)) s0) 0 27 (((jm_wr (jm_wr mu 14 (800 + (mu.1 0 27)) s1) 15 (800 + ((jm_wr mu 14 (800 + (mu.1 0 27)) s1).1 0 27)) s0).1 0 27) + 1)) → jm_R l g (d + 2) iX12_reads [.ref 0] m6 (jm_qv fun m8 => Q (some (jm_i 0)) m8)) : jm_V l g (d + 3) iX12_readUnit 71 [(0, .ref 0)] [jm_i s0, jm_i s1, .ref 0] mu Q := by
  refine jm_mrI (fun hm0 => ?_)
  have hg1 := h.1
  have h := h.2
  have hg2 := h.1
  have h := h.2
  have hg3 := h.1
  have h := h.2
  have hg4 := h.1
  have h := h.2
  have hg5 := h.1
  have h := h.2
  refine jm_inlvv (pc := 71) (As := [_, _]) (st := []) iX12_emits dX12_readUnit_71 mX12_197 (cR0 hg) ⟨_, rfl, rfl⟩ rfl rfl (Nat.le_of_ble_eq_true rfl) (pX12_emits hg hg1 hg2 hg3 hg4 hg5 (jm_kVi ?_))
  have h := h _ rfl
  refine jm_mrI (fun hm7 => ?_)
  refine jm_aload_n (pc := 74) 0 dX12_readUnit_74 rfl ?_
  refine jm_callvv (pc := 75) (As := []) (st := []) iX12_reads dX12_readUnit_75 mX12_200 (cR0 hg) ⟨_, rfl, rfl⟩ rfl rfl (Nat.le_of_ble_eq_true rfl) h (fun m8 h hm11 => ?_)
  refine jm_iconst (pc := 78) dX12_readUnit_78 ?_
  exact jm_iret (pc := 79) dX12_readUnit_79 rfl h
theorem bX12_readUnit_43 {l : Launch} {g : jm_G} {d : Nat} {v1 : Int} (hg : jm_HR g) {mu : jm_M} {Q : Option Value → jm_M → Prop} (h : jm_rg v1 ∧ (v1 = 0 → (v1 = 0 → jm_V l g (d + 3) iX12_readUnit 71 [(0, .ref 0)] [jm_i (mu.1 0 17), jm_i 0, .ref 0] mu Q) ∧ (¬ v1 = 0 → jm_V l g (d + 3) iX12_readUnit 71 [(0, .ref 0)] [jm_i ((mu.1 0 17) - 7), jm_i 0, .ref 0] mu Q)) ∧ (¬ v1 = 0 → (v1 = 0 → jm_V l g (d + 3) iX12_readUnit 71 [(0, .ref 0)] [jm_i (mu.1 0 17), jm_i 1, .ref 0] mu Q) ∧ (¬ v1 = 0 → jm_V l g (d + 3) iX12_readUnit 71 [(0, .ref 0)] [jm_i ((mu.1 0 17) - 7), jm_i 1, .ref 0] mu Q))) : jm_V l g (d + 3) iX12_readUnit 43 [(0, .ref 0), (1, jm_i v1)] [] mu Q := by
  refine jm_mrI (fun hm0 => ?_)
  refine jm_aload_n (pc := 43) 0 dX12_readUnit_43 rfl ?_
  refine jm_iload_n (pc := 44) 1 dX12_readUnit_44 rfl ?_
  have hg1 := h.1
  have h := h.2
  refine jm_if_eq (pc := 45) 52 dX12_readUnit_45 rfl hg1 (fun q => ?_) (fun q => ?_)
  · have h := h.1 q
    refine jm_iconst (pc := 52) dX12_readUnit_52 ?_
    refine jm_iload_n (pc := 53) 1 dX12_readUnit_53 rfl ?_
    refine jm_if_eq (pc := 54) 67 dX12_readUnit_54 rfl hg1 (fun q => ?_) (fun q => ?_)
    · have h := h.1 q
      refine jm_aload_n (pc := 67) 0 dX12_readUnit_67 rfl ?_
      refine jm_geti (pc := 68) 17 dX12_readUnit_68 fX12_166 (cR0 hg) rfl ?_
      exact jm_sub [0] rfl h
    · have h := h.2 q
      refine jm_aload_n (pc := 57) 0 dX12_readUnit_57 rfl ?_
      refine jm_geti (pc := 58) 17 dX12_readUnit_58 fX12_166 (cR0 hg) rfl ?_
      refine jm_bipush (pc := 61) dX12_readUnit_61 (by decide) ?_
      refine jm_isub (pc := 63) dX12_readUnit_63 ?_
      refine jm_goto (pc := 64) 71 dX12_readUnit_64 rfl ?_
      exact jm_sub [0] rfl h
  · have h := h.2 q
    refine jm_iconst (pc := 48) dX12_readUnit_48 ?_
    refine jm_goto (pc := 49) 53 dX12_readUnit_49 rfl ?_
    refine jm_iload_n (pc := 53) 1 dX12_readUnit_53 rfl ?_
    refine jm_if_eq (pc := 54) 67 dX12_readUnit_54 rfl hg1 (fun q => ?_) (fun q => ?_)
    · have h := h.1 q
      refine jm_aload_n (pc := 67) 0 dX12_readUnit_67 rfl ?_
      refine jm_geti (pc := 68) 17 dX12_readUnit_68 fX12_166 (cR0 hg) rfl ?_
      exact jm_sub [0] rfl h
    · have h := h.2 q
      refine jm_aload_n (pc := 57) 0 dX12_readUnit_57 rfl ?_
      refine jm_geti (pc := 58) 17 dX12_readUnit_58 fX12_166 (cR0 hg) rfl ?_
      refine jm_bipush (pc := 61) dX12_readUnit_61 (by decide) ?_
      refine jm_isub (pc := 63) dX12_readUnit_63 ?_
      refine jm_goto (pc := 64) 71 dX12_readUnit_64 rfl ?_
      exact jm_sub [0] rfl h
theorem bX12_readUnit_24 {l : Launch} {g : jm_G} {d : Nat} {s0 : Int} (hg : jm_HR g) {mu : jm_M} {Q : Option Value → jm_M → Prop} (h : jm_rg s0 ∧ (¬ s0 = 0 → jm_V l g (d + 3) iX12_readUnit 43 [(0, .ref 0), (1, jm_i s0)] [] mu Q) ∧ (s0 = 0 → ((mu.1 0 16) = 3 → jm_V l g (d + 3) iX12_readUnit 43 [(0, .ref 0), (1, jm_i s0)] [] mu Q) ∧ (¬ (mu.1 0 16) = 3 → ∀ m2, m2 = (jm_wr (jm_wr mu 0 31 1) 0 32 ((jm_wr mu 0 31 1).1 0 15)) → Q (some (jm_i (-1))) m2))) : jm_V l g (d + 3) iX12_readUnit 24 [(0, .ref 0)] [jm_i s0] mu Q := by
  refine jm_mrI (fun hm0 => ?_)
  refine jm_istore_n (pc := 24) (lv' := [(1, _), (0, _)]) dX12_readUnit_24 (by decide) rfl ?_
  refine jm_iload_n (pc := 25) 0 dX12_readUnit_25 rfl ?_
  have hg1 := h.1
  have h := h.2
  refine jm_if_ne (pc := 26) 43 dX12_readUnit_26 rfl hg1 (fun q => ?_) (fun q => ?_)
  · have h := h.1 q
    exact jm_sub [1, 0] rfl h
  · have h := h.2 q
    refine jm_aload_n (pc := 29) 1 dX12_readUnit_29 rfl ?_
    refine jm_geti (pc := 30) 16 dX12_readUnit_30 fX12_163 (cR0 hg) rfl ?_
    refine jm_iconst (pc := 33) dX12_readUnit_33 ?_
    refine jm_icmp_eq (pc := 34) 43 dX12_readUnit_34 rfl (hm0 _ _) ⟨by decide, by decide⟩ (fun q => ?_) (fun q => ?_)
    · have h := h.1 q
      exact jm_sub [1, 0] rfl h
    · have h := h.2 q
      refine jm_aload_n (pc := 37) 1 dX12_readUnit_37 rfl ?_
      refine jm_iconst (pc := 38) dX12_readUnit_38 ?_
      refine jm_inlvi (pc := 39) (As := [_]) (st := []) iX12_errs dX12_readUnit_39 mX12_194 (cR0 hg) ⟨_, rfl, rfl⟩ rfl rfl (Nat.le_of_ble_eq_true rfl) (pX12_errs hg ⟨by decide, by decide⟩ (jm_kIi ?_))
      have h := h _ rfl
      refine jm_mrI (fun hm3 => ?_)
      exact jm_iret (pc := 42) dX12_readUnit_42 rfl h
theorem eX12_readUnit {l : Launch} {g : jm_G} {d : Nat} (hg : jm_HR g) {mu : jm_M} {Q : Option Value → jm_M → Prop} (h : (¬ (mu.1 0 16) = 2 → jm_V l g (d + 3) iX12_readUnit 24 [(0, .ref 0)] [jm_i 0] mu Q) ∧ ((mu.1 0 16) = 2 → ((7 ≤ (mu.1 0 17) ∧ (mu.1 0 17) ≤ 17) → jm_V l g (d + 3) iX12_readUnit 24 [(0, .ref 0)] [jm_i 1] mu Q) ∧ (¬ ((7 ≤ (mu.1 0 17) ∧ (mu.1 0 17) ≤ 17)) → jm_V l g (d + 3) iX12_readUnit 24 [(0, .ref 0)] [jm_i 0] mu Q))) : jm_R l g (d + 3) iX12_readUnit [.ref 0] mu Q := by
  refine jm_enter [(0, .ref 0)] (by decide) (Nat.le_of_ble_eq_true rfl) rfl ?_
  refine jm_mrI (fun hm0 => ?_)
  refine jm_aload_n (pc := 0) 0 dX12_readUnit_0 rfl ?_
  refine jm_geti (pc := 1) 16 dX12_readUnit_1 fX12_163 (cR0 hg) rfl ?_
  refine jm_iconst (pc := 4) dX12_readUnit_4 ?_
  refine jm_icmp_ne (pc := 5) 23 dX12_readUnit_5 rfl (hm0 _ _) ⟨by decide, by decide⟩ (fun q => ?_) (fun q => ?_)
  · have h := h.1 q
    refine jm_iconst (pc := 23) dX12_readUnit_23 ?_
    exact jm_sub [0] rfl h
  · have h := h.2 q
    refine jm_aload_n (pc := 8) 0 dX12_readUnit_8 rfl ?_
    refine jm_aload_n (pc := 9) 0 dX12_readUnit_9 rfl ?_
    refine jm_geti (pc := 10) 17 dX12_readUnit_10 fX12_166 (cR0 hg) rfl ?_
    refine jm_inlvi (pc := 13) (As := [_]) (st := []) iX12_canAsk dX12_readUnit_13 mX12_191 (cR0 hg) ⟨_, rfl, rfl⟩ rfl rfl (Nat.le_of_ble_eq_true rfl) (pX12_canAsk hg (hm0 _ _) (fun q => jm_kIi ?_) (fun q => jm_kIi ?_))
    · have h := h.1 q
      refine jm_if_eq (pc := 16) 23 dX12_readUnit_16 rfl ⟨by decide, by decide⟩ (fun q => absurd q (by decide)) (fun q => ?_)
      refine jm_iconst (pc := 19) dX12_readUnit_19 ?_
      refine jm_goto (pc := 20) 24 dX12_readUnit_20 rfl ?_
      exact jm_sub [0] rfl h
    · have h := h.2 q
      refine jm_if_eq (pc := 16) 23 dX12_readUnit_16 rfl ⟨by decide, by decide⟩ (fun q => ?_) (fun q => absurd q (by decide))
      refine jm_iconst (pc := 23) dX12_readUnit_23 ?_
      exact jm_sub [0] rfl h
