theorem dX11_forgetDeeds_0 : decode cX11_forgetDeeds 0 = .ok (.aload_n 0, 1) := by decide +kernel
theorem dX11_forgetDeeds_1 : decode cX11_forgetDeeds 1 = .ok (.iconst 0, 1) := by decide +kernel
theorem dX11_forgetDeeds_2 : decode cX11_forgetDeeds 2 = .ok (.putfield 106, 3) := by decide +kernel
theorem dX11_forgetDeeds_5 : decode cX11_forgetDeeds 5 = .ok (.aload_n 0, 1) := by decide +kernel
theorem dX11_forgetDeeds_6 : decode cX11_forgetDeeds 6 = .ok (.iconst 0, 1) := by decide +kernel
theorem dX11_forgetDeeds_7 : decode cX11_forgetDeeds 7 = .ok (.putfield 110, 3) := by decide +kernel
theorem dX11_forgetDeeds_10 : decode cX11_forgetDeeds 10 = .ok (.return_, 1) := by decide +kernel
theorem eX11_forgetDeeds {l : Launch} {g : jm_G} {d : Nat} (hg : jm_HC g) {mu : jm_M} {Q : Option Value → jm_M → Prop} (h : ∀ m1, m1 = jm_wr mu 0 15 0 → ∀ m3, m3 = jm_wr m1 0 16 0 → Q none m3) : jm_R l g (d + 1) iX11_forgetDeeds [.ref 0] mu Q := by
  refine jm_enter [(0, .ref 0)] (by decide) (Nat.le_of_ble_eq_true rfl) rfl ?_
  refine jm_mrI (fun hm0 => ?_)
  refine jm_aload_n (pc := 0) 0 dX11_forgetDeeds_0 rfl ?_
  refine jm_iconst (pc := 1) dX11_forgetDeeds_1 ?_
  refine jm_put (pc := 2) 15 dX11_forgetDeeds_2 fX11_106 ftX11 (fun q h => by cases h; rfl) (jm_nI _) (jm_fI _) (cC0 hg) rfl ⟨by decide, by decide⟩ ?_
  have h := h _ rfl
  refine jm_mrI (fun hm2 => ?_)
  refine jm_aload_n (pc := 5) 0 dX11_forgetDeeds_5 rfl ?_
  refine jm_iconst (pc := 6) dX11_forgetDeeds_6 ?_
  refine jm_put (pc := 7) 16 dX11_forgetDeeds_7 fX11_110 ftX11 (fun q h => by cases h; rfl) (jm_nI _) (jm_fI _) (cC0 hg) rfl ⟨by decide, by decide⟩ ?_
  have h := h _ rfl
  refine jm_mrI (fun hm4 => ?_)
  exact jm_vret (pc := 10) dX11_forgetDeeds_10 rfl h
theorem pX11_forgetDeeds {l : Launch} {g : jm_G} {d : Nat} (hg : jm_HC g) {mu : jm_M} {Q : Option Value → jm_M → Prop} (h : Q none (jm_wr (jm_wr mu 0 15 0) 0 16 0)) : jm_R l g (d + 1) iX11_forgetDeeds [.ref 0] mu Q := by
  refine eX11_forgetDeeds hg ?_
  intro x hx
  subst hx
  intro x hx
  subst hx
  exact h
theorem dX11_state_0 : decode cX11_state 0 = .ok (.aload_n 0, 1) := by decide +kernel
theorem dX11_state_1 : decode cX11_state 1 = .ok (.getfield 26, 3) := by decide +kernel
theorem dX11_state_4 : decode cX11_state 4 = .ok (.getfield 113, 3) := by decide +kernel
theorem dX11_state_7 : decode cX11_state 7 = .ok (.istore_n 2, 1) := by decide +kernel
theorem dX11_state_8 : decode cX11_state 8 = .ok (.aload_n 0, 1) := by decide +kernel
theorem dX11_state_9 : decode cX11_state 9 = .ok (.getfield 26, 3) := by decide +kernel
theorem dX11_state_12 : decode cX11_state 12 = .ok (.iload_n 1, 1) := by decide +kernel
theorem dX11_state_13 : decode cX11_state 13 = .ok (.putfield 113, 3) := by decide +kernel
theorem dX11_state_16 : decode cX11_state 16 = .ok (.aload_n 0, 1) := by decide +kernel
theorem dX11_state_17 : decode cX11_state 17 = .ok (.invokevirtual 116, 3) := by decide +kernel
theorem dX11_state_20 : decode cX11_state 20 = .ok (.iload_n 2, 1) := by decide +kernel
theorem dX11_state_21 : decode cX11_state 21 = .ok (.ireturn, 1) := by decide +kernel
theorem eX11_state {l : Launch} {g : jm_G} {d : Nat} {v1 : Int} (hg : jm_HC g) {mu : jm_M} {Q : Option Value → jm_M → Prop} (h : ∀ x1, x1 = (mu.1 29 0) → jm_rg v1 ∧ ∀ m3, m3 = jm_wr mu 29 0 v1 → ∀ m5, m5 = (jm_wr (jm_wr m3 0 15 0) 0 16 0) → Q (some (jm_i x1)) m5) : jm_R l g (d + 2) iX11_state [.ref 0, jm_i v1] mu Q := by
  refine jm_enter [(0, .ref 0), (1, jm_i v1)] (by decide) (Nat.le_of_ble_eq_true rfl) rfl ?_
  refine jm_mrI (fun hm0 => ?_)
  refine jm_aload_n (pc := 0) 0 dX11_state_0 rfl ?_
  refine jm_getr (pc := 1) 2 dX11_state_1 fX11_26 (cC0 hg) rfl ?_
  refine jm_geti (pc := 4) 0 dX11_state_4 fX11_113 (cC29 hg) rfl ?_
  have h := h _ rfl
  refine jm_istore_n (pc := 7) (lv' := [(2, _), (0, _), (1, _)]) dX11_state_7 (by decide) rfl ?_
  refine jm_aload_n (pc := 8) 1 dX11_state_8 rfl ?_
  refine jm_getr (pc := 9) 2 dX11_state_9 fX11_26 (cC0 hg) rfl ?_
  refine jm_iload_n (pc := 12) 2 dX11_state_12 rfl ?_
  have hg2 := h.1
  have h := h.2
  refine jm_put (pc := 13) 0 dX11_state_13 fX11_113 ftX1 (fun q h => by cases h; rfl) (jm_nI _) (jm_fI _) (cC29 hg) rfl hg2 ?_
  have h := h _ rfl
  refine jm_mrI (fun hm4 => ?_)
  refine jm_aload_n (pc := 16) 1 dX11_state_16 rfl ?_
  refine jm_inlvv (pc := 17) (As := []) (st := []) iX11_forgetDeeds dX11_state_17 mX11_116 (cC0 hg) ⟨_, rfl, rfl⟩ rfl rfl (Nat.le_of_ble_eq_true rfl) (pX11_forgetDeeds hg  (jm_kVi ?_))
  have h := h _ rfl
  refine jm_mrI (fun hm6 => ?_)
  refine jm_iload_n (pc := 20) 0 dX11_state_20 rfl ?_
  exact jm_iret (pc := 21) dX11_state_21 rfl h
theorem pX11_state {l : Launch} {g : jm_G} {d : Nat} {v1 : Int} (hg : jm_HC g) {mu : jm_M} {Q : Option Value → jm_M → Prop} (o0 : jm_rg v1) (h : Q (some (jm_i ((mu.1 29 0)))) ((jm_wr (jm_wr (jm_wr mu 29 0 v1) 0 15 0) 0 16 0))) : jm_R l g (d + 2) iX11_state [.ref 0, jm_i v1] mu Q := by
  refine eX11_state hg ?_
  intro x hx
  subst hx
  refine ⟨o0, ?_⟩
  intro x hx
  subst hx
  intro x hx
  subst hx
  exact h
theorem dX11_isWithin_0 : decode cX11_isWithin 0 = .ok (.iload_n 0, 1) := by decide +kernel
theorem dX11_isWithin_1 : decode cX11_isWithin 1 = .ok (.iload_n 1, 1) := by decide +kernel
theorem dX11_isWithin_2 : decode cX11_isWithin 2 = .ok (.if_icmp .lt 12, 3) := by decide +kernel
theorem dX11_isWithin_5 : decode cX11_isWithin 5 = .ok (.iload_n 0, 1) := by decide +kernel
theorem dX11_isWithin_6 : decode cX11_isWithin 6 = .ok (.iload_n 2, 1) := by decide +kernel
theorem dX11_isWithin_7 : decode cX11_isWithin 7 = .ok (.if_icmp .gt 7, 3) := by decide +kernel
theorem dX11_isWithin_10 : decode cX11_isWithin 10 = .ok (.iconst 1, 1) := by decide +kernel
theorem dX11_isWithin_11 : decode cX11_isWithin 11 = .ok (.goto 4, 3) := by decide +kernel
theorem dX11_isWithin_14 : decode cX11_isWithin 14 = .ok (.iconst 0, 1) := by decide +kernel
theorem dX11_isWithin_15 : decode cX11_isWithin 15 = .ok (.ireturn, 1) := by decide +kernel
theorem eX11_isWithin {l : Launch} {g : jm_G} {d : Nat} {v0 v1 v2 : Int} (hg : jm_HC g) {mu : jm_M} {Q : Option Value → jm_M → Prop} (h : jm_rg v0 ∧ jm_rg v1 ∧ (v0 < v1 → Q (some (jm_i 0)) mu) ∧ (v1 ≤ v0 → jm_rg v2 ∧ (v2 < v0 → Q (some (jm_i 0)) mu) ∧ (v0 ≤ v2 → Q (some (jm_i 1)) mu))) : jm_R l g (d + 1) iX11_isWithin [jm_i v0, jm_i v1, jm_i v2] mu Q := by
  refine jm_enter [(0, jm_i v0), (1, jm_i v1), (2, jm_i v2)] (by decide) (Nat.le_of_ble_eq_true rfl) rfl ?_
  refine jm_mrI (fun hm0 => ?_)
  refine jm_iload_n (pc := 0) 0 dX11_isWithin_0 rfl ?_
  refine jm_iload_n (pc := 1) 1 dX11_isWithin_1 rfl ?_
  have hg1 := h.1
  have h := h.2
  have hg2 := h.1
  have h := h.2
  refine jm_icmp_lt (pc := 2) 14 dX11_isWithin_2 rfl hg1 hg2 (fun q => ?_) (fun q => ?_)
  · have h := h.1 q
    refine jm_iconst (pc := 14) dX11_isWithin_14 ?_
    exact jm_zret (pc := 15) dX11_isWithin_15 rfl (Or.inl rfl) h
  · have h := h.2 q
    refine jm_iload_n (pc := 5) 0 dX11_isWithin_5 rfl ?_
    refine jm_iload_n (pc := 6) 2 dX11_isWithin_6 rfl ?_
    have hg3 := h.1
    have h := h.2
    refine jm_icmp_gt (pc := 7) 14 dX11_isWithin_7 rfl hg1 hg3 (fun q => ?_) (fun q => ?_)
    · have h := h.1 q
      refine jm_iconst (pc := 14) dX11_isWithin_14 ?_
      exact jm_zret (pc := 15) dX11_isWithin_15 rfl (Or.inl rfl) h
    · have h := h.2 q
      refine jm_iconst (pc := 10) dX11_isWithin_10 ?_
      refine jm_goto (pc := 11) 15 dX11_isWithin_11 rfl ?_
      exact jm_zret (pc := 15) dX11_isWithin_15 rfl (Or.inr rfl) h
theorem pX11_isWithin {l : Launch} {g : jm_G} {d : Nat} {v0 v1 v2 : Int} (hg : jm_HC g) {mu : jm_M} {Q : Option Value → jm_M → Prop} (o0 : jm_rg v0) (o1 : jm_rg v1) (o2 : jm_rg v2) (h1 : v1 ≤ v0 ∧ v0 ≤ v2 → Q (some (jm_i 1)) mu) (h0 : ¬ (v1 ≤ v0 ∧ v0 ≤ v2) → Q (some (jm_i 0)) mu) : jm_R l g (d + 1) iX11_isWithin [jm_i v0, jm_i v1, jm_i v2] mu Q := by
  refine eX11_isWithin hg ?_
  refine ⟨o0, ?_⟩
  refine ⟨o1, ?_⟩
  refine ⟨fun q0 => ?_, fun q0 => ?_⟩
  · exact h0 (by omega)
  · refine ⟨o2, ?_⟩
    refine ⟨fun q1 => ?_, fun q1 => ?_⟩
    · exact h0 (by omega)
    · exact h1 (⟨q0, q1⟩)
theorem dX11_isNote_0 : decode cX11_isNote 0 = .ok (.iload_n 0, 1) := by decide +kernel
theorem dX11_isNote_1 : decode cX11_isNote 1 = .ok (.iconst 1, 1) := by decide +kernel
theorem dX11_isNote_2 : decode cX11_isNote 2 = .ok (.bipush 60, 2) := by decide +kernel
theorem dX11_isNote_4 : decode cX11_isNote 4 = .ok (.invokestatic 123, 3) := by decide +kernel
theorem dX11_isNote_7 : decode cX11_isNote 7 = .ok (.ireturn, 1) := by decide +kernel
theorem eX11_isNote {l : Launch} {g : jm_G} {d : Nat} {v0 : Int} (hg : jm_HC g) {mu : jm_M} {Q : Option Value → jm_M → Prop} (h : jm_rg v0 ∧ (1 ≤ v0 ∧ v0 ≤ 60 → Q (some (jm_i 1)) mu) ∧ (¬ (1 ≤ v0 ∧ v0 ≤ 60) → Q (some (jm_i 0)) mu)) : jm_R l g (d + 2) iX11_isNote [jm_i v0] mu Q := by
  refine jm_enter [(0, jm_i v0)] (by decide) (Nat.le_of_ble_eq_true rfl) rfl ?_
  refine jm_mrI (fun hm0 => ?_)
  refine jm_iload_n (pc := 0) 0 dX11_isNote_0 rfl ?_
  refine jm_iconst (pc := 1) dX11_isNote_1 ?_
  refine jm_bipush (pc := 2) dX11_isNote_2 (by decide) ?_
  have hg1 := h.1
  have h := h.2
  refine jm_inlsi (pc := 4) (As := [_, _, _]) (st := []) iX11_isWithin dX11_isNote_4 mX11_123 rfl rfl (Nat.le_of_ble_eq_true rfl) (pX11_isWithin hg hg1 ⟨by decide, by decide⟩ ⟨by decide, by decide⟩ (fun q => jm_kIi ?_) (fun q => jm_kIi ?_))
  · have h := h.1 q
    exact jm_zret (pc := 7) dX11_isNote_7 rfl (Or.inr rfl) h
  · have h := h.2 q
    exact jm_zret (pc := 7) dX11_isNote_7 rfl (Or.inl rfl) h
theorem pX11_isNote {l : Launch} {g : jm_G} {d : Nat} {v0 : Int} (hg : jm_HC g) {mu : jm_M} {Q : Option Value → jm_M → Prop} (o0 : jm_rg v0) (h1 : (1 ≤ v0 ∧ v0 ≤ 60) → Q (some (jm_i 1)) mu) (h0 : ¬ ((1 ≤ v0 ∧ v0 ≤ 60)) → Q (some (jm_i 0)) mu) : jm_R l g (d + 2) iX11_isNote [jm_i v0] mu Q := by
  refine eX11_isNote hg ?_
  refine ⟨o0, ?_⟩
  refine ⟨fun q0 => ?_, fun q0 => ?_⟩
  · exact h1 (q0)
  · exact h0 (by omega)
theorem dX8_addWitness_0 : decode cX8_addWitness 0 = .ok (.aload_n 0, 1) := by decide +kernel
theorem dX8_addWitness_1 : decode cX8_addWitness 1 = .ok (.getfield 9, 3) := by decide +kernel
theorem dX8_addWitness_4 : decode cX8_addWitness 4 = .ok (.istore 4, 2) := by decide +kernel
theorem dX8_addWitness_6 : decode cX8_addWitness 6 = .ok (.aload_n 0, 1) := by decide +kernel
theorem dX8_addWitness_7 : decode cX8_addWitness 7 = .ok (.getfield 15, 3) := by decide +kernel
theorem dX8_addWitness_10 : decode cX8_addWitness 10 = .ok (.iload 4, 2) := by decide +kernel
theorem dX8_addWitness_12 : decode cX8_addWitness 12 = .ok (.iload_n 1, 1) := by decide +kernel
theorem dX8_addWitness_13 : decode cX8_addWitness 13 = .ok (.iastore, 1) := by decide +kernel
theorem dX8_addWitness_14 : decode cX8_addWitness 14 = .ok (.aload_n 0, 1) := by decide +kernel
theorem dX8_addWitness_15 : decode cX8_addWitness 15 = .ok (.getfield 19, 3) := by decide +kernel
theorem dX8_addWitness_18 : decode cX8_addWitness 18 = .ok (.iload 4, 2) := by decide +kernel
theorem dX8_addWitness_20 : decode cX8_addWitness 20 = .ok (.iload_n 2, 1) := by decide +kernel
theorem dX8_addWitness_21 : decode cX8_addWitness 21 = .ok (.iastore, 1) := by decide +kernel
theorem dX8_addWitness_22 : decode cX8_addWitness 22 = .ok (.aload_n 0, 1) := by decide +kernel
theorem dX8_addWitness_23 : decode cX8_addWitness 23 = .ok (.getfield 22, 3) := by decide +kernel
theorem dX8_addWitness_26 : decode cX8_addWitness 26 = .ok (.iload 4, 2) := by decide +kernel
theorem dX8_addWitness_28 : decode cX8_addWitness 28 = .ok (.iload_n 3, 1) := by decide +kernel
theorem dX8_addWitness_29 : decode cX8_addWitness 29 = .ok (.iastore, 1) := by decide +kernel
theorem dX8_addWitness_30 : decode cX8_addWitness 30 = .ok (.iconst 0, 1) := by decide +kernel
theorem dX8_addWitness_31 : decode cX8_addWitness 31 = .ok (.istore 5, 2) := by decide +kernel
theorem dX8_addWitness_33 : decode cX8_addWitness 33 = .ok (.iload 5, 2) := by decide +kernel
theorem dX8_addWitness_35 : decode cX8_addWitness 35 = .ok (.bipush 6, 2) := by decide +kernel
theorem dX8_addWitness_37 : decode cX8_addWitness 37 = .ok (.if_icmp .ge 23, 3) := by decide +kernel
theorem dX8_addWitness_40 : decode cX8_addWitness 40 = .ok (.aload_n 0, 1) := by decide +kernel
theorem dX8_addWitness_41 : decode cX8_addWitness 41 = .ok (.getfield 25, 3) := by decide +kernel
theorem dX8_addWitness_44 : decode cX8_addWitness 44 = .ok (.iload 4, 2) := by decide +kernel
theorem dX8_addWitness_46 : decode cX8_addWitness 46 = .ok (.bipush 6, 2) := by decide +kernel
theorem dX8_addWitness_48 : decode cX8_addWitness 48 = .ok (.imul, 1) := by decide +kernel
theorem dX8_addWitness_49 : decode cX8_addWitness 49 = .ok (.iload 5, 2) := by decide +kernel
theorem dX8_addWitness_51 : decode cX8_addWitness 51 = .ok (.iadd, 1) := by decide +kernel
theorem dX8_addWitness_52 : decode cX8_addWitness 52 = .ok (.iconst (-1), 1) := by decide +kernel
theorem dX8_addWitness_53 : decode cX8_addWitness 53 = .ok (.iastore, 1) := by decide +kernel
theorem dX8_addWitness_54 : decode cX8_addWitness 54 = .ok (.iinc 5 1, 3) := by decide +kernel
theorem dX8_addWitness_57 : decode cX8_addWitness 57 = .ok (.goto (-24), 3) := by decide +kernel
theorem dX8_addWitness_60 : decode cX8_addWitness 60 = .ok (.aload_n 0, 1) := by decide +kernel
theorem dX8_addWitness_61 : decode cX8_addWitness 61 = .ok (.dup, 1) := by decide +kernel
theorem dX8_addWitness_62 : decode cX8_addWitness 62 = .ok (.getfield 9, 3) := by decide +kernel
theorem dX8_addWitness_65 : decode cX8_addWitness 65 = .ok (.iconst 1, 1) := by decide +kernel
theorem dX8_addWitness_66 : decode cX8_addWitness 66 = .ok (.iadd, 1) := by decide +kernel
theorem dX8_addWitness_67 : decode cX8_addWitness 67 = .ok (.putfield 9, 3) := by decide +kernel
theorem dX8_addWitness_70 : decode cX8_addWitness 70 = .ok (.iload 4, 2) := by decide +kernel
theorem dX8_addWitness_72 : decode cX8_addWitness 72 = .ok (.ireturn, 1) := by decide +kernel
theorem bX8_addWitness_33 {l : Launch} {g : jm_G} {d : Nat} {v4 v5 : Int} (hg : jm_HC g) {mu : jm_M} {Q : Option Value → jm_M → Prop} (h : jm_rg v5 ∧ (6 ≤ v5 → jm_rg ((mu.1 6 0) + 1) ∧ ∀ m3, m3 = jm_wr mu 6 0 ((mu.1 6 0) + 1) → Q (some (jm_i v4)) m3) ∧ (v5 < 6 → (0 ≤ ((v4 * 6) + v5) ∧ ((v4 * 6) + v5) < 48) ∧ ∀ m6, m6 = jm_wr mu 10 ((v4 * 6) + v5) (-1) → jm_V l g (d + 1) iX8_addWitness 33 [(0, .ref 6), (4, jm_i v4), (5, jm_i (v5 + 1))] [] m6 Q)) : jm_V l g (d + 1) iX8_addWitness 33 [(0, .ref 6), (4, jm_i v4), (5, jm_i v5)] [] mu Q := by
  refine jm_mrI (fun hm0 => ?_)
  refine jm_iload (pc := 33) 2 dX8_addWitness_33 rfl ?_
  refine jm_bipush (pc := 35) dX8_addWitness_35 (by decide) ?_
  have hg1 := h.1
  have h := h.2
  refine jm_icmp_ge (pc := 37) 60 dX8_addWitness_37 rfl hg1 ⟨by decide, by decide⟩ (fun q => ?_) (fun q => ?_)
  · have h := h.1 q
    refine jm_aload_n (pc := 60) 0 dX8_addWitness_60 rfl ?_
    refine jm_dup (pc := 61) _ dX8_addWitness_61 rfl ?_
    refine jm_geti (pc := 62) 0 dX8_addWitness_62 fX8_9 (cC6 hg) rfl ?_
    refine jm_iconst (pc := 65) dX8_addWitness_65 ?_
    refine jm_iadd (pc := 66) dX8_addWitness_66 ?_
    have hg2 := h.1
    have h := h.2
    refine jm_put (pc := 67) 0 dX8_addWitness_67 fX8_9 ftX8 (fun q h => by cases h; rfl) (jm_nI _) (jm_fI _) (cC6 hg) rfl hg2 ?_
    have h := h _ rfl
    refine jm_mrI (fun hm4 => ?_)
    refine jm_iload (pc := 70) 1 dX8_addWitness_70 rfl ?_
    exact jm_iret (pc := 72) dX8_addWitness_72 rfl h
  · have h := h.2 q
    refine jm_aload_n (pc := 40) 0 dX8_addWitness_40 rfl ?_
    refine jm_getr (pc := 41) 4 dX8_addWitness_41 fX8_25 (cC6 hg) rfl ?_
    refine jm_iload (pc := 44) 1 dX8_addWitness_44 rfl ?_
    refine jm_bipush (pc := 46) dX8_addWitness_46 (by decide) ?_
    refine jm_imul (pc := 48) dX8_addWitness_48 ?_
    refine jm_iload (pc := 49) 2 dX8_addWitness_49 rfl ?_
    refine jm_iadd (pc := 51) dX8_addWitness_51 ?_
    refine jm_iconst (pc := 52) dX8_addWitness_52 ?_
    have hg5 := h.1
    have h := h.2
    refine jm_iast (pc := 53) dX8_addWitness_53 (cC10 hg) (by decide) hg5.1 hg5.2 ⟨by decide, by decide⟩ ?_
    have h := h _ rfl
    refine jm_mrI (fun hm7 => ?_)
    refine jm_iinc (pc := 54) (lv' := [(5, _), (0, _), (4, _)]) 2 dX8_addWitness_54 rfl (by decide) rfl ?_
    refine jm_goto (pc := 57) 33 dX8_addWitness_57 rfl ?_
    exact jm_sub [1, 2, 0] rfl h
theorem eX8_addWitness {l : Launch} {g : jm_G} {d : Nat} {v1 v2 v3 : Int} (hg : jm_HC g) {mu : jm_M} {Q : Option Value → jm_M → Prop} (h : ∀ x1, x1 = (mu.1 6 0) → (0 ≤ x1 ∧ x1 < 8) ∧ jm_rg v1 ∧ ∀ m4, m4 = jm_wr mu 7 x1 v1 → jm_rg v2 ∧ ∀ m7, m7 = jm_wr m4 8 x1 v2 → jm_rg v3 ∧ ∀ m10, m10 = jm_wr m7 9 x1 v3 → jm_V l g (d + 1) iX8_addWitness 33 [(0, .ref 6), (4, jm_i x1), (5, jm_i 0)] [] m10 Q) : jm_R l g (d + 1) iX8_addWitness [.ref 6, jm_i v1, jm_i v2, jm_i v3] mu Q := by
  refine jm_enter [(0, .ref 6), (1, jm_i v1), (2, jm_i v2), (3, jm_i v3)] (by decide) (Nat.le_of_ble_eq_true rfl) rfl ?_
  refine jm_mrI (fun hm0 => ?_)
  refine jm_aload_n (pc := 0) 0 dX8_addWitness_0 rfl ?_
  refine jm_geti (pc := 1) 0 dX8_addWitness_1 fX8_9 (cC6 hg) rfl ?_
  have h := h _ rfl
  refine jm_istore (pc := 4) (lv' := [(4, _), (0, _), (1, _), (2, _), (3, _)]) dX8_addWitness_4 (by decide) rfl ?_
  refine jm_aload_n (pc := 6) 1 dX8_addWitness_6 rfl ?_
  refine jm_getr (pc := 7) 1 dX8_addWitness_7 fX8_15 (cC6 hg) rfl ?_
  refine jm_iload (pc := 10) 0 dX8_addWitness_10 rfl ?_
  refine jm_iload_n (pc := 12) 2 dX8_addWitness_12 rfl ?_
  have hg2 := h.1
  have h := h.2
  have hg3 := h.1
  have h := h.2
  refine jm_iast (pc := 13) dX8_addWitness_13 (cC7 hg) (by decide) hg2.1 hg2.2 hg3 ?_
  have h := h _ rfl
  refine jm_mrI (fun hm5 => ?_)
  refine jm_aload_n (pc := 14) 1 dX8_addWitness_14 rfl ?_
  refine jm_getr (pc := 15) 2 dX8_addWitness_15 fX8_19 (cC6 hg) rfl ?_
  refine jm_iload (pc := 18) 0 dX8_addWitness_18 rfl ?_
  refine jm_iload_n (pc := 20) 3 dX8_addWitness_20 rfl ?_
  have hg6 := h.1
  have h := h.2
  refine jm_iast (pc := 21) dX8_addWitness_21 (cC8 hg) (by decide) hg2.1 hg2.2 hg6 ?_
  have h := h _ rfl
  refine jm_mrI (fun hm8 => ?_)
  refine jm_aload_n (pc := 22) 1 dX8_addWitness_22 rfl ?_
  refine jm_getr (pc := 23) 3 dX8_addWitness_23 fX8_22 (cC6 hg) rfl ?_
  refine jm_iload (pc := 26) 0 dX8_addWitness_26 rfl ?_
  refine jm_iload_n (pc := 28) 4 dX8_addWitness_28 rfl ?_
  have hg9 := h.1
  have h := h.2
  refine jm_iast (pc := 29) dX8_addWitness_29 (cC9 hg) (by decide) hg2.1 hg2.2 hg9 ?_
  have h := h _ rfl
  refine jm_mrI (fun hm11 => ?_)
  refine jm_iconst (pc := 30) dX8_addWitness_30 ?_
  refine jm_istore (pc := 31) (lv' := [(5, _), (4, _), (0, _), (1, _), (2, _), (3, _)]) dX8_addWitness_31 (by decide) rfl ?_
  exact jm_sub [2, 1, 0] rfl h
theorem dX11_witness_0 : decode cX11_witness 0 = .ok (.iload_n 1, 1) := by decide +kernel
theorem dX11_witness_1 : decode cX11_witness 1 = .ok (.invokestatic 119, 3) := by decide +kernel
theorem dX11_witness_4 : decode cX11_witness 4 = .ok (.ifCond .eq 25, 3) := by decide +kernel
theorem dX11_witness_7 : decode cX11_witness 7 = .ok (.iload_n 2, 1) := by decide +kernel
theorem dX11_witness_8 : decode cX11_witness 8 = .ok (.invokestatic 119, 3) := by decide +kernel
theorem dX11_witness_11 : decode cX11_witness 11 = .ok (.ifCond .eq 18, 3) := by decide +kernel
theorem dX11_witness_14 : decode cX11_witness 14 = .ok (.iload_n 2, 1) := by decide +kernel
theorem dX11_witness_15 : decode cX11_witness 15 = .ok (.iload_n 1, 1) := by decide +kernel
theorem dX11_witness_16 : decode cX11_witness 16 = .ok (.if_icmp .lt 13, 3) := by decide +kernel
theorem dX11_witness_19 : decode cX11_witness 19 = .ok (.iload_n 3, 1) := by decide +kernel
theorem dX11_witness_20 : decode cX11_witness 20 = .ok (.iconst 1, 1) := by decide +kernel
theorem dX11_witness_21 : decode cX11_witness 21 = .ok (.bipush 9, 2) := by decide +kernel
theorem dX11_witness_23 : decode cX11_witness 23 = .ok (.invokestatic 123, 3) := by decide +kernel
theorem dX11_witness_26 : decode cX11_witness 26 = .ok (.ifCond .ne 5, 3) := by decide +kernel
theorem dX11_witness_29 : decode cX11_witness 29 = .ok (.iconst (-1), 1) := by decide +kernel
theorem dX11_witness_30 : decode cX11_witness 30 = .ok (.ireturn, 1) := by decide +kernel
theorem dX11_witness_31 : decode cX11_witness 31 = .ok (.aload_n 0, 1) := by decide +kernel
theorem dX11_witness_32 : decode cX11_witness 32 = .ok (.getfield 19, 3) := by decide +kernel
theorem dX11_witness_35 : decode cX11_witness 35 = .ok (.getfield 127, 3) := by decide +kernel
theorem dX11_witness_38 : decode cX11_witness 38 = .ok (.bipush 8, 2) := by decide +kernel
theorem dX11_witness_40 : decode cX11_witness 40 = .ok (.if_icmp .lt 5, 3) := by decide +kernel
theorem dX11_witness_43 : decode cX11_witness 43 = .ok (.iconst (-1), 1) := by decide +kernel
theorem dX11_witness_44 : decode cX11_witness 44 = .ok (.ireturn, 1) := by decide +kernel
theorem dX11_witness_45 : decode cX11_witness 45 = .ok (.aload_n 0, 1) := by decide +kernel
theorem dX11_witness_46 : decode cX11_witness 46 = .ok (.getfield 19, 3) := by decide +kernel
theorem dX11_witness_49 : decode cX11_witness 49 = .ok (.iload_n 1, 1) := by decide +kernel
theorem dX11_witness_50 : decode cX11_witness 50 = .ok (.iload_n 2, 1) := by decide +kernel
theorem dX11_witness_51 : decode cX11_witness 51 = .ok (.iload_n 3, 1) := by decide +kernel
theorem dX11_witness_52 : decode cX11_witness 52 = .ok (.invokevirtual 130, 3) := by decide +kernel
theorem dX11_witness_55 : decode cX11_witness 55 = .ok (.istore 4, 2) := by decide +kernel
theorem dX11_witness_57 : decode cX11_witness 57 = .ok (.aload_n 0, 1) := by decide +kernel
theorem dX11_witness_58 : decode cX11_witness 58 = .ok (.getfield 26, 3) := by decide +kernel
theorem dX11_witness_61 : decode cX11_witness 61 = .ok (.getfield 134, 3) := by decide +kernel
theorem dX11_witness_64 : decode cX11_witness 64 = .ok (.iload 4, 2) := by decide +kernel
theorem dX11_witness_66 : decode cX11_witness 66 = .ok (.bipush 50, 2) := by decide +kernel
theorem dX11_witness_68 : decode cX11_witness 68 = .ok (.iastore, 1) := by decide +kernel
theorem dX11_witness_69 : decode cX11_witness 69 = .ok (.aload_n 0, 1) := by decide +kernel
theorem dX11_witness_70 : decode cX11_witness 70 = .ok (.getfield 26, 3) := by decide +kernel
theorem dX11_witness_73 : decode cX11_witness 73 = .ok (.getfield 138, 3) := by decide +kernel
theorem dX11_witness_76 : decode cX11_witness 76 = .ok (.iload 4, 2) := by decide +kernel
theorem dX11_witness_78 : decode cX11_witness 78 = .ok (.iconst 0, 1) := by decide +kernel
theorem dX11_witness_79 : decode cX11_witness 79 = .ok (.iastore, 1) := by decide +kernel
theorem dX11_witness_80 : decode cX11_witness 80 = .ok (.aload_n 0, 1) := by decide +kernel
theorem dX11_witness_81 : decode cX11_witness 81 = .ok (.invokevirtual 116, 3) := by decide +kernel
theorem dX11_witness_84 : decode cX11_witness 84 = .ok (.iload 4, 2) := by decide +kernel
theorem dX11_witness_86 : decode cX11_witness 86 = .ok (.ireturn, 1) := by decide +kernel
theorem eX11_witness {l : Launch} {g : jm_G} {d : Nat} {v1 v2 v3 : Int} (hg : jm_HC g) {mu : jm_M} {Q : Option Value → jm_M → Prop} (h : jm_rg v1 ∧ ((1 ≤ v1 ∧ v1 ≤ 60) → jm_rg v2 ∧ ((1 ≤ v2 ∧ v2 ≤ 60) → (v2 < v1 → Q (some (jm_i (-1))) mu) ∧ (v1 ≤ v2 → jm_rg v3 ∧ (1 ≤ v3 ∧ v3 ≤ 9 → ((mu.1 6 0) < 8 → jm_R l g (d + 2) iX8_addWitness [.ref 6, jm_i v1, jm_i v2, jm_i v3] mu (jm_qi fun z5 m4 => (0 ≤ z5 ∧ z5 < 8) ∧ ∀ m9, m9 = jm_wr m4 30 z5 50 → ∀ m11, m11 = jm_wr m9 31 z5 0 → ∀ m13, m13 = (jm_wr (jm_wr m11 0 15 0) 0 16 0) → Q (some (jm_i z5)) m13)) ∧ (8 ≤ (mu.1 6 0) → Q (some (jm_i (-1))) mu)) ∧ (¬ (1 ≤ v3 ∧ v3 ≤ 9) → Q (some (jm_i (-1))) mu))) ∧ (¬ ((1 ≤ v2 ∧ v2 ≤ 60)) → Q (some (jm_i (-1))) mu)) ∧ (¬ ((1 ≤ v1 ∧ v1 ≤ 60)) → Q (some (jm_i (-1))) mu)) : jm_R l g (d + 3) iX11_witness [.ref 0, jm_i v1, jm_i v2, jm_i v3] mu Q := by
  refine jm_enter [(0, .ref 0), (1, jm_i v1), (2, jm_i v2), (3, jm_i v3)] (by decide) (Nat.le_of_ble_eq_true rfl) rfl ?_
  refine jm_mrI (fun hm0 => ?_)
  refine jm_iload_n (pc := 0) 1 dX11_witness_0 rfl ?_
  have hg1 := h.1
  have h := h.2
  refine jm_inlsi (pc := 1) (As := [_]) (st := []) iX11_isNote dX11_witness_1 mX11_119 rfl rfl (Nat.le_of_ble_eq_true rfl) (pX11_isNote hg hg1 (fun q => jm_kIi ?_) (fun q => jm_kIi ?_))
  · have h := h.1 q
    refine jm_if_eq (pc := 4) 29 dX11_witness_4 rfl ⟨by decide, by decide⟩ (fun q => absurd q (by decide)) (fun q => ?_)
    refine jm_iload_n (pc := 7) 2 dX11_witness_7 rfl ?_
    have hg2 := h.1
    have h := h.2
    refine jm_inlsi (pc := 8) (As := [_]) (st := []) iX11_isNote dX11_witness_8 mX11_119 rfl rfl (Nat.le_of_ble_eq_true rfl) (pX11_isNote hg hg2 (fun q => jm_kIi ?_) (fun q => jm_kIi ?_))
    · have h := h.1 q
      refine jm_if_eq (pc := 11) 29 dX11_witness_11 rfl ⟨by decide, by decide⟩ (fun q => absurd q (by decide)) (fun q => ?_)
      refine jm_iload_n (pc := 14) 2 dX11_witness_14 rfl ?_
      refine jm_iload_n (pc := 15) 1 dX11_witness_15 rfl ?_
      refine jm_icmp_lt (pc := 16) 29 dX11_witness_16 rfl hg2 hg1 (fun q => ?_) (fun q => ?_)
      · have h := h.1 q
        refine jm_iconst (pc := 29) dX11_witness_29 ?_
        exact jm_iret (pc := 30) dX11_witness_30 rfl h
      · have h := h.2 q
        refine jm_iload_n (pc := 19) 3 dX11_witness_19 rfl ?_
        refine jm_iconst (pc := 20) dX11_witness_20 ?_
        refine jm_bipush (pc := 21) dX11_witness_21 (by decide) ?_
        have hg3 := h.1
        have h := h.2
        refine jm_inlsi (pc := 23) (As := [_, _, _]) (st := []) iX11_isWithin dX11_witness_23 mX11_123 rfl rfl (Nat.le_of_ble_eq_true rfl) (pX11_isWithin hg hg3 ⟨by decide, by decide⟩ ⟨by decide, by decide⟩ (fun q => jm_kIi ?_) (fun q => jm_kIi ?_))
        · have h := h.1 q
          refine jm_if_ne (pc := 26) 31 dX11_witness_26 rfl ⟨by decide, by decide⟩ (fun q => ?_) (fun q => absurd q (by decide))
          refine jm_aload_n (pc := 31) 0 dX11_witness_31 rfl ?_
          refine jm_getr (pc := 32) 1 dX11_witness_32 fX11_19 (cC0 hg) rfl ?_
          refine jm_geti (pc := 35) 0 dX11_witness_35 fX11_127 (cC6 hg) rfl ?_
          refine jm_bipush (pc := 38) dX11_witness_38 (by decide) ?_
          refine jm_icmp_lt (pc := 40) 45 dX11_witness_40 rfl (hm0 _ _) ⟨by decide, by decide⟩ (fun q => ?_) (fun q => ?_)
          · have h := h.1 q
            refine jm_aload_n (pc := 45) 0 dX11_witness_45 rfl ?_
            refine jm_getr (pc := 46) 1 dX11_witness_46 fX11_19 (cC0 hg) rfl ?_
            refine jm_iload_n (pc := 49) 1 dX11_witness_49 rfl ?_
            refine jm_iload_n (pc := 50) 2 dX11_witness_50 rfl ?_
            refine jm_iload_n (pc := 51) 3 dX11_witness_51 rfl ?_
            refine jm_callvi (pc := 52) (As := [_, _, _]) (st := []) iX8_addWitness dX11_witness_52 mX11_130 (cC6 hg) ⟨_, rfl, rfl⟩ rfl rfl (Nat.le_of_ble_eq_true rfl) h (fun z5 m4 hz6 h hm7 => ?_)
            refine jm_istore (pc := 55) (lv' := [(4, _), (0, _), (1, _), (2, _), (3, _)]) dX11_witness_55 (by decide) rfl ?_
            refine jm_aload_n (pc := 57) 1 dX11_witness_57 rfl ?_
            refine jm_getr (pc := 58) 2 dX11_witness_58 fX11_26 (cC0 hg) rfl ?_
            refine jm_getr (pc := 61) 2 dX11_witness_61 fX11_134 (cC29 hg) rfl ?_
            refine jm_iload (pc := 64) 0 dX11_witness_64 rfl ?_
            refine jm_bipush (pc := 66) dX11_witness_66 (by decide) ?_
            have hg8 := h.1
            have h := h.2
            refine jm_iast (pc := 68) dX11_witness_68 (cC30 hg) (by decide) hg8.1 hg8.2 ⟨by decide, by decide⟩ ?_
            have h := h _ rfl
            refine jm_mrI (fun hm10 => ?_)
            refine jm_aload_n (pc := 69) 1 dX11_witness_69 rfl ?_
            refine jm_getr (pc := 70) 2 dX11_witness_70 fX11_26 (cC0 hg) rfl ?_
            refine jm_getr (pc := 73) 3 dX11_witness_73 fX11_138 (cC29 hg) rfl ?_
            refine jm_iload (pc := 76) 0 dX11_witness_76 rfl ?_
            refine jm_iconst (pc := 78) dX11_witness_78 ?_
            refine jm_iast (pc := 79) dX11_witness_79 (cC31 hg) (by decide) hg8.1 hg8.2 ⟨by decide, by decide⟩ ?_
            have h := h _ rfl
            refine jm_mrI (fun hm12 => ?_)
            refine jm_aload_n (pc := 80) 1 dX11_witness_80 rfl ?_
            refine jm_inlvv (pc := 81) (As := []) (st := []) iX11_forgetDeeds dX11_witness_81 mX11_116 (cC0 hg) ⟨_, rfl, rfl⟩ rfl rfl (Nat.le_of_ble_eq_true rfl) (pX11_forgetDeeds hg  (jm_kVi ?_))
            have h := h _ rfl
            refine jm_mrI (fun hm14 => ?_)
            refine jm_iload (pc := 84) 0 dX11_witness_84 rfl ?_
            exact jm_iret (pc := 86) dX11_witness_86 rfl h
          · have h := h.2 q
            refine jm_iconst (pc := 43) dX11_witness_43 ?_
            exact jm_iret (pc := 44) dX11_witness_44 rfl h
        · have h := h.2 q
          refine jm_if_ne (pc := 26) 31 dX11_witness_26 rfl ⟨by decide, by decide⟩ (fun q => absurd q (by decide)) (fun q => ?_)
          refine jm_iconst (pc := 29) dX11_witness_29 ?_
          exact jm_iret (pc := 30) dX11_witness_30 rfl h
    · have h := h.2 q
      refine jm_if_eq (pc := 11) 29 dX11_witness_11 rfl ⟨by decide, by decide⟩ (fun q => ?_) (fun q => absurd q (by decide))
      refine jm_iconst (pc := 29) dX11_witness_29 ?_
      exact jm_iret (pc := 30) dX11_witness_30 rfl h
  · have h := h.2 q
    refine jm_if_eq (pc := 4) 29 dX11_witness_4 rfl ⟨by decide, by decide⟩ (fun q => ?_) (fun q => absurd q (by decide))
    refine jm_iconst (pc := 29) dX11_witness_29 ?_
    exact jm_iret (pc := 30) dX11_witness_30 rfl h
theorem dX11_isFact_0 : decode cX11_isFact 0 = .ok (.iload_n 0, 1) := by decide +kernel
theorem dX11_isFact_1 : decode cX11_isFact 1 = .ok (.iconst 0, 1) := by decide +kernel
theorem dX11_isFact_2 : decode cX11_isFact 2 = .ok (.iconst 5, 1) := by decide +kernel
theorem dX11_isFact_3 : decode cX11_isFact 3 = .ok (.invokestatic 123, 3) := by decide +kernel
theorem dX11_isFact_6 : decode cX11_isFact 6 = .ok (.ireturn, 1) := by decide +kernel
theorem eX11_isFact {l : Launch} {g : jm_G} {d : Nat} {v0 : Int} (hg : jm_HC g) {mu : jm_M} {Q : Option Value → jm_M → Prop} (h : jm_rg v0 ∧ (0 ≤ v0 ∧ v0 ≤ 5 → Q (some (jm_i 1)) mu) ∧ (¬ (0 ≤ v0 ∧ v0 ≤ 5) → Q (some (jm_i 0)) mu)) : jm_R l g (d + 2) iX11_isFact [jm_i v0] mu Q := by
  refine jm_enter [(0, jm_i v0)] (by decide) (Nat.le_of_ble_eq_true rfl) rfl ?_
  refine jm_mrI (fun hm0 => ?_)
  refine jm_iload_n (pc := 0) 0 dX11_isFact_0 rfl ?_
  refine jm_iconst (pc := 1) dX11_isFact_1 ?_
  refine jm_iconst (pc := 2) dX11_isFact_2 ?_
  have hg1 := h.1
  have h := h.2
  refine jm_inlsi (pc := 3) (As := [_, _, _]) (st := []) iX11_isWithin dX11_isFact_3 mX11_123 rfl rfl (Nat.le_of_ble_eq_true rfl) (pX11_isWithin hg hg1 ⟨by decide, by decide⟩ ⟨by decide, by decide⟩ (fun q => jm_kIi ?_) (fun q => jm_kIi ?_))
  · have h := h.1 q
    exact jm_zret (pc := 6) dX11_isFact_6 rfl (Or.inr rfl) h
  · have h := h.2 q
    exact jm_zret (pc := 6) dX11_isFact_6 rfl (Or.inl rfl) h
theorem pX11_isFact {l : Launch} {g : jm_G} {d : Nat} {v0 : Int} (hg : jm_HC g) {mu : jm_M} {Q : Option Value → jm_M → Prop} (o0 : jm_rg v0) (h1 : (0 ≤ v0 ∧ v0 ≤ 5) → Q (some (jm_i 1)) mu) (h0 : ¬ ((0 ≤ v0 ∧ v0 ≤ 5)) → Q (some (jm_i 0)) mu) : jm_R l g (d + 2) iX11_isFact [jm_i v0] mu Q := by
  refine eX11_isFact hg ?_
  refine ⟨o0, ?_⟩
  refine ⟨fun q0 => ?_, fun q0 => ?_⟩
  · exact h1 (q0)
  · exact h0 (by omega)
theorem dX8_isWitness_0 : decode cX8_isWitness 0 = .ok (.iload_n 1, 1) := by decide +kernel
theorem dX8_isWitness_1 : decode cX8_isWitness 1 = .ok (.ifCond .lt 15, 3) := by decide +kernel
theorem dX8_isWitness_4 : decode cX8_isWitness 4 = .ok (.iload_n 1, 1) := by decide +kernel
theorem dX8_isWitness_5 : decode cX8_isWitness 5 = .ok (.aload_n 0, 1) := by decide +kernel
theorem dX8_isWitness_6 : decode cX8_isWitness 6 = .ok (.getfield 9, 3) := by decide +kernel
theorem dX8_isWitness_9 : decode cX8_isWitness 9 = .ok (.if_icmp .ge 7, 3) := by decide +kernel
theorem dX8_isWitness_12 : decode cX8_isWitness 12 = .ok (.iconst 1, 1) := by decide +kernel
theorem dX8_isWitness_13 : decode cX8_isWitness 13 = .ok (.goto 4, 3) := by decide +kernel
theorem dX8_isWitness_16 : decode cX8_isWitness 16 = .ok (.iconst 0, 1) := by decide +kernel
theorem dX8_isWitness_17 : decode cX8_isWitness 17 = .ok (.ireturn, 1) := by decide +kernel
theorem eX8_isWitness {l : Launch} {g : jm_G} {d : Nat} {v1 : Int} (hg : jm_HC g) {mu : jm_M} {Q : Option Value → jm_M → Prop} (h : jm_rg v1 ∧ (v1 < 0 → Q (some (jm_i 0)) mu) ∧ (0 ≤ v1 → ((mu.1 6 0) ≤ v1 → Q (some (jm_i 0)) mu) ∧ (v1 < (mu.1 6 0) → Q (some (jm_i 1)) mu))) : jm_R l g (d + 1) iX8_isWitness [.ref 6, jm_i v1] mu Q := by
  refine jm_enter [(0, .ref 6), (1, jm_i v1)] (by decide) (Nat.le_of_ble_eq_true rfl) rfl ?_
  refine jm_mrI (fun hm0 => ?_)
  refine jm_iload_n (pc := 0) 1 dX8_isWitness_0 rfl ?_
  have hg1 := h.1
  have h := h.2
  refine jm_if_lt (pc := 1) 16 dX8_isWitness_1 rfl hg1 (fun q => ?_) (fun q => ?_)
  · have h := h.1 q
    refine jm_iconst (pc := 16) dX8_isWitness_16 ?_
    exact jm_zret (pc := 17) dX8_isWitness_17 rfl (Or.inl rfl) h
  · have h := h.2 q
    refine jm_iload_n (pc := 4) 1 dX8_isWitness_4 rfl ?_
    refine jm_aload_n (pc := 5) 0 dX8_isWitness_5 rfl ?_
    refine jm_geti (pc := 6) 0 dX8_isWitness_6 fX8_9 (cC6 hg) rfl ?_
    refine jm_icmp_ge (pc := 9) 16 dX8_isWitness_9 rfl hg1 (hm0 _ _) (fun q => ?_) (fun q => ?_)
    · have h := h.1 q
      refine jm_iconst (pc := 16) dX8_isWitness_16 ?_
      exact jm_zret (pc := 17) dX8_isWitness_17 rfl (Or.inl rfl) h
    · have h := h.2 q
      refine jm_iconst (pc := 12) dX8_isWitness_12 ?_
      refine jm_goto (pc := 13) 17 dX8_isWitness_13 rfl ?_
      exact jm_zret (pc := 17) dX8_isWitness_17 rfl (Or.inr rfl) h
theorem pX8_isWitness {l : Launch} {g : jm_G} {d : Nat} {v1 : Int} (hg : jm_HC g) {mu : jm_M} {Q : Option Value → jm_M → Prop} (o0 : jm_rg v1) (h1 : 0 ≤ v1 ∧ v1 < (mu.1 6 0) → Q (some (jm_i 1)) mu) (h0 : ¬ (0 ≤ v1 ∧ v1 < (mu.1 6 0)) → Q (some (jm_i 0)) mu) : jm_R l g (d + 1) iX8_isWitness [.ref 6, jm_i v1] mu Q := by
  refine eX8_isWitness hg ?_
  refine ⟨o0, ?_⟩
  refine ⟨fun q0 => ?_, fun q0 => ?_⟩
  · exact h0 (by omega)
  · refine ⟨fun q1 => ?_, fun q1 => ?_⟩
    · exact h0 (by omega)
    · exact h1 (⟨q0, q1⟩)
theorem dX11_claim_0 : decode cX11_claim 0 = .ok (.aload_n 0, 1) := by decide +kernel
theorem dX11_claim_1 : decode cX11_claim 1 = .ok (.getfield 19, 3) := by decide +kernel
theorem dX11_claim_4 : decode cX11_claim 4 = .ok (.iload_n 1, 1) := by decide +kernel
theorem dX11_claim_5 : decode cX11_claim 5 = .ok (.invokevirtual 141, 3) := by decide +kernel
theorem dX11_claim_8 : decode cX11_claim 8 = .ok (.ifCond .eq 19, 3) := by decide +kernel
theorem dX11_claim_11 : decode cX11_claim 11 = .ok (.iload_n 2, 1) := by decide +kernel
theorem dX11_claim_12 : decode cX11_claim 12 = .ok (.invokestatic 144, 3) := by decide +kernel
theorem dX11_claim_15 : decode cX11_claim 15 = .ok (.ifCond .eq 12, 3) := by decide +kernel
theorem dX11_claim_18 : decode cX11_claim 18 = .ok (.iload_n 3, 1) := by decide +kernel
theorem dX11_claim_19 : decode cX11_claim 19 = .ok (.iconst (-1), 1) := by decide +kernel
theorem dX11_claim_20 : decode cX11_claim 20 = .ok (.iconst 3, 1) := by decide +kernel
theorem dX11_claim_21 : decode cX11_claim 21 = .ok (.invokestatic 123, 3) := by decide +kernel
theorem dX11_claim_24 : decode cX11_claim 24 = .ok (.ifCond .ne 5, 3) := by decide +kernel
theorem dX11_claim_27 : decode cX11_claim 27 = .ok (.iconst 0, 1) := by decide +kernel
theorem dX11_claim_28 : decode cX11_claim 28 = .ok (.ireturn, 1) := by decide +kernel
theorem dX11_claim_29 : decode cX11_claim 29 = .ok (.aload_n 0, 1) := by decide +kernel
theorem dX11_claim_30 : decode cX11_claim 30 = .ok (.getfield 19, 3) := by decide +kernel
theorem dX11_claim_33 : decode cX11_claim 33 = .ok (.getfield 147, 3) := by decide +kernel
theorem dX11_claim_36 : decode cX11_claim 36 = .ok (.iload_n 1, 1) := by decide +kernel
theorem dX11_claim_37 : decode cX11_claim 37 = .ok (.bipush 6, 2) := by decide +kernel
theorem dX11_claim_39 : decode cX11_claim 39 = .ok (.imul, 1) := by decide +kernel
theorem dX11_claim_40 : decode cX11_claim 40 = .ok (.iload_n 2, 1) := by decide +kernel
theorem dX11_claim_41 : decode cX11_claim 41 = .ok (.iadd, 1) := by decide +kernel
theorem dX11_claim_42 : decode cX11_claim 42 = .ok (.iload_n 3, 1) := by decide +kernel
theorem dX11_claim_43 : decode cX11_claim 43 = .ok (.iastore, 1) := by decide +kernel
theorem dX11_claim_44 : decode cX11_claim 44 = .ok (.aload_n 0, 1) := by decide +kernel
theorem dX11_claim_45 : decode cX11_claim 45 = .ok (.invokevirtual 116, 3) := by decide +kernel
theorem dX11_claim_48 : decode cX11_claim 48 = .ok (.iconst 1, 1) := by decide +kernel
theorem dX11_claim_49 : decode cX11_claim 49 = .ok (.ireturn, 1) := by decide +kernel
theorem eX11_claim {l : Launch} {g : jm_G} {d : Nat} {v1 v2 v3 : Int} (hg : jm_HC g) {mu : jm_M} {Q : Option Value → jm_M → Prop} (h : jm_rg v1 ∧ (0 ≤ v1 ∧ v1 < (mu.1 6 0) → jm_rg v2 ∧ ((0 ≤ v2 ∧ v2 ≤ 5) → jm_rg v3 ∧ ((-1) ≤ v3 ∧ v3 ≤ 3 → (0 ≤ ((v1 * 6) + v2) ∧ ((v1 * 6) + v2) < 48) ∧ ∀ m5, m5 = jm_wr mu 10 ((v1 * 6) + v2) v3 → ∀ m7, m7 = (jm_wr (jm_wr m5 0 15 0) 0 16 0) → Q (some (jm_i 1)) m7) ∧ (¬ ((-1) ≤ v3 ∧ v3 ≤ 3) → Q (some (jm_i 0)) mu)) ∧ (¬ ((0 ≤ v2 ∧ v2 ≤ 5)) → Q (some (jm_i 0)) mu)) ∧ (¬ (0 ≤ v1 ∧ v1 < (mu.1 6 0)) → Q (some (jm_i 0)) mu)) : jm_R l g (d + 3) iX11_claim [.ref 0, jm_i v1, jm_i v2, jm_i v3] mu Q := by
  refine jm_enter [(0, .ref 0), (1, jm_i v1), (2, jm_i v2), (3, jm_i v3)] (by decide) (Nat.le_of_ble_eq_true rfl) rfl ?_
  refine jm_mrI (fun hm0 => ?_)
  refine jm_aload_n (pc := 0) 0 dX11_claim_0 rfl ?_
  refine jm_getr (pc := 1) 1 dX11_claim_1 fX11_19 (cC0 hg) rfl ?_
  refine jm_iload_n (pc := 4) 1 dX11_claim_4 rfl ?_
  have hg1 := h.1
  have h := h.2
  refine jm_inlvi (pc := 5) (As := [_]) (st := []) iX8_isWitness dX11_claim_5 mX11_141 (cC6 hg) ⟨_, rfl, rfl⟩ rfl rfl (Nat.le_of_ble_eq_true rfl) (pX8_isWitness hg hg1 (fun q => jm_kIi ?_) (fun q => jm_kIi ?_))
  · have h := h.1 q
    refine jm_if_eq (pc := 8) 27 dX11_claim_8 rfl ⟨by decide, by decide⟩ (fun q => absurd q (by decide)) (fun q => ?_)
    refine jm_iload_n (pc := 11) 2 dX11_claim_11 rfl ?_
    have hg2 := h.1
    have h := h.2
    refine jm_inlsi (pc := 12) (As := [_]) (st := []) iX11_isFact dX11_claim_12 mX11_144 rfl rfl (Nat.le_of_ble_eq_true rfl) (pX11_isFact hg hg2 (fun q => jm_kIi ?_) (fun q => jm_kIi ?_))
    · have h := h.1 q
      refine jm_if_eq (pc := 15) 27 dX11_claim_15 rfl ⟨by decide, by decide⟩ (fun q => absurd q (by decide)) (fun q => ?_)
      refine jm_iload_n (pc := 18) 3 dX11_claim_18 rfl ?_
      refine jm_iconst (pc := 19) dX11_claim_19 ?_
      refine jm_iconst (pc := 20) dX11_claim_20 ?_
      have hg3 := h.1
      have h := h.2
      refine jm_inlsi (pc := 21) (As := [_, _, _]) (st := []) iX11_isWithin dX11_claim_21 mX11_123 rfl rfl (Nat.le_of_ble_eq_true rfl) (pX11_isWithin hg hg3 ⟨by decide, by decide⟩ ⟨by decide, by decide⟩ (fun q => jm_kIi ?_) (fun q => jm_kIi ?_))
      · have h := h.1 q
        refine jm_if_ne (pc := 24) 29 dX11_claim_24 rfl ⟨by decide, by decide⟩ (fun q => ?_) (fun q => absurd q (by decide))
        refine jm_aload_n (pc := 29) 0 dX11_claim_29 rfl ?_
        refine jm_getr (pc := 30) 1 dX11_claim_30 fX11_19 (cC0 hg) rfl ?_
        refine jm_getr (pc := 33) 4 dX11_claim_33 fX11_147 (cC6 hg) rfl ?_
        refine jm_iload_n (pc := 36) 1 dX11_claim_36 rfl ?_
        refine jm_bipush (pc := 37) dX11_claim_37 (by decide) ?_
        refine jm_imul (pc := 39) dX11_claim_39 ?_
        refine jm_iload_n (pc := 40) 2 dX11_claim_40 rfl ?_
        refine jm_iadd (pc := 41) dX11_claim_41 ?_
        refine jm_iload_n (pc := 42) 3 dX11_claim_42 rfl ?_
        have hg4 := h.1
        have h := h.2
        refine jm_iast (pc := 43) dX11_claim_43 (cC10 hg) (by decide) hg4.1 hg4.2 hg3 ?_
        have h := h _ rfl
        refine jm_mrI (fun hm6 => ?_)
        refine jm_aload_n (pc := 44) 0 dX11_claim_44 rfl ?_
        refine jm_inlvv (pc := 45) (As := []) (st := []) iX11_forgetDeeds dX11_claim_45 mX11_116 (cC0 hg) ⟨_, rfl, rfl⟩ rfl rfl (Nat.le_of_ble_eq_true rfl) (pX11_forgetDeeds hg  (jm_kVi ?_))
        have h := h _ rfl
        refine jm_mrI (fun hm8 => ?_)
        refine jm_iconst (pc := 48) dX11_claim_48 ?_
        exact jm_zret (pc := 49) dX11_claim_49 rfl (Or.inr rfl) h
      · have h := h.2 q
        refine jm_if_ne (pc := 24) 29 dX11_claim_24 rfl ⟨by decide, by decide⟩ (fun q => absurd q (by decide)) (fun q => ?_)
        refine jm_iconst (pc := 27) dX11_claim_27 ?_
        exact jm_zret (pc := 28) dX11_claim_28 rfl (Or.inl rfl) h
    · have h := h.2 q
      refine jm_if_eq (pc := 15) 27 dX11_claim_15 rfl ⟨by decide, by decide⟩ (fun q => ?_) (fun q => absurd q (by decide))
      refine jm_iconst (pc := 27) dX11_claim_27 ?_
      exact jm_zret (pc := 28) dX11_claim_28 rfl (Or.inl rfl) h
  · have h := h.2 q
    refine jm_if_eq (pc := 8) 27 dX11_claim_8 rfl ⟨by decide, by decide⟩ (fun q => ?_) (fun q => absurd q (by decide))
    refine jm_iconst (pc := 27) dX11_claim_27 ?_
    exact jm_zret (pc := 28) dX11_claim_28 rfl (Or.inl rfl) h
theorem dX11_setOfBench_0 : decode cX11_setOfBench 0 = .ok (.iload_n 1, 1) := by decide +kernel
theorem dX11_setOfBench_1 : decode cX11_setOfBench 1 = .ok (.ifCond .ne 24, 3) := by decide +kernel
theorem dX11_setOfBench_4 : decode cX11_setOfBench 4 = .ok (.iload_n 2, 1) := by decide +kernel
theorem dX11_setOfBench_5 : decode cX11_setOfBench 5 = .ok (.iconst 0, 1) := by decide +kernel
theorem dX11_setOfBench_6 : decode cX11_setOfBench 6 = .ok (.sipush 4095, 3) := by decide +kernel
theorem dX11_setOfBench_9 : decode cX11_setOfBench 9 = .ok (.invokestatic 123, 3) := by decide +kernel
theorem dX11_setOfBench_12 : decode cX11_setOfBench 12 = .ok (.ifCond .eq 13, 3) := by decide +kernel
theorem dX11_setOfBench_15 : decode cX11_setOfBench 15 = .ok (.aload_n 0, 1) := by decide +kernel
theorem dX11_setOfBench_16 : decode cX11_setOfBench 16 = .ok (.getfield 19, 3) := by decide +kernel
theorem dX11_setOfBench_19 : decode cX11_setOfBench 19 = .ok (.iload_n 2, 1) := by decide +kernel
theorem dX11_setOfBench_20 : decode cX11_setOfBench 20 = .ok (.putfield 366, 3) := by decide +kernel
theorem dX11_setOfBench_23 : decode cX11_setOfBench 23 = .ok (.iconst 1, 1) := by decide +kernel
theorem dX11_setOfBench_24 : decode cX11_setOfBench 24 = .ok (.ireturn, 1) := by decide +kernel
theorem dX11_setOfBench_25 : decode cX11_setOfBench 25 = .ok (.iload_n 1, 1) := by decide +kernel
theorem dX11_setOfBench_26 : decode cX11_setOfBench 26 = .ok (.iconst 1, 1) := by decide +kernel
theorem dX11_setOfBench_27 : decode cX11_setOfBench 27 = .ok (.if_icmp .ne 24, 3) := by decide +kernel
theorem dX11_setOfBench_30 : decode cX11_setOfBench 30 = .ok (.iload_n 2, 1) := by decide +kernel
theorem dX11_setOfBench_31 : decode cX11_setOfBench 31 = .ok (.iconst 1, 1) := by decide +kernel
theorem dX11_setOfBench_32 : decode cX11_setOfBench 32 = .ok (.sipush 999, 3) := by decide +kernel
theorem dX11_setOfBench_35 : decode cX11_setOfBench 35 = .ok (.invokestatic 123, 3) := by decide +kernel
theorem dX11_setOfBench_38 : decode cX11_setOfBench 38 = .ok (.ifCond .eq 13, 3) := by decide +kernel
theorem dX11_setOfBench_41 : decode cX11_setOfBench 41 = .ok (.aload_n 0, 1) := by decide +kernel
theorem dX11_setOfBench_42 : decode cX11_setOfBench 42 = .ok (.getfield 19, 3) := by decide +kernel
theorem dX11_setOfBench_45 : decode cX11_setOfBench 45 = .ok (.iload_n 2, 1) := by decide +kernel
theorem dX11_setOfBench_46 : decode cX11_setOfBench 46 = .ok (.putfield 369, 3) := by decide +kernel
theorem dX11_setOfBench_49 : decode cX11_setOfBench 49 = .ok (.iconst 1, 1) := by decide +kernel
theorem dX11_setOfBench_50 : decode cX11_setOfBench 50 = .ok (.ireturn, 1) := by decide +kernel
theorem dX11_setOfBench_51 : decode cX11_setOfBench 51 = .ok (.iload_n 1, 1) := by decide +kernel
theorem dX11_setOfBench_52 : decode cX11_setOfBench 52 = .ok (.iconst 2, 1) := by decide +kernel
theorem dX11_setOfBench_53 : decode cX11_setOfBench 53 = .ok (.if_icmp .ne 23, 3) := by decide +kernel
theorem dX11_setOfBench_56 : decode cX11_setOfBench 56 = .ok (.iload_n 2, 1) := by decide +kernel
theorem dX11_setOfBench_57 : decode cX11_setOfBench 57 = .ok (.iconst 0, 1) := by decide +kernel
theorem dX11_setOfBench_58 : decode cX11_setOfBench 58 = .ok (.bipush 9, 2) := by decide +kernel
theorem dX11_setOfBench_60 : decode cX11_setOfBench 60 = .ok (.invokestatic 123, 3) := by decide +kernel
theorem dX11_setOfBench_63 : decode cX11_setOfBench 63 = .ok (.ifCond .eq 13, 3) := by decide +kernel
theorem dX11_setOfBench_66 : decode cX11_setOfBench 66 = .ok (.aload_n 0, 1) := by decide +kernel
theorem dX11_setOfBench_67 : decode cX11_setOfBench 67 = .ok (.getfield 19, 3) := by decide +kernel
theorem dX11_setOfBench_70 : decode cX11_setOfBench 70 = .ok (.iload_n 2, 1) := by decide +kernel
theorem dX11_setOfBench_71 : decode cX11_setOfBench 71 = .ok (.putfield 372, 3) := by decide +kernel
theorem dX11_setOfBench_74 : decode cX11_setOfBench 74 = .ok (.iconst 1, 1) := by decide +kernel
theorem dX11_setOfBench_75 : decode cX11_setOfBench 75 = .ok (.ireturn, 1) := by decide +kernel
theorem dX11_setOfBench_76 : decode cX11_setOfBench 76 = .ok (.iconst 0, 1) := by decide +kernel
theorem dX11_setOfBench_77 : decode cX11_setOfBench 77 = .ok (.ireturn, 1) := by decide +kernel
theorem bX11_setOfBench_51 {l : Launch} {g : jm_G} {d : Nat} {v1 v2 : Int} (hg : jm_HC g) {mu : jm_M} {Q : Option Value → jm_M → Prop} (h : jm_rg v1 ∧ (¬ v1 = 2 → Q (some (jm_i 0)) mu) ∧ (v1 = 2 → jm_rg v2 ∧ (0 ≤ v2 ∧ v2 ≤ 9 → ∀ m3, m3 = jm_wr mu 6 7 v2 → Q (some (jm_i 1)) m3) ∧ (¬ (0 ≤ v2 ∧ v2 ≤ 9) → Q (some (jm_i 0)) mu))) : jm_V l g (d + 2) iX11_setOfBench 51 [(0, .ref 0), (1, jm_i v1), (2, jm_i v2)] [] mu Q := by
  refine jm_mrI (fun hm0 => ?_)
  refine jm_iload_n (pc := 51) 1 dX11_setOfBench_51 rfl ?_
  refine jm_iconst (pc := 52) dX11_setOfBench_52 ?_
  have hg1 := h.1
  have h := h.2
  refine jm_icmp_ne (pc := 53) 76 dX11_setOfBench_53 rfl hg1 ⟨by decide, by decide⟩ (fun q => ?_) (fun q => ?_)
  · have h := h.1 q
    refine jm_iconst (pc := 76) dX11_setOfBench_76 ?_
    exact jm_zret (pc := 77) dX11_setOfBench_77 rfl (Or.inl rfl) h
  · have h := h.2 q
    refine jm_iload_n (pc := 56) 2 dX11_setOfBench_56 rfl ?_
    refine jm_iconst (pc := 57) dX11_setOfBench_57 ?_
    refine jm_bipush (pc := 58) dX11_setOfBench_58 (by decide) ?_
    have hg2 := h.1
    have h := h.2
    refine jm_inlsi (pc := 60) (As := [_, _, _]) (st := []) iX11_isWithin dX11_setOfBench_60 mX11_123 rfl rfl (Nat.le_of_ble_eq_true rfl) (pX11_isWithin hg hg2 ⟨by decide, by decide⟩ ⟨by decide, by decide⟩ (fun q => jm_kIi ?_) (fun q => jm_kIi ?_))
    · have h := h.1 q
      refine jm_if_eq (pc := 63) 76 dX11_setOfBench_63 rfl ⟨by decide, by decide⟩ (fun q => absurd q (by decide)) (fun q => ?_)
      refine jm_aload_n (pc := 66) 0 dX11_setOfBench_66 rfl ?_
      refine jm_getr (pc := 67) 1 dX11_setOfBench_67 fX11_19 (cC0 hg) rfl ?_
      refine jm_iload_n (pc := 70) 2 dX11_setOfBench_70 rfl ?_
      refine jm_put (pc := 71) 7 dX11_setOfBench_71 fX11_372 ftX8 (fun q h => by cases h; rfl) (jm_nI _) (jm_fI _) (cC6 hg) rfl hg2 ?_
      have h := h _ rfl
      refine jm_mrI (fun hm4 => ?_)
      refine jm_iconst (pc := 74) dX11_setOfBench_74 ?_
      exact jm_zret (pc := 75) dX11_setOfBench_75 rfl (Or.inr rfl) h
    · have h := h.2 q
      refine jm_if_eq (pc := 63) 76 dX11_setOfBench_63 rfl ⟨by decide, by decide⟩ (fun q => ?_) (fun q => absurd q (by decide))
      refine jm_iconst (pc := 76) dX11_setOfBench_76 ?_
      exact jm_zret (pc := 77) dX11_setOfBench_77 rfl (Or.inl rfl) h
theorem bX11_setOfBench_25 {l : Launch} {g : jm_G} {d : Nat} {v1 v2 : Int} (hg : jm_HC g) {mu : jm_M} {Q : Option Value → jm_M → Prop} (h : jm_rg v1 ∧ (¬ v1 = 1 → jm_V l g (d + 2) iX11_setOfBench 51 [(0, .ref 0), (1, jm_i v1), (2, jm_i v2)] [] mu Q) ∧ (v1 = 1 → jm_rg v2 ∧ (1 ≤ v2 ∧ v2 ≤ 999 → ∀ m3, m3 = jm_wr mu 6 6 v2 → Q (some (jm_i 1)) m3) ∧ (¬ (1 ≤ v2 ∧ v2 ≤ 999) → jm_V l g (d + 2) iX11_setOfBench 51 [(0, .ref 0), (1, jm_i v1), (2, jm_i v2)] [] mu Q))) : jm_V l g (d + 2) iX11_setOfBench 25 [(0, .ref 0), (1, jm_i v1), (2, jm_i v2)] [] mu Q := by
  refine jm_mrI (fun hm0 => ?_)
  refine jm_iload_n (pc := 25) 1 dX11_setOfBench_25 rfl ?_
  refine jm_iconst (pc := 26) dX11_setOfBench_26 ?_
  have hg1 := h.1
  have h := h.2
  refine jm_icmp_ne (pc := 27) 51 dX11_setOfBench_27 rfl hg1 ⟨by decide, by decide⟩ (fun q => ?_) (fun q => ?_)
  · have h := h.1 q
    exact jm_sub [0, 1, 2] rfl h
  · have h := h.2 q
    refine jm_iload_n (pc := 30) 2 dX11_setOfBench_30 rfl ?_
    refine jm_iconst (pc := 31) dX11_setOfBench_31 ?_
    refine jm_sipush (pc := 32) dX11_setOfBench_32 (by decide) ?_
    have hg2 := h.1
    have h := h.2
    refine jm_inlsi (pc := 35) (As := [_, _, _]) (st := []) iX11_isWithin dX11_setOfBench_35 mX11_123 rfl rfl (Nat.le_of_ble_eq_true rfl) (pX11_isWithin hg hg2 ⟨by decide, by decide⟩ ⟨by decide, by decide⟩ (fun q => jm_kIi ?_) (fun q => jm_kIi ?_))
    · have h := h.1 q
      refine jm_if_eq (pc := 38) 51 dX11_setOfBench_38 rfl ⟨by decide, by decide⟩ (fun q => absurd q (by decide)) (fun q => ?_)
      refine jm_aload_n (pc := 41) 0 dX11_setOfBench_41 rfl ?_
      refine jm_getr (pc := 42) 1 dX11_setOfBench_42 fX11_19 (cC0 hg) rfl ?_
      refine jm_iload_n (pc := 45) 2 dX11_setOfBench_45 rfl ?_
      refine jm_put (pc := 46) 6 dX11_setOfBench_46 fX11_369 ftX8 (fun q h => by cases h; rfl) (jm_nI _) (jm_fI _) (cC6 hg) rfl hg2 ?_
      have h := h _ rfl
      refine jm_mrI (fun hm4 => ?_)
      refine jm_iconst (pc := 49) dX11_setOfBench_49 ?_
      exact jm_zret (pc := 50) dX11_setOfBench_50 rfl (Or.inr rfl) h
    · have h := h.2 q
      refine jm_if_eq (pc := 38) 51 dX11_setOfBench_38 rfl ⟨by decide, by decide⟩ (fun q => ?_) (fun q => absurd q (by decide))
      exact jm_sub [0, 1, 2] rfl h
theorem eX11_setOfBench {l : Launch} {g : jm_G} {d : Nat} {v1 v2 : Int} (hg : jm_HC g) {mu : jm_M} {Q : Option Value → jm_M → Prop} (h : jm_rg v1 ∧ (¬ v1 = 0 → jm_V l g (d + 2) iX11_setOfBench 25 [(0, .ref 0), (1, jm_i v1), (2, jm_i v2)] [] mu Q) ∧ (v1 = 0 → jm_rg v2 ∧ (0 ≤ v2 ∧ v2 ≤ 4095 → ∀ m3, m3 = jm_wr mu 6 5 v2 → Q (some (jm_i 1)) m3) ∧ (¬ (0 ≤ v2 ∧ v2 ≤ 4095) → jm_V l g (d + 2) iX11_setOfBench 25 [(0, .ref 0), (1, jm_i v1), (2, jm_i v2)] [] mu Q))) : jm_R l g (d + 2) iX11_setOfBench [.ref 0, jm_i v1, jm_i v2] mu Q := by
  refine jm_enter [(0, .ref 0), (1, jm_i v1), (2, jm_i v2)] (by decide) (Nat.le_of_ble_eq_true rfl) rfl ?_
  refine jm_mrI (fun hm0 => ?_)
  refine jm_iload_n (pc := 0) 1 dX11_setOfBench_0 rfl ?_
  have hg1 := h.1
  have h := h.2
  refine jm_if_ne (pc := 1) 25 dX11_setOfBench_1 rfl hg1 (fun q => ?_) (fun q => ?_)
  · have h := h.1 q
    exact jm_sub [0, 1, 2] rfl h
  · have h := h.2 q
    refine jm_iload_n (pc := 4) 2 dX11_setOfBench_4 rfl ?_
    refine jm_iconst (pc := 5) dX11_setOfBench_5 ?_
    refine jm_sipush (pc := 6) dX11_setOfBench_6 (by decide) ?_
    have hg2 := h.1
    have h := h.2
    refine jm_inlsi (pc := 9) (As := [_, _, _]) (st := []) iX11_isWithin dX11_setOfBench_9 mX11_123 rfl rfl (Nat.le_of_ble_eq_true rfl) (pX11_isWithin hg hg2 ⟨by decide, by decide⟩ ⟨by decide, by decide⟩ (fun q => jm_kIi ?_) (fun q => jm_kIi ?_))
    · have h := h.1 q
      refine jm_if_eq (pc := 12) 25 dX11_setOfBench_12 rfl ⟨by decide, by decide⟩ (fun q => absurd q (by decide)) (fun q => ?_)
      refine jm_aload_n (pc := 15) 0 dX11_setOfBench_15 rfl ?_
      refine jm_getr (pc := 16) 1 dX11_setOfBench_16 fX11_19 (cC0 hg) rfl ?_
      refine jm_iload_n (pc := 19) 2 dX11_setOfBench_19 rfl ?_
      refine jm_put (pc := 20) 5 dX11_setOfBench_20 fX11_366 ftX8 (fun q h => by cases h; rfl) (jm_nI _) (jm_fI _) (cC6 hg) rfl hg2 ?_
      have h := h _ rfl
      refine jm_mrI (fun hm4 => ?_)
      refine jm_iconst (pc := 23) dX11_setOfBench_23 ?_
      exact jm_zret (pc := 24) dX11_setOfBench_24 rfl (Or.inr rfl) h
    · have h := h.2 q
      refine jm_if_eq (pc := 12) 25 dX11_setOfBench_12 rfl ⟨by decide, by decide⟩ (fun q => ?_) (fun q => absurd q (by decide))
      exact jm_sub [0, 1, 2] rfl h
theorem dX11_setOfWitness_0 : decode cX11_setOfWitness 0 = .ok (.aload_n 0, 1) := by decide +kernel
theorem dX11_setOfWitness_1 : decode cX11_setOfWitness 1 = .ok (.getfield 19, 3) := by decide +kernel
theorem dX11_setOfWitness_4 : decode cX11_setOfWitness 4 = .ok (.iload_n 2, 1) := by decide +kernel
theorem dX11_setOfWitness_5 : decode cX11_setOfWitness 5 = .ok (.invokevirtual 141, 3) := by decide +kernel
theorem dX11_setOfWitness_8 : decode cX11_setOfWitness 8 = .ok (.ifCond .ne 5, 3) := by decide +kernel
theorem dX11_setOfWitness_11 : decode cX11_setOfWitness 11 = .ok (.iconst 0, 1) := by decide +kernel
theorem dX11_setOfWitness_12 : decode cX11_setOfWitness 12 = .ok (.ireturn, 1) := by decide +kernel
theorem dX11_setOfWitness_13 : decode cX11_setOfWitness 13 = .ok (.iload_n 1, 1) := by decide +kernel
theorem dX11_setOfWitness_14 : decode cX11_setOfWitness 14 = .ok (.iconst 3, 1) := by decide +kernel
theorem dX11_setOfWitness_15 : decode cX11_setOfWitness 15 = .ok (.if_icmp .ne 25, 3) := by decide +kernel
theorem dX11_setOfWitness_18 : decode cX11_setOfWitness 18 = .ok (.iload_n 3, 1) := by decide +kernel
theorem dX11_setOfWitness_19 : decode cX11_setOfWitness 19 = .ok (.iconst 0, 1) := by decide +kernel
theorem dX11_setOfWitness_20 : decode cX11_setOfWitness 20 = .ok (.bipush 99, 2) := by decide +kernel
theorem dX11_setOfWitness_22 : decode cX11_setOfWitness 22 = .ok (.invokestatic 123, 3) := by decide +kernel
theorem dX11_setOfWitness_25 : decode cX11_setOfWitness 25 = .ok (.ifCond .eq 15, 3) := by decide +kernel
theorem dX11_setOfWitness_28 : decode cX11_setOfWitness 28 = .ok (.aload_n 0, 1) := by decide +kernel
theorem dX11_setOfWitness_29 : decode cX11_setOfWitness 29 = .ok (.getfield 26, 3) := by decide +kernel
theorem dX11_setOfWitness_32 : decode cX11_setOfWitness 32 = .ok (.getfield 134, 3) := by decide +kernel
theorem dX11_setOfWitness_35 : decode cX11_setOfWitness 35 = .ok (.iload_n 2, 1) := by decide +kernel
theorem dX11_setOfWitness_36 : decode cX11_setOfWitness 36 = .ok (.iload_n 3, 1) := by decide +kernel
theorem dX11_setOfWitness_37 : decode cX11_setOfWitness 37 = .ok (.iastore, 1) := by decide +kernel
theorem dX11_setOfWitness_38 : decode cX11_setOfWitness 38 = .ok (.iconst 1, 1) := by decide +kernel
theorem dX11_setOfWitness_39 : decode cX11_setOfWitness 39 = .ok (.ireturn, 1) := by decide +kernel
theorem dX11_setOfWitness_40 : decode cX11_setOfWitness 40 = .ok (.iload_n 1, 1) := by decide +kernel
theorem dX11_setOfWitness_41 : decode cX11_setOfWitness 41 = .ok (.iconst 4, 1) := by decide +kernel
theorem dX11_setOfWitness_42 : decode cX11_setOfWitness 42 = .ok (.if_icmp .ne 24, 3) := by decide +kernel
theorem dX11_setOfWitness_45 : decode cX11_setOfWitness 45 = .ok (.iload_n 3, 1) := by decide +kernel
theorem dX11_setOfWitness_46 : decode cX11_setOfWitness 46 = .ok (.iconst 0, 1) := by decide +kernel
theorem dX11_setOfWitness_47 : decode cX11_setOfWitness 47 = .ok (.iconst 1, 1) := by decide +kernel
theorem dX11_setOfWitness_48 : decode cX11_setOfWitness 48 = .ok (.invokestatic 123, 3) := by decide +kernel
theorem dX11_setOfWitness_51 : decode cX11_setOfWitness 51 = .ok (.ifCond .eq 15, 3) := by decide +kernel
theorem dX11_setOfWitness_54 : decode cX11_setOfWitness 54 = .ok (.aload_n 0, 1) := by decide +kernel
theorem dX11_setOfWitness_55 : decode cX11_setOfWitness 55 = .ok (.getfield 26, 3) := by decide +kernel
theorem dX11_setOfWitness_58 : decode cX11_setOfWitness 58 = .ok (.getfield 138, 3) := by decide +kernel
theorem dX11_setOfWitness_61 : decode cX11_setOfWitness 61 = .ok (.iload_n 2, 1) := by decide +kernel
theorem dX11_setOfWitness_62 : decode cX11_setOfWitness 62 = .ok (.iload_n 3, 1) := by decide +kernel
theorem dX11_setOfWitness_63 : decode cX11_setOfWitness 63 = .ok (.iastore, 1) := by decide +kernel
theorem dX11_setOfWitness_64 : decode cX11_setOfWitness 64 = .ok (.iconst 1, 1) := by decide +kernel
theorem dX11_setOfWitness_65 : decode cX11_setOfWitness 65 = .ok (.ireturn, 1) := by decide +kernel
theorem dX11_setOfWitness_66 : decode cX11_setOfWitness 66 = .ok (.iconst 0, 1) := by decide +kernel
theorem dX11_setOfWitness_67 : decode cX11_setOfWitness 67 = .ok (.ireturn, 1) := by decide +kernel
theorem bX11_setOfWitness_40 {l : Launch} {g : jm_G} {d : Nat} {v1 v2 v3 : Int} (hg : jm_HC g) {mu : jm_M} {Q : Option Value → jm_M → Prop} (h : jm_rg v1 ∧ (¬ v1 = 4 → Q (some (jm_i 0)) mu) ∧ (v1 = 4 → jm_rg v3 ∧ (0 ≤ v3 ∧ v3 ≤ 1 → (0 ≤ v2 ∧ v2 < 8) ∧ ∀ m4, m4 = jm_wr mu 31 v2 v3 → Q (some (jm_i 1)) m4) ∧ (¬ (0 ≤ v3 ∧ v3 ≤ 1) → Q (some (jm_i 0)) mu))) : jm_V l g (d + 2) iX11_setOfWitness 40 [(0, .ref 0), (1, jm_i v1), (2, jm_i v2), (3, jm_i v3)] [] mu Q := by
  refine jm_mrI (fun hm0 => ?_)
  refine jm_iload_n (pc := 40) 1 dX11_setOfWitness_40 rfl ?_
  refine jm_iconst (pc := 41) dX11_setOfWitness_41 ?_
  have hg1 := h.1
  have h := h.2
  refine jm_icmp_ne (pc := 42) 66 dX11_setOfWitness_42 rfl hg1 ⟨by decide, by decide⟩ (fun q => ?_) (fun q => ?_)
  · have h := h.1 q
    refine jm_iconst (pc := 66) dX11_setOfWitness_66 ?_
    exact jm_zret (pc := 67) dX11_setOfWitness_67 rfl (Or.inl rfl) h
  · have h := h.2 q
    refine jm_iload_n (pc := 45) 3 dX11_setOfWitness_45 rfl ?_
    refine jm_iconst (pc := 46) dX11_setOfWitness_46 ?_
    refine jm_iconst (pc := 47) dX11_setOfWitness_47 ?_
    have hg2 := h.1
    have h := h.2
    refine jm_inlsi (pc := 48) (As := [_, _, _]) (st := []) iX11_isWithin dX11_setOfWitness_48 mX11_123 rfl rfl (Nat.le_of_ble_eq_true rfl) (pX11_isWithin hg hg2 ⟨by decide, by decide⟩ ⟨by decide, by decide⟩ (fun q => jm_kIi ?_) (fun q => jm_kIi ?_))
    · have h := h.1 q
      refine jm_if_eq (pc := 51) 66 dX11_setOfWitness_51 rfl ⟨by decide, by decide⟩ (fun q => absurd q (by decide)) (fun q => ?_)
      refine jm_aload_n (pc := 54) 0 dX11_setOfWitness_54 rfl ?_
      refine jm_getr (pc := 55) 2 dX11_setOfWitness_55 fX11_26 (cC0 hg) rfl ?_
      refine jm_getr (pc := 58) 3 dX11_setOfWitness_58 fX11_138 (cC29 hg) rfl ?_
      refine jm_iload_n (pc := 61) 2 dX11_setOfWitness_61 rfl ?_
      refine jm_iload_n (pc := 62) 3 dX11_setOfWitness_62 rfl ?_
      have hg3 := h.1
      have h := h.2
      refine jm_iast (pc := 63) dX11_setOfWitness_63 (cC31 hg) (by decide) hg3.1 hg3.2 hg2 ?_
      have h := h _ rfl
      refine jm_mrI (fun hm5 => ?_)
      refine jm_iconst (pc := 64) dX11_setOfWitness_64 ?_
      exact jm_zret (pc := 65) dX11_setOfWitness_65 rfl (Or.inr rfl) h
    · have h := h.2 q
      refine jm_if_eq (pc := 51) 66 dX11_setOfWitness_51 rfl ⟨by decide, by decide⟩ (fun q => ?_) (fun q => absurd q (by decide))
      refine jm_iconst (pc := 66) dX11_setOfWitness_66 ?_
      exact jm_zret (pc := 67) dX11_setOfWitness_67 rfl (Or.inl rfl) h
theorem eX11_setOfWitness {l : Launch} {g : jm_G} {d : Nat} {v1 v2 v3 : Int} (hg : jm_HC g) {mu : jm_M} {Q : Option Value → jm_M → Prop} (h : jm_rg v2 ∧ (0 ≤ v2 ∧ v2 < (mu.1 6 0) → jm_rg v1 ∧ (¬ v1 = 3 → jm_V l g (d + 2) iX11_setOfWitness 40 [(0, .ref 0), (1, jm_i v1), (2, jm_i v2), (3, jm_i v3)] [] mu Q) ∧ (v1 = 3 → jm_rg v3 ∧ (0 ≤ v3 ∧ v3 ≤ 99 → (0 ≤ v2 ∧ v2 < 8) ∧ ∀ m5, m5 = jm_wr mu 30 v2 v3 → Q (some (jm_i 1)) m5) ∧ (¬ (0 ≤ v3 ∧ v3 ≤ 99) → jm_V l g (d + 2) iX11_setOfWitness 40 [(0, .ref 0), (1, jm_i v1), (2, jm_i v2), (3, jm_i v3)] [] mu Q))) ∧ (¬ (0 ≤ v2 ∧ v2 < (mu.1 6 0)) → Q (some (jm_i 0)) mu)) : jm_R l g (d + 2) iX11_setOfWitness [.ref 0, jm_i v1, jm_i v2, jm_i v3] mu Q := by
  refine jm_enter [(0, .ref 0), (1, jm_i v1), (2, jm_i v2), (3, jm_i v3)] (by decide) (Nat.le_of_ble_eq_true rfl) rfl ?_
  refine jm_mrI (fun hm0 => ?_)
  refine jm_aload_n (pc := 0) 0 dX11_setOfWitness_0 rfl ?_
  refine jm_getr (pc := 1) 1 dX11_setOfWitness_1 fX11_19 (cC0 hg) rfl ?_
  refine jm_iload_n (pc := 4) 2 dX11_setOfWitness_4 rfl ?_
  have hg1 := h.1
  have h := h.2
  refine jm_inlvi (pc := 5) (As := [_]) (st := []) iX8_isWitness dX11_setOfWitness_5 mX11_141 (cC6 hg) ⟨_, rfl, rfl⟩ rfl rfl (Nat.le_of_ble_eq_true rfl) (pX8_isWitness hg hg1 (fun q => jm_kIi ?_) (fun q => jm_kIi ?_))
  · have h := h.1 q
    refine jm_if_ne (pc := 8) 13 dX11_setOfWitness_8 rfl ⟨by decide, by decide⟩ (fun q => ?_) (fun q => absurd q (by decide))
    refine jm_iload_n (pc := 13) 1 dX11_setOfWitness_13 rfl ?_
    refine jm_iconst (pc := 14) dX11_setOfWitness_14 ?_
    have hg2 := h.1
    have h := h.2
    refine jm_icmp_ne (pc := 15) 40 dX11_setOfWitness_15 rfl hg2 ⟨by decide, by decide⟩ (fun q => ?_) (fun q => ?_)
    · have h := h.1 q
      exact jm_sub [0, 1, 2, 3] rfl h
    · have h := h.2 q
      refine jm_iload_n (pc := 18) 3 dX11_setOfWitness_18 rfl ?_
      refine jm_iconst (pc := 19) dX11_setOfWitness_19 ?_
      refine jm_bipush (pc := 20) dX11_setOfWitness_20 (by decide) ?_
      have hg3 := h.1
      have h := h.2
      refine jm_inlsi (pc := 22) (As := [_, _, _]) (st := []) iX11_isWithin dX11_setOfWitness_22 mX11_123 rfl rfl (Nat.le_of_ble_eq_true rfl) (pX11_isWithin hg hg3 ⟨by decide, by decide⟩ ⟨by decide, by decide⟩ (fun q => jm_kIi ?_) (fun q => jm_kIi ?_))
      · have h := h.1 q
        refine jm_if_eq (pc := 25) 40 dX11_setOfWitness_25 rfl ⟨by decide, by decide⟩ (fun q => absurd q (by decide)) (fun q => ?_)
        refine jm_aload_n (pc := 28) 0 dX11_setOfWitness_28 rfl ?_
        refine jm_getr (pc := 29) 2 dX11_setOfWitness_29 fX11_26 (cC0 hg) rfl ?_
        refine jm_getr (pc := 32) 2 dX11_setOfWitness_32 fX11_134 (cC29 hg) rfl ?_
        refine jm_iload_n (pc := 35) 2 dX11_setOfWitness_35 rfl ?_
        refine jm_iload_n (pc := 36) 3 dX11_setOfWitness_36 rfl ?_
        have hg4 := h.1
        have h := h.2
        refine jm_iast (pc := 37) dX11_setOfWitness_37 (cC30 hg) (by decide) hg4.1 hg4.2 hg3 ?_
        have h := h _ rfl
        refine jm_mrI (fun hm6 => ?_)
        refine jm_iconst (pc := 38) dX11_setOfWitness_38 ?_
        exact jm_zret (pc := 39) dX11_setOfWitness_39 rfl (Or.inr rfl) h
      · have h := h.2 q
        refine jm_if_eq (pc := 25) 40 dX11_setOfWitness_25 rfl ⟨by decide, by decide⟩ (fun q => ?_) (fun q => absurd q (by decide))
        exact jm_sub [0, 1, 2, 3] rfl h
  · have h := h.2 q
    refine jm_if_ne (pc := 8) 13 dX11_setOfWitness_8 rfl ⟨by decide, by decide⟩ (fun q => absurd q (by decide)) (fun q => ?_)
    refine jm_iconst (pc := 11) dX11_setOfWitness_11 ?_
    exact jm_zret (pc := 12) dX11_setOfWitness_12 rfl (Or.inl rfl) h
theorem dX11_set_0 : decode cX11_set 0 = .ok (.iload_n 1, 1) := by decide +kernel
theorem dX11_set_1 : decode cX11_set 1 = .ok (.iconst 3, 1) := by decide +kernel
theorem dX11_set_2 : decode cX11_set 2 = .ok (.if_icmp .lt 13, 3) := by decide +kernel
theorem dX11_set_5 : decode cX11_set 5 = .ok (.aload_n 0, 1) := by decide +kernel
theorem dX11_set_6 : decode cX11_set 6 = .ok (.iload_n 1, 1) := by decide +kernel
theorem dX11_set_7 : decode cX11_set 7 = .ok (.iload_n 2, 1) := by decide +kernel
theorem dX11_set_8 : decode cX11_set 8 = .ok (.iload_n 3, 1) := by decide +kernel
theorem dX11_set_9 : decode cX11_set 9 = .ok (.invokevirtual 150, 3) := by decide +kernel
theorem dX11_set_12 : decode cX11_set 12 = .ok (.goto 9, 3) := by decide +kernel
theorem dX11_set_15 : decode cX11_set 15 = .ok (.aload_n 0, 1) := by decide +kernel
theorem dX11_set_16 : decode cX11_set 16 = .ok (.iload_n 1, 1) := by decide +kernel
theorem dX11_set_17 : decode cX11_set 17 = .ok (.iload_n 3, 1) := by decide +kernel
theorem dX11_set_18 : decode cX11_set 18 = .ok (.invokevirtual 153, 3) := by decide +kernel
theorem dX11_set_21 : decode cX11_set 21 = .ok (.istore 4, 2) := by decide +kernel
theorem dX11_set_23 : decode cX11_set 23 = .ok (.iload 4, 2) := by decide +kernel
theorem dX11_set_25 : decode cX11_set 25 = .ok (.ifCond .eq 7, 3) := by decide +kernel
theorem dX11_set_28 : decode cX11_set 28 = .ok (.aload_n 0, 1) := by decide +kernel
theorem dX11_set_29 : decode cX11_set 29 = .ok (.invokevirtual 116, 3) := by decide +kernel
theorem dX11_set_32 : decode cX11_set 32 = .ok (.iload 4, 2) := by decide +kernel
theorem dX11_set_34 : decode cX11_set 34 = .ok (.ireturn, 1) := by decide +kernel
theorem bX11_set_21 {l : Launch} {g : jm_G} {d : Nat} {s0 : Int} (hg : jm_HC g) {mu : jm_M} {Q : Option Value → jm_M → Prop} (h : jm_rg s0 ∧ (s0 = 0 → (s0 = 0 ∨ s0 = 1) ∧ Q (some (jm_i s0)) mu) ∧ (¬ s0 = 0 → ∀ m3, m3 = (jm_wr (jm_wr mu 0 15 0) 0 16 0) → (s0 = 0 ∨ s0 = 1) ∧ Q (some (jm_i s0)) m3)) : jm_V l g (d + 2) iX11_set 21 [(0, .ref 0)] [jm_i s0] mu Q := by
  refine jm_mrI (fun hm0 => ?_)
  refine jm_istore (pc := 21) (lv' := [(4, _), (0, _)]) dX11_set_21 (by decide) rfl ?_
  refine jm_iload (pc := 23) 0 dX11_set_23 rfl ?_
  have hg1 := h.1
  have h := h.2
  refine jm_if_eq (pc := 25) 32 dX11_set_25 rfl hg1 (fun q => ?_) (fun q => ?_)
  · have h := h.1 q
    refine jm_iload (pc := 32) 0 dX11_set_32 rfl ?_
    have hg2 := h.1
    have h := h.2
    exact jm_zret (pc := 34) dX11_set_34 rfl hg2 h
  · have h := h.2 q
    refine jm_aload_n (pc := 28) 1 dX11_set_28 rfl ?_
    refine jm_inlvv (pc := 29) (As := []) (st := []) iX11_forgetDeeds dX11_set_29 mX11_116 (cC0 hg) ⟨_, rfl, rfl⟩ rfl rfl (Nat.le_of_ble_eq_true rfl) (pX11_forgetDeeds hg  (jm_kVi ?_))
    have h := h _ rfl
    refine jm_mrI (fun hm4 => ?_)
    refine jm_iload (pc := 32) 0 dX11_set_32 rfl ?_
    have hg5 := h.1
    have h := h.2
    exact jm_zret (pc := 34) dX11_set_34 rfl hg5 h
theorem eX11_set {l : Launch} {g : jm_G} {d : Nat} {v1 v2 v3 : Int} (hg : jm_HC g) {mu : jm_M} {Q : Option Value → jm_M → Prop} (h : jm_rg v1 ∧ (v1 < 3 → jm_R l g (d + 1) iX11_setOfBench [.ref 0, jm_i v1, jm_i v3] mu (jm_qi fun z3 m2 => jm_V l g (d + 2) iX11_set 21 [(0, .ref 0)] [jm_i z3] m2 Q)) ∧ (3 ≤ v1 → jm_R l g (d + 1) iX11_setOfWitness [.ref 0, jm_i v1, jm_i v2, jm_i v3] mu (jm_qi fun z7 m6 => jm_V l g (d + 2) iX11_set 21 [(0, .ref 0)] [jm_i z7] m6 Q))) : jm_R l g (d + 2) iX11_set [.ref 0, jm_i v1, jm_i v2, jm_i v3] mu Q := by
  refine jm_enter [(0, .ref 0), (1, jm_i v1), (2, jm_i v2), (3, jm_i v3)] (by decide) (Nat.le_of_ble_eq_true rfl) rfl ?_
  refine jm_mrI (fun hm0 => ?_)
  refine jm_iload_n (pc := 0) 1 dX11_set_0 rfl ?_
  refine jm_iconst (pc := 1) dX11_set_1 ?_
  have hg1 := h.1
  have h := h.2
  refine jm_icmp_lt (pc := 2) 15 dX11_set_2 rfl hg1 ⟨by decide, by decide⟩ (fun q => ?_) (fun q => ?_)
  · have h := h.1 q
    refine jm_aload_n (pc := 15) 0 dX11_set_15 rfl ?_
    refine jm_iload_n (pc := 16) 1 dX11_set_16 rfl ?_
    refine jm_iload_n (pc := 17) 3 dX11_set_17 rfl ?_
    refine jm_callvi (pc := 18) (As := [_, _]) (st := []) iX11_setOfBench dX11_set_18 mX11_153 (cC0 hg) ⟨_, rfl, rfl⟩ rfl rfl (Nat.le_of_ble_eq_true rfl) h (fun z3 m2 hz4 h hm5 => ?_)
    exact jm_sub [0] rfl h
  · have h := h.2 q
    refine jm_aload_n (pc := 5) 0 dX11_set_5 rfl ?_
    refine jm_iload_n (pc := 6) 1 dX11_set_6 rfl ?_
    refine jm_iload_n (pc := 7) 2 dX11_set_7 rfl ?_
    refine jm_iload_n (pc := 8) 3 dX11_set_8 rfl ?_
    refine jm_callvi (pc := 9) (As := [_, _, _]) (st := []) iX11_setOfWitness dX11_set_9 mX11_150 (cC0 hg) ⟨_, rfl, rfl⟩ rfl rfl (Nat.le_of_ble_eq_true rfl) h (fun z7 m6 hz8 h hm9 => ?_)
    refine jm_goto (pc := 12) 21 dX11_set_12 rfl ?_
    exact jm_sub [0] rfl h
theorem dX7_addNumber_0 : decode cX7_addNumber 0 = .ok (.bipush 24, 2) := by decide +kernel
theorem dX7_addNumber_2 : decode cX7_addNumber 2 = .ok (.istore_n 2, 1) := by decide +kernel
theorem dX7_addNumber_3 : decode cX7_addNumber 3 = .ok (.iload_n 2, 1) := by decide +kernel
theorem dX7_addNumber_4 : decode cX7_addNumber 4 = .ok (.ifCond .lt 45, 3) := by decide +kernel
theorem dX7_addNumber_7 : decode cX7_addNumber 7 = .ok (.aload_n 0, 1) := by decide +kernel
theorem dX7_addNumber_8 : decode cX7_addNumber 8 = .ok (.getfield 15, 3) := by decide +kernel
theorem dX7_addNumber_11 : decode cX7_addNumber 11 = .ok (.sipush 400, 3) := by decide +kernel
theorem dX7_addNumber_14 : decode cX7_addNumber 14 = .ok (.if_icmp .ge 29, 3) := by decide +kernel
theorem dX7_addNumber_17 : decode cX7_addNumber 17 = .ok (.aload_n 0, 1) := by decide +kernel
theorem dX7_addNumber_18 : decode cX7_addNumber 18 = .ok (.getfield 11, 3) := by decide +kernel
theorem dX7_addNumber_21 : decode cX7_addNumber 21 = .ok (.aload_n 0, 1) := by decide +kernel
theorem dX7_addNumber_22 : decode cX7_addNumber 22 = .ok (.getfield 15, 3) := by decide +kernel
theorem dX7_addNumber_25 : decode cX7_addNumber 25 = .ok (.iload_n 1, 1) := by decide +kernel
theorem dX7_addNumber_26 : decode cX7_addNumber 26 = .ok (.iload_n 2, 1) := by decide +kernel
theorem dX7_addNumber_27 : decode cX7_addNumber 27 = .ok (.iushr, 1) := by decide +kernel
theorem dX7_addNumber_28 : decode cX7_addNumber 28 = .ok (.sipush 255, 3) := by decide +kernel
theorem dX7_addNumber_31 : decode cX7_addNumber 31 = .ok (.iand, 1) := by decide +kernel
theorem dX7_addNumber_32 : decode cX7_addNumber 32 = .ok (.iastore, 1) := by decide +kernel
theorem dX7_addNumber_33 : decode cX7_addNumber 33 = .ok (.aload_n 0, 1) := by decide +kernel
theorem dX7_addNumber_34 : decode cX7_addNumber 34 = .ok (.dup, 1) := by decide +kernel
theorem dX7_addNumber_35 : decode cX7_addNumber 35 = .ok (.getfield 15, 3) := by decide +kernel
theorem dX7_addNumber_38 : decode cX7_addNumber 38 = .ok (.iconst 1, 1) := by decide +kernel
theorem dX7_addNumber_39 : decode cX7_addNumber 39 = .ok (.iadd, 1) := by decide +kernel
theorem dX7_addNumber_40 : decode cX7_addNumber 40 = .ok (.putfield 15, 3) := by decide +kernel
theorem dX7_addNumber_43 : decode cX7_addNumber 43 = .ok (.iinc 2 (-8), 3) := by decide +kernel
theorem dX7_addNumber_46 : decode cX7_addNumber 46 = .ok (.goto (-43), 3) := by decide +kernel
theorem dX7_addNumber_49 : decode cX7_addNumber 49 = .ok (.return_, 1) := by decide +kernel
theorem bX7_addNumber_3 {l : Launch} {g : jm_G} {d : Nat} {v1 v2 : Int} (hg : jm_HC g) {mu : jm_M} {Q : Option Value → jm_M → Prop} (h : jm_rg v2 ∧ (v2 < 0 → Q none mu) ∧ (0 ≤ v2 → (400 ≤ (mu.1 1 1) → jm_V l g (d + 1) iX7_addNumber 3 [(0, .ref 1), (1, jm_i v1), (2, jm_i (v2 + (-8)))] [] mu Q) ∧ ((mu.1 1 1) < 400 → (0 ≤ (mu.1 1 1) ∧ (mu.1 1 1) < 400) ∧ ∀ m3, m3 = jm_wr mu 2 (mu.1 1 1) (jm_and (jm_ushr v1 v2) 255) → jm_rg ((m3.1 1 1) + 1) ∧ ∀ m6, m6 = jm_wr m3 1 1 ((m3.1 1 1) + 1) → jm_V l g (d + 1) iX7_addNumber 3 [(0, .ref 1), (1, jm_i v1), (2, jm_i (v2 + (-8)))] [] m6 Q))) : jm_V l g (d + 1) iX7_addNumber 3 [(0, .ref 1), (1, jm_i v1), (2, jm_i v2)] [] mu Q := by
  refine jm_mrI (fun hm0 => ?_)
  refine jm_iload_n (pc := 3) 2 dX7_addNumber_3 rfl ?_
  have hg1 := h.1
  have h := h.2
  refine jm_if_lt (pc := 4) 49 dX7_addNumber_4 rfl hg1 (fun q => ?_) (fun q => ?_)
  · have h := h.1 q
    exact jm_vret (pc := 49) dX7_addNumber_49 rfl h
  · have h := h.2 q
    refine jm_aload_n (pc := 7) 0 dX7_addNumber_7 rfl ?_
    refine jm_geti (pc := 8) 1 dX7_addNumber_8 fX7_15 (cC1 hg) rfl ?_
    refine jm_sipush (pc := 11) dX7_addNumber_11 (by decide) ?_
    refine jm_icmp_ge (pc := 14) 43 dX7_addNumber_14 rfl (hm0 _ _) ⟨by decide, by decide⟩ (fun q => ?_) (fun q => ?_)
    · have h := h.1 q
      refine jm_iinc (pc := 43) (lv' := [(2, _), (0, _), (1, _)]) 2 dX7_addNumber_43 rfl (by decide) rfl ?_
      refine jm_goto (pc := 46) 3 dX7_addNumber_46 rfl ?_
      exact jm_sub [1, 2, 0] rfl h
    · have h := h.2 q
      refine jm_aload_n (pc := 17) 0 dX7_addNumber_17 rfl ?_
      refine jm_getr (pc := 18) 0 dX7_addNumber_18 fX7_11 (cC1 hg) rfl ?_
      refine jm_aload_n (pc := 21) 0 dX7_addNumber_21 rfl ?_
      refine jm_geti (pc := 22) 1 dX7_addNumber_22 fX7_15 (cC1 hg) rfl ?_
      refine jm_iload_n (pc := 25) 1 dX7_addNumber_25 rfl ?_
      refine jm_iload_n (pc := 26) 2 dX7_addNumber_26 rfl ?_
      refine jm_iushr (pc := 27) dX7_addNumber_27 ?_
      refine jm_sipush (pc := 28) dX7_addNumber_28 (by decide) ?_
      refine jm_iand (pc := 31) dX7_addNumber_31 ?_
      have hg2 := h.1
      have h := h.2
      refine jm_iast (pc := 32) dX7_addNumber_32 (cC2 hg) (by decide) hg2.1 hg2.2 (jm_rgT _) ?_
      have h := h _ rfl
      refine jm_mrI (fun hm4 => ?_)
      refine jm_aload_n (pc := 33) 0 dX7_addNumber_33 rfl ?_
      refine jm_dup (pc := 34) _ dX7_addNumber_34 rfl ?_
      refine jm_geti (pc := 35) 1 dX7_addNumber_35 fX7_15 (cC1 hg) rfl ?_
      refine jm_iconst (pc := 38) dX7_addNumber_38 ?_
      refine jm_iadd (pc := 39) dX7_addNumber_39 ?_
      have hg5 := h.1
      have h := h.2
      refine jm_put (pc := 40) 1 dX7_addNumber_40 fX7_15 ftX7 (fun q h => by cases h; rfl) (jm_nI _) (jm_fI _) (cC1 hg) rfl hg5 ?_
      have h := h _ rfl
      refine jm_mrI (fun hm7 => ?_)
      refine jm_iinc (pc := 43) (lv' := [(2, _), (0, _), (1, _)]) 2 dX7_addNumber_43 rfl (by decide) rfl ?_
      refine jm_goto (pc := 46) 3 dX7_addNumber_46 rfl ?_
      exact jm_sub [1, 2, 0] rfl h
theorem eX7_addNumber {l : Launch} {g : jm_G} {d : Nat} {v1 : Int} (hg : jm_HC g) {mu : jm_M} {Q : Option Value → jm_M → Prop} (h : jm_V l g (d + 1) iX7_addNumber 3 [(0, .ref 1), (1, jm_i v1), (2, jm_i 24)] [] mu Q) : jm_R l g (d + 1) iX7_addNumber [.ref 1, jm_i v1] mu Q := by
  refine jm_enter [(0, .ref 1), (1, jm_i v1)] (by decide) (Nat.le_of_ble_eq_true rfl) rfl ?_
  refine jm_mrI (fun hm0 => ?_)
  refine jm_bipush (pc := 0) dX7_addNumber_0 (by decide) ?_
  refine jm_istore_n (pc := 2) (lv' := [(2, _), (0, _), (1, _)]) dX7_addNumber_2 (by decide) rfl ?_
  exact jm_sub [1, 2, 0] rfl h
theorem dX7_hasRoom_0 : decode cX7_hasRoom 0 = .ok (.aload_n 0, 1) := by decide +kernel
theorem dX7_hasRoom_1 : decode cX7_hasRoom 1 = .ok (.getfield 15, 3) := by decide +kernel
theorem dX7_hasRoom_4 : decode cX7_hasRoom 4 = .ok (.iload_n 1, 1) := by decide +kernel
theorem dX7_hasRoom_5 : decode cX7_hasRoom 5 = .ok (.iadd, 1) := by decide +kernel
theorem dX7_hasRoom_6 : decode cX7_hasRoom 6 = .ok (.sipush 400, 3) := by decide +kernel
theorem dX7_hasRoom_9 : decode cX7_hasRoom 9 = .ok (.if_icmp .gt 7, 3) := by decide +kernel
theorem dX7_hasRoom_12 : decode cX7_hasRoom 12 = .ok (.iconst 1, 1) := by decide +kernel
theorem dX7_hasRoom_13 : decode cX7_hasRoom 13 = .ok (.goto 4, 3) := by decide +kernel
theorem dX7_hasRoom_16 : decode cX7_hasRoom 16 = .ok (.iconst 0, 1) := by decide +kernel
theorem dX7_hasRoom_17 : decode cX7_hasRoom 17 = .ok (.ireturn, 1) := by decide +kernel
theorem eX7_hasRoom {l : Launch} {g : jm_G} {d : Nat} {v1 : Int} (hg : jm_HC g) {mu : jm_M} {Q : Option Value → jm_M → Prop} (h : jm_rg ((mu.1 1 1) + v1) ∧ (400 < ((mu.1 1 1) + v1) → Q (some (jm_i 0)) mu) ∧ (((mu.1 1 1) + v1) ≤ 400 → Q (some (jm_i 1)) mu)) : jm_R l g (d + 1) iX7_hasRoom [.ref 1, jm_i v1] mu Q := by
  refine jm_enter [(0, .ref 1), (1, jm_i v1)] (by decide) (Nat.le_of_ble_eq_true rfl) rfl ?_
  refine jm_mrI (fun hm0 => ?_)
  refine jm_aload_n (pc := 0) 0 dX7_hasRoom_0 rfl ?_
  refine jm_geti (pc := 1) 1 dX7_hasRoom_1 fX7_15 (cC1 hg) rfl ?_
  refine jm_iload_n (pc := 4) 1 dX7_hasRoom_4 rfl ?_
  refine jm_iadd (pc := 5) dX7_hasRoom_5 ?_
  refine jm_sipush (pc := 6) dX7_hasRoom_6 (by decide) ?_
  have hg1 := h.1
  have h := h.2
  refine jm_icmp_gt (pc := 9) 16 dX7_hasRoom_9 rfl hg1 ⟨by decide, by decide⟩ (fun q => ?_) (fun q => ?_)
  · have h := h.1 q
    refine jm_iconst (pc := 16) dX7_hasRoom_16 ?_
    exact jm_zret (pc := 17) dX7_hasRoom_17 rfl (Or.inl rfl) h
  · have h := h.2 q
    refine jm_iconst (pc := 12) dX7_hasRoom_12 ?_
    refine jm_goto (pc := 13) 17 dX7_hasRoom_13 rfl ?_
    exact jm_zret (pc := 17) dX7_hasRoom_17 rfl (Or.inr rfl) h
theorem pX7_hasRoom {l : Launch} {g : jm_G} {d : Nat} {v1 : Int} (hg : jm_HC g) {mu : jm_M} {Q : Option Value → jm_M → Prop} (o0 : jm_rg ((mu.1 1 1) + v1)) (h1 : ((mu.1 1 1) + v1) ≤ 400 → Q (some (jm_i 1)) mu) (h0 : ¬ (((mu.1 1 1) + v1) ≤ 400) → Q (some (jm_i 0)) mu) : jm_R l g (d + 1) iX7_hasRoom [.ref 1, jm_i v1] mu Q := by
  refine eX7_hasRoom hg ?_
  refine ⟨o0, ?_⟩
  refine ⟨fun q0 => ?_, fun q0 => ?_⟩
  · exact h0 (by omega)
  · exact h1 (q0)
theorem dX11_feed_0 : decode cX11_feed 0 = .ok (.aload_n 0, 1) := by decide +kernel
theorem dX11_feed_1 : decode cX11_feed 1 = .ok (.getfield 12, 3) := by decide +kernel
theorem dX11_feed_4 : decode cX11_feed 4 = .ok (.bipush 20, 2) := by decide +kernel
theorem dX11_feed_6 : decode cX11_feed 6 = .ok (.invokevirtual 157, 3) := by decide +kernel
theorem dX11_feed_9 : decode cX11_feed 9 = .ok (.ifCond .ne 5, 3) := by decide +kernel
theorem dX11_feed_12 : decode cX11_feed 12 = .ok (.iconst (-1), 1) := by decide +kernel
theorem dX11_feed_13 : decode cX11_feed 13 = .ok (.ireturn, 1) := by decide +kernel
theorem dX11_feed_14 : decode cX11_feed 14 = .ok (.aload_n 0, 1) := by decide +kernel
theorem dX11_feed_15 : decode cX11_feed 15 = .ok (.getfield 12, 3) := by decide +kernel
theorem dX11_feed_18 : decode cX11_feed 18 = .ok (.iload_n 1, 1) := by decide +kernel
theorem dX11_feed_19 : decode cX11_feed 19 = .ok (.invokevirtual 160, 3) := by decide +kernel
theorem dX11_feed_22 : decode cX11_feed 22 = .ok (.aload_n 0, 1) := by decide +kernel
theorem dX11_feed_23 : decode cX11_feed 23 = .ok (.getfield 12, 3) := by decide +kernel
theorem dX11_feed_26 : decode cX11_feed 26 = .ok (.iload_n 2, 1) := by decide +kernel
theorem dX11_feed_27 : decode cX11_feed 27 = .ok (.invokevirtual 160, 3) := by decide +kernel
theorem dX11_feed_30 : decode cX11_feed 30 = .ok (.aload_n 0, 1) := by decide +kernel
theorem dX11_feed_31 : decode cX11_feed 31 = .ok (.getfield 12, 3) := by decide +kernel
theorem dX11_feed_34 : decode cX11_feed 34 = .ok (.iload_n 3, 1) := by decide +kernel
theorem dX11_feed_35 : decode cX11_feed 35 = .ok (.invokevirtual 160, 3) := by decide +kernel
theorem dX11_feed_38 : decode cX11_feed 38 = .ok (.aload_n 0, 1) := by decide +kernel
theorem dX11_feed_39 : decode cX11_feed 39 = .ok (.getfield 12, 3) := by decide +kernel
theorem dX11_feed_42 : decode cX11_feed 42 = .ok (.iload 4, 2) := by decide +kernel
theorem dX11_feed_44 : decode cX11_feed 44 = .ok (.invokevirtual 160, 3) := by decide +kernel
theorem dX11_feed_47 : decode cX11_feed 47 = .ok (.aload_n 0, 1) := by decide +kernel
theorem dX11_feed_48 : decode cX11_feed 48 = .ok (.getfield 12, 3) := by decide +kernel
theorem dX11_feed_51 : decode cX11_feed 51 = .ok (.iload 5, 2) := by decide +kernel
theorem dX11_feed_53 : decode cX11_feed 53 = .ok (.invokevirtual 160, 3) := by decide +kernel
theorem dX11_feed_56 : decode cX11_feed 56 = .ok (.aload_n 0, 1) := by decide +kernel
theorem dX11_feed_57 : decode cX11_feed 57 = .ok (.getfield 12, 3) := by decide +kernel
theorem dX11_feed_60 : decode cX11_feed 60 = .ok (.getfield 164, 3) := by decide +kernel
theorem dX11_feed_63 : decode cX11_feed 63 = .ok (.ireturn, 1) := by decide +kernel
theorem eX11_feed {l : Launch} {g : jm_G} {d : Nat} {v1 v2 v3 v4 v5 : Int} (hg : jm_HC g) {mu : jm_M} {Q : Option Value → jm_M → Prop} (h : (jm_rg ((mu.1 1 1) + 20)) ∧ (((mu.1 1 1) + 20) ≤ 400 → jm_R l g (d + 1) iX7_addNumber [.ref 1, jm_i v1] mu (jm_qv fun m2 => jm_R l g (d + 1) iX7_addNumber [.ref 1, jm_i v2] m2 (jm_qv fun m6 => jm_R l g (d + 1) iX7_addNumber [.ref 1, jm_i v3] m6 (jm_qv fun m10 => jm_R l g (d + 1) iX7_addNumber [.ref 1, jm_i v4] m10 (jm_qv fun m14 => jm_R l g (d + 1) iX7_addNumber [.ref 1, jm_i v5] m14 (jm_qv fun m18 => Q (some (jm_i (m18.1 1 1))) m18)))))) ∧ (¬ (((mu.1 1 1) + 20) ≤ 400) → Q (some (jm_i (-1))) mu)) : jm_R l g (d + 2) iX11_feed [.ref 0, jm_i v1, jm_i v2, jm_i v3, jm_i v4, jm_i v5] mu Q := by
  refine jm_enter [(0, .ref 0), (1, jm_i v1), (2, jm_i v2), (3, jm_i v3), (4, jm_i v4), (5, jm_i v5)] (by decide) (Nat.le_of_ble_eq_true rfl) rfl ?_
  refine jm_mrI (fun hm0 => ?_)
  refine jm_aload_n (pc := 0) 0 dX11_feed_0 rfl ?_
  refine jm_getr (pc := 1) 0 dX11_feed_1 fX11_12 (cC0 hg) rfl ?_
  refine jm_bipush (pc := 4) dX11_feed_4 (by decide) ?_
  have hg1 := h.1
  have h := h.2
  refine jm_inlvi (pc := 6) (As := [_]) (st := []) iX7_hasRoom dX11_feed_6 mX11_157 (cC1 hg) ⟨_, rfl, rfl⟩ rfl rfl (Nat.le_of_ble_eq_true rfl) (pX7_hasRoom hg hg1 (fun q => jm_kIi ?_) (fun q => jm_kIi ?_))
  · have h := h.1 q
    refine jm_if_ne (pc := 9) 14 dX11_feed_9 rfl ⟨by decide, by decide⟩ (fun q => ?_) (fun q => absurd q (by decide))
    refine jm_aload_n (pc := 14) 0 dX11_feed_14 rfl ?_
    refine jm_getr (pc := 15) 0 dX11_feed_15 fX11_12 (cC0 hg) rfl ?_
    refine jm_iload_n (pc := 18) 1 dX11_feed_18 rfl ?_
    refine jm_callvv (pc := 19) (As := [_]) (st := []) iX7_addNumber dX11_feed_19 mX11_160 (cC1 hg) ⟨_, rfl, rfl⟩ rfl rfl (Nat.le_of_ble_eq_true rfl) h (fun m2 h hm5 => ?_)
    refine jm_aload_n (pc := 22) 0 dX11_feed_22 rfl ?_
    refine jm_getr (pc := 23) 0 dX11_feed_23 fX11_12 (cC0 hg) rfl ?_
    refine jm_iload_n (pc := 26) 2 dX11_feed_26 rfl ?_
    refine jm_callvv (pc := 27) (As := [_]) (st := []) iX7_addNumber dX11_feed_27 mX11_160 (cC1 hg) ⟨_, rfl, rfl⟩ rfl rfl (Nat.le_of_ble_eq_true rfl) h (fun m6 h hm9 => ?_)
    refine jm_aload_n (pc := 30) 0 dX11_feed_30 rfl ?_
    refine jm_getr (pc := 31) 0 dX11_feed_31 fX11_12 (cC0 hg) rfl ?_
    refine jm_iload_n (pc := 34) 3 dX11_feed_34 rfl ?_
    refine jm_callvv (pc := 35) (As := [_]) (st := []) iX7_addNumber dX11_feed_35 mX11_160 (cC1 hg) ⟨_, rfl, rfl⟩ rfl rfl (Nat.le_of_ble_eq_true rfl) h (fun m10 h hm13 => ?_)
    refine jm_aload_n (pc := 38) 0 dX11_feed_38 rfl ?_
    refine jm_getr (pc := 39) 0 dX11_feed_39 fX11_12 (cC0 hg) rfl ?_
    refine jm_iload (pc := 42) 4 dX11_feed_42 rfl ?_
    refine jm_callvv (pc := 44) (As := [_]) (st := []) iX7_addNumber dX11_feed_44 mX11_160 (cC1 hg) ⟨_, rfl, rfl⟩ rfl rfl (Nat.le_of_ble_eq_true rfl) h (fun m14 h hm17 => ?_)
    refine jm_aload_n (pc := 47) 0 dX11_feed_47 rfl ?_
    refine jm_getr (pc := 48) 0 dX11_feed_48 fX11_12 (cC0 hg) rfl ?_
    refine jm_iload (pc := 51) 5 dX11_feed_51 rfl ?_
    refine jm_callvv (pc := 53) (As := [_]) (st := []) iX7_addNumber dX11_feed_53 mX11_160 (cC1 hg) ⟨_, rfl, rfl⟩ rfl rfl (Nat.le_of_ble_eq_true rfl) h (fun m18 h hm21 => ?_)
    refine jm_aload_n (pc := 56) 0 dX11_feed_56 rfl ?_
    refine jm_getr (pc := 57) 0 dX11_feed_57 fX11_12 (cC0 hg) rfl ?_
    refine jm_geti (pc := 60) 1 dX11_feed_60 fX11_164 (cC1 hg) rfl ?_
    exact jm_iret (pc := 63) dX11_feed_63 rfl h
  · have h := h.2 q
    refine jm_if_ne (pc := 9) 14 dX11_feed_9 rfl ⟨by decide, by decide⟩ (fun q => absurd q (by decide)) (fun q => ?_)
    refine jm_iconst (pc := 12) dX11_feed_12 ?_
    exact jm_iret (pc := 13) dX11_feed_13 rfl h
theorem dX11_end_0 : decode cX11_end 0 = .ok (.iload_n 1, 1) := by decide +kernel
theorem dX11_end_1 : decode cX11_end 1 = .ok (.ifCond .lt 14, 3) := by decide +kernel
theorem dX11_end_4 : decode cX11_end 4 = .ok (.iload_n 1, 1) := by decide +kernel
theorem dX11_end_5 : decode cX11_end 5 = .ok (.aload_n 0, 1) := by decide +kernel
theorem dX11_end_6 : decode cX11_end 6 = .ok (.getfield 12, 3) := by decide +kernel
theorem dX11_end_9 : decode cX11_end 9 = .ok (.getfield 164, 3) := by decide +kernel
theorem dX11_end_12 : decode cX11_end 12 = .ok (.if_icmp .le 5, 3) := by decide +kernel
theorem dX11_end_15 : decode cX11_end 15 = .ok (.iconst 0, 1) := by decide +kernel
theorem dX11_end_16 : decode cX11_end 16 = .ok (.ireturn, 1) := by decide +kernel
theorem dX11_end_17 : decode cX11_end 17 = .ok (.aload_n 0, 1) := by decide +kernel
theorem dX11_end_18 : decode cX11_end 18 = .ok (.getfield 12, 3) := by decide +kernel
theorem dX11_end_21 : decode cX11_end 21 = .ok (.iload_n 1, 1) := by decide +kernel
theorem dX11_end_22 : decode cX11_end 22 = .ok (.putfield 164, 3) := by decide +kernel
theorem dX11_end_25 : decode cX11_end 25 = .ok (.iconst 1, 1) := by decide +kernel
theorem dX11_end_26 : decode cX11_end 26 = .ok (.ireturn, 1) := by decide +kernel
theorem eX11_end {l : Launch} {g : jm_G} {d : Nat} {v1 : Int} (hg : jm_HC g) {mu : jm_M} {Q : Option Value → jm_M → Prop} (h : jm_rg v1 ∧ (v1 < 0 → Q (some (jm_i 0)) mu) ∧ (0 ≤ v1 → (v1 ≤ (mu.1 1 1) → ∀ m2, m2 = jm_wr mu 1 1 v1 → Q (some (jm_i 1)) m2) ∧ ((mu.1 1 1) < v1 → Q (some (jm_i 0)) mu))) : jm_R l g (d + 1) iX11_end [.ref 0, jm_i v1] mu Q := by
  refine jm_enter [(0, .ref 0), (1, jm_i v1)] (by decide) (Nat.le_of_ble_eq_true rfl) rfl ?_
  refine jm_mrI (fun hm0 => ?_)
  refine jm_iload_n (pc := 0) 1 dX11_end_0 rfl ?_
  have hg1 := h.1
  have h := h.2
  refine jm_if_lt (pc := 1) 15 dX11_end_1 rfl hg1 (fun q => ?_) (fun q => ?_)
  · have h := h.1 q
    refine jm_iconst (pc := 15) dX11_end_15 ?_
    exact jm_zret (pc := 16) dX11_end_16 rfl (Or.inl rfl) h
  · have h := h.2 q
    refine jm_iload_n (pc := 4) 1 dX11_end_4 rfl ?_
    refine jm_aload_n (pc := 5) 0 dX11_end_5 rfl ?_
    refine jm_getr (pc := 6) 0 dX11_end_6 fX11_12 (cC0 hg) rfl ?_
    refine jm_geti (pc := 9) 1 dX11_end_9 fX11_164 (cC1 hg) rfl ?_
    refine jm_icmp_le (pc := 12) 17 dX11_end_12 rfl hg1 (hm0 _ _) (fun q => ?_) (fun q => ?_)
    · have h := h.1 q
      refine jm_aload_n (pc := 17) 0 dX11_end_17 rfl ?_
      refine jm_getr (pc := 18) 0 dX11_end_18 fX11_12 (cC0 hg) rfl ?_
      refine jm_iload_n (pc := 21) 1 dX11_end_21 rfl ?_
      refine jm_put (pc := 22) 1 dX11_end_22 fX11_164 ftX7 (fun q h => by cases h; rfl) (jm_nI _) (jm_fI _) (cC1 hg) rfl hg1 ?_
      have h := h _ rfl
      refine jm_mrI (fun hm3 => ?_)
      refine jm_iconst (pc := 25) dX11_end_25 ?_
      exact jm_zret (pc := 26) dX11_end_26 rfl (Or.inr rfl) h
    · have h := h.2 q
      refine jm_iconst (pc := 15) dX11_end_15 ?_
      exact jm_zret (pc := 16) dX11_end_16 rfl (Or.inl rfl) h
theorem dX3_copyFrom_0 : decode cX3_copyFrom 0 = .ok (.aload_n 0, 1) := by decide +kernel
theorem dX3_copyFrom_1 : decode cX3_copyFrom 1 = .ok (.aload_n 1, 1) := by decide +kernel
theorem dX3_copyFrom_2 : decode cX3_copyFrom 2 = .ok (.getfield 9, 3) := by decide +kernel
theorem dX3_copyFrom_5 : decode cX3_copyFrom 5 = .ok (.putfield 9, 3) := by decide +kernel
theorem dX3_copyFrom_8 : decode cX3_copyFrom 8 = .ok (.aload_n 0, 1) := by decide +kernel
theorem dX3_copyFrom_9 : decode cX3_copyFrom 9 = .ok (.aload_n 1, 1) := by decide +kernel
theorem dX3_copyFrom_10 : decode cX3_copyFrom 10 = .ok (.getfield 15, 3) := by decide +kernel
theorem dX3_copyFrom_13 : decode cX3_copyFrom 13 = .ok (.putfield 15, 3) := by decide +kernel
theorem dX3_copyFrom_16 : decode cX3_copyFrom 16 = .ok (.aload_n 1, 1) := by decide +kernel
theorem dX3_copyFrom_17 : decode cX3_copyFrom 17 = .ok (.getfield 18, 3) := by decide +kernel
theorem dX3_copyFrom_20 : decode cX3_copyFrom 20 = .ok (.iconst 0, 1) := by decide +kernel
theorem dX3_copyFrom_21 : decode cX3_copyFrom 21 = .ok (.aload_n 0, 1) := by decide +kernel
theorem dX3_copyFrom_22 : decode cX3_copyFrom 22 = .ok (.getfield 18, 3) := by decide +kernel
theorem dX3_copyFrom_25 : decode cX3_copyFrom 25 = .ok (.iconst 0, 1) := by decide +kernel
theorem dX3_copyFrom_26 : decode cX3_copyFrom 26 = .ok (.sipush 400, 3) := by decide +kernel
theorem dX3_copyFrom_29 : decode cX3_copyFrom 29 = .ok (.invokestatic 37, 3) := by decide +kernel
theorem dX3_copyFrom_32 : decode cX3_copyFrom 32 = .ok (.aload_n 1, 1) := by decide +kernel
theorem dX3_copyFrom_33 : decode cX3_copyFrom 33 = .ok (.getfield 22, 3) := by decide +kernel
theorem dX3_copyFrom_36 : decode cX3_copyFrom 36 = .ok (.iconst 0, 1) := by decide +kernel
theorem dX3_copyFrom_37 : decode cX3_copyFrom 37 = .ok (.aload_n 0, 1) := by decide +kernel
theorem dX3_copyFrom_38 : decode cX3_copyFrom 38 = .ok (.getfield 22, 3) := by decide +kernel
theorem dX3_copyFrom_41 : decode cX3_copyFrom 41 = .ok (.iconst 0, 1) := by decide +kernel
theorem dX3_copyFrom_42 : decode cX3_copyFrom 42 = .ok (.bipush 16, 2) := by decide +kernel
theorem dX3_copyFrom_44 : decode cX3_copyFrom 44 = .ok (.invokestatic 37, 3) := by decide +kernel
theorem dX3_copyFrom_47 : decode cX3_copyFrom 47 = .ok (.aload_n 1, 1) := by decide +kernel
theorem dX3_copyFrom_48 : decode cX3_copyFrom 48 = .ok (.getfield 25, 3) := by decide +kernel
theorem dX3_copyFrom_51 : decode cX3_copyFrom 51 = .ok (.iconst 0, 1) := by decide +kernel
theorem dX3_copyFrom_52 : decode cX3_copyFrom 52 = .ok (.aload_n 0, 1) := by decide +kernel
theorem dX3_copyFrom_53 : decode cX3_copyFrom 53 = .ok (.getfield 25, 3) := by decide +kernel
theorem dX3_copyFrom_56 : decode cX3_copyFrom 56 = .ok (.iconst 0, 1) := by decide +kernel
theorem dX3_copyFrom_57 : decode cX3_copyFrom 57 = .ok (.bipush 16, 2) := by decide +kernel
theorem dX3_copyFrom_59 : decode cX3_copyFrom 59 = .ok (.invokestatic 37, 3) := by decide +kernel
theorem dX3_copyFrom_62 : decode cX3_copyFrom 62 = .ok (.aload_n 1, 1) := by decide +kernel
theorem dX3_copyFrom_63 : decode cX3_copyFrom 63 = .ok (.getfield 28, 3) := by decide +kernel
theorem dX3_copyFrom_66 : decode cX3_copyFrom 66 = .ok (.iconst 0, 1) := by decide +kernel
theorem dX3_copyFrom_67 : decode cX3_copyFrom 67 = .ok (.aload_n 0, 1) := by decide +kernel
theorem dX3_copyFrom_68 : decode cX3_copyFrom 68 = .ok (.getfield 28, 3) := by decide +kernel
theorem dX3_copyFrom_71 : decode cX3_copyFrom 71 = .ok (.iconst 0, 1) := by decide +kernel
theorem dX3_copyFrom_72 : decode cX3_copyFrom 72 = .ok (.bipush 16, 2) := by decide +kernel
theorem dX3_copyFrom_74 : decode cX3_copyFrom 74 = .ok (.invokestatic 37, 3) := by decide +kernel
theorem dX3_copyFrom_77 : decode cX3_copyFrom 77 = .ok (.aload_n 1, 1) := by decide +kernel
theorem dX3_copyFrom_78 : decode cX3_copyFrom 78 = .ok (.getfield 31, 3) := by decide +kernel
theorem dX3_copyFrom_81 : decode cX3_copyFrom 81 = .ok (.iconst 0, 1) := by decide +kernel
theorem dX3_copyFrom_82 : decode cX3_copyFrom 82 = .ok (.aload_n 0, 1) := by decide +kernel
theorem dX3_copyFrom_83 : decode cX3_copyFrom 83 = .ok (.getfield 31, 3) := by decide +kernel
theorem dX3_copyFrom_86 : decode cX3_copyFrom 86 = .ok (.iconst 0, 1) := by decide +kernel
theorem dX3_copyFrom_87 : decode cX3_copyFrom 87 = .ok (.bipush 16, 2) := by decide +kernel
theorem dX3_copyFrom_89 : decode cX3_copyFrom 89 = .ok (.invokestatic 37, 3) := by decide +kernel
theorem dX3_copyFrom_92 : decode cX3_copyFrom 92 = .ok (.return_, 1) := by decide +kernel
theorem eX3_copyFrom_15_49 {l : Launch} {g : jm_G} {d : Nat} (hg : jm_HC g) {mu : jm_M} {Q : Option Value → jm_M → Prop} (h : ∀ m1, m1 = jm_wr mu 15 0 (mu.1 49 0) → ∀ m3, m3 = jm_wr m1 15 1 (m1.1 49 1) → ∀ m5, m5 = jm_cp m3 50 0 16 0 400 → ∀ m7, m7 = jm_cp m5 51 0 17 0 16 → ∀ m9, m9 = jm_cp m7 52 0 18 0 16 → ∀ m11, m11 = jm_cp m9 53 0 19 0 16 → ∀ m13, m13 = jm_cp m11 54 0 20 0 16 → Q none m13) : jm_R l g (d + 1) iX3_copyFrom [.ref 15, .ref 49] mu Q := by
  refine jm_enter [(0, .ref 15), (1, .ref 49)] (by decide) (Nat.le_of_ble_eq_true rfl) rfl ?_
  refine jm_mrI (fun hm0 => ?_)
  refine jm_aload_n (pc := 0) 0 dX3_copyFrom_0 rfl ?_
  refine jm_aload_n (pc := 1) 1 dX3_copyFrom_1 rfl ?_
  refine jm_geti (pc := 2) 0 dX3_copyFrom_2 fX3_9 (cC49 hg) rfl ?_
  refine jm_put (pc := 5) 0 dX3_copyFrom_5 fX3_9 ftX3 (fun q h => by cases h; rfl) (jm_nI _) (jm_fI _) (cC15 hg) rfl (hm0 _ _) ?_
  have h := h _ rfl
  refine jm_mrI (fun hm2 => ?_)
  refine jm_aload_n (pc := 8) 0 dX3_copyFrom_8 rfl ?_
  refine jm_aload_n (pc := 9) 1 dX3_copyFrom_9 rfl ?_
  refine jm_geti (pc := 10) 1 dX3_copyFrom_10 fX3_15 (cC49 hg) rfl ?_
  refine jm_put (pc := 13) 1 dX3_copyFrom_13 fX3_15 ftX3 (fun q h => by cases h; rfl) (jm_nI _) (jm_fI _) (cC15 hg) rfl (hm2 _ _) ?_
  have h := h _ rfl
  refine jm_mrI (fun hm4 => ?_)
  refine jm_aload_n (pc := 16) 1 dX3_copyFrom_16 rfl ?_
  refine jm_getr (pc := 17) 2 dX3_copyFrom_17 fX3_18 (cC49 hg) rfl ?_
  refine jm_iconst (pc := 20) dX3_copyFrom_20 ?_
  refine jm_aload_n (pc := 21) 0 dX3_copyFrom_21 rfl ?_
  refine jm_getr (pc := 22) 2 dX3_copyFrom_22 fX3_18 (cC15 hg) rfl ?_
  refine jm_iconst (pc := 25) dX3_copyFrom_25 ?_
  refine jm_sipush (pc := 26) dX3_copyFrom_26 (by decide) ?_
  refine jm_copy (pc := 29) dX3_copyFrom_29 mX3_37 (cC50 hg) (cC16 hg) (by decide) (by decide) (by decide) (by decide) (by decide) (by decide) (by decide) (Nat.le_of_ble_eq_true rfl) ?_
  have h := h _ rfl
  refine jm_mrI (fun hm6 => ?_)
  refine jm_aload_n (pc := 32) 1 dX3_copyFrom_32 rfl ?_
  refine jm_getr (pc := 33) 3 dX3_copyFrom_33 fX3_22 (cC49 hg) rfl ?_
  refine jm_iconst (pc := 36) dX3_copyFrom_36 ?_
  refine jm_aload_n (pc := 37) 0 dX3_copyFrom_37 rfl ?_
  refine jm_getr (pc := 38) 3 dX3_copyFrom_38 fX3_22 (cC15 hg) rfl ?_
  refine jm_iconst (pc := 41) dX3_copyFrom_41 ?_
  refine jm_bipush (pc := 42) dX3_copyFrom_42 (by decide) ?_
  refine jm_copy (pc := 44) dX3_copyFrom_44 mX3_37 (cC51 hg) (cC17 hg) (by decide) (by decide) (by decide) (by decide) (by decide) (by decide) (by decide) (Nat.le_of_ble_eq_true rfl) ?_
  have h := h _ rfl
  refine jm_mrI (fun hm8 => ?_)
  refine jm_aload_n (pc := 47) 1 dX3_copyFrom_47 rfl ?_
  refine jm_getr (pc := 48) 4 dX3_copyFrom_48 fX3_25 (cC49 hg) rfl ?_
  refine jm_iconst (pc := 51) dX3_copyFrom_51 ?_
  refine jm_aload_n (pc := 52) 0 dX3_copyFrom_52 rfl ?_
  refine jm_getr (pc := 53) 4 dX3_copyFrom_53 fX3_25 (cC15 hg) rfl ?_
  refine jm_iconst (pc := 56) dX3_copyFrom_56 ?_
  refine jm_bipush (pc := 57) dX3_copyFrom_57 (by decide) ?_
  refine jm_copy (pc := 59) dX3_copyFrom_59 mX3_37 (cC52 hg) (cC18 hg) (by decide) (by decide) (by decide) (by decide) (by decide) (by decide) (by decide) (Nat.le_of_ble_eq_true rfl) ?_
  have h := h _ rfl
  refine jm_mrI (fun hm10 => ?_)
  refine jm_aload_n (pc := 62) 1 dX3_copyFrom_62 rfl ?_
  refine jm_getr (pc := 63) 5 dX3_copyFrom_63 fX3_28 (cC49 hg) rfl ?_
  refine jm_iconst (pc := 66) dX3_copyFrom_66 ?_
  refine jm_aload_n (pc := 67) 0 dX3_copyFrom_67 rfl ?_
  refine jm_getr (pc := 68) 5 dX3_copyFrom_68 fX3_28 (cC15 hg) rfl ?_
  refine jm_iconst (pc := 71) dX3_copyFrom_71 ?_
  refine jm_bipush (pc := 72) dX3_copyFrom_72 (by decide) ?_
  refine jm_copy (pc := 74) dX3_copyFrom_74 mX3_37 (cC53 hg) (cC19 hg) (by decide) (by decide) (by decide) (by decide) (by decide) (by decide) (by decide) (Nat.le_of_ble_eq_true rfl) ?_
  have h := h _ rfl
  refine jm_mrI (fun hm12 => ?_)
  refine jm_aload_n (pc := 77) 1 dX3_copyFrom_77 rfl ?_
  refine jm_getr (pc := 78) 6 dX3_copyFrom_78 fX3_31 (cC49 hg) rfl ?_
  refine jm_iconst (pc := 81) dX3_copyFrom_81 ?_
  refine jm_aload_n (pc := 82) 0 dX3_copyFrom_82 rfl ?_
  refine jm_getr (pc := 83) 6 dX3_copyFrom_83 fX3_31 (cC15 hg) rfl ?_
  refine jm_iconst (pc := 86) dX3_copyFrom_86 ?_
  refine jm_bipush (pc := 87) dX3_copyFrom_87 (by decide) ?_
  refine jm_copy (pc := 89) dX3_copyFrom_89 mX3_37 (cC54 hg) (cC20 hg) (by decide) (by decide) (by decide) (by decide) (by decide) (by decide) (by decide) (Nat.le_of_ble_eq_true rfl) ?_
  have h := h _ rfl
  refine jm_mrI (fun hm14 => ?_)
  exact jm_vret (pc := 92) dX3_copyFrom_92 rfl h
theorem dX11_adoptLaw_0 : decode cX11_adoptLaw 0 = .ok (.aload_n 0, 1) := by decide +kernel
theorem dX11_adoptLaw_1 : decode cX11_adoptLaw 1 = .ok (.getfield 19, 3) := by decide +kernel
theorem dX11_adoptLaw_4 : decode cX11_adoptLaw 4 = .ok (.getfield 359, 3) := by decide +kernel
theorem dX11_adoptLaw_7 : decode cX11_adoptLaw 7 = .ok (.aload_n 0, 1) := by decide +kernel
theorem dX11_adoptLaw_8 : decode cX11_adoptLaw 8 = .ok (.getfield 72, 3) := by decide +kernel
theorem dX11_adoptLaw_11 : decode cX11_adoptLaw 11 = .ok (.invokevirtual 378, 3) := by decide +kernel
theorem dX11_adoptLaw_14 : decode cX11_adoptLaw 14 = .ok (.aload_n 0, 1) := by decide +kernel
theorem dX11_adoptLaw_15 : decode cX11_adoptLaw 15 = .ok (.getfield 72, 3) := by decide +kernel
theorem dX11_adoptLaw_18 : decode cX11_adoptLaw 18 = .ok (.getfield 362, 3) := by decide +kernel
theorem dX11_adoptLaw_21 : decode cX11_adoptLaw 21 = .ok (.ireturn, 1) := by decide +kernel
theorem eX11_adoptLaw {l : Launch} {g : jm_G} {d : Nat} (hg : jm_HC g) {mu : jm_M} {Q : Option Value → jm_M → Prop} (h : jm_R l g d iX3_copyFrom [.ref 15, .ref 49] mu (jm_qv fun m1 => Q (some (jm_i (m1.1 49 0))) m1)) : jm_R l g (d + 1) iX11_adoptLaw [.ref 0] mu Q := by
  refine jm_enter [(0, .ref 0)] (by decide) (Nat.le_of_ble_eq_true rfl) rfl ?_
  refine jm_mrI (fun hm0 => ?_)
  refine jm_aload_n (pc := 0) 0 dX11_adoptLaw_0 rfl ?_
  refine jm_getr (pc := 1) 1 dX11_adoptLaw_1 fX11_19 (cC0 hg) rfl ?_
  refine jm_getr (pc := 4) 11 dX11_adoptLaw_4 fX11_359 (cC6 hg) rfl ?_
  refine jm_aload_n (pc := 7) 0 dX11_adoptLaw_7 rfl ?_
  refine jm_getr (pc := 8) 8 dX11_adoptLaw_8 fX11_72 (cC0 hg) rfl ?_
  refine jm_callvv (pc := 11) (As := [_]) (st := []) iX3_copyFrom dX11_adoptLaw_11 mX11_378 (cC15 hg) ⟨_, rfl, rfl⟩ rfl rfl (Nat.le_of_ble_eq_true rfl) h (fun m1 h hm4 => ?_)
  refine jm_aload_n (pc := 14) 0 dX11_adoptLaw_14 rfl ?_
  refine jm_getr (pc := 15) 8 dX11_adoptLaw_15 fX11_72 (cC0 hg) rfl ?_
  refine jm_geti (pc := 18) 0 dX11_adoptLaw_18 fX11_362 (cC49 hg) rfl ?_
  exact jm_iret (pc := 21) dX11_adoptLaw_21 rfl h
theorem dX5_copyFrom_0 : decode cX5_copyFrom 0 = .ok (.aload_n 0, 1) := by decide +kernel
theorem dX5_copyFrom_1 : decode cX5_copyFrom 1 = .ok (.aload_n 1, 1) := by decide +kernel
theorem dX5_copyFrom_2 : decode cX5_copyFrom 2 = .ok (.getfield 11, 3) := by decide +kernel
theorem dX5_copyFrom_5 : decode cX5_copyFrom 5 = .ok (.putfield 11, 3) := by decide +kernel
theorem dX5_copyFrom_8 : decode cX5_copyFrom 8 = .ok (.aload_n 1, 1) := by decide +kernel
theorem dX5_copyFrom_9 : decode cX5_copyFrom 9 = .ok (.getfield 17, 3) := by decide +kernel
theorem dX5_copyFrom_12 : decode cX5_copyFrom 12 = .ok (.iconst 0, 1) := by decide +kernel
theorem dX5_copyFrom_13 : decode cX5_copyFrom 13 = .ok (.aload_n 0, 1) := by decide +kernel
theorem dX5_copyFrom_14 : decode cX5_copyFrom 14 = .ok (.getfield 17, 3) := by decide +kernel
theorem dX5_copyFrom_17 : decode cX5_copyFrom 17 = .ok (.iconst 0, 1) := by decide +kernel
theorem dX5_copyFrom_18 : decode cX5_copyFrom 18 = .ok (.bipush 24, 2) := by decide +kernel
theorem dX5_copyFrom_20 : decode cX5_copyFrom 20 = .ok (.invokestatic 24, 3) := by decide +kernel
theorem dX5_copyFrom_23 : decode cX5_copyFrom 23 = .ok (.aload_n 1, 1) := by decide +kernel
theorem dX5_copyFrom_24 : decode cX5_copyFrom 24 = .ok (.getfield 21, 3) := by decide +kernel
theorem dX5_copyFrom_27 : decode cX5_copyFrom 27 = .ok (.iconst 0, 1) := by decide +kernel
theorem dX5_copyFrom_28 : decode cX5_copyFrom 28 = .ok (.aload_n 0, 1) := by decide +kernel
theorem dX5_copyFrom_29 : decode cX5_copyFrom 29 = .ok (.getfield 21, 3) := by decide +kernel
theorem dX5_copyFrom_32 : decode cX5_copyFrom 32 = .ok (.iconst 0, 1) := by decide +kernel
theorem dX5_copyFrom_33 : decode cX5_copyFrom 33 = .ok (.sipush 168, 3) := by decide +kernel
theorem dX5_copyFrom_36 : decode cX5_copyFrom 36 = .ok (.invokestatic 24, 3) := by decide +kernel
theorem dX5_copyFrom_39 : decode cX5_copyFrom 39 = .ok (.return_, 1) := by decide +kernel
theorem eX5_copyFrom_12_46 {l : Launch} {g : jm_G} {d : Nat} (hg : jm_HC g) {mu : jm_M} {Q : Option Value → jm_M → Prop} (h : ∀ m1, m1 = jm_wr mu 12 0 (mu.1 46 0) → ∀ m3, m3 = jm_cp m1 47 0 13 0 24 → ∀ m5, m5 = jm_cp m3 48 0 14 0 168 → Q none m5) : jm_R l g (d + 1) iX5_copyFrom [.ref 12, .ref 46] mu Q := by
  refine jm_enter [(0, .ref 12), (1, .ref 46)] (by decide) (Nat.le_of_ble_eq_true rfl) rfl ?_
  refine jm_mrI (fun hm0 => ?_)
  refine jm_aload_n (pc := 0) 0 dX5_copyFrom_0 rfl ?_
  refine jm_aload_n (pc := 1) 1 dX5_copyFrom_1 rfl ?_
  refine jm_geti (pc := 2) 0 dX5_copyFrom_2 fX5_11 (cC46 hg) rfl ?_
  refine jm_put (pc := 5) 0 dX5_copyFrom_5 fX5_11 ftX5 (fun q h => by cases h; rfl) (jm_nI _) (jm_fI _) (cC12 hg) rfl (hm0 _ _) ?_
  have h := h _ rfl
  refine jm_mrI (fun hm2 => ?_)
  refine jm_aload_n (pc := 8) 1 dX5_copyFrom_8 rfl ?_
  refine jm_getr (pc := 9) 1 dX5_copyFrom_9 fX5_17 (cC46 hg) rfl ?_
  refine jm_iconst (pc := 12) dX5_copyFrom_12 ?_
  refine jm_aload_n (pc := 13) 0 dX5_copyFrom_13 rfl ?_
  refine jm_getr (pc := 14) 1 dX5_copyFrom_14 fX5_17 (cC12 hg) rfl ?_
  refine jm_iconst (pc := 17) dX5_copyFrom_17 ?_
  refine jm_bipush (pc := 18) dX5_copyFrom_18 (by decide) ?_
  refine jm_copy (pc := 20) dX5_copyFrom_20 mX5_24 (cC47 hg) (cC13 hg) (by decide) (by decide) (by decide) (by decide) (by decide) (by decide) (by decide) (Nat.le_of_ble_eq_true rfl) ?_
  have h := h _ rfl
  refine jm_mrI (fun hm4 => ?_)
  refine jm_aload_n (pc := 23) 1 dX5_copyFrom_23 rfl ?_
  refine jm_getr (pc := 24) 2 dX5_copyFrom_24 fX5_21 (cC46 hg) rfl ?_
  refine jm_iconst (pc := 27) dX5_copyFrom_27 ?_
  refine jm_aload_n (pc := 28) 0 dX5_copyFrom_28 rfl ?_
  refine jm_getr (pc := 29) 2 dX5_copyFrom_29 fX5_21 (cC12 hg) rfl ?_
  refine jm_iconst (pc := 32) dX5_copyFrom_32 ?_
  refine jm_sipush (pc := 33) dX5_copyFrom_33 (by decide) ?_
  refine jm_copy (pc := 36) dX5_copyFrom_36 mX5_24 (cC48 hg) (cC14 hg) (by decide) (by decide) (by decide) (by decide) (by decide) (by decide) (by decide) (Nat.le_of_ble_eq_true rfl) ?_
  have h := h _ rfl
  refine jm_mrI (fun hm6 => ?_)
  exact jm_vret (pc := 39) dX5_copyFrom_39 rfl h
theorem pX5_copyFrom_12_46 {l : Launch} {g : jm_G} {d : Nat} (hg : jm_HC g) {mu : jm_M} {Q : Option Value → jm_M → Prop} (h : Q none (jm_cp (jm_cp (jm_wr mu 12 0 (mu.1 46 0)) 47 0 13 0 24) 48 0 14 0 168)) : jm_R l g (d + 1) iX5_copyFrom [.ref 12, .ref 46] mu Q := by
  refine eX5_copyFrom_12_46 hg ?_
  intro x hx
  subst hx
  intro x hx
  subst hx
  intro x hx
  subst hx
  exact h
theorem dX11_adoptMotives_0 : decode cX11_adoptMotives 0 = .ok (.aload_n 0, 1) := by decide +kernel
theorem dX11_adoptMotives_1 : decode cX11_adoptMotives 1 = .ok (.getfield 19, 3) := by decide +kernel
theorem dX11_adoptMotives_4 : decode cX11_adoptMotives 4 = .ok (.getfield 269, 3) := by decide +kernel
theorem dX11_adoptMotives_7 : decode cX11_adoptMotives 7 = .ok (.aload_n 0, 1) := by decide +kernel
theorem dX11_adoptMotives_8 : decode cX11_adoptMotives 8 = .ok (.getfield 65, 3) := by decide +kernel
theorem dX11_adoptMotives_11 : decode cX11_adoptMotives 11 = .ok (.invokevirtual 375, 3) := by decide +kernel
theorem dX11_adoptMotives_14 : decode cX11_adoptMotives 14 = .ok (.aload_n 0, 1) := by decide +kernel
theorem dX11_adoptMotives_15 : decode cX11_adoptMotives 15 = .ok (.invokevirtual 116, 3) := by decide +kernel
theorem dX11_adoptMotives_18 : decode cX11_adoptMotives 18 = .ok (.aload_n 0, 1) := by decide +kernel
theorem dX11_adoptMotives_19 : decode cX11_adoptMotives 19 = .ok (.getfield 65, 3) := by decide +kernel
theorem dX11_adoptMotives_22 : decode cX11_adoptMotives 22 = .ok (.getfield 358, 3) := by decide +kernel
theorem dX11_adoptMotives_25 : decode cX11_adoptMotives 25 = .ok (.ireturn, 1) := by decide +kernel
theorem eX11_adoptMotives {l : Launch} {g : jm_G} {d : Nat} (hg : jm_HC g) {mu : jm_M} {Q : Option Value → jm_M → Prop} (h : ∀ m1, m1 = (jm_cp (jm_cp (jm_wr mu 12 0 (mu.1 46 0)) 47 0 13 0 24) 48 0 14 0 168) → ∀ m3, m3 = (jm_wr (jm_wr m1 0 15 0) 0 16 0) → Q (some (jm_i (m3.1 46 0))) m3) : jm_R l g (d + 2) iX11_adoptMotives [.ref 0] mu Q := by
  refine jm_enter [(0, .ref 0)] (by decide) (Nat.le_of_ble_eq_true rfl) rfl ?_
  refine jm_mrI (fun hm0 => ?_)
  refine jm_aload_n (pc := 0) 0 dX11_adoptMotives_0 rfl ?_
  refine jm_getr (pc := 1) 1 dX11_adoptMotives_1 fX11_19 (cC0 hg) rfl ?_
  refine jm_getr (pc := 4) 10 dX11_adoptMotives_4 fX11_269 (cC6 hg) rfl ?_
  refine jm_aload_n (pc := 7) 0 dX11_adoptMotives_7 rfl ?_
  refine jm_getr (pc := 8) 7 dX11_adoptMotives_8 fX11_65 (cC0 hg) rfl ?_
  refine jm_inlvv (pc := 11) (As := [_]) (st := []) iX5_copyFrom dX11_adoptMotives_11 mX11_375 (cC12 hg) ⟨_, rfl, rfl⟩ rfl rfl (Nat.le_of_ble_eq_true rfl) (pX5_copyFrom_12_46 hg  (jm_kVi ?_))
  have h := h _ rfl
  refine jm_mrI (fun hm2 => ?_)
  refine jm_aload_n (pc := 14) 0 dX11_adoptMotives_14 rfl ?_
  refine jm_inlvv (pc := 15) (As := []) (st := []) iX11_forgetDeeds dX11_adoptMotives_15 mX11_116 (cC0 hg) ⟨_, rfl, rfl⟩ rfl rfl (Nat.le_of_ble_eq_true rfl) (pX11_forgetDeeds hg  (jm_kVi ?_))
  have h := h _ rfl
  refine jm_mrI (fun hm4 => ?_)
  refine jm_aload_n (pc := 18) 0 dX11_adoptMotives_18 rfl ?_
  refine jm_getr (pc := 19) 7 dX11_adoptMotives_19 fX11_65 (cC0 hg) rfl ?_
  refine jm_geti (pc := 22) 0 dX11_adoptMotives_22 fX11_358 (cC46 hg) rfl ?_
  exact jm_iret (pc := 25) dX11_adoptMotives_25 rfl h
theorem pX11_adoptMotives {l : Launch} {g : jm_G} {d : Nat} (hg : jm_HC g) {mu : jm_M} {Q : Option Value → jm_M → Prop} (h : Q (some (jm_i (((jm_wr (jm_wr ((jm_cp (jm_cp (jm_wr mu 12 0 (mu.1 46 0)) 47 0 13 0 24) 48 0 14 0 168)) 0 15 0) 0 16 0)).1 46 0))) ((jm_wr (jm_wr ((jm_cp (jm_cp (jm_wr mu 12 0 (mu.1 46 0)) 47 0 13 0 24) 48 0 14 0 168)) 0 15 0) 0 16 0))) : jm_R l g (d + 2) iX11_adoptMotives [.ref 0] mu Q := by
  refine eX11_adoptMotives hg ?_
  intro x hx
  subst hx
  intro x hx
  subst hx
  exact h
theorem dX6_copyFrom_0 : decode cX6_copyFrom 0 = .ok (.aload_n 0, 1) := by decide +kernel
theorem dX6_copyFrom_1 : decode cX6_copyFrom 1 = .ok (.aload_n 1, 1) := by decide +kernel
theorem dX6_copyFrom_2 : decode cX6_copyFrom 2 = .ok (.getfield 11, 3) := by decide +kernel
theorem dX6_copyFrom_5 : decode cX6_copyFrom 5 = .ok (.putfield 11, 3) := by decide +kernel
theorem dX6_copyFrom_8 : decode cX6_copyFrom 8 = .ok (.aload_n 1, 1) := by decide +kernel
theorem dX6_copyFrom_9 : decode cX6_copyFrom 9 = .ok (.getfield 17, 3) := by decide +kernel
theorem dX6_copyFrom_12 : decode cX6_copyFrom 12 = .ok (.iconst 0, 1) := by decide +kernel
theorem dX6_copyFrom_13 : decode cX6_copyFrom 13 = .ok (.aload_n 0, 1) := by decide +kernel
theorem dX6_copyFrom_14 : decode cX6_copyFrom 14 = .ok (.getfield 17, 3) := by decide +kernel
theorem dX6_copyFrom_17 : decode cX6_copyFrom 17 = .ok (.iconst 0, 1) := by decide +kernel
theorem dX6_copyFrom_18 : decode cX6_copyFrom 18 = .ok (.bipush 60, 2) := by decide +kernel
theorem dX6_copyFrom_20 : decode cX6_copyFrom 20 = .ok (.invokestatic 39, 3) := by decide +kernel
theorem dX6_copyFrom_23 : decode cX6_copyFrom 23 = .ok (.aload_n 1, 1) := by decide +kernel
theorem dX6_copyFrom_24 : decode cX6_copyFrom 24 = .ok (.getfield 21, 3) := by decide +kernel
theorem dX6_copyFrom_27 : decode cX6_copyFrom 27 = .ok (.iconst 0, 1) := by decide +kernel
theorem dX6_copyFrom_28 : decode cX6_copyFrom 28 = .ok (.aload_n 0, 1) := by decide +kernel
theorem dX6_copyFrom_29 : decode cX6_copyFrom 29 = .ok (.getfield 21, 3) := by decide +kernel
theorem dX6_copyFrom_32 : decode cX6_copyFrom 32 = .ok (.iconst 0, 1) := by decide +kernel
theorem dX6_copyFrom_33 : decode cX6_copyFrom 33 = .ok (.bipush 60, 2) := by decide +kernel
theorem dX6_copyFrom_35 : decode cX6_copyFrom 35 = .ok (.invokestatic 39, 3) := by decide +kernel
theorem dX6_copyFrom_38 : decode cX6_copyFrom 38 = .ok (.aload_n 1, 1) := by decide +kernel
theorem dX6_copyFrom_39 : decode cX6_copyFrom 39 = .ok (.getfield 24, 3) := by decide +kernel
theorem dX6_copyFrom_42 : decode cX6_copyFrom 42 = .ok (.iconst 0, 1) := by decide +kernel
theorem dX6_copyFrom_43 : decode cX6_copyFrom 43 = .ok (.aload_n 0, 1) := by decide +kernel
theorem dX6_copyFrom_44 : decode cX6_copyFrom 44 = .ok (.getfield 24, 3) := by decide +kernel
theorem dX6_copyFrom_47 : decode cX6_copyFrom 47 = .ok (.iconst 0, 1) := by decide +kernel
theorem dX6_copyFrom_48 : decode cX6_copyFrom 48 = .ok (.bipush 60, 2) := by decide +kernel
theorem dX6_copyFrom_50 : decode cX6_copyFrom 50 = .ok (.invokestatic 39, 3) := by decide +kernel
theorem dX6_copyFrom_53 : decode cX6_copyFrom 53 = .ok (.aload_n 1, 1) := by decide +kernel
theorem dX6_copyFrom_54 : decode cX6_copyFrom 54 = .ok (.getfield 27, 3) := by decide +kernel
theorem dX6_copyFrom_57 : decode cX6_copyFrom 57 = .ok (.iconst 0, 1) := by decide +kernel
theorem dX6_copyFrom_58 : decode cX6_copyFrom 58 = .ok (.aload_n 0, 1) := by decide +kernel
theorem dX6_copyFrom_59 : decode cX6_copyFrom 59 = .ok (.getfield 27, 3) := by decide +kernel
theorem dX6_copyFrom_62 : decode cX6_copyFrom 62 = .ok (.iconst 0, 1) := by decide +kernel
theorem dX6_copyFrom_63 : decode cX6_copyFrom 63 = .ok (.bipush 60, 2) := by decide +kernel
theorem dX6_copyFrom_65 : decode cX6_copyFrom 65 = .ok (.invokestatic 39, 3) := by decide +kernel
theorem dX6_copyFrom_68 : decode cX6_copyFrom 68 = .ok (.return_, 1) := by decide +kernel
theorem eX6_copyFrom_22_56 {l : Launch} {g : jm_G} {d : Nat} (hg : jm_HC g) {mu : jm_M} {Q : Option Value → jm_M → Prop} (h : ∀ m1, m1 = jm_wr mu 22 0 (mu.1 56 0) → ∀ m3, m3 = jm_cp m1 57 0 23 0 60 → ∀ m5, m5 = jm_cp m3 58 0 24 0 60 → ∀ m7, m7 = jm_cp m5 59 0 25 0 60 → ∀ m9, m9 = jm_cp m7 60 0 26 0 60 → Q none m9) : jm_R l g (d + 1) iX6_copyFrom [.ref 22, .ref 56] mu Q := by
  refine jm_enter [(0, .ref 22), (1, .ref 56)] (by decide) (Nat.le_of_ble_eq_true rfl) rfl ?_
  refine jm_mrI (fun hm0 => ?_)
  refine jm_aload_n (pc := 0) 0 dX6_copyFrom_0 rfl ?_
  refine jm_aload_n (pc := 1) 1 dX6_copyFrom_1 rfl ?_
  refine jm_geti (pc := 2) 0 dX6_copyFrom_2 fX6_11 (cC56 hg) rfl ?_
  refine jm_put (pc := 5) 0 dX6_copyFrom_5 fX6_11 ftX6 (fun q h => by cases h; rfl) (jm_nI _) (jm_fI _) (cC22 hg) rfl (hm0 _ _) ?_
  have h := h _ rfl
  refine jm_mrI (fun hm2 => ?_)
  refine jm_aload_n (pc := 8) 1 dX6_copyFrom_8 rfl ?_
  refine jm_getr (pc := 9) 1 dX6_copyFrom_9 fX6_17 (cC56 hg) rfl ?_
  refine jm_iconst (pc := 12) dX6_copyFrom_12 ?_
  refine jm_aload_n (pc := 13) 0 dX6_copyFrom_13 rfl ?_
  refine jm_getr (pc := 14) 1 dX6_copyFrom_14 fX6_17 (cC22 hg) rfl ?_
  refine jm_iconst (pc := 17) dX6_copyFrom_17 ?_
  refine jm_bipush (pc := 18) dX6_copyFrom_18 (by decide) ?_
  refine jm_copy (pc := 20) dX6_copyFrom_20 mX6_39 (cC57 hg) (cC23 hg) (by decide) (by decide) (by decide) (by decide) (by decide) (by decide) (by decide) (Nat.le_of_ble_eq_true rfl) ?_
  have h := h _ rfl
  refine jm_mrI (fun hm4 => ?_)
  refine jm_aload_n (pc := 23) 1 dX6_copyFrom_23 rfl ?_
  refine jm_getr (pc := 24) 2 dX6_copyFrom_24 fX6_21 (cC56 hg) rfl ?_
  refine jm_iconst (pc := 27) dX6_copyFrom_27 ?_
  refine jm_aload_n (pc := 28) 0 dX6_copyFrom_28 rfl ?_
  refine jm_getr (pc := 29) 2 dX6_copyFrom_29 fX6_21 (cC22 hg) rfl ?_
  refine jm_iconst (pc := 32) dX6_copyFrom_32 ?_
  refine jm_bipush (pc := 33) dX6_copyFrom_33 (by decide) ?_
  refine jm_copy (pc := 35) dX6_copyFrom_35 mX6_39 (cC58 hg) (cC24 hg) (by decide) (by decide) (by decide) (by decide) (by decide) (by decide) (by decide) (Nat.le_of_ble_eq_true rfl) ?_
  have h := h _ rfl
  refine jm_mrI (fun hm6 => ?_)
  refine jm_aload_n (pc := 38) 1 dX6_copyFrom_38 rfl ?_
  refine jm_getr (pc := 39) 3 dX6_copyFrom_39 fX6_24 (cC56 hg) rfl ?_
  refine jm_iconst (pc := 42) dX6_copyFrom_42 ?_
  refine jm_aload_n (pc := 43) 0 dX6_copyFrom_43 rfl ?_
  refine jm_getr (pc := 44) 3 dX6_copyFrom_44 fX6_24 (cC22 hg) rfl ?_
  refine jm_iconst (pc := 47) dX6_copyFrom_47 ?_
  refine jm_bipush (pc := 48) dX6_copyFrom_48 (by decide) ?_
  refine jm_copy (pc := 50) dX6_copyFrom_50 mX6_39 (cC59 hg) (cC25 hg) (by decide) (by decide) (by decide) (by decide) (by decide) (by decide) (by decide) (Nat.le_of_ble_eq_true rfl) ?_
  have h := h _ rfl
  refine jm_mrI (fun hm8 => ?_)
  refine jm_aload_n (pc := 53) 1 dX6_copyFrom_53 rfl ?_
  refine jm_getr (pc := 54) 4 dX6_copyFrom_54 fX6_27 (cC56 hg) rfl ?_
  refine jm_iconst (pc := 57) dX6_copyFrom_57 ?_
  refine jm_aload_n (pc := 58) 0 dX6_copyFrom_58 rfl ?_
  refine jm_getr (pc := 59) 4 dX6_copyFrom_59 fX6_27 (cC22 hg) rfl ?_
  refine jm_iconst (pc := 62) dX6_copyFrom_62 ?_
  refine jm_bipush (pc := 63) dX6_copyFrom_63 (by decide) ?_
  refine jm_copy (pc := 65) dX6_copyFrom_65 mX6_39 (cC60 hg) (cC26 hg) (by decide) (by decide) (by decide) (by decide) (by decide) (by decide) (by decide) (Nat.le_of_ble_eq_true rfl) ?_
  have h := h _ rfl
  refine jm_mrI (fun hm10 => ?_)
  exact jm_vret (pc := 68) dX6_copyFrom_68 rfl h
theorem dX11_adoptPlan_0 : decode cX11_adoptPlan 0 = .ok (.aload_n 0, 1) := by decide +kernel
theorem dX11_adoptPlan_1 : decode cX11_adoptPlan 1 = .ok (.getfield 19, 3) := by decide +kernel
theorem dX11_adoptPlan_4 : decode cX11_adoptPlan 4 = .ok (.getfield 232, 3) := by decide +kernel
theorem dX11_adoptPlan_7 : decode cX11_adoptPlan 7 = .ok (.aload_n 0, 1) := by decide +kernel
theorem dX11_adoptPlan_8 : decode cX11_adoptPlan 8 = .ok (.getfield 79, 3) := by decide +kernel
theorem dX11_adoptPlan_11 : decode cX11_adoptPlan 11 = .ok (.invokevirtual 381, 3) := by decide +kernel
theorem dX11_adoptPlan_14 : decode cX11_adoptPlan 14 = .ok (.aload_n 0, 1) := by decide +kernel
theorem dX11_adoptPlan_15 : decode cX11_adoptPlan 15 = .ok (.invokevirtual 116, 3) := by decide +kernel
theorem dX11_adoptPlan_18 : decode cX11_adoptPlan 18 = .ok (.aload_n 0, 1) := by decide +kernel
theorem dX11_adoptPlan_19 : decode cX11_adoptPlan 19 = .ok (.getfield 79, 3) := by decide +kernel
theorem dX11_adoptPlan_22 : decode cX11_adoptPlan 22 = .ok (.getfield 363, 3) := by decide +kernel
theorem dX11_adoptPlan_25 : decode cX11_adoptPlan 25 = .ok (.ireturn, 1) := by decide +kernel
theorem eX11_adoptPlan {l : Launch} {g : jm_G} {d : Nat} (hg : jm_HC g) {mu : jm_M} {Q : Option Value → jm_M → Prop} (h : jm_R l g (d + 1) iX6_copyFrom [.ref 22, .ref 56] mu (jm_qv fun m1 => ∀ m5, m5 = (jm_wr (jm_wr m1 0 15 0) 0 16 0) → Q (some (jm_i (m5.1 56 0))) m5)) : jm_R l g (d + 2) iX11_adoptPlan [.ref 0] mu Q := by
  refine jm_enter [(0, .ref 0)] (by decide) (Nat.le_of_ble_eq_true rfl) rfl ?_
  refine jm_mrI (fun hm0 => ?_)
  refine jm_aload_n (pc := 0) 0 dX11_adoptPlan_0 rfl ?_
  refine jm_getr (pc := 1) 1 dX11_adoptPlan_1 fX11_19 (cC0 hg) rfl ?_
  refine jm_getr (pc := 4) 12 dX11_adoptPlan_4 fX11_232 (cC6 hg) rfl ?_
  refine jm_aload_n (pc := 7) 0 dX11_adoptPlan_7 rfl ?_
  refine jm_getr (pc := 8) 9 dX11_adoptPlan_8 fX11_79 (cC0 hg) rfl ?_
  refine jm_callvv (pc := 11) (As := [_]) (st := []) iX6_copyFrom dX11_adoptPlan_11 mX11_381 (cC22 hg) ⟨_, rfl, rfl⟩ rfl rfl (Nat.le_of_ble_eq_true rfl) h (fun m1 h hm4 => ?_)
  refine jm_aload_n (pc := 14) 0 dX11_adoptPlan_14 rfl ?_
  refine jm_inlvv (pc := 15) (As := []) (st := []) iX11_forgetDeeds dX11_adoptPlan_15 mX11_116 (cC0 hg) ⟨_, rfl, rfl⟩ rfl rfl (Nat.le_of_ble_eq_true rfl) (pX11_forgetDeeds hg  (jm_kVi ?_))
  have h := h _ rfl
  refine jm_mrI (fun hm6 => ?_)
  refine jm_aload_n (pc := 18) 0 dX11_adoptPlan_18 rfl ?_
  refine jm_getr (pc := 19) 9 dX11_adoptPlan_19 fX11_79 (cC0 hg) rfl ?_
  refine jm_geti (pc := 22) 0 dX11_adoptPlan_22 fX11_363 (cC56 hg) rfl ?_
  exact jm_iret (pc := 25) dX11_adoptPlan_25 rfl h
theorem dX3_clear_0 : decode cX3_clear 0 = .ok (.aload_n 0, 1) := by decide +kernel
theorem dX3_clear_1 : decode cX3_clear 1 = .ok (.iconst 0, 1) := by decide +kernel
theorem dX3_clear_2 : decode cX3_clear 2 = .ok (.putfield 9, 3) := by decide +kernel
theorem dX3_clear_5 : decode cX3_clear 5 = .ok (.aload_n 0, 1) := by decide +kernel
theorem dX3_clear_6 : decode cX3_clear 6 = .ok (.iconst 0, 1) := by decide +kernel
theorem dX3_clear_7 : decode cX3_clear 7 = .ok (.putfield 15, 3) := by decide +kernel
theorem dX3_clear_10 : decode cX3_clear 10 = .ok (.return_, 1) := by decide +kernel
theorem eX3_clear {l : Launch} {g : jm_G} {d : Nat} (hg : jm_HC g) {mu : jm_M} {Q : Option Value → jm_M → Prop} (h : ∀ m1, m1 = jm_wr mu 49 0 0 → ∀ m3, m3 = jm_wr m1 49 1 0 → Q none m3) : jm_R l g (d + 1) iX3_clear [.ref 49] mu Q := by
  refine jm_enter [(0, .ref 49)] (by decide) (Nat.le_of_ble_eq_true rfl) rfl ?_
  refine jm_mrI (fun hm0 => ?_)
  refine jm_aload_n (pc := 0) 0 dX3_clear_0 rfl ?_
  refine jm_iconst (pc := 1) dX3_clear_1 ?_
  refine jm_put (pc := 2) 0 dX3_clear_2 fX3_9 ftX3 (fun q h => by cases h; rfl) (jm_nI _) (jm_fI _) (cC49 hg) rfl ⟨by decide, by decide⟩ ?_
  have h := h _ rfl
  refine jm_mrI (fun hm2 => ?_)
  refine jm_aload_n (pc := 5) 0 dX3_clear_5 rfl ?_
  refine jm_iconst (pc := 6) dX3_clear_6 ?_
  refine jm_put (pc := 7) 1 dX3_clear_7 fX3_15 ftX3 (fun q h => by cases h; rfl) (jm_nI _) (jm_fI _) (cC49 hg) rfl ⟨by decide, by decide⟩ ?_
  have h := h _ rfl
  refine jm_mrI (fun hm4 => ?_)
  exact jm_vret (pc := 10) dX3_clear_10 rfl h
theorem pX3_clear {l : Launch} {g : jm_G} {d : Nat} (hg : jm_HC g) {mu : jm_M} {Q : Option Value → jm_M → Prop} (h : Q none (jm_wr (jm_wr mu 49 0 0) 49 1 0)) : jm_R l g (d + 1) iX3_clear [.ref 49] mu Q := by
  refine eX3_clear hg ?_
  intro x hx
  subst hx
  intro x hx
  subst hx
  exact h
theorem dX3_closeLine_0 : decode cX3_closeLine 0 = .ok (.aload_n 0, 1) := by decide +kernel
theorem dX3_closeLine_1 : decode cX3_closeLine 1 = .ok (.getfield 9, 3) := by decide +kernel
theorem dX3_closeLine_4 : decode cX3_closeLine 4 = .ok (.bipush 16, 2) := by decide +kernel
theorem dX3_closeLine_6 : decode cX3_closeLine 6 = .ok (.if_icmp .ge 26, 3) := by decide +kernel
theorem dX3_closeLine_9 : decode cX3_closeLine 9 = .ok (.aload_n 0, 1) := by decide +kernel
theorem dX3_closeLine_10 : decode cX3_closeLine 10 = .ok (.getfield 31, 3) := by decide +kernel
theorem dX3_closeLine_13 : decode cX3_closeLine 13 = .ok (.aload_n 0, 1) := by decide +kernel
theorem dX3_closeLine_14 : decode cX3_closeLine 14 = .ok (.getfield 9, 3) := by decide +kernel
theorem dX3_closeLine_17 : decode cX3_closeLine 17 = .ok (.aload_n 0, 1) := by decide +kernel
theorem dX3_closeLine_18 : decode cX3_closeLine 18 = .ok (.getfield 15, 3) := by decide +kernel
theorem dX3_closeLine_21 : decode cX3_closeLine 21 = .ok (.iastore, 1) := by decide +kernel
theorem dX3_closeLine_22 : decode cX3_closeLine 22 = .ok (.aload_n 0, 1) := by decide +kernel
theorem dX3_closeLine_23 : decode cX3_closeLine 23 = .ok (.dup, 1) := by decide +kernel
theorem dX3_closeLine_24 : decode cX3_closeLine 24 = .ok (.getfield 9, 3) := by decide +kernel
theorem dX3_closeLine_27 : decode cX3_closeLine 27 = .ok (.iconst 1, 1) := by decide +kernel
theorem dX3_closeLine_28 : decode cX3_closeLine 28 = .ok (.iadd, 1) := by decide +kernel
theorem dX3_closeLine_29 : decode cX3_closeLine 29 = .ok (.putfield 9, 3) := by decide +kernel
theorem dX3_closeLine_32 : decode cX3_closeLine 32 = .ok (.return_, 1) := by decide +kernel
theorem eX3_closeLine {l : Launch} {g : jm_G} {d : Nat} (hg : jm_HC g) {mu : jm_M} {Q : Option Value → jm_M → Prop} (h : (16 ≤ (mu.1 49 0) → Q none mu) ∧ ((mu.1 49 0) < 16 → (0 ≤ (mu.1 49 0) ∧ (mu.1 49 0) < 16) ∧ ∀ m2, m2 = jm_wr mu 54 (mu.1 49 0) (mu.1 49 1) → jm_rg ((m2.1 49 0) + 1) ∧ ∀ m5, m5 = jm_wr m2 49 0 ((m2.1 49 0) + 1) → Q none m5)) : jm_R l g (d + 1) iX3_closeLine [.ref 49] mu Q := by
  refine jm_enter [(0, .ref 49)] (by decide) (Nat.le_of_ble_eq_true rfl) rfl ?_
  refine jm_mrI (fun hm0 => ?_)
  refine jm_aload_n (pc := 0) 0 dX3_closeLine_0 rfl ?_
  refine jm_geti (pc := 1) 0 dX3_closeLine_1 fX3_9 (cC49 hg) rfl ?_
  refine jm_bipush (pc := 4) dX3_closeLine_4 (by decide) ?_
  refine jm_icmp_ge (pc := 6) 32 dX3_closeLine_6 rfl (hm0 _ _) ⟨by decide, by decide⟩ (fun q => ?_) (fun q => ?_)
  · have h := h.1 q
    exact jm_vret (pc := 32) dX3_closeLine_32 rfl h
  · have h := h.2 q
    refine jm_aload_n (pc := 9) 0 dX3_closeLine_9 rfl ?_
    refine jm_getr (pc := 10) 6 dX3_closeLine_10 fX3_31 (cC49 hg) rfl ?_
    refine jm_aload_n (pc := 13) 0 dX3_closeLine_13 rfl ?_
    refine jm_geti (pc := 14) 0 dX3_closeLine_14 fX3_9 (cC49 hg) rfl ?_
    refine jm_aload_n (pc := 17) 0 dX3_closeLine_17 rfl ?_
    refine jm_geti (pc := 18) 1 dX3_closeLine_18 fX3_15 (cC49 hg) rfl ?_
    have hg1 := h.1
    have h := h.2
    refine jm_iast (pc := 21) dX3_closeLine_21 (cC54 hg) (by decide) hg1.1 hg1.2 (hm0 _ _) ?_
    have h := h _ rfl
    refine jm_mrI (fun hm3 => ?_)
    refine jm_aload_n (pc := 22) 0 dX3_closeLine_22 rfl ?_
    refine jm_dup (pc := 23) _ dX3_closeLine_23 rfl ?_
    refine jm_geti (pc := 24) 0 dX3_closeLine_24 fX3_9 (cC49 hg) rfl ?_
    refine jm_iconst (pc := 27) dX3_closeLine_27 ?_
    refine jm_iadd (pc := 28) dX3_closeLine_28 ?_
    have hg4 := h.1
    have h := h.2
    refine jm_put (pc := 29) 0 dX3_closeLine_29 fX3_9 ftX3 (fun q h => by cases h; rfl) (jm_nI _) (jm_fI _) (cC49 hg) rfl hg4 ?_
    have h := h _ rfl
    refine jm_mrI (fun hm6 => ?_)
    exact jm_vret (pc := 32) dX3_closeLine_32 rfl h
theorem dX3_openCondition_0 : decode cX3_openCondition 0 = .ok (.aload_n 0, 1) := by decide +kernel
theorem dX3_openCondition_1 : decode cX3_openCondition 1 = .ok (.getfield 9, 3) := by decide +kernel
theorem dX3_openCondition_4 : decode cX3_openCondition 4 = .ok (.bipush 16, 2) := by decide +kernel
theorem dX3_openCondition_6 : decode cX3_openCondition 6 = .ok (.if_icmp .ge 16, 3) := by decide +kernel
theorem dX3_openCondition_9 : decode cX3_openCondition 9 = .ok (.aload_n 0, 1) := by decide +kernel
theorem dX3_openCondition_10 : decode cX3_openCondition 10 = .ok (.getfield 28, 3) := by decide +kernel
theorem dX3_openCondition_13 : decode cX3_openCondition 13 = .ok (.aload_n 0, 1) := by decide +kernel
theorem dX3_openCondition_14 : decode cX3_openCondition 14 = .ok (.getfield 9, 3) := by decide +kernel
theorem dX3_openCondition_17 : decode cX3_openCondition 17 = .ok (.aload_n 0, 1) := by decide +kernel
theorem dX3_openCondition_18 : decode cX3_openCondition 18 = .ok (.getfield 15, 3) := by decide +kernel
theorem dX3_openCondition_21 : decode cX3_openCondition 21 = .ok (.iastore, 1) := by decide +kernel
theorem dX3_openCondition_22 : decode cX3_openCondition 22 = .ok (.return_, 1) := by decide +kernel
theorem eX3_openCondition {l : Launch} {g : jm_G} {d : Nat} (hg : jm_HC g) {mu : jm_M} {Q : Option Value → jm_M → Prop} (h : (16 ≤ (mu.1 49 0) → Q none mu) ∧ ((mu.1 49 0) < 16 → (0 ≤ (mu.1 49 0) ∧ (mu.1 49 0) < 16) ∧ ∀ m2, m2 = jm_wr mu 53 (mu.1 49 0) (mu.1 49 1) → Q none m2)) : jm_R l g (d + 1) iX3_openCondition [.ref 49] mu Q := by
  refine jm_enter [(0, .ref 49)] (by decide) (Nat.le_of_ble_eq_true rfl) rfl ?_
  refine jm_mrI (fun hm0 => ?_)
  refine jm_aload_n (pc := 0) 0 dX3_openCondition_0 rfl ?_
  refine jm_geti (pc := 1) 0 dX3_openCondition_1 fX3_9 (cC49 hg) rfl ?_
  refine jm_bipush (pc := 4) dX3_openCondition_4 (by decide) ?_
  refine jm_icmp_ge (pc := 6) 22 dX3_openCondition_6 rfl (hm0 _ _) ⟨by decide, by decide⟩ (fun q => ?_) (fun q => ?_)
  · have h := h.1 q
    exact jm_vret (pc := 22) dX3_openCondition_22 rfl h
  · have h := h.2 q
    refine jm_aload_n (pc := 9) 0 dX3_openCondition_9 rfl ?_
    refine jm_getr (pc := 10) 5 dX3_openCondition_10 fX3_28 (cC49 hg) rfl ?_
    refine jm_aload_n (pc := 13) 0 dX3_openCondition_13 rfl ?_
    refine jm_geti (pc := 14) 0 dX3_openCondition_14 fX3_9 (cC49 hg) rfl ?_
    refine jm_aload_n (pc := 17) 0 dX3_openCondition_17 rfl ?_
    refine jm_geti (pc := 18) 1 dX3_openCondition_18 fX3_15 (cC49 hg) rfl ?_
    have hg1 := h.1
    have h := h.2
    refine jm_iast (pc := 21) dX3_openCondition_21 (cC53 hg) (by decide) hg1.1 hg1.2 (hm0 _ _) ?_
    have h := h _ rfl
    refine jm_mrI (fun hm3 => ?_)
    exact jm_vret (pc := 22) dX3_openCondition_22 rfl h
theorem dX3_openLine_0 : decode cX3_openLine 0 = .ok (.aload_n 0, 1) := by decide +kernel
theorem dX3_openLine_1 : decode cX3_openLine 1 = .ok (.getfield 9, 3) := by decide +kernel
theorem dX3_openLine_4 : decode cX3_openLine 4 = .ok (.bipush 16, 2) := by decide +kernel
theorem dX3_openLine_6 : decode cX3_openLine 6 = .ok (.if_icmp .ge 26, 3) := by decide +kernel
theorem dX3_openLine_9 : decode cX3_openLine 9 = .ok (.aload_n 0, 1) := by decide +kernel
theorem dX3_openLine_10 : decode cX3_openLine 10 = .ok (.getfield 22, 3) := by decide +kernel
theorem dX3_openLine_13 : decode cX3_openLine 13 = .ok (.aload_n 0, 1) := by decide +kernel
theorem dX3_openLine_14 : decode cX3_openLine 14 = .ok (.getfield 9, 3) := by decide +kernel
theorem dX3_openLine_17 : decode cX3_openLine 17 = .ok (.iload_n 1, 1) := by decide +kernel
theorem dX3_openLine_18 : decode cX3_openLine 18 = .ok (.iastore, 1) := by decide +kernel
theorem dX3_openLine_19 : decode cX3_openLine 19 = .ok (.aload_n 0, 1) := by decide +kernel
theorem dX3_openLine_20 : decode cX3_openLine 20 = .ok (.getfield 25, 3) := by decide +kernel
theorem dX3_openLine_23 : decode cX3_openLine 23 = .ok (.aload_n 0, 1) := by decide +kernel
theorem dX3_openLine_24 : decode cX3_openLine 24 = .ok (.getfield 9, 3) := by decide +kernel
theorem dX3_openLine_27 : decode cX3_openLine 27 = .ok (.aload_n 0, 1) := by decide +kernel
theorem dX3_openLine_28 : decode cX3_openLine 28 = .ok (.getfield 15, 3) := by decide +kernel
theorem dX3_openLine_31 : decode cX3_openLine 31 = .ok (.iastore, 1) := by decide +kernel
theorem dX3_openLine_32 : decode cX3_openLine 32 = .ok (.return_, 1) := by decide +kernel
theorem eX3_openLine {l : Launch} {g : jm_G} {d : Nat} {v1 : Int} (hg : jm_HC g) {mu : jm_M} {Q : Option Value → jm_M → Prop} (h : (16 ≤ (mu.1 49 0) → Q none mu) ∧ ((mu.1 49 0) < 16 → (0 ≤ (mu.1 49 0) ∧ (mu.1 49 0) < 16) ∧ jm_rg v1 ∧ ∀ m3, m3 = jm_wr mu 51 (mu.1 49 0) v1 → (0 ≤ (m3.1 49 0) ∧ (m3.1 49 0) < 16) ∧ ∀ m6, m6 = jm_wr m3 52 (m3.1 49 0) (m3.1 49 1) → Q none m6)) : jm_R l g (d + 1) iX3_openLine [.ref 49, jm_i v1] mu Q := by
  refine jm_enter [(0, .ref 49), (1, jm_i v1)] (by decide) (Nat.le_of_ble_eq_true rfl) rfl ?_
  refine jm_mrI (fun hm0 => ?_)
  refine jm_aload_n (pc := 0) 0 dX3_openLine_0 rfl ?_
  refine jm_geti (pc := 1) 0 dX3_openLine_1 fX3_9 (cC49 hg) rfl ?_
  refine jm_bipush (pc := 4) dX3_openLine_4 (by decide) ?_
  refine jm_icmp_ge (pc := 6) 32 dX3_openLine_6 rfl (hm0 _ _) ⟨by decide, by decide⟩ (fun q => ?_) (fun q => ?_)
  · have h := h.1 q
    exact jm_vret (pc := 32) dX3_openLine_32 rfl h
  · have h := h.2 q
    refine jm_aload_n (pc := 9) 0 dX3_openLine_9 rfl ?_
    refine jm_getr (pc := 10) 3 dX3_openLine_10 fX3_22 (cC49 hg) rfl ?_
    refine jm_aload_n (pc := 13) 0 dX3_openLine_13 rfl ?_
    refine jm_geti (pc := 14) 0 dX3_openLine_14 fX3_9 (cC49 hg) rfl ?_
    refine jm_iload_n (pc := 17) 1 dX3_openLine_17 rfl ?_
    have hg1 := h.1
    have h := h.2
    have hg2 := h.1
    have h := h.2
    refine jm_iast (pc := 18) dX3_openLine_18 (cC51 hg) (by decide) hg1.1 hg1.2 hg2 ?_
    have h := h _ rfl
    refine jm_mrI (fun hm4 => ?_)
    refine jm_aload_n (pc := 19) 0 dX3_openLine_19 rfl ?_
    refine jm_getr (pc := 20) 4 dX3_openLine_20 fX3_25 (cC49 hg) rfl ?_
    refine jm_aload_n (pc := 23) 0 dX3_openLine_23 rfl ?_
    refine jm_geti (pc := 24) 0 dX3_openLine_24 fX3_9 (cC49 hg) rfl ?_
    refine jm_aload_n (pc := 27) 0 dX3_openLine_27 rfl ?_
    refine jm_geti (pc := 28) 1 dX3_openLine_28 fX3_15 (cC49 hg) rfl ?_
    have hg5 := h.1
    have h := h.2
    refine jm_iast (pc := 31) dX3_openLine_31 (cC52 hg) (by decide) hg5.1 hg5.2 (hm4 _ _) ?_
    have h := h _ rfl
    refine jm_mrI (fun hm7 => ?_)
    exact jm_vret (pc := 32) dX3_openLine_32 rfl h
theorem dX3_addOrder_0 : decode cX3_addOrder 0 = .ok (.aload_n 0, 1) := by decide +kernel
theorem dX3_addOrder_1 : decode cX3_addOrder 1 = .ok (.getfield 15, 3) := by decide +kernel
theorem dX3_addOrder_4 : decode cX3_addOrder 4 = .ok (.sipush 400, 3) := by decide +kernel
theorem dX3_addOrder_7 : decode cX3_addOrder 7 = .ok (.if_icmp .lt 5, 3) := by decide +kernel
theorem dX3_addOrder_10 : decode cX3_addOrder 10 = .ok (.iconst 0, 1) := by decide +kernel
theorem dX3_addOrder_11 : decode cX3_addOrder 11 = .ok (.ireturn, 1) := by decide +kernel
theorem dX3_addOrder_12 : decode cX3_addOrder 12 = .ok (.aload_n 0, 1) := by decide +kernel
theorem dX3_addOrder_13 : decode cX3_addOrder 13 = .ok (.getfield 18, 3) := by decide +kernel
theorem dX3_addOrder_16 : decode cX3_addOrder 16 = .ok (.aload_n 0, 1) := by decide +kernel
theorem dX3_addOrder_17 : decode cX3_addOrder 17 = .ok (.getfield 15, 3) := by decide +kernel
theorem dX3_addOrder_20 : decode cX3_addOrder 20 = .ok (.iload_n 1, 1) := by decide +kernel
theorem dX3_addOrder_21 : decode cX3_addOrder 21 = .ok (.bipush 14, 2) := by decide +kernel
theorem dX3_addOrder_23 : decode cX3_addOrder 23 = .ok (.ishl, 1) := by decide +kernel
theorem dX3_addOrder_24 : decode cX3_addOrder 24 = .ok (.iload_n 2, 1) := by decide +kernel
theorem dX3_addOrder_25 : decode cX3_addOrder 25 = .ok (.iadd, 1) := by decide +kernel
theorem dX3_addOrder_26 : decode cX3_addOrder 26 = .ok (.iastore, 1) := by decide +kernel
theorem dX3_addOrder_27 : decode cX3_addOrder 27 = .ok (.aload_n 0, 1) := by decide +kernel
theorem dX3_addOrder_28 : decode cX3_addOrder 28 = .ok (.dup, 1) := by decide +kernel
theorem dX3_addOrder_29 : decode cX3_addOrder 29 = .ok (.getfield 15, 3) := by decide +kernel
theorem dX3_addOrder_32 : decode cX3_addOrder 32 = .ok (.iconst 1, 1) := by decide +kernel
theorem dX3_addOrder_33 : decode cX3_addOrder 33 = .ok (.iadd, 1) := by decide +kernel
theorem dX3_addOrder_34 : decode cX3_addOrder 34 = .ok (.putfield 15, 3) := by decide +kernel
theorem dX3_addOrder_37 : decode cX3_addOrder 37 = .ok (.iconst 1, 1) := by decide +kernel
theorem dX3_addOrder_38 : decode cX3_addOrder 38 = .ok (.ireturn, 1) := by decide +kernel
theorem eX3_addOrder {l : Launch} {g : jm_G} {d : Nat} {v1 v2 : Int} (hg : jm_HC g) {mu : jm_M} {Q : Option Value → jm_M → Prop} (h : ((mu.1 49 1) < 400 → (0 ≤ (mu.1 49 1) ∧ (mu.1 49 1) < 400) ∧ jm_rg ((jm_shl v1 14) + v2) ∧ ∀ m3, m3 = jm_wr mu 50 (mu.1 49 1) ((jm_shl v1 14) + v2) → jm_rg ((m3.1 49 1) + 1) ∧ ∀ m6, m6 = jm_wr m3 49 1 ((m3.1 49 1) + 1) → Q (some (jm_i 1)) m6) ∧ (400 ≤ (mu.1 49 1) → Q (some (jm_i 0)) mu)) : jm_R l g (d + 1) iX3_addOrder [.ref 49, jm_i v1, jm_i v2] mu Q := by
  refine jm_enter [(0, .ref 49), (1, jm_i v1), (2, jm_i v2)] (by decide) (Nat.le_of_ble_eq_true rfl) rfl ?_
  refine jm_mrI (fun hm0 => ?_)
  refine jm_aload_n (pc := 0) 0 dX3_addOrder_0 rfl ?_
  refine jm_geti (pc := 1) 1 dX3_addOrder_1 fX3_15 (cC49 hg) rfl ?_
  refine jm_sipush (pc := 4) dX3_addOrder_4 (by decide) ?_
  refine jm_icmp_lt (pc := 7) 12 dX3_addOrder_7 rfl (hm0 _ _) ⟨by decide, by decide⟩ (fun q => ?_) (fun q => ?_)
  · have h := h.1 q
    refine jm_aload_n (pc := 12) 0 dX3_addOrder_12 rfl ?_
    refine jm_getr (pc := 13) 2 dX3_addOrder_13 fX3_18 (cC49 hg) rfl ?_
    refine jm_aload_n (pc := 16) 0 dX3_addOrder_16 rfl ?_
    refine jm_geti (pc := 17) 1 dX3_addOrder_17 fX3_15 (cC49 hg) rfl ?_
    refine jm_iload_n (pc := 20) 1 dX3_addOrder_20 rfl ?_
    refine jm_bipush (pc := 21) dX3_addOrder_21 (by decide) ?_
    refine jm_ishl (pc := 23) dX3_addOrder_23 ?_
    refine jm_iload_n (pc := 24) 2 dX3_addOrder_24 rfl ?_
    refine jm_iadd (pc := 25) dX3_addOrder_25 ?_
    have hg1 := h.1
    have h := h.2
    have hg2 := h.1
    have h := h.2
    refine jm_iast (pc := 26) dX3_addOrder_26 (cC50 hg) (by decide) hg1.1 hg1.2 hg2 ?_
    have h := h _ rfl
    refine jm_mrI (fun hm4 => ?_)
    refine jm_aload_n (pc := 27) 0 dX3_addOrder_27 rfl ?_
    refine jm_dup (pc := 28) _ dX3_addOrder_28 rfl ?_
    refine jm_geti (pc := 29) 1 dX3_addOrder_29 fX3_15 (cC49 hg) rfl ?_
    refine jm_iconst (pc := 32) dX3_addOrder_32 ?_
    refine jm_iadd (pc := 33) dX3_addOrder_33 ?_
    have hg5 := h.1
    have h := h.2
    refine jm_put (pc := 34) 1 dX3_addOrder_34 fX3_15 ftX3 (fun q h => by cases h; rfl) (jm_nI _) (jm_fI _) (cC49 hg) rfl hg5 ?_
    have h := h _ rfl
    refine jm_mrI (fun hm7 => ?_)
    refine jm_iconst (pc := 37) dX3_addOrder_37 ?_
    exact jm_zret (pc := 38) dX3_addOrder_38 rfl (Or.inr rfl) h
  · have h := h.2 q
    refine jm_iconst (pc := 10) dX3_addOrder_10 ?_
    exact jm_zret (pc := 11) dX3_addOrder_11 rfl (Or.inl rfl) h
theorem dX4_comparisonOf_0 : decode cX4_comparisonOf 0 = .ok (.iload_n 0, 1) := by decide +kernel
theorem dX4_comparisonOf_1 : decode cX4_comparisonOf 1 = .ok (.tableswitch 36 60 62 #[27, 30, 33], 27) := by decide +kernel
theorem dX4_comparisonOf_28 : decode cX4_comparisonOf 28 = .ok (.bipush 7, 2) := by decide +kernel
theorem dX4_comparisonOf_30 : decode cX4_comparisonOf 30 = .ok (.ireturn, 1) := by decide +kernel
theorem dX4_comparisonOf_31 : decode cX4_comparisonOf 31 = .ok (.bipush 8, 2) := by decide +kernel
theorem dX4_comparisonOf_33 : decode cX4_comparisonOf 33 = .ok (.ireturn, 1) := by decide +kernel
theorem dX4_comparisonOf_34 : decode cX4_comparisonOf 34 = .ok (.bipush 9, 2) := by decide +kernel
theorem dX4_comparisonOf_36 : decode cX4_comparisonOf 36 = .ok (.ireturn, 1) := by decide +kernel
theorem dX4_comparisonOf_37 : decode cX4_comparisonOf 37 = .ok (.iconst (-1), 1) := by decide +kernel
theorem dX4_comparisonOf_38 : decode cX4_comparisonOf 38 = .ok (.ireturn, 1) := by decide +kernel
theorem eX4_comparisonOf {l : Launch} {g : jm_G} {d : Nat} {v0 : Int} (hg : jm_HC g) {mu : jm_M} {Q : Option Value → jm_M → Prop} (h : jm_rg v0 ∧ (v0 = 60 → Q (some (jm_i 7)) mu) ∧ (v0 = 61 → Q (some (jm_i 8)) mu) ∧ (v0 = 62 → Q (some (jm_i 9)) mu) ∧ (v0 < 60 ∨ 62 < v0 → Q (some (jm_i (-1))) mu)) : jm_R l g (d + 1) iX4_comparisonOf [jm_i v0] mu Q := by
  refine jm_enter [(0, jm_i v0)] (by decide) (Nat.le_of_ble_eq_true rfl) rfl ?_
  refine jm_mrI (fun hm0 => ?_)
  refine jm_iload_n (pc := 0) 0 dX4_comparisonOf_0 rfl ?_
  have hg1 := h.1
  have h := h.2
  by_cases q0 : v0 = 60
  · have h := h.1 q0
    refine jm_tin (pc := 1) 28 dX4_comparisonOf_1 hg1 (by omega) (by omega) (by rw [q0] <;> rfl) rfl ?_
    refine jm_bipush (pc := 28) dX4_comparisonOf_28 (by decide) ?_
    exact jm_iret (pc := 30) dX4_comparisonOf_30 rfl h
  · by_cases q1 : v0 = 61
    · have h := h.2.1 q1
      refine jm_tin (pc := 1) 31 dX4_comparisonOf_1 hg1 (by omega) (by omega) (by rw [q1] <;> rfl) rfl ?_
      refine jm_bipush (pc := 31) dX4_comparisonOf_31 (by decide) ?_
      exact jm_iret (pc := 33) dX4_comparisonOf_33 rfl h
    · by_cases q2 : v0 = 62
      · have h := h.2.2.1 q2
        refine jm_tin (pc := 1) 34 dX4_comparisonOf_1 hg1 (by omega) (by omega) (by rw [q2] <;> rfl) rfl ?_
        refine jm_bipush (pc := 34) dX4_comparisonOf_34 (by decide) ?_
        exact jm_iret (pc := 36) dX4_comparisonOf_36 rfl h
      · have h := h.2.2.2 (by omega)
        refine jm_tout (pc := 1) 37 dX4_comparisonOf_1 hg1 (by omega) rfl ?_
        refine jm_iconst (pc := 37) dX4_comparisonOf_37 ?_
        exact jm_iret (pc := 38) dX4_comparisonOf_38 rfl h
theorem dX7_kind_0 : decode cX7_kind 0 = .ok (.aload_n 0, 1) := by decide +kernel
theorem dX7_kind_1 : decode cX7_kind 1 = .ok (.getfield 25, 3) := by decide +kernel
theorem dX7_kind_4 : decode cX7_kind 4 = .ok (.aload_n 0, 1) := by decide +kernel
theorem dX7_kind_5 : decode cX7_kind 5 = .ok (.getfield 37, 3) := by decide +kernel
theorem dX7_kind_8 : decode cX7_kind 8 = .ok (.iaload, 1) := by decide +kernel
theorem dX7_kind_9 : decode cX7_kind 9 = .ok (.ireturn, 1) := by decide +kernel
theorem eX7_kind {l : Launch} {g : jm_G} {d : Nat} (hg : jm_HC g) {mu : jm_M} {Q : Option Value → jm_M → Prop} (h : (0 ≤ (mu.1 1 8) ∧ (mu.1 1 8) < 401) ∧ Q (some (jm_i (mu.1 3 (mu.1 1 8)))) mu) : jm_R l g (d + 1) iX7_kind [.ref 1] mu Q := by
  refine jm_enter [(0, .ref 1)] (by decide) (Nat.le_of_ble_eq_true rfl) rfl ?_
  refine jm_mrI (fun hm0 => ?_)
  refine jm_aload_n (pc := 0) 0 dX7_kind_0 rfl ?_
  refine jm_getr (pc := 1) 4 dX7_kind_1 fX7_25 (cC1 hg) rfl ?_
  refine jm_aload_n (pc := 4) 0 dX7_kind_4 rfl ?_
  refine jm_geti (pc := 5) 8 dX7_kind_5 fX7_37 (cC1 hg) rfl ?_
  have hg1 := h.1
  have h := h.2
  refine jm_iald (pc := 8) dX7_kind_8 (cC3 hg) (by decide) hg1.1 hg1.2 ?_
  exact jm_iret (pc := 9) dX7_kind_9 rfl h
theorem pX7_kind {l : Launch} {g : jm_G} {d : Nat} (hg : jm_HC g) {mu : jm_M} {Q : Option Value → jm_M → Prop} (o0 : 0 ≤ (mu.1 1 8) ∧ (mu.1 1 8) < 401) (h : Q (some (jm_i (mu.1 3 (mu.1 1 8)))) mu) : jm_R l g (d + 1) iX7_kind [.ref 1] mu Q := by
  refine eX7_kind hg ?_
  refine ⟨o0, ?_⟩
  exact h
theorem dX7_number_0 : decode cX7_number 0 = .ok (.iconst 0, 1) := by decide +kernel
theorem dX7_number_1 : decode cX7_number 1 = .ok (.istore_n 1, 1) := by decide +kernel
theorem dX7_number_2 : decode cX7_number 2 = .ok (.iconst 0, 1) := by decide +kernel
theorem dX7_number_3 : decode cX7_number 3 = .ok (.istore_n 2, 1) := by decide +kernel
theorem dX7_number_4 : decode cX7_number 4 = .ok (.iload_n 2, 1) := by decide +kernel
theorem dX7_number_5 : decode cX7_number 5 = .ok (.aload_n 0, 1) := by decide +kernel
theorem dX7_number_6 : decode cX7_number 6 = .ok (.getfield 31, 3) := by decide +kernel
theorem dX7_number_9 : decode cX7_number 9 = .ok (.aload_n 0, 1) := by decide +kernel
theorem dX7_number_10 : decode cX7_number 10 = .ok (.getfield 37, 3) := by decide +kernel
theorem dX7_number_13 : decode cX7_number 13 = .ok (.iaload, 1) := by decide +kernel
theorem dX7_number_14 : decode cX7_number 14 = .ok (.if_icmp .ge 56, 3) := by decide +kernel
theorem dX7_number_17 : decode cX7_number 17 = .ok (.iload_n 2, 1) := by decide +kernel
theorem dX7_number_18 : decode cX7_number 18 = .ok (.iconst 4, 1) := by decide +kernel
theorem dX7_number_19 : decode cX7_number 19 = .ok (.if_icmp .ge 51, 3) := by decide +kernel
theorem dX7_number_22 : decode cX7_number 22 = .ok (.aload_n 0, 1) := by decide +kernel
theorem dX7_number_23 : decode cX7_number 23 = .ok (.getfield 28, 3) := by decide +kernel
theorem dX7_number_26 : decode cX7_number 26 = .ok (.aload_n 0, 1) := by decide +kernel
theorem dX7_number_27 : decode cX7_number 27 = .ok (.getfield 37, 3) := by decide +kernel
theorem dX7_number_30 : decode cX7_number 30 = .ok (.iaload, 1) := by decide +kernel
theorem dX7_number_31 : decode cX7_number 31 = .ok (.iload_n 2, 1) := by decide +kernel
theorem dX7_number_32 : decode cX7_number 32 = .ok (.iadd, 1) := by decide +kernel
theorem dX7_number_33 : decode cX7_number 33 = .ok (.sipush 400, 3) := by decide +kernel
theorem dX7_number_36 : decode cX7_number 36 = .ok (.if_icmp .ge 34, 3) := by decide +kernel
theorem dX7_number_39 : decode cX7_number 39 = .ok (.iload_n 1, 1) := by decide +kernel
theorem dX7_number_40 : decode cX7_number 40 = .ok (.bipush 10, 2) := by decide +kernel
theorem dX7_number_42 : decode cX7_number 42 = .ok (.imul, 1) := by decide +kernel
theorem dX7_number_43 : decode cX7_number 43 = .ok (.aload_n 0, 1) := by decide +kernel
theorem dX7_number_44 : decode cX7_number 44 = .ok (.getfield 11, 3) := by decide +kernel
theorem dX7_number_47 : decode cX7_number 47 = .ok (.aload_n 0, 1) := by decide +kernel
theorem dX7_number_48 : decode cX7_number 48 = .ok (.getfield 28, 3) := by decide +kernel
theorem dX7_number_51 : decode cX7_number 51 = .ok (.aload_n 0, 1) := by decide +kernel
theorem dX7_number_52 : decode cX7_number 52 = .ok (.getfield 37, 3) := by decide +kernel
theorem dX7_number_55 : decode cX7_number 55 = .ok (.iaload, 1) := by decide +kernel
theorem dX7_number_56 : decode cX7_number 56 = .ok (.iload_n 2, 1) := by decide +kernel
theorem dX7_number_57 : decode cX7_number 57 = .ok (.iadd, 1) := by decide +kernel
theorem dX7_number_58 : decode cX7_number 58 = .ok (.iaload, 1) := by decide +kernel
theorem dX7_number_59 : decode cX7_number 59 = .ok (.iadd, 1) := by decide +kernel
theorem dX7_number_60 : decode cX7_number 60 = .ok (.bipush 48, 2) := by decide +kernel
theorem dX7_number_62 : decode cX7_number 62 = .ok (.isub, 1) := by decide +kernel
theorem dX7_number_63 : decode cX7_number 63 = .ok (.istore_n 1, 1) := by decide +kernel
theorem dX7_number_64 : decode cX7_number 64 = .ok (.iinc 2 1, 3) := by decide +kernel
theorem dX7_number_67 : decode cX7_number 67 = .ok (.goto (-63), 3) := by decide +kernel
theorem dX7_number_70 : decode cX7_number 70 = .ok (.iload_n 1, 1) := by decide +kernel
theorem dX7_number_71 : decode cX7_number 71 = .ok (.ireturn, 1) := by decide +kernel
theorem bX7_number_4 {l : Launch} {g : jm_G} {d : Nat} {v1 v2 : Int} (hg : jm_HC g) {mu : jm_M} {Q : Option Value → jm_M → Prop} (h : (0 ≤ (mu.1 1 8) ∧ (mu.1 1 8) < 401) ∧ jm_rg v2 ∧ ((mu.1 5 (mu.1 1 8)) ≤ v2 → Q (some (jm_i v1)) mu) ∧ (v2 < (mu.1 5 (mu.1 1 8)) → (4 ≤ v2 → Q (some (jm_i v1)) mu) ∧ (v2 < 4 → jm_rg ((mu.1 4 (mu.1 1 8)) + v2) ∧ (400 ≤ ((mu.1 4 (mu.1 1 8)) + v2) → Q (some (jm_i v1)) mu) ∧ (((mu.1 4 (mu.1 1 8)) + v2) < 400 → (0 ≤ ((mu.1 4 (mu.1 1 8)) + v2) ∧ ((mu.1 4 (mu.1 1 8)) + v2) < 400) ∧ ∀ x5, x5 = (((v1 * 10) + (mu.1 2 ((mu.1 4 (mu.1 1 8)) + v2))) - 48) → jm_V l g (d + 1) iX7_number 4 [(0, .ref 1), (1, jm_i x5), (2, jm_i (v2 + 1))] [] mu Q)))) : jm_V l g (d + 1) iX7_number 4 [(0, .ref 1), (1, jm_i v1), (2, jm_i v2)] [] mu Q := by
  refine jm_mrI (fun hm0 => ?_)
  refine jm_iload_n (pc := 4) 2 dX7_number_4 rfl ?_
  refine jm_aload_n (pc := 5) 0 dX7_number_5 rfl ?_
  refine jm_getr (pc := 6) 6 dX7_number_6 fX7_31 (cC1 hg) rfl ?_
  refine jm_aload_n (pc := 9) 0 dX7_number_9 rfl ?_
  refine jm_geti (pc := 10) 8 dX7_number_10 fX7_37 (cC1 hg) rfl ?_
  have hg1 := h.1
  have h := h.2
  refine jm_iald (pc := 13) dX7_number_13 (cC5 hg) (by decide) hg1.1 hg1.2 ?_
  have hg2 := h.1
  have h := h.2
  refine jm_icmp_ge (pc := 14) 70 dX7_number_14 rfl hg2 (hm0 _ _) (fun q => ?_) (fun q => ?_)
  · have h := h.1 q
    refine jm_iload_n (pc := 70) 1 dX7_number_70 rfl ?_
    exact jm_iret (pc := 71) dX7_number_71 rfl h
  · have h := h.2 q
    refine jm_iload_n (pc := 17) 2 dX7_number_17 rfl ?_
    refine jm_iconst (pc := 18) dX7_number_18 ?_
    refine jm_icmp_ge (pc := 19) 70 dX7_number_19 rfl hg2 ⟨by decide, by decide⟩ (fun q => ?_) (fun q => ?_)
    · have h := h.1 q
      refine jm_iload_n (pc := 70) 1 dX7_number_70 rfl ?_
      exact jm_iret (pc := 71) dX7_number_71 rfl h
    · have h := h.2 q
      refine jm_aload_n (pc := 22) 0 dX7_number_22 rfl ?_
      refine jm_getr (pc := 23) 5 dX7_number_23 fX7_28 (cC1 hg) rfl ?_
      refine jm_aload_n (pc := 26) 0 dX7_number_26 rfl ?_
      refine jm_geti (pc := 27) 8 dX7_number_27 fX7_37 (cC1 hg) rfl ?_
      refine jm_iald (pc := 30) dX7_number_30 (cC4 hg) (by decide) hg1.1 hg1.2 ?_
      refine jm_iload_n (pc := 31) 2 dX7_number_31 rfl ?_
      refine jm_iadd (pc := 32) dX7_number_32 ?_
      refine jm_sipush (pc := 33) dX7_number_33 (by decide) ?_
      have hg3 := h.1
      have h := h.2
      refine jm_icmp_ge (pc := 36) 70 dX7_number_36 rfl hg3 ⟨by decide, by decide⟩ (fun q => ?_) (fun q => ?_)
      · have h := h.1 q
        refine jm_iload_n (pc := 70) 1 dX7_number_70 rfl ?_
        exact jm_iret (pc := 71) dX7_number_71 rfl h
      · have h := h.2 q
        refine jm_iload_n (pc := 39) 1 dX7_number_39 rfl ?_
        refine jm_bipush (pc := 40) dX7_number_40 (by decide) ?_
        refine jm_imul (pc := 42) dX7_number_42 ?_
        refine jm_aload_n (pc := 43) 0 dX7_number_43 rfl ?_
        refine jm_getr (pc := 44) 0 dX7_number_44 fX7_11 (cC1 hg) rfl ?_
        refine jm_aload_n (pc := 47) 0 dX7_number_47 rfl ?_
        refine jm_getr (pc := 48) 5 dX7_number_48 fX7_28 (cC1 hg) rfl ?_
        refine jm_aload_n (pc := 51) 0 dX7_number_51 rfl ?_
        refine jm_geti (pc := 52) 8 dX7_number_52 fX7_37 (cC1 hg) rfl ?_
        refine jm_iald (pc := 55) dX7_number_55 (cC4 hg) (by decide) hg1.1 hg1.2 ?_
        refine jm_iload_n (pc := 56) 2 dX7_number_56 rfl ?_
        refine jm_iadd (pc := 57) dX7_number_57 ?_
        have hg4 := h.1
        have h := h.2
        refine jm_iald (pc := 58) dX7_number_58 (cC2 hg) (by decide) hg4.1 hg4.2 ?_
        refine jm_iadd (pc := 59) dX7_number_59 ?_
        refine jm_bipush (pc := 60) dX7_number_60 (by decide) ?_
        refine jm_isub (pc := 62) dX7_number_62 ?_
        have h := h _ rfl
        refine jm_istore_n (pc := 63) (lv' := [(1, _), (0, _), (2, _)]) dX7_number_63 (by decide) rfl ?_
        refine jm_iinc (pc := 64) (lv' := [(2, _), (1, _), (0, _)]) 2 dX7_number_64 rfl (by decide) rfl ?_
        refine jm_goto (pc := 67) 4 dX7_number_67 rfl ?_
        exact jm_sub [2, 1, 0] rfl h
theorem eX7_number {l : Launch} {g : jm_G} {d : Nat} (hg : jm_HC g) {mu : jm_M} {Q : Option Value → jm_M → Prop} (h : jm_V l g (d + 1) iX7_number 4 [(0, .ref 1), (1, jm_i 0), (2, jm_i 0)] [] mu Q) : jm_R l g (d + 1) iX7_number [.ref 1] mu Q := by
  refine jm_enter [(0, .ref 1)] (by decide) (Nat.le_of_ble_eq_true rfl) rfl ?_
  refine jm_mrI (fun hm0 => ?_)
  refine jm_iconst (pc := 0) dX7_number_0 ?_
  refine jm_istore_n (pc := 1) (lv' := [(1, _), (0, _)]) dX7_number_1 (by decide) rfl ?_
  refine jm_iconst (pc := 2) dX7_number_2 ?_
  refine jm_istore_n (pc := 3) (lv' := [(2, _), (1, _), (0, _)]) dX7_number_3 (by decide) rfl ?_
  exact jm_sub [2, 1, 0] rfl h
theorem dX7_refuse_0 : decode cX7_refuse 0 = .ok (.aload_n 0, 1) := by decide +kernel
theorem dX7_refuse_1 : decode cX7_refuse 1 = .ok (.iload_n 1, 1) := by decide +kernel
theorem dX7_refuse_2 : decode cX7_refuse 2 = .ok (.putfield 19, 3) := by decide +kernel
theorem dX7_refuse_5 : decode cX7_refuse 5 = .ok (.aload_n 0, 1) := by decide +kernel
theorem dX7_refuse_6 : decode cX7_refuse 6 = .ok (.aload_n 0, 1) := by decide +kernel
theorem dX7_refuse_7 : decode cX7_refuse 7 = .ok (.getfield 28, 3) := by decide +kernel
theorem dX7_refuse_10 : decode cX7_refuse 10 = .ok (.aload_n 0, 1) := by decide +kernel
theorem dX7_refuse_11 : decode cX7_refuse 11 = .ok (.getfield 37, 3) := by decide +kernel
theorem dX7_refuse_14 : decode cX7_refuse 14 = .ok (.iaload, 1) := by decide +kernel
theorem dX7_refuse_15 : decode cX7_refuse 15 = .ok (.putfield 22, 3) := by decide +kernel
theorem dX7_refuse_18 : decode cX7_refuse 18 = .ok (.iconst 0, 1) := by decide +kernel
theorem dX7_refuse_19 : decode cX7_refuse 19 = .ok (.ireturn, 1) := by decide +kernel
theorem eX7_refuse {l : Launch} {g : jm_G} {d : Nat} {v1 : Int} (hg : jm_HC g) {mu : jm_M} {Q : Option Value → jm_M → Prop} (h : jm_rg v1 ∧ ∀ m2, m2 = jm_wr mu 1 2 v1 → (0 ≤ (m2.1 1 8) ∧ (m2.1 1 8) < 401) ∧ ∀ m5, m5 = jm_wr m2 1 3 (m2.1 4 (m2.1 1 8)) → Q (some (jm_i 0)) m5) : jm_R l g (d + 1) iX7_refuse [.ref 1, jm_i v1] mu Q := by
  refine jm_enter [(0, .ref 1), (1, jm_i v1)] (by decide) (Nat.le_of_ble_eq_true rfl) rfl ?_
  refine jm_mrI (fun hm0 => ?_)
  refine jm_aload_n (pc := 0) 0 dX7_refuse_0 rfl ?_
  refine jm_iload_n (pc := 1) 1 dX7_refuse_1 rfl ?_
  have hg1 := h.1
  have h := h.2
  refine jm_put (pc := 2) 2 dX7_refuse_2 fX7_19 ftX7 (fun q h => by cases h; rfl) (jm_nI _) (jm_fI _) (cC1 hg) rfl hg1 ?_
  have h := h _ rfl
  refine jm_mrI (fun hm3 => ?_)
  refine jm_aload_n (pc := 5) 0 dX7_refuse_5 rfl ?_
  refine jm_aload_n (pc := 6) 0 dX7_refuse_6 rfl ?_
  refine jm_getr (pc := 7) 5 dX7_refuse_7 fX7_28 (cC1 hg) rfl ?_
  refine jm_aload_n (pc := 10) 0 dX7_refuse_10 rfl ?_
  refine jm_geti (pc := 11) 8 dX7_refuse_11 fX7_37 (cC1 hg) rfl ?_
  have hg4 := h.1
  have h := h.2
  refine jm_iald (pc := 14) dX7_refuse_14 (cC4 hg) (by decide) hg4.1 hg4.2 ?_
  refine jm_put (pc := 15) 3 dX7_refuse_15 fX7_22 ftX7 (fun q h => by cases h; rfl) (jm_nI _) (jm_fI _) (cC1 hg) rfl (hm3 _ _) ?_
  have h := h _ rfl
  refine jm_mrI (fun hm6 => ?_)
  refine jm_iconst (pc := 18) dX7_refuse_18 ?_
  exact jm_zret (pc := 19) dX7_refuse_19 rfl (Or.inl rfl) h
theorem pX7_refuse {l : Launch} {g : jm_G} {d : Nat} {v1 : Int} (hg : jm_HC g) {mu : jm_M} {Q : Option Value → jm_M → Prop} (o0 : jm_rg v1) (o1 : 0 ≤ ((jm_wr mu 1 2 v1).1 1 8) ∧ ((jm_wr mu 1 2 v1).1 1 8) < 401) (h : Q (some (jm_i 0)) (jm_wr (jm_wr mu 1 2 v1) 1 3 ((jm_wr mu 1 2 v1).1 4 ((jm_wr mu 1 2 v1).1 1 8)))) : jm_R l g (d + 1) iX7_refuse [.ref 1, jm_i v1] mu Q := by
  refine eX7_refuse hg ?_
  refine ⟨o0, ?_⟩
  intro x hx
  subst hx
  refine ⟨o1, ?_⟩
  intro x hx
  subst hx
  exact h
theorem dX7_skip_0 : decode cX7_skip 0 = .ok (.aload_n 0, 1) := by decide +kernel
theorem dX7_skip_1 : decode cX7_skip 1 = .ok (.getfield 37, 3) := by decide +kernel
theorem dX7_skip_4 : decode cX7_skip 4 = .ok (.aload_n 0, 1) := by decide +kernel
theorem dX7_skip_5 : decode cX7_skip 5 = .ok (.getfield 34, 3) := by decide +kernel
theorem dX7_skip_8 : decode cX7_skip 8 = .ok (.if_icmp .ge 13, 3) := by decide +kernel
theorem dX7_skip_11 : decode cX7_skip 11 = .ok (.aload_n 0, 1) := by decide +kernel
theorem dX7_skip_12 : decode cX7_skip 12 = .ok (.dup, 1) := by decide +kernel
theorem dX7_skip_13 : decode cX7_skip 13 = .ok (.getfield 37, 3) := by decide +kernel
theorem dX7_skip_16 : decode cX7_skip 16 = .ok (.iconst 1, 1) := by decide +kernel
theorem dX7_skip_17 : decode cX7_skip 17 = .ok (.iadd, 1) := by decide +kernel
theorem dX7_skip_18 : decode cX7_skip 18 = .ok (.putfield 37, 3) := by decide +kernel
theorem dX7_skip_21 : decode cX7_skip 21 = .ok (.return_, 1) := by decide +kernel
theorem eX7_skip {l : Launch} {g : jm_G} {d : Nat} (hg : jm_HC g) {mu : jm_M} {Q : Option Value → jm_M → Prop} (h : ((mu.1 1 7) ≤ (mu.1 1 8) → Q none mu) ∧ ((mu.1 1 8) < (mu.1 1 7) → jm_rg ((mu.1 1 8) + 1) ∧ ∀ m2, m2 = jm_wr mu 1 8 ((mu.1 1 8) + 1) → Q none m2)) : jm_R l g (d + 1) iX7_skip [.ref 1] mu Q := by
  refine jm_enter [(0, .ref 1)] (by decide) (Nat.le_of_ble_eq_true rfl) rfl ?_
  refine jm_mrI (fun hm0 => ?_)
  refine jm_aload_n (pc := 0) 0 dX7_skip_0 rfl ?_
  refine jm_geti (pc := 1) 8 dX7_skip_1 fX7_37 (cC1 hg) rfl ?_
  refine jm_aload_n (pc := 4) 0 dX7_skip_4 rfl ?_
  refine jm_geti (pc := 5) 7 dX7_skip_5 fX7_34 (cC1 hg) rfl ?_
  refine jm_icmp_ge (pc := 8) 21 dX7_skip_8 rfl (hm0 _ _) (hm0 _ _) (fun q => ?_) (fun q => ?_)
  · have h := h.1 q
    exact jm_vret (pc := 21) dX7_skip_21 rfl h
  · have h := h.2 q
    refine jm_aload_n (pc := 11) 0 dX7_skip_11 rfl ?_
    refine jm_dup (pc := 12) _ dX7_skip_12 rfl ?_
    refine jm_geti (pc := 13) 8 dX7_skip_13 fX7_37 (cC1 hg) rfl ?_
    refine jm_iconst (pc := 16) dX7_skip_16 ?_
    refine jm_iadd (pc := 17) dX7_skip_17 ?_
    have hg1 := h.1
    have h := h.2
    refine jm_put (pc := 18) 8 dX7_skip_18 fX7_37 ftX7 (fun q h => by cases h; rfl) (jm_nI _) (jm_fI _) (cC1 hg) rfl hg1 ?_
    have h := h _ rfl
    refine jm_mrI (fun hm3 => ?_)
    exact jm_vret (pc := 21) dX7_skip_21 rfl h
theorem dX4_readUnit_0 : decode cX4_readUnit 0 = .ok (.aload_n 0, 1) := by decide +kernel
theorem dX4_readUnit_1 : decode cX4_readUnit 1 = .ok (.getfield 17, 3) := by decide +kernel
theorem dX4_readUnit_4 : decode cX4_readUnit 4 = .ok (.invokevirtual 28, 3) := by decide +kernel
theorem dX4_readUnit_7 : decode cX4_readUnit 7 = .ok (.istore_n 1, 1) := by decide +kernel
theorem dX4_readUnit_8 : decode cX4_readUnit 8 = .ok (.iload_n 1, 1) := by decide +kernel
theorem dX4_readUnit_9 : decode cX4_readUnit 9 = .ok (.sipush 256, 3) := by decide +kernel
theorem dX4_readUnit_12 : decode cX4_readUnit 12 = .ok (.if_icmp .ne 22, 3) := by decide +kernel
theorem dX4_readUnit_15 : decode cX4_readUnit 15 = .ok (.aload_n 0, 1) := by decide +kernel
theorem dX4_readUnit_16 : decode cX4_readUnit 16 = .ok (.getfield 21, 3) := by decide +kernel
theorem dX4_readUnit_19 : decode cX4_readUnit 19 = .ok (.iconst 0, 1) := by decide +kernel
theorem dX4_readUnit_20 : decode cX4_readUnit 20 = .ok (.aload_n 0, 1) := by decide +kernel
theorem dX4_readUnit_21 : decode cX4_readUnit 21 = .ok (.getfield 17, 3) := by decide +kernel
theorem dX4_readUnit_24 : decode cX4_readUnit 24 = .ok (.invokevirtual 83, 3) := by decide +kernel
theorem dX4_readUnit_27 : decode cX4_readUnit 27 = .ok (.invokevirtual 66, 3) := by decide +kernel
theorem dX4_readUnit_30 : decode cX4_readUnit 30 = .ok (.pop, 1) := by decide +kernel
theorem dX4_readUnit_31 : decode cX4_readUnit 31 = .ok (.goto 42, 3) := by decide +kernel
theorem dX4_readUnit_34 : decode cX4_readUnit 34 = .ok (.iload_n 1, 1) := by decide +kernel
theorem dX4_readUnit_35 : decode cX4_readUnit 35 = .ok (.sipush 307, 3) := by decide +kernel
theorem dX4_readUnit_38 : decode cX4_readUnit 38 = .ok (.sipush 317, 3) := by decide +kernel
theorem dX4_readUnit_41 : decode cX4_readUnit 41 = .ok (.invokestatic 32, 3) := by decide +kernel
theorem dX4_readUnit_44 : decode cX4_readUnit 44 = .ok (.ifCond .eq 20, 3) := by decide +kernel
theorem dX4_readUnit_47 : decode cX4_readUnit 47 = .ok (.aload_n 0, 1) := by decide +kernel
theorem dX4_readUnit_48 : decode cX4_readUnit 48 = .ok (.getfield 21, 3) := by decide +kernel
theorem dX4_readUnit_51 : decode cX4_readUnit 51 = .ok (.iconst 1, 1) := by decide +kernel
theorem dX4_readUnit_52 : decode cX4_readUnit 52 = .ok (.iload_n 1, 1) := by decide +kernel
theorem dX4_readUnit_53 : decode cX4_readUnit 53 = .ok (.sipush 307, 3) := by decide +kernel
theorem dX4_readUnit_56 : decode cX4_readUnit 56 = .ok (.isub, 1) := by decide +kernel
theorem dX4_readUnit_57 : decode cX4_readUnit 57 = .ok (.invokevirtual 66, 3) := by decide +kernel
theorem dX4_readUnit_60 : decode cX4_readUnit 60 = .ok (.pop, 1) := by decide +kernel
theorem dX4_readUnit_61 : decode cX4_readUnit 61 = .ok (.goto 12, 3) := by decide +kernel
theorem dX4_readUnit_64 : decode cX4_readUnit 64 = .ok (.aload_n 0, 1) := by decide +kernel
theorem dX4_readUnit_65 : decode cX4_readUnit 65 = .ok (.getfield 17, 3) := by decide +kernel
theorem dX4_readUnit_68 : decode cX4_readUnit 68 = .ok (.iconst 1, 1) := by decide +kernel
theorem dX4_readUnit_69 : decode cX4_readUnit 69 = .ok (.invokevirtual 36, 3) := by decide +kernel
theorem dX4_readUnit_72 : decode cX4_readUnit 72 = .ok (.ireturn, 1) := by decide +kernel
theorem dX4_readUnit_73 : decode cX4_readUnit 73 = .ok (.aload_n 0, 1) := by decide +kernel
theorem dX4_readUnit_74 : decode cX4_readUnit 74 = .ok (.getfield 17, 3) := by decide +kernel
theorem dX4_readUnit_77 : decode cX4_readUnit 77 = .ok (.invokevirtual 40, 3) := by decide +kernel
theorem dX4_readUnit_80 : decode cX4_readUnit 80 = .ok (.iconst 1, 1) := by decide +kernel
theorem dX4_readUnit_81 : decode cX4_readUnit 81 = .ok (.ireturn, 1) := by decide +kernel
theorem bX4_readUnit_73 {l : Launch} {g : jm_G} {d : Nat} (hg : jm_HC g) {mu : jm_M} {Q : Option Value → jm_M → Prop} (h : jm_R l g (d + 1) iX7_skip [.ref 1] mu (jm_qv fun m1 => Q (some (jm_i 1)) m1)) : jm_V l g (d + 2) iX4_readUnit 73 [(0, .ref 63)] [] mu Q := by
  refine jm_mrI (fun hm0 => ?_)
  refine jm_aload_n (pc := 73) 0 dX4_readUnit_73 rfl ?_
  refine jm_getr (pc := 74) 0 dX4_readUnit_74 fX4_17 (cC63 hg) rfl ?_
  refine jm_callvv (pc := 77) (As := []) (st := []) iX7_skip dX4_readUnit_77 mX4_40 (cC1 hg) ⟨_, rfl, rfl⟩ rfl rfl (Nat.le_of_ble_eq_true rfl) h (fun m1 h hm4 => ?_)
  refine jm_iconst (pc := 80) dX4_readUnit_80 ?_
  exact jm_zret (pc := 81) dX4_readUnit_81 rfl (Or.inr rfl) h
theorem eX4_readUnit {l : Launch} {g : jm_G} {d : Nat} (hg : jm_HC g) {mu : jm_M} {Q : Option Value → jm_M → Prop} (h : (0 ≤ (mu.1 1 8) ∧ (mu.1 1 8) < 401) ∧ ∀ x2, x2 = (mu.1 3 (mu.1 1 8)) → (¬ x2 = 256 → (307 ≤ x2 ∧ x2 ≤ 317 → jm_R l g (d + 1) iX3_addOrder [.ref 49, jm_i 1, jm_i (x2 - 307)] mu (jm_qi fun z4 m3 => jm_V l g (d + 2) iX4_readUnit 73 [(0, .ref 63)] [] m3 Q)) ∧ (¬ (307 ≤ x2 ∧ x2 ≤ 317) → (0 ≤ ((jm_wr mu 1 2 1).1 1 8) ∧ ((jm_wr mu 1 2 1).1 1 8) < 401) ∧ ∀ m8, m8 = (jm_wr (jm_wr mu 1 2 1) 1 3 ((jm_wr mu 1 2 1).1 4 ((jm_wr mu 1 2 1).1 1 8))) → Q (some (jm_i 0)) m8)) ∧ (x2 = 256 → jm_R l g (d + 1) iX7_number [.ref 1] mu (jm_qi fun z11 m10 => jm_R l g (d + 1) iX3_addOrder [.ref 49, jm_i 0, jm_i z11] m10 (jm_qi fun z15 m14 => jm_V l g (d + 2) iX4_readUnit 73 [(0, .ref 63)] [] m14 Q)))) : jm_R l g (d + 2) iX4_readUnit [.ref 63] mu Q := by
  refine jm_enter [(0, .ref 63)] (by decide) (Nat.le_of_ble_eq_true rfl) rfl ?_
  refine jm_mrI (fun hm0 => ?_)
  refine jm_aload_n (pc := 0) 0 dX4_readUnit_0 rfl ?_
  refine jm_getr (pc := 1) 0 dX4_readUnit_1 fX4_17 (cC63 hg) rfl ?_
  have hg1 := h.1
  have h := h.2
  refine jm_inlvi (pc := 4) (As := []) (st := []) iX7_kind dX4_readUnit_4 mX4_28 (cC1 hg) ⟨_, rfl, rfl⟩ rfl rfl (Nat.le_of_ble_eq_true rfl) (pX7_kind hg hg1 (jm_kIi ?_))
  have h := h _ rfl
  refine jm_istore_n (pc := 7) (lv' := [(1, _), (0, _)]) dX4_readUnit_7 (by decide) rfl ?_
  refine jm_iload_n (pc := 8) 0 dX4_readUnit_8 rfl ?_
  refine jm_sipush (pc := 9) dX4_readUnit_9 (by decide) ?_
  refine jm_icmp_ne (pc := 12) 34 dX4_readUnit_12 rfl (hm0 _ _) ⟨by decide, by decide⟩ (fun q => ?_) (fun q => ?_)
  · have h := h.1 q
    refine jm_iload_n (pc := 34) 0 dX4_readUnit_34 rfl ?_
    refine jm_sipush (pc := 35) dX4_readUnit_35 (by decide) ?_
    refine jm_sipush (pc := 38) dX4_readUnit_38 (by decide) ?_
    refine jm_inlni (pc := 41) (As := [_, _, _]) (st := []) iX11_isWithin dX4_readUnit_41 (mX4_32 hg) rfl rfl (Nat.le_of_ble_eq_true rfl) (pX11_isWithin hg (hm0 _ _) ⟨by decide, by decide⟩ ⟨by decide, by decide⟩ (fun q => jm_kIi ?_) (fun q => jm_kIi ?_))
    · have h := h.1 q
      refine jm_if_eq (pc := 44) 64 dX4_readUnit_44 rfl ⟨by decide, by decide⟩ (fun q => absurd q (by decide)) (fun q => ?_)
      refine jm_aload_n (pc := 47) 1 dX4_readUnit_47 rfl ?_
      refine jm_getr (pc := 48) 1 dX4_readUnit_48 fX4_21 (cC63 hg) rfl ?_
      refine jm_iconst (pc := 51) dX4_readUnit_51 ?_
      refine jm_iload_n (pc := 52) 0 dX4_readUnit_52 rfl ?_
      refine jm_sipush (pc := 53) dX4_readUnit_53 (by decide) ?_
      refine jm_isub (pc := 56) dX4_readUnit_56 ?_
      refine jm_callvi (pc := 57) (As := [_, _]) (st := []) iX3_addOrder dX4_readUnit_57 mX4_66 (cC49 hg) ⟨_, rfl, rfl⟩ rfl rfl (Nat.le_of_ble_eq_true rfl) h (fun z4 m3 hz5 h hm6 => ?_)
      refine jm_pop (pc := 60) _ dX4_readUnit_60 rfl ?_
      refine jm_goto (pc := 61) 73 dX4_readUnit_61 rfl ?_
      exact jm_sub [1] rfl h
    · have h := h.2 q
      refine jm_if_eq (pc := 44) 64 dX4_readUnit_44 rfl ⟨by decide, by decide⟩ (fun q => ?_) (fun q => absurd q (by decide))
      refine jm_aload_n (pc := 64) 1 dX4_readUnit_64 rfl ?_
      refine jm_getr (pc := 65) 0 dX4_readUnit_65 fX4_17 (cC63 hg) rfl ?_
      refine jm_iconst (pc := 68) dX4_readUnit_68 ?_
      have hg7 := h.1
      have h := h.2
      refine jm_inlvi (pc := 69) (As := [_]) (st := []) iX7_refuse dX4_readUnit_69 mX4_36 (cC1 hg) ⟨_, rfl, rfl⟩ rfl rfl (Nat.le_of_ble_eq_true rfl) (pX7_refuse hg ⟨by decide, by decide⟩ hg7 (jm_kIi ?_))
      have h := h _ rfl
      refine jm_mrI (fun hm9 => ?_)
      exact jm_zret (pc := 72) dX4_readUnit_72 rfl (Or.inl rfl) h
  · have h := h.2 q
    refine jm_aload_n (pc := 15) 1 dX4_readUnit_15 rfl ?_
    refine jm_getr (pc := 16) 1 dX4_readUnit_16 fX4_21 (cC63 hg) rfl ?_
    refine jm_iconst (pc := 19) dX4_readUnit_19 ?_
    refine jm_aload_n (pc := 20) 1 dX4_readUnit_20 rfl ?_
    refine jm_getr (pc := 21) 0 dX4_readUnit_21 fX4_17 (cC63 hg) rfl ?_
    refine jm_callvi (pc := 24) (As := []) (st := [_, _]) iX7_number dX4_readUnit_24 mX4_83 (cC1 hg) ⟨_, rfl, rfl⟩ rfl rfl (Nat.le_of_ble_eq_true rfl) h (fun z11 m10 hz12 h hm13 => ?_)
    refine jm_callvi (pc := 27) (As := [_, _]) (st := []) iX3_addOrder dX4_readUnit_27 mX4_66 (cC49 hg) ⟨_, rfl, rfl⟩ rfl rfl (Nat.le_of_ble_eq_true rfl) h (fun z15 m14 hz16 h hm17 => ?_)
    refine jm_pop (pc := 30) _ dX4_readUnit_30 rfl ?_
    refine jm_goto (pc := 31) 73 dX4_readUnit_31 rfl ?_
    exact jm_sub [1] rfl h
theorem dX7_isNumberWithin_0 : decode cX7_isNumberWithin 0 = .ok (.aload_n 0, 1) := by decide +kernel
theorem dX7_isNumberWithin_1 : decode cX7_isNumberWithin 1 = .ok (.getfield 25, 3) := by decide +kernel
theorem dX7_isNumberWithin_4 : decode cX7_isNumberWithin 4 = .ok (.aload_n 0, 1) := by decide +kernel
theorem dX7_isNumberWithin_5 : decode cX7_isNumberWithin 5 = .ok (.getfield 37, 3) := by decide +kernel
theorem dX7_isNumberWithin_8 : decode cX7_isNumberWithin 8 = .ok (.iaload, 1) := by decide +kernel
theorem dX7_isNumberWithin_9 : decode cX7_isNumberWithin 9 = .ok (.sipush 256, 3) := by decide +kernel
theorem dX7_isNumberWithin_12 : decode cX7_isNumberWithin 12 = .ok (.if_icmp .eq 9, 3) := by decide +kernel
theorem dX7_isNumberWithin_15 : decode cX7_isNumberWithin 15 = .ok (.aload_n 0, 1) := by decide +kernel
theorem dX7_isNumberWithin_16 : decode cX7_isNumberWithin 16 = .ok (.iconst 1, 1) := by decide +kernel
theorem dX7_isNumberWithin_17 : decode cX7_isNumberWithin 17 = .ok (.invokevirtual 40, 3) := by decide +kernel
theorem dX7_isNumberWithin_20 : decode cX7_isNumberWithin 20 = .ok (.ireturn, 1) := by decide +kernel
theorem dX7_isNumberWithin_21 : decode cX7_isNumberWithin 21 = .ok (.aload_n 0, 1) := by decide +kernel
theorem dX7_isNumberWithin_22 : decode cX7_isNumberWithin 22 = .ok (.invokevirtual 47, 3) := by decide +kernel
theorem dX7_isNumberWithin_25 : decode cX7_isNumberWithin 25 = .ok (.iload_n 1, 1) := by decide +kernel
theorem dX7_isNumberWithin_26 : decode cX7_isNumberWithin 26 = .ok (.iload_n 2, 1) := by decide +kernel
theorem dX7_isNumberWithin_27 : decode cX7_isNumberWithin 27 = .ok (.invokestatic 51, 3) := by decide +kernel
theorem dX7_isNumberWithin_30 : decode cX7_isNumberWithin 30 = .ok (.ifCond .ne 11, 3) := by decide +kernel
theorem dX7_isNumberWithin_33 : decode cX7_isNumberWithin 33 = .ok (.aload_n 0, 1) := by decide +kernel
theorem dX7_isNumberWithin_34 : decode cX7_isNumberWithin 34 = .ok (.iconst 2, 1) := by decide +kernel
theorem dX7_isNumberWithin_35 : decode cX7_isNumberWithin 35 = .ok (.invokevirtual 40, 3) := by decide +kernel
theorem dX7_isNumberWithin_38 : decode cX7_isNumberWithin 38 = .ok (.ifCond .eq 7, 3) := by decide +kernel
theorem dX7_isNumberWithin_41 : decode cX7_isNumberWithin 41 = .ok (.iconst 1, 1) := by decide +kernel
theorem dX7_isNumberWithin_42 : decode cX7_isNumberWithin 42 = .ok (.goto 4, 3) := by decide +kernel
theorem dX7_isNumberWithin_45 : decode cX7_isNumberWithin 45 = .ok (.iconst 0, 1) := by decide +kernel
theorem dX7_isNumberWithin_46 : decode cX7_isNumberWithin 46 = .ok (.ireturn, 1) := by decide +kernel
theorem eX7_isNumberWithin {l : Launch} {g : jm_G} {d : Nat} {v1 v2 : Int} (hg : jm_HC g) {mu : jm_M} {Q : Option Value → jm_M → Prop} (h : (0 ≤ (mu.1 1 8) ∧ (mu.1 1 8) < 401) ∧ ((mu.1 3 (mu.1 1 8)) = 256 → jm_R l g (d + 1) iX7_number [.ref 1] mu (jm_qi fun z3 m2 => jm_rg v1 ∧ jm_rg v2 ∧ (v1 ≤ z3 ∧ z3 ≤ v2 → Q (some (jm_i 1)) m2) ∧ (¬ (v1 ≤ z3 ∧ z3 ≤ v2) → (0 ≤ ((jm_wr m2 1 2 2).1 1 8) ∧ ((jm_wr m2 1 2 2).1 1 8) < 401) ∧ ∀ m9, m9 = (jm_wr (jm_wr m2 1 2 2) 1 3 ((jm_wr m2 1 2 2).1 4 ((jm_wr m2 1 2 2).1 1 8))) → Q (some (jm_i 0)) m9))) ∧ (¬ (mu.1 3 (mu.1 1 8)) = 256 → (0 ≤ ((jm_wr mu 1 2 1).1 1 8) ∧ ((jm_wr mu 1 2 1).1 1 8) < 401) ∧ ∀ m12, m12 = (jm_wr (jm_wr mu 1 2 1) 1 3 ((jm_wr mu 1 2 1).1 4 ((jm_wr mu 1 2 1).1 1 8))) → Q (some (jm_i 0)) m12)) : jm_R l g (d + 2) iX7_isNumberWithin [.ref 1, jm_i v1, jm_i v2] mu Q := by
  refine jm_enter [(0, .ref 1), (1, jm_i v1), (2, jm_i v2)] (by decide) (Nat.le_of_ble_eq_true rfl) rfl ?_
  refine jm_mrI (fun hm0 => ?_)
  refine jm_aload_n (pc := 0) 0 dX7_isNumberWithin_0 rfl ?_
  refine jm_getr (pc := 1) 4 dX7_isNumberWithin_1 fX7_25 (cC1 hg) rfl ?_
  refine jm_aload_n (pc := 4) 0 dX7_isNumberWithin_4 rfl ?_
  refine jm_geti (pc := 5) 8 dX7_isNumberWithin_5 fX7_37 (cC1 hg) rfl ?_
  have hg1 := h.1
  have h := h.2
  refine jm_iald (pc := 8) dX7_isNumberWithin_8 (cC3 hg) (by decide) hg1.1 hg1.2 ?_
  refine jm_sipush (pc := 9) dX7_isNumberWithin_9 (by decide) ?_
  refine jm_icmp_eq (pc := 12) 21 dX7_isNumberWithin_12 rfl (hm0 _ _) ⟨by decide, by decide⟩ (fun q => ?_) (fun q => ?_)
  · have h := h.1 q
    refine jm_aload_n (pc := 21) 0 dX7_isNumberWithin_21 rfl ?_
    refine jm_callvi (pc := 22) (As := []) (st := []) iX7_number dX7_isNumberWithin_22 mX7_47 (cC1 hg) ⟨_, rfl, rfl⟩ rfl rfl (Nat.le_of_ble_eq_true rfl) h (fun z3 m2 hz4 h hm5 => ?_)
    refine jm_iload_n (pc := 25) 1 dX7_isNumberWithin_25 rfl ?_
    refine jm_iload_n (pc := 26) 2 dX7_isNumberWithin_26 rfl ?_
    have hg6 := h.1
    have h := h.2
    have hg7 := h.1
    have h := h.2
    refine jm_inlni (pc := 27) (As := [_, _, _]) (st := []) iX11_isWithin dX7_isNumberWithin_27 (mX7_51 hg) rfl rfl (Nat.le_of_ble_eq_true rfl) (pX11_isWithin hg hz4 hg6 hg7 (fun q => jm_kIi ?_) (fun q => jm_kIi ?_))
    · have h := h.1 q
      refine jm_if_ne (pc := 30) 41 dX7_isNumberWithin_30 rfl ⟨by decide, by decide⟩ (fun q => ?_) (fun q => absurd q (by decide))
      refine jm_iconst (pc := 41) dX7_isNumberWithin_41 ?_
      refine jm_goto (pc := 42) 46 dX7_isNumberWithin_42 rfl ?_
      exact jm_zret (pc := 46) dX7_isNumberWithin_46 rfl (Or.inr rfl) h
    · have h := h.2 q
      refine jm_if_ne (pc := 30) 41 dX7_isNumberWithin_30 rfl ⟨by decide, by decide⟩ (fun q => absurd q (by decide)) (fun q => ?_)
      refine jm_aload_n (pc := 33) 0 dX7_isNumberWithin_33 rfl ?_
      refine jm_iconst (pc := 34) dX7_isNumberWithin_34 ?_
      have hg8 := h.1
      have h := h.2
      refine jm_inlvi (pc := 35) (As := [_]) (st := []) iX7_refuse dX7_isNumberWithin_35 mX7_40 (cC1 hg) ⟨_, rfl, rfl⟩ rfl rfl (Nat.le_of_ble_eq_true rfl) (pX7_refuse hg ⟨by decide, by decide⟩ hg8 (jm_kIi ?_))
      have h := h _ rfl
      refine jm_mrI (fun hm10 => ?_)
      refine jm_if_eq (pc := 38) 45 dX7_isNumberWithin_38 rfl ⟨by decide, by decide⟩ (fun q => ?_) (fun q => absurd q (by decide))
      refine jm_iconst (pc := 45) dX7_isNumberWithin_45 ?_
      exact jm_zret (pc := 46) dX7_isNumberWithin_46 rfl (Or.inl rfl) h
  · have h := h.2 q
    refine jm_aload_n (pc := 15) 0 dX7_isNumberWithin_15 rfl ?_
    refine jm_iconst (pc := 16) dX7_isNumberWithin_16 ?_
    have hg11 := h.1
    have h := h.2
    refine jm_inlvi (pc := 17) (As := [_]) (st := []) iX7_refuse dX7_isNumberWithin_17 mX7_40 (cC1 hg) ⟨_, rfl, rfl⟩ rfl rfl (Nat.le_of_ble_eq_true rfl) (pX7_refuse hg ⟨by decide, by decide⟩ hg11 (jm_kIi ?_))
    have h := h _ rfl
    refine jm_mrI (fun hm13 => ?_)
    exact jm_zret (pc := 20) dX7_isNumberWithin_20 rfl (Or.inl rfl) h
theorem dX4_readProduct_0 : decode cX4_readProduct 0 = .ok (.aload_n 0, 1) := by decide +kernel
theorem dX4_readProduct_1 : decode cX4_readProduct 1 = .ok (.invokevirtual 77, 3) := by decide +kernel
theorem dX4_readProduct_4 : decode cX4_readProduct 4 = .ok (.ifCond .ne 5, 3) := by decide +kernel
theorem dX4_readProduct_7 : decode cX4_readProduct 7 = .ok (.iconst 0, 1) := by decide +kernel
theorem dX4_readProduct_8 : decode cX4_readProduct 8 = .ok (.ireturn, 1) := by decide +kernel
theorem dX4_readProduct_9 : decode cX4_readProduct 9 = .ok (.iconst 0, 1) := by decide +kernel
theorem dX4_readProduct_10 : decode cX4_readProduct 10 = .ok (.istore_n 1, 1) := by decide +kernel
theorem dX4_readProduct_11 : decode cX4_readProduct 11 = .ok (.iload_n 1, 1) := by decide +kernel
theorem dX4_readProduct_12 : decode cX4_readProduct 12 = .ok (.sipush 400, 3) := by decide +kernel
theorem dX4_readProduct_15 : decode cX4_readProduct 15 = .ok (.if_icmp .ge 112, 3) := by decide +kernel
theorem dX4_readProduct_18 : decode cX4_readProduct 18 = .ok (.aload_n 0, 1) := by decide +kernel
theorem dX4_readProduct_19 : decode cX4_readProduct 19 = .ok (.getfield 17, 3) := by decide +kernel
theorem dX4_readProduct_22 : decode cX4_readProduct 22 = .ok (.invokevirtual 28, 3) := by decide +kernel
theorem dX4_readProduct_25 : decode cX4_readProduct 25 = .ok (.istore_n 2, 1) := by decide +kernel
theorem dX4_readProduct_26 : decode cX4_readProduct 26 = .ok (.iload_n 2, 1) := by decide +kernel
theorem dX4_readProduct_27 : decode cX4_readProduct 27 = .ok (.bipush 42, 2) := by decide +kernel
theorem dX4_readProduct_29 : decode cX4_readProduct 29 = .ok (.if_icmp .eq 11, 3) := by decide +kernel
theorem dX4_readProduct_32 : decode cX4_readProduct 32 = .ok (.iload_n 2, 1) := by decide +kernel
theorem dX4_readProduct_33 : decode cX4_readProduct 33 = .ok (.bipush 47, 2) := by decide +kernel
theorem dX4_readProduct_35 : decode cX4_readProduct 35 = .ok (.if_icmp .eq 5, 3) := by decide +kernel
theorem dX4_readProduct_38 : decode cX4_readProduct 38 = .ok (.iconst 1, 1) := by decide +kernel
theorem dX4_readProduct_39 : decode cX4_readProduct 39 = .ok (.ireturn, 1) := by decide +kernel
theorem dX4_readProduct_40 : decode cX4_readProduct 40 = .ok (.aload_n 0, 1) := by decide +kernel
theorem dX4_readProduct_41 : decode cX4_readProduct 41 = .ok (.getfield 17, 3) := by decide +kernel
theorem dX4_readProduct_44 : decode cX4_readProduct 44 = .ok (.invokevirtual 40, 3) := by decide +kernel
theorem dX4_readProduct_47 : decode cX4_readProduct 47 = .ok (.iload_n 2, 1) := by decide +kernel
theorem dX4_readProduct_48 : decode cX4_readProduct 48 = .ok (.bipush 42, 2) := by decide +kernel
theorem dX4_readProduct_50 : decode cX4_readProduct 50 = .ok (.if_icmp .ne 13, 3) := by decide +kernel
theorem dX4_readProduct_53 : decode cX4_readProduct 53 = .ok (.aload_n 0, 1) := by decide +kernel
theorem dX4_readProduct_54 : decode cX4_readProduct 54 = .ok (.invokevirtual 77, 3) := by decide +kernel
theorem dX4_readProduct_57 : decode cX4_readProduct 57 = .ok (.ifCond .ne 22, 3) := by decide +kernel
theorem dX4_readProduct_60 : decode cX4_readProduct 60 = .ok (.goto 17, 3) := by decide +kernel
theorem dX4_readProduct_63 : decode cX4_readProduct 63 = .ok (.aload_n 0, 1) := by decide +kernel
theorem dX4_readProduct_64 : decode cX4_readProduct 64 = .ok (.getfield 17, 3) := by decide +kernel
theorem dX4_readProduct_67 : decode cX4_readProduct 67 = .ok (.iconst 1, 1) := by decide +kernel
theorem dX4_readProduct_68 : decode cX4_readProduct 68 = .ok (.sipush 9999, 3) := by decide +kernel
theorem dX4_readProduct_71 : decode cX4_readProduct 71 = .ok (.invokevirtual 80, 3) := by decide +kernel
theorem dX4_readProduct_74 : decode cX4_readProduct 74 = .ok (.ifCond .ne 5, 3) := by decide +kernel
theorem dX4_readProduct_77 : decode cX4_readProduct 77 = .ok (.iconst 0, 1) := by decide +kernel
theorem dX4_readProduct_78 : decode cX4_readProduct 78 = .ok (.ireturn, 1) := by decide +kernel
theorem dX4_readProduct_79 : decode cX4_readProduct 79 = .ok (.iload_n 2, 1) := by decide +kernel
theorem dX4_readProduct_80 : decode cX4_readProduct 80 = .ok (.bipush 42, 2) := by decide +kernel
theorem dX4_readProduct_82 : decode cX4_readProduct 82 = .ok (.if_icmp .ne 16, 3) := by decide +kernel
theorem dX4_readProduct_85 : decode cX4_readProduct 85 = .ok (.aload_n 0, 1) := by decide +kernel
theorem dX4_readProduct_86 : decode cX4_readProduct 86 = .ok (.getfield 21, 3) := by decide +kernel
theorem dX4_readProduct_89 : decode cX4_readProduct 89 = .ok (.iconst 4, 1) := by decide +kernel
theorem dX4_readProduct_90 : decode cX4_readProduct 90 = .ok (.iconst 0, 1) := by decide +kernel
theorem dX4_readProduct_91 : decode cX4_readProduct 91 = .ok (.invokevirtual 66, 3) := by decide +kernel
theorem dX4_readProduct_94 : decode cX4_readProduct 94 = .ok (.pop, 1) := by decide +kernel
theorem dX4_readProduct_95 : decode cX4_readProduct 95 = .ok (.goto 26, 3) := by decide +kernel
theorem dX4_readProduct_98 : decode cX4_readProduct 98 = .ok (.aload_n 0, 1) := by decide +kernel
theorem dX4_readProduct_99 : decode cX4_readProduct 99 = .ok (.getfield 21, 3) := by decide +kernel
theorem dX4_readProduct_102 : decode cX4_readProduct 102 = .ok (.iconst 2, 1) := by decide +kernel
theorem dX4_readProduct_103 : decode cX4_readProduct 103 = .ok (.aload_n 0, 1) := by decide +kernel
theorem dX4_readProduct_104 : decode cX4_readProduct 104 = .ok (.getfield 17, 3) := by decide +kernel
theorem dX4_readProduct_107 : decode cX4_readProduct 107 = .ok (.invokevirtual 83, 3) := by decide +kernel
theorem dX4_readProduct_110 : decode cX4_readProduct 110 = .ok (.invokevirtual 66, 3) := by decide +kernel
theorem dX4_readProduct_113 : decode cX4_readProduct 113 = .ok (.pop, 1) := by decide +kernel
theorem dX4_readProduct_114 : decode cX4_readProduct 114 = .ok (.aload_n 0, 1) := by decide +kernel
theorem dX4_readProduct_115 : decode cX4_readProduct 115 = .ok (.getfield 17, 3) := by decide +kernel
theorem dX4_readProduct_118 : decode cX4_readProduct 118 = .ok (.invokevirtual 40, 3) := by decide +kernel
theorem dX4_readProduct_121 : decode cX4_readProduct 121 = .ok (.iinc 1 1, 3) := by decide +kernel
theorem dX4_readProduct_124 : decode cX4_readProduct 124 = .ok (.goto (-113), 3) := by decide +kernel
theorem dX4_readProduct_127 : decode cX4_readProduct 127 = .ok (.iconst 0, 1) := by decide +kernel
theorem dX4_readProduct_128 : decode cX4_readProduct 128 = .ok (.ireturn, 1) := by decide +kernel
theorem bX4_readProduct_79 {l : Launch} {g : jm_G} {d : Nat} {v1 v2 : Int} (hg : jm_HC g) {mu : jm_M} {Q : Option Value → jm_M → Prop} (h : jm_rg v2 ∧ (¬ v2 = 42 → jm_R l g (d + 1) iX7_number [.ref 1] mu (jm_qi fun z3 m2 => jm_R l g (d + 1) iX3_addOrder [.ref 49, jm_i 2, jm_i z3] m2 (jm_qi fun z7 m6 => jm_R l g (d + 1) iX7_skip [.ref 1] m6 (jm_qv fun m10 => jm_V l g (d + 2) iX4_readProduct 11 [(0, .ref 63), (1, jm_i (v1 + 1))] [] m10 Q)))) ∧ (v2 = 42 → jm_R l g (d + 1) iX3_addOrder [.ref 49, jm_i 4, jm_i 0] mu (jm_qi fun z15 m14 => jm_V l g (d + 2) iX4_readProduct 11 [(0, .ref 63), (1, jm_i (v1 + 1))] [] m14 Q))) : jm_V l g (d + 2) iX4_readProduct 79 [(0, .ref 63), (1, jm_i v1), (2, jm_i v2)] [] mu Q := by
  refine jm_mrI (fun hm0 => ?_)
  refine jm_iload_n (pc := 79) 2 dX4_readProduct_79 rfl ?_
  refine jm_bipush (pc := 80) dX4_readProduct_80 (by decide) ?_
  have hg1 := h.1
  have h := h.2
  refine jm_icmp_ne (pc := 82) 98 dX4_readProduct_82 rfl hg1 ⟨by decide, by decide⟩ (fun q => ?_) (fun q => ?_)
  · have h := h.1 q
    refine jm_aload_n (pc := 98) 0 dX4_readProduct_98 rfl ?_
    refine jm_getr (pc := 99) 1 dX4_readProduct_99 fX4_21 (cC63 hg) rfl ?_
    refine jm_iconst (pc := 102) dX4_readProduct_102 ?_
    refine jm_aload_n (pc := 103) 0 dX4_readProduct_103 rfl ?_
    refine jm_getr (pc := 104) 0 dX4_readProduct_104 fX4_17 (cC63 hg) rfl ?_
    refine jm_callvi (pc := 107) (As := []) (st := [_, _]) iX7_number dX4_readProduct_107 mX4_83 (cC1 hg) ⟨_, rfl, rfl⟩ rfl rfl (Nat.le_of_ble_eq_true rfl) h (fun z3 m2 hz4 h hm5 => ?_)
    refine jm_callvi (pc := 110) (As := [_, _]) (st := []) iX3_addOrder dX4_readProduct_110 mX4_66 (cC49 hg) ⟨_, rfl, rfl⟩ rfl rfl (Nat.le_of_ble_eq_true rfl) h (fun z7 m6 hz8 h hm9 => ?_)
    refine jm_pop (pc := 113) _ dX4_readProduct_113 rfl ?_
    refine jm_aload_n (pc := 114) 0 dX4_readProduct_114 rfl ?_
    refine jm_getr (pc := 115) 0 dX4_readProduct_115 fX4_17 (cC63 hg) rfl ?_
    refine jm_callvv (pc := 118) (As := []) (st := []) iX7_skip dX4_readProduct_118 mX4_40 (cC1 hg) ⟨_, rfl, rfl⟩ rfl rfl (Nat.le_of_ble_eq_true rfl) h (fun m10 h hm13 => ?_)
    refine jm_iinc (pc := 121) (lv' := [(1, _), (0, _), (2, _)]) 1 dX4_readProduct_121 rfl (by decide) rfl ?_
    refine jm_goto (pc := 124) 11 dX4_readProduct_124 rfl ?_
    exact jm_sub [1, 0] rfl h
  · have h := h.2 q
    refine jm_aload_n (pc := 85) 0 dX4_readProduct_85 rfl ?_
    refine jm_getr (pc := 86) 1 dX4_readProduct_86 fX4_21 (cC63 hg) rfl ?_
    refine jm_iconst (pc := 89) dX4_readProduct_89 ?_
    refine jm_iconst (pc := 90) dX4_readProduct_90 ?_
    refine jm_callvi (pc := 91) (As := [_, _]) (st := []) iX3_addOrder dX4_readProduct_91 mX4_66 (cC49 hg) ⟨_, rfl, rfl⟩ rfl rfl (Nat.le_of_ble_eq_true rfl) h (fun z15 m14 hz16 h hm17 => ?_)
    refine jm_pop (pc := 94) _ dX4_readProduct_94 rfl ?_
    refine jm_goto (pc := 95) 121 dX4_readProduct_95 rfl ?_
    refine jm_iinc (pc := 121) (lv' := [(1, _), (0, _), (2, _)]) 1 dX4_readProduct_121 rfl (by decide) rfl ?_
    refine jm_goto (pc := 124) 11 dX4_readProduct_124 rfl ?_
    exact jm_sub [1, 0] rfl h
theorem bX4_readProduct_40 {l : Launch} {g : jm_G} {d : Nat} {v1 v2 : Int} (hg : jm_HC g) {mu : jm_M} {Q : Option Value → jm_M → Prop} (h : jm_R l g (d + 1) iX7_skip [.ref 1] mu (jm_qv fun m1 => jm_rg v2 ∧ (¬ v2 = 42 → jm_R l g (d + 1) iX7_isNumberWithin [.ref 1, jm_i 1, jm_i 9999] m1 (jm_qi fun z7 m6 => (¬ z7 = 0 → jm_V l g (d + 2) iX4_readProduct 79 [(0, .ref 63), (1, jm_i v1), (2, jm_i v2)] [] m6 Q) ∧ (z7 = 0 → Q (some (jm_i 0)) m6))) ∧ (v2 = 42 → jm_R l g (d + 1) iX4_readUnit [.ref 63] m1 (jm_qi fun z11 m10 => (¬ z11 = 0 → jm_V l g (d + 2) iX4_readProduct 79 [(0, .ref 63), (1, jm_i v1), (2, jm_i v2)] [] m10 Q) ∧ (z11 = 0 → Q (some (jm_i 0)) m10))))) : jm_V l g (d + 2) iX4_readProduct 40 [(0, .ref 63), (1, jm_i v1), (2, jm_i v2)] [] mu Q := by
  refine jm_mrI (fun hm0 => ?_)
  refine jm_aload_n (pc := 40) 0 dX4_readProduct_40 rfl ?_
  refine jm_getr (pc := 41) 0 dX4_readProduct_41 fX4_17 (cC63 hg) rfl ?_
  refine jm_callvv (pc := 44) (As := []) (st := []) iX7_skip dX4_readProduct_44 mX4_40 (cC1 hg) ⟨_, rfl, rfl⟩ rfl rfl (Nat.le_of_ble_eq_true rfl) h (fun m1 h hm4 => ?_)
  refine jm_iload_n (pc := 47) 2 dX4_readProduct_47 rfl ?_
  refine jm_bipush (pc := 48) dX4_readProduct_48 (by decide) ?_
  have hg5 := h.1
  have h := h.2
  refine jm_icmp_ne (pc := 50) 63 dX4_readProduct_50 rfl hg5 ⟨by decide, by decide⟩ (fun q => ?_) (fun q => ?_)
  · have h := h.1 q
    refine jm_aload_n (pc := 63) 0 dX4_readProduct_63 rfl ?_
    refine jm_getr (pc := 64) 0 dX4_readProduct_64 fX4_17 (cC63 hg) rfl ?_
    refine jm_iconst (pc := 67) dX4_readProduct_67 ?_
    refine jm_sipush (pc := 68) dX4_readProduct_68 (by decide) ?_
    refine jm_callvi (pc := 71) (As := [_, _]) (st := []) iX7_isNumberWithin dX4_readProduct_71 mX4_80 (cC1 hg) ⟨_, rfl, rfl⟩ rfl rfl (Nat.le_of_ble_eq_true rfl) h (fun z7 m6 hz8 h hm9 => ?_)
    refine jm_if_ne (pc := 74) 79 dX4_readProduct_74 rfl hz8 (fun q => ?_) (fun q => ?_)
    · have h := h.1 q
      exact jm_sub [0, 1, 2] rfl h
    · have h := h.2 q
      refine jm_iconst (pc := 77) dX4_readProduct_77 ?_
      exact jm_zret (pc := 78) dX4_readProduct_78 rfl (Or.inl rfl) h
  · have h := h.2 q
    refine jm_aload_n (pc := 53) 0 dX4_readProduct_53 rfl ?_
    refine jm_callvi (pc := 54) (As := []) (st := []) iX4_readUnit dX4_readProduct_54 mX4_77 (cC63 hg) ⟨_, rfl, rfl⟩ rfl rfl (Nat.le_of_ble_eq_true rfl) h (fun z11 m10 hz12 h hm13 => ?_)
    refine jm_if_ne (pc := 57) 79 dX4_readProduct_57 rfl hz12 (fun q => ?_) (fun q => ?_)
    · have h := h.1 q
      exact jm_sub [0, 1, 2] rfl h
    · have h := h.2 q
      refine jm_goto (pc := 60) 77 dX4_readProduct_60 rfl ?_
      refine jm_iconst (pc := 77) dX4_readProduct_77 ?_
      exact jm_zret (pc := 78) dX4_readProduct_78 rfl (Or.inl rfl) h
theorem bX4_readProduct_11 {l : Launch} {g : jm_G} {d : Nat} {v1 : Int} (hg : jm_HC g) {mu : jm_M} {Q : Option Value → jm_M → Prop} (h : jm_rg v1 ∧ (400 ≤ v1 → Q (some (jm_i 0)) mu) ∧ (v1 < 400 → (0 ≤ (mu.1 1 8) ∧ (mu.1 1 8) < 401) ∧ ∀ x3, x3 = (mu.1 3 (mu.1 1 8)) → (x3 = 42 → jm_V l g (d + 2) iX4_readProduct 40 [(0, .ref 63), (1, jm_i v1), (2, jm_i x3)] [] mu Q) ∧ (¬ x3 = 42 → (x3 = 47 → jm_V l g (d + 2) iX4_readProduct 40 [(0, .ref 63), (1, jm_i v1), (2, jm_i x3)] [] mu Q) ∧ (¬ x3 = 47 → Q (some (jm_i 1)) mu)))) : jm_V l g (d + 2) iX4_readProduct 11 [(0, .ref 63), (1, jm_i v1)] [] mu Q := by
  refine jm_mrI (fun hm0 => ?_)
  refine jm_iload_n (pc := 11) 1 dX4_readProduct_11 rfl ?_
  refine jm_sipush (pc := 12) dX4_readProduct_12 (by decide) ?_
  have hg1 := h.1
  have h := h.2
  refine jm_icmp_ge (pc := 15) 127 dX4_readProduct_15 rfl hg1 ⟨by decide, by decide⟩ (fun q => ?_) (fun q => ?_)
  · have h := h.1 q
    refine jm_iconst (pc := 127) dX4_readProduct_127 ?_
    exact jm_zret (pc := 128) dX4_readProduct_128 rfl (Or.inl rfl) h
  · have h := h.2 q
    refine jm_aload_n (pc := 18) 0 dX4_readProduct_18 rfl ?_
    refine jm_getr (pc := 19) 0 dX4_readProduct_19 fX4_17 (cC63 hg) rfl ?_
    have hg2 := h.1
    have h := h.2
    refine jm_inlvi (pc := 22) (As := []) (st := []) iX7_kind dX4_readProduct_22 mX4_28 (cC1 hg) ⟨_, rfl, rfl⟩ rfl rfl (Nat.le_of_ble_eq_true rfl) (pX7_kind hg hg2 (jm_kIi ?_))
    have h := h _ rfl
    refine jm_istore_n (pc := 25) (lv' := [(2, _), (0, _), (1, _)]) dX4_readProduct_25 (by decide) rfl ?_
    refine jm_iload_n (pc := 26) 0 dX4_readProduct_26 rfl ?_
    refine jm_bipush (pc := 27) dX4_readProduct_27 (by decide) ?_
    refine jm_icmp_eq (pc := 29) 40 dX4_readProduct_29 rfl (hm0 _ _) ⟨by decide, by decide⟩ (fun q => ?_) (fun q => ?_)
    · have h := h.1 q
      exact jm_sub [1, 2, 0] rfl h
    · have h := h.2 q
      refine jm_iload_n (pc := 32) 0 dX4_readProduct_32 rfl ?_
      refine jm_bipush (pc := 33) dX4_readProduct_33 (by decide) ?_
      refine jm_icmp_eq (pc := 35) 40 dX4_readProduct_35 rfl (hm0 _ _) ⟨by decide, by decide⟩ (fun q => ?_) (fun q => ?_)
      · have h := h.1 q
        exact jm_sub [1, 2, 0] rfl h
      · have h := h.2 q
        refine jm_iconst (pc := 38) dX4_readProduct_38 ?_
        exact jm_zret (pc := 39) dX4_readProduct_39 rfl (Or.inr rfl) h
theorem eX4_readProduct {l : Launch} {g : jm_G} {d : Nat} (hg : jm_HC g) {mu : jm_M} {Q : Option Value → jm_M → Prop} (h : jm_R l g (d + 1) iX4_readUnit [.ref 63] mu (jm_qi fun z2 m1 => (¬ z2 = 0 → jm_V l g (d + 2) iX4_readProduct 11 [(0, .ref 63), (1, jm_i 0)] [] m1 Q) ∧ (z2 = 0 → Q (some (jm_i 0)) m1))) : jm_R l g (d + 2) iX4_readProduct [.ref 63] mu Q := by
  refine jm_enter [(0, .ref 63)] (by decide) (Nat.le_of_ble_eq_true rfl) rfl ?_
  refine jm_mrI (fun hm0 => ?_)
  refine jm_aload_n (pc := 0) 0 dX4_readProduct_0 rfl ?_
  refine jm_callvi (pc := 1) (As := []) (st := []) iX4_readUnit dX4_readProduct_1 mX4_77 (cC63 hg) ⟨_, rfl, rfl⟩ rfl rfl (Nat.le_of_ble_eq_true rfl) h (fun z2 m1 hz3 h hm4 => ?_)
  refine jm_if_ne (pc := 4) 9 dX4_readProduct_4 rfl hz3 (fun q => ?_) (fun q => ?_)
  · have h := h.1 q
    refine jm_iconst (pc := 9) dX4_readProduct_9 ?_
    refine jm_istore_n (pc := 10) (lv' := [(1, _), (0, _)]) dX4_readProduct_10 (by decide) rfl ?_
    exact jm_sub [1, 0] rfl h
  · have h := h.2 q
    refine jm_iconst (pc := 7) dX4_readProduct_7 ?_
    exact jm_zret (pc := 8) dX4_readProduct_8 rfl (Or.inl rfl) h
